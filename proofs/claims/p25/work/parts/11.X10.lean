theorem dX10_init_0 : decode cX10_init 0 = .ok (.aload_n 0, 1) := by decide +kernel
theorem dX10_init_1 : decode cX10_init 1 = .ok (.invokespecial 3, 3) := by decide +kernel
theorem dX10_init_4 : decode cX10_init 4 = .ok (.aload_n 0, 1) := by decide +kernel
theorem dX10_init_5 : decode cX10_init 5 = .ok (.bipush 60, 2) := by decide +kernel
theorem dX10_init_7 : decode cX10_init 7 = .ok (.newarray .int, 2) := by decide +kernel
theorem dX10_init_9 : decode cX10_init 9 = .ok (.putfield 9, 3) := by decide +kernel
theorem dX10_init_12 : decode cX10_init 12 = .ok (.aload_n 0, 1) := by decide +kernel
theorem dX10_init_13 : decode cX10_init 13 = .ok (.bipush 60, 2) := by decide +kernel
theorem dX10_init_15 : decode cX10_init 15 = .ok (.newarray .int, 2) := by decide +kernel
theorem dX10_init_17 : decode cX10_init 17 = .ok (.putfield 15, 3) := by decide +kernel
theorem dX10_init_20 : decode cX10_init 20 = .ok (.aload_n 0, 1) := by decide +kernel
theorem dX10_init_21 : decode cX10_init 21 = .ok (.bipush 60, 2) := by decide +kernel
theorem dX10_init_23 : decode cX10_init 23 = .ok (.newarray .int, 2) := by decide +kernel
theorem dX10_init_25 : decode cX10_init 25 = .ok (.putfield 18, 3) := by decide +kernel
theorem dX10_init_28 : decode cX10_init 28 = .ok (.aload_n 0, 1) := by decide +kernel
theorem dX10_init_29 : decode cX10_init 29 = .ok (.sipush 3600, 3) := by decide +kernel
theorem dX10_init_32 : decode cX10_init 32 = .ok (.newarray .int, 2) := by decide +kernel
theorem dX10_init_34 : decode cX10_init 34 = .ok (.putfield 21, 3) := by decide +kernel
theorem dX10_init_37 : decode cX10_init 37 = .ok (.aload_n 0, 1) := by decide +kernel
theorem dX10_init_38 : decode cX10_init 38 = .ok (.sipush 240, 3) := by decide +kernel
theorem dX10_init_41 : decode cX10_init 41 = .ok (.newarray .int, 2) := by decide +kernel
theorem dX10_init_43 : decode cX10_init 43 = .ok (.putfield 24, 3) := by decide +kernel
theorem dX10_init_46 : decode cX10_init 46 = .ok (.aload_n 0, 1) := by decide +kernel
theorem dX10_init_47 : decode cX10_init 47 = .ok (.iconst 2, 1) := by decide +kernel
theorem dX10_init_48 : decode cX10_init 48 = .ok (.newarray .int, 2) := by decide +kernel
theorem dX10_init_50 : decode cX10_init 50 = .ok (.putfield 27, 3) := by decide +kernel
theorem dX10_init_53 : decode cX10_init 53 = .ok (.aload_n 0, 1) := by decide +kernel
theorem dX10_init_54 : decode cX10_init 54 = .ok (.sipush 256, 3) := by decide +kernel
theorem dX10_init_57 : decode cX10_init 57 = .ok (.newarray .int, 2) := by decide +kernel
theorem dX10_init_59 : decode cX10_init 59 = .ok (.putfield 30, 3) := by decide +kernel
theorem dX10_init_62 : decode cX10_init 62 = .ok (.aload_n 0, 1) := by decide +kernel
theorem dX10_init_63 : decode cX10_init 63 = .ok (.iconst 0, 1) := by decide +kernel
theorem dX10_init_64 : decode cX10_init 64 = .ok (.putfield 33, 3) := by decide +kernel
theorem dX10_init_67 : decode cX10_init 67 = .ok (.aload_n 0, 1) := by decide +kernel
theorem dX10_init_68 : decode cX10_init 68 = .ok (.iconst 0, 1) := by decide +kernel
theorem dX10_init_69 : decode cX10_init 69 = .ok (.putfield 37, 3) := by decide +kernel
theorem dX10_init_72 : decode cX10_init 72 = .ok (.aload_n 0, 1) := by decide +kernel
theorem dX10_init_73 : decode cX10_init 73 = .ok (.iconst 0, 1) := by decide +kernel
theorem dX10_init_74 : decode cX10_init 74 = .ok (.putfield 40, 3) := by decide +kernel
theorem dX10_init_77 : decode cX10_init 77 = .ok (.aload_n 0, 1) := by decide +kernel
theorem dX10_init_78 : decode cX10_init 78 = .ok (.aload_n 1, 1) := by decide +kernel
theorem dX10_init_79 : decode cX10_init 79 = .ok (.putfield 44, 3) := by decide +kernel
theorem dX10_init_82 : decode cX10_init 82 = .ok (.return_, 1) := by decide +kernel
theorem dX10_areSpent_0 : decode cX10_areSpent 0 = .ok (.aload_n 0, 1) := by decide +kernel
theorem dX10_areSpent_1 : decode cX10_areSpent 1 = .ok (.getfield 40, 3) := by decide +kernel
theorem dX10_areSpent_4 : decode cX10_areSpent 4 = .ok (.ireturn, 1) := by decide +kernel
theorem dX10_size_0 : decode cX10_size 0 = .ok (.aload_n 0, 1) := by decide +kernel
theorem dX10_size_1 : decode cX10_size 1 = .ok (.getfield 33, 3) := by decide +kernel
theorem dX10_size_4 : decode cX10_size 4 = .ok (.ireturn, 1) := by decide +kernel
theorem dX10_steps_0 : decode cX10_steps 0 = .ok (.aload_n 0, 1) := by decide +kernel
theorem dX10_steps_1 : decode cX10_steps 1 = .ok (.getfield 37, 3) := by decide +kernel
theorem dX10_steps_4 : decode cX10_steps 4 = .ok (.ireturn, 1) := by decide +kernel
theorem dX10_pairAt_0 : decode cX10_pairAt 0 = .ok (.iload_n 1, 1) := by decide +kernel
theorem dX10_pairAt_1 : decode cX10_pairAt 1 = .ok (.ifCond .lt 20, 3) := by decide +kernel
theorem dX10_pairAt_4 : decode cX10_pairAt 4 = .ok (.iload_n 1, 1) := by decide +kernel
theorem dX10_pairAt_5 : decode cX10_pairAt 5 = .ok (.aload_n 0, 1) := by decide +kernel
theorem dX10_pairAt_6 : decode cX10_pairAt 6 = .ok (.getfield 33, 3) := by decide +kernel
theorem dX10_pairAt_9 : decode cX10_pairAt 9 = .ok (.if_icmp .ge 12, 3) := by decide +kernel
theorem dX10_pairAt_12 : decode cX10_pairAt 12 = .ok (.aload_n 0, 1) := by decide +kernel
theorem dX10_pairAt_13 : decode cX10_pairAt 13 = .ok (.getfield 9, 3) := by decide +kernel
theorem dX10_pairAt_16 : decode cX10_pairAt 16 = .ok (.iload_n 1, 1) := by decide +kernel
theorem dX10_pairAt_17 : decode cX10_pairAt 17 = .ok (.iaload, 1) := by decide +kernel
theorem dX10_pairAt_18 : decode cX10_pairAt 18 = .ok (.goto 4, 3) := by decide +kernel
theorem dX10_pairAt_21 : decode cX10_pairAt 21 = .ok (.iconst 0, 1) := by decide +kernel
theorem dX10_pairAt_22 : decode cX10_pairAt 22 = .ok (.ireturn, 1) := by decide +kernel
theorem dX10_wholeOfStep_0 : decode cX10_wholeOfStep 0 = .ok (.iload_n 1, 1) := by decide +kernel
theorem dX10_wholeOfStep_1 : decode cX10_wholeOfStep 1 = .ok (.ifCond .lt 20, 3) := by decide +kernel
theorem dX10_wholeOfStep_4 : decode cX10_wholeOfStep 4 = .ok (.iload_n 1, 1) := by decide +kernel
theorem dX10_wholeOfStep_5 : decode cX10_wholeOfStep 5 = .ok (.aload_n 0, 1) := by decide +kernel
theorem dX10_wholeOfStep_6 : decode cX10_wholeOfStep 6 = .ok (.getfield 37, 3) := by decide +kernel
theorem dX10_wholeOfStep_9 : decode cX10_wholeOfStep 9 = .ok (.if_icmp .ge 12, 3) := by decide +kernel
theorem dX10_wholeOfStep_12 : decode cX10_wholeOfStep 12 = .ok (.aload_n 0, 1) := by decide +kernel
theorem dX10_wholeOfStep_13 : decode cX10_wholeOfStep 13 = .ok (.getfield 18, 3) := by decide +kernel
theorem dX10_wholeOfStep_16 : decode cX10_wholeOfStep 16 = .ok (.iload_n 1, 1) := by decide +kernel
theorem dX10_wholeOfStep_17 : decode cX10_wholeOfStep 17 = .ok (.iaload, 1) := by decide +kernel
theorem dX10_wholeOfStep_18 : decode cX10_wholeOfStep 18 = .ok (.goto 4, 3) := by decide +kernel
theorem dX10_wholeOfStep_21 : decode cX10_wholeOfStep 21 = .ok (.iconst 0, 1) := by decide +kernel
theorem dX10_wholeOfStep_22 : decode cX10_wholeOfStep 22 = .ok (.ireturn, 1) := by decide +kernel
theorem dX10_after_0 : decode cX10_after 0 = .ok (.iload_n 1, 1) := by decide +kernel
theorem dX10_after_1 : decode cX10_after 1 = .ok (.ifCond .lt 27, 3) := by decide +kernel
theorem dX10_after_4 : decode cX10_after 4 = .ok (.iload_n 1, 1) := by decide +kernel
theorem dX10_after_5 : decode cX10_after 5 = .ok (.aload_n 0, 1) := by decide +kernel
theorem dX10_after_6 : decode cX10_after 6 = .ok (.getfield 33, 3) := by decide +kernel
theorem dX10_after_9 : decode cX10_after 9 = .ok (.if_icmp .ge 19, 3) := by decide +kernel
theorem dX10_after_12 : decode cX10_after 12 = .ok (.iload_n 2, 1) := by decide +kernel
theorem dX10_after_13 : decode cX10_after 13 = .ok (.ifCond .lt 15, 3) := by decide +kernel
theorem dX10_after_16 : decode cX10_after 16 = .ok (.iload_n 2, 1) := by decide +kernel
theorem dX10_after_17 : decode cX10_after 17 = .ok (.aload_n 0, 1) := by decide +kernel
theorem dX10_after_18 : decode cX10_after 18 = .ok (.getfield 37, 3) := by decide +kernel
theorem dX10_after_21 : decode cX10_after 21 = .ok (.if_icmp .ge 7, 3) := by decide +kernel
theorem dX10_after_24 : decode cX10_after 24 = .ok (.iconst 1, 1) := by decide +kernel
theorem dX10_after_25 : decode cX10_after 25 = .ok (.goto 4, 3) := by decide +kernel
theorem dX10_after_28 : decode cX10_after 28 = .ok (.iconst 0, 1) := by decide +kernel
theorem dX10_after_29 : decode cX10_after 29 = .ok (.istore_n 3, 1) := by decide +kernel
theorem dX10_after_30 : decode cX10_after 30 = .ok (.iload_n 3, 1) := by decide +kernel
theorem dX10_after_31 : decode cX10_after 31 = .ok (.ifCond .eq 17, 3) := by decide +kernel
theorem dX10_after_34 : decode cX10_after 34 = .ok (.aload_n 0, 1) := by decide +kernel
theorem dX10_after_35 : decode cX10_after 35 = .ok (.getfield 21, 3) := by decide +kernel
theorem dX10_after_38 : decode cX10_after 38 = .ok (.iload_n 1, 1) := by decide +kernel
theorem dX10_after_39 : decode cX10_after 39 = .ok (.bipush 60, 2) := by decide +kernel
theorem dX10_after_41 : decode cX10_after 41 = .ok (.imul, 1) := by decide +kernel
theorem dX10_after_42 : decode cX10_after 42 = .ok (.iload_n 2, 1) := by decide +kernel
theorem dX10_after_43 : decode cX10_after 43 = .ok (.iadd, 1) := by decide +kernel
theorem dX10_after_44 : decode cX10_after 44 = .ok (.iaload, 1) := by decide +kernel
theorem dX10_after_45 : decode cX10_after 45 = .ok (.goto 4, 3) := by decide +kernel
theorem dX10_after_48 : decode cX10_after 48 = .ok (.iconst 0, 1) := by decide +kernel
theorem dX10_after_49 : decode cX10_after 49 = .ok (.ireturn, 1) := by decide +kernel
theorem dX10_stepAround_0 : decode cX10_stepAround 0 = .ok (.iload_n 1, 1) := by decide +kernel
theorem dX10_stepAround_1 : decode cX10_stepAround 1 = .ok (.ifCond .lt 33, 3) := by decide +kernel
theorem dX10_stepAround_4 : decode cX10_stepAround 4 = .ok (.iload_n 1, 1) := by decide +kernel
theorem dX10_stepAround_5 : decode cX10_stepAround 5 = .ok (.aload_n 0, 1) := by decide +kernel
theorem dX10_stepAround_6 : decode cX10_stepAround 6 = .ok (.getfield 33, 3) := by decide +kernel
theorem dX10_stepAround_9 : decode cX10_stepAround 9 = .ok (.if_icmp .ge 25, 3) := by decide +kernel
theorem dX10_stepAround_12 : decode cX10_stepAround 12 = .ok (.iload_n 2, 1) := by decide +kernel
theorem dX10_stepAround_13 : decode cX10_stepAround 13 = .ok (.ifCond .lt 21, 3) := by decide +kernel
theorem dX10_stepAround_16 : decode cX10_stepAround 16 = .ok (.iload_n 2, 1) := by decide +kernel
theorem dX10_stepAround_17 : decode cX10_stepAround 17 = .ok (.iconst 4, 1) := by decide +kernel
theorem dX10_stepAround_18 : decode cX10_stepAround 18 = .ok (.if_icmp .ge 16, 3) := by decide +kernel
theorem dX10_stepAround_21 : decode cX10_stepAround 21 = .ok (.aload_n 0, 1) := by decide +kernel
theorem dX10_stepAround_22 : decode cX10_stepAround 22 = .ok (.getfield 24, 3) := by decide +kernel
theorem dX10_stepAround_25 : decode cX10_stepAround 25 = .ok (.iconst 4, 1) := by decide +kernel
theorem dX10_stepAround_26 : decode cX10_stepAround 26 = .ok (.iload_n 1, 1) := by decide +kernel
theorem dX10_stepAround_27 : decode cX10_stepAround 27 = .ok (.imul, 1) := by decide +kernel
theorem dX10_stepAround_28 : decode cX10_stepAround 28 = .ok (.iload_n 2, 1) := by decide +kernel
theorem dX10_stepAround_29 : decode cX10_stepAround 29 = .ok (.iadd, 1) := by decide +kernel
theorem dX10_stepAround_30 : decode cX10_stepAround 30 = .ok (.iaload, 1) := by decide +kernel
theorem dX10_stepAround_31 : decode cX10_stepAround 31 = .ok (.goto 4, 3) := by decide +kernel
theorem dX10_stepAround_34 : decode cX10_stepAround 34 = .ok (.iconst 0, 1) := by decide +kernel
theorem dX10_stepAround_35 : decode cX10_stepAround 35 = .ok (.ireturn, 1) := by decide +kernel
theorem ggX10_stepOfPlain_X5_isPlain : GoodIn wsX10_stepOfPlain wsX5_isPlain := gdC (gd1 m17_10)
theorem gX10_stepOfPlain_X5_isPlain : GoodIn wsX10_stepOfPlain (va_wsS RX10 48 yX5_isPlain wsX5_isPlain) := gdC (gd3 m43_10 m17_9 m1_15 m17_10)
theorem dX10_stepOfPlain_0 : decode cX10_stepOfPlain 0 = .ok (.iload_n 1, 1) := by decide +kernel
theorem dX10_stepOfPlain_1 : decode cX10_stepOfPlain 1 = .ok (.invokestatic 48, 3) := by decide +kernel
theorem dX10_stepOfPlain_4 : decode cX10_stepOfPlain 4 = .ok (.ifCond .eq 14, 3) := by decide +kernel
theorem dX10_stepOfPlain_7 : decode cX10_stepOfPlain 7 = .ok (.aload_n 0, 1) := by decide +kernel
theorem dX10_stepOfPlain_8 : decode cX10_stepOfPlain 8 = .ok (.getfield 27, 3) := by decide +kernel
theorem dX10_stepOfPlain_11 : decode cX10_stepOfPlain 11 = .ok (.iload_n 1, 1) := by decide +kernel
theorem dX10_stepOfPlain_12 : decode cX10_stepOfPlain 12 = .ok (.iconst 2, 1) := by decide +kernel
theorem dX10_stepOfPlain_13 : decode cX10_stepOfPlain 13 = .ok (.isub, 1) := by decide +kernel
theorem dX10_stepOfPlain_14 : decode cX10_stepOfPlain 14 = .ok (.iaload, 1) := by decide +kernel
theorem dX10_stepOfPlain_15 : decode cX10_stepOfPlain 15 = .ok (.goto 4, 3) := by decide +kernel
theorem dX10_stepOfPlain_18 : decode cX10_stepOfPlain 18 = .ok (.iconst 0, 1) := by decide +kernel
theorem dX10_stepOfPlain_19 : decode cX10_stepOfPlain 19 = .ok (.ireturn, 1) := by decide +kernel
theorem ggX10_build_X1_identity : GoodIn wsX10_build wsX1_identity := gdC (gd1 m35_5)
theorem gX10_build_X1_identity : GoodIn wsX10_build (wsV RX10 54 RX1 yX1_identity wsX1_identity) := gdC (gd4 m35_2 m35_3 m35_4 m2_15 m35_5)
theorem ggX10_build_X10_numberOf : GoodIn wsX10_build wsX10_numberOf := gdC (gd1 m35_13)
theorem gX10_build_X10_numberOf : GoodIn wsX10_build (wsV RX10 60 RX10 yX10_numberOf wsX10_numberOf) := gdC (gd4 m35_10 m35_11 m35_12 m5_22 m35_13)
theorem ggX10_build_X1_plain : GoodIn wsX10_build wsX1_plain := gdC (gd1 m35_22)
theorem gX10_build_X1_plain : GoodIn wsX10_build (wsV RX10 64 RX1 yX1_plain wsX1_plain) := gdC (gd4 m35_19 m35_20 m35_21 m2_15 m35_22)
theorem ggX10_build_X10_stepFor : GoodIn wsX10_build wsX10_stepFor := gdC (gd1 m36_8)
theorem gX10_build_X10_stepFor : GoodIn wsX10_build (wsV RX10 66 RX10 yX10_stepFor wsX10_stepFor) := gdC (gd4 m36_5 m36_6 m36_7 m5_22 m36_8)
theorem ggX10_build_X1_wrapped : GoodIn wsX10_build wsX1_wrapped := gdC (gd1 m36_12)
theorem gX10_build_X1_wrapped : GoodIn wsX10_build (wsV RX10 69 RX1 yX1_wrapped wsX1_wrapped) := gdC (gd4 m36_9 m36_10 m36_11 m2_15 m36_12)
theorem ggX10_build_X10_link : GoodIn wsX10_build wsX10_link := gdC (gd1 m36_17)
theorem gX10_build_X10_link : GoodIn wsX10_build (wsV RX10 73 RX10 yX10_link wsX10_link) := gdC (gd4 m36_14 m36_15 m36_16 m5_22 m36_17)
theorem dX10_build_0 : decode cX10_build 0 = .ok (.aload_n 0, 1) := by decide +kernel
theorem dX10_build_1 : decode cX10_build 1 = .ok (.iconst 0, 1) := by decide +kernel
theorem dX10_build_2 : decode cX10_build 2 = .ok (.putfield 33, 3) := by decide +kernel
theorem dX10_build_5 : decode cX10_build 5 = .ok (.aload_n 0, 1) := by decide +kernel
theorem dX10_build_6 : decode cX10_build 6 = .ok (.iconst 0, 1) := by decide +kernel
theorem dX10_build_7 : decode cX10_build 7 = .ok (.putfield 37, 3) := by decide +kernel
theorem dX10_build_10 : decode cX10_build 10 = .ok (.aload_n 0, 1) := by decide +kernel
theorem dX10_build_11 : decode cX10_build 11 = .ok (.iconst 0, 1) := by decide +kernel
theorem dX10_build_12 : decode cX10_build 12 = .ok (.putfield 40, 3) := by decide +kernel
theorem dX10_build_15 : decode cX10_build 15 = .ok (.iconst 0, 1) := by decide +kernel
theorem dX10_build_16 : decode cX10_build 16 = .ok (.istore_n 1, 1) := by decide +kernel
theorem dX10_build_17 : decode cX10_build 17 = .ok (.iload_n 1, 1) := by decide +kernel
theorem dX10_build_18 : decode cX10_build 18 = .ok (.sipush 256, 3) := by decide +kernel
theorem dX10_build_21 : decode cX10_build 21 = .ok (.if_icmp .ge 16, 3) := by decide +kernel
theorem dX10_build_24 : decode cX10_build 24 = .ok (.aload_n 0, 1) := by decide +kernel
theorem dX10_build_25 : decode cX10_build 25 = .ok (.getfield 30, 3) := by decide +kernel
theorem dX10_build_28 : decode cX10_build 28 = .ok (.iload_n 1, 1) := by decide +kernel
theorem dX10_build_29 : decode cX10_build 29 = .ok (.iconst 0, 1) := by decide +kernel
theorem dX10_build_30 : decode cX10_build 30 = .ok (.iastore, 1) := by decide +kernel
theorem dX10_build_31 : decode cX10_build 31 = .ok (.iinc 1 1, 3) := by decide +kernel
theorem dX10_build_34 : decode cX10_build 34 = .ok (.goto (-17), 3) := by decide +kernel
theorem dX10_build_37 : decode cX10_build 37 = .ok (.aload_n 0, 1) := by decide +kernel
theorem dX10_build_38 : decode cX10_build 38 = .ok (.aload_n 0, 1) := by decide +kernel
theorem dX10_build_39 : decode cX10_build 39 = .ok (.getfield 44, 3) := by decide +kernel
theorem dX10_build_42 : decode cX10_build 42 = .ok (.invokevirtual 54, 3) := by decide +kernel
theorem dX10_build_45 : decode cX10_build 45 = .ok (.invokevirtual 60, 3) := by decide +kernel
theorem dX10_build_48 : decode cX10_build 48 = .ok (.pop, 1) := by decide +kernel
theorem dX10_build_49 : decode cX10_build 49 = .ok (.aload_n 0, 1) := by decide +kernel
theorem dX10_build_50 : decode cX10_build 50 = .ok (.getfield 27, 3) := by decide +kernel
theorem dX10_build_53 : decode cX10_build 53 = .ok (.iconst 0, 1) := by decide +kernel
theorem dX10_build_54 : decode cX10_build 54 = .ok (.aload_n 0, 1) := by decide +kernel
theorem dX10_build_55 : decode cX10_build 55 = .ok (.aload_n 0, 1) := by decide +kernel
theorem dX10_build_56 : decode cX10_build 56 = .ok (.getfield 44, 3) := by decide +kernel
theorem dX10_build_59 : decode cX10_build 59 = .ok (.iconst 2, 1) := by decide +kernel
theorem dX10_build_60 : decode cX10_build 60 = .ok (.invokevirtual 64, 3) := by decide +kernel
theorem dX10_build_63 : decode cX10_build 63 = .ok (.invokevirtual 66, 3) := by decide +kernel
theorem dX10_build_66 : decode cX10_build 66 = .ok (.iastore, 1) := by decide +kernel
theorem dX10_build_67 : decode cX10_build 67 = .ok (.aload_n 0, 1) := by decide +kernel
theorem dX10_build_68 : decode cX10_build 68 = .ok (.getfield 27, 3) := by decide +kernel
theorem dX10_build_71 : decode cX10_build 71 = .ok (.iconst 1, 1) := by decide +kernel
theorem dX10_build_72 : decode cX10_build 72 = .ok (.aload_n 0, 1) := by decide +kernel
theorem dX10_build_73 : decode cX10_build 73 = .ok (.aload_n 0, 1) := by decide +kernel
theorem dX10_build_74 : decode cX10_build 74 = .ok (.getfield 44, 3) := by decide +kernel
theorem dX10_build_77 : decode cX10_build 77 = .ok (.iconst 3, 1) := by decide +kernel
theorem dX10_build_78 : decode cX10_build 78 = .ok (.invokevirtual 64, 3) := by decide +kernel
theorem dX10_build_81 : decode cX10_build 81 = .ok (.invokevirtual 66, 3) := by decide +kernel
theorem dX10_build_84 : decode cX10_build 84 = .ok (.iastore, 1) := by decide +kernel
theorem dX10_build_85 : decode cX10_build 85 = .ok (.iconst 0, 1) := by decide +kernel
theorem dX10_build_86 : decode cX10_build 86 = .ok (.istore_n 1, 1) := by decide +kernel
theorem dX10_build_87 : decode cX10_build 87 = .ok (.iload_n 1, 1) := by decide +kernel
theorem dX10_build_88 : decode cX10_build 88 = .ok (.aload_n 0, 1) := by decide +kernel
theorem dX10_build_89 : decode cX10_build 89 = .ok (.getfield 33, 3) := by decide +kernel
theorem dX10_build_92 : decode cX10_build 92 = .ok (.if_icmp .ge 100, 3) := by decide +kernel
theorem dX10_build_95 : decode cX10_build 95 = .ok (.aload_n 0, 1) := by decide +kernel
theorem dX10_build_96 : decode cX10_build 96 = .ok (.getfield 40, 3) := by decide +kernel
theorem dX10_build_99 : decode cX10_build 99 = .ok (.ifCond .ne 93, 3) := by decide +kernel
theorem dX10_build_102 : decode cX10_build 102 = .ok (.aload_n 0, 1) := by decide +kernel
theorem dX10_build_103 : decode cX10_build 103 = .ok (.getfield 37, 3) := by decide +kernel
theorem dX10_build_106 : decode cX10_build 106 = .ok (.istore_n 2, 1) := by decide +kernel
theorem dX10_build_107 : decode cX10_build 107 = .ok (.iconst 0, 1) := by decide +kernel
theorem dX10_build_108 : decode cX10_build 108 = .ok (.istore_n 3, 1) := by decide +kernel
theorem dX10_build_109 : decode cX10_build 109 = .ok (.iload_n 3, 1) := by decide +kernel
theorem dX10_build_110 : decode cX10_build 110 = .ok (.iconst 4, 1) := by decide +kernel
theorem dX10_build_111 : decode cX10_build 111 = .ok (.if_icmp .ge 50, 3) := by decide +kernel
theorem dX10_build_114 : decode cX10_build 114 = .ok (.aload_n 0, 1) := by decide +kernel
theorem dX10_build_115 : decode cX10_build 115 = .ok (.getfield 44, 3) := by decide +kernel
theorem dX10_build_118 : decode cX10_build 118 = .ok (.iconst 0, 1) := by decide +kernel
theorem dX10_build_119 : decode cX10_build 119 = .ok (.iload_n 3, 1) := by decide +kernel
theorem dX10_build_120 : decode cX10_build 120 = .ok (.iconst 1, 1) := by decide +kernel
theorem dX10_build_121 : decode cX10_build 121 = .ok (.ishr, 1) := by decide +kernel
theorem dX10_build_122 : decode cX10_build 122 = .ok (.iadd, 1) := by decide +kernel
theorem dX10_build_123 : decode cX10_build 123 = .ok (.iconst 4, 1) := by decide +kernel
theorem dX10_build_124 : decode cX10_build 124 = .ok (.iload_n 3, 1) := by decide +kernel
theorem dX10_build_125 : decode cX10_build 125 = .ok (.iconst 1, 1) := by decide +kernel
theorem dX10_build_126 : decode cX10_build 126 = .ok (.iand, 1) := by decide +kernel
theorem dX10_build_127 : decode cX10_build 127 = .ok (.iadd, 1) := by decide +kernel
theorem dX10_build_128 : decode cX10_build 128 = .ok (.aload_n 0, 1) := by decide +kernel
theorem dX10_build_129 : decode cX10_build 129 = .ok (.getfield 9, 3) := by decide +kernel
theorem dX10_build_132 : decode cX10_build 132 = .ok (.iload_n 1, 1) := by decide +kernel
theorem dX10_build_133 : decode cX10_build 133 = .ok (.iaload, 1) := by decide +kernel
theorem dX10_build_134 : decode cX10_build 134 = .ok (.invokevirtual 69, 3) := by decide +kernel
theorem dX10_build_137 : decode cX10_build 137 = .ok (.istore 4, 2) := by decide +kernel
theorem dX10_build_139 : decode cX10_build 139 = .ok (.aload_n 0, 1) := by decide +kernel
theorem dX10_build_140 : decode cX10_build 140 = .ok (.getfield 24, 3) := by decide +kernel
theorem dX10_build_143 : decode cX10_build 143 = .ok (.iconst 4, 1) := by decide +kernel
theorem dX10_build_144 : decode cX10_build 144 = .ok (.iload_n 1, 1) := by decide +kernel
theorem dX10_build_145 : decode cX10_build 145 = .ok (.imul, 1) := by decide +kernel
theorem dX10_build_146 : decode cX10_build 146 = .ok (.iload_n 3, 1) := by decide +kernel
theorem dX10_build_147 : decode cX10_build 147 = .ok (.iadd, 1) := by decide +kernel
theorem dX10_build_148 : decode cX10_build 148 = .ok (.aload_n 0, 1) := by decide +kernel
theorem dX10_build_149 : decode cX10_build 149 = .ok (.iload 4, 2) := by decide +kernel
theorem dX10_build_151 : decode cX10_build 151 = .ok (.invokevirtual 66, 3) := by decide +kernel
theorem dX10_build_154 : decode cX10_build 154 = .ok (.iastore, 1) := by decide +kernel
theorem dX10_build_155 : decode cX10_build 155 = .ok (.iinc 3 1, 3) := by decide +kernel
theorem dX10_build_158 : decode cX10_build 158 = .ok (.goto (-49), 3) := by decide +kernel
theorem dX10_build_161 : decode cX10_build 161 = .ok (.iconst 0, 1) := by decide +kernel
theorem dX10_build_162 : decode cX10_build 162 = .ok (.istore_n 3, 1) := by decide +kernel
theorem dX10_build_163 : decode cX10_build 163 = .ok (.iload_n 3, 1) := by decide +kernel
theorem dX10_build_164 : decode cX10_build 164 = .ok (.iload_n 1, 1) := by decide +kernel
theorem dX10_build_165 : decode cX10_build 165 = .ok (.if_icmp .ge 15, 3) := by decide +kernel
theorem dX10_build_168 : decode cX10_build 168 = .ok (.aload_n 0, 1) := by decide +kernel
theorem dX10_build_169 : decode cX10_build 169 = .ok (.iload_n 3, 1) := by decide +kernel
theorem dX10_build_170 : decode cX10_build 170 = .ok (.iload_n 2, 1) := by decide +kernel
theorem dX10_build_171 : decode cX10_build 171 = .ok (.invokevirtual 73, 3) := by decide +kernel
theorem dX10_build_174 : decode cX10_build 174 = .ok (.iinc 3 1, 3) := by decide +kernel
theorem dX10_build_177 : decode cX10_build 177 = .ok (.goto (-14), 3) := by decide +kernel
theorem dX10_build_180 : decode cX10_build 180 = .ok (.aload_n 0, 1) := by decide +kernel
theorem dX10_build_181 : decode cX10_build 181 = .ok (.iload_n 1, 1) := by decide +kernel
theorem dX10_build_182 : decode cX10_build 182 = .ok (.iconst 0, 1) := by decide +kernel
theorem dX10_build_183 : decode cX10_build 183 = .ok (.invokevirtual 73, 3) := by decide +kernel
theorem dX10_build_186 : decode cX10_build 186 = .ok (.iinc 1 1, 3) := by decide +kernel
theorem dX10_build_189 : decode cX10_build 189 = .ok (.goto (-102), 3) := by decide +kernel
theorem dX10_build_192 : decode cX10_build 192 = .ok (.return_, 1) := by decide +kernel
theorem ggX10_reached_X10_followers : GoodIn wsX10_reached wsX10_followers := gdC (gd1 m52_1)
theorem gX10_reached_X10_followers : GoodIn wsX10_reached (wsV RX10 77 RX10 yX10_followers wsX10_followers) := gdC (gd4 m51_22 m51_23 m52_0 m5_22 m52_1)
theorem dX10_reached_0 : decode cX10_reached 0 = .ok (.lload_n 1, 1) := by decide +kernel
theorem dX10_reached_1 : decode cX10_reached 1 = .ok (.lstore_n 3, 1) := by decide +kernel
theorem dX10_reached_2 : decode cX10_reached 2 = .ok (.iconst 0, 1) := by decide +kernel
theorem dX10_reached_3 : decode cX10_reached 3 = .ok (.istore 5, 2) := by decide +kernel
theorem dX10_reached_5 : decode cX10_reached 5 = .ok (.iload 5, 2) := by decide +kernel
theorem dX10_reached_7 : decode cX10_reached 7 = .ok (.bipush 60, 2) := by decide +kernel
theorem dX10_reached_9 : decode cX10_reached 9 = .ok (.if_icmp .ge 64, 3) := by decide +kernel
theorem dX10_reached_12 : decode cX10_reached 12 = .ok (.lload_n 3, 1) := by decide +kernel
theorem dX10_reached_13 : decode cX10_reached 13 = .ok (.lstore 6, 2) := by decide +kernel
theorem dX10_reached_15 : decode cX10_reached 15 = .ok (.iconst 0, 1) := by decide +kernel
theorem dX10_reached_16 : decode cX10_reached 16 = .ok (.istore 8, 2) := by decide +kernel
theorem dX10_reached_18 : decode cX10_reached 18 = .ok (.iload 8, 2) := by decide +kernel
theorem dX10_reached_20 : decode cX10_reached 20 = .ok (.aload_n 0, 1) := by decide +kernel
theorem dX10_reached_21 : decode cX10_reached 21 = .ok (.getfield 33, 3) := by decide +kernel
theorem dX10_reached_24 : decode cX10_reached 24 = .ok (.if_icmp .ge 31, 3) := by decide +kernel
theorem dX10_reached_27 : decode cX10_reached 27 = .ok (.lload_n 3, 1) := by decide +kernel
theorem dX10_reached_28 : decode cX10_reached 28 = .ok (.iload 8, 2) := by decide +kernel
theorem dX10_reached_30 : decode cX10_reached 30 = .ok (.lshr, 1) := by decide +kernel
theorem dX10_reached_31 : decode cX10_reached 31 = .ok (.lconst 1, 1) := by decide +kernel
theorem dX10_reached_32 : decode cX10_reached 32 = .ok (.land, 1) := by decide +kernel
theorem dX10_reached_33 : decode cX10_reached 33 = .ok (.lconst 0, 1) := by decide +kernel
theorem dX10_reached_34 : decode cX10_reached 34 = .ok (.lcmp, 1) := by decide +kernel
theorem dX10_reached_35 : decode cX10_reached 35 = .ok (.ifCond .eq 14, 3) := by decide +kernel
theorem dX10_reached_38 : decode cX10_reached 38 = .ok (.lload 6, 2) := by decide +kernel
theorem dX10_reached_40 : decode cX10_reached 40 = .ok (.aload_n 0, 1) := by decide +kernel
theorem dX10_reached_41 : decode cX10_reached 41 = .ok (.iload 8, 2) := by decide +kernel
theorem dX10_reached_43 : decode cX10_reached 43 = .ok (.invokevirtual 77, 3) := by decide +kernel
theorem dX10_reached_46 : decode cX10_reached 46 = .ok (.lor, 1) := by decide +kernel
theorem dX10_reached_47 : decode cX10_reached 47 = .ok (.lstore 6, 2) := by decide +kernel
theorem dX10_reached_49 : decode cX10_reached 49 = .ok (.iinc 8 1, 3) := by decide +kernel
theorem dX10_reached_52 : decode cX10_reached 52 = .ok (.goto (-34), 3) := by decide +kernel
theorem dX10_reached_55 : decode cX10_reached 55 = .ok (.lload 6, 2) := by decide +kernel
theorem dX10_reached_57 : decode cX10_reached 57 = .ok (.lload_n 3, 1) := by decide +kernel
theorem dX10_reached_58 : decode cX10_reached 58 = .ok (.lcmp, 1) := by decide +kernel
theorem dX10_reached_59 : decode cX10_reached 59 = .ok (.ifCond .ne 5, 3) := by decide +kernel
theorem dX10_reached_62 : decode cX10_reached 62 = .ok (.lload_n 3, 1) := by decide +kernel
theorem dX10_reached_63 : decode cX10_reached 63 = .ok (.lreturn, 1) := by decide +kernel
theorem dX10_reached_64 : decode cX10_reached 64 = .ok (.lload 6, 2) := by decide +kernel
theorem dX10_reached_66 : decode cX10_reached 66 = .ok (.lstore_n 3, 1) := by decide +kernel
theorem dX10_reached_67 : decode cX10_reached 67 = .ok (.iinc 5 1, 3) := by decide +kernel
theorem dX10_reached_70 : decode cX10_reached 70 = .ok (.goto (-65), 3) := by decide +kernel
theorem dX10_reached_73 : decode cX10_reached 73 = .ok (.lload_n 3, 1) := by decide +kernel
theorem dX10_reached_74 : decode cX10_reached 74 = .ok (.lreturn, 1) := by decide +kernel
theorem ggX10_find_X10_slotOf : GoodIn wsX10_find wsX10_slotOf := gdC (gd1 m35_17)
theorem gX10_find_X10_slotOf : GoodIn wsX10_find (wsV RX10 81 RX10 yX10_slotOf wsX10_slotOf) := gdC (gd4 m35_14 m35_15 m35_16 m5_22 m35_17)
theorem dX10_find_0 : decode cX10_find 0 = .ok (.aload_n 0, 1) := by decide +kernel
theorem dX10_find_1 : decode cX10_find 1 = .ok (.iload_n 1, 1) := by decide +kernel
theorem dX10_find_2 : decode cX10_find 2 = .ok (.invokevirtual 81, 3) := by decide +kernel
theorem dX10_find_5 : decode cX10_find 5 = .ok (.istore_n 2, 1) := by decide +kernel
theorem dX10_find_6 : decode cX10_find 6 = .ok (.iload_n 2, 1) := by decide +kernel
theorem dX10_find_7 : decode cX10_find 7 = .ok (.ifCond .lt 14, 3) := by decide +kernel
theorem dX10_find_10 : decode cX10_find 10 = .ok (.aload_n 0, 1) := by decide +kernel
theorem dX10_find_11 : decode cX10_find 11 = .ok (.getfield 30, 3) := by decide +kernel
theorem dX10_find_14 : decode cX10_find 14 = .ok (.iload_n 2, 1) := by decide +kernel
theorem dX10_find_15 : decode cX10_find 15 = .ok (.iaload, 1) := by decide +kernel
theorem dX10_find_16 : decode cX10_find 16 = .ok (.iconst 1, 1) := by decide +kernel
theorem dX10_find_17 : decode cX10_find 17 = .ok (.isub, 1) := by decide +kernel
theorem dX10_find_18 : decode cX10_find 18 = .ok (.goto 4, 3) := by decide +kernel
theorem dX10_find_21 : decode cX10_find 21 = .ok (.iconst (-1), 1) := by decide +kernel
theorem dX10_find_22 : decode cX10_find 22 = .ok (.ireturn, 1) := by decide +kernel
theorem ggX10_followers_X10_after : GoodIn wsX10_followers wsX10_after := gdC (gd1 m44_3)
theorem gX10_followers_X10_after : GoodIn wsX10_followers (wsV RX10 84 RX10 yX10_after wsX10_after) := gdC (gd4 m52_2 m44_1 m44_2 m5_22 m44_3)
theorem dX10_followers_0 : decode cX10_followers 0 = .ok (.lconst 0, 1) := by decide +kernel
theorem dX10_followers_1 : decode cX10_followers 1 = .ok (.lstore_n 2, 1) := by decide +kernel
theorem dX10_followers_2 : decode cX10_followers 2 = .ok (.iconst 0, 1) := by decide +kernel
theorem dX10_followers_3 : decode cX10_followers 3 = .ok (.istore 4, 2) := by decide +kernel
theorem dX10_followers_5 : decode cX10_followers 5 = .ok (.iload 4, 2) := by decide +kernel
theorem dX10_followers_7 : decode cX10_followers 7 = .ok (.aload_n 0, 1) := by decide +kernel
theorem dX10_followers_8 : decode cX10_followers 8 = .ok (.getfield 37, 3) := by decide +kernel
theorem dX10_followers_11 : decode cX10_followers 11 = .ok (.if_icmp .ge 21, 3) := by decide +kernel
theorem dX10_followers_14 : decode cX10_followers 14 = .ok (.lload_n 2, 1) := by decide +kernel
theorem dX10_followers_15 : decode cX10_followers 15 = .ok (.lconst 1, 1) := by decide +kernel
theorem dX10_followers_16 : decode cX10_followers 16 = .ok (.aload_n 0, 1) := by decide +kernel
theorem dX10_followers_17 : decode cX10_followers 17 = .ok (.iload_n 1, 1) := by decide +kernel
theorem dX10_followers_18 : decode cX10_followers 18 = .ok (.iload 4, 2) := by decide +kernel
theorem dX10_followers_20 : decode cX10_followers 20 = .ok (.invokevirtual 84, 3) := by decide +kernel
theorem dX10_followers_23 : decode cX10_followers 23 = .ok (.lshl, 1) := by decide +kernel
theorem dX10_followers_24 : decode cX10_followers 24 = .ok (.lor, 1) := by decide +kernel
theorem dX10_followers_25 : decode cX10_followers 25 = .ok (.lstore_n 2, 1) := by decide +kernel
theorem dX10_followers_26 : decode cX10_followers 26 = .ok (.iinc 4 1, 3) := by decide +kernel
theorem dX10_followers_29 : decode cX10_followers 29 = .ok (.goto (-24), 3) := by decide +kernel
theorem dX10_followers_32 : decode cX10_followers 32 = .ok (.lload_n 2, 1) := by decide +kernel
theorem dX10_followers_33 : decode cX10_followers 33 = .ok (.lreturn, 1) := by decide +kernel
theorem ggX10_link_X1_then : GoodIn wsX10_link wsX1_then := gdC (gd1 m36_3)
theorem gX10_link_X1_then : GoodIn wsX10_link (va_wsS RX10 88 yX1_then wsX1_then) := gdC (gd3 m36_18 m36_2 m2_15 m36_3)
theorem ggX10_link_X10_numberOf : GoodIn wsX10_link wsX10_numberOf := gdC (gd1 m35_13)
theorem gX10_link_X10_numberOf : GoodIn wsX10_link (wsV RX10 60 RX10 yX10_numberOf wsX10_numberOf) := gdC (gd4 m35_10 m35_11 m35_12 m5_22 m35_13)
theorem dX10_link_0 : decode cX10_link 0 = .ok (.iload_n 2, 1) := by decide +kernel
theorem dX10_link_1 : decode cX10_link 1 = .ok (.istore_n 3, 1) := by decide +kernel
theorem dX10_link_2 : decode cX10_link 2 = .ok (.iload_n 3, 1) := by decide +kernel
theorem dX10_link_3 : decode cX10_link 3 = .ok (.aload_n 0, 1) := by decide +kernel
theorem dX10_link_4 : decode cX10_link 4 = .ok (.getfield 37, 3) := by decide +kernel
theorem dX10_link_7 : decode cX10_link 7 = .ok (.if_icmp .ge 55, 3) := by decide +kernel
theorem dX10_link_10 : decode cX10_link 10 = .ok (.aload_n 0, 1) := by decide +kernel
theorem dX10_link_11 : decode cX10_link 11 = .ok (.getfield 40, 3) := by decide +kernel
theorem dX10_link_14 : decode cX10_link 14 = .ok (.ifCond .ne 48, 3) := by decide +kernel
theorem dX10_link_17 : decode cX10_link 17 = .ok (.aload_n 0, 1) := by decide +kernel
theorem dX10_link_18 : decode cX10_link 18 = .ok (.getfield 9, 3) := by decide +kernel
theorem dX10_link_21 : decode cX10_link 21 = .ok (.iload_n 1, 1) := by decide +kernel
theorem dX10_link_22 : decode cX10_link 22 = .ok (.iaload, 1) := by decide +kernel
theorem dX10_link_23 : decode cX10_link 23 = .ok (.aload_n 0, 1) := by decide +kernel
theorem dX10_link_24 : decode cX10_link 24 = .ok (.getfield 9, 3) := by decide +kernel
theorem dX10_link_27 : decode cX10_link 27 = .ok (.aload_n 0, 1) := by decide +kernel
theorem dX10_link_28 : decode cX10_link 28 = .ok (.getfield 18, 3) := by decide +kernel
theorem dX10_link_31 : decode cX10_link 31 = .ok (.iload_n 3, 1) := by decide +kernel
theorem dX10_link_32 : decode cX10_link 32 = .ok (.iaload, 1) := by decide +kernel
theorem dX10_link_33 : decode cX10_link 33 = .ok (.iaload, 1) := by decide +kernel
theorem dX10_link_34 : decode cX10_link 34 = .ok (.invokestatic 88, 3) := by decide +kernel
theorem dX10_link_37 : decode cX10_link 37 = .ok (.istore 4, 2) := by decide +kernel
theorem dX10_link_39 : decode cX10_link 39 = .ok (.aload_n 0, 1) := by decide +kernel
theorem dX10_link_40 : decode cX10_link 40 = .ok (.getfield 21, 3) := by decide +kernel
theorem dX10_link_43 : decode cX10_link 43 = .ok (.iload_n 1, 1) := by decide +kernel
theorem dX10_link_44 : decode cX10_link 44 = .ok (.bipush 60, 2) := by decide +kernel
theorem dX10_link_46 : decode cX10_link 46 = .ok (.imul, 1) := by decide +kernel
theorem dX10_link_47 : decode cX10_link 47 = .ok (.iload_n 3, 1) := by decide +kernel
theorem dX10_link_48 : decode cX10_link 48 = .ok (.iadd, 1) := by decide +kernel
theorem dX10_link_49 : decode cX10_link 49 = .ok (.aload_n 0, 1) := by decide +kernel
theorem dX10_link_50 : decode cX10_link 50 = .ok (.iload 4, 2) := by decide +kernel
theorem dX10_link_52 : decode cX10_link 52 = .ok (.invokevirtual 60, 3) := by decide +kernel
theorem dX10_link_55 : decode cX10_link 55 = .ok (.iastore, 1) := by decide +kernel
theorem dX10_link_56 : decode cX10_link 56 = .ok (.iinc 3 1, 3) := by decide +kernel
theorem dX10_link_59 : decode cX10_link 59 = .ok (.goto (-57), 3) := by decide +kernel
theorem dX10_link_62 : decode cX10_link 62 = .ok (.return_, 1) := by decide +kernel
theorem ggX10_stepFor_X10_numberOf : GoodIn wsX10_stepFor wsX10_numberOf := gdC (gd1 m35_13)
theorem gX10_stepFor_X10_numberOf : GoodIn wsX10_stepFor (wsV RX10 60 RX10 yX10_numberOf wsX10_numberOf) := gdC (gd4 m35_10 m35_11 m35_12 m5_22 m35_13)
theorem dX10_stepFor_0 : decode cX10_stepFor 0 = .ok (.aload_n 0, 1) := by decide +kernel
theorem dX10_stepFor_1 : decode cX10_stepFor 1 = .ok (.iload_n 1, 1) := by decide +kernel
theorem dX10_stepFor_2 : decode cX10_stepFor 2 = .ok (.invokevirtual 60, 3) := by decide +kernel
theorem dX10_stepFor_5 : decode cX10_stepFor 5 = .ok (.istore_n 2, 1) := by decide +kernel
theorem dX10_stepFor_6 : decode cX10_stepFor 6 = .ok (.aload_n 0, 1) := by decide +kernel
theorem dX10_stepFor_7 : decode cX10_stepFor 7 = .ok (.getfield 40, 3) := by decide +kernel
theorem dX10_stepFor_10 : decode cX10_stepFor 10 = .ok (.ifCond .eq 5, 3) := by decide +kernel
theorem dX10_stepFor_13 : decode cX10_stepFor 13 = .ok (.iconst 0, 1) := by decide +kernel
theorem dX10_stepFor_14 : decode cX10_stepFor 14 = .ok (.ireturn, 1) := by decide +kernel
theorem dX10_stepFor_15 : decode cX10_stepFor 15 = .ok (.aload_n 0, 1) := by decide +kernel
theorem dX10_stepFor_16 : decode cX10_stepFor 16 = .ok (.getfield 15, 3) := by decide +kernel
theorem dX10_stepFor_19 : decode cX10_stepFor 19 = .ok (.iload_n 2, 1) := by decide +kernel
theorem dX10_stepFor_20 : decode cX10_stepFor 20 = .ok (.iaload, 1) := by decide +kernel
theorem dX10_stepFor_21 : decode cX10_stepFor 21 = .ok (.ifCond .ge 42, 3) := by decide +kernel
theorem dX10_stepFor_24 : decode cX10_stepFor 24 = .ok (.aload_n 0, 1) := by decide +kernel
theorem dX10_stepFor_25 : decode cX10_stepFor 25 = .ok (.getfield 37, 3) := by decide +kernel
theorem dX10_stepFor_28 : decode cX10_stepFor 28 = .ok (.bipush 60, 2) := by decide +kernel
theorem dX10_stepFor_30 : decode cX10_stepFor 30 = .ok (.if_icmp .ge 33, 3) := by decide +kernel
theorem dX10_stepFor_33 : decode cX10_stepFor 33 = .ok (.aload_n 0, 1) := by decide +kernel
theorem dX10_stepFor_34 : decode cX10_stepFor 34 = .ok (.getfield 15, 3) := by decide +kernel
theorem dX10_stepFor_37 : decode cX10_stepFor 37 = .ok (.iload_n 2, 1) := by decide +kernel
theorem dX10_stepFor_38 : decode cX10_stepFor 38 = .ok (.aload_n 0, 1) := by decide +kernel
theorem dX10_stepFor_39 : decode cX10_stepFor 39 = .ok (.getfield 37, 3) := by decide +kernel
theorem dX10_stepFor_42 : decode cX10_stepFor 42 = .ok (.iastore, 1) := by decide +kernel
theorem dX10_stepFor_43 : decode cX10_stepFor 43 = .ok (.aload_n 0, 1) := by decide +kernel
theorem dX10_stepFor_44 : decode cX10_stepFor 44 = .ok (.getfield 18, 3) := by decide +kernel
theorem dX10_stepFor_47 : decode cX10_stepFor 47 = .ok (.aload_n 0, 1) := by decide +kernel
theorem dX10_stepFor_48 : decode cX10_stepFor 48 = .ok (.getfield 37, 3) := by decide +kernel
theorem dX10_stepFor_51 : decode cX10_stepFor 51 = .ok (.iload_n 2, 1) := by decide +kernel
theorem dX10_stepFor_52 : decode cX10_stepFor 52 = .ok (.iastore, 1) := by decide +kernel
theorem dX10_stepFor_53 : decode cX10_stepFor 53 = .ok (.aload_n 0, 1) := by decide +kernel
theorem dX10_stepFor_54 : decode cX10_stepFor 54 = .ok (.dup, 1) := by decide +kernel
theorem dX10_stepFor_55 : decode cX10_stepFor 55 = .ok (.getfield 37, 3) := by decide +kernel
theorem dX10_stepFor_58 : decode cX10_stepFor 58 = .ok (.iconst 1, 1) := by decide +kernel
theorem dX10_stepFor_59 : decode cX10_stepFor 59 = .ok (.iadd, 1) := by decide +kernel
theorem dX10_stepFor_60 : decode cX10_stepFor 60 = .ok (.putfield 37, 3) := by decide +kernel
theorem dX10_stepFor_63 : decode cX10_stepFor 63 = .ok (.aload_n 0, 1) := by decide +kernel
theorem dX10_stepFor_64 : decode cX10_stepFor 64 = .ok (.getfield 15, 3) := by decide +kernel
theorem dX10_stepFor_67 : decode cX10_stepFor 67 = .ok (.iload_n 2, 1) := by decide +kernel
theorem dX10_stepFor_68 : decode cX10_stepFor 68 = .ok (.iaload, 1) := by decide +kernel
theorem dX10_stepFor_69 : decode cX10_stepFor 69 = .ok (.ireturn, 1) := by decide +kernel
theorem ggX10_numberOf_X10_slotOf : GoodIn wsX10_numberOf wsX10_slotOf := gdC (gd1 m35_17)
theorem gX10_numberOf_X10_slotOf : GoodIn wsX10_numberOf (wsV RX10 81 RX10 yX10_slotOf wsX10_slotOf) := gdC (gd4 m35_14 m35_15 m35_16 m5_22 m35_17)
theorem dX10_numberOf_0 : decode cX10_numberOf 0 = .ok (.aload_n 0, 1) := by decide +kernel
theorem dX10_numberOf_1 : decode cX10_numberOf 1 = .ok (.iload_n 1, 1) := by decide +kernel
theorem dX10_numberOf_2 : decode cX10_numberOf 2 = .ok (.invokevirtual 81, 3) := by decide +kernel
theorem dX10_numberOf_5 : decode cX10_numberOf 5 = .ok (.istore_n 2, 1) := by decide +kernel
theorem dX10_numberOf_6 : decode cX10_numberOf 6 = .ok (.iload_n 2, 1) := by decide +kernel
theorem dX10_numberOf_7 : decode cX10_numberOf 7 = .ok (.ifCond .lt 21, 3) := by decide +kernel
theorem dX10_numberOf_10 : decode cX10_numberOf 10 = .ok (.aload_n 0, 1) := by decide +kernel
theorem dX10_numberOf_11 : decode cX10_numberOf 11 = .ok (.getfield 30, 3) := by decide +kernel
theorem dX10_numberOf_14 : decode cX10_numberOf 14 = .ok (.iload_n 2, 1) := by decide +kernel
theorem dX10_numberOf_15 : decode cX10_numberOf 15 = .ok (.iaload, 1) := by decide +kernel
theorem dX10_numberOf_16 : decode cX10_numberOf 16 = .ok (.ifCond .le 12, 3) := by decide +kernel
theorem dX10_numberOf_19 : decode cX10_numberOf 19 = .ok (.aload_n 0, 1) := by decide +kernel
theorem dX10_numberOf_20 : decode cX10_numberOf 20 = .ok (.getfield 30, 3) := by decide +kernel
theorem dX10_numberOf_23 : decode cX10_numberOf 23 = .ok (.iload_n 2, 1) := by decide +kernel
theorem dX10_numberOf_24 : decode cX10_numberOf 24 = .ok (.iaload, 1) := by decide +kernel
theorem dX10_numberOf_25 : decode cX10_numberOf 25 = .ok (.iconst 1, 1) := by decide +kernel
theorem dX10_numberOf_26 : decode cX10_numberOf 26 = .ok (.isub, 1) := by decide +kernel
theorem dX10_numberOf_27 : decode cX10_numberOf 27 = .ok (.ireturn, 1) := by decide +kernel
theorem dX10_numberOf_28 : decode cX10_numberOf 28 = .ok (.iload_n 2, 1) := by decide +kernel
theorem dX10_numberOf_29 : decode cX10_numberOf 29 = .ok (.ifCond .lt 12, 3) := by decide +kernel
theorem dX10_numberOf_32 : decode cX10_numberOf 32 = .ok (.aload_n 0, 1) := by decide +kernel
theorem dX10_numberOf_33 : decode cX10_numberOf 33 = .ok (.getfield 33, 3) := by decide +kernel
theorem dX10_numberOf_36 : decode cX10_numberOf 36 = .ok (.bipush 60, 2) := by decide +kernel
theorem dX10_numberOf_38 : decode cX10_numberOf 38 = .ok (.if_icmp .lt 10, 3) := by decide +kernel
theorem dX10_numberOf_41 : decode cX10_numberOf 41 = .ok (.aload_n 0, 1) := by decide +kernel
theorem dX10_numberOf_42 : decode cX10_numberOf 42 = .ok (.iconst 1, 1) := by decide +kernel
theorem dX10_numberOf_43 : decode cX10_numberOf 43 = .ok (.putfield 40, 3) := by decide +kernel
theorem dX10_numberOf_46 : decode cX10_numberOf 46 = .ok (.iconst 0, 1) := by decide +kernel
theorem dX10_numberOf_47 : decode cX10_numberOf 47 = .ok (.ireturn, 1) := by decide +kernel
theorem dX10_numberOf_48 : decode cX10_numberOf 48 = .ok (.aload_n 0, 1) := by decide +kernel
theorem dX10_numberOf_49 : decode cX10_numberOf 49 = .ok (.getfield 9, 3) := by decide +kernel
theorem dX10_numberOf_52 : decode cX10_numberOf 52 = .ok (.aload_n 0, 1) := by decide +kernel
theorem dX10_numberOf_53 : decode cX10_numberOf 53 = .ok (.getfield 33, 3) := by decide +kernel
theorem dX10_numberOf_56 : decode cX10_numberOf 56 = .ok (.iload_n 1, 1) := by decide +kernel
theorem dX10_numberOf_57 : decode cX10_numberOf 57 = .ok (.iastore, 1) := by decide +kernel
theorem dX10_numberOf_58 : decode cX10_numberOf 58 = .ok (.aload_n 0, 1) := by decide +kernel
theorem dX10_numberOf_59 : decode cX10_numberOf 59 = .ok (.getfield 15, 3) := by decide +kernel
theorem dX10_numberOf_62 : decode cX10_numberOf 62 = .ok (.aload_n 0, 1) := by decide +kernel
theorem dX10_numberOf_63 : decode cX10_numberOf 63 = .ok (.getfield 33, 3) := by decide +kernel
theorem dX10_numberOf_66 : decode cX10_numberOf 66 = .ok (.iconst (-1), 1) := by decide +kernel
theorem dX10_numberOf_67 : decode cX10_numberOf 67 = .ok (.iastore, 1) := by decide +kernel
theorem dX10_numberOf_68 : decode cX10_numberOf 68 = .ok (.aload_n 0, 1) := by decide +kernel
theorem dX10_numberOf_69 : decode cX10_numberOf 69 = .ok (.dup, 1) := by decide +kernel
theorem dX10_numberOf_70 : decode cX10_numberOf 70 = .ok (.getfield 33, 3) := by decide +kernel
theorem dX10_numberOf_73 : decode cX10_numberOf 73 = .ok (.iconst 1, 1) := by decide +kernel
theorem dX10_numberOf_74 : decode cX10_numberOf 74 = .ok (.iadd, 1) := by decide +kernel
theorem dX10_numberOf_75 : decode cX10_numberOf 75 = .ok (.putfield 33, 3) := by decide +kernel
theorem dX10_numberOf_78 : decode cX10_numberOf 78 = .ok (.aload_n 0, 1) := by decide +kernel
theorem dX10_numberOf_79 : decode cX10_numberOf 79 = .ok (.getfield 30, 3) := by decide +kernel
theorem dX10_numberOf_82 : decode cX10_numberOf 82 = .ok (.iload_n 2, 1) := by decide +kernel
theorem dX10_numberOf_83 : decode cX10_numberOf 83 = .ok (.aload_n 0, 1) := by decide +kernel
theorem dX10_numberOf_84 : decode cX10_numberOf 84 = .ok (.getfield 33, 3) := by decide +kernel
theorem dX10_numberOf_87 : decode cX10_numberOf 87 = .ok (.iastore, 1) := by decide +kernel
theorem dX10_numberOf_88 : decode cX10_numberOf 88 = .ok (.aload_n 0, 1) := by decide +kernel
theorem dX10_numberOf_89 : decode cX10_numberOf 89 = .ok (.getfield 33, 3) := by decide +kernel
theorem dX10_numberOf_92 : decode cX10_numberOf 92 = .ok (.iconst 1, 1) := by decide +kernel
theorem dX10_numberOf_93 : decode cX10_numberOf 93 = .ok (.isub, 1) := by decide +kernel
theorem dX10_numberOf_94 : decode cX10_numberOf 94 = .ok (.ireturn, 1) := by decide +kernel
theorem dX10_slotOf_0 : decode cX10_slotOf 0 = .ok (.iload_n 1, 1) := by decide +kernel
theorem dX10_slotOf_1 : decode cX10_slotOf 1 = .ok (.ldc 91, 2) := by decide +kernel
theorem dX10_slotOf_3 : decode cX10_slotOf 3 = .ok (.imul, 1) := by decide +kernel
theorem dX10_slotOf_4 : decode cX10_slotOf 4 = .ok (.iconst 5, 1) := by decide +kernel
theorem dX10_slotOf_5 : decode cX10_slotOf 5 = .ok (.ishr, 1) := by decide +kernel
theorem dX10_slotOf_6 : decode cX10_slotOf 6 = .ok (.istore_n 2, 1) := by decide +kernel
theorem dX10_slotOf_7 : decode cX10_slotOf 7 = .ok (.iconst 0, 1) := by decide +kernel
theorem dX10_slotOf_8 : decode cX10_slotOf 8 = .ok (.istore_n 3, 1) := by decide +kernel
theorem dX10_slotOf_9 : decode cX10_slotOf 9 = .ok (.iload_n 3, 1) := by decide +kernel
theorem dX10_slotOf_10 : decode cX10_slotOf 10 = .ok (.sipush 256, 3) := by decide +kernel
theorem dX10_slotOf_13 : decode cX10_slotOf 13 = .ok (.if_icmp .ge 49, 3) := by decide +kernel
theorem dX10_slotOf_16 : decode cX10_slotOf 16 = .ok (.iload_n 2, 1) := by decide +kernel
theorem dX10_slotOf_17 : decode cX10_slotOf 17 = .ok (.iload_n 3, 1) := by decide +kernel
theorem dX10_slotOf_18 : decode cX10_slotOf 18 = .ok (.iadd, 1) := by decide +kernel
theorem dX10_slotOf_19 : decode cX10_slotOf 19 = .ok (.sipush 255, 3) := by decide +kernel
theorem dX10_slotOf_22 : decode cX10_slotOf 22 = .ok (.iand, 1) := by decide +kernel
theorem dX10_slotOf_23 : decode cX10_slotOf 23 = .ok (.istore 4, 2) := by decide +kernel
theorem dX10_slotOf_25 : decode cX10_slotOf 25 = .ok (.aload_n 0, 1) := by decide +kernel
theorem dX10_slotOf_26 : decode cX10_slotOf 26 = .ok (.getfield 30, 3) := by decide +kernel
theorem dX10_slotOf_29 : decode cX10_slotOf 29 = .ok (.iload 4, 2) := by decide +kernel
theorem dX10_slotOf_31 : decode cX10_slotOf 31 = .ok (.iaload, 1) := by decide +kernel
theorem dX10_slotOf_32 : decode cX10_slotOf 32 = .ok (.ifCond .eq 21, 3) := by decide +kernel
theorem dX10_slotOf_35 : decode cX10_slotOf 35 = .ok (.aload_n 0, 1) := by decide +kernel
theorem dX10_slotOf_36 : decode cX10_slotOf 36 = .ok (.getfield 9, 3) := by decide +kernel
theorem dX10_slotOf_39 : decode cX10_slotOf 39 = .ok (.aload_n 0, 1) := by decide +kernel
theorem dX10_slotOf_40 : decode cX10_slotOf 40 = .ok (.getfield 30, 3) := by decide +kernel
theorem dX10_slotOf_43 : decode cX10_slotOf 43 = .ok (.iload 4, 2) := by decide +kernel
theorem dX10_slotOf_45 : decode cX10_slotOf 45 = .ok (.iaload, 1) := by decide +kernel
theorem dX10_slotOf_46 : decode cX10_slotOf 46 = .ok (.iconst 1, 1) := by decide +kernel
theorem dX10_slotOf_47 : decode cX10_slotOf 47 = .ok (.isub, 1) := by decide +kernel
theorem dX10_slotOf_48 : decode cX10_slotOf 48 = .ok (.iaload, 1) := by decide +kernel
theorem dX10_slotOf_49 : decode cX10_slotOf 49 = .ok (.iload_n 1, 1) := by decide +kernel
theorem dX10_slotOf_50 : decode cX10_slotOf 50 = .ok (.if_icmp .ne 6, 3) := by decide +kernel
theorem dX10_slotOf_53 : decode cX10_slotOf 53 = .ok (.iload 4, 2) := by decide +kernel
theorem dX10_slotOf_55 : decode cX10_slotOf 55 = .ok (.ireturn, 1) := by decide +kernel
theorem dX10_slotOf_56 : decode cX10_slotOf 56 = .ok (.iinc 3 1, 3) := by decide +kernel
theorem dX10_slotOf_59 : decode cX10_slotOf 59 = .ok (.goto (-50), 3) := by decide +kernel
theorem dX10_slotOf_62 : decode cX10_slotOf 62 = .ok (.iconst (-1), 1) := by decide +kernel
theorem dX10_slotOf_63 : decode cX10_slotOf 63 = .ok (.ireturn, 1) := by decide +kernel
def wX10_areSpent (F_spent : Int32) (K : Int32 → Prop) : Prop :=
  (ms_z F_spent ∧ K F_spent)
abbrev rmX10_areSpent : Room := { frames := 0, cells := 0, slots := 0, locals := 0 }
theorem nd_X10_areSpent : yX10_areSpent.cls = RX10 ∧ yX10_areSpent.cls ≠ "java/lang/invoke/MethodHandle" ∧ yX10_areSpent.cls ≠ "java/lang/invoke/VarHandle" ∧ (parseMethodDescriptor yX10_areSpent.desc).map (fun d => d.parameters.length) = some 0 := by decide +kernel
theorem hkX10_areSpent_X10 : ∀ w ∈ u_ws RX10 TX10 11, w ∈ wsX10_areSpent := fun w h => List.mem_cons_of_mem _ (inlX10 w h)
theorem hfX10_areSpent_40 : (Cond.fieldLink RX10 40 "NestReaders$Wholes" "spent" "Z") ∈ wsX10_areSpent := List.mem_cons_of_mem _ m6_15
set_option maxHeartbeats 4000000 in
set_option maxRecDepth 100000 in
theorem c_X10_areSpent (l : Launch) (G : va_G) (cI cJ cZ : ClassId) (q_t q_t_held q_t_pairs q_t_stepOf q_t_wholeOf q_t_next q_t_around q_t_plain q_t_slots : Nat) (F_size : Int32) (F_steps : Int32) (F_spent : Int32) {K : Int32 → Prop} (hw : wX10_areSpent F_spent K) : Met l yX10_areSpent wsX10_areSpent rmX10_areSpent (ms_P G (ms_T cI cJ cZ) [(q_t, .inr (10, [.ref q_t_held, .ref q_t_pairs, .ref q_t_stepOf, .ref q_t_wholeOf, .ref q_t_next, .ref q_t_around, .ref q_t_plain, .ref q_t_slots, .int F_size, .int F_steps, .int F_spent]))] [.ref q_t]) (ms_Qi (fun r : Int32 => ms_z r ∧ K r)) 0 0 ms_N := by
  refine ms_si (cc := cX10_areSpent) (maxL := 1) (ty := .boolean) (by decide) rfl (Nat.le_of_ble_eq_true rfl) ?_
  intro p e s m args below meth c Q hx hb hml hown hts hK hP hD hRet ls hl
  have hl : lv_has ls 1 [(0, .ref q_t)] := hl
  have hown : s.vm.findClass RX10 = some m.cls := hown
  refine lv_aload_n hx hb dX10_areSpent_0 rfl (lv_at hl 0 rfl) ?_
  refine va_get (D := G) (ci := 10) (v := .int F_spent) (C := RX10) (T := TX10) (N := 11) hx hb hts hkX10_areSpent_X10 hown hK hP 0 rfl rfl 10 (by decide) (hts (.fieldLink RX10 40 "NestReaders$Wholes" "spent" "Z") hfX10_areSpent_40) (fun _ h9 => h9) rfl dX10_areSpent_1 ?_
  have zz1 := hw.1
  have hw := hw.2
  exact hRet F_spent _ _ ⟨zz1, hw⟩ zz1 dX10_areSpent_4
def wX10_size (F_size : Int32) (K : Int32 → Prop) : Prop :=
  K F_size
abbrev rmX10_size : Room := { frames := 0, cells := 0, slots := 0, locals := 0 }
theorem nd_X10_size : yX10_size.cls = RX10 ∧ yX10_size.cls ≠ "java/lang/invoke/MethodHandle" ∧ yX10_size.cls ≠ "java/lang/invoke/VarHandle" ∧ (parseMethodDescriptor yX10_size.desc).map (fun d => d.parameters.length) = some 0 := by decide +kernel
theorem hkX10_size_X10 : ∀ w ∈ u_ws RX10 TX10 11, w ∈ wsX10_size := fun w h => List.mem_cons_of_mem _ (inlX10 w h)
theorem hfX10_size_33 : (Cond.fieldLink RX10 33 "NestReaders$Wholes" "size" "I") ∈ wsX10_size := List.mem_cons_of_mem _ m6_13
set_option maxHeartbeats 4000000 in
set_option maxRecDepth 100000 in
theorem c_X10_size (l : Launch) (G : va_G) (cI cJ cZ : ClassId) (q_t q_t_held q_t_pairs q_t_stepOf q_t_wholeOf q_t_next q_t_around q_t_plain q_t_slots : Nat) (F_size : Int32) (F_steps : Int32) (F_spent : Int32) {K : Int32 → Prop} (hw : wX10_size F_size K) : Met l yX10_size wsX10_size rmX10_size (ms_P G (ms_T cI cJ cZ) [(q_t, .inr (10, [.ref q_t_held, .ref q_t_pairs, .ref q_t_stepOf, .ref q_t_wholeOf, .ref q_t_next, .ref q_t_around, .ref q_t_plain, .ref q_t_slots, .int F_size, .int F_steps, .int F_spent]))] [.ref q_t]) (ms_Qi K) 0 0 ms_N := by
  refine ms_si (cc := cX10_size) (maxL := 1) (ty := .int) (by decide) rfl (Nat.le_of_ble_eq_true rfl) ?_
  intro p e s m args below meth c Q hx hb hml hown hts hK hP hD hRet ls hl
  have hl : lv_has ls 1 [(0, .ref q_t)] := hl
  have hown : s.vm.findClass RX10 = some m.cls := hown
  refine lv_aload_n hx hb dX10_size_0 rfl (lv_at hl 0 rfl) ?_
  refine va_get (D := G) (ci := 10) (v := .int F_size) (C := RX10) (T := TX10) (N := 11) hx hb hts hkX10_size_X10 hown hK hP 0 rfl rfl 8 (by decide) (hts (.fieldLink RX10 33 "NestReaders$Wholes" "size" "I") hfX10_size_33) (fun _ h9 => h9) rfl dX10_size_1 ?_
  exact hRet F_size _ _ hw (vp_nar_int _) dX10_size_4
def wX10_steps (F_steps : Int32) (K : Int32 → Prop) : Prop :=
  K F_steps
abbrev rmX10_steps : Room := { frames := 0, cells := 0, slots := 0, locals := 0 }
theorem nd_X10_steps : yX10_steps.cls = RX10 ∧ yX10_steps.cls ≠ "java/lang/invoke/MethodHandle" ∧ yX10_steps.cls ≠ "java/lang/invoke/VarHandle" ∧ (parseMethodDescriptor yX10_steps.desc).map (fun d => d.parameters.length) = some 0 := by decide +kernel
theorem hkX10_steps_X10 : ∀ w ∈ u_ws RX10 TX10 11, w ∈ wsX10_steps := fun w h => List.mem_cons_of_mem _ (inlX10 w h)
theorem hfX10_steps_37 : (Cond.fieldLink RX10 37 "NestReaders$Wholes" "steps" "I") ∈ wsX10_steps := List.mem_cons_of_mem _ m6_14
set_option maxHeartbeats 4000000 in
set_option maxRecDepth 100000 in
theorem c_X10_steps (l : Launch) (G : va_G) (cI cJ cZ : ClassId) (q_t q_t_held q_t_pairs q_t_stepOf q_t_wholeOf q_t_next q_t_around q_t_plain q_t_slots : Nat) (F_size : Int32) (F_steps : Int32) (F_spent : Int32) {K : Int32 → Prop} (hw : wX10_steps F_steps K) : Met l yX10_steps wsX10_steps rmX10_steps (ms_P G (ms_T cI cJ cZ) [(q_t, .inr (10, [.ref q_t_held, .ref q_t_pairs, .ref q_t_stepOf, .ref q_t_wholeOf, .ref q_t_next, .ref q_t_around, .ref q_t_plain, .ref q_t_slots, .int F_size, .int F_steps, .int F_spent]))] [.ref q_t]) (ms_Qi K) 0 0 ms_N := by
  refine ms_si (cc := cX10_steps) (maxL := 1) (ty := .int) (by decide) rfl (Nat.le_of_ble_eq_true rfl) ?_
  intro p e s m args below meth c Q hx hb hml hown hts hK hP hD hRet ls hl
  have hl : lv_has ls 1 [(0, .ref q_t)] := hl
  have hown : s.vm.findClass RX10 = some m.cls := hown
  refine lv_aload_n hx hb dX10_steps_0 rfl (lv_at hl 0 rfl) ?_
  refine va_get (D := G) (ci := 10) (v := .int F_steps) (C := RX10) (T := TX10) (N := 11) hx hb hts hkX10_steps_X10 hown hK hP 0 rfl rfl 9 (by decide) (hts (.fieldLink RX10 37 "NestReaders$Wholes" "steps" "I") hfX10_steps_37) (fun _ h9 => h9) rfl dX10_steps_1 ?_
  exact hRet F_steps _ _ hw (vp_nar_int _) dX10_steps_4
def wX10_pairAt (p0 : Int32) (F_size : Int32) (A_pairs : Nat → Int32) (K : Int32 → Prop) : Prop :=
  ((p0 < (0 : Int32) → K (0 : Int32)) ∧ (¬ p0 < (0 : Int32) → ((F_size ≤ p0 → K (0 : Int32)) ∧ (¬ F_size ≤ p0 → (vp_in p0 60 ∧ K (A_pairs p0.toNatClampNeg))))))
abbrev rmX10_pairAt : Room := { frames := 0, cells := 0, slots := 0, locals := 0 }
theorem nd_X10_pairAt : yX10_pairAt.cls = RX10 ∧ yX10_pairAt.cls ≠ "java/lang/invoke/MethodHandle" ∧ yX10_pairAt.cls ≠ "java/lang/invoke/VarHandle" ∧ (parseMethodDescriptor yX10_pairAt.desc).map (fun d => d.parameters.length) = some 1 := by decide +kernel
theorem hkX10_pairAt_X10 : ∀ w ∈ u_ws RX10 TX10 11, w ∈ wsX10_pairAt := fun w h => List.mem_cons_of_mem _ (inlX10 w h)
theorem hfX10_pairAt_33 : (Cond.fieldLink RX10 33 "NestReaders$Wholes" "size" "I") ∈ wsX10_pairAt := List.mem_cons_of_mem _ m6_13
theorem hfX10_pairAt_9 : (Cond.fieldLink RX10 9 "NestReaders$Wholes" "pairs" "[I") ∈ wsX10_pairAt := List.mem_cons_of_mem _ m6_6
set_option maxHeartbeats 4000000 in
set_option maxRecDepth 100000 in
theorem c_X10_pairAt (l : Launch) (G : va_G) (cI cJ cZ : ClassId) (q_t q_t_held q_t_pairs q_t_stepOf q_t_wholeOf q_t_next q_t_around q_t_plain q_t_slots : Nat) (F_size : Int32) (F_steps : Int32) (F_spent : Int32) (A_pairs : Nat → Int32) (p0 : Int32) {K : Int32 → Prop} (hw : wX10_pairAt p0 F_size A_pairs K) : Met l yX10_pairAt wsX10_pairAt rmX10_pairAt (ms_P G (ms_T cI cJ cZ) [(q_t, .inr (10, [.ref q_t_held, .ref q_t_pairs, .ref q_t_stepOf, .ref q_t_wholeOf, .ref q_t_next, .ref q_t_around, .ref q_t_plain, .ref q_t_slots, .int F_size, .int F_steps, .int F_spent])), (q_t_pairs, .inl (cI, 60, .inl A_pairs))] [.ref q_t, .int p0]) (ms_Qi K) 0 0 ms_N := by
  refine ms_si (cc := cX10_pairAt) (maxL := 2) (ty := .int) (by decide) rfl (Nat.le_of_ble_eq_true rfl) ?_
  intro p e s m args below meth c Q hx hb hml hown hts hK hP hD hRet ls hl
  have hl : lv_has ls 2 [(0, .ref q_t), (1, .int p0)] := hl
  have hown : s.vm.findClass RX10 = some m.cls := hown
  refine lv_iload_n hx hb dX10_pairAt_0 rfl (lv_at hl 1 rfl) ?_
  refine lv_if_lt (tgt := 21) hx hb dX10_pairAt_1 (by decide) (fun c1 => ?_) (fun c1 => ?_)
  · have hw := hw.1 c1
    refine lv_iconst (v := 0) hx hb dX10_pairAt_21 (by decide) ?_
    exact hRet (0 : Int32) _ _ hw (vp_nar_int _) dX10_pairAt_22
  · have hw := hw.2 c1
    refine lv_iload_n hx hb dX10_pairAt_4 rfl (lv_at hl 1 rfl) ?_
    refine lv_aload_n hx hb dX10_pairAt_5 rfl (lv_at hl 0 rfl) ?_
    refine va_get (D := G) (ci := 10) (v := .int F_size) (C := RX10) (T := TX10) (N := 11) hx hb hts hkX10_pairAt_X10 hown hK hP 0 rfl rfl 8 (by decide) (hts (.fieldLink RX10 33 "NestReaders$Wholes" "size" "I") hfX10_pairAt_33) (fun _ h9 => h9) rfl dX10_pairAt_6 ?_
    refine lv_icmp_ge (tgt := 21) hx hb dX10_pairAt_9 (by decide) (fun c2 => ?_) (fun c2 => ?_)
    · have hw := hw.1 c2
      refine lv_iconst (v := 0) hx hb dX10_pairAt_21 (by decide) ?_
      exact hRet (0 : Int32) _ _ hw (vp_nar_int _) dX10_pairAt_22
    · have hw := hw.2 c2
      refine lv_aload_n hx hb dX10_pairAt_12 rfl (lv_at hl 0 rfl) ?_
      refine va_get (D := G) (ci := 10) (v := .ref q_t_pairs) (C := RX10) (T := TX10) (N := 11) hx hb hts hkX10_pairAt_X10 hown hK hP 0 rfl rfl 1 (by decide) (hts (.fieldLink RX10 9 "NestReaders$Wholes" "pairs" "[I") hfX10_pairAt_9) (fun _ h9 => h9) rfl dX10_pairAt_13 ?_
      refine lv_iload_n hx hb dX10_pairAt_16 rfl (lv_at hl 1 rfl) ?_
      refine va_iald (D := G) hx hb hK hP 1 0 rfl rfl hw.1 dX10_pairAt_17 ?_
      have hw := hw.2
      refine lv_goto (tgt := 22) hx hb dX10_pairAt_18 (by decide) ?_
      exact hRet (A_pairs p0.toNatClampNeg) _ _ hw (vp_nar_int _) dX10_pairAt_22
def wX10_wholeOfStep (p0 : Int32) (F_steps : Int32) (A_wholeOf : Nat → Int32) (K : Int32 → Prop) : Prop :=
  ((p0 < (0 : Int32) → K (0 : Int32)) ∧ (¬ p0 < (0 : Int32) → ((F_steps ≤ p0 → K (0 : Int32)) ∧ (¬ F_steps ≤ p0 → (vp_in p0 60 ∧ K (A_wholeOf p0.toNatClampNeg))))))
abbrev rmX10_wholeOfStep : Room := { frames := 0, cells := 0, slots := 0, locals := 0 }
theorem nd_X10_wholeOfStep : yX10_wholeOfStep.cls = RX10 ∧ yX10_wholeOfStep.cls ≠ "java/lang/invoke/MethodHandle" ∧ yX10_wholeOfStep.cls ≠ "java/lang/invoke/VarHandle" ∧ (parseMethodDescriptor yX10_wholeOfStep.desc).map (fun d => d.parameters.length) = some 1 := by decide +kernel
theorem hkX10_wholeOfStep_X10 : ∀ w ∈ u_ws RX10 TX10 11, w ∈ wsX10_wholeOfStep := fun w h => List.mem_cons_of_mem _ (inlX10 w h)
theorem hfX10_wholeOfStep_37 : (Cond.fieldLink RX10 37 "NestReaders$Wholes" "steps" "I") ∈ wsX10_wholeOfStep := List.mem_cons_of_mem _ m6_14
theorem hfX10_wholeOfStep_18 : (Cond.fieldLink RX10 18 "NestReaders$Wholes" "wholeOf" "[I") ∈ wsX10_wholeOfStep := List.mem_cons_of_mem _ m6_8
set_option maxHeartbeats 4000000 in
set_option maxRecDepth 100000 in
theorem c_X10_wholeOfStep (l : Launch) (G : va_G) (cI cJ cZ : ClassId) (q_t q_t_held q_t_pairs q_t_stepOf q_t_wholeOf q_t_next q_t_around q_t_plain q_t_slots : Nat) (F_size : Int32) (F_steps : Int32) (F_spent : Int32) (A_wholeOf : Nat → Int32) (p0 : Int32) {K : Int32 → Prop} (hw : wX10_wholeOfStep p0 F_steps A_wholeOf K) : Met l yX10_wholeOfStep wsX10_wholeOfStep rmX10_wholeOfStep (ms_P G (ms_T cI cJ cZ) [(q_t, .inr (10, [.ref q_t_held, .ref q_t_pairs, .ref q_t_stepOf, .ref q_t_wholeOf, .ref q_t_next, .ref q_t_around, .ref q_t_plain, .ref q_t_slots, .int F_size, .int F_steps, .int F_spent])), (q_t_wholeOf, .inl (cI, 60, .inl A_wholeOf))] [.ref q_t, .int p0]) (ms_Qi K) 0 0 ms_N := by
  refine ms_si (cc := cX10_wholeOfStep) (maxL := 2) (ty := .int) (by decide) rfl (Nat.le_of_ble_eq_true rfl) ?_
  intro p e s m args below meth c Q hx hb hml hown hts hK hP hD hRet ls hl
  have hl : lv_has ls 2 [(0, .ref q_t), (1, .int p0)] := hl
  have hown : s.vm.findClass RX10 = some m.cls := hown
  refine lv_iload_n hx hb dX10_wholeOfStep_0 rfl (lv_at hl 1 rfl) ?_
  refine lv_if_lt (tgt := 21) hx hb dX10_wholeOfStep_1 (by decide) (fun c1 => ?_) (fun c1 => ?_)
  · have hw := hw.1 c1
    refine lv_iconst (v := 0) hx hb dX10_wholeOfStep_21 (by decide) ?_
    exact hRet (0 : Int32) _ _ hw (vp_nar_int _) dX10_wholeOfStep_22
  · have hw := hw.2 c1
    refine lv_iload_n hx hb dX10_wholeOfStep_4 rfl (lv_at hl 1 rfl) ?_
    refine lv_aload_n hx hb dX10_wholeOfStep_5 rfl (lv_at hl 0 rfl) ?_
    refine va_get (D := G) (ci := 10) (v := .int F_steps) (C := RX10) (T := TX10) (N := 11) hx hb hts hkX10_wholeOfStep_X10 hown hK hP 0 rfl rfl 9 (by decide) (hts (.fieldLink RX10 37 "NestReaders$Wholes" "steps" "I") hfX10_wholeOfStep_37) (fun _ h9 => h9) rfl dX10_wholeOfStep_6 ?_
    refine lv_icmp_ge (tgt := 21) hx hb dX10_wholeOfStep_9 (by decide) (fun c2 => ?_) (fun c2 => ?_)
    · have hw := hw.1 c2
      refine lv_iconst (v := 0) hx hb dX10_wholeOfStep_21 (by decide) ?_
      exact hRet (0 : Int32) _ _ hw (vp_nar_int _) dX10_wholeOfStep_22
    · have hw := hw.2 c2
      refine lv_aload_n hx hb dX10_wholeOfStep_12 rfl (lv_at hl 0 rfl) ?_
      refine va_get (D := G) (ci := 10) (v := .ref q_t_wholeOf) (C := RX10) (T := TX10) (N := 11) hx hb hts hkX10_wholeOfStep_X10 hown hK hP 0 rfl rfl 3 (by decide) (hts (.fieldLink RX10 18 "NestReaders$Wholes" "wholeOf" "[I") hfX10_wholeOfStep_18) (fun _ h9 => h9) rfl dX10_wholeOfStep_13 ?_
      refine lv_iload_n hx hb dX10_wholeOfStep_16 rfl (lv_at hl 1 rfl) ?_
      refine va_iald (D := G) hx hb hK hP 1 0 rfl rfl hw.1 dX10_wholeOfStep_17 ?_
      have hw := hw.2
      refine lv_goto (tgt := 22) hx hb dX10_wholeOfStep_18 (by decide) ?_
      exact hRet (A_wholeOf p0.toNatClampNeg) _ _ hw (vp_nar_int _) dX10_wholeOfStep_22
def wX10_after (p0 : Int32) (p1 : Int32) (F_size : Int32) (F_steps : Int32) (A_next : Nat → Int32) (K : Int32 → Prop) : Prop :=
  ((p0 < (0 : Int32) → K (0 : Int32)) ∧ (¬ p0 < (0 : Int32) → ((F_size ≤ p0 → K (0 : Int32)) ∧ (¬ F_size ≤ p0 → ((p1 < (0 : Int32) → K (0 : Int32)) ∧ (¬ p1 < (0 : Int32) → ((F_steps ≤ p1 → K (0 : Int32)) ∧ (¬ F_steps ≤ p1 → (vp_in ((p0 * (60 : Int32)) + p1) 3600 ∧ K (A_next ((p0 * (60 : Int32)) + p1).toNatClampNeg))))))))))
abbrev rmX10_after : Room := { frames := 0, cells := 0, slots := 0, locals := 0 }
theorem nd_X10_after : yX10_after.cls = RX10 ∧ yX10_after.cls ≠ "java/lang/invoke/MethodHandle" ∧ yX10_after.cls ≠ "java/lang/invoke/VarHandle" ∧ (parseMethodDescriptor yX10_after.desc).map (fun d => d.parameters.length) = some 2 := by decide +kernel
theorem hkX10_after_X10 : ∀ w ∈ u_ws RX10 TX10 11, w ∈ wsX10_after := fun w h => List.mem_cons_of_mem _ (inlX10 w h)
theorem hfX10_after_33 : (Cond.fieldLink RX10 33 "NestReaders$Wholes" "size" "I") ∈ wsX10_after := List.mem_cons_of_mem _ m6_13
theorem hfX10_after_37 : (Cond.fieldLink RX10 37 "NestReaders$Wholes" "steps" "I") ∈ wsX10_after := List.mem_cons_of_mem _ m6_14
theorem hfX10_after_21 : (Cond.fieldLink RX10 21 "NestReaders$Wholes" "next" "[I") ∈ wsX10_after := List.mem_cons_of_mem _ m6_9
set_option maxHeartbeats 4000000 in
set_option maxRecDepth 100000 in
theorem c_X10_after (l : Launch) (G : va_G) (cI cJ cZ : ClassId) (q_t q_t_held q_t_pairs q_t_stepOf q_t_wholeOf q_t_next q_t_around q_t_plain q_t_slots : Nat) (F_size : Int32) (F_steps : Int32) (F_spent : Int32) (A_next : Nat → Int32) (p0 : Int32) (p1 : Int32) {K : Int32 → Prop} (hw : wX10_after p0 p1 F_size F_steps A_next K) : Met l yX10_after wsX10_after rmX10_after (ms_P G (ms_T cI cJ cZ) [(q_t, .inr (10, [.ref q_t_held, .ref q_t_pairs, .ref q_t_stepOf, .ref q_t_wholeOf, .ref q_t_next, .ref q_t_around, .ref q_t_plain, .ref q_t_slots, .int F_size, .int F_steps, .int F_spent])), (q_t_next, .inl (cI, 3600, .inl A_next))] [.ref q_t, .int p0, .int p1]) (ms_Qi K) 0 0 ms_N := by
  refine ms_si (cc := cX10_after) (maxL := 4) (ty := .int) (by decide) rfl (Nat.le_of_ble_eq_true rfl) ?_
  intro p e s m args below meth c Q hx hb hml hown hts hK hP hD hRet ls hl
  have hl : lv_has ls 4 [(0, .ref q_t), (1, .int p0), (2, .int p1)] := hl
  have hown : s.vm.findClass RX10 = some m.cls := hown
  refine lv_iload_n hx hb dX10_after_0 rfl (lv_at hl 1 rfl) ?_
  refine lv_if_lt (tgt := 28) hx hb dX10_after_1 (by decide) (fun c1 => ?_) (fun c1 => ?_)
  · have hw := hw.1 c1
    refine lv_iconst (v := 0) hx hb dX10_after_28 (by decide) ?_
    refine lv_istore_n (lv' := [(3, .int (0 : Int32)), (0, .ref q_t), (1, .int p0), (2, .int p1)]) hx hb dX10_after_29 rfl hl (by decide) rfl (fun ls hl => ?_)
    refine lv_iload_n hx hb dX10_after_30 rfl (lv_at hl 0 rfl) ?_
    refine lv_if_eq (tgt := 48) hx hb dX10_after_31 (by decide) (fun c2 => ?_) (fun c2 => absurd c2 (by decide))
    refine lv_iconst (v := 0) hx hb dX10_after_48 (by decide) ?_
    exact hRet (0 : Int32) _ _ hw (vp_nar_int _) dX10_after_49
  · have hw := hw.2 c1
    refine lv_iload_n hx hb dX10_after_4 rfl (lv_at hl 1 rfl) ?_
    refine lv_aload_n hx hb dX10_after_5 rfl (lv_at hl 0 rfl) ?_
    refine va_get (D := G) (ci := 10) (v := .int F_size) (C := RX10) (T := TX10) (N := 11) hx hb hts hkX10_after_X10 hown hK hP 0 rfl rfl 8 (by decide) (hts (.fieldLink RX10 33 "NestReaders$Wholes" "size" "I") hfX10_after_33) (fun _ h9 => h9) rfl dX10_after_6 ?_
    refine lv_icmp_ge (tgt := 28) hx hb dX10_after_9 (by decide) (fun c3 => ?_) (fun c3 => ?_)
    · have hw := hw.1 c3
      refine lv_iconst (v := 0) hx hb dX10_after_28 (by decide) ?_
      refine lv_istore_n (lv' := [(3, .int (0 : Int32)), (0, .ref q_t), (1, .int p0), (2, .int p1)]) hx hb dX10_after_29 rfl hl (by decide) rfl (fun ls hl => ?_)
      refine lv_iload_n hx hb dX10_after_30 rfl (lv_at hl 0 rfl) ?_
      refine lv_if_eq (tgt := 48) hx hb dX10_after_31 (by decide) (fun c4 => ?_) (fun c4 => absurd c4 (by decide))
      refine lv_iconst (v := 0) hx hb dX10_after_48 (by decide) ?_
      exact hRet (0 : Int32) _ _ hw (vp_nar_int _) dX10_after_49
    · have hw := hw.2 c3
      refine lv_iload_n hx hb dX10_after_12 rfl (lv_at hl 2 rfl) ?_
      refine lv_if_lt (tgt := 28) hx hb dX10_after_13 (by decide) (fun c5 => ?_) (fun c5 => ?_)
      · have hw := hw.1 c5
        refine lv_iconst (v := 0) hx hb dX10_after_28 (by decide) ?_
        refine lv_istore_n (lv' := [(3, .int (0 : Int32)), (0, .ref q_t), (1, .int p0), (2, .int p1)]) hx hb dX10_after_29 rfl hl (by decide) rfl (fun ls hl => ?_)
        refine lv_iload_n hx hb dX10_after_30 rfl (lv_at hl 0 rfl) ?_
        refine lv_if_eq (tgt := 48) hx hb dX10_after_31 (by decide) (fun c6 => ?_) (fun c6 => absurd c6 (by decide))
        refine lv_iconst (v := 0) hx hb dX10_after_48 (by decide) ?_
        exact hRet (0 : Int32) _ _ hw (vp_nar_int _) dX10_after_49
      · have hw := hw.2 c5
        refine lv_iload_n hx hb dX10_after_16 rfl (lv_at hl 2 rfl) ?_
        refine lv_aload_n hx hb dX10_after_17 rfl (lv_at hl 0 rfl) ?_
        refine va_get (D := G) (ci := 10) (v := .int F_steps) (C := RX10) (T := TX10) (N := 11) hx hb hts hkX10_after_X10 hown hK hP 0 rfl rfl 9 (by decide) (hts (.fieldLink RX10 37 "NestReaders$Wholes" "steps" "I") hfX10_after_37) (fun _ h9 => h9) rfl dX10_after_18 ?_
        refine lv_icmp_ge (tgt := 28) hx hb dX10_after_21 (by decide) (fun c7 => ?_) (fun c7 => ?_)
        · have hw := hw.1 c7
          refine lv_iconst (v := 0) hx hb dX10_after_28 (by decide) ?_
          refine lv_istore_n (lv' := [(3, .int (0 : Int32)), (0, .ref q_t), (1, .int p0), (2, .int p1)]) hx hb dX10_after_29 rfl hl (by decide) rfl (fun ls hl => ?_)
          refine lv_iload_n hx hb dX10_after_30 rfl (lv_at hl 0 rfl) ?_
          refine lv_if_eq (tgt := 48) hx hb dX10_after_31 (by decide) (fun c8 => ?_) (fun c8 => absurd c8 (by decide))
          refine lv_iconst (v := 0) hx hb dX10_after_48 (by decide) ?_
          exact hRet (0 : Int32) _ _ hw (vp_nar_int _) dX10_after_49
        · have hw := hw.2 c7
          refine lv_iconst (v := 1) hx hb dX10_after_24 (by decide) ?_
          refine lv_goto (tgt := 29) hx hb dX10_after_25 (by decide) ?_
          refine lv_istore_n (lv' := [(3, .int (1 : Int32)), (0, .ref q_t), (1, .int p0), (2, .int p1)]) hx hb dX10_after_29 rfl hl (by decide) rfl (fun ls hl => ?_)
          refine lv_iload_n hx hb dX10_after_30 rfl (lv_at hl 0 rfl) ?_
          refine lv_if_eq (tgt := 48) hx hb dX10_after_31 (by decide) (fun c9 => absurd c9 (by decide)) (fun c9 => ?_)
          refine lv_aload_n hx hb dX10_after_34 rfl (lv_at hl 1 rfl) ?_
          refine va_get (D := G) (ci := 10) (v := .ref q_t_next) (C := RX10) (T := TX10) (N := 11) hx hb hts hkX10_after_X10 hown hK hP 0 rfl rfl 4 (by decide) (hts (.fieldLink RX10 21 "NestReaders$Wholes" "next" "[I") hfX10_after_21) (fun _ h9 => h9) rfl dX10_after_35 ?_
          refine lv_iload_n hx hb dX10_after_38 rfl (lv_at hl 2 rfl) ?_
          refine lv_bipush (v := (60)) hx hb dX10_after_39 (by decide) ?_
          refine lv_imul hx hb dX10_after_41 ?_
          refine lv_iload_n hx hb dX10_after_42 rfl (lv_at hl 3 rfl) ?_
          refine lv_iadd hx hb dX10_after_43 ?_
          refine va_iald (D := G) hx hb hK hP 1 0 rfl rfl hw.1 dX10_after_44 ?_
          have hw := hw.2
          refine lv_goto (tgt := 49) hx hb dX10_after_45 (by decide) ?_
          exact hRet (A_next ((p0 * (60 : Int32)) + p1).toNatClampNeg) _ _ hw (vp_nar_int _) dX10_after_49
def wX10_stepAround (p0 : Int32) (p1 : Int32) (F_size : Int32) (A_around : Nat → Int32) (K : Int32 → Prop) : Prop :=
  ((p0 < (0 : Int32) → K (0 : Int32)) ∧ (¬ p0 < (0 : Int32) → ((F_size ≤ p0 → K (0 : Int32)) ∧ (¬ F_size ≤ p0 → ((p1 < (0 : Int32) → K (0 : Int32)) ∧ (¬ p1 < (0 : Int32) → (((4 : Int32) ≤ p1 → K (0 : Int32)) ∧ (¬ (4 : Int32) ≤ p1 → (vp_in (((4 : Int32) * p0) + p1) 240 ∧ K (A_around (((4 : Int32) * p0) + p1).toNatClampNeg))))))))))
abbrev rmX10_stepAround : Room := { frames := 0, cells := 0, slots := 0, locals := 0 }
theorem nd_X10_stepAround : yX10_stepAround.cls = RX10 ∧ yX10_stepAround.cls ≠ "java/lang/invoke/MethodHandle" ∧ yX10_stepAround.cls ≠ "java/lang/invoke/VarHandle" ∧ (parseMethodDescriptor yX10_stepAround.desc).map (fun d => d.parameters.length) = some 2 := by decide +kernel
theorem hkX10_stepAround_X10 : ∀ w ∈ u_ws RX10 TX10 11, w ∈ wsX10_stepAround := fun w h => List.mem_cons_of_mem _ (inlX10 w h)
theorem hfX10_stepAround_33 : (Cond.fieldLink RX10 33 "NestReaders$Wholes" "size" "I") ∈ wsX10_stepAround := List.mem_cons_of_mem _ m6_13
theorem hfX10_stepAround_24 : (Cond.fieldLink RX10 24 "NestReaders$Wholes" "around" "[I") ∈ wsX10_stepAround := List.mem_cons_of_mem _ m6_10
set_option maxHeartbeats 4000000 in
set_option maxRecDepth 100000 in
theorem c_X10_stepAround (l : Launch) (G : va_G) (cI cJ cZ : ClassId) (q_t q_t_held q_t_pairs q_t_stepOf q_t_wholeOf q_t_next q_t_around q_t_plain q_t_slots : Nat) (F_size : Int32) (F_steps : Int32) (F_spent : Int32) (A_around : Nat → Int32) (p0 : Int32) (p1 : Int32) {K : Int32 → Prop} (hw : wX10_stepAround p0 p1 F_size A_around K) : Met l yX10_stepAround wsX10_stepAround rmX10_stepAround (ms_P G (ms_T cI cJ cZ) [(q_t, .inr (10, [.ref q_t_held, .ref q_t_pairs, .ref q_t_stepOf, .ref q_t_wholeOf, .ref q_t_next, .ref q_t_around, .ref q_t_plain, .ref q_t_slots, .int F_size, .int F_steps, .int F_spent])), (q_t_around, .inl (cI, 240, .inl A_around))] [.ref q_t, .int p0, .int p1]) (ms_Qi K) 0 0 ms_N := by
  refine ms_si (cc := cX10_stepAround) (maxL := 3) (ty := .int) (by decide) rfl (Nat.le_of_ble_eq_true rfl) ?_
  intro p e s m args below meth c Q hx hb hml hown hts hK hP hD hRet ls hl
  have hl : lv_has ls 3 [(0, .ref q_t), (1, .int p0), (2, .int p1)] := hl
  have hown : s.vm.findClass RX10 = some m.cls := hown
  refine lv_iload_n hx hb dX10_stepAround_0 rfl (lv_at hl 1 rfl) ?_
  refine lv_if_lt (tgt := 34) hx hb dX10_stepAround_1 (by decide) (fun c1 => ?_) (fun c1 => ?_)
  · have hw := hw.1 c1
    refine lv_iconst (v := 0) hx hb dX10_stepAround_34 (by decide) ?_
    exact hRet (0 : Int32) _ _ hw (vp_nar_int _) dX10_stepAround_35
  · have hw := hw.2 c1
    refine lv_iload_n hx hb dX10_stepAround_4 rfl (lv_at hl 1 rfl) ?_
    refine lv_aload_n hx hb dX10_stepAround_5 rfl (lv_at hl 0 rfl) ?_
    refine va_get (D := G) (ci := 10) (v := .int F_size) (C := RX10) (T := TX10) (N := 11) hx hb hts hkX10_stepAround_X10 hown hK hP 0 rfl rfl 8 (by decide) (hts (.fieldLink RX10 33 "NestReaders$Wholes" "size" "I") hfX10_stepAround_33) (fun _ h9 => h9) rfl dX10_stepAround_6 ?_
    refine lv_icmp_ge (tgt := 34) hx hb dX10_stepAround_9 (by decide) (fun c2 => ?_) (fun c2 => ?_)
    · have hw := hw.1 c2
      refine lv_iconst (v := 0) hx hb dX10_stepAround_34 (by decide) ?_
      exact hRet (0 : Int32) _ _ hw (vp_nar_int _) dX10_stepAround_35
    · have hw := hw.2 c2
      refine lv_iload_n hx hb dX10_stepAround_12 rfl (lv_at hl 2 rfl) ?_
      refine lv_if_lt (tgt := 34) hx hb dX10_stepAround_13 (by decide) (fun c3 => ?_) (fun c3 => ?_)
      · have hw := hw.1 c3
        refine lv_iconst (v := 0) hx hb dX10_stepAround_34 (by decide) ?_
        exact hRet (0 : Int32) _ _ hw (vp_nar_int _) dX10_stepAround_35
      · have hw := hw.2 c3
        refine lv_iload_n hx hb dX10_stepAround_16 rfl (lv_at hl 2 rfl) ?_
        refine lv_iconst (v := 4) hx hb dX10_stepAround_17 (by decide) ?_
        refine lv_icmp_ge (tgt := 34) hx hb dX10_stepAround_18 (by decide) (fun c4 => ?_) (fun c4 => ?_)
        · have hw := hw.1 c4
          refine lv_iconst (v := 0) hx hb dX10_stepAround_34 (by decide) ?_
          exact hRet (0 : Int32) _ _ hw (vp_nar_int _) dX10_stepAround_35
        · have hw := hw.2 c4
          refine lv_aload_n hx hb dX10_stepAround_21 rfl (lv_at hl 0 rfl) ?_
          refine va_get (D := G) (ci := 10) (v := .ref q_t_around) (C := RX10) (T := TX10) (N := 11) hx hb hts hkX10_stepAround_X10 hown hK hP 0 rfl rfl 5 (by decide) (hts (.fieldLink RX10 24 "NestReaders$Wholes" "around" "[I") hfX10_stepAround_24) (fun _ h9 => h9) rfl dX10_stepAround_22 ?_
          refine lv_iconst (v := 4) hx hb dX10_stepAround_25 (by decide) ?_
          refine lv_iload_n hx hb dX10_stepAround_26 rfl (lv_at hl 1 rfl) ?_
          refine lv_imul hx hb dX10_stepAround_27 ?_
          refine lv_iload_n hx hb dX10_stepAround_28 rfl (lv_at hl 2 rfl) ?_
          refine lv_iadd hx hb dX10_stepAround_29 ?_
          refine va_iald (D := G) hx hb hK hP 1 0 rfl rfl hw.1 dX10_stepAround_30 ?_
          have hw := hw.2
          refine lv_goto (tgt := 35) hx hb dX10_stepAround_31 (by decide) ?_
          exact hRet (A_around (((4 : Int32) * p0) + p1).toNatClampNeg) _ _ hw (vp_nar_int _) dX10_stepAround_35
def wX10_stepOfPlain (p0 : Int32) (A_plain : Nat → Int32) (K : Int32 → Prop) : Prop :=
  (wX5_isPlain p0 (fun r1 => ((r1 = (0 : Int32) → K (0 : Int32)) ∧ (¬ r1 = (0 : Int32) → (vp_in (p0 - (2 : Int32)) 2 ∧ K (A_plain (p0 - (2 : Int32)).toNatClampNeg))))))
abbrev rmX10_stepOfPlain : Room := { frames := 1, cells := 0, slots := 0, locals := 20 }
theorem nd_X10_stepOfPlain : yX10_stepOfPlain.cls = RX10 ∧ yX10_stepOfPlain.cls ≠ "java/lang/invoke/MethodHandle" ∧ yX10_stepOfPlain.cls ≠ "java/lang/invoke/VarHandle" ∧ (parseMethodDescriptor yX10_stepOfPlain.desc).map (fun d => d.parameters.length) = some 1 := by decide +kernel
theorem hkX10_stepOfPlain_X10 : ∀ w ∈ u_ws RX10 TX10 11, w ∈ wsX10_stepOfPlain := fun w h => List.mem_cons_of_mem _ (inlX10 w h)
theorem hfX10_stepOfPlain_27 : (Cond.fieldLink RX10 27 "NestReaders$Wholes" "plain" "[I") ∈ wsX10_stepOfPlain := List.mem_cons_of_mem _ m6_11
set_option maxHeartbeats 4000000 in
set_option maxRecDepth 100000 in
theorem c_X10_stepOfPlain (l : Launch) (G : va_G) (cI cJ cZ : ClassId) (q_t q_t_held q_t_pairs q_t_stepOf q_t_wholeOf q_t_next q_t_around q_t_plain q_t_slots : Nat) (F_size : Int32) (F_steps : Int32) (F_spent : Int32) (A_plain : Nat → Int32) (p0 : Int32) {K : Int32 → Prop} (hw : wX10_stepOfPlain p0 A_plain K) : Met l yX10_stepOfPlain wsX10_stepOfPlain rmX10_stepOfPlain (ms_P G (ms_T cI cJ cZ) [(q_t, .inr (10, [.ref q_t_held, .ref q_t_pairs, .ref q_t_stepOf, .ref q_t_wholeOf, .ref q_t_next, .ref q_t_around, .ref q_t_plain, .ref q_t_slots, .int F_size, .int F_steps, .int F_spent])), (q_t_plain, .inl (cI, 2, .inl A_plain))] [.ref q_t, .int p0]) (ms_Qi K) 0 0 ms_N := by
  refine ms_si (cc := cX10_stepOfPlain) (maxL := 2) (ty := .int) (by decide) rfl (Nat.le_of_ble_eq_true rfl) ?_
  intro p e s m args below meth c Q hx hb hml hown hts hK hP hD hRet ls hl
  have hl : lv_has ls 2 [(0, .ref q_t), (1, .int p0)] := hl
  have hown : s.vm.findClass RX10 = some m.cls := hown
  refine lv_iload_n hx hb dX10_stepOfPlain_0 rfl (lv_at hl 1 rfl) ?_
  refine ms_cSi ⟨hx, hb, hml, hown, hts⟩ hK hP hD (c_X5_isPlain l G cI cJ cZ p0 hw) gX10_stepOfPlain_X5_isPlain rfl nd_X5_isPlain ⟨rfl, rfl⟩ rfl ⟨Nat.le_of_ble_eq_true rfl, Nat.le_of_ble_eq_true rfl⟩ hl.1 (rest := []) rfl (Nat.le_of_ble_eq_true rfl)  [] rfl rfl dX10_stepOfPlain_1 (fun r1 hw => ?_)
  have zzr1 := hw.1
  have hw := hw.2
  refine lv_if_eq (tgt := 18) hx hb dX10_stepOfPlain_4 (by decide) (fun c2 => ?_) (fun c2 => ?_)
  · have hw := hw.1 c2
    refine lv_iconst (v := 0) hx hb dX10_stepOfPlain_18 (by decide) ?_
    exact hRet (0 : Int32) _ _ hw (vp_nar_int _) dX10_stepOfPlain_19
  · have hw := hw.2 c2
    refine lv_aload_n hx hb dX10_stepOfPlain_7 rfl (lv_at hl 0 rfl) ?_
    refine va_get (D := G) (ci := 10) (v := .ref q_t_plain) (C := RX10) (T := TX10) (N := 11) hx hb hts hkX10_stepOfPlain_X10 hown hK hP 0 rfl rfl 6 (by decide) (hts (.fieldLink RX10 27 "NestReaders$Wholes" "plain" "[I") hfX10_stepOfPlain_27) (fun _ h9 => h9) rfl dX10_stepOfPlain_8 ?_
    refine lv_iload_n hx hb dX10_stepOfPlain_11 rfl (lv_at hl 1 rfl) ?_
    refine lv_iconst (v := 2) hx hb dX10_stepOfPlain_12 (by decide) ?_
    refine lv_isub hx hb dX10_stepOfPlain_13 ?_
    refine va_iald (D := G) hx hb hK hP 1 0 rfl rfl hw.1 dX10_stepOfPlain_14 ?_
    have hw := hw.2
    refine lv_goto (tgt := 19) hx hb dX10_stepOfPlain_15 (by decide) ?_
    exact hRet (A_plain (p0 - (2 : Int32)).toNatClampNeg) _ _ hw (vp_nar_int _) dX10_stepOfPlain_19
def wX10_followers_L5 (p0 : Int32) (F_size : Int32) (F_steps : Int32) (A_next : Nat → Int32) (E5 : Int64 → Int32 → Prop) (i5_2 : Int64) (i5_4 : Int32) : Prop :=
  ∀ P5 : Int64 → Int32 → Prop, (∀ (i5_2 : Int64) (i5_4 : Int32), ((F_steps ≤ i5_4 → E5 i5_2 i5_4) ∧ (¬ F_steps ≤ i5_4 → (wX10_after p0 i5_4 F_size F_steps A_next (fun r2 => (∀ x3 : Int64, x3 = (i5_2 ||| ((1 : Int64) <<< ((r2).toInt64 &&& 63))) → (∀ x4 : Int32, x4 = i5_4 + (1 : Int32) → P5 x3 x4)))))) → P5 i5_2 i5_4) → P5 i5_2 i5_4
def wX10_followers (p0 : Int32) (F_size : Int32) (F_steps : Int32) (A_next : Nat → Int32) (K : Int64 → Prop) : Prop :=
  (wX10_followers_L5 p0 F_size F_steps A_next (fun i5_2 i5_4 => K i5_2) (0 : Int64) (0 : Int32))
abbrev rmX10_followers : Room := { frames := 1, cells := 0, slots := 0, locals := 23 }
theorem nd_X10_followers : yX10_followers.cls = RX10 ∧ yX10_followers.cls ≠ "java/lang/invoke/MethodHandle" ∧ yX10_followers.cls ≠ "java/lang/invoke/VarHandle" ∧ (parseMethodDescriptor yX10_followers.desc).map (fun d => d.parameters.length) = some 1 := by decide +kernel
theorem hkX10_followers_X10 : ∀ w ∈ u_ws RX10 TX10 11, w ∈ wsX10_followers := fun w h => List.mem_cons_of_mem _ (inlX10 w h)
theorem hfX10_followers_37 : (Cond.fieldLink RX10 37 "NestReaders$Wholes" "steps" "I") ∈ wsX10_followers := List.mem_cons_of_mem _ m6_14
set_option maxHeartbeats 4000000 in
set_option maxRecDepth 100000 in
theorem c_X10_followers (l : Launch) (G : va_G) (cI cJ cZ : ClassId) (q_t q_t_held q_t_pairs q_t_stepOf q_t_wholeOf q_t_next q_t_around q_t_plain q_t_slots : Nat) (F_size : Int32) (F_steps : Int32) (F_spent : Int32) (A_next : Nat → Int32) (p0 : Int32) {K : Int64 → Prop} (hw : wX10_followers p0 F_size F_steps A_next K) : Met l yX10_followers wsX10_followers rmX10_followers (ms_P G (ms_T cI cJ cZ) [(q_t, .inr (10, [.ref q_t_held, .ref q_t_pairs, .ref q_t_stepOf, .ref q_t_wholeOf, .ref q_t_next, .ref q_t_around, .ref q_t_plain, .ref q_t_slots, .int F_size, .int F_steps, .int F_spent])), (q_t_next, .inl (cI, 3600, .inl A_next))] [.ref q_t, .int p0]) (ms_Ql K) 0 0 ms_N := by
  refine ms_sl (cc := cX10_followers) (maxL := 5) (by decide) rfl (Nat.le_of_ble_eq_true rfl) ?_
  intro p e s m args below meth c Q hx hb hml hown hts hK hP hD hRet ls hl
  have hl : lv_has ls 5 [(0, .ref q_t), (1, .int p0)] := hl
  have hown : s.vm.findClass RX10 = some m.cls := hown
  refine lv_lconst (v := 0) hx hb dX10_followers_0 (by decide) ?_
  refine lv_lstore_n (lv' := [(2, .long (0 : Int64)), (0, .ref q_t), (1, .int p0)]) hx hb dX10_followers_1 rfl hl (by decide) rfl (fun ls hl => ?_)
  refine lv_iconst (v := 0) hx hb dX10_followers_2 (by decide) ?_
  refine lv_istore (lv' := [(4, .int (0 : Int32)), (2, .long (0 : Int64)), (0, .ref q_t), (1, .int p0)]) hx hb dX10_followers_3 hl (by decide) rfl (fun ls hl => ?_)
  refine hw (fun i5_2 i5_4 => ∀ ls : Array Slot, lv_has ls 5 [(0, .ref q_t), (1, .int p0), (2, .long i5_2), (4, .int i5_4)] → W p l e rmX10_followers s m args below meth c s.heap [] 0 0 Q (F0 m 5 ls [])) (fun i5_2 i5_4 hw ls hl => ?_) ls (lv_sub hl [2, 3, 1, 0] rfl)
  refine lv_iload hx hb dX10_followers_5 (lv_at hl 3 rfl) ?_
  refine lv_aload_n hx hb dX10_followers_7 rfl (lv_at hl 0 rfl) ?_
  refine va_get (D := G) (ci := 10) (v := .int F_steps) (C := RX10) (T := TX10) (N := 11) hx hb hts hkX10_followers_X10 hown hK hP 0 rfl rfl 9 (by decide) (hts (.fieldLink RX10 37 "NestReaders$Wholes" "steps" "I") hfX10_followers_37) (fun _ h9 => h9) rfl dX10_followers_8 ?_
  refine lv_icmp_ge (tgt := 32) hx hb dX10_followers_11 (by decide) (fun c1 => ?_) (fun c1 => ?_)
  · have hw := hw.1 c1
    refine lv_lload_n hx hb dX10_followers_32 rfl (lv_at hl 2 rfl) ?_
    exact hRet i5_2 _ _ hw dX10_followers_33
  · have hw := hw.2 c1
    refine lv_lload_n hx hb dX10_followers_14 rfl (lv_at hl 2 rfl) ?_
    refine lv_lconst (v := 1) hx hb dX10_followers_15 (by decide) ?_
    refine lv_aload_n hx hb dX10_followers_16 rfl (lv_at hl 0 rfl) ?_
    refine lv_iload_n hx hb dX10_followers_17 rfl (lv_at hl 1 rfl) ?_
    refine lv_iload hx hb dX10_followers_18 (lv_at hl 3 rfl) ?_
    refine ms_cVi ⟨hx, hb, hml, hown, hts⟩ hK hP hD (c_X10_after l G cI cJ cZ q_t q_t_held q_t_pairs q_t_stepOf q_t_wholeOf q_t_next q_t_around q_t_plain q_t_slots F_size F_steps F_spent A_next p0 i5_4 hw) gX10_followers_X10_after rfl nd_X10_after (ci := 10) rfl rfl rfl ⟨rfl, rfl⟩ rfl ⟨Nat.le_of_ble_eq_true rfl, Nat.le_of_ble_eq_true rfl⟩ hl.1 (rest := [.long (1 : Int64), .long i5_2]) rfl (Nat.le_of_ble_eq_true rfl)  [0, 1] rfl rfl dX10_followers_20 (fun r2 hw => ?_)
    refine lv_lshl hx hb dX10_followers_23 rfl ?_
    refine lv_lor hx hb dX10_followers_24 ?_
    refine lv_topl (fun x3 ex3 => ?_)
    have hw := hw x3 ex3
    refine lv_lstore_n (lv' := [(2, .long x3), (0, .ref q_t), (1, .int p0), (4, .int i5_4)]) hx hb dX10_followers_25 rfl hl (by decide) rfl (fun ls hl => ?_)
    obtain ⟨x4, ex4⟩ : ∃ y : Int32, y = i5_4 + (1 : Int32) := ⟨_, rfl⟩
    have hw := hw x4 ex4
    refine lv_iinc (v := x4) (lv' := [(4, .int x4), (2, .long x3), (0, .ref q_t), (1, .int p0)]) hx hb dX10_followers_26 hl (k := 3) rfl (by rw [ex4]; rfl) (by decide) rfl (fun ls hl => ?_)
    refine lv_goto (tgt := 5) hx hb dX10_followers_29 (by decide) ?_
    exact hw ls (lv_sub hl [2, 3, 1, 0] rfl)
def wX10_slotOf_L9 (p0 : Int32) (A_pairs : Nat → Int32) (A_slots : Nat → Int32) (K : Int32 → Prop) (x1 : Int32) (E9 : Int32 → Prop) (i9_3 : Int32) : Prop :=
  ∀ P9 : Int32 → Prop, (∀ (i9_3 : Int32), (((256 : Int32) ≤ i9_3 → E9 i9_3) ∧ (¬ (256 : Int32) ≤ i9_3 → (∀ x3 : Int32, x3 = ((x1 + i9_3) &&& (255 : Int32)) → (vp_in x3 256 ∧ (((A_slots x3.toNatClampNeg) = (0 : Int32) → K x3) ∧ (¬ (A_slots x3.toNatClampNeg) = (0 : Int32) → (vp_in x3 256 ∧ (vp_in ((A_slots x3.toNatClampNeg) - (1 : Int32)) 60 ∧ (((A_pairs ((A_slots x3.toNatClampNeg) - (1 : Int32)).toNatClampNeg) = p0 → K x3) ∧ (¬ (A_pairs ((A_slots x3.toNatClampNeg) - (1 : Int32)).toNatClampNeg) = p0 → (∀ x6 : Int32, x6 = i9_3 + (1 : Int32) → P9 x6))))))))))) → P9 i9_3) → P9 i9_3
def wX10_slotOf (p0 : Int32) (A_pairs : Nat → Int32) (A_slots : Nat → Int32) (K : Int32 → Prop) : Prop :=
  (∀ x1 : Int32, x1 = ((p0 * (40503 : Int32)) >>> ((5 : Int32) &&& 31)) → (wX10_slotOf_L9 p0 A_pairs A_slots K x1 (fun i9_3 => K (-1 : Int32)) (0 : Int32)))
abbrev rmX10_slotOf : Room := { frames := 0, cells := 0, slots := 0, locals := 0 }
theorem nd_X10_slotOf : yX10_slotOf.cls = RX10 ∧ yX10_slotOf.cls ≠ "java/lang/invoke/MethodHandle" ∧ yX10_slotOf.cls ≠ "java/lang/invoke/VarHandle" ∧ (parseMethodDescriptor yX10_slotOf.desc).map (fun d => d.parameters.length) = some 1 := by decide +kernel
theorem hfX10_slotOf_91 : (Cond.constant RX10 91 (40503)) ∈ wsX10_slotOf := List.mem_cons_of_mem _ m35_18
theorem hkX10_slotOf_X10 : ∀ w ∈ u_ws RX10 TX10 11, w ∈ wsX10_slotOf := fun w h => List.mem_cons_of_mem _ (inlX10 w h)
theorem hfX10_slotOf_30 : (Cond.fieldLink RX10 30 "NestReaders$Wholes" "slots" "[I") ∈ wsX10_slotOf := List.mem_cons_of_mem _ m6_12
theorem hfX10_slotOf_9 : (Cond.fieldLink RX10 9 "NestReaders$Wholes" "pairs" "[I") ∈ wsX10_slotOf := List.mem_cons_of_mem _ m6_6
set_option maxHeartbeats 4000000 in
set_option maxRecDepth 100000 in
theorem c_X10_slotOf (l : Launch) (G : va_G) (cI cJ cZ : ClassId) (q_t q_t_held q_t_pairs q_t_stepOf q_t_wholeOf q_t_next q_t_around q_t_plain q_t_slots : Nat) (F_size : Int32) (F_steps : Int32) (F_spent : Int32) (A_pairs : Nat → Int32) (A_slots : Nat → Int32) (p0 : Int32) {K : Int32 → Prop} (hw : wX10_slotOf p0 A_pairs A_slots K) : Met l yX10_slotOf wsX10_slotOf rmX10_slotOf (ms_P G (ms_T cI cJ cZ) [(q_t, .inr (10, [.ref q_t_held, .ref q_t_pairs, .ref q_t_stepOf, .ref q_t_wholeOf, .ref q_t_next, .ref q_t_around, .ref q_t_plain, .ref q_t_slots, .int F_size, .int F_steps, .int F_spent])), (q_t_pairs, .inl (cI, 60, .inl A_pairs)), (q_t_slots, .inl (cI, 256, .inl A_slots))] [.ref q_t, .int p0]) (ms_Qi K) 0 0 ms_N := by
  refine ms_si (cc := cX10_slotOf) (maxL := 5) (ty := .int) (by decide) rfl (Nat.le_of_ble_eq_true rfl) ?_
  intro p e s m args below meth c Q hx hb hml hown hts hK hP hD hRet ls hl
  have hl : lv_has ls 5 [(0, .ref q_t), (1, .int p0)] := hl
  have hown : s.vm.findClass RX10 = some m.cls := hown
  refine lv_iload_n hx hb dX10_slotOf_0 rfl (lv_at hl 1 rfl) ?_
  refine lv_ldc hx hb (v := (40503)) hown (hts (.constant RX10 91 (40503)) hfX10_slotOf_91) dX10_slotOf_1 ?_
  refine lv_imul hx hb dX10_slotOf_3 ?_
  refine lv_iconst (v := 5) hx hb dX10_slotOf_4 (by decide) ?_
  refine lv_ishr hx hb dX10_slotOf_5 ?_
  refine lv_topi (fun x1 ex1 => ?_)
  have hw := hw x1 ex1
  refine lv_istore_n (lv' := [(2, .int x1), (0, .ref q_t), (1, .int p0)]) hx hb dX10_slotOf_6 rfl hl (by decide) rfl (fun ls hl => ?_)
  refine lv_iconst (v := 0) hx hb dX10_slotOf_7 (by decide) ?_
  refine lv_istore_n (lv' := [(3, .int (0 : Int32)), (2, .int x1), (0, .ref q_t), (1, .int p0)]) hx hb dX10_slotOf_8 rfl hl (by decide) rfl (fun ls hl => ?_)
  refine hw (fun i9_3 => ∀ ls : Array Slot, lv_has ls 5 [(0, .ref q_t), (1, .int p0), (2, .int x1), (3, .int i9_3)] → W p l e rmX10_slotOf s m args below meth c s.heap [] 0 0 Q (F0 m 9 ls [])) (fun i9_3 hw ls hl => ?_) ls (lv_sub hl [2, 3, 1, 0] rfl)
  refine lv_iload_n hx hb dX10_slotOf_9 rfl (lv_at hl 3 rfl) ?_
  refine lv_sipush (v := (256)) hx hb dX10_slotOf_10 (by decide) ?_
  refine lv_icmp_ge (tgt := 62) hx hb dX10_slotOf_13 (by decide) (fun c2 => ?_) (fun c2 => ?_)
  · have hw := hw.1 c2
    refine lv_iconst (v := (-1)) hx hb dX10_slotOf_62 (by decide) ?_
    exact hRet (-1 : Int32) _ _ hw (vp_nar_int _) dX10_slotOf_63
  · have hw := hw.2 c2
    refine lv_iload_n hx hb dX10_slotOf_16 rfl (lv_at hl 2 rfl) ?_
    refine lv_iload_n hx hb dX10_slotOf_17 rfl (lv_at hl 3 rfl) ?_
    refine lv_iadd hx hb dX10_slotOf_18 ?_
    refine lv_sipush (v := (255)) hx hb dX10_slotOf_19 (by decide) ?_
    refine lv_iand hx hb dX10_slotOf_22 ?_
    refine lv_topi (fun x3 ex3 => ?_)
    have hw := hw x3 ex3
    refine lv_istore (lv' := [(4, .int x3), (0, .ref q_t), (1, .int p0), (2, .int x1), (3, .int i9_3)]) hx hb dX10_slotOf_23 hl (by decide) rfl (fun ls hl => ?_)
    refine lv_aload_n hx hb dX10_slotOf_25 rfl (lv_at hl 1 rfl) ?_
    refine va_get (D := G) (ci := 10) (v := .ref q_t_slots) (C := RX10) (T := TX10) (N := 11) hx hb hts hkX10_slotOf_X10 hown hK hP 0 rfl rfl 7 (by decide) (hts (.fieldLink RX10 30 "NestReaders$Wholes" "slots" "[I") hfX10_slotOf_30) (fun _ h9 => h9) rfl dX10_slotOf_26 ?_
    refine lv_iload hx hb dX10_slotOf_29 (lv_at hl 0 rfl) ?_
    refine va_iald (D := G) hx hb hK hP 2 0 rfl rfl hw.1 dX10_slotOf_31 ?_
    have hw := hw.2
    refine lv_if_eq (tgt := 53) hx hb dX10_slotOf_32 (by decide) (fun c4 => ?_) (fun c4 => ?_)
    · have hw := hw.1 c4
      refine lv_iload hx hb dX10_slotOf_53 (lv_at hl 0 rfl) ?_
      exact hRet x3 _ _ hw (vp_nar_int _) dX10_slotOf_55
    · have hw := hw.2 c4
      refine lv_aload_n hx hb dX10_slotOf_35 rfl (lv_at hl 1 rfl) ?_
      refine va_get (D := G) (ci := 10) (v := .ref q_t_pairs) (C := RX10) (T := TX10) (N := 11) hx hb hts hkX10_slotOf_X10 hown hK hP 0 rfl rfl 1 (by decide) (hts (.fieldLink RX10 9 "NestReaders$Wholes" "pairs" "[I") hfX10_slotOf_9) (fun _ h9 => h9) rfl dX10_slotOf_36 ?_
      refine lv_aload_n hx hb dX10_slotOf_39 rfl (lv_at hl 1 rfl) ?_
      refine va_get (D := G) (ci := 10) (v := .ref q_t_slots) (C := RX10) (T := TX10) (N := 11) hx hb hts hkX10_slotOf_X10 hown hK hP 0 rfl rfl 7 (by decide) (hts (.fieldLink RX10 30 "NestReaders$Wholes" "slots" "[I") hfX10_slotOf_30) (fun _ h9 => h9) rfl dX10_slotOf_40 ?_
      refine lv_iload hx hb dX10_slotOf_43 (lv_at hl 0 rfl) ?_
      refine va_iald (D := G) hx hb hK hP 2 0 rfl rfl hw.1 dX10_slotOf_45 ?_
      have hw := hw.2
      refine lv_iconst (v := 1) hx hb dX10_slotOf_46 (by decide) ?_
      refine lv_isub hx hb dX10_slotOf_47 ?_
      refine va_iald (D := G) hx hb hK hP 1 0 rfl rfl hw.1 dX10_slotOf_48 ?_
      have hw := hw.2
      refine lv_iload_n hx hb dX10_slotOf_49 rfl (lv_at hl 2 rfl) ?_
      refine lv_icmp_ne (tgt := 56) hx hb dX10_slotOf_50 (by decide) (fun c5 => ?_) (fun c5 => ?_)
      · have hw := hw.2 c5
        obtain ⟨x6, ex6⟩ : ∃ y : Int32, y = i9_3 + (1 : Int32) := ⟨_, rfl⟩
        have hw := hw x6 ex6
        refine lv_iinc (v := x6) (lv' := [(3, .int x6), (4, .int x3), (0, .ref q_t), (1, .int p0), (2, .int x1)]) hx hb dX10_slotOf_56 hl (k := 4) rfl (by rw [ex6]; rfl) (by decide) rfl (fun ls hl => ?_)
        refine lv_goto (tgt := 9) hx hb dX10_slotOf_59 (by decide) ?_
        exact hw ls (lv_sub hl [2, 3, 4, 0] rfl)
      · have hw := hw.1 c5
        refine lv_iload hx hb dX10_slotOf_53 (lv_at hl 0 rfl) ?_
        exact hRet x3 _ _ hw (vp_nar_int _) dX10_slotOf_55
def wX10_reached_L18 (F_size : Int32) (F_steps : Int32) (A_next : Nat → Int32) (i5_3 : Int64) (E18 : Int64 → Int32 → Prop) (i18_6 : Int64) (i18_8 : Int32) : Prop :=
  ∀ P18 : Int64 → Int32 → Prop, (∀ (i18_6 : Int64) (i18_8 : Int32), ((F_size ≤ i18_8 → E18 i18_6 i18_8) ∧ (¬ F_size ≤ i18_8 → (((lg_cmp ((i5_3 >>> ((i18_8).toInt64 &&& 63)) &&& (1 : Int64)) (0 : Int64)) = (0 : Int32) → (∀ x6 : Int32, x6 = i18_8 + (1 : Int32) → P18 i18_6 x6)) ∧ (¬ (lg_cmp ((i5_3 >>> ((i18_8).toInt64 &&& 63)) &&& (1 : Int64)) (0 : Int64)) = (0 : Int32) → (wX10_followers i18_8 F_size F_steps A_next (fun r7 => (∀ x8 : Int64, x8 = (i18_6 ||| r7) → (∀ x9 : Int32, x9 = i18_8 + (1 : Int32) → P18 x8 x9)))))))) → P18 i18_6 i18_8) → P18 i18_6 i18_8
def wX10_reached_L5 (F_size : Int32) (F_steps : Int32) (A_next : Nat → Int32) (K : Int64 → Prop) (E5 : Int64 → Int32 → Prop) (i5_3 : Int64) (i5_5 : Int32) : Prop :=
  ∀ P5 : Int64 → Int32 → Prop, (∀ (i5_3 : Int64) (i5_5 : Int32), (((60 : Int32) ≤ i5_5 → E5 i5_3 i5_5) ∧ (¬ (60 : Int32) ≤ i5_5 → (wX10_reached_L18 F_size F_steps A_next i5_3 (fun i18_6 i18_8 => (((lg_cmp i18_6 i5_3) = (0 : Int32) → K i5_3) ∧ (¬ (lg_cmp i18_6 i5_3) = (0 : Int32) → (∀ x4 : Int32, x4 = i5_5 + (1 : Int32) → P5 i18_6 x4)))) i5_3 (0 : Int32)))) → P5 i5_3 i5_5) → P5 i5_3 i5_5
def wX10_reached (p0 : Int64) (F_size : Int32) (F_steps : Int32) (A_next : Nat → Int32) (K : Int64 → Prop) : Prop :=
  (wX10_reached_L5 F_size F_steps A_next K (fun i5_3 i5_5 => K i5_3) p0 (0 : Int32))
abbrev rmX10_reached : Room := { frames := 2, cells := 0, slots := 0, locals := 47 }
theorem nd_X10_reached : yX10_reached.cls = RX10 ∧ yX10_reached.cls ≠ "java/lang/invoke/MethodHandle" ∧ yX10_reached.cls ≠ "java/lang/invoke/VarHandle" ∧ (parseMethodDescriptor yX10_reached.desc).map (fun d => d.parameters.length) = some 1 := by decide +kernel
theorem hkX10_reached_X10 : ∀ w ∈ u_ws RX10 TX10 11, w ∈ wsX10_reached := fun w h => List.mem_cons_of_mem _ (inlX10 w h)
theorem hfX10_reached_33 : (Cond.fieldLink RX10 33 "NestReaders$Wholes" "size" "I") ∈ wsX10_reached := List.mem_cons_of_mem _ m6_13
set_option maxHeartbeats 4000000 in
set_option maxRecDepth 100000 in
theorem c_X10_reached (l : Launch) (G : va_G) (cI cJ cZ : ClassId) (q_t q_t_held q_t_pairs q_t_stepOf q_t_wholeOf q_t_next q_t_around q_t_plain q_t_slots : Nat) (F_size : Int32) (F_steps : Int32) (F_spent : Int32) (A_next : Nat → Int32) (p0 : Int64) {K : Int64 → Prop} (hw : wX10_reached p0 F_size F_steps A_next K) : Met l yX10_reached wsX10_reached rmX10_reached (ms_P G (ms_T cI cJ cZ) [(q_t, .inr (10, [.ref q_t_held, .ref q_t_pairs, .ref q_t_stepOf, .ref q_t_wholeOf, .ref q_t_next, .ref q_t_around, .ref q_t_plain, .ref q_t_slots, .int F_size, .int F_steps, .int F_spent])), (q_t_next, .inl (cI, 3600, .inl A_next))] [.ref q_t, .long p0]) (ms_Ql K) 0 0 ms_N := by
  refine ms_sl (cc := cX10_reached) (maxL := 9) (by decide) rfl (Nat.le_of_ble_eq_true rfl) ?_
  intro p e s m args below meth c Q hx hb hml hown hts hK hP hD hRet ls hl
  have hl : lv_has ls 9 [(0, .ref q_t), (1, .long p0)] := hl
  have hown : s.vm.findClass RX10 = some m.cls := hown
  refine lv_lload_n hx hb dX10_reached_0 rfl (lv_at hl 1 rfl) ?_
  refine lv_lstore_n (lv' := [(3, .long p0), (0, .ref q_t), (1, .long p0)]) hx hb dX10_reached_1 rfl hl (by decide) rfl (fun ls hl => ?_)
  refine lv_iconst (v := 0) hx hb dX10_reached_2 (by decide) ?_
  refine lv_istore (lv' := [(5, .int (0 : Int32)), (3, .long p0), (0, .ref q_t), (1, .long p0)]) hx hb dX10_reached_3 hl (by decide) rfl (fun ls hl => ?_)
  refine hw (fun i5_3 i5_5 => ∀ ls : Array Slot, lv_has ls 9 [(0, .ref q_t), (3, .long i5_3), (5, .int i5_5)] → W p l e rmX10_reached s m args below meth c s.heap [] 0 0 Q (F0 m 5 ls [])) (fun i5_3 i5_5 hw ls hl => ?_) ls (lv_sub hl [2, 1, 0] rfl)
  refine lv_iload hx hb dX10_reached_5 (lv_at hl 2 rfl) ?_
  refine lv_bipush (v := (60)) hx hb dX10_reached_7 (by decide) ?_
  refine lv_icmp_ge (tgt := 73) hx hb dX10_reached_9 (by decide) (fun c1 => ?_) (fun c1 => ?_)
  · have hw := hw.1 c1
    refine lv_lload_n hx hb dX10_reached_73 rfl (lv_at hl 1 rfl) ?_
    exact hRet i5_3 _ _ hw dX10_reached_74
  · have hw := hw.2 c1
    refine lv_lload_n hx hb dX10_reached_12 rfl (lv_at hl 1 rfl) ?_
    refine lv_lstore (lv' := [(6, .long i5_3), (0, .ref q_t), (3, .long i5_3), (5, .int i5_5)]) hx hb dX10_reached_13 hl (by decide) rfl (fun ls hl => ?_)
    refine lv_iconst (v := 0) hx hb dX10_reached_15 (by decide) ?_
    refine lv_istore (lv' := [(8, .int (0 : Int32)), (6, .long i5_3), (0, .ref q_t), (3, .long i5_3), (5, .int i5_5)]) hx hb dX10_reached_16 hl (by decide) rfl (fun ls hl => ?_)
    refine hw (fun i18_6 i18_8 => ∀ ls : Array Slot, lv_has ls 9 [(0, .ref q_t), (3, .long i5_3), (5, .int i5_5), (6, .long i18_6), (8, .int i18_8)] → W p l e rmX10_reached s m args below meth c s.heap [] 0 0 Q (F0 m 18 ls [])) (fun i18_6 i18_8 hw ls hl => ?_) ls (lv_sub hl [2, 3, 4, 1, 0] rfl)
    refine lv_iload hx hb dX10_reached_18 (lv_at hl 4 rfl) ?_
    refine lv_aload_n hx hb dX10_reached_20 rfl (lv_at hl 0 rfl) ?_
    refine va_get (D := G) (ci := 10) (v := .int F_size) (C := RX10) (T := TX10) (N := 11) hx hb hts hkX10_reached_X10 hown hK hP 0 rfl rfl 8 (by decide) (hts (.fieldLink RX10 33 "NestReaders$Wholes" "size" "I") hfX10_reached_33) (fun _ h9 => h9) rfl dX10_reached_21 ?_
    refine lv_icmp_ge (tgt := 55) hx hb dX10_reached_24 (by decide) (fun c2 => ?_) (fun c2 => ?_)
    · have hw := hw.1 c2
      refine lv_lload hx hb dX10_reached_55 (lv_at hl 3 rfl) ?_
      refine lv_lload_n hx hb dX10_reached_57 rfl (lv_at hl 1 rfl) ?_
      refine W.lcmp hx hb dX10_reached_58 ?_
      refine lv_if_ne (tgt := 64) hx hb dX10_reached_59 (by decide) (fun c3 => ?_) (fun c3 => ?_)
      · have hw := hw.2 c3
        refine lv_lload hx hb dX10_reached_64 (lv_at hl 3 rfl) ?_
        refine lv_lstore_n (lv' := [(3, .long i18_6), (0, .ref q_t), (5, .int i5_5), (6, .long i18_6), (8, .int i18_8)]) hx hb dX10_reached_66 rfl hl (by decide) rfl (fun ls hl => ?_)
        obtain ⟨x4, ex4⟩ : ∃ y : Int32, y = i5_5 + (1 : Int32) := ⟨_, rfl⟩
        have hw := hw x4 ex4
        refine lv_iinc (v := x4) (lv' := [(5, .int x4), (3, .long i18_6), (0, .ref q_t), (6, .long i18_6), (8, .int i18_8)]) hx hb dX10_reached_67 hl (k := 2) rfl (by rw [ex4]; rfl) (by decide) rfl (fun ls hl => ?_)
        refine lv_goto (tgt := 5) hx hb dX10_reached_70 (by decide) ?_
        exact hw ls (lv_sub hl [2, 1, 0] rfl)
      · have hw := hw.1 c3
        refine lv_lload_n hx hb dX10_reached_62 rfl (lv_at hl 1 rfl) ?_
        exact hRet i5_3 _ _ hw dX10_reached_63
    · have hw := hw.2 c2
      refine lv_lload_n hx hb dX10_reached_27 rfl (lv_at hl 1 rfl) ?_
      refine lv_iload hx hb dX10_reached_28 (lv_at hl 4 rfl) ?_
      refine lv_lshr hx hb dX10_reached_30 rfl ?_
      refine lv_lconst (v := 1) hx hb dX10_reached_31 (by decide) ?_
      refine lv_land hx hb dX10_reached_32 ?_
      refine lv_lconst (v := 0) hx hb dX10_reached_33 (by decide) ?_
      refine W.lcmp hx hb dX10_reached_34 ?_
      refine lv_if_eq (tgt := 49) hx hb dX10_reached_35 (by decide) (fun c5 => ?_) (fun c5 => ?_)
      · have hw := hw.1 c5
        obtain ⟨x6, ex6⟩ : ∃ y : Int32, y = i18_8 + (1 : Int32) := ⟨_, rfl⟩
        have hw := hw x6 ex6
        refine lv_iinc (v := x6) (lv' := [(8, .int x6), (0, .ref q_t), (3, .long i5_3), (5, .int i5_5), (6, .long i18_6)]) hx hb dX10_reached_49 hl (k := 4) rfl (by rw [ex6]; rfl) (by decide) rfl (fun ls hl => ?_)
        refine lv_goto (tgt := 18) hx hb dX10_reached_52 (by decide) ?_
        exact hw ls (lv_sub hl [1, 2, 3, 4, 0] rfl)
      · have hw := hw.2 c5
        refine lv_lload hx hb dX10_reached_38 (lv_at hl 3 rfl) ?_
        refine lv_aload_n hx hb dX10_reached_40 rfl (lv_at hl 0 rfl) ?_
        refine lv_iload hx hb dX10_reached_41 (lv_at hl 4 rfl) ?_
        refine ms_cVl ⟨hx, hb, hml, hown, hts⟩ hK hP hD (c_X10_followers l G cI cJ cZ q_t q_t_held q_t_pairs q_t_stepOf q_t_wholeOf q_t_next q_t_around q_t_plain q_t_slots F_size F_steps F_spent A_next i18_8 hw) gX10_reached_X10_followers rfl nd_X10_followers (ci := 10) rfl rfl rfl ⟨rfl, rfl⟩ rfl ⟨Nat.le_of_ble_eq_true rfl, Nat.le_of_ble_eq_true rfl⟩ hl.1 (rest := [.long i18_6]) rfl (Nat.le_of_ble_eq_true rfl)  [0, 1] rfl rfl dX10_reached_43 (fun r7 hw => ?_)
        refine lv_lor hx hb dX10_reached_46 ?_
        refine lv_topl (fun x8 ex8 => ?_)
        have hw := hw x8 ex8
        refine lv_lstore (lv' := [(6, .long x8), (0, .ref q_t), (3, .long i5_3), (5, .int i5_5), (8, .int i18_8)]) hx hb dX10_reached_47 hl (by decide) rfl (fun ls hl => ?_)
        obtain ⟨x9, ex9⟩ : ∃ y : Int32, y = i18_8 + (1 : Int32) := ⟨_, rfl⟩
        have hw := hw x9 ex9
        refine lv_iinc (v := x9) (lv' := [(8, .int x9), (6, .long x8), (0, .ref q_t), (3, .long i5_3), (5, .int i5_5)]) hx hb dX10_reached_49 hl (k := 4) rfl (by rw [ex9]; rfl) (by decide) rfl (fun ls hl => ?_)
        refine lv_goto (tgt := 18) hx hb dX10_reached_52 (by decide) ?_
        exact hw ls (lv_sub hl [2, 3, 4, 1, 0] rfl)
def wX10_find (p0 : Int32) (A_pairs : Nat → Int32) (A_slots : Nat → Int32) (K : Int32 → Prop) : Prop :=
  (wX10_slotOf p0 A_pairs A_slots (fun r1 => ((r1 < (0 : Int32) → K (-1 : Int32)) ∧ (¬ r1 < (0 : Int32) → (vp_in r1 256 ∧ K ((A_slots r1.toNatClampNeg) - (1 : Int32)))))))
abbrev rmX10_find : Room := { frames := 1, cells := 0, slots := 0, locals := 24 }
theorem nd_X10_find : yX10_find.cls = RX10 ∧ yX10_find.cls ≠ "java/lang/invoke/MethodHandle" ∧ yX10_find.cls ≠ "java/lang/invoke/VarHandle" ∧ (parseMethodDescriptor yX10_find.desc).map (fun d => d.parameters.length) = some 1 := by decide +kernel
theorem hkX10_find_X10 : ∀ w ∈ u_ws RX10 TX10 11, w ∈ wsX10_find := fun w h => List.mem_cons_of_mem _ (inlX10 w h)
theorem hfX10_find_30 : (Cond.fieldLink RX10 30 "NestReaders$Wholes" "slots" "[I") ∈ wsX10_find := List.mem_cons_of_mem _ m6_12
set_option maxHeartbeats 4000000 in
set_option maxRecDepth 100000 in
theorem c_X10_find (l : Launch) (G : va_G) (cI cJ cZ : ClassId) (q_t q_t_held q_t_pairs q_t_stepOf q_t_wholeOf q_t_next q_t_around q_t_plain q_t_slots : Nat) (F_size : Int32) (F_steps : Int32) (F_spent : Int32) (A_pairs : Nat → Int32) (A_slots : Nat → Int32) (p0 : Int32) {K : Int32 → Prop} (hw : wX10_find p0 A_pairs A_slots K) : Met l yX10_find wsX10_find rmX10_find (ms_P G (ms_T cI cJ cZ) [(q_t, .inr (10, [.ref q_t_held, .ref q_t_pairs, .ref q_t_stepOf, .ref q_t_wholeOf, .ref q_t_next, .ref q_t_around, .ref q_t_plain, .ref q_t_slots, .int F_size, .int F_steps, .int F_spent])), (q_t_pairs, .inl (cI, 60, .inl A_pairs)), (q_t_slots, .inl (cI, 256, .inl A_slots))] [.ref q_t, .int p0]) (ms_Qi K) 0 0 ms_N := by
  refine ms_si (cc := cX10_find) (maxL := 3) (ty := .int) (by decide) rfl (Nat.le_of_ble_eq_true rfl) ?_
  intro p e s m args below meth c Q hx hb hml hown hts hK hP hD hRet ls hl
  have hl : lv_has ls 3 [(0, .ref q_t), (1, .int p0)] := hl
  have hown : s.vm.findClass RX10 = some m.cls := hown
  refine lv_aload_n hx hb dX10_find_0 rfl (lv_at hl 0 rfl) ?_
  refine lv_iload_n hx hb dX10_find_1 rfl (lv_at hl 1 rfl) ?_
  refine ms_cVi ⟨hx, hb, hml, hown, hts⟩ hK hP hD (c_X10_slotOf l G cI cJ cZ q_t q_t_held q_t_pairs q_t_stepOf q_t_wholeOf q_t_next q_t_around q_t_plain q_t_slots F_size F_steps F_spent A_pairs A_slots p0 hw) gX10_find_X10_slotOf rfl nd_X10_slotOf (ci := 10) rfl rfl rfl ⟨rfl, rfl⟩ rfl ⟨Nat.le_of_ble_eq_true rfl, Nat.le_of_ble_eq_true rfl⟩ hl.1 (rest := []) rfl (Nat.le_of_ble_eq_true rfl)  [0, 1, 2] rfl rfl dX10_find_2 (fun r1 hw => ?_)
  refine lv_istore_n (lv' := [(2, .int r1), (0, .ref q_t), (1, .int p0)]) hx hb dX10_find_5 rfl hl (by decide) rfl (fun ls hl => ?_)
  refine lv_iload_n hx hb dX10_find_6 rfl (lv_at hl 0 rfl) ?_
  refine lv_if_lt (tgt := 21) hx hb dX10_find_7 (by decide) (fun c2 => ?_) (fun c2 => ?_)
  · have hw := hw.1 c2
    refine lv_iconst (v := (-1)) hx hb dX10_find_21 (by decide) ?_
    exact hRet (-1 : Int32) _ _ hw (vp_nar_int _) dX10_find_22
  · have hw := hw.2 c2
    refine lv_aload_n hx hb dX10_find_10 rfl (lv_at hl 1 rfl) ?_
    refine va_get (D := G) (ci := 10) (v := .ref q_t_slots) (C := RX10) (T := TX10) (N := 11) hx hb hts hkX10_find_X10 hown hK hP 0 rfl rfl 7 (by decide) (hts (.fieldLink RX10 30 "NestReaders$Wholes" "slots" "[I") hfX10_find_30) (fun _ h9 => h9) rfl dX10_find_11 ?_
    refine lv_iload_n hx hb dX10_find_14 rfl (lv_at hl 0 rfl) ?_
    refine va_iald (D := G) hx hb hK hP 2 0 rfl rfl hw.1 dX10_find_15 ?_
    have hw := hw.2
    refine lv_iconst (v := 1) hx hb dX10_find_16 (by decide) ?_
    refine lv_isub hx hb dX10_find_17 ?_
    refine lv_goto (tgt := 22) hx hb dX10_find_18 (by decide) ?_
    exact hRet ((A_slots r1.toNatClampNeg) - (1 : Int32)) _ _ hw (vp_nar_int _) dX10_find_22
def wX10_numberOf (p0 : Int32) (F_size : Int32) (F_spent : Int32) (A_pairs : Nat → Int32) (A_stepOf : Nat → Int32) (A_slots : Nat → Int32) (K : Int32 → Int32 → Int32 → (Nat → Int32) → (Nat → Int32) → (Nat → Int32) → Prop) : Prop :=
  (wX10_slotOf p0 A_pairs A_slots (fun r1 => ((r1 < (0 : Int32) → ((r1 < (0 : Int32) → K (0 : Int32) F_size (1 : Int32) A_pairs A_stepOf A_slots) ∧ (¬ r1 < (0 : Int32) → ((F_size < (60 : Int32) → (vp_in F_size 60 ∧ (∀ g5 : Nat → Int32, g5 = upd A_pairs F_size.toNatClampNeg p0 → (vp_in F_size 60 ∧ (∀ g6 : Nat → Int32, g6 = upd A_stepOf F_size.toNatClampNeg (-1 : Int32) → (∀ x7 : Int32, x7 = (F_size + (1 : Int32)) → (vp_in r1 256 ∧ (∀ g8 : Nat → Int32, g8 = upd A_slots r1.toNatClampNeg x7 → K (x7 - (1 : Int32)) x7 F_spent g5 g6 g8)))))))) ∧ (¬ F_size < (60 : Int32) → K (0 : Int32) F_size (1 : Int32) A_pairs A_stepOf A_slots))))) ∧ (¬ r1 < (0 : Int32) → (vp_in r1 256 ∧ (((A_slots r1.toNatClampNeg) ≤ (0 : Int32) → ((r1 < (0 : Int32) → K (0 : Int32) F_size (1 : Int32) A_pairs A_stepOf A_slots) ∧ (¬ r1 < (0 : Int32) → ((F_size < (60 : Int32) → (vp_in F_size 60 ∧ (∀ g12 : Nat → Int32, g12 = upd A_pairs F_size.toNatClampNeg p0 → (vp_in F_size 60 ∧ (∀ g13 : Nat → Int32, g13 = upd A_stepOf F_size.toNatClampNeg (-1 : Int32) → (∀ x14 : Int32, x14 = (F_size + (1 : Int32)) → (vp_in r1 256 ∧ (∀ g15 : Nat → Int32, g15 = upd A_slots r1.toNatClampNeg x14 → K (x14 - (1 : Int32)) x14 F_spent g12 g13 g15)))))))) ∧ (¬ F_size < (60 : Int32) → K (0 : Int32) F_size (1 : Int32) A_pairs A_stepOf A_slots))))) ∧ (¬ (A_slots r1.toNatClampNeg) ≤ (0 : Int32) → (vp_in r1 256 ∧ K ((A_slots r1.toNatClampNeg) - (1 : Int32)) F_size F_spent A_pairs A_stepOf A_slots))))))))
abbrev rmX10_numberOf : Room := { frames := 1, cells := 0, slots := 0, locals := 24 }
theorem nd_X10_numberOf : yX10_numberOf.cls = RX10 ∧ yX10_numberOf.cls ≠ "java/lang/invoke/MethodHandle" ∧ yX10_numberOf.cls ≠ "java/lang/invoke/VarHandle" ∧ (parseMethodDescriptor yX10_numberOf.desc).map (fun d => d.parameters.length) = some 1 := by decide +kernel
theorem hkX10_numberOf_X10 : ∀ w ∈ u_ws RX10 TX10 11, w ∈ wsX10_numberOf := fun w h => List.mem_cons_of_mem _ (inlX10 w h)
theorem hfX10_numberOf_40 : (Cond.fieldLink RX10 40 "NestReaders$Wholes" "spent" "Z") ∈ wsX10_numberOf := List.mem_cons_of_mem _ m6_15
theorem hfX10_numberOf_33 : (Cond.fieldLink RX10 33 "NestReaders$Wholes" "size" "I") ∈ wsX10_numberOf := List.mem_cons_of_mem _ m6_13
theorem hfX10_numberOf_9 : (Cond.fieldLink RX10 9 "NestReaders$Wholes" "pairs" "[I") ∈ wsX10_numberOf := List.mem_cons_of_mem _ m6_6
theorem hfX10_numberOf_15 : (Cond.fieldLink RX10 15 "NestReaders$Wholes" "stepOf" "[I") ∈ wsX10_numberOf := List.mem_cons_of_mem _ m6_7
theorem hfX10_numberOf_30 : (Cond.fieldLink RX10 30 "NestReaders$Wholes" "slots" "[I") ∈ wsX10_numberOf := List.mem_cons_of_mem _ m6_12
set_option maxHeartbeats 4000000 in
set_option maxRecDepth 100000 in
theorem c_X10_numberOf (l : Launch) (G : va_G) (cI cJ cZ : ClassId) (q_t q_t_held q_t_pairs q_t_stepOf q_t_wholeOf q_t_next q_t_around q_t_plain q_t_slots : Nat) (sz : Nat) (F_size : Int32) (F_steps : Int32) (F_spent : Int32) (A_pairs : Nat → Int32) (A_stepOf : Nat → Int32) (A_slots : Nat → Int32) (p0 : Int32) {K : Int32 → Int32 → Int32 → (Nat → Int32) → (Nat → Int32) → (Nat → Int32) → Prop} (hw : wX10_numberOf p0 F_size F_spent A_pairs A_stepOf A_slots K) : Met l yX10_numberOf wsX10_numberOf rmX10_numberOf (ms_Pz G (ms_T cI cJ cZ) [(q_t, .inr (10, [.ref q_t_held, .ref q_t_pairs, .ref q_t_stepOf, .ref q_t_wholeOf, .ref q_t_next, .ref q_t_around, .ref q_t_plain, .ref q_t_slots, .int F_size, .int F_steps, .int F_spent])), (q_t_pairs, .inl (cI, 60, .inl A_pairs)), (q_t_stepOf, .inl (cI, 60, .inl A_stepOf)), (q_t_slots, .inl (cI, 256, .inl A_slots))] sz [.ref q_t, .int p0]) (ms_Wi G (ms_T cI cJ cZ) (fun (r : Int32) (u : Int32 × Int32 × (Nat → Int32) × (Nat → Int32) × (Nat → Int32)) => K r u.1 u.2.1 u.2.2.1 u.2.2.2.1 u.2.2.2.2) (fun u : Int32 × Int32 × (Nat → Int32) × (Nat → Int32) × (Nat → Int32) => [(q_t, .inr (10, [.ref q_t_held, .ref q_t_pairs, .ref q_t_stepOf, .ref q_t_wholeOf, .ref q_t_next, .ref q_t_around, .ref q_t_plain, .ref q_t_slots, .int u.1, .int F_steps, .int u.2.1])), (q_t_pairs, .inl (cI, 60, .inl u.2.2.1)), (q_t_stepOf, .inl (cI, 60, .inl u.2.2.2.1)), (q_t_slots, .inl (cI, 256, .inl u.2.2.2.2))]) (va_A [(q_t, .inr (10, [.ref q_t_held, .ref q_t_pairs, .ref q_t_stepOf, .ref q_t_wholeOf, .ref q_t_next, .ref q_t_around, .ref q_t_plain, .ref q_t_slots, .int F_size, .int F_steps, .int F_spent])), (q_t_pairs, .inl (cI, 60, .inl A_pairs)), (q_t_stepOf, .inl (cI, 60, .inl A_stepOf)), (q_t_slots, .inl (cI, 256, .inl A_slots))] sz)) 0 0 (va_A [(q_t, .inr (10, [.ref q_t_held, .ref q_t_pairs, .ref q_t_stepOf, .ref q_t_wholeOf, .ref q_t_next, .ref q_t_around, .ref q_t_plain, .ref q_t_slots, .int F_size, .int F_steps, .int F_spent])), (q_t_pairs, .inl (cI, 60, .inl A_pairs)), (q_t_stepOf, .inl (cI, 60, .inl A_stepOf)), (q_t_slots, .inl (cI, 256, .inl A_slots))] sz) := by
  refine ms_ti (cc := cX10_numberOf) (maxL := 3) (ty := .int) (by decide) rfl (Nat.le_of_ble_eq_true rfl) ?_
  intro p e s m args below meth c Q A hx hb hml hown hts hK hP hD hS hA hRet ls hl
  have hl : lv_has ls 3 [(0, .ref q_t), (1, .int p0)] := hl
  have hown : s.vm.findClass RX10 = some m.cls := hown
  refine lv_aload_n hx hb dX10_numberOf_0 rfl (lv_at hl 0 rfl) ?_
  refine lv_iload_n hx hb dX10_numberOf_1 rfl (lv_at hl 1 rfl) ?_
  refine ms_cVi ⟨hx, hb, hml, hown, hts⟩ hK hP hD (c_X10_slotOf l G cI cJ cZ q_t q_t_held q_t_pairs q_t_stepOf q_t_wholeOf q_t_next q_t_around q_t_plain q_t_slots F_size F_steps F_spent A_pairs A_slots p0 hw) gX10_numberOf_X10_slotOf rfl nd_X10_slotOf (ci := 10) rfl rfl rfl ⟨rfl, rfl⟩ rfl ⟨Nat.le_of_ble_eq_true rfl, Nat.le_of_ble_eq_true rfl⟩ hl.1 (rest := []) rfl (Nat.le_of_ble_eq_true rfl)  [0, 1, 3] rfl rfl dX10_numberOf_2 (fun r1 hw => ?_)
  refine lv_istore_n (lv' := [(2, .int r1), (0, .ref q_t), (1, .int p0)]) hx hb dX10_numberOf_5 rfl hl (by decide) rfl (fun ls hl => ?_)
  refine lv_iload_n hx hb dX10_numberOf_6 rfl (lv_at hl 0 rfl) ?_
  refine lv_if_lt (tgt := 28) hx hb dX10_numberOf_7 (by decide) (fun c2 => ?_) (fun c2 => ?_)
  · have hw := hw.1 c2
    refine lv_iload_n hx hb dX10_numberOf_28 rfl (lv_at hl 0 rfl) ?_
    refine lv_if_lt (tgt := 41) hx hb dX10_numberOf_29 (by decide) (fun c3 => ?_) (fun c3 => ?_)
    · have hw := hw.1 c3
      refine lv_aload_n hx hb dX10_numberOf_41 rfl (lv_at hl 1 rfl) ?_
      refine lv_iconst (v := 1) hx hb dX10_numberOf_42 (by decide) ?_
      refine va_put (D := G) (ci := 10) (v := .int (1 : Int32)) (ty := .boolean) (C := RX10) (T := TX10) (N := 11) hx hb hts hkX10_numberOf_X10 tyX10 tyX10_ok nmX10 hown hK hP hD hS 0 rfl rfl 10 (by decide) (hts (.fieldLink RX10 40 "NestReaders$Wholes" "spent" "Z") hfX10_numberOf_40) (fun _ h9 => h9) rfl (by decide +kernel) ms_z1 (ms_zfit ms_z1) (Nat.le_of_ble_eq_true rfl) dX10_numberOf_43 (fun H locs hP hD hS => ?_)
      have hP : va_P G vwCl [(q_t, .inr (10, [.ref q_t_held, .ref q_t_pairs, .ref q_t_stepOf, .ref q_t_wholeOf, .ref q_t_next, .ref q_t_around, .ref q_t_plain, .ref q_t_slots, .int F_size, .int F_steps, .int (1 : Int32)])), (q_t_pairs, .inl (cI, 60, .inl A_pairs)), (q_t_stepOf, .inl (cI, 60, .inl A_stepOf)), (q_t_slots, .inl (cI, 256, .inl A_slots))] H := hP
      have hD : va_D A [(q_t, .inr (10, [.ref q_t_held, .ref q_t_pairs, .ref q_t_stepOf, .ref q_t_wholeOf, .ref q_t_next, .ref q_t_around, .ref q_t_plain, .ref q_t_slots, .int F_size, .int F_steps, .int (1 : Int32)])), (q_t_pairs, .inl (cI, 60, .inl A_pairs)), (q_t_stepOf, .inl (cI, 60, .inl A_stepOf)), (q_t_slots, .inl (cI, 256, .inl A_slots))] := hD
      refine lv_iconst (v := 0) hx hb dX10_numberOf_46 (by decide) ?_
      exact hRet (0 : Int32) ⟨F_size, (1 : Int32), A_pairs, A_stepOf, A_slots⟩ H locs _ _ hw (vp_nar_int _) hP hD hS dX10_numberOf_47
    · have hw := hw.2 c3
      refine lv_aload_n hx hb dX10_numberOf_32 rfl (lv_at hl 1 rfl) ?_
      refine va_get (D := G) (ci := 10) (v := .int F_size) (C := RX10) (T := TX10) (N := 11) hx hb hts hkX10_numberOf_X10 hown hK hP 0 rfl rfl 8 (by decide) (hts (.fieldLink RX10 33 "NestReaders$Wholes" "size" "I") hfX10_numberOf_33) (fun _ h9 => h9) rfl dX10_numberOf_33 ?_
      refine lv_bipush (v := (60)) hx hb dX10_numberOf_36 (by decide) ?_
      refine lv_icmp_lt (tgt := 48) hx hb dX10_numberOf_38 (by decide) (fun c4 => ?_) (fun c4 => ?_)
      · have hw := hw.1 c4
        refine lv_aload_n hx hb dX10_numberOf_48 rfl (lv_at hl 1 rfl) ?_
        refine va_get (D := G) (ci := 10) (v := .ref q_t_pairs) (C := RX10) (T := TX10) (N := 11) hx hb hts hkX10_numberOf_X10 hown hK hP 0 rfl rfl 1 (by decide) (hts (.fieldLink RX10 9 "NestReaders$Wholes" "pairs" "[I") hfX10_numberOf_9) (fun _ h9 => h9) rfl dX10_numberOf_49 ?_
        refine lv_aload_n hx hb dX10_numberOf_52 rfl (lv_at hl 1 rfl) ?_
        refine va_get (D := G) (ci := 10) (v := .int F_size) (C := RX10) (T := TX10) (N := 11) hx hb hts hkX10_numberOf_X10 hown hK hP 0 rfl rfl 8 (by decide) (hts (.fieldLink RX10 33 "NestReaders$Wholes" "size" "I") hfX10_numberOf_33) (fun _ h9 => h9) rfl dX10_numberOf_53 ?_
        refine lv_iload_n hx hb dX10_numberOf_56 rfl (lv_at hl 2 rfl) ?_
        refine ms_iast hx hb hK hP hD hS 1 0 rfl rfl hw.1 dX10_numberOf_57 (fun g5 H locs eg5 hP hD hS => ?_)
        have hw := hw.2 g5 eg5
        have hP : va_P G vwCl [(q_t, .inr (10, [.ref q_t_held, .ref q_t_pairs, .ref q_t_stepOf, .ref q_t_wholeOf, .ref q_t_next, .ref q_t_around, .ref q_t_plain, .ref q_t_slots, .int F_size, .int F_steps, .int F_spent])), (q_t_pairs, .inl (cI, 60, .inl g5)), (q_t_stepOf, .inl (cI, 60, .inl A_stepOf)), (q_t_slots, .inl (cI, 256, .inl A_slots))] H := hP
        have hD : va_D A [(q_t, .inr (10, [.ref q_t_held, .ref q_t_pairs, .ref q_t_stepOf, .ref q_t_wholeOf, .ref q_t_next, .ref q_t_around, .ref q_t_plain, .ref q_t_slots, .int F_size, .int F_steps, .int F_spent])), (q_t_pairs, .inl (cI, 60, .inl g5)), (q_t_stepOf, .inl (cI, 60, .inl A_stepOf)), (q_t_slots, .inl (cI, 256, .inl A_slots))] := hD
        refine lv_aload_n hx hb dX10_numberOf_58 rfl (lv_at hl 1 rfl) ?_
        refine va_get (D := G) (ci := 10) (v := .ref q_t_stepOf) (C := RX10) (T := TX10) (N := 11) hx hb hts hkX10_numberOf_X10 hown hK hP 0 rfl rfl 2 (by decide) (hts (.fieldLink RX10 15 "NestReaders$Wholes" "stepOf" "[I") hfX10_numberOf_15) (fun _ h9 => h9) rfl dX10_numberOf_59 ?_
        refine lv_aload_n hx hb dX10_numberOf_62 rfl (lv_at hl 1 rfl) ?_
        refine va_get (D := G) (ci := 10) (v := .int F_size) (C := RX10) (T := TX10) (N := 11) hx hb hts hkX10_numberOf_X10 hown hK hP 0 rfl rfl 8 (by decide) (hts (.fieldLink RX10 33 "NestReaders$Wholes" "size" "I") hfX10_numberOf_33) (fun _ h9 => h9) rfl dX10_numberOf_63 ?_
        refine lv_iconst (v := (-1)) hx hb dX10_numberOf_66 (by decide) ?_
        refine ms_iast hx hb hK hP hD hS 2 0 rfl rfl hw.1 dX10_numberOf_67 (fun g6 H locs eg6 hP hD hS => ?_)
        have hw := hw.2 g6 eg6
        have hP : va_P G vwCl [(q_t, .inr (10, [.ref q_t_held, .ref q_t_pairs, .ref q_t_stepOf, .ref q_t_wholeOf, .ref q_t_next, .ref q_t_around, .ref q_t_plain, .ref q_t_slots, .int F_size, .int F_steps, .int F_spent])), (q_t_pairs, .inl (cI, 60, .inl g5)), (q_t_stepOf, .inl (cI, 60, .inl g6)), (q_t_slots, .inl (cI, 256, .inl A_slots))] H := hP
        have hD : va_D A [(q_t, .inr (10, [.ref q_t_held, .ref q_t_pairs, .ref q_t_stepOf, .ref q_t_wholeOf, .ref q_t_next, .ref q_t_around, .ref q_t_plain, .ref q_t_slots, .int F_size, .int F_steps, .int F_spent])), (q_t_pairs, .inl (cI, 60, .inl g5)), (q_t_stepOf, .inl (cI, 60, .inl g6)), (q_t_slots, .inl (cI, 256, .inl A_slots))] := hD
        refine lv_aload_n hx hb dX10_numberOf_68 rfl (lv_at hl 1 rfl) ?_
        refine lv_dup hx hb dX10_numberOf_69 rfl ?_
        refine va_get (D := G) (ci := 10) (v := .int F_size) (C := RX10) (T := TX10) (N := 11) hx hb hts hkX10_numberOf_X10 hown hK hP 0 rfl rfl 8 (by decide) (hts (.fieldLink RX10 33 "NestReaders$Wholes" "size" "I") hfX10_numberOf_33) (fun _ h9 => h9) rfl dX10_numberOf_70 ?_
        refine lv_iconst (v := 1) hx hb dX10_numberOf_73 (by decide) ?_
        refine lv_iadd hx hb dX10_numberOf_74 ?_
        refine lv_topi (fun x7 ex7 => ?_)
        have hw := hw x7 ex7
        refine va_put (D := G) (ci := 10) (v := .int x7) (ty := .int) (C := RX10) (T := TX10) (N := 11) hx hb hts hkX10_numberOf_X10 tyX10 tyX10_ok nmX10 hown hK hP hD hS 0 rfl rfl 8 (by decide) (hts (.fieldLink RX10 33 "NestReaders$Wholes" "size" "I") hfX10_numberOf_33) (fun _ h9 => h9) rfl (by decide +kernel) rfl rfl (Nat.le_of_ble_eq_true rfl) dX10_numberOf_75 (fun H locs hP hD hS => ?_)
        have hP : va_P G vwCl [(q_t, .inr (10, [.ref q_t_held, .ref q_t_pairs, .ref q_t_stepOf, .ref q_t_wholeOf, .ref q_t_next, .ref q_t_around, .ref q_t_plain, .ref q_t_slots, .int x7, .int F_steps, .int F_spent])), (q_t_pairs, .inl (cI, 60, .inl g5)), (q_t_stepOf, .inl (cI, 60, .inl g6)), (q_t_slots, .inl (cI, 256, .inl A_slots))] H := hP
        have hD : va_D A [(q_t, .inr (10, [.ref q_t_held, .ref q_t_pairs, .ref q_t_stepOf, .ref q_t_wholeOf, .ref q_t_next, .ref q_t_around, .ref q_t_plain, .ref q_t_slots, .int x7, .int F_steps, .int F_spent])), (q_t_pairs, .inl (cI, 60, .inl g5)), (q_t_stepOf, .inl (cI, 60, .inl g6)), (q_t_slots, .inl (cI, 256, .inl A_slots))] := hD
        refine lv_aload_n hx hb dX10_numberOf_78 rfl (lv_at hl 1 rfl) ?_
        refine va_get (D := G) (ci := 10) (v := .ref q_t_slots) (C := RX10) (T := TX10) (N := 11) hx hb hts hkX10_numberOf_X10 hown hK hP 0 rfl rfl 7 (by decide) (hts (.fieldLink RX10 30 "NestReaders$Wholes" "slots" "[I") hfX10_numberOf_30) (fun _ h9 => h9) rfl dX10_numberOf_79 ?_
        refine lv_iload_n hx hb dX10_numberOf_82 rfl (lv_at hl 0 rfl) ?_
        refine lv_aload_n hx hb dX10_numberOf_83 rfl (lv_at hl 1 rfl) ?_
        refine va_get (D := G) (ci := 10) (v := .int x7) (C := RX10) (T := TX10) (N := 11) hx hb hts hkX10_numberOf_X10 hown hK hP 0 rfl rfl 8 (by decide) (hts (.fieldLink RX10 33 "NestReaders$Wholes" "size" "I") hfX10_numberOf_33) (fun _ h9 => h9) rfl dX10_numberOf_84 ?_
        refine ms_iast hx hb hK hP hD hS 3 0 rfl rfl hw.1 dX10_numberOf_87 (fun g8 H locs eg8 hP hD hS => ?_)
        have hw := hw.2 g8 eg8
        have hP : va_P G vwCl [(q_t, .inr (10, [.ref q_t_held, .ref q_t_pairs, .ref q_t_stepOf, .ref q_t_wholeOf, .ref q_t_next, .ref q_t_around, .ref q_t_plain, .ref q_t_slots, .int x7, .int F_steps, .int F_spent])), (q_t_pairs, .inl (cI, 60, .inl g5)), (q_t_stepOf, .inl (cI, 60, .inl g6)), (q_t_slots, .inl (cI, 256, .inl g8))] H := hP
        have hD : va_D A [(q_t, .inr (10, [.ref q_t_held, .ref q_t_pairs, .ref q_t_stepOf, .ref q_t_wholeOf, .ref q_t_next, .ref q_t_around, .ref q_t_plain, .ref q_t_slots, .int x7, .int F_steps, .int F_spent])), (q_t_pairs, .inl (cI, 60, .inl g5)), (q_t_stepOf, .inl (cI, 60, .inl g6)), (q_t_slots, .inl (cI, 256, .inl g8))] := hD
        refine lv_aload_n hx hb dX10_numberOf_88 rfl (lv_at hl 1 rfl) ?_
        refine va_get (D := G) (ci := 10) (v := .int x7) (C := RX10) (T := TX10) (N := 11) hx hb hts hkX10_numberOf_X10 hown hK hP 0 rfl rfl 8 (by decide) (hts (.fieldLink RX10 33 "NestReaders$Wholes" "size" "I") hfX10_numberOf_33) (fun _ h9 => h9) rfl dX10_numberOf_89 ?_
        refine lv_iconst (v := 1) hx hb dX10_numberOf_92 (by decide) ?_
        refine lv_isub hx hb dX10_numberOf_93 ?_
        exact hRet (x7 - (1 : Int32)) ⟨x7, F_spent, g5, g6, g8⟩ H locs _ _ hw (vp_nar_int _) hP hD hS dX10_numberOf_94
      · have hw := hw.2 c4
        refine lv_aload_n hx hb dX10_numberOf_41 rfl (lv_at hl 1 rfl) ?_
        refine lv_iconst (v := 1) hx hb dX10_numberOf_42 (by decide) ?_
        refine va_put (D := G) (ci := 10) (v := .int (1 : Int32)) (ty := .boolean) (C := RX10) (T := TX10) (N := 11) hx hb hts hkX10_numberOf_X10 tyX10 tyX10_ok nmX10 hown hK hP hD hS 0 rfl rfl 10 (by decide) (hts (.fieldLink RX10 40 "NestReaders$Wholes" "spent" "Z") hfX10_numberOf_40) (fun _ h9 => h9) rfl (by decide +kernel) ms_z1 (ms_zfit ms_z1) (Nat.le_of_ble_eq_true rfl) dX10_numberOf_43 (fun H locs hP hD hS => ?_)
        have hP : va_P G vwCl [(q_t, .inr (10, [.ref q_t_held, .ref q_t_pairs, .ref q_t_stepOf, .ref q_t_wholeOf, .ref q_t_next, .ref q_t_around, .ref q_t_plain, .ref q_t_slots, .int F_size, .int F_steps, .int (1 : Int32)])), (q_t_pairs, .inl (cI, 60, .inl A_pairs)), (q_t_stepOf, .inl (cI, 60, .inl A_stepOf)), (q_t_slots, .inl (cI, 256, .inl A_slots))] H := hP
        have hD : va_D A [(q_t, .inr (10, [.ref q_t_held, .ref q_t_pairs, .ref q_t_stepOf, .ref q_t_wholeOf, .ref q_t_next, .ref q_t_around, .ref q_t_plain, .ref q_t_slots, .int F_size, .int F_steps, .int (1 : Int32)])), (q_t_pairs, .inl (cI, 60, .inl A_pairs)), (q_t_stepOf, .inl (cI, 60, .inl A_stepOf)), (q_t_slots, .inl (cI, 256, .inl A_slots))] := hD
        refine lv_iconst (v := 0) hx hb dX10_numberOf_46 (by decide) ?_
        exact hRet (0 : Int32) ⟨F_size, (1 : Int32), A_pairs, A_stepOf, A_slots⟩ H locs _ _ hw (vp_nar_int _) hP hD hS dX10_numberOf_47
  · have hw := hw.2 c2
    refine lv_aload_n hx hb dX10_numberOf_10 rfl (lv_at hl 1 rfl) ?_
    refine va_get (D := G) (ci := 10) (v := .ref q_t_slots) (C := RX10) (T := TX10) (N := 11) hx hb hts hkX10_numberOf_X10 hown hK hP 0 rfl rfl 7 (by decide) (hts (.fieldLink RX10 30 "NestReaders$Wholes" "slots" "[I") hfX10_numberOf_30) (fun _ h9 => h9) rfl dX10_numberOf_11 ?_
    refine lv_iload_n hx hb dX10_numberOf_14 rfl (lv_at hl 0 rfl) ?_
    refine va_iald (D := G) hx hb hK hP 3 0 rfl rfl hw.1 dX10_numberOf_15 ?_
    have hw := hw.2
    refine lv_if_le (tgt := 28) hx hb dX10_numberOf_16 (by decide) (fun c9 => ?_) (fun c9 => ?_)
    · have hw := hw.1 c9
      refine lv_iload_n hx hb dX10_numberOf_28 rfl (lv_at hl 0 rfl) ?_
      refine lv_if_lt (tgt := 41) hx hb dX10_numberOf_29 (by decide) (fun c10 => ?_) (fun c10 => ?_)
      · have hw := hw.1 c10
        refine lv_aload_n hx hb dX10_numberOf_41 rfl (lv_at hl 1 rfl) ?_
        refine lv_iconst (v := 1) hx hb dX10_numberOf_42 (by decide) ?_
        refine va_put (D := G) (ci := 10) (v := .int (1 : Int32)) (ty := .boolean) (C := RX10) (T := TX10) (N := 11) hx hb hts hkX10_numberOf_X10 tyX10 tyX10_ok nmX10 hown hK hP hD hS 0 rfl rfl 10 (by decide) (hts (.fieldLink RX10 40 "NestReaders$Wholes" "spent" "Z") hfX10_numberOf_40) (fun _ h9 => h9) rfl (by decide +kernel) ms_z1 (ms_zfit ms_z1) (Nat.le_of_ble_eq_true rfl) dX10_numberOf_43 (fun H locs hP hD hS => ?_)
        have hP : va_P G vwCl [(q_t, .inr (10, [.ref q_t_held, .ref q_t_pairs, .ref q_t_stepOf, .ref q_t_wholeOf, .ref q_t_next, .ref q_t_around, .ref q_t_plain, .ref q_t_slots, .int F_size, .int F_steps, .int (1 : Int32)])), (q_t_pairs, .inl (cI, 60, .inl A_pairs)), (q_t_stepOf, .inl (cI, 60, .inl A_stepOf)), (q_t_slots, .inl (cI, 256, .inl A_slots))] H := hP
        have hD : va_D A [(q_t, .inr (10, [.ref q_t_held, .ref q_t_pairs, .ref q_t_stepOf, .ref q_t_wholeOf, .ref q_t_next, .ref q_t_around, .ref q_t_plain, .ref q_t_slots, .int F_size, .int F_steps, .int (1 : Int32)])), (q_t_pairs, .inl (cI, 60, .inl A_pairs)), (q_t_stepOf, .inl (cI, 60, .inl A_stepOf)), (q_t_slots, .inl (cI, 256, .inl A_slots))] := hD
        refine lv_iconst (v := 0) hx hb dX10_numberOf_46 (by decide) ?_
        exact hRet (0 : Int32) ⟨F_size, (1 : Int32), A_pairs, A_stepOf, A_slots⟩ H locs _ _ hw (vp_nar_int _) hP hD hS dX10_numberOf_47
      · have hw := hw.2 c10
        refine lv_aload_n hx hb dX10_numberOf_32 rfl (lv_at hl 1 rfl) ?_
        refine va_get (D := G) (ci := 10) (v := .int F_size) (C := RX10) (T := TX10) (N := 11) hx hb hts hkX10_numberOf_X10 hown hK hP 0 rfl rfl 8 (by decide) (hts (.fieldLink RX10 33 "NestReaders$Wholes" "size" "I") hfX10_numberOf_33) (fun _ h9 => h9) rfl dX10_numberOf_33 ?_
        refine lv_bipush (v := (60)) hx hb dX10_numberOf_36 (by decide) ?_
        refine lv_icmp_lt (tgt := 48) hx hb dX10_numberOf_38 (by decide) (fun c11 => ?_) (fun c11 => ?_)
        · have hw := hw.1 c11
          refine lv_aload_n hx hb dX10_numberOf_48 rfl (lv_at hl 1 rfl) ?_
          refine va_get (D := G) (ci := 10) (v := .ref q_t_pairs) (C := RX10) (T := TX10) (N := 11) hx hb hts hkX10_numberOf_X10 hown hK hP 0 rfl rfl 1 (by decide) (hts (.fieldLink RX10 9 "NestReaders$Wholes" "pairs" "[I") hfX10_numberOf_9) (fun _ h9 => h9) rfl dX10_numberOf_49 ?_
          refine lv_aload_n hx hb dX10_numberOf_52 rfl (lv_at hl 1 rfl) ?_
          refine va_get (D := G) (ci := 10) (v := .int F_size) (C := RX10) (T := TX10) (N := 11) hx hb hts hkX10_numberOf_X10 hown hK hP 0 rfl rfl 8 (by decide) (hts (.fieldLink RX10 33 "NestReaders$Wholes" "size" "I") hfX10_numberOf_33) (fun _ h9 => h9) rfl dX10_numberOf_53 ?_
          refine lv_iload_n hx hb dX10_numberOf_56 rfl (lv_at hl 2 rfl) ?_
          refine ms_iast hx hb hK hP hD hS 1 0 rfl rfl hw.1 dX10_numberOf_57 (fun g12 H locs eg12 hP hD hS => ?_)
          have hw := hw.2 g12 eg12
          have hP : va_P G vwCl [(q_t, .inr (10, [.ref q_t_held, .ref q_t_pairs, .ref q_t_stepOf, .ref q_t_wholeOf, .ref q_t_next, .ref q_t_around, .ref q_t_plain, .ref q_t_slots, .int F_size, .int F_steps, .int F_spent])), (q_t_pairs, .inl (cI, 60, .inl g12)), (q_t_stepOf, .inl (cI, 60, .inl A_stepOf)), (q_t_slots, .inl (cI, 256, .inl A_slots))] H := hP
          have hD : va_D A [(q_t, .inr (10, [.ref q_t_held, .ref q_t_pairs, .ref q_t_stepOf, .ref q_t_wholeOf, .ref q_t_next, .ref q_t_around, .ref q_t_plain, .ref q_t_slots, .int F_size, .int F_steps, .int F_spent])), (q_t_pairs, .inl (cI, 60, .inl g12)), (q_t_stepOf, .inl (cI, 60, .inl A_stepOf)), (q_t_slots, .inl (cI, 256, .inl A_slots))] := hD
          refine lv_aload_n hx hb dX10_numberOf_58 rfl (lv_at hl 1 rfl) ?_
          refine va_get (D := G) (ci := 10) (v := .ref q_t_stepOf) (C := RX10) (T := TX10) (N := 11) hx hb hts hkX10_numberOf_X10 hown hK hP 0 rfl rfl 2 (by decide) (hts (.fieldLink RX10 15 "NestReaders$Wholes" "stepOf" "[I") hfX10_numberOf_15) (fun _ h9 => h9) rfl dX10_numberOf_59 ?_
          refine lv_aload_n hx hb dX10_numberOf_62 rfl (lv_at hl 1 rfl) ?_
          refine va_get (D := G) (ci := 10) (v := .int F_size) (C := RX10) (T := TX10) (N := 11) hx hb hts hkX10_numberOf_X10 hown hK hP 0 rfl rfl 8 (by decide) (hts (.fieldLink RX10 33 "NestReaders$Wholes" "size" "I") hfX10_numberOf_33) (fun _ h9 => h9) rfl dX10_numberOf_63 ?_
          refine lv_iconst (v := (-1)) hx hb dX10_numberOf_66 (by decide) ?_
          refine ms_iast hx hb hK hP hD hS 2 0 rfl rfl hw.1 dX10_numberOf_67 (fun g13 H locs eg13 hP hD hS => ?_)
          have hw := hw.2 g13 eg13
          have hP : va_P G vwCl [(q_t, .inr (10, [.ref q_t_held, .ref q_t_pairs, .ref q_t_stepOf, .ref q_t_wholeOf, .ref q_t_next, .ref q_t_around, .ref q_t_plain, .ref q_t_slots, .int F_size, .int F_steps, .int F_spent])), (q_t_pairs, .inl (cI, 60, .inl g12)), (q_t_stepOf, .inl (cI, 60, .inl g13)), (q_t_slots, .inl (cI, 256, .inl A_slots))] H := hP
          have hD : va_D A [(q_t, .inr (10, [.ref q_t_held, .ref q_t_pairs, .ref q_t_stepOf, .ref q_t_wholeOf, .ref q_t_next, .ref q_t_around, .ref q_t_plain, .ref q_t_slots, .int F_size, .int F_steps, .int F_spent])), (q_t_pairs, .inl (cI, 60, .inl g12)), (q_t_stepOf, .inl (cI, 60, .inl g13)), (q_t_slots, .inl (cI, 256, .inl A_slots))] := hD
          refine lv_aload_n hx hb dX10_numberOf_68 rfl (lv_at hl 1 rfl) ?_
          refine lv_dup hx hb dX10_numberOf_69 rfl ?_
          refine va_get (D := G) (ci := 10) (v := .int F_size) (C := RX10) (T := TX10) (N := 11) hx hb hts hkX10_numberOf_X10 hown hK hP 0 rfl rfl 8 (by decide) (hts (.fieldLink RX10 33 "NestReaders$Wholes" "size" "I") hfX10_numberOf_33) (fun _ h9 => h9) rfl dX10_numberOf_70 ?_
          refine lv_iconst (v := 1) hx hb dX10_numberOf_73 (by decide) ?_
          refine lv_iadd hx hb dX10_numberOf_74 ?_
          refine lv_topi (fun x14 ex14 => ?_)
          have hw := hw x14 ex14
          refine va_put (D := G) (ci := 10) (v := .int x14) (ty := .int) (C := RX10) (T := TX10) (N := 11) hx hb hts hkX10_numberOf_X10 tyX10 tyX10_ok nmX10 hown hK hP hD hS 0 rfl rfl 8 (by decide) (hts (.fieldLink RX10 33 "NestReaders$Wholes" "size" "I") hfX10_numberOf_33) (fun _ h9 => h9) rfl (by decide +kernel) rfl rfl (Nat.le_of_ble_eq_true rfl) dX10_numberOf_75 (fun H locs hP hD hS => ?_)
          have hP : va_P G vwCl [(q_t, .inr (10, [.ref q_t_held, .ref q_t_pairs, .ref q_t_stepOf, .ref q_t_wholeOf, .ref q_t_next, .ref q_t_around, .ref q_t_plain, .ref q_t_slots, .int x14, .int F_steps, .int F_spent])), (q_t_pairs, .inl (cI, 60, .inl g12)), (q_t_stepOf, .inl (cI, 60, .inl g13)), (q_t_slots, .inl (cI, 256, .inl A_slots))] H := hP
          have hD : va_D A [(q_t, .inr (10, [.ref q_t_held, .ref q_t_pairs, .ref q_t_stepOf, .ref q_t_wholeOf, .ref q_t_next, .ref q_t_around, .ref q_t_plain, .ref q_t_slots, .int x14, .int F_steps, .int F_spent])), (q_t_pairs, .inl (cI, 60, .inl g12)), (q_t_stepOf, .inl (cI, 60, .inl g13)), (q_t_slots, .inl (cI, 256, .inl A_slots))] := hD
          refine lv_aload_n hx hb dX10_numberOf_78 rfl (lv_at hl 1 rfl) ?_
          refine va_get (D := G) (ci := 10) (v := .ref q_t_slots) (C := RX10) (T := TX10) (N := 11) hx hb hts hkX10_numberOf_X10 hown hK hP 0 rfl rfl 7 (by decide) (hts (.fieldLink RX10 30 "NestReaders$Wholes" "slots" "[I") hfX10_numberOf_30) (fun _ h9 => h9) rfl dX10_numberOf_79 ?_
          refine lv_iload_n hx hb dX10_numberOf_82 rfl (lv_at hl 0 rfl) ?_
          refine lv_aload_n hx hb dX10_numberOf_83 rfl (lv_at hl 1 rfl) ?_
          refine va_get (D := G) (ci := 10) (v := .int x14) (C := RX10) (T := TX10) (N := 11) hx hb hts hkX10_numberOf_X10 hown hK hP 0 rfl rfl 8 (by decide) (hts (.fieldLink RX10 33 "NestReaders$Wholes" "size" "I") hfX10_numberOf_33) (fun _ h9 => h9) rfl dX10_numberOf_84 ?_
          refine ms_iast hx hb hK hP hD hS 3 0 rfl rfl hw.1 dX10_numberOf_87 (fun g15 H locs eg15 hP hD hS => ?_)
          have hw := hw.2 g15 eg15
          have hP : va_P G vwCl [(q_t, .inr (10, [.ref q_t_held, .ref q_t_pairs, .ref q_t_stepOf, .ref q_t_wholeOf, .ref q_t_next, .ref q_t_around, .ref q_t_plain, .ref q_t_slots, .int x14, .int F_steps, .int F_spent])), (q_t_pairs, .inl (cI, 60, .inl g12)), (q_t_stepOf, .inl (cI, 60, .inl g13)), (q_t_slots, .inl (cI, 256, .inl g15))] H := hP
          have hD : va_D A [(q_t, .inr (10, [.ref q_t_held, .ref q_t_pairs, .ref q_t_stepOf, .ref q_t_wholeOf, .ref q_t_next, .ref q_t_around, .ref q_t_plain, .ref q_t_slots, .int x14, .int F_steps, .int F_spent])), (q_t_pairs, .inl (cI, 60, .inl g12)), (q_t_stepOf, .inl (cI, 60, .inl g13)), (q_t_slots, .inl (cI, 256, .inl g15))] := hD
          refine lv_aload_n hx hb dX10_numberOf_88 rfl (lv_at hl 1 rfl) ?_
          refine va_get (D := G) (ci := 10) (v := .int x14) (C := RX10) (T := TX10) (N := 11) hx hb hts hkX10_numberOf_X10 hown hK hP 0 rfl rfl 8 (by decide) (hts (.fieldLink RX10 33 "NestReaders$Wholes" "size" "I") hfX10_numberOf_33) (fun _ h9 => h9) rfl dX10_numberOf_89 ?_
          refine lv_iconst (v := 1) hx hb dX10_numberOf_92 (by decide) ?_
          refine lv_isub hx hb dX10_numberOf_93 ?_
          exact hRet (x14 - (1 : Int32)) ⟨x14, F_spent, g12, g13, g15⟩ H locs _ _ hw (vp_nar_int _) hP hD hS dX10_numberOf_94
        · have hw := hw.2 c11
          refine lv_aload_n hx hb dX10_numberOf_41 rfl (lv_at hl 1 rfl) ?_
          refine lv_iconst (v := 1) hx hb dX10_numberOf_42 (by decide) ?_
          refine va_put (D := G) (ci := 10) (v := .int (1 : Int32)) (ty := .boolean) (C := RX10) (T := TX10) (N := 11) hx hb hts hkX10_numberOf_X10 tyX10 tyX10_ok nmX10 hown hK hP hD hS 0 rfl rfl 10 (by decide) (hts (.fieldLink RX10 40 "NestReaders$Wholes" "spent" "Z") hfX10_numberOf_40) (fun _ h9 => h9) rfl (by decide +kernel) ms_z1 (ms_zfit ms_z1) (Nat.le_of_ble_eq_true rfl) dX10_numberOf_43 (fun H locs hP hD hS => ?_)
          have hP : va_P G vwCl [(q_t, .inr (10, [.ref q_t_held, .ref q_t_pairs, .ref q_t_stepOf, .ref q_t_wholeOf, .ref q_t_next, .ref q_t_around, .ref q_t_plain, .ref q_t_slots, .int F_size, .int F_steps, .int (1 : Int32)])), (q_t_pairs, .inl (cI, 60, .inl A_pairs)), (q_t_stepOf, .inl (cI, 60, .inl A_stepOf)), (q_t_slots, .inl (cI, 256, .inl A_slots))] H := hP
          have hD : va_D A [(q_t, .inr (10, [.ref q_t_held, .ref q_t_pairs, .ref q_t_stepOf, .ref q_t_wholeOf, .ref q_t_next, .ref q_t_around, .ref q_t_plain, .ref q_t_slots, .int F_size, .int F_steps, .int (1 : Int32)])), (q_t_pairs, .inl (cI, 60, .inl A_pairs)), (q_t_stepOf, .inl (cI, 60, .inl A_stepOf)), (q_t_slots, .inl (cI, 256, .inl A_slots))] := hD
          refine lv_iconst (v := 0) hx hb dX10_numberOf_46 (by decide) ?_
          exact hRet (0 : Int32) ⟨F_size, (1 : Int32), A_pairs, A_stepOf, A_slots⟩ H locs _ _ hw (vp_nar_int _) hP hD hS dX10_numberOf_47
    · have hw := hw.2 c9
      refine lv_aload_n hx hb dX10_numberOf_19 rfl (lv_at hl 1 rfl) ?_
      refine va_get (D := G) (ci := 10) (v := .ref q_t_slots) (C := RX10) (T := TX10) (N := 11) hx hb hts hkX10_numberOf_X10 hown hK hP 0 rfl rfl 7 (by decide) (hts (.fieldLink RX10 30 "NestReaders$Wholes" "slots" "[I") hfX10_numberOf_30) (fun _ h9 => h9) rfl dX10_numberOf_20 ?_
      refine lv_iload_n hx hb dX10_numberOf_23 rfl (lv_at hl 0 rfl) ?_
      refine va_iald (D := G) hx hb hK hP 3 0 rfl rfl hw.1 dX10_numberOf_24 ?_
      have hw := hw.2
      refine lv_iconst (v := 1) hx hb dX10_numberOf_25 (by decide) ?_
      refine lv_isub hx hb dX10_numberOf_26 ?_
      exact hRet ((A_slots r1.toNatClampNeg) - (1 : Int32)) ⟨F_size, F_spent, A_pairs, A_stepOf, A_slots⟩ s.heap [] _ _ hw (vp_nar_int _) hP hD hS dX10_numberOf_27
def wX10_link_L2 (p0 : Int32) (F_steps : Int32) (A_wholeOf : Nat → Int32) (E2 : Int32 → Int32 → Int32 → (Nat → Int32) → (Nat → Int32) → (Nat → Int32) → (Nat → Int32) → Prop) (i2_3 : Int32) (F_size_2 : Int32) (F_spent_2 : Int32) (A_pairs_2 : Nat → Int32) (A_stepOf_2 : Nat → Int32) (A_next_2 : Nat → Int32) (A_slots_2 : Nat → Int32) : Prop :=
  ∀ P2 : Int32 → Int32 → Int32 → (Nat → Int32) → (Nat → Int32) → (Nat → Int32) → (Nat → Int32) → Prop, (∀ (i2_3 : Int32) (F_size_2 : Int32) (F_spent_2 : Int32) (A_pairs_2 : Nat → Int32) (A_stepOf_2 : Nat → Int32) (A_next_2 : Nat → Int32) (A_slots_2 : Nat → Int32), ((F_steps ≤ i2_3 → E2 i2_3 F_size_2 F_spent_2 A_pairs_2 A_stepOf_2 A_next_2 A_slots_2) ∧ (¬ F_steps ≤ i2_3 → ((F_spent_2 = (0 : Int32) → (vp_in p0 60 ∧ (vp_in i2_3 60 ∧ (vp_in (A_wholeOf i2_3.toNatClampNeg) 60 ∧ (wX1_then (A_pairs_2 p0.toNatClampNeg) (A_pairs_2 (A_wholeOf i2_3.toNatClampNeg).toNatClampNeg) (fun r3 => (wX10_numberOf r3 F_size_2 F_spent_2 A_pairs_2 A_stepOf_2 A_slots_2 (fun r4 u5 u6 u7 u8 u9 => (vp_in ((p0 * (60 : Int32)) + i2_3) 3600 ∧ (∀ g10 : Nat → Int32, g10 = upd A_next_2 ((p0 * (60 : Int32)) + i2_3).toNatClampNeg r4 → (∀ x11 : Int32, x11 = i2_3 + (1 : Int32) → P2 x11 u5 u6 u7 u8 g10 u9))))))))))) ∧ (¬ F_spent_2 = (0 : Int32) → E2 i2_3 F_size_2 F_spent_2 A_pairs_2 A_stepOf_2 A_next_2 A_slots_2)))) → P2 i2_3 F_size_2 F_spent_2 A_pairs_2 A_stepOf_2 A_next_2 A_slots_2) → P2 i2_3 F_size_2 F_spent_2 A_pairs_2 A_stepOf_2 A_next_2 A_slots_2
def wX10_link (p0 : Int32) (p1 : Int32) (F_size : Int32) (F_steps : Int32) (F_spent : Int32) (A_pairs : Nat → Int32) (A_stepOf : Nat → Int32) (A_wholeOf : Nat → Int32) (A_next : Nat → Int32) (A_slots : Nat → Int32) (K : Int32 → Int32 → (Nat → Int32) → (Nat → Int32) → (Nat → Int32) → (Nat → Int32) → Prop) : Prop :=
  (∀ E2 : Int32 → Int32 → Int32 → (Nat → Int32) → (Nat → Int32) → (Nat → Int32) → (Nat → Int32) → Prop, (∀ (i2_3 : Int32) (F_size_2 : Int32) (F_spent_2 : Int32) (A_pairs_2 : Nat → Int32) (A_stepOf_2 : Nat → Int32) (A_next_2 : Nat → Int32) (A_slots_2 : Nat → Int32), K F_size_2 F_spent_2 A_pairs_2 A_stepOf_2 A_next_2 A_slots_2 → E2 i2_3 F_size_2 F_spent_2 A_pairs_2 A_stepOf_2 A_next_2 A_slots_2) → wX10_link_L2 p0 F_steps A_wholeOf E2 p1 F_size F_spent A_pairs A_stepOf A_next A_slots)
abbrev rmX10_link : Room := { frames := 3, cells := 0, slots := 0, locals := 64 }
theorem nd_X10_link : yX10_link.cls = RX10 ∧ yX10_link.cls ≠ "java/lang/invoke/MethodHandle" ∧ yX10_link.cls ≠ "java/lang/invoke/VarHandle" ∧ (parseMethodDescriptor yX10_link.desc).map (fun d => d.parameters.length) = some 2 := by decide +kernel
theorem hkX10_link_X10 : ∀ w ∈ u_ws RX10 TX10 11, w ∈ wsX10_link := fun w h => List.mem_cons_of_mem _ (inlX10 w h)
theorem hfX10_link_37 : (Cond.fieldLink RX10 37 "NestReaders$Wholes" "steps" "I") ∈ wsX10_link := List.mem_cons_of_mem _ m6_14
theorem hfX10_link_40 : (Cond.fieldLink RX10 40 "NestReaders$Wholes" "spent" "Z") ∈ wsX10_link := List.mem_cons_of_mem _ m6_15
theorem hfX10_link_9 : (Cond.fieldLink RX10 9 "NestReaders$Wholes" "pairs" "[I") ∈ wsX10_link := List.mem_cons_of_mem _ m6_6
theorem hfX10_link_18 : (Cond.fieldLink RX10 18 "NestReaders$Wholes" "wholeOf" "[I") ∈ wsX10_link := List.mem_cons_of_mem _ m6_8
theorem hfX10_link_21 : (Cond.fieldLink RX10 21 "NestReaders$Wholes" "next" "[I") ∈ wsX10_link := List.mem_cons_of_mem _ m6_9
set_option maxHeartbeats 4000000 in
set_option maxRecDepth 100000 in
theorem c_X10_link (l : Launch) (G : va_G) (cI cJ cZ : ClassId) (q_t q_t_held q_t_pairs q_t_stepOf q_t_wholeOf q_t_next q_t_around q_t_plain q_t_slots : Nat) (sz : Nat) (F_size : Int32) (F_steps : Int32) (F_spent : Int32) (A_pairs : Nat → Int32) (A_stepOf : Nat → Int32) (A_wholeOf : Nat → Int32) (A_next : Nat → Int32) (A_slots : Nat → Int32) (p0 : Int32) (p1 : Int32) {K : Int32 → Int32 → (Nat → Int32) → (Nat → Int32) → (Nat → Int32) → (Nat → Int32) → Prop} (hw : wX10_link p0 p1 F_size F_steps F_spent A_pairs A_stepOf A_wholeOf A_next A_slots K) : Met l yX10_link wsX10_link rmX10_link (ms_Pz G (ms_T cI cJ cZ) [(q_t, .inr (10, [.ref q_t_held, .ref q_t_pairs, .ref q_t_stepOf, .ref q_t_wholeOf, .ref q_t_next, .ref q_t_around, .ref q_t_plain, .ref q_t_slots, .int F_size, .int F_steps, .int F_spent])), (q_t_pairs, .inl (cI, 60, .inl A_pairs)), (q_t_stepOf, .inl (cI, 60, .inl A_stepOf)), (q_t_wholeOf, .inl (cI, 60, .inl A_wholeOf)), (q_t_next, .inl (cI, 3600, .inl A_next)), (q_t_slots, .inl (cI, 256, .inl A_slots))] sz [.ref q_t, .int p0, .int p1]) (ms_Wv G (ms_T cI cJ cZ) (fun (u : Int32 × Int32 × (Nat → Int32) × (Nat → Int32) × (Nat → Int32) × (Nat → Int32)) => K u.1 u.2.1 u.2.2.1 u.2.2.2.1 u.2.2.2.2.1 u.2.2.2.2.2) (fun u : Int32 × Int32 × (Nat → Int32) × (Nat → Int32) × (Nat → Int32) × (Nat → Int32) => [(q_t, .inr (10, [.ref q_t_held, .ref q_t_pairs, .ref q_t_stepOf, .ref q_t_wholeOf, .ref q_t_next, .ref q_t_around, .ref q_t_plain, .ref q_t_slots, .int u.1, .int F_steps, .int u.2.1])), (q_t_pairs, .inl (cI, 60, .inl u.2.2.1)), (q_t_stepOf, .inl (cI, 60, .inl u.2.2.2.1)), (q_t_wholeOf, .inl (cI, 60, .inl A_wholeOf)), (q_t_next, .inl (cI, 3600, .inl u.2.2.2.2.1)), (q_t_slots, .inl (cI, 256, .inl u.2.2.2.2.2))]) (va_A [(q_t, .inr (10, [.ref q_t_held, .ref q_t_pairs, .ref q_t_stepOf, .ref q_t_wholeOf, .ref q_t_next, .ref q_t_around, .ref q_t_plain, .ref q_t_slots, .int F_size, .int F_steps, .int F_spent])), (q_t_pairs, .inl (cI, 60, .inl A_pairs)), (q_t_stepOf, .inl (cI, 60, .inl A_stepOf)), (q_t_wholeOf, .inl (cI, 60, .inl A_wholeOf)), (q_t_next, .inl (cI, 3600, .inl A_next)), (q_t_slots, .inl (cI, 256, .inl A_slots))] sz)) 0 0 (va_A [(q_t, .inr (10, [.ref q_t_held, .ref q_t_pairs, .ref q_t_stepOf, .ref q_t_wholeOf, .ref q_t_next, .ref q_t_around, .ref q_t_plain, .ref q_t_slots, .int F_size, .int F_steps, .int F_spent])), (q_t_pairs, .inl (cI, 60, .inl A_pairs)), (q_t_stepOf, .inl (cI, 60, .inl A_stepOf)), (q_t_wholeOf, .inl (cI, 60, .inl A_wholeOf)), (q_t_next, .inl (cI, 3600, .inl A_next)), (q_t_slots, .inl (cI, 256, .inl A_slots))] sz) := by
  refine ms_tv (cc := cX10_link) (maxL := 5) (by decide) rfl (Nat.le_of_ble_eq_true rfl) ?_
  intro p e s m args below meth c Q A hx hb hml hown hts hK hP hD hS hA hRet ls hl
  have hl : lv_has ls 5 [(0, .ref q_t), (1, .int p0), (2, .int p1)] := hl
  have hown : s.vm.findClass RX10 = some m.cls := hown
  refine lv_iload_n hx hb dX10_link_0 rfl (lv_at hl 2 rfl) ?_
  refine lv_istore_n (lv' := [(3, .int p1), (0, .ref q_t), (1, .int p0), (2, .int p1)]) hx hb dX10_link_1 rfl hl (by decide) rfl (fun ls hl => ?_)
  have hw := hw (fun i2_3 F_size_2 F_spent_2 A_pairs_2 A_stepOf_2 A_next_2 A_slots_2 => ∀ (H : Heap) (locs : List Loc), va_P G vwCl [(q_t, .inr (10, [.ref q_t_held, .ref q_t_pairs, .ref q_t_stepOf, .ref q_t_wholeOf, .ref q_t_next, .ref q_t_around, .ref q_t_plain, .ref q_t_slots, .int F_size_2, .int F_steps, .int F_spent_2])), (q_t_pairs, .inl (cI, 60, .inl A_pairs_2)), (q_t_stepOf, .inl (cI, 60, .inl A_stepOf_2)), (q_t_wholeOf, .inl (cI, 60, .inl A_wholeOf)), (q_t_next, .inl (cI, 3600, .inl A_next_2)), (q_t_slots, .inl (cI, 256, .inl A_slots_2))] H → va_D A [(q_t, .inr (10, [.ref q_t_held, .ref q_t_pairs, .ref q_t_stepOf, .ref q_t_wholeOf, .ref q_t_next, .ref q_t_around, .ref q_t_plain, .ref q_t_slots, .int F_size_2, .int F_steps, .int F_spent_2])), (q_t_pairs, .inl (cI, 60, .inl A_pairs_2)), (q_t_stepOf, .inl (cI, 60, .inl A_stepOf_2)), (q_t_wholeOf, .inl (cI, 60, .inl A_wholeOf)), (q_t_next, .inl (cI, 3600, .inl A_next_2)), (q_t_slots, .inl (cI, 256, .inl A_slots_2))] → va_S A s.heap H locs → ∀ ls : Array Slot, lv_has ls 5 [] → W p l e rmX10_link s m args below meth c H locs 0 0 Q (F0 m 62 ls [])) (fun i2_3 F_size_2 F_spent_2 A_pairs_2 A_stepOf_2 A_next_2 A_slots_2 hw H locs hP hD hS ls hl => by
    exact hRet ⟨F_size_2, F_spent_2, A_pairs_2, A_stepOf_2, A_next_2, A_slots_2⟩ H locs _ _ hw hP hD hS dX10_link_62
    )
  refine hw (fun i2_3 F_size_2 F_spent_2 A_pairs_2 A_stepOf_2 A_next_2 A_slots_2 => ∀ (H : Heap) (locs : List Loc), va_P G vwCl [(q_t, .inr (10, [.ref q_t_held, .ref q_t_pairs, .ref q_t_stepOf, .ref q_t_wholeOf, .ref q_t_next, .ref q_t_around, .ref q_t_plain, .ref q_t_slots, .int F_size_2, .int F_steps, .int F_spent_2])), (q_t_pairs, .inl (cI, 60, .inl A_pairs_2)), (q_t_stepOf, .inl (cI, 60, .inl A_stepOf_2)), (q_t_wholeOf, .inl (cI, 60, .inl A_wholeOf)), (q_t_next, .inl (cI, 3600, .inl A_next_2)), (q_t_slots, .inl (cI, 256, .inl A_slots_2))] H → va_D A [(q_t, .inr (10, [.ref q_t_held, .ref q_t_pairs, .ref q_t_stepOf, .ref q_t_wholeOf, .ref q_t_next, .ref q_t_around, .ref q_t_plain, .ref q_t_slots, .int F_size_2, .int F_steps, .int F_spent_2])), (q_t_pairs, .inl (cI, 60, .inl A_pairs_2)), (q_t_stepOf, .inl (cI, 60, .inl A_stepOf_2)), (q_t_wholeOf, .inl (cI, 60, .inl A_wholeOf)), (q_t_next, .inl (cI, 3600, .inl A_next_2)), (q_t_slots, .inl (cI, 256, .inl A_slots_2))] → va_S A s.heap H locs → ∀ ls : Array Slot, lv_has ls 5 [(0, .ref q_t), (1, .int p0), (3, .int i2_3)] → W p l e rmX10_link s m args below meth c H locs 0 0 Q (F0 m 2 ls [])) (fun i2_3 F_size_2 F_spent_2 A_pairs_2 A_stepOf_2 A_next_2 A_slots_2 hw H locs hP hD hS ls hl => ?_) s.heap [] hP hD hS ls (lv_sub hl [1, 2, 0] rfl)
  refine lv_iload_n hx hb dX10_link_2 rfl (lv_at hl 2 rfl) ?_
  refine lv_aload_n hx hb dX10_link_3 rfl (lv_at hl 0 rfl) ?_
  refine va_get (D := G) (ci := 10) (v := .int F_steps) (C := RX10) (T := TX10) (N := 11) hx hb hts hkX10_link_X10 hown hK hP 0 rfl rfl 9 (by decide) (hts (.fieldLink RX10 37 "NestReaders$Wholes" "steps" "I") hfX10_link_37) (fun _ h9 => h9) rfl dX10_link_4 ?_
  refine lv_icmp_ge (tgt := 62) hx hb dX10_link_7 (by decide) (fun c1 => ?_) (fun c1 => ?_)
  · have hw := hw.1 c1
    exact hw H locs hP hD hS ls (lv_sub hl [] rfl)
  · have hw := hw.2 c1
    refine lv_aload_n hx hb dX10_link_10 rfl (lv_at hl 0 rfl) ?_
    refine va_get (D := G) (ci := 10) (v := .int F_spent_2) (C := RX10) (T := TX10) (N := 11) hx hb hts hkX10_link_X10 hown hK hP 0 rfl rfl 10 (by decide) (hts (.fieldLink RX10 40 "NestReaders$Wholes" "spent" "Z") hfX10_link_40) (fun _ h9 => h9) rfl dX10_link_11 ?_
    refine lv_if_ne (tgt := 62) hx hb dX10_link_14 (by decide) (fun c2 => ?_) (fun c2 => ?_)
    · have hw := hw.2 c2
      exact hw H locs hP hD hS ls (lv_sub hl [] rfl)
    · have hw := hw.1 c2
      refine lv_aload_n hx hb dX10_link_17 rfl (lv_at hl 0 rfl) ?_
      refine va_get (D := G) (ci := 10) (v := .ref q_t_pairs) (C := RX10) (T := TX10) (N := 11) hx hb hts hkX10_link_X10 hown hK hP 0 rfl rfl 1 (by decide) (hts (.fieldLink RX10 9 "NestReaders$Wholes" "pairs" "[I") hfX10_link_9) (fun _ h9 => h9) rfl dX10_link_18 ?_
      refine lv_iload_n hx hb dX10_link_21 rfl (lv_at hl 1 rfl) ?_
      refine va_iald (D := G) hx hb hK hP 1 0 rfl rfl hw.1 dX10_link_22 ?_
      have hw := hw.2
      refine lv_aload_n hx hb dX10_link_23 rfl (lv_at hl 0 rfl) ?_
      refine va_get (D := G) (ci := 10) (v := .ref q_t_pairs) (C := RX10) (T := TX10) (N := 11) hx hb hts hkX10_link_X10 hown hK hP 0 rfl rfl 1 (by decide) (hts (.fieldLink RX10 9 "NestReaders$Wholes" "pairs" "[I") hfX10_link_9) (fun _ h9 => h9) rfl dX10_link_24 ?_
      refine lv_aload_n hx hb dX10_link_27 rfl (lv_at hl 0 rfl) ?_
      refine va_get (D := G) (ci := 10) (v := .ref q_t_wholeOf) (C := RX10) (T := TX10) (N := 11) hx hb hts hkX10_link_X10 hown hK hP 0 rfl rfl 3 (by decide) (hts (.fieldLink RX10 18 "NestReaders$Wholes" "wholeOf" "[I") hfX10_link_18) (fun _ h9 => h9) rfl dX10_link_28 ?_
      refine lv_iload_n hx hb dX10_link_31 rfl (lv_at hl 2 rfl) ?_
      refine va_iald (D := G) hx hb hK hP 3 0 rfl rfl hw.1 dX10_link_32 ?_
      have hw := hw.2
      refine va_iald (D := G) hx hb hK hP 1 0 rfl rfl hw.1 dX10_link_33 ?_
      have hw := hw.2
      refine ms_cSi ⟨hx, hb, hml, hown, hts⟩ hK hP hD (c_X1_then l G cI cJ cZ (A_pairs_2 p0.toNatClampNeg) (A_pairs_2 (A_wholeOf i2_3.toNatClampNeg).toNatClampNeg) hw) gX10_link_X1_then rfl nd_X1_then ⟨rfl, rfl⟩ rfl ⟨Nat.le_of_ble_eq_true rfl, Nat.le_of_ble_eq_true rfl⟩ hl.1 (rest := []) rfl (Nat.le_of_ble_eq_true rfl)  [] rfl rfl dX10_link_34 (fun r3 hw => ?_)
      refine lv_istore (lv' := [(4, .int r3), (0, .ref q_t), (1, .int p0), (3, .int i2_3)]) hx hb dX10_link_37 hl (by decide) rfl (fun ls hl => ?_)
      refine lv_aload_n hx hb dX10_link_39 rfl (lv_at hl 1 rfl) ?_
      refine va_get (D := G) (ci := 10) (v := .ref q_t_next) (C := RX10) (T := TX10) (N := 11) hx hb hts hkX10_link_X10 hown hK hP 0 rfl rfl 4 (by decide) (hts (.fieldLink RX10 21 "NestReaders$Wholes" "next" "[I") hfX10_link_21) (fun _ h9 => h9) rfl dX10_link_40 ?_
      refine lv_iload_n hx hb dX10_link_43 rfl (lv_at hl 2 rfl) ?_
      refine lv_bipush (v := (60)) hx hb dX10_link_44 (by decide) ?_
      refine lv_imul hx hb dX10_link_46 ?_
      refine lv_iload_n hx hb dX10_link_47 rfl (lv_at hl 3 rfl) ?_
      refine lv_iadd hx hb dX10_link_48 ?_
      refine lv_aload_n hx hb dX10_link_49 rfl (lv_at hl 1 rfl) ?_
      refine lv_iload hx hb dX10_link_50 (lv_at hl 0 rfl) ?_
      refine ms_mVi (wr := [(q_t_wholeOf, .inl (cI, 60, .inl A_wholeOf)), (q_t_next, .inl (cI, 3600, .inl A_next_2))]) ⟨hx, hb, hml, hown, hts⟩ hK hP hD (c_X10_numberOf l G cI cJ cZ q_t q_t_held q_t_pairs q_t_stepOf q_t_wholeOf q_t_next q_t_around q_t_plain q_t_slots H.size F_size_2 F_steps F_spent_2 A_pairs_2 A_stepOf_2 A_slots_2 r3 hw) gX10_link_X10_numberOf rfl nd_X10_numberOf (ci := 10) rfl rfl rfl ⟨rfl, rfl⟩ rfl ⟨Nat.le_of_ble_eq_true rfl, Nat.le_of_ble_eq_true rfl⟩ hl.1 (rest := [.int ((p0 * (60 : Int32)) + i2_3), .ref q_t_next]) rfl (Nat.le_of_ble_eq_true rfl)  hS hA [0, 1, 2, 5] [3, 4] rfl rfl rfl (by decide) rfl dX10_link_52 (fun r4 u H locs hw hP hD hS => ?_)
      obtain ⟨u5, u6, u7, u8, u9⟩ := u
      obtain ⟨hP, hD⟩ : ms_PD G A [(q_t, .inr (10, [.ref q_t_held, .ref q_t_pairs, .ref q_t_stepOf, .ref q_t_wholeOf, .ref q_t_next, .ref q_t_around, .ref q_t_plain, .ref q_t_slots, .int u5, .int F_steps, .int u6])), (q_t_pairs, .inl (cI, 60, .inl u7)), (q_t_stepOf, .inl (cI, 60, .inl u8)), (q_t_wholeOf, .inl (cI, 60, .inl A_wholeOf)), (q_t_next, .inl (cI, 3600, .inl A_next_2)), (q_t_slots, .inl (cI, 256, .inl u9))] H := ms_PDsub hP hD [2, 3, 4, 0, 1, 5] (by decide +kernel) rfl
      refine ms_iast hx hb hK hP hD hS 4 0 rfl rfl hw.1 dX10_link_55 (fun g10 H locs eg10 hP hD hS => ?_)
      have hw := hw.2 g10 eg10
      have hP : va_P G vwCl [(q_t, .inr (10, [.ref q_t_held, .ref q_t_pairs, .ref q_t_stepOf, .ref q_t_wholeOf, .ref q_t_next, .ref q_t_around, .ref q_t_plain, .ref q_t_slots, .int u5, .int F_steps, .int u6])), (q_t_pairs, .inl (cI, 60, .inl u7)), (q_t_stepOf, .inl (cI, 60, .inl u8)), (q_t_wholeOf, .inl (cI, 60, .inl A_wholeOf)), (q_t_next, .inl (cI, 3600, .inl g10)), (q_t_slots, .inl (cI, 256, .inl u9))] H := hP
      have hD : va_D A [(q_t, .inr (10, [.ref q_t_held, .ref q_t_pairs, .ref q_t_stepOf, .ref q_t_wholeOf, .ref q_t_next, .ref q_t_around, .ref q_t_plain, .ref q_t_slots, .int u5, .int F_steps, .int u6])), (q_t_pairs, .inl (cI, 60, .inl u7)), (q_t_stepOf, .inl (cI, 60, .inl u8)), (q_t_wholeOf, .inl (cI, 60, .inl A_wholeOf)), (q_t_next, .inl (cI, 3600, .inl g10)), (q_t_slots, .inl (cI, 256, .inl u9))] := hD
      obtain ⟨x11, ex11⟩ : ∃ y : Int32, y = i2_3 + (1 : Int32) := ⟨_, rfl⟩
      have hw := hw x11 ex11
      refine lv_iinc (v := x11) (lv' := [(3, .int x11), (4, .int r3), (0, .ref q_t), (1, .int p0)]) hx hb dX10_link_56 hl (k := 3) rfl (by rw [ex11]; rfl) (by decide) rfl (fun ls hl => ?_)
      refine lv_goto (tgt := 2) hx hb dX10_link_59 (by decide) ?_
      exact hw H locs hP hD hS ls (lv_sub hl [2, 3, 0] rfl)
def wX10_stepFor (p0 : Int32) (F_size : Int32) (F_steps : Int32) (F_spent : Int32) (A_pairs : Nat → Int32) (A_stepOf : Nat → Int32) (A_wholeOf : Nat → Int32) (A_slots : Nat → Int32) (K : Int32 → Int32 → Int32 → Int32 → (Nat → Int32) → (Nat → Int32) → (Nat → Int32) → (Nat → Int32) → Prop) : Prop :=
  (wX10_numberOf p0 F_size F_spent A_pairs A_stepOf A_slots (fun r1 u2 u3 u4 u5 u6 => ((u3 = (0 : Int32) → (vp_in r1 60 ∧ (((0 : Int32) ≤ (u5 r1.toNatClampNeg) → (vp_in r1 60 ∧ K (u5 r1.toNatClampNeg) u2 F_steps u3 u4 u5 A_wholeOf u6)) ∧ (¬ (0 : Int32) ≤ (u5 r1.toNatClampNeg) → (((60 : Int32) ≤ F_steps → (vp_in r1 60 ∧ K (u5 r1.toNatClampNeg) u2 F_steps u3 u4 u5 A_wholeOf u6)) ∧ (¬ (60 : Int32) ≤ F_steps → (vp_in r1 60 ∧ (∀ g10 : Nat → Int32, g10 = upd u5 r1.toNatClampNeg F_steps → (vp_in F_steps 60 ∧ (∀ g11 : Nat → Int32, g11 = upd A_wholeOf F_steps.toNatClampNeg r1 → (∀ x12 : Int32, x12 = (F_steps + (1 : Int32)) → (vp_in r1 60 ∧ K (g10 r1.toNatClampNeg) u2 x12 u3 u4 g10 g11 u6)))))))))))) ∧ (¬ u3 = (0 : Int32) → K (0 : Int32) u2 F_steps u3 u4 u5 A_wholeOf u6))))
abbrev rmX10_stepFor : Room := { frames := 2, cells := 0, slots := 0, locals := 46 }
theorem nd_X10_stepFor : yX10_stepFor.cls = RX10 ∧ yX10_stepFor.cls ≠ "java/lang/invoke/MethodHandle" ∧ yX10_stepFor.cls ≠ "java/lang/invoke/VarHandle" ∧ (parseMethodDescriptor yX10_stepFor.desc).map (fun d => d.parameters.length) = some 1 := by decide +kernel
theorem hkX10_stepFor_X10 : ∀ w ∈ u_ws RX10 TX10 11, w ∈ wsX10_stepFor := fun w h => List.mem_cons_of_mem _ (inlX10 w h)
theorem hfX10_stepFor_40 : (Cond.fieldLink RX10 40 "NestReaders$Wholes" "spent" "Z") ∈ wsX10_stepFor := List.mem_cons_of_mem _ m6_15
theorem hfX10_stepFor_15 : (Cond.fieldLink RX10 15 "NestReaders$Wholes" "stepOf" "[I") ∈ wsX10_stepFor := List.mem_cons_of_mem _ m6_7
theorem hfX10_stepFor_37 : (Cond.fieldLink RX10 37 "NestReaders$Wholes" "steps" "I") ∈ wsX10_stepFor := List.mem_cons_of_mem _ m6_14
theorem hfX10_stepFor_18 : (Cond.fieldLink RX10 18 "NestReaders$Wholes" "wholeOf" "[I") ∈ wsX10_stepFor := List.mem_cons_of_mem _ m6_8
set_option maxHeartbeats 4000000 in
set_option maxRecDepth 100000 in
theorem c_X10_stepFor (l : Launch) (G : va_G) (cI cJ cZ : ClassId) (q_t q_t_held q_t_pairs q_t_stepOf q_t_wholeOf q_t_next q_t_around q_t_plain q_t_slots : Nat) (sz : Nat) (F_size : Int32) (F_steps : Int32) (F_spent : Int32) (A_pairs : Nat → Int32) (A_stepOf : Nat → Int32) (A_wholeOf : Nat → Int32) (A_slots : Nat → Int32) (p0 : Int32) {K : Int32 → Int32 → Int32 → Int32 → (Nat → Int32) → (Nat → Int32) → (Nat → Int32) → (Nat → Int32) → Prop} (hw : wX10_stepFor p0 F_size F_steps F_spent A_pairs A_stepOf A_wholeOf A_slots K) : Met l yX10_stepFor wsX10_stepFor rmX10_stepFor (ms_Pz G (ms_T cI cJ cZ) [(q_t, .inr (10, [.ref q_t_held, .ref q_t_pairs, .ref q_t_stepOf, .ref q_t_wholeOf, .ref q_t_next, .ref q_t_around, .ref q_t_plain, .ref q_t_slots, .int F_size, .int F_steps, .int F_spent])), (q_t_pairs, .inl (cI, 60, .inl A_pairs)), (q_t_stepOf, .inl (cI, 60, .inl A_stepOf)), (q_t_wholeOf, .inl (cI, 60, .inl A_wholeOf)), (q_t_slots, .inl (cI, 256, .inl A_slots))] sz [.ref q_t, .int p0]) (ms_Wi G (ms_T cI cJ cZ) (fun (r : Int32) (u : Int32 × Int32 × Int32 × (Nat → Int32) × (Nat → Int32) × (Nat → Int32) × (Nat → Int32)) => K r u.1 u.2.1 u.2.2.1 u.2.2.2.1 u.2.2.2.2.1 u.2.2.2.2.2.1 u.2.2.2.2.2.2) (fun u : Int32 × Int32 × Int32 × (Nat → Int32) × (Nat → Int32) × (Nat → Int32) × (Nat → Int32) => [(q_t, .inr (10, [.ref q_t_held, .ref q_t_pairs, .ref q_t_stepOf, .ref q_t_wholeOf, .ref q_t_next, .ref q_t_around, .ref q_t_plain, .ref q_t_slots, .int u.1, .int u.2.1, .int u.2.2.1])), (q_t_pairs, .inl (cI, 60, .inl u.2.2.2.1)), (q_t_stepOf, .inl (cI, 60, .inl u.2.2.2.2.1)), (q_t_wholeOf, .inl (cI, 60, .inl u.2.2.2.2.2.1)), (q_t_slots, .inl (cI, 256, .inl u.2.2.2.2.2.2))]) (va_A [(q_t, .inr (10, [.ref q_t_held, .ref q_t_pairs, .ref q_t_stepOf, .ref q_t_wholeOf, .ref q_t_next, .ref q_t_around, .ref q_t_plain, .ref q_t_slots, .int F_size, .int F_steps, .int F_spent])), (q_t_pairs, .inl (cI, 60, .inl A_pairs)), (q_t_stepOf, .inl (cI, 60, .inl A_stepOf)), (q_t_wholeOf, .inl (cI, 60, .inl A_wholeOf)), (q_t_slots, .inl (cI, 256, .inl A_slots))] sz)) 0 0 (va_A [(q_t, .inr (10, [.ref q_t_held, .ref q_t_pairs, .ref q_t_stepOf, .ref q_t_wholeOf, .ref q_t_next, .ref q_t_around, .ref q_t_plain, .ref q_t_slots, .int F_size, .int F_steps, .int F_spent])), (q_t_pairs, .inl (cI, 60, .inl A_pairs)), (q_t_stepOf, .inl (cI, 60, .inl A_stepOf)), (q_t_wholeOf, .inl (cI, 60, .inl A_wholeOf)), (q_t_slots, .inl (cI, 256, .inl A_slots))] sz) := by
  refine ms_ti (cc := cX10_stepFor) (maxL := 3) (ty := .int) (by decide) rfl (Nat.le_of_ble_eq_true rfl) ?_
  intro p e s m args below meth c Q A hx hb hml hown hts hK hP hD hS hA hRet ls hl
  have hl : lv_has ls 3 [(0, .ref q_t), (1, .int p0)] := hl
  have hown : s.vm.findClass RX10 = some m.cls := hown
  refine lv_aload_n hx hb dX10_stepFor_0 rfl (lv_at hl 0 rfl) ?_
  refine lv_iload_n hx hb dX10_stepFor_1 rfl (lv_at hl 1 rfl) ?_
  refine ms_mVi (wr := [(q_t_wholeOf, .inl (cI, 60, .inl A_wholeOf))]) ⟨hx, hb, hml, hown, hts⟩ hK hP hD (c_X10_numberOf l G cI cJ cZ q_t q_t_held q_t_pairs q_t_stepOf q_t_wholeOf q_t_next q_t_around q_t_plain q_t_slots s.heap.size F_size F_steps F_spent A_pairs A_stepOf A_slots p0 hw) gX10_stepFor_X10_numberOf rfl nd_X10_numberOf (ci := 10) rfl rfl rfl ⟨rfl, rfl⟩ rfl ⟨Nat.le_of_ble_eq_true rfl, Nat.le_of_ble_eq_true rfl⟩ hl.1 (rest := []) rfl (Nat.le_of_ble_eq_true rfl)  hS hA [0, 1, 2, 4] [3] rfl rfl rfl (by decide) rfl dX10_stepFor_2 (fun r1 u H locs hw hP hD hS => ?_)
  obtain ⟨u2, u3, u4, u5, u6⟩ := u
  obtain ⟨hP, hD⟩ : ms_PD G A [(q_t, .inr (10, [.ref q_t_held, .ref q_t_pairs, .ref q_t_stepOf, .ref q_t_wholeOf, .ref q_t_next, .ref q_t_around, .ref q_t_plain, .ref q_t_slots, .int u2, .int F_steps, .int u3])), (q_t_pairs, .inl (cI, 60, .inl u4)), (q_t_stepOf, .inl (cI, 60, .inl u5)), (q_t_wholeOf, .inl (cI, 60, .inl A_wholeOf)), (q_t_slots, .inl (cI, 256, .inl u6))] H := ms_PDsub hP hD [1, 2, 3, 0, 4] (by decide +kernel) rfl
  refine lv_istore_n (lv' := [(2, .int r1), (0, .ref q_t), (1, .int p0)]) hx hb dX10_stepFor_5 rfl hl (by decide) rfl (fun ls hl => ?_)
  refine lv_aload_n hx hb dX10_stepFor_6 rfl (lv_at hl 1 rfl) ?_
  refine va_get (D := G) (ci := 10) (v := .int u3) (C := RX10) (T := TX10) (N := 11) hx hb hts hkX10_stepFor_X10 hown hK hP 0 rfl rfl 10 (by decide) (hts (.fieldLink RX10 40 "NestReaders$Wholes" "spent" "Z") hfX10_stepFor_40) (fun _ h9 => h9) rfl dX10_stepFor_7 ?_
  refine lv_if_eq (tgt := 15) hx hb dX10_stepFor_10 (by decide) (fun c7 => ?_) (fun c7 => ?_)
  · have hw := hw.1 c7
    refine lv_aload_n hx hb dX10_stepFor_15 rfl (lv_at hl 1 rfl) ?_
    refine va_get (D := G) (ci := 10) (v := .ref q_t_stepOf) (C := RX10) (T := TX10) (N := 11) hx hb hts hkX10_stepFor_X10 hown hK hP 0 rfl rfl 2 (by decide) (hts (.fieldLink RX10 15 "NestReaders$Wholes" "stepOf" "[I") hfX10_stepFor_15) (fun _ h9 => h9) rfl dX10_stepFor_16 ?_
    refine lv_iload_n hx hb dX10_stepFor_19 rfl (lv_at hl 0 rfl) ?_
    refine va_iald (D := G) hx hb hK hP 2 0 rfl rfl hw.1 dX10_stepFor_20 ?_
    have hw := hw.2
    refine lv_if_ge (tgt := 63) hx hb dX10_stepFor_21 (by decide) (fun c8 => ?_) (fun c8 => ?_)
    · have hw := hw.1 c8
      refine lv_aload_n hx hb dX10_stepFor_63 rfl (lv_at hl 1 rfl) ?_
      refine va_get (D := G) (ci := 10) (v := .ref q_t_stepOf) (C := RX10) (T := TX10) (N := 11) hx hb hts hkX10_stepFor_X10 hown hK hP 0 rfl rfl 2 (by decide) (hts (.fieldLink RX10 15 "NestReaders$Wholes" "stepOf" "[I") hfX10_stepFor_15) (fun _ h9 => h9) rfl dX10_stepFor_64 ?_
      refine lv_iload_n hx hb dX10_stepFor_67 rfl (lv_at hl 0 rfl) ?_
      refine va_iald (D := G) hx hb hK hP 2 0 rfl rfl hw.1 dX10_stepFor_68 ?_
      have hw := hw.2
      exact hRet (u5 r1.toNatClampNeg) ⟨u2, F_steps, u3, u4, u5, A_wholeOf, u6⟩ H locs _ _ hw (vp_nar_int _) hP hD hS dX10_stepFor_69
    · have hw := hw.2 c8
      refine lv_aload_n hx hb dX10_stepFor_24 rfl (lv_at hl 1 rfl) ?_
      refine va_get (D := G) (ci := 10) (v := .int F_steps) (C := RX10) (T := TX10) (N := 11) hx hb hts hkX10_stepFor_X10 hown hK hP 0 rfl rfl 9 (by decide) (hts (.fieldLink RX10 37 "NestReaders$Wholes" "steps" "I") hfX10_stepFor_37) (fun _ h9 => h9) rfl dX10_stepFor_25 ?_
      refine lv_bipush (v := (60)) hx hb dX10_stepFor_28 (by decide) ?_
      refine lv_icmp_ge (tgt := 63) hx hb dX10_stepFor_30 (by decide) (fun c9 => ?_) (fun c9 => ?_)
      · have hw := hw.1 c9
        refine lv_aload_n hx hb dX10_stepFor_63 rfl (lv_at hl 1 rfl) ?_
        refine va_get (D := G) (ci := 10) (v := .ref q_t_stepOf) (C := RX10) (T := TX10) (N := 11) hx hb hts hkX10_stepFor_X10 hown hK hP 0 rfl rfl 2 (by decide) (hts (.fieldLink RX10 15 "NestReaders$Wholes" "stepOf" "[I") hfX10_stepFor_15) (fun _ h9 => h9) rfl dX10_stepFor_64 ?_
        refine lv_iload_n hx hb dX10_stepFor_67 rfl (lv_at hl 0 rfl) ?_
        refine va_iald (D := G) hx hb hK hP 2 0 rfl rfl hw.1 dX10_stepFor_68 ?_
        have hw := hw.2
        exact hRet (u5 r1.toNatClampNeg) ⟨u2, F_steps, u3, u4, u5, A_wholeOf, u6⟩ H locs _ _ hw (vp_nar_int _) hP hD hS dX10_stepFor_69
      · have hw := hw.2 c9
        refine lv_aload_n hx hb dX10_stepFor_33 rfl (lv_at hl 1 rfl) ?_
        refine va_get (D := G) (ci := 10) (v := .ref q_t_stepOf) (C := RX10) (T := TX10) (N := 11) hx hb hts hkX10_stepFor_X10 hown hK hP 0 rfl rfl 2 (by decide) (hts (.fieldLink RX10 15 "NestReaders$Wholes" "stepOf" "[I") hfX10_stepFor_15) (fun _ h9 => h9) rfl dX10_stepFor_34 ?_
        refine lv_iload_n hx hb dX10_stepFor_37 rfl (lv_at hl 0 rfl) ?_
        refine lv_aload_n hx hb dX10_stepFor_38 rfl (lv_at hl 1 rfl) ?_
        refine va_get (D := G) (ci := 10) (v := .int F_steps) (C := RX10) (T := TX10) (N := 11) hx hb hts hkX10_stepFor_X10 hown hK hP 0 rfl rfl 9 (by decide) (hts (.fieldLink RX10 37 "NestReaders$Wholes" "steps" "I") hfX10_stepFor_37) (fun _ h9 => h9) rfl dX10_stepFor_39 ?_
        refine ms_iast hx hb hK hP hD hS 2 0 rfl rfl hw.1 dX10_stepFor_42 (fun g10 H locs eg10 hP hD hS => ?_)
        have hw := hw.2 g10 eg10
        have hP : va_P G vwCl [(q_t, .inr (10, [.ref q_t_held, .ref q_t_pairs, .ref q_t_stepOf, .ref q_t_wholeOf, .ref q_t_next, .ref q_t_around, .ref q_t_plain, .ref q_t_slots, .int u2, .int F_steps, .int u3])), (q_t_pairs, .inl (cI, 60, .inl u4)), (q_t_stepOf, .inl (cI, 60, .inl g10)), (q_t_wholeOf, .inl (cI, 60, .inl A_wholeOf)), (q_t_slots, .inl (cI, 256, .inl u6))] H := hP
        have hD : va_D A [(q_t, .inr (10, [.ref q_t_held, .ref q_t_pairs, .ref q_t_stepOf, .ref q_t_wholeOf, .ref q_t_next, .ref q_t_around, .ref q_t_plain, .ref q_t_slots, .int u2, .int F_steps, .int u3])), (q_t_pairs, .inl (cI, 60, .inl u4)), (q_t_stepOf, .inl (cI, 60, .inl g10)), (q_t_wholeOf, .inl (cI, 60, .inl A_wholeOf)), (q_t_slots, .inl (cI, 256, .inl u6))] := hD
        refine lv_aload_n hx hb dX10_stepFor_43 rfl (lv_at hl 1 rfl) ?_
        refine va_get (D := G) (ci := 10) (v := .ref q_t_wholeOf) (C := RX10) (T := TX10) (N := 11) hx hb hts hkX10_stepFor_X10 hown hK hP 0 rfl rfl 3 (by decide) (hts (.fieldLink RX10 18 "NestReaders$Wholes" "wholeOf" "[I") hfX10_stepFor_18) (fun _ h9 => h9) rfl dX10_stepFor_44 ?_
        refine lv_aload_n hx hb dX10_stepFor_47 rfl (lv_at hl 1 rfl) ?_
        refine va_get (D := G) (ci := 10) (v := .int F_steps) (C := RX10) (T := TX10) (N := 11) hx hb hts hkX10_stepFor_X10 hown hK hP 0 rfl rfl 9 (by decide) (hts (.fieldLink RX10 37 "NestReaders$Wholes" "steps" "I") hfX10_stepFor_37) (fun _ h9 => h9) rfl dX10_stepFor_48 ?_
        refine lv_iload_n hx hb dX10_stepFor_51 rfl (lv_at hl 0 rfl) ?_
        refine ms_iast hx hb hK hP hD hS 3 0 rfl rfl hw.1 dX10_stepFor_52 (fun g11 H locs eg11 hP hD hS => ?_)
        have hw := hw.2 g11 eg11
        have hP : va_P G vwCl [(q_t, .inr (10, [.ref q_t_held, .ref q_t_pairs, .ref q_t_stepOf, .ref q_t_wholeOf, .ref q_t_next, .ref q_t_around, .ref q_t_plain, .ref q_t_slots, .int u2, .int F_steps, .int u3])), (q_t_pairs, .inl (cI, 60, .inl u4)), (q_t_stepOf, .inl (cI, 60, .inl g10)), (q_t_wholeOf, .inl (cI, 60, .inl g11)), (q_t_slots, .inl (cI, 256, .inl u6))] H := hP
        have hD : va_D A [(q_t, .inr (10, [.ref q_t_held, .ref q_t_pairs, .ref q_t_stepOf, .ref q_t_wholeOf, .ref q_t_next, .ref q_t_around, .ref q_t_plain, .ref q_t_slots, .int u2, .int F_steps, .int u3])), (q_t_pairs, .inl (cI, 60, .inl u4)), (q_t_stepOf, .inl (cI, 60, .inl g10)), (q_t_wholeOf, .inl (cI, 60, .inl g11)), (q_t_slots, .inl (cI, 256, .inl u6))] := hD
        refine lv_aload_n hx hb dX10_stepFor_53 rfl (lv_at hl 1 rfl) ?_
        refine lv_dup hx hb dX10_stepFor_54 rfl ?_
        refine va_get (D := G) (ci := 10) (v := .int F_steps) (C := RX10) (T := TX10) (N := 11) hx hb hts hkX10_stepFor_X10 hown hK hP 0 rfl rfl 9 (by decide) (hts (.fieldLink RX10 37 "NestReaders$Wholes" "steps" "I") hfX10_stepFor_37) (fun _ h9 => h9) rfl dX10_stepFor_55 ?_
        refine lv_iconst (v := 1) hx hb dX10_stepFor_58 (by decide) ?_
        refine lv_iadd hx hb dX10_stepFor_59 ?_
        refine lv_topi (fun x12 ex12 => ?_)
        have hw := hw x12 ex12
        refine va_put (D := G) (ci := 10) (v := .int x12) (ty := .int) (C := RX10) (T := TX10) (N := 11) hx hb hts hkX10_stepFor_X10 tyX10 tyX10_ok nmX10 hown hK hP hD hS 0 rfl rfl 9 (by decide) (hts (.fieldLink RX10 37 "NestReaders$Wholes" "steps" "I") hfX10_stepFor_37) (fun _ h9 => h9) rfl (by decide +kernel) rfl rfl (Nat.le_of_ble_eq_true rfl) dX10_stepFor_60 (fun H locs hP hD hS => ?_)
        have hP : va_P G vwCl [(q_t, .inr (10, [.ref q_t_held, .ref q_t_pairs, .ref q_t_stepOf, .ref q_t_wholeOf, .ref q_t_next, .ref q_t_around, .ref q_t_plain, .ref q_t_slots, .int u2, .int x12, .int u3])), (q_t_pairs, .inl (cI, 60, .inl u4)), (q_t_stepOf, .inl (cI, 60, .inl g10)), (q_t_wholeOf, .inl (cI, 60, .inl g11)), (q_t_slots, .inl (cI, 256, .inl u6))] H := hP
        have hD : va_D A [(q_t, .inr (10, [.ref q_t_held, .ref q_t_pairs, .ref q_t_stepOf, .ref q_t_wholeOf, .ref q_t_next, .ref q_t_around, .ref q_t_plain, .ref q_t_slots, .int u2, .int x12, .int u3])), (q_t_pairs, .inl (cI, 60, .inl u4)), (q_t_stepOf, .inl (cI, 60, .inl g10)), (q_t_wholeOf, .inl (cI, 60, .inl g11)), (q_t_slots, .inl (cI, 256, .inl u6))] := hD
        refine lv_aload_n hx hb dX10_stepFor_63 rfl (lv_at hl 1 rfl) ?_
        refine va_get (D := G) (ci := 10) (v := .ref q_t_stepOf) (C := RX10) (T := TX10) (N := 11) hx hb hts hkX10_stepFor_X10 hown hK hP 0 rfl rfl 2 (by decide) (hts (.fieldLink RX10 15 "NestReaders$Wholes" "stepOf" "[I") hfX10_stepFor_15) (fun _ h9 => h9) rfl dX10_stepFor_64 ?_
        refine lv_iload_n hx hb dX10_stepFor_67 rfl (lv_at hl 0 rfl) ?_
        refine va_iald (D := G) hx hb hK hP 2 0 rfl rfl hw.1 dX10_stepFor_68 ?_
        have hw := hw.2
        exact hRet (g10 r1.toNatClampNeg) ⟨u2, x12, u3, u4, g10, g11, u6⟩ H locs _ _ hw (vp_nar_int _) hP hD hS dX10_stepFor_69
  · have hw := hw.2 c7
    refine lv_iconst (v := 0) hx hb dX10_stepFor_13 (by decide) ?_
    exact hRet (0 : Int32) ⟨u2, F_steps, u3, u4, u5, A_wholeOf, u6⟩ H locs _ _ hw (vp_nar_int _) hP hD hS dX10_stepFor_14
def wX10_build_L163 (i87_1 : Int32) (F_steps_87 : Int32) (F_steps_109 : Int32) (A_wholeOf_109 : Nat → Int32) (E163 : Int32 → Int32 → Int32 → (Nat → Int32) → (Nat → Int32) → (Nat → Int32) → (Nat → Int32) → Prop) (i163_3 : Int32) (F_size_163 : Int32) (F_spent_163 : Int32) (A_pairs_163 : Nat → Int32) (A_stepOf_163 : Nat → Int32) (A_next_163 : Nat → Int32) (A_slots_163 : Nat → Int32) : Prop :=
  ∀ P163 : Int32 → Int32 → Int32 → (Nat → Int32) → (Nat → Int32) → (Nat → Int32) → (Nat → Int32) → Prop, (∀ (i163_3 : Int32) (F_size_163 : Int32) (F_spent_163 : Int32) (A_pairs_163 : Nat → Int32) (A_stepOf_163 : Nat → Int32) (A_next_163 : Nat → Int32) (A_slots_163 : Nat → Int32), ((i87_1 ≤ i163_3 → E163 i163_3 F_size_163 F_spent_163 A_pairs_163 A_stepOf_163 A_next_163 A_slots_163) ∧ (¬ i87_1 ≤ i163_3 → (wX10_link i163_3 F_steps_87 F_size_163 F_steps_109 F_spent_163 A_pairs_163 A_stepOf_163 A_wholeOf_109 A_next_163 A_slots_163 (fun u40 u41 u42 u43 u44 u45 => (∀ x46 : Int32, x46 = i163_3 + (1 : Int32) → P163 x46 u40 u41 u42 u43 u44 u45))))) → P163 i163_3 F_size_163 F_spent_163 A_pairs_163 A_stepOf_163 A_next_163 A_slots_163) → P163 i163_3 F_size_163 F_spent_163 A_pairs_163 A_stepOf_163 A_next_163 A_slots_163
def wX10_build_L109 (F_held_one_marks : Int32) (A_held_one_ways : Nat → Int32) (F_held_other_marks : Int32) (A_held_other_ways : Nat → Int32) (i87_1 : Int32) (E109 : Int32 → Int32 → Int32 → Int32 → (Nat → Int32) → (Nat → Int32) → (Nat → Int32) → (Nat → Int32) → (Nat → Int32) → Prop) (i109_3 : Int32) (F_size_109 : Int32) (F_steps_109 : Int32) (F_spent_109 : Int32) (A_pairs_109 : Nat → Int32) (A_stepOf_109 : Nat → Int32) (A_wholeOf_109 : Nat → Int32) (A_around_109 : Nat → Int32) (A_slots_109 : Nat → Int32) : Prop :=
  ∀ P109 : Int32 → Int32 → Int32 → Int32 → (Nat → Int32) → (Nat → Int32) → (Nat → Int32) → (Nat → Int32) → (Nat → Int32) → Prop, (∀ (i109_3 : Int32) (F_size_109 : Int32) (F_steps_109 : Int32) (F_spent_109 : Int32) (A_pairs_109 : Nat → Int32) (A_stepOf_109 : Nat → Int32) (A_wholeOf_109 : Nat → Int32) (A_around_109 : Nat → Int32) (A_slots_109 : Nat → Int32), (((4 : Int32) ≤ i109_3 → E109 i109_3 F_size_109 F_steps_109 F_spent_109 A_pairs_109 A_stepOf_109 A_wholeOf_109 A_around_109 A_slots_109) ∧ (¬ (4 : Int32) ≤ i109_3 → (vp_in i87_1 60 ∧ (wX1_wrapped ((0 : Int32) + (i109_3 >>> ((1 : Int32) &&& 31))) ((4 : Int32) + (i109_3 &&& (1 : Int32))) (A_pairs_109 i87_1.toNatClampNeg) F_held_one_marks A_held_one_ways F_held_other_marks A_held_other_ways (fun r47 => (wX10_stepFor r47 F_size_109 F_steps_109 F_spent_109 A_pairs_109 A_stepOf_109 A_wholeOf_109 A_slots_109 (fun r48 u49 u50 u51 u52 u53 u54 u55 => (vp_in (((4 : Int32) * i87_1) + i109_3) 240 ∧ (∀ g56 : Nat → Int32, g56 = upd A_around_109 (((4 : Int32) * i87_1) + i109_3).toNatClampNeg r48 → (∀ x57 : Int32, x57 = i109_3 + (1 : Int32) → P109 x57 u49 u50 u51 u52 u53 u54 g56 u55)))))))))) → P109 i109_3 F_size_109 F_steps_109 F_spent_109 A_pairs_109 A_stepOf_109 A_wholeOf_109 A_around_109 A_slots_109) → P109 i109_3 F_size_109 F_steps_109 F_spent_109 A_pairs_109 A_stepOf_109 A_wholeOf_109 A_around_109 A_slots_109
def wX10_build_L87 (F_held_one_marks : Int32) (A_held_one_ways : Nat → Int32) (F_held_other_marks : Int32) (A_held_other_ways : Nat → Int32) (E87 : Int32 → Int32 → Int32 → Int32 → (Nat → Int32) → (Nat → Int32) → (Nat → Int32) → (Nat → Int32) → (Nat → Int32) → (Nat → Int32) → Prop) (i87_1 : Int32) (F_size_87 : Int32) (F_steps_87 : Int32) (F_spent_87 : Int32) (A_pairs_87 : Nat → Int32) (A_stepOf_87 : Nat → Int32) (A_wholeOf_87 : Nat → Int32) (A_next_87 : Nat → Int32) (A_around_87 : Nat → Int32) (A_slots_87 : Nat → Int32) : Prop :=
  ∀ P87 : Int32 → Int32 → Int32 → Int32 → (Nat → Int32) → (Nat → Int32) → (Nat → Int32) → (Nat → Int32) → (Nat → Int32) → (Nat → Int32) → Prop, (∀ (i87_1 : Int32) (F_size_87 : Int32) (F_steps_87 : Int32) (F_spent_87 : Int32) (A_pairs_87 : Nat → Int32) (A_stepOf_87 : Nat → Int32) (A_wholeOf_87 : Nat → Int32) (A_next_87 : Nat → Int32) (A_around_87 : Nat → Int32) (A_slots_87 : Nat → Int32), ((F_size_87 ≤ i87_1 → E87 i87_1 F_size_87 F_steps_87 F_spent_87 A_pairs_87 A_stepOf_87 A_wholeOf_87 A_next_87 A_around_87 A_slots_87) ∧ (¬ F_size_87 ≤ i87_1 → ((F_spent_87 = (0 : Int32) → (wX10_build_L109 F_held_one_marks A_held_one_ways F_held_other_marks A_held_other_ways i87_1 (fun i109_3 F_size_109 F_steps_109 F_spent_109 A_pairs_109 A_stepOf_109 A_wholeOf_109 A_around_109 A_slots_109 => (wX10_build_L163 i87_1 F_steps_87 F_steps_109 A_wholeOf_109 (fun i163_3 F_size_163 F_spent_163 A_pairs_163 A_stepOf_163 A_next_163 A_slots_163 => (wX10_link i87_1 (0 : Int32) F_size_163 F_steps_109 F_spent_163 A_pairs_163 A_stepOf_163 A_wholeOf_109 A_next_163 A_slots_163 (fun u33 u34 u35 u36 u37 u38 => (∀ x39 : Int32, x39 = i87_1 + (1 : Int32) → P87 x39 u33 F_steps_109 u34 u35 u36 A_wholeOf_109 u37 A_around_109 u38)))) (0 : Int32) F_size_109 F_spent_109 A_pairs_109 A_stepOf_109 A_next_87 A_slots_109)) (0 : Int32) F_size_87 F_steps_87 F_spent_87 A_pairs_87 A_stepOf_87 A_wholeOf_87 A_around_87 A_slots_87)) ∧ (¬ F_spent_87 = (0 : Int32) → E87 i87_1 F_size_87 F_steps_87 F_spent_87 A_pairs_87 A_stepOf_87 A_wholeOf_87 A_next_87 A_around_87 A_slots_87)))) → P87 i87_1 F_size_87 F_steps_87 F_spent_87 A_pairs_87 A_stepOf_87 A_wholeOf_87 A_next_87 A_around_87 A_slots_87) → P87 i87_1 F_size_87 F_steps_87 F_spent_87 A_pairs_87 A_stepOf_87 A_wholeOf_87 A_next_87 A_around_87 A_slots_87
def wX10_build_L17  (E17 : Int32 → (Nat → Int32) → Prop) (i17_1 : Int32) (A_slots_17 : Nat → Int32) : Prop :=
  ∀ P17 : Int32 → (Nat → Int32) → Prop, (∀ (i17_1 : Int32) (A_slots_17 : Nat → Int32), (((256 : Int32) ≤ i17_1 → E17 i17_1 A_slots_17) ∧ (¬ (256 : Int32) ≤ i17_1 → (vp_in i17_1 256 ∧ (∀ g58 : Nat → Int32, g58 = upd A_slots_17 i17_1.toNatClampNeg (0 : Int32) → (∀ x59 : Int32, x59 = i17_1 + (1 : Int32) → P17 x59 g58))))) → P17 i17_1 A_slots_17) → P17 i17_1 A_slots_17
def wX10_build (F_size : Int32) (F_steps : Int32) (F_spent : Int32) (F_held_both : Int32) (F_held_one_states : Int32) (F_held_one_marks : Int32) (A_held_one_ways : Nat → Int32) (F_held_other_states : Int32) (F_held_other_marks : Int32) (A_held_other_ways : Nat → Int32) (A_pairs : Nat → Int32) (A_stepOf : Nat → Int32) (A_wholeOf : Nat → Int32) (A_next : Nat → Int32) (A_around : Nat → Int32) (A_plain : Nat → Int32) (A_slots : Nat → Int32) (K : Int32 → Int32 → Int32 → (Nat → Int32) → (Nat → Int32) → (Nat → Int32) → (Nat → Int32) → (Nat → Int32) → (Nat → Int32) → (Nat → Int32) → Prop) : Prop :=
  (wX10_build_L17  (fun i17_1 A_slots_17 => (wX1_identity F_held_both F_held_one_states F_held_other_states (fun r2 => (wX10_numberOf r2 (0 : Int32) (0 : Int32) A_pairs A_stepOf A_slots_17 (fun r3 u4 u5 u6 u7 u8 => (wX1_plain (2 : Int32) F_held_both F_held_one_states A_held_one_ways F_held_other_states A_held_other_ways (fun r9 => (wX10_stepFor r9 u4 (0 : Int32) u5 u6 u7 A_wholeOf u8 (fun r10 u11 u12 u13 u14 u15 u16 u17 => (vp_in (0 : Int32) 2 ∧ (∀ g18 : Nat → Int32, g18 = upd A_plain (0 : Int32).toNatClampNeg r10 → (wX1_plain (3 : Int32) F_held_both F_held_one_states A_held_one_ways F_held_other_states A_held_other_ways (fun r19 => (wX10_stepFor r19 u11 u12 u13 u14 u15 u16 u17 (fun r20 u21 u22 u23 u24 u25 u26 u27 => (vp_in (1 : Int32) 2 ∧ (∀ g28 : Nat → Int32, g28 = upd g18 (1 : Int32).toNatClampNeg r20 → (∀ E87 : Int32 → Int32 → Int32 → Int32 → (Nat → Int32) → (Nat → Int32) → (Nat → Int32) → (Nat → Int32) → (Nat → Int32) → (Nat → Int32) → Prop, (∀ (i87_1 : Int32) (F_size_87 : Int32) (F_steps_87 : Int32) (F_spent_87 : Int32) (A_pairs_87 : Nat → Int32) (A_stepOf_87 : Nat → Int32) (A_wholeOf_87 : Nat → Int32) (A_next_87 : Nat → Int32) (A_around_87 : Nat → Int32) (A_slots_87 : Nat → Int32), K F_size_87 F_steps_87 F_spent_87 A_pairs_87 A_stepOf_87 A_wholeOf_87 A_next_87 A_around_87 g28 A_slots_87 → E87 i87_1 F_size_87 F_steps_87 F_spent_87 A_pairs_87 A_stepOf_87 A_wholeOf_87 A_next_87 A_around_87 A_slots_87) → wX10_build_L87 F_held_one_marks A_held_one_ways F_held_other_marks A_held_other_ways E87 (0 : Int32) u21 u22 u23 u24 u25 u26 A_next A_around u27)))))))))))))))))) (0 : Int32) A_slots)
abbrev rmX10_build : Room := { frames := 4, cells := 0, slots := 0, locals := 91 }
theorem nd_X10_build : yX10_build.cls = RX10 ∧ yX10_build.cls ≠ "java/lang/invoke/MethodHandle" ∧ yX10_build.cls ≠ "java/lang/invoke/VarHandle" ∧ (parseMethodDescriptor yX10_build.desc).map (fun d => d.parameters.length) = some 0 := by decide +kernel
theorem hkX10_build_X10 : ∀ w ∈ u_ws RX10 TX10 11, w ∈ wsX10_build := fun w h => List.mem_cons_of_mem _ (inlX10 w h)
theorem hfX10_build_33 : (Cond.fieldLink RX10 33 "NestReaders$Wholes" "size" "I") ∈ wsX10_build := List.mem_cons_of_mem _ m6_13
theorem hfX10_build_37 : (Cond.fieldLink RX10 37 "NestReaders$Wholes" "steps" "I") ∈ wsX10_build := List.mem_cons_of_mem _ m6_14
theorem hfX10_build_40 : (Cond.fieldLink RX10 40 "NestReaders$Wholes" "spent" "Z") ∈ wsX10_build := List.mem_cons_of_mem _ m6_15
theorem hfX10_build_44 : (Cond.fieldLink RX10 44 "NestReaders$Wholes" "held" "LNestReaders$Held;") ∈ wsX10_build := List.mem_cons_of_mem _ m6_16
theorem hfX10_build_27 : (Cond.fieldLink RX10 27 "NestReaders$Wholes" "plain" "[I") ∈ wsX10_build := List.mem_cons_of_mem _ m6_11
theorem hfX10_build_9 : (Cond.fieldLink RX10 9 "NestReaders$Wholes" "pairs" "[I") ∈ wsX10_build := List.mem_cons_of_mem _ m6_6
theorem hfX10_build_24 : (Cond.fieldLink RX10 24 "NestReaders$Wholes" "around" "[I") ∈ wsX10_build := List.mem_cons_of_mem _ m6_10
theorem hfX10_build_30 : (Cond.fieldLink RX10 30 "NestReaders$Wholes" "slots" "[I") ∈ wsX10_build := List.mem_cons_of_mem _ m6_12
set_option maxHeartbeats 4000000 in
set_option maxRecDepth 100000 in
theorem c_X10_build (l : Launch) (G : va_G) (cI cJ cZ : ClassId) (q_t q_t_held q_t_pairs q_t_stepOf q_t_wholeOf q_t_next q_t_around q_t_plain q_t_slots q_t_held_one q_t_held_other q_t_held_one_ways q_t_held_other_ways : Nat) (sz : Nat) (F_size : Int32) (F_steps : Int32) (F_spent : Int32) (F_held_both : Int32) (F_held_one_states : Int32) (F_held_one_marks : Int32) (F_held_one_takes : Int32) (F_held_one_changes : Int32) (A_held_one_ways : Nat → Int32) (F_held_other_states : Int32) (F_held_other_marks : Int32) (F_held_other_takes : Int32) (F_held_other_changes : Int32) (A_held_other_ways : Nat → Int32) (A_pairs : Nat → Int32) (A_stepOf : Nat → Int32) (A_wholeOf : Nat → Int32) (A_next : Nat → Int32) (A_around : Nat → Int32) (A_plain : Nat → Int32) (A_slots : Nat → Int32) {K : Int32 → Int32 → Int32 → (Nat → Int32) → (Nat → Int32) → (Nat → Int32) → (Nat → Int32) → (Nat → Int32) → (Nat → Int32) → (Nat → Int32) → Prop} (hw : wX10_build F_size F_steps F_spent F_held_both F_held_one_states F_held_one_marks A_held_one_ways F_held_other_states F_held_other_marks A_held_other_ways A_pairs A_stepOf A_wholeOf A_next A_around A_plain A_slots K) : Met l yX10_build wsX10_build rmX10_build (ms_Pz G (ms_T cI cJ cZ) [(q_t, .inr (10, [.ref q_t_held, .ref q_t_pairs, .ref q_t_stepOf, .ref q_t_wholeOf, .ref q_t_next, .ref q_t_around, .ref q_t_plain, .ref q_t_slots, .int F_size, .int F_steps, .int F_spent])), (q_t_held, .inr (1, [.ref q_t_held_one, .ref q_t_held_other, .int F_held_both])), (q_t_held_one, .inr (5, [.ref q_t_held_one_ways, .int F_held_one_states, .int F_held_one_marks, .int F_held_one_takes, .int F_held_one_changes])), (q_t_held_one_ways, .inl (cI, 18, .inl A_held_one_ways)), (q_t_held_other, .inr (5, [.ref q_t_held_other_ways, .int F_held_other_states, .int F_held_other_marks, .int F_held_other_takes, .int F_held_other_changes])), (q_t_held_other_ways, .inl (cI, 18, .inl A_held_other_ways)), (q_t_pairs, .inl (cI, 60, .inl A_pairs)), (q_t_stepOf, .inl (cI, 60, .inl A_stepOf)), (q_t_wholeOf, .inl (cI, 60, .inl A_wholeOf)), (q_t_next, .inl (cI, 3600, .inl A_next)), (q_t_around, .inl (cI, 240, .inl A_around)), (q_t_plain, .inl (cI, 2, .inl A_plain)), (q_t_slots, .inl (cI, 256, .inl A_slots))] sz [.ref q_t]) (ms_Wv G (ms_T cI cJ cZ) (fun (u : Int32 × Int32 × Int32 × (Nat → Int32) × (Nat → Int32) × (Nat → Int32) × (Nat → Int32) × (Nat → Int32) × (Nat → Int32) × (Nat → Int32)) => K u.1 u.2.1 u.2.2.1 u.2.2.2.1 u.2.2.2.2.1 u.2.2.2.2.2.1 u.2.2.2.2.2.2.1 u.2.2.2.2.2.2.2.1 u.2.2.2.2.2.2.2.2.1 u.2.2.2.2.2.2.2.2.2) (fun u : Int32 × Int32 × Int32 × (Nat → Int32) × (Nat → Int32) × (Nat → Int32) × (Nat → Int32) × (Nat → Int32) × (Nat → Int32) × (Nat → Int32) => [(q_t, .inr (10, [.ref q_t_held, .ref q_t_pairs, .ref q_t_stepOf, .ref q_t_wholeOf, .ref q_t_next, .ref q_t_around, .ref q_t_plain, .ref q_t_slots, .int u.1, .int u.2.1, .int u.2.2.1])), (q_t_held, .inr (1, [.ref q_t_held_one, .ref q_t_held_other, .int F_held_both])), (q_t_held_one, .inr (5, [.ref q_t_held_one_ways, .int F_held_one_states, .int F_held_one_marks, .int F_held_one_takes, .int F_held_one_changes])), (q_t_held_one_ways, .inl (cI, 18, .inl A_held_one_ways)), (q_t_held_other, .inr (5, [.ref q_t_held_other_ways, .int F_held_other_states, .int F_held_other_marks, .int F_held_other_takes, .int F_held_other_changes])), (q_t_held_other_ways, .inl (cI, 18, .inl A_held_other_ways)), (q_t_pairs, .inl (cI, 60, .inl u.2.2.2.1)), (q_t_stepOf, .inl (cI, 60, .inl u.2.2.2.2.1)), (q_t_wholeOf, .inl (cI, 60, .inl u.2.2.2.2.2.1)), (q_t_next, .inl (cI, 3600, .inl u.2.2.2.2.2.2.1)), (q_t_around, .inl (cI, 240, .inl u.2.2.2.2.2.2.2.1)), (q_t_plain, .inl (cI, 2, .inl u.2.2.2.2.2.2.2.2.1)), (q_t_slots, .inl (cI, 256, .inl u.2.2.2.2.2.2.2.2.2))]) (va_A [(q_t, .inr (10, [.ref q_t_held, .ref q_t_pairs, .ref q_t_stepOf, .ref q_t_wholeOf, .ref q_t_next, .ref q_t_around, .ref q_t_plain, .ref q_t_slots, .int F_size, .int F_steps, .int F_spent])), (q_t_held, .inr (1, [.ref q_t_held_one, .ref q_t_held_other, .int F_held_both])), (q_t_held_one, .inr (5, [.ref q_t_held_one_ways, .int F_held_one_states, .int F_held_one_marks, .int F_held_one_takes, .int F_held_one_changes])), (q_t_held_one_ways, .inl (cI, 18, .inl A_held_one_ways)), (q_t_held_other, .inr (5, [.ref q_t_held_other_ways, .int F_held_other_states, .int F_held_other_marks, .int F_held_other_takes, .int F_held_other_changes])), (q_t_held_other_ways, .inl (cI, 18, .inl A_held_other_ways)), (q_t_pairs, .inl (cI, 60, .inl A_pairs)), (q_t_stepOf, .inl (cI, 60, .inl A_stepOf)), (q_t_wholeOf, .inl (cI, 60, .inl A_wholeOf)), (q_t_next, .inl (cI, 3600, .inl A_next)), (q_t_around, .inl (cI, 240, .inl A_around)), (q_t_plain, .inl (cI, 2, .inl A_plain)), (q_t_slots, .inl (cI, 256, .inl A_slots))] sz)) 0 0 (va_A [(q_t, .inr (10, [.ref q_t_held, .ref q_t_pairs, .ref q_t_stepOf, .ref q_t_wholeOf, .ref q_t_next, .ref q_t_around, .ref q_t_plain, .ref q_t_slots, .int F_size, .int F_steps, .int F_spent])), (q_t_held, .inr (1, [.ref q_t_held_one, .ref q_t_held_other, .int F_held_both])), (q_t_held_one, .inr (5, [.ref q_t_held_one_ways, .int F_held_one_states, .int F_held_one_marks, .int F_held_one_takes, .int F_held_one_changes])), (q_t_held_one_ways, .inl (cI, 18, .inl A_held_one_ways)), (q_t_held_other, .inr (5, [.ref q_t_held_other_ways, .int F_held_other_states, .int F_held_other_marks, .int F_held_other_takes, .int F_held_other_changes])), (q_t_held_other_ways, .inl (cI, 18, .inl A_held_other_ways)), (q_t_pairs, .inl (cI, 60, .inl A_pairs)), (q_t_stepOf, .inl (cI, 60, .inl A_stepOf)), (q_t_wholeOf, .inl (cI, 60, .inl A_wholeOf)), (q_t_next, .inl (cI, 3600, .inl A_next)), (q_t_around, .inl (cI, 240, .inl A_around)), (q_t_plain, .inl (cI, 2, .inl A_plain)), (q_t_slots, .inl (cI, 256, .inl A_slots))] sz) := by
  refine ms_tv (cc := cX10_build) (maxL := 5) (by decide) rfl (Nat.le_of_ble_eq_true rfl) ?_
  intro p e s m args below meth c Q A hx hb hml hown hts hK hP hD hS hA hRet ls hl
  have hl : lv_has ls 5 [(0, .ref q_t)] := hl
  have hown : s.vm.findClass RX10 = some m.cls := hown
  refine lv_aload_n hx hb dX10_build_0 rfl (lv_at hl 0 rfl) ?_
  refine lv_iconst (v := 0) hx hb dX10_build_1 (by decide) ?_
  refine va_put (D := G) (ci := 10) (v := .int (0 : Int32)) (ty := .int) (C := RX10) (T := TX10) (N := 11) hx hb hts hkX10_build_X10 tyX10 tyX10_ok nmX10 hown hK hP hD hS 0 rfl rfl 8 (by decide) (hts (.fieldLink RX10 33 "NestReaders$Wholes" "size" "I") hfX10_build_33) (fun _ h9 => h9) rfl (by decide +kernel) rfl rfl (Nat.le_of_ble_eq_true rfl) dX10_build_2 (fun H locs hP hD hS => ?_)
  have hP : va_P G vwCl [(q_t, .inr (10, [.ref q_t_held, .ref q_t_pairs, .ref q_t_stepOf, .ref q_t_wholeOf, .ref q_t_next, .ref q_t_around, .ref q_t_plain, .ref q_t_slots, .int (0 : Int32), .int F_steps, .int F_spent])), (q_t_held, .inr (1, [.ref q_t_held_one, .ref q_t_held_other, .int F_held_both])), (q_t_held_one, .inr (5, [.ref q_t_held_one_ways, .int F_held_one_states, .int F_held_one_marks, .int F_held_one_takes, .int F_held_one_changes])), (q_t_held_one_ways, .inl (cI, 18, .inl A_held_one_ways)), (q_t_held_other, .inr (5, [.ref q_t_held_other_ways, .int F_held_other_states, .int F_held_other_marks, .int F_held_other_takes, .int F_held_other_changes])), (q_t_held_other_ways, .inl (cI, 18, .inl A_held_other_ways)), (q_t_pairs, .inl (cI, 60, .inl A_pairs)), (q_t_stepOf, .inl (cI, 60, .inl A_stepOf)), (q_t_wholeOf, .inl (cI, 60, .inl A_wholeOf)), (q_t_next, .inl (cI, 3600, .inl A_next)), (q_t_around, .inl (cI, 240, .inl A_around)), (q_t_plain, .inl (cI, 2, .inl A_plain)), (q_t_slots, .inl (cI, 256, .inl A_slots))] H := hP
  have hD : va_D A [(q_t, .inr (10, [.ref q_t_held, .ref q_t_pairs, .ref q_t_stepOf, .ref q_t_wholeOf, .ref q_t_next, .ref q_t_around, .ref q_t_plain, .ref q_t_slots, .int (0 : Int32), .int F_steps, .int F_spent])), (q_t_held, .inr (1, [.ref q_t_held_one, .ref q_t_held_other, .int F_held_both])), (q_t_held_one, .inr (5, [.ref q_t_held_one_ways, .int F_held_one_states, .int F_held_one_marks, .int F_held_one_takes, .int F_held_one_changes])), (q_t_held_one_ways, .inl (cI, 18, .inl A_held_one_ways)), (q_t_held_other, .inr (5, [.ref q_t_held_other_ways, .int F_held_other_states, .int F_held_other_marks, .int F_held_other_takes, .int F_held_other_changes])), (q_t_held_other_ways, .inl (cI, 18, .inl A_held_other_ways)), (q_t_pairs, .inl (cI, 60, .inl A_pairs)), (q_t_stepOf, .inl (cI, 60, .inl A_stepOf)), (q_t_wholeOf, .inl (cI, 60, .inl A_wholeOf)), (q_t_next, .inl (cI, 3600, .inl A_next)), (q_t_around, .inl (cI, 240, .inl A_around)), (q_t_plain, .inl (cI, 2, .inl A_plain)), (q_t_slots, .inl (cI, 256, .inl A_slots))] := hD
  refine lv_aload_n hx hb dX10_build_5 rfl (lv_at hl 0 rfl) ?_
  refine lv_iconst (v := 0) hx hb dX10_build_6 (by decide) ?_
  refine va_put (D := G) (ci := 10) (v := .int (0 : Int32)) (ty := .int) (C := RX10) (T := TX10) (N := 11) hx hb hts hkX10_build_X10 tyX10 tyX10_ok nmX10 hown hK hP hD hS 0 rfl rfl 9 (by decide) (hts (.fieldLink RX10 37 "NestReaders$Wholes" "steps" "I") hfX10_build_37) (fun _ h9 => h9) rfl (by decide +kernel) rfl rfl (Nat.le_of_ble_eq_true rfl) dX10_build_7 (fun H locs hP hD hS => ?_)
  have hP : va_P G vwCl [(q_t, .inr (10, [.ref q_t_held, .ref q_t_pairs, .ref q_t_stepOf, .ref q_t_wholeOf, .ref q_t_next, .ref q_t_around, .ref q_t_plain, .ref q_t_slots, .int (0 : Int32), .int (0 : Int32), .int F_spent])), (q_t_held, .inr (1, [.ref q_t_held_one, .ref q_t_held_other, .int F_held_both])), (q_t_held_one, .inr (5, [.ref q_t_held_one_ways, .int F_held_one_states, .int F_held_one_marks, .int F_held_one_takes, .int F_held_one_changes])), (q_t_held_one_ways, .inl (cI, 18, .inl A_held_one_ways)), (q_t_held_other, .inr (5, [.ref q_t_held_other_ways, .int F_held_other_states, .int F_held_other_marks, .int F_held_other_takes, .int F_held_other_changes])), (q_t_held_other_ways, .inl (cI, 18, .inl A_held_other_ways)), (q_t_pairs, .inl (cI, 60, .inl A_pairs)), (q_t_stepOf, .inl (cI, 60, .inl A_stepOf)), (q_t_wholeOf, .inl (cI, 60, .inl A_wholeOf)), (q_t_next, .inl (cI, 3600, .inl A_next)), (q_t_around, .inl (cI, 240, .inl A_around)), (q_t_plain, .inl (cI, 2, .inl A_plain)), (q_t_slots, .inl (cI, 256, .inl A_slots))] H := hP
  have hD : va_D A [(q_t, .inr (10, [.ref q_t_held, .ref q_t_pairs, .ref q_t_stepOf, .ref q_t_wholeOf, .ref q_t_next, .ref q_t_around, .ref q_t_plain, .ref q_t_slots, .int (0 : Int32), .int (0 : Int32), .int F_spent])), (q_t_held, .inr (1, [.ref q_t_held_one, .ref q_t_held_other, .int F_held_both])), (q_t_held_one, .inr (5, [.ref q_t_held_one_ways, .int F_held_one_states, .int F_held_one_marks, .int F_held_one_takes, .int F_held_one_changes])), (q_t_held_one_ways, .inl (cI, 18, .inl A_held_one_ways)), (q_t_held_other, .inr (5, [.ref q_t_held_other_ways, .int F_held_other_states, .int F_held_other_marks, .int F_held_other_takes, .int F_held_other_changes])), (q_t_held_other_ways, .inl (cI, 18, .inl A_held_other_ways)), (q_t_pairs, .inl (cI, 60, .inl A_pairs)), (q_t_stepOf, .inl (cI, 60, .inl A_stepOf)), (q_t_wholeOf, .inl (cI, 60, .inl A_wholeOf)), (q_t_next, .inl (cI, 3600, .inl A_next)), (q_t_around, .inl (cI, 240, .inl A_around)), (q_t_plain, .inl (cI, 2, .inl A_plain)), (q_t_slots, .inl (cI, 256, .inl A_slots))] := hD
  refine lv_aload_n hx hb dX10_build_10 rfl (lv_at hl 0 rfl) ?_
  refine lv_iconst (v := 0) hx hb dX10_build_11 (by decide) ?_
  refine va_put (D := G) (ci := 10) (v := .int (0 : Int32)) (ty := .boolean) (C := RX10) (T := TX10) (N := 11) hx hb hts hkX10_build_X10 tyX10 tyX10_ok nmX10 hown hK hP hD hS 0 rfl rfl 10 (by decide) (hts (.fieldLink RX10 40 "NestReaders$Wholes" "spent" "Z") hfX10_build_40) (fun _ h9 => h9) rfl (by decide +kernel) ms_z0 (ms_zfit ms_z0) (Nat.le_of_ble_eq_true rfl) dX10_build_12 (fun H locs hP hD hS => ?_)
  have hP : va_P G vwCl [(q_t, .inr (10, [.ref q_t_held, .ref q_t_pairs, .ref q_t_stepOf, .ref q_t_wholeOf, .ref q_t_next, .ref q_t_around, .ref q_t_plain, .ref q_t_slots, .int (0 : Int32), .int (0 : Int32), .int (0 : Int32)])), (q_t_held, .inr (1, [.ref q_t_held_one, .ref q_t_held_other, .int F_held_both])), (q_t_held_one, .inr (5, [.ref q_t_held_one_ways, .int F_held_one_states, .int F_held_one_marks, .int F_held_one_takes, .int F_held_one_changes])), (q_t_held_one_ways, .inl (cI, 18, .inl A_held_one_ways)), (q_t_held_other, .inr (5, [.ref q_t_held_other_ways, .int F_held_other_states, .int F_held_other_marks, .int F_held_other_takes, .int F_held_other_changes])), (q_t_held_other_ways, .inl (cI, 18, .inl A_held_other_ways)), (q_t_pairs, .inl (cI, 60, .inl A_pairs)), (q_t_stepOf, .inl (cI, 60, .inl A_stepOf)), (q_t_wholeOf, .inl (cI, 60, .inl A_wholeOf)), (q_t_next, .inl (cI, 3600, .inl A_next)), (q_t_around, .inl (cI, 240, .inl A_around)), (q_t_plain, .inl (cI, 2, .inl A_plain)), (q_t_slots, .inl (cI, 256, .inl A_slots))] H := hP
  have hD : va_D A [(q_t, .inr (10, [.ref q_t_held, .ref q_t_pairs, .ref q_t_stepOf, .ref q_t_wholeOf, .ref q_t_next, .ref q_t_around, .ref q_t_plain, .ref q_t_slots, .int (0 : Int32), .int (0 : Int32), .int (0 : Int32)])), (q_t_held, .inr (1, [.ref q_t_held_one, .ref q_t_held_other, .int F_held_both])), (q_t_held_one, .inr (5, [.ref q_t_held_one_ways, .int F_held_one_states, .int F_held_one_marks, .int F_held_one_takes, .int F_held_one_changes])), (q_t_held_one_ways, .inl (cI, 18, .inl A_held_one_ways)), (q_t_held_other, .inr (5, [.ref q_t_held_other_ways, .int F_held_other_states, .int F_held_other_marks, .int F_held_other_takes, .int F_held_other_changes])), (q_t_held_other_ways, .inl (cI, 18, .inl A_held_other_ways)), (q_t_pairs, .inl (cI, 60, .inl A_pairs)), (q_t_stepOf, .inl (cI, 60, .inl A_stepOf)), (q_t_wholeOf, .inl (cI, 60, .inl A_wholeOf)), (q_t_next, .inl (cI, 3600, .inl A_next)), (q_t_around, .inl (cI, 240, .inl A_around)), (q_t_plain, .inl (cI, 2, .inl A_plain)), (q_t_slots, .inl (cI, 256, .inl A_slots))] := hD
  refine lv_iconst (v := 0) hx hb dX10_build_15 (by decide) ?_
  refine lv_istore_n (lv' := [(1, .int (0 : Int32)), (0, .ref q_t)]) hx hb dX10_build_16 rfl hl (by decide) rfl (fun ls hl => ?_)
  refine hw (fun i17_1 A_slots_17 => ∀ (H : Heap) (locs : List Loc), va_P G vwCl [(q_t, .inr (10, [.ref q_t_held, .ref q_t_pairs, .ref q_t_stepOf, .ref q_t_wholeOf, .ref q_t_next, .ref q_t_around, .ref q_t_plain, .ref q_t_slots, .int (0 : Int32), .int (0 : Int32), .int (0 : Int32)])), (q_t_held, .inr (1, [.ref q_t_held_one, .ref q_t_held_other, .int F_held_both])), (q_t_held_one, .inr (5, [.ref q_t_held_one_ways, .int F_held_one_states, .int F_held_one_marks, .int F_held_one_takes, .int F_held_one_changes])), (q_t_held_one_ways, .inl (cI, 18, .inl A_held_one_ways)), (q_t_held_other, .inr (5, [.ref q_t_held_other_ways, .int F_held_other_states, .int F_held_other_marks, .int F_held_other_takes, .int F_held_other_changes])), (q_t_held_other_ways, .inl (cI, 18, .inl A_held_other_ways)), (q_t_pairs, .inl (cI, 60, .inl A_pairs)), (q_t_stepOf, .inl (cI, 60, .inl A_stepOf)), (q_t_wholeOf, .inl (cI, 60, .inl A_wholeOf)), (q_t_next, .inl (cI, 3600, .inl A_next)), (q_t_around, .inl (cI, 240, .inl A_around)), (q_t_plain, .inl (cI, 2, .inl A_plain)), (q_t_slots, .inl (cI, 256, .inl A_slots_17))] H → va_D A [(q_t, .inr (10, [.ref q_t_held, .ref q_t_pairs, .ref q_t_stepOf, .ref q_t_wholeOf, .ref q_t_next, .ref q_t_around, .ref q_t_plain, .ref q_t_slots, .int (0 : Int32), .int (0 : Int32), .int (0 : Int32)])), (q_t_held, .inr (1, [.ref q_t_held_one, .ref q_t_held_other, .int F_held_both])), (q_t_held_one, .inr (5, [.ref q_t_held_one_ways, .int F_held_one_states, .int F_held_one_marks, .int F_held_one_takes, .int F_held_one_changes])), (q_t_held_one_ways, .inl (cI, 18, .inl A_held_one_ways)), (q_t_held_other, .inr (5, [.ref q_t_held_other_ways, .int F_held_other_states, .int F_held_other_marks, .int F_held_other_takes, .int F_held_other_changes])), (q_t_held_other_ways, .inl (cI, 18, .inl A_held_other_ways)), (q_t_pairs, .inl (cI, 60, .inl A_pairs)), (q_t_stepOf, .inl (cI, 60, .inl A_stepOf)), (q_t_wholeOf, .inl (cI, 60, .inl A_wholeOf)), (q_t_next, .inl (cI, 3600, .inl A_next)), (q_t_around, .inl (cI, 240, .inl A_around)), (q_t_plain, .inl (cI, 2, .inl A_plain)), (q_t_slots, .inl (cI, 256, .inl A_slots_17))] → va_S A s.heap H locs → ∀ ls : Array Slot, lv_has ls 5 [(0, .ref q_t), (1, .int i17_1)] → W p l e rmX10_build s m args below meth c H locs 0 0 Q (F0 m 17 ls [])) (fun i17_1 A_slots_17 hw H locs hP hD hS ls hl => ?_) H locs hP hD hS ls (lv_sub hl [1, 0] rfl)
  refine lv_iload_n hx hb dX10_build_17 rfl (lv_at hl 1 rfl) ?_
  refine lv_sipush (v := (256)) hx hb dX10_build_18 (by decide) ?_
  refine lv_icmp_ge (tgt := 37) hx hb dX10_build_21 (by decide) (fun c1 => ?_) (fun c1 => ?_)
  · have hw := hw.1 c1
    refine lv_aload_n hx hb dX10_build_37 rfl (lv_at hl 0 rfl) ?_
    refine lv_aload_n hx hb dX10_build_38 rfl (lv_at hl 0 rfl) ?_
    refine va_get (D := G) (ci := 10) (v := .ref q_t_held) (C := RX10) (T := TX10) (N := 11) hx hb hts hkX10_build_X10 hown hK hP 0 rfl rfl 0 (by decide) (hts (.fieldLink RX10 44 "NestReaders$Wholes" "held" "LNestReaders$Held;") hfX10_build_44) (fun _ h9 => h9) rfl dX10_build_39 ?_
    refine ms_cVi ⟨hx, hb, hml, hown, hts⟩ hK hP hD (c_X1_identity l G cI cJ cZ q_t_held q_t_held_one q_t_held_other q_t_held_one_ways q_t_held_other_ways F_held_both F_held_one_states F_held_one_marks F_held_one_takes F_held_one_changes F_held_other_states F_held_other_marks F_held_other_takes F_held_other_changes hw) gX10_build_X1_identity rfl nd_X1_identity (ci := 1) rfl rfl rfl ⟨rfl, rfl⟩ rfl ⟨Nat.le_of_ble_eq_true rfl, Nat.le_of_ble_eq_true rfl⟩ hl.1 (rest := [.ref q_t]) rfl (Nat.le_of_ble_eq_true rfl)  [1, 2, 4] rfl rfl dX10_build_42 (fun r2 hw => ?_)
    refine ms_mVi (wr := [(q_t_held, .inr (1, [.ref q_t_held_one, .ref q_t_held_other, .int F_held_both])), (q_t_held_one, .inr (5, [.ref q_t_held_one_ways, .int F_held_one_states, .int F_held_one_marks, .int F_held_one_takes, .int F_held_one_changes])), (q_t_held_one_ways, .inl (cI, 18, .inl A_held_one_ways)), (q_t_held_other, .inr (5, [.ref q_t_held_other_ways, .int F_held_other_states, .int F_held_other_marks, .int F_held_other_takes, .int F_held_other_changes])), (q_t_held_other_ways, .inl (cI, 18, .inl A_held_other_ways)), (q_t_wholeOf, .inl (cI, 60, .inl A_wholeOf)), (q_t_next, .inl (cI, 3600, .inl A_next)), (q_t_around, .inl (cI, 240, .inl A_around)), (q_t_plain, .inl (cI, 2, .inl A_plain))]) ⟨hx, hb, hml, hown, hts⟩ hK hP hD (c_X10_numberOf l G cI cJ cZ q_t q_t_held q_t_pairs q_t_stepOf q_t_wholeOf q_t_next q_t_around q_t_plain q_t_slots H.size (0 : Int32) (0 : Int32) (0 : Int32) A_pairs A_stepOf A_slots_17 r2 hw) gX10_build_X10_numberOf rfl nd_X10_numberOf (ci := 10) rfl rfl rfl ⟨rfl, rfl⟩ rfl ⟨Nat.le_of_ble_eq_true rfl, Nat.le_of_ble_eq_true rfl⟩ hl.1 (rest := []) rfl (Nat.le_of_ble_eq_true rfl)  hS hA [0, 6, 7, 12] [1, 2, 3, 4, 5, 8, 9, 10, 11] rfl rfl rfl (by decide) rfl dX10_build_45 (fun r3 u H locs hw hP hD hS => ?_)
    obtain ⟨u4, u5, u6, u7, u8⟩ := u
    obtain ⟨hP, hD⟩ : ms_PD G A [(q_t, .inr (10, [.ref q_t_held, .ref q_t_pairs, .ref q_t_stepOf, .ref q_t_wholeOf, .ref q_t_next, .ref q_t_around, .ref q_t_plain, .ref q_t_slots, .int u4, .int (0 : Int32), .int u5])), (q_t_held, .inr (1, [.ref q_t_held_one, .ref q_t_held_other, .int F_held_both])), (q_t_held_one, .inr (5, [.ref q_t_held_one_ways, .int F_held_one_states, .int F_held_one_marks, .int F_held_one_takes, .int F_held_one_changes])), (q_t_held_one_ways, .inl (cI, 18, .inl A_held_one_ways)), (q_t_held_other, .inr (5, [.ref q_t_held_other_ways, .int F_held_other_states, .int F_held_other_marks, .int F_held_other_takes, .int F_held_other_changes])), (q_t_held_other_ways, .inl (cI, 18, .inl A_held_other_ways)), (q_t_pairs, .inl (cI, 60, .inl u6)), (q_t_stepOf, .inl (cI, 60, .inl u7)), (q_t_wholeOf, .inl (cI, 60, .inl A_wholeOf)), (q_t_next, .inl (cI, 3600, .inl A_next)), (q_t_around, .inl (cI, 240, .inl A_around)), (q_t_plain, .inl (cI, 2, .inl A_plain)), (q_t_slots, .inl (cI, 256, .inl u8))] H := ms_PDsub hP hD [9, 0, 1, 2, 3, 4, 10, 11, 5, 6, 7, 8, 12] (by decide +kernel) rfl
    refine lv_pop hx hb dX10_build_48 rfl ?_
    refine lv_aload_n hx hb dX10_build_49 rfl (lv_at hl 0 rfl) ?_
    refine va_get (D := G) (ci := 10) (v := .ref q_t_plain) (C := RX10) (T := TX10) (N := 11) hx hb hts hkX10_build_X10 hown hK hP 0 rfl rfl 6 (by decide) (hts (.fieldLink RX10 27 "NestReaders$Wholes" "plain" "[I") hfX10_build_27) (fun _ h9 => h9) rfl dX10_build_50 ?_
    refine lv_iconst (v := 0) hx hb dX10_build_53 (by decide) ?_
    refine lv_aload_n hx hb dX10_build_54 rfl (lv_at hl 0 rfl) ?_
    refine lv_aload_n hx hb dX10_build_55 rfl (lv_at hl 0 rfl) ?_
    refine va_get (D := G) (ci := 10) (v := .ref q_t_held) (C := RX10) (T := TX10) (N := 11) hx hb hts hkX10_build_X10 hown hK hP 0 rfl rfl 0 (by decide) (hts (.fieldLink RX10 44 "NestReaders$Wholes" "held" "LNestReaders$Held;") hfX10_build_44) (fun _ h9 => h9) rfl dX10_build_56 ?_
    refine lv_iconst (v := 2) hx hb dX10_build_59 (by decide) ?_
    refine ms_cVi ⟨hx, hb, hml, hown, hts⟩ hK hP hD (c_X1_plain l G cI cJ cZ q_t_held q_t_held_one q_t_held_other q_t_held_one_ways q_t_held_other_ways F_held_both F_held_one_states F_held_one_marks F_held_one_takes F_held_one_changes A_held_one_ways F_held_other_states F_held_other_marks F_held_other_takes F_held_other_changes A_held_other_ways (2 : Int32) hw) gX10_build_X1_plain rfl nd_X1_plain (ci := 1) rfl rfl rfl ⟨rfl, rfl⟩ rfl ⟨Nat.le_of_ble_eq_true rfl, Nat.le_of_ble_eq_true rfl⟩ hl.1 (rest := [.ref q_t, .int (0 : Int32), .ref q_t_plain]) rfl (Nat.le_of_ble_eq_true rfl)  [1, 2, 3, 4, 5] rfl rfl dX10_build_60 (fun r9 hw => ?_)
    refine ms_mVi (wr := [(q_t_held, .inr (1, [.ref q_t_held_one, .ref q_t_held_other, .int F_held_both])), (q_t_held_one, .inr (5, [.ref q_t_held_one_ways, .int F_held_one_states, .int F_held_one_marks, .int F_held_one_takes, .int F_held_one_changes])), (q_t_held_one_ways, .inl (cI, 18, .inl A_held_one_ways)), (q_t_held_other, .inr (5, [.ref q_t_held_other_ways, .int F_held_other_states, .int F_held_other_marks, .int F_held_other_takes, .int F_held_other_changes])), (q_t_held_other_ways, .inl (cI, 18, .inl A_held_other_ways)), (q_t_next, .inl (cI, 3600, .inl A_next)), (q_t_around, .inl (cI, 240, .inl A_around)), (q_t_plain, .inl (cI, 2, .inl A_plain))]) ⟨hx, hb, hml, hown, hts⟩ hK hP hD (c_X10_stepFor l G cI cJ cZ q_t q_t_held q_t_pairs q_t_stepOf q_t_wholeOf q_t_next q_t_around q_t_plain q_t_slots H.size u4 (0 : Int32) u5 u6 u7 A_wholeOf u8 r9 hw) gX10_build_X10_stepFor rfl nd_X10_stepFor (ci := 10) rfl rfl rfl ⟨rfl, rfl⟩ rfl ⟨Nat.le_of_ble_eq_true rfl, Nat.le_of_ble_eq_true rfl⟩ hl.1 (rest := [.int (0 : Int32), .ref q_t_plain]) rfl (Nat.le_of_ble_eq_true rfl)  hS hA [0, 6, 7, 8, 12] [1, 2, 3, 4, 5, 9, 10, 11] rfl rfl rfl (by decide) rfl dX10_build_63 (fun r10 u H locs hw hP hD hS => ?_)
    obtain ⟨u11, u12, u13, u14, u15, u16, u17⟩ := u
    obtain ⟨hP, hD⟩ : ms_PD G A [(q_t, .inr (10, [.ref q_t_held, .ref q_t_pairs, .ref q_t_stepOf, .ref q_t_wholeOf, .ref q_t_next, .ref q_t_around, .ref q_t_plain, .ref q_t_slots, .int u11, .int u12, .int u13])), (q_t_held, .inr (1, [.ref q_t_held_one, .ref q_t_held_other, .int F_held_both])), (q_t_held_one, .inr (5, [.ref q_t_held_one_ways, .int F_held_one_states, .int F_held_one_marks, .int F_held_one_takes, .int F_held_one_changes])), (q_t_held_one_ways, .inl (cI, 18, .inl A_held_one_ways)), (q_t_held_other, .inr (5, [.ref q_t_held_other_ways, .int F_held_other_states, .int F_held_other_marks, .int F_held_other_takes, .int F_held_other_changes])), (q_t_held_other_ways, .inl (cI, 18, .inl A_held_other_ways)), (q_t_pairs, .inl (cI, 60, .inl u14)), (q_t_stepOf, .inl (cI, 60, .inl u15)), (q_t_wholeOf, .inl (cI, 60, .inl u16)), (q_t_next, .inl (cI, 3600, .inl A_next)), (q_t_around, .inl (cI, 240, .inl A_around)), (q_t_plain, .inl (cI, 2, .inl A_plain)), (q_t_slots, .inl (cI, 256, .inl u17))] H := ms_PDsub hP hD [8, 0, 1, 2, 3, 4, 9, 10, 11, 5, 6, 7, 12] (by decide +kernel) rfl
    refine ms_iast hx hb hK hP hD hS 11 0 rfl rfl hw.1 dX10_build_66 (fun g18 H locs eg18 hP hD hS => ?_)
    have hw := hw.2 g18 eg18
    have hP : va_P G vwCl [(q_t, .inr (10, [.ref q_t_held, .ref q_t_pairs, .ref q_t_stepOf, .ref q_t_wholeOf, .ref q_t_next, .ref q_t_around, .ref q_t_plain, .ref q_t_slots, .int u11, .int u12, .int u13])), (q_t_held, .inr (1, [.ref q_t_held_one, .ref q_t_held_other, .int F_held_both])), (q_t_held_one, .inr (5, [.ref q_t_held_one_ways, .int F_held_one_states, .int F_held_one_marks, .int F_held_one_takes, .int F_held_one_changes])), (q_t_held_one_ways, .inl (cI, 18, .inl A_held_one_ways)), (q_t_held_other, .inr (5, [.ref q_t_held_other_ways, .int F_held_other_states, .int F_held_other_marks, .int F_held_other_takes, .int F_held_other_changes])), (q_t_held_other_ways, .inl (cI, 18, .inl A_held_other_ways)), (q_t_pairs, .inl (cI, 60, .inl u14)), (q_t_stepOf, .inl (cI, 60, .inl u15)), (q_t_wholeOf, .inl (cI, 60, .inl u16)), (q_t_next, .inl (cI, 3600, .inl A_next)), (q_t_around, .inl (cI, 240, .inl A_around)), (q_t_plain, .inl (cI, 2, .inl g18)), (q_t_slots, .inl (cI, 256, .inl u17))] H := hP
    have hD : va_D A [(q_t, .inr (10, [.ref q_t_held, .ref q_t_pairs, .ref q_t_stepOf, .ref q_t_wholeOf, .ref q_t_next, .ref q_t_around, .ref q_t_plain, .ref q_t_slots, .int u11, .int u12, .int u13])), (q_t_held, .inr (1, [.ref q_t_held_one, .ref q_t_held_other, .int F_held_both])), (q_t_held_one, .inr (5, [.ref q_t_held_one_ways, .int F_held_one_states, .int F_held_one_marks, .int F_held_one_takes, .int F_held_one_changes])), (q_t_held_one_ways, .inl (cI, 18, .inl A_held_one_ways)), (q_t_held_other, .inr (5, [.ref q_t_held_other_ways, .int F_held_other_states, .int F_held_other_marks, .int F_held_other_takes, .int F_held_other_changes])), (q_t_held_other_ways, .inl (cI, 18, .inl A_held_other_ways)), (q_t_pairs, .inl (cI, 60, .inl u14)), (q_t_stepOf, .inl (cI, 60, .inl u15)), (q_t_wholeOf, .inl (cI, 60, .inl u16)), (q_t_next, .inl (cI, 3600, .inl A_next)), (q_t_around, .inl (cI, 240, .inl A_around)), (q_t_plain, .inl (cI, 2, .inl g18)), (q_t_slots, .inl (cI, 256, .inl u17))] := hD
    refine lv_aload_n hx hb dX10_build_67 rfl (lv_at hl 0 rfl) ?_
    refine va_get (D := G) (ci := 10) (v := .ref q_t_plain) (C := RX10) (T := TX10) (N := 11) hx hb hts hkX10_build_X10 hown hK hP 0 rfl rfl 6 (by decide) (hts (.fieldLink RX10 27 "NestReaders$Wholes" "plain" "[I") hfX10_build_27) (fun _ h9 => h9) rfl dX10_build_68 ?_
    refine lv_iconst (v := 1) hx hb dX10_build_71 (by decide) ?_
    refine lv_aload_n hx hb dX10_build_72 rfl (lv_at hl 0 rfl) ?_
    refine lv_aload_n hx hb dX10_build_73 rfl (lv_at hl 0 rfl) ?_
    refine va_get (D := G) (ci := 10) (v := .ref q_t_held) (C := RX10) (T := TX10) (N := 11) hx hb hts hkX10_build_X10 hown hK hP 0 rfl rfl 0 (by decide) (hts (.fieldLink RX10 44 "NestReaders$Wholes" "held" "LNestReaders$Held;") hfX10_build_44) (fun _ h9 => h9) rfl dX10_build_74 ?_
    refine lv_iconst (v := 3) hx hb dX10_build_77 (by decide) ?_
    refine ms_cVi ⟨hx, hb, hml, hown, hts⟩ hK hP hD (c_X1_plain l G cI cJ cZ q_t_held q_t_held_one q_t_held_other q_t_held_one_ways q_t_held_other_ways F_held_both F_held_one_states F_held_one_marks F_held_one_takes F_held_one_changes A_held_one_ways F_held_other_states F_held_other_marks F_held_other_takes F_held_other_changes A_held_other_ways (3 : Int32) hw) gX10_build_X1_plain rfl nd_X1_plain (ci := 1) rfl rfl rfl ⟨rfl, rfl⟩ rfl ⟨Nat.le_of_ble_eq_true rfl, Nat.le_of_ble_eq_true rfl⟩ hl.1 (rest := [.ref q_t, .int (1 : Int32), .ref q_t_plain]) rfl (Nat.le_of_ble_eq_true rfl)  [1, 2, 3, 4, 5] rfl rfl dX10_build_78 (fun r19 hw => ?_)
    refine ms_mVi (wr := [(q_t_held, .inr (1, [.ref q_t_held_one, .ref q_t_held_other, .int F_held_both])), (q_t_held_one, .inr (5, [.ref q_t_held_one_ways, .int F_held_one_states, .int F_held_one_marks, .int F_held_one_takes, .int F_held_one_changes])), (q_t_held_one_ways, .inl (cI, 18, .inl A_held_one_ways)), (q_t_held_other, .inr (5, [.ref q_t_held_other_ways, .int F_held_other_states, .int F_held_other_marks, .int F_held_other_takes, .int F_held_other_changes])), (q_t_held_other_ways, .inl (cI, 18, .inl A_held_other_ways)), (q_t_next, .inl (cI, 3600, .inl A_next)), (q_t_around, .inl (cI, 240, .inl A_around)), (q_t_plain, .inl (cI, 2, .inl g18))]) ⟨hx, hb, hml, hown, hts⟩ hK hP hD (c_X10_stepFor l G cI cJ cZ q_t q_t_held q_t_pairs q_t_stepOf q_t_wholeOf q_t_next q_t_around q_t_plain q_t_slots H.size u11 u12 u13 u14 u15 u16 u17 r19 hw) gX10_build_X10_stepFor rfl nd_X10_stepFor (ci := 10) rfl rfl rfl ⟨rfl, rfl⟩ rfl ⟨Nat.le_of_ble_eq_true rfl, Nat.le_of_ble_eq_true rfl⟩ hl.1 (rest := [.int (1 : Int32), .ref q_t_plain]) rfl (Nat.le_of_ble_eq_true rfl)  hS hA [0, 6, 7, 8, 12] [1, 2, 3, 4, 5, 9, 10, 11] rfl rfl rfl (by decide) rfl dX10_build_81 (fun r20 u H locs hw hP hD hS => ?_)
    obtain ⟨u21, u22, u23, u24, u25, u26, u27⟩ := u
    obtain ⟨hP, hD⟩ : ms_PD G A [(q_t, .inr (10, [.ref q_t_held, .ref q_t_pairs, .ref q_t_stepOf, .ref q_t_wholeOf, .ref q_t_next, .ref q_t_around, .ref q_t_plain, .ref q_t_slots, .int u21, .int u22, .int u23])), (q_t_held, .inr (1, [.ref q_t_held_one, .ref q_t_held_other, .int F_held_both])), (q_t_held_one, .inr (5, [.ref q_t_held_one_ways, .int F_held_one_states, .int F_held_one_marks, .int F_held_one_takes, .int F_held_one_changes])), (q_t_held_one_ways, .inl (cI, 18, .inl A_held_one_ways)), (q_t_held_other, .inr (5, [.ref q_t_held_other_ways, .int F_held_other_states, .int F_held_other_marks, .int F_held_other_takes, .int F_held_other_changes])), (q_t_held_other_ways, .inl (cI, 18, .inl A_held_other_ways)), (q_t_pairs, .inl (cI, 60, .inl u24)), (q_t_stepOf, .inl (cI, 60, .inl u25)), (q_t_wholeOf, .inl (cI, 60, .inl u26)), (q_t_next, .inl (cI, 3600, .inl A_next)), (q_t_around, .inl (cI, 240, .inl A_around)), (q_t_plain, .inl (cI, 2, .inl g18)), (q_t_slots, .inl (cI, 256, .inl u27))] H := ms_PDsub hP hD [8, 0, 1, 2, 3, 4, 9, 10, 11, 5, 6, 7, 12] (by decide +kernel) rfl
    refine ms_iast hx hb hK hP hD hS 11 0 rfl rfl hw.1 dX10_build_84 (fun g28 H locs eg28 hP hD hS => ?_)
    have hw := hw.2 g28 eg28
    have hP : va_P G vwCl [(q_t, .inr (10, [.ref q_t_held, .ref q_t_pairs, .ref q_t_stepOf, .ref q_t_wholeOf, .ref q_t_next, .ref q_t_around, .ref q_t_plain, .ref q_t_slots, .int u21, .int u22, .int u23])), (q_t_held, .inr (1, [.ref q_t_held_one, .ref q_t_held_other, .int F_held_both])), (q_t_held_one, .inr (5, [.ref q_t_held_one_ways, .int F_held_one_states, .int F_held_one_marks, .int F_held_one_takes, .int F_held_one_changes])), (q_t_held_one_ways, .inl (cI, 18, .inl A_held_one_ways)), (q_t_held_other, .inr (5, [.ref q_t_held_other_ways, .int F_held_other_states, .int F_held_other_marks, .int F_held_other_takes, .int F_held_other_changes])), (q_t_held_other_ways, .inl (cI, 18, .inl A_held_other_ways)), (q_t_pairs, .inl (cI, 60, .inl u24)), (q_t_stepOf, .inl (cI, 60, .inl u25)), (q_t_wholeOf, .inl (cI, 60, .inl u26)), (q_t_next, .inl (cI, 3600, .inl A_next)), (q_t_around, .inl (cI, 240, .inl A_around)), (q_t_plain, .inl (cI, 2, .inl g28)), (q_t_slots, .inl (cI, 256, .inl u27))] H := hP
    have hD : va_D A [(q_t, .inr (10, [.ref q_t_held, .ref q_t_pairs, .ref q_t_stepOf, .ref q_t_wholeOf, .ref q_t_next, .ref q_t_around, .ref q_t_plain, .ref q_t_slots, .int u21, .int u22, .int u23])), (q_t_held, .inr (1, [.ref q_t_held_one, .ref q_t_held_other, .int F_held_both])), (q_t_held_one, .inr (5, [.ref q_t_held_one_ways, .int F_held_one_states, .int F_held_one_marks, .int F_held_one_takes, .int F_held_one_changes])), (q_t_held_one_ways, .inl (cI, 18, .inl A_held_one_ways)), (q_t_held_other, .inr (5, [.ref q_t_held_other_ways, .int F_held_other_states, .int F_held_other_marks, .int F_held_other_takes, .int F_held_other_changes])), (q_t_held_other_ways, .inl (cI, 18, .inl A_held_other_ways)), (q_t_pairs, .inl (cI, 60, .inl u24)), (q_t_stepOf, .inl (cI, 60, .inl u25)), (q_t_wholeOf, .inl (cI, 60, .inl u26)), (q_t_next, .inl (cI, 3600, .inl A_next)), (q_t_around, .inl (cI, 240, .inl A_around)), (q_t_plain, .inl (cI, 2, .inl g28)), (q_t_slots, .inl (cI, 256, .inl u27))] := hD
    refine lv_iconst (v := 0) hx hb dX10_build_85 (by decide) ?_
    refine lv_istore_n (lv' := [(1, .int (0 : Int32)), (0, .ref q_t)]) hx hb dX10_build_86 rfl hl (by decide) rfl (fun ls hl => ?_)
    have hw := hw (fun i87_1 F_size_87 F_steps_87 F_spent_87 A_pairs_87 A_stepOf_87 A_wholeOf_87 A_next_87 A_around_87 A_slots_87 => ∀ (H : Heap) (locs : List Loc), va_P G vwCl [(q_t, .inr (10, [.ref q_t_held, .ref q_t_pairs, .ref q_t_stepOf, .ref q_t_wholeOf, .ref q_t_next, .ref q_t_around, .ref q_t_plain, .ref q_t_slots, .int F_size_87, .int F_steps_87, .int F_spent_87])), (q_t_held, .inr (1, [.ref q_t_held_one, .ref q_t_held_other, .int F_held_both])), (q_t_held_one, .inr (5, [.ref q_t_held_one_ways, .int F_held_one_states, .int F_held_one_marks, .int F_held_one_takes, .int F_held_one_changes])), (q_t_held_one_ways, .inl (cI, 18, .inl A_held_one_ways)), (q_t_held_other, .inr (5, [.ref q_t_held_other_ways, .int F_held_other_states, .int F_held_other_marks, .int F_held_other_takes, .int F_held_other_changes])), (q_t_held_other_ways, .inl (cI, 18, .inl A_held_other_ways)), (q_t_pairs, .inl (cI, 60, .inl A_pairs_87)), (q_t_stepOf, .inl (cI, 60, .inl A_stepOf_87)), (q_t_wholeOf, .inl (cI, 60, .inl A_wholeOf_87)), (q_t_next, .inl (cI, 3600, .inl A_next_87)), (q_t_around, .inl (cI, 240, .inl A_around_87)), (q_t_plain, .inl (cI, 2, .inl g28)), (q_t_slots, .inl (cI, 256, .inl A_slots_87))] H → va_D A [(q_t, .inr (10, [.ref q_t_held, .ref q_t_pairs, .ref q_t_stepOf, .ref q_t_wholeOf, .ref q_t_next, .ref q_t_around, .ref q_t_plain, .ref q_t_slots, .int F_size_87, .int F_steps_87, .int F_spent_87])), (q_t_held, .inr (1, [.ref q_t_held_one, .ref q_t_held_other, .int F_held_both])), (q_t_held_one, .inr (5, [.ref q_t_held_one_ways, .int F_held_one_states, .int F_held_one_marks, .int F_held_one_takes, .int F_held_one_changes])), (q_t_held_one_ways, .inl (cI, 18, .inl A_held_one_ways)), (q_t_held_other, .inr (5, [.ref q_t_held_other_ways, .int F_held_other_states, .int F_held_other_marks, .int F_held_other_takes, .int F_held_other_changes])), (q_t_held_other_ways, .inl (cI, 18, .inl A_held_other_ways)), (q_t_pairs, .inl (cI, 60, .inl A_pairs_87)), (q_t_stepOf, .inl (cI, 60, .inl A_stepOf_87)), (q_t_wholeOf, .inl (cI, 60, .inl A_wholeOf_87)), (q_t_next, .inl (cI, 3600, .inl A_next_87)), (q_t_around, .inl (cI, 240, .inl A_around_87)), (q_t_plain, .inl (cI, 2, .inl g28)), (q_t_slots, .inl (cI, 256, .inl A_slots_87))] → va_S A s.heap H locs → ∀ ls : Array Slot, lv_has ls 5 [] → W p l e rmX10_build s m args below meth c H locs 0 0 Q (F0 m 192 ls [])) (fun i87_1 F_size_87 F_steps_87 F_spent_87 A_pairs_87 A_stepOf_87 A_wholeOf_87 A_next_87 A_around_87 A_slots_87 hw H locs hP hD hS ls hl => by
      exact hRet ⟨F_size_87, F_steps_87, F_spent_87, A_pairs_87, A_stepOf_87, A_wholeOf_87, A_next_87, A_around_87, g28, A_slots_87⟩ H locs _ _ hw hP hD hS dX10_build_192
      )
    refine hw (fun i87_1 F_size_87 F_steps_87 F_spent_87 A_pairs_87 A_stepOf_87 A_wholeOf_87 A_next_87 A_around_87 A_slots_87 => ∀ (H : Heap) (locs : List Loc), va_P G vwCl [(q_t, .inr (10, [.ref q_t_held, .ref q_t_pairs, .ref q_t_stepOf, .ref q_t_wholeOf, .ref q_t_next, .ref q_t_around, .ref q_t_plain, .ref q_t_slots, .int F_size_87, .int F_steps_87, .int F_spent_87])), (q_t_held, .inr (1, [.ref q_t_held_one, .ref q_t_held_other, .int F_held_both])), (q_t_held_one, .inr (5, [.ref q_t_held_one_ways, .int F_held_one_states, .int F_held_one_marks, .int F_held_one_takes, .int F_held_one_changes])), (q_t_held_one_ways, .inl (cI, 18, .inl A_held_one_ways)), (q_t_held_other, .inr (5, [.ref q_t_held_other_ways, .int F_held_other_states, .int F_held_other_marks, .int F_held_other_takes, .int F_held_other_changes])), (q_t_held_other_ways, .inl (cI, 18, .inl A_held_other_ways)), (q_t_pairs, .inl (cI, 60, .inl A_pairs_87)), (q_t_stepOf, .inl (cI, 60, .inl A_stepOf_87)), (q_t_wholeOf, .inl (cI, 60, .inl A_wholeOf_87)), (q_t_next, .inl (cI, 3600, .inl A_next_87)), (q_t_around, .inl (cI, 240, .inl A_around_87)), (q_t_plain, .inl (cI, 2, .inl g28)), (q_t_slots, .inl (cI, 256, .inl A_slots_87))] H → va_D A [(q_t, .inr (10, [.ref q_t_held, .ref q_t_pairs, .ref q_t_stepOf, .ref q_t_wholeOf, .ref q_t_next, .ref q_t_around, .ref q_t_plain, .ref q_t_slots, .int F_size_87, .int F_steps_87, .int F_spent_87])), (q_t_held, .inr (1, [.ref q_t_held_one, .ref q_t_held_other, .int F_held_both])), (q_t_held_one, .inr (5, [.ref q_t_held_one_ways, .int F_held_one_states, .int F_held_one_marks, .int F_held_one_takes, .int F_held_one_changes])), (q_t_held_one_ways, .inl (cI, 18, .inl A_held_one_ways)), (q_t_held_other, .inr (5, [.ref q_t_held_other_ways, .int F_held_other_states, .int F_held_other_marks, .int F_held_other_takes, .int F_held_other_changes])), (q_t_held_other_ways, .inl (cI, 18, .inl A_held_other_ways)), (q_t_pairs, .inl (cI, 60, .inl A_pairs_87)), (q_t_stepOf, .inl (cI, 60, .inl A_stepOf_87)), (q_t_wholeOf, .inl (cI, 60, .inl A_wholeOf_87)), (q_t_next, .inl (cI, 3600, .inl A_next_87)), (q_t_around, .inl (cI, 240, .inl A_around_87)), (q_t_plain, .inl (cI, 2, .inl g28)), (q_t_slots, .inl (cI, 256, .inl A_slots_87))] → va_S A s.heap H locs → ∀ ls : Array Slot, lv_has ls 5 [(0, .ref q_t), (1, .int i87_1)] → W p l e rmX10_build s m args below meth c H locs 0 0 Q (F0 m 87 ls [])) (fun i87_1 F_size_87 F_steps_87 F_spent_87 A_pairs_87 A_stepOf_87 A_wholeOf_87 A_next_87 A_around_87 A_slots_87 hw H locs hP hD hS ls hl => ?_) H locs hP hD hS ls (lv_sub hl [1, 0] rfl)
    refine lv_iload_n hx hb dX10_build_87 rfl (lv_at hl 1 rfl) ?_
    refine lv_aload_n hx hb dX10_build_88 rfl (lv_at hl 0 rfl) ?_
    refine va_get (D := G) (ci := 10) (v := .int F_size_87) (C := RX10) (T := TX10) (N := 11) hx hb hts hkX10_build_X10 hown hK hP 0 rfl rfl 8 (by decide) (hts (.fieldLink RX10 33 "NestReaders$Wholes" "size" "I") hfX10_build_33) (fun _ h9 => h9) rfl dX10_build_89 ?_
    refine lv_icmp_ge (tgt := 192) hx hb dX10_build_92 (by decide) (fun c29 => ?_) (fun c29 => ?_)
    · have hw := hw.1 c29
      exact hw H locs hP hD hS ls (lv_sub hl [] rfl)
    · have hw := hw.2 c29
      refine lv_aload_n hx hb dX10_build_95 rfl (lv_at hl 0 rfl) ?_
      refine va_get (D := G) (ci := 10) (v := .int F_spent_87) (C := RX10) (T := TX10) (N := 11) hx hb hts hkX10_build_X10 hown hK hP 0 rfl rfl 10 (by decide) (hts (.fieldLink RX10 40 "NestReaders$Wholes" "spent" "Z") hfX10_build_40) (fun _ h9 => h9) rfl dX10_build_96 ?_
      refine lv_if_ne (tgt := 192) hx hb dX10_build_99 (by decide) (fun c30 => ?_) (fun c30 => ?_)
      · have hw := hw.2 c30
        exact hw H locs hP hD hS ls (lv_sub hl [] rfl)
      · have hw := hw.1 c30
        refine lv_aload_n hx hb dX10_build_102 rfl (lv_at hl 0 rfl) ?_
        refine va_get (D := G) (ci := 10) (v := .int F_steps_87) (C := RX10) (T := TX10) (N := 11) hx hb hts hkX10_build_X10 hown hK hP 0 rfl rfl 9 (by decide) (hts (.fieldLink RX10 37 "NestReaders$Wholes" "steps" "I") hfX10_build_37) (fun _ h9 => h9) rfl dX10_build_103 ?_
        refine lv_istore_n (lv' := [(2, .int F_steps_87), (0, .ref q_t), (1, .int i87_1)]) hx hb dX10_build_106 rfl hl (by decide) rfl (fun ls hl => ?_)
        refine lv_iconst (v := 0) hx hb dX10_build_107 (by decide) ?_
        refine lv_istore_n (lv' := [(3, .int (0 : Int32)), (2, .int F_steps_87), (0, .ref q_t), (1, .int i87_1)]) hx hb dX10_build_108 rfl hl (by decide) rfl (fun ls hl => ?_)
        refine hw (fun i109_3 F_size_109 F_steps_109 F_spent_109 A_pairs_109 A_stepOf_109 A_wholeOf_109 A_around_109 A_slots_109 => ∀ (H : Heap) (locs : List Loc), va_P G vwCl [(q_t, .inr (10, [.ref q_t_held, .ref q_t_pairs, .ref q_t_stepOf, .ref q_t_wholeOf, .ref q_t_next, .ref q_t_around, .ref q_t_plain, .ref q_t_slots, .int F_size_109, .int F_steps_109, .int F_spent_109])), (q_t_held, .inr (1, [.ref q_t_held_one, .ref q_t_held_other, .int F_held_both])), (q_t_held_one, .inr (5, [.ref q_t_held_one_ways, .int F_held_one_states, .int F_held_one_marks, .int F_held_one_takes, .int F_held_one_changes])), (q_t_held_one_ways, .inl (cI, 18, .inl A_held_one_ways)), (q_t_held_other, .inr (5, [.ref q_t_held_other_ways, .int F_held_other_states, .int F_held_other_marks, .int F_held_other_takes, .int F_held_other_changes])), (q_t_held_other_ways, .inl (cI, 18, .inl A_held_other_ways)), (q_t_pairs, .inl (cI, 60, .inl A_pairs_109)), (q_t_stepOf, .inl (cI, 60, .inl A_stepOf_109)), (q_t_wholeOf, .inl (cI, 60, .inl A_wholeOf_109)), (q_t_next, .inl (cI, 3600, .inl A_next_87)), (q_t_around, .inl (cI, 240, .inl A_around_109)), (q_t_plain, .inl (cI, 2, .inl g28)), (q_t_slots, .inl (cI, 256, .inl A_slots_109))] H → va_D A [(q_t, .inr (10, [.ref q_t_held, .ref q_t_pairs, .ref q_t_stepOf, .ref q_t_wholeOf, .ref q_t_next, .ref q_t_around, .ref q_t_plain, .ref q_t_slots, .int F_size_109, .int F_steps_109, .int F_spent_109])), (q_t_held, .inr (1, [.ref q_t_held_one, .ref q_t_held_other, .int F_held_both])), (q_t_held_one, .inr (5, [.ref q_t_held_one_ways, .int F_held_one_states, .int F_held_one_marks, .int F_held_one_takes, .int F_held_one_changes])), (q_t_held_one_ways, .inl (cI, 18, .inl A_held_one_ways)), (q_t_held_other, .inr (5, [.ref q_t_held_other_ways, .int F_held_other_states, .int F_held_other_marks, .int F_held_other_takes, .int F_held_other_changes])), (q_t_held_other_ways, .inl (cI, 18, .inl A_held_other_ways)), (q_t_pairs, .inl (cI, 60, .inl A_pairs_109)), (q_t_stepOf, .inl (cI, 60, .inl A_stepOf_109)), (q_t_wholeOf, .inl (cI, 60, .inl A_wholeOf_109)), (q_t_next, .inl (cI, 3600, .inl A_next_87)), (q_t_around, .inl (cI, 240, .inl A_around_109)), (q_t_plain, .inl (cI, 2, .inl g28)), (q_t_slots, .inl (cI, 256, .inl A_slots_109))] → va_S A s.heap H locs → ∀ ls : Array Slot, lv_has ls 5 [(0, .ref q_t), (1, .int i87_1), (2, .int F_steps_87), (3, .int i109_3)] → W p l e rmX10_build s m args below meth c H locs 0 0 Q (F0 m 109 ls [])) (fun i109_3 F_size_109 F_steps_109 F_spent_109 A_pairs_109 A_stepOf_109 A_wholeOf_109 A_around_109 A_slots_109 hw H locs hP hD hS ls hl => ?_) H locs hP hD hS ls (lv_sub hl [2, 3, 1, 0] rfl)
        refine lv_iload_n hx hb dX10_build_109 rfl (lv_at hl 3 rfl) ?_
        refine lv_iconst (v := 4) hx hb dX10_build_110 (by decide) ?_
        refine lv_icmp_ge (tgt := 161) hx hb dX10_build_111 (by decide) (fun c31 => ?_) (fun c31 => ?_)
        · have hw := hw.1 c31
          refine lv_iconst (v := 0) hx hb dX10_build_161 (by decide) ?_
          refine lv_istore_n (lv' := [(3, .int (0 : Int32)), (0, .ref q_t), (1, .int i87_1), (2, .int F_steps_87)]) hx hb dX10_build_162 rfl hl (by decide) rfl (fun ls hl => ?_)
          refine hw (fun i163_3 F_size_163 F_spent_163 A_pairs_163 A_stepOf_163 A_next_163 A_slots_163 => ∀ (H : Heap) (locs : List Loc), va_P G vwCl [(q_t, .inr (10, [.ref q_t_held, .ref q_t_pairs, .ref q_t_stepOf, .ref q_t_wholeOf, .ref q_t_next, .ref q_t_around, .ref q_t_plain, .ref q_t_slots, .int F_size_163, .int F_steps_109, .int F_spent_163])), (q_t_held, .inr (1, [.ref q_t_held_one, .ref q_t_held_other, .int F_held_both])), (q_t_held_one, .inr (5, [.ref q_t_held_one_ways, .int F_held_one_states, .int F_held_one_marks, .int F_held_one_takes, .int F_held_one_changes])), (q_t_held_one_ways, .inl (cI, 18, .inl A_held_one_ways)), (q_t_held_other, .inr (5, [.ref q_t_held_other_ways, .int F_held_other_states, .int F_held_other_marks, .int F_held_other_takes, .int F_held_other_changes])), (q_t_held_other_ways, .inl (cI, 18, .inl A_held_other_ways)), (q_t_pairs, .inl (cI, 60, .inl A_pairs_163)), (q_t_stepOf, .inl (cI, 60, .inl A_stepOf_163)), (q_t_wholeOf, .inl (cI, 60, .inl A_wholeOf_109)), (q_t_next, .inl (cI, 3600, .inl A_next_163)), (q_t_around, .inl (cI, 240, .inl A_around_109)), (q_t_plain, .inl (cI, 2, .inl g28)), (q_t_slots, .inl (cI, 256, .inl A_slots_163))] H → va_D A [(q_t, .inr (10, [.ref q_t_held, .ref q_t_pairs, .ref q_t_stepOf, .ref q_t_wholeOf, .ref q_t_next, .ref q_t_around, .ref q_t_plain, .ref q_t_slots, .int F_size_163, .int F_steps_109, .int F_spent_163])), (q_t_held, .inr (1, [.ref q_t_held_one, .ref q_t_held_other, .int F_held_both])), (q_t_held_one, .inr (5, [.ref q_t_held_one_ways, .int F_held_one_states, .int F_held_one_marks, .int F_held_one_takes, .int F_held_one_changes])), (q_t_held_one_ways, .inl (cI, 18, .inl A_held_one_ways)), (q_t_held_other, .inr (5, [.ref q_t_held_other_ways, .int F_held_other_states, .int F_held_other_marks, .int F_held_other_takes, .int F_held_other_changes])), (q_t_held_other_ways, .inl (cI, 18, .inl A_held_other_ways)), (q_t_pairs, .inl (cI, 60, .inl A_pairs_163)), (q_t_stepOf, .inl (cI, 60, .inl A_stepOf_163)), (q_t_wholeOf, .inl (cI, 60, .inl A_wholeOf_109)), (q_t_next, .inl (cI, 3600, .inl A_next_163)), (q_t_around, .inl (cI, 240, .inl A_around_109)), (q_t_plain, .inl (cI, 2, .inl g28)), (q_t_slots, .inl (cI, 256, .inl A_slots_163))] → va_S A s.heap H locs → ∀ ls : Array Slot, lv_has ls 5 [(0, .ref q_t), (1, .int i87_1), (2, .int F_steps_87), (3, .int i163_3)] → W p l e rmX10_build s m args below meth c H locs 0 0 Q (F0 m 163 ls [])) (fun i163_3 F_size_163 F_spent_163 A_pairs_163 A_stepOf_163 A_next_163 A_slots_163 hw H locs hP hD hS ls hl => ?_) H locs hP hD hS ls (lv_sub hl [1, 2, 3, 0] rfl)
          refine lv_iload_n hx hb dX10_build_163 rfl (lv_at hl 3 rfl) ?_
          refine lv_iload_n hx hb dX10_build_164 rfl (lv_at hl 1 rfl) ?_
          refine lv_icmp_ge (tgt := 180) hx hb dX10_build_165 (by decide) (fun c32 => ?_) (fun c32 => ?_)
          · have hw := hw.1 c32
            refine lv_aload_n hx hb dX10_build_180 rfl (lv_at hl 0 rfl) ?_
            refine lv_iload_n hx hb dX10_build_181 rfl (lv_at hl 1 rfl) ?_
            refine lv_iconst (v := 0) hx hb dX10_build_182 (by decide) ?_
            refine ms_mVv (wr := [(q_t_held, .inr (1, [.ref q_t_held_one, .ref q_t_held_other, .int F_held_both])), (q_t_held_one, .inr (5, [.ref q_t_held_one_ways, .int F_held_one_states, .int F_held_one_marks, .int F_held_one_takes, .int F_held_one_changes])), (q_t_held_one_ways, .inl (cI, 18, .inl A_held_one_ways)), (q_t_held_other, .inr (5, [.ref q_t_held_other_ways, .int F_held_other_states, .int F_held_other_marks, .int F_held_other_takes, .int F_held_other_changes])), (q_t_held_other_ways, .inl (cI, 18, .inl A_held_other_ways)), (q_t_around, .inl (cI, 240, .inl A_around_109)), (q_t_plain, .inl (cI, 2, .inl g28))]) ⟨hx, hb, hml, hown, hts⟩ hK hP hD (c_X10_link l G cI cJ cZ q_t q_t_held q_t_pairs q_t_stepOf q_t_wholeOf q_t_next q_t_around q_t_plain q_t_slots H.size F_size_163 F_steps_109 F_spent_163 A_pairs_163 A_stepOf_163 A_wholeOf_109 A_next_163 A_slots_163 i87_1 (0 : Int32) hw) gX10_build_X10_link rfl nd_X10_link (ci := 10) rfl rfl rfl ⟨rfl, rfl⟩ rfl ⟨Nat.le_of_ble_eq_true rfl, Nat.le_of_ble_eq_true rfl⟩ hl.1 (rest := []) rfl (Nat.le_of_ble_eq_true rfl)  hS hA [0, 6, 7, 8, 9, 12] [1, 2, 3, 4, 5, 10, 11] rfl rfl rfl (by decide) rfl dX10_build_183 (fun u H locs hw hP hD hS => ?_)
            obtain ⟨u33, u34, u35, u36, u37, u38⟩ := u
            obtain ⟨hP, hD⟩ : ms_PD G A [(q_t, .inr (10, [.ref q_t_held, .ref q_t_pairs, .ref q_t_stepOf, .ref q_t_wholeOf, .ref q_t_next, .ref q_t_around, .ref q_t_plain, .ref q_t_slots, .int u33, .int F_steps_109, .int u34])), (q_t_held, .inr (1, [.ref q_t_held_one, .ref q_t_held_other, .int F_held_both])), (q_t_held_one, .inr (5, [.ref q_t_held_one_ways, .int F_held_one_states, .int F_held_one_marks, .int F_held_one_takes, .int F_held_one_changes])), (q_t_held_one_ways, .inl (cI, 18, .inl A_held_one_ways)), (q_t_held_other, .inr (5, [.ref q_t_held_other_ways, .int F_held_other_states, .int F_held_other_marks, .int F_held_other_takes, .int F_held_other_changes])), (q_t_held_other_ways, .inl (cI, 18, .inl A_held_other_ways)), (q_t_pairs, .inl (cI, 60, .inl u35)), (q_t_stepOf, .inl (cI, 60, .inl u36)), (q_t_wholeOf, .inl (cI, 60, .inl A_wholeOf_109)), (q_t_next, .inl (cI, 3600, .inl u37)), (q_t_around, .inl (cI, 240, .inl A_around_109)), (q_t_plain, .inl (cI, 2, .inl g28)), (q_t_slots, .inl (cI, 256, .inl u38))] H := ms_PDsub hP hD [7, 0, 1, 2, 3, 4, 8, 9, 10, 11, 5, 6, 12] (by decide +kernel) rfl
            obtain ⟨x39, ex39⟩ : ∃ y : Int32, y = i87_1 + (1 : Int32) := ⟨_, rfl⟩
            have hw := hw x39 ex39
            refine lv_iinc (v := x39) (lv' := [(1, .int x39), (0, .ref q_t), (2, .int F_steps_87), (3, .int i163_3)]) hx hb dX10_build_186 hl (k := 1) rfl (by rw [ex39]; rfl) (by decide) rfl (fun ls hl => ?_)
            refine lv_goto (tgt := 87) hx hb dX10_build_189 (by decide) ?_
            exact hw H locs hP hD hS ls (lv_sub hl [1, 0] rfl)
          · have hw := hw.2 c32
            refine lv_aload_n hx hb dX10_build_168 rfl (lv_at hl 0 rfl) ?_
            refine lv_iload_n hx hb dX10_build_169 rfl (lv_at hl 3 rfl) ?_
            refine lv_iload_n hx hb dX10_build_170 rfl (lv_at hl 2 rfl) ?_
            refine ms_mVv (wr := [(q_t_held, .inr (1, [.ref q_t_held_one, .ref q_t_held_other, .int F_held_both])), (q_t_held_one, .inr (5, [.ref q_t_held_one_ways, .int F_held_one_states, .int F_held_one_marks, .int F_held_one_takes, .int F_held_one_changes])), (q_t_held_one_ways, .inl (cI, 18, .inl A_held_one_ways)), (q_t_held_other, .inr (5, [.ref q_t_held_other_ways, .int F_held_other_states, .int F_held_other_marks, .int F_held_other_takes, .int F_held_other_changes])), (q_t_held_other_ways, .inl (cI, 18, .inl A_held_other_ways)), (q_t_around, .inl (cI, 240, .inl A_around_109)), (q_t_plain, .inl (cI, 2, .inl g28))]) ⟨hx, hb, hml, hown, hts⟩ hK hP hD (c_X10_link l G cI cJ cZ q_t q_t_held q_t_pairs q_t_stepOf q_t_wholeOf q_t_next q_t_around q_t_plain q_t_slots H.size F_size_163 F_steps_109 F_spent_163 A_pairs_163 A_stepOf_163 A_wholeOf_109 A_next_163 A_slots_163 i163_3 F_steps_87 hw) gX10_build_X10_link rfl nd_X10_link (ci := 10) rfl rfl rfl ⟨rfl, rfl⟩ rfl ⟨Nat.le_of_ble_eq_true rfl, Nat.le_of_ble_eq_true rfl⟩ hl.1 (rest := []) rfl (Nat.le_of_ble_eq_true rfl)  hS hA [0, 6, 7, 8, 9, 12] [1, 2, 3, 4, 5, 10, 11] rfl rfl rfl (by decide) rfl dX10_build_171 (fun u H locs hw hP hD hS => ?_)
            obtain ⟨u40, u41, u42, u43, u44, u45⟩ := u
            obtain ⟨hP, hD⟩ : ms_PD G A [(q_t, .inr (10, [.ref q_t_held, .ref q_t_pairs, .ref q_t_stepOf, .ref q_t_wholeOf, .ref q_t_next, .ref q_t_around, .ref q_t_plain, .ref q_t_slots, .int u40, .int F_steps_109, .int u41])), (q_t_held, .inr (1, [.ref q_t_held_one, .ref q_t_held_other, .int F_held_both])), (q_t_held_one, .inr (5, [.ref q_t_held_one_ways, .int F_held_one_states, .int F_held_one_marks, .int F_held_one_takes, .int F_held_one_changes])), (q_t_held_one_ways, .inl (cI, 18, .inl A_held_one_ways)), (q_t_held_other, .inr (5, [.ref q_t_held_other_ways, .int F_held_other_states, .int F_held_other_marks, .int F_held_other_takes, .int F_held_other_changes])), (q_t_held_other_ways, .inl (cI, 18, .inl A_held_other_ways)), (q_t_pairs, .inl (cI, 60, .inl u42)), (q_t_stepOf, .inl (cI, 60, .inl u43)), (q_t_wholeOf, .inl (cI, 60, .inl A_wholeOf_109)), (q_t_next, .inl (cI, 3600, .inl u44)), (q_t_around, .inl (cI, 240, .inl A_around_109)), (q_t_plain, .inl (cI, 2, .inl g28)), (q_t_slots, .inl (cI, 256, .inl u45))] H := ms_PDsub hP hD [7, 0, 1, 2, 3, 4, 8, 9, 10, 11, 5, 6, 12] (by decide +kernel) rfl
            obtain ⟨x46, ex46⟩ : ∃ y : Int32, y = i163_3 + (1 : Int32) := ⟨_, rfl⟩
            have hw := hw x46 ex46
            refine lv_iinc (v := x46) (lv' := [(3, .int x46), (0, .ref q_t), (1, .int i87_1), (2, .int F_steps_87)]) hx hb dX10_build_174 hl (k := 3) rfl (by rw [ex46]; rfl) (by decide) rfl (fun ls hl => ?_)
            refine lv_goto (tgt := 163) hx hb dX10_build_177 (by decide) ?_
            exact hw H locs hP hD hS ls (lv_sub hl [1, 2, 3, 0] rfl)
        · have hw := hw.2 c31
          refine lv_aload_n hx hb dX10_build_114 rfl (lv_at hl 0 rfl) ?_
          refine va_get (D := G) (ci := 10) (v := .ref q_t_held) (C := RX10) (T := TX10) (N := 11) hx hb hts hkX10_build_X10 hown hK hP 0 rfl rfl 0 (by decide) (hts (.fieldLink RX10 44 "NestReaders$Wholes" "held" "LNestReaders$Held;") hfX10_build_44) (fun _ h9 => h9) rfl dX10_build_115 ?_
          refine lv_iconst (v := 0) hx hb dX10_build_118 (by decide) ?_
          refine lv_iload_n hx hb dX10_build_119 rfl (lv_at hl 3 rfl) ?_
          refine lv_iconst (v := 1) hx hb dX10_build_120 (by decide) ?_
          refine lv_ishr hx hb dX10_build_121 ?_
          refine lv_iadd hx hb dX10_build_122 ?_
          refine lv_iconst (v := 4) hx hb dX10_build_123 (by decide) ?_
          refine lv_iload_n hx hb dX10_build_124 rfl (lv_at hl 3 rfl) ?_
          refine lv_iconst (v := 1) hx hb dX10_build_125 (by decide) ?_
          refine lv_iand hx hb dX10_build_126 ?_
          refine lv_iadd hx hb dX10_build_127 ?_
          refine lv_aload_n hx hb dX10_build_128 rfl (lv_at hl 0 rfl) ?_
          refine va_get (D := G) (ci := 10) (v := .ref q_t_pairs) (C := RX10) (T := TX10) (N := 11) hx hb hts hkX10_build_X10 hown hK hP 0 rfl rfl 1 (by decide) (hts (.fieldLink RX10 9 "NestReaders$Wholes" "pairs" "[I") hfX10_build_9) (fun _ h9 => h9) rfl dX10_build_129 ?_
          refine lv_iload_n hx hb dX10_build_132 rfl (lv_at hl 1 rfl) ?_
          refine va_iald (D := G) hx hb hK hP 6 0 rfl rfl hw.1 dX10_build_133 ?_
          have hw := hw.2
          refine ms_cVi ⟨hx, hb, hml, hown, hts⟩ hK hP hD (c_X1_wrapped l G cI cJ cZ q_t_held q_t_held_one q_t_held_other q_t_held_one_ways q_t_held_other_ways F_held_both F_held_one_states F_held_one_marks F_held_one_takes F_held_one_changes A_held_one_ways F_held_other_states F_held_other_marks F_held_other_takes F_held_other_changes A_held_other_ways ((0 : Int32) + (i109_3 >>> ((1 : Int32) &&& 31))) ((4 : Int32) + (i109_3 &&& (1 : Int32))) (A_pairs_109 i87_1.toNatClampNeg) hw) gX10_build_X1_wrapped rfl nd_X1_wrapped (ci := 1) rfl rfl rfl ⟨rfl, rfl⟩ rfl ⟨Nat.le_of_ble_eq_true rfl, Nat.le_of_ble_eq_true rfl⟩ hl.1 (rest := []) rfl (Nat.le_of_ble_eq_true rfl)  [1, 2, 3, 4, 5] rfl rfl dX10_build_134 (fun r47 hw => ?_)
          refine lv_istore (lv' := [(4, .int r47), (0, .ref q_t), (1, .int i87_1), (2, .int F_steps_87), (3, .int i109_3)]) hx hb dX10_build_137 hl (by decide) rfl (fun ls hl => ?_)
          refine lv_aload_n hx hb dX10_build_139 rfl (lv_at hl 1 rfl) ?_
          refine va_get (D := G) (ci := 10) (v := .ref q_t_around) (C := RX10) (T := TX10) (N := 11) hx hb hts hkX10_build_X10 hown hK hP 0 rfl rfl 5 (by decide) (hts (.fieldLink RX10 24 "NestReaders$Wholes" "around" "[I") hfX10_build_24) (fun _ h9 => h9) rfl dX10_build_140 ?_
          refine lv_iconst (v := 4) hx hb dX10_build_143 (by decide) ?_
          refine lv_iload_n hx hb dX10_build_144 rfl (lv_at hl 2 rfl) ?_
          refine lv_imul hx hb dX10_build_145 ?_
          refine lv_iload_n hx hb dX10_build_146 rfl (lv_at hl 4 rfl) ?_
          refine lv_iadd hx hb dX10_build_147 ?_
          refine lv_aload_n hx hb dX10_build_148 rfl (lv_at hl 1 rfl) ?_
          refine lv_iload hx hb dX10_build_149 (lv_at hl 0 rfl) ?_
          refine ms_mVi (wr := [(q_t_held, .inr (1, [.ref q_t_held_one, .ref q_t_held_other, .int F_held_both])), (q_t_held_one, .inr (5, [.ref q_t_held_one_ways, .int F_held_one_states, .int F_held_one_marks, .int F_held_one_takes, .int F_held_one_changes])), (q_t_held_one_ways, .inl (cI, 18, .inl A_held_one_ways)), (q_t_held_other, .inr (5, [.ref q_t_held_other_ways, .int F_held_other_states, .int F_held_other_marks, .int F_held_other_takes, .int F_held_other_changes])), (q_t_held_other_ways, .inl (cI, 18, .inl A_held_other_ways)), (q_t_next, .inl (cI, 3600, .inl A_next_87)), (q_t_around, .inl (cI, 240, .inl A_around_109)), (q_t_plain, .inl (cI, 2, .inl g28))]) ⟨hx, hb, hml, hown, hts⟩ hK hP hD (c_X10_stepFor l G cI cJ cZ q_t q_t_held q_t_pairs q_t_stepOf q_t_wholeOf q_t_next q_t_around q_t_plain q_t_slots H.size F_size_109 F_steps_109 F_spent_109 A_pairs_109 A_stepOf_109 A_wholeOf_109 A_slots_109 r47 hw) gX10_build_X10_stepFor rfl nd_X10_stepFor (ci := 10) rfl rfl rfl ⟨rfl, rfl⟩ rfl ⟨Nat.le_of_ble_eq_true rfl, Nat.le_of_ble_eq_true rfl⟩ hl.1 (rest := [.int (((4 : Int32) * i87_1) + i109_3), .ref q_t_around]) rfl (Nat.le_of_ble_eq_true rfl)  hS hA [0, 6, 7, 8, 12] [1, 2, 3, 4, 5, 9, 10, 11] rfl rfl rfl (by decide) rfl dX10_build_151 (fun r48 u H locs hw hP hD hS => ?_)
          obtain ⟨u49, u50, u51, u52, u53, u54, u55⟩ := u
          obtain ⟨hP, hD⟩ : ms_PD G A [(q_t, .inr (10, [.ref q_t_held, .ref q_t_pairs, .ref q_t_stepOf, .ref q_t_wholeOf, .ref q_t_next, .ref q_t_around, .ref q_t_plain, .ref q_t_slots, .int u49, .int u50, .int u51])), (q_t_held, .inr (1, [.ref q_t_held_one, .ref q_t_held_other, .int F_held_both])), (q_t_held_one, .inr (5, [.ref q_t_held_one_ways, .int F_held_one_states, .int F_held_one_marks, .int F_held_one_takes, .int F_held_one_changes])), (q_t_held_one_ways, .inl (cI, 18, .inl A_held_one_ways)), (q_t_held_other, .inr (5, [.ref q_t_held_other_ways, .int F_held_other_states, .int F_held_other_marks, .int F_held_other_takes, .int F_held_other_changes])), (q_t_held_other_ways, .inl (cI, 18, .inl A_held_other_ways)), (q_t_pairs, .inl (cI, 60, .inl u52)), (q_t_stepOf, .inl (cI, 60, .inl u53)), (q_t_wholeOf, .inl (cI, 60, .inl u54)), (q_t_next, .inl (cI, 3600, .inl A_next_87)), (q_t_around, .inl (cI, 240, .inl A_around_109)), (q_t_plain, .inl (cI, 2, .inl g28)), (q_t_slots, .inl (cI, 256, .inl u55))] H := ms_PDsub hP hD [8, 0, 1, 2, 3, 4, 9, 10, 11, 5, 6, 7, 12] (by decide +kernel) rfl
          refine ms_iast hx hb hK hP hD hS 10 0 rfl rfl hw.1 dX10_build_154 (fun g56 H locs eg56 hP hD hS => ?_)
          have hw := hw.2 g56 eg56
          have hP : va_P G vwCl [(q_t, .inr (10, [.ref q_t_held, .ref q_t_pairs, .ref q_t_stepOf, .ref q_t_wholeOf, .ref q_t_next, .ref q_t_around, .ref q_t_plain, .ref q_t_slots, .int u49, .int u50, .int u51])), (q_t_held, .inr (1, [.ref q_t_held_one, .ref q_t_held_other, .int F_held_both])), (q_t_held_one, .inr (5, [.ref q_t_held_one_ways, .int F_held_one_states, .int F_held_one_marks, .int F_held_one_takes, .int F_held_one_changes])), (q_t_held_one_ways, .inl (cI, 18, .inl A_held_one_ways)), (q_t_held_other, .inr (5, [.ref q_t_held_other_ways, .int F_held_other_states, .int F_held_other_marks, .int F_held_other_takes, .int F_held_other_changes])), (q_t_held_other_ways, .inl (cI, 18, .inl A_held_other_ways)), (q_t_pairs, .inl (cI, 60, .inl u52)), (q_t_stepOf, .inl (cI, 60, .inl u53)), (q_t_wholeOf, .inl (cI, 60, .inl u54)), (q_t_next, .inl (cI, 3600, .inl A_next_87)), (q_t_around, .inl (cI, 240, .inl g56)), (q_t_plain, .inl (cI, 2, .inl g28)), (q_t_slots, .inl (cI, 256, .inl u55))] H := hP
          have hD : va_D A [(q_t, .inr (10, [.ref q_t_held, .ref q_t_pairs, .ref q_t_stepOf, .ref q_t_wholeOf, .ref q_t_next, .ref q_t_around, .ref q_t_plain, .ref q_t_slots, .int u49, .int u50, .int u51])), (q_t_held, .inr (1, [.ref q_t_held_one, .ref q_t_held_other, .int F_held_both])), (q_t_held_one, .inr (5, [.ref q_t_held_one_ways, .int F_held_one_states, .int F_held_one_marks, .int F_held_one_takes, .int F_held_one_changes])), (q_t_held_one_ways, .inl (cI, 18, .inl A_held_one_ways)), (q_t_held_other, .inr (5, [.ref q_t_held_other_ways, .int F_held_other_states, .int F_held_other_marks, .int F_held_other_takes, .int F_held_other_changes])), (q_t_held_other_ways, .inl (cI, 18, .inl A_held_other_ways)), (q_t_pairs, .inl (cI, 60, .inl u52)), (q_t_stepOf, .inl (cI, 60, .inl u53)), (q_t_wholeOf, .inl (cI, 60, .inl u54)), (q_t_next, .inl (cI, 3600, .inl A_next_87)), (q_t_around, .inl (cI, 240, .inl g56)), (q_t_plain, .inl (cI, 2, .inl g28)), (q_t_slots, .inl (cI, 256, .inl u55))] := hD
          obtain ⟨x57, ex57⟩ : ∃ y : Int32, y = i109_3 + (1 : Int32) := ⟨_, rfl⟩
          have hw := hw x57 ex57
          refine lv_iinc (v := x57) (lv' := [(3, .int x57), (4, .int r47), (0, .ref q_t), (1, .int i87_1), (2, .int F_steps_87)]) hx hb dX10_build_155 hl (k := 4) rfl (by rw [ex57]; rfl) (by decide) rfl (fun ls hl => ?_)
          refine lv_goto (tgt := 109) hx hb dX10_build_158 (by decide) ?_
          exact hw H locs hP hD hS ls (lv_sub hl [2, 3, 4, 0] rfl)
  · have hw := hw.2 c1
    refine lv_aload_n hx hb dX10_build_24 rfl (lv_at hl 0 rfl) ?_
    refine va_get (D := G) (ci := 10) (v := .ref q_t_slots) (C := RX10) (T := TX10) (N := 11) hx hb hts hkX10_build_X10 hown hK hP 0 rfl rfl 7 (by decide) (hts (.fieldLink RX10 30 "NestReaders$Wholes" "slots" "[I") hfX10_build_30) (fun _ h9 => h9) rfl dX10_build_25 ?_
    refine lv_iload_n hx hb dX10_build_28 rfl (lv_at hl 1 rfl) ?_
    refine lv_iconst (v := 0) hx hb dX10_build_29 (by decide) ?_
    refine ms_iast hx hb hK hP hD hS 12 0 rfl rfl hw.1 dX10_build_30 (fun g58 H locs eg58 hP hD hS => ?_)
    have hw := hw.2 g58 eg58
    have hP : va_P G vwCl [(q_t, .inr (10, [.ref q_t_held, .ref q_t_pairs, .ref q_t_stepOf, .ref q_t_wholeOf, .ref q_t_next, .ref q_t_around, .ref q_t_plain, .ref q_t_slots, .int (0 : Int32), .int (0 : Int32), .int (0 : Int32)])), (q_t_held, .inr (1, [.ref q_t_held_one, .ref q_t_held_other, .int F_held_both])), (q_t_held_one, .inr (5, [.ref q_t_held_one_ways, .int F_held_one_states, .int F_held_one_marks, .int F_held_one_takes, .int F_held_one_changes])), (q_t_held_one_ways, .inl (cI, 18, .inl A_held_one_ways)), (q_t_held_other, .inr (5, [.ref q_t_held_other_ways, .int F_held_other_states, .int F_held_other_marks, .int F_held_other_takes, .int F_held_other_changes])), (q_t_held_other_ways, .inl (cI, 18, .inl A_held_other_ways)), (q_t_pairs, .inl (cI, 60, .inl A_pairs)), (q_t_stepOf, .inl (cI, 60, .inl A_stepOf)), (q_t_wholeOf, .inl (cI, 60, .inl A_wholeOf)), (q_t_next, .inl (cI, 3600, .inl A_next)), (q_t_around, .inl (cI, 240, .inl A_around)), (q_t_plain, .inl (cI, 2, .inl A_plain)), (q_t_slots, .inl (cI, 256, .inl g58))] H := hP
    have hD : va_D A [(q_t, .inr (10, [.ref q_t_held, .ref q_t_pairs, .ref q_t_stepOf, .ref q_t_wholeOf, .ref q_t_next, .ref q_t_around, .ref q_t_plain, .ref q_t_slots, .int (0 : Int32), .int (0 : Int32), .int (0 : Int32)])), (q_t_held, .inr (1, [.ref q_t_held_one, .ref q_t_held_other, .int F_held_both])), (q_t_held_one, .inr (5, [.ref q_t_held_one_ways, .int F_held_one_states, .int F_held_one_marks, .int F_held_one_takes, .int F_held_one_changes])), (q_t_held_one_ways, .inl (cI, 18, .inl A_held_one_ways)), (q_t_held_other, .inr (5, [.ref q_t_held_other_ways, .int F_held_other_states, .int F_held_other_marks, .int F_held_other_takes, .int F_held_other_changes])), (q_t_held_other_ways, .inl (cI, 18, .inl A_held_other_ways)), (q_t_pairs, .inl (cI, 60, .inl A_pairs)), (q_t_stepOf, .inl (cI, 60, .inl A_stepOf)), (q_t_wholeOf, .inl (cI, 60, .inl A_wholeOf)), (q_t_next, .inl (cI, 3600, .inl A_next)), (q_t_around, .inl (cI, 240, .inl A_around)), (q_t_plain, .inl (cI, 2, .inl A_plain)), (q_t_slots, .inl (cI, 256, .inl g58))] := hD
    obtain ⟨x59, ex59⟩ : ∃ y : Int32, y = i17_1 + (1 : Int32) := ⟨_, rfl⟩
    have hw := hw x59 ex59
    refine lv_iinc (v := x59) (lv' := [(1, .int x59), (0, .ref q_t)]) hx hb dX10_build_31 hl (k := 1) rfl (by rw [ex59]; rfl) (by decide) rfl (fun ls hl => ?_)
    refine lv_goto (tgt := 17) hx hb dX10_build_34 (by decide) ?_
    exact hw H locs hP hD hS ls (lv_sub hl [1, 0] rfl)
set_option maxHeartbeats 4000000 in
set_option maxRecDepth 100000 in
theorem c_X10_build_S (l : Launch) (G : va_G) (cI cJ cZ : ClassId) (q_t q_t_held q_t_pairs q_t_stepOf q_t_wholeOf q_t_next q_t_around q_t_plain q_t_slots q_t_held_one q_t_held_one_ways : Nat) (sz : Nat) (F_size : Int32) (F_steps : Int32) (F_spent : Int32) (F_held_both : Int32) (F_held_one_states : Int32) (F_held_one_marks : Int32) (F_held_one_takes : Int32) (F_held_one_changes : Int32) (A_held_one_ways : Nat → Int32) (A_pairs : Nat → Int32) (A_stepOf : Nat → Int32) (A_wholeOf : Nat → Int32) (A_next : Nat → Int32) (A_around : Nat → Int32) (A_plain : Nat → Int32) (A_slots : Nat → Int32) {K : Int32 → Int32 → Int32 → (Nat → Int32) → (Nat → Int32) → (Nat → Int32) → (Nat → Int32) → (Nat → Int32) → (Nat → Int32) → (Nat → Int32) → Prop} (hw : wX10_build F_size F_steps F_spent F_held_both F_held_one_states F_held_one_marks A_held_one_ways F_held_one_states F_held_one_marks A_held_one_ways A_pairs A_stepOf A_wholeOf A_next A_around A_plain A_slots K) : Met l yX10_build wsX10_build rmX10_build (ms_Pz G (ms_T cI cJ cZ) [(q_t, .inr (10, [.ref q_t_held, .ref q_t_pairs, .ref q_t_stepOf, .ref q_t_wholeOf, .ref q_t_next, .ref q_t_around, .ref q_t_plain, .ref q_t_slots, .int F_size, .int F_steps, .int F_spent])), (q_t_held, .inr (1, [.ref q_t_held_one, .ref q_t_held_one, .int F_held_both])), (q_t_held_one, .inr (5, [.ref q_t_held_one_ways, .int F_held_one_states, .int F_held_one_marks, .int F_held_one_takes, .int F_held_one_changes])), (q_t_held_one_ways, .inl (cI, 18, .inl A_held_one_ways)), (q_t_pairs, .inl (cI, 60, .inl A_pairs)), (q_t_stepOf, .inl (cI, 60, .inl A_stepOf)), (q_t_wholeOf, .inl (cI, 60, .inl A_wholeOf)), (q_t_next, .inl (cI, 3600, .inl A_next)), (q_t_around, .inl (cI, 240, .inl A_around)), (q_t_plain, .inl (cI, 2, .inl A_plain)), (q_t_slots, .inl (cI, 256, .inl A_slots))] sz [.ref q_t]) (ms_Wv G (ms_T cI cJ cZ) (fun (u : Int32 × Int32 × Int32 × (Nat → Int32) × (Nat → Int32) × (Nat → Int32) × (Nat → Int32) × (Nat → Int32) × (Nat → Int32) × (Nat → Int32)) => K u.1 u.2.1 u.2.2.1 u.2.2.2.1 u.2.2.2.2.1 u.2.2.2.2.2.1 u.2.2.2.2.2.2.1 u.2.2.2.2.2.2.2.1 u.2.2.2.2.2.2.2.2.1 u.2.2.2.2.2.2.2.2.2) (fun u : Int32 × Int32 × Int32 × (Nat → Int32) × (Nat → Int32) × (Nat → Int32) × (Nat → Int32) × (Nat → Int32) × (Nat → Int32) × (Nat → Int32) => [(q_t, .inr (10, [.ref q_t_held, .ref q_t_pairs, .ref q_t_stepOf, .ref q_t_wholeOf, .ref q_t_next, .ref q_t_around, .ref q_t_plain, .ref q_t_slots, .int u.1, .int u.2.1, .int u.2.2.1])), (q_t_held, .inr (1, [.ref q_t_held_one, .ref q_t_held_one, .int F_held_both])), (q_t_held_one, .inr (5, [.ref q_t_held_one_ways, .int F_held_one_states, .int F_held_one_marks, .int F_held_one_takes, .int F_held_one_changes])), (q_t_held_one_ways, .inl (cI, 18, .inl A_held_one_ways)), (q_t_pairs, .inl (cI, 60, .inl u.2.2.2.1)), (q_t_stepOf, .inl (cI, 60, .inl u.2.2.2.2.1)), (q_t_wholeOf, .inl (cI, 60, .inl u.2.2.2.2.2.1)), (q_t_next, .inl (cI, 3600, .inl u.2.2.2.2.2.2.1)), (q_t_around, .inl (cI, 240, .inl u.2.2.2.2.2.2.2.1)), (q_t_plain, .inl (cI, 2, .inl u.2.2.2.2.2.2.2.2.1)), (q_t_slots, .inl (cI, 256, .inl u.2.2.2.2.2.2.2.2.2))]) (va_A [(q_t, .inr (10, [.ref q_t_held, .ref q_t_pairs, .ref q_t_stepOf, .ref q_t_wholeOf, .ref q_t_next, .ref q_t_around, .ref q_t_plain, .ref q_t_slots, .int F_size, .int F_steps, .int F_spent])), (q_t_held, .inr (1, [.ref q_t_held_one, .ref q_t_held_one, .int F_held_both])), (q_t_held_one, .inr (5, [.ref q_t_held_one_ways, .int F_held_one_states, .int F_held_one_marks, .int F_held_one_takes, .int F_held_one_changes])), (q_t_held_one_ways, .inl (cI, 18, .inl A_held_one_ways)), (q_t_pairs, .inl (cI, 60, .inl A_pairs)), (q_t_stepOf, .inl (cI, 60, .inl A_stepOf)), (q_t_wholeOf, .inl (cI, 60, .inl A_wholeOf)), (q_t_next, .inl (cI, 3600, .inl A_next)), (q_t_around, .inl (cI, 240, .inl A_around)), (q_t_plain, .inl (cI, 2, .inl A_plain)), (q_t_slots, .inl (cI, 256, .inl A_slots))] sz)) 0 0 (va_A [(q_t, .inr (10, [.ref q_t_held, .ref q_t_pairs, .ref q_t_stepOf, .ref q_t_wholeOf, .ref q_t_next, .ref q_t_around, .ref q_t_plain, .ref q_t_slots, .int F_size, .int F_steps, .int F_spent])), (q_t_held, .inr (1, [.ref q_t_held_one, .ref q_t_held_one, .int F_held_both])), (q_t_held_one, .inr (5, [.ref q_t_held_one_ways, .int F_held_one_states, .int F_held_one_marks, .int F_held_one_takes, .int F_held_one_changes])), (q_t_held_one_ways, .inl (cI, 18, .inl A_held_one_ways)), (q_t_pairs, .inl (cI, 60, .inl A_pairs)), (q_t_stepOf, .inl (cI, 60, .inl A_stepOf)), (q_t_wholeOf, .inl (cI, 60, .inl A_wholeOf)), (q_t_next, .inl (cI, 3600, .inl A_next)), (q_t_around, .inl (cI, 240, .inl A_around)), (q_t_plain, .inl (cI, 2, .inl A_plain)), (q_t_slots, .inl (cI, 256, .inl A_slots))] sz) := by
  refine ms_tv (cc := cX10_build) (maxL := 5) (by decide) rfl (Nat.le_of_ble_eq_true rfl) ?_
  intro p e s m args below meth c Q A hx hb hml hown hts hK hP hD hS hA hRet ls hl
  have hl : lv_has ls 5 [(0, .ref q_t)] := hl
  have hown : s.vm.findClass RX10 = some m.cls := hown
  refine lv_aload_n hx hb dX10_build_0 rfl (lv_at hl 0 rfl) ?_
  refine lv_iconst (v := 0) hx hb dX10_build_1 (by decide) ?_
  refine va_put (D := G) (ci := 10) (v := .int (0 : Int32)) (ty := .int) (C := RX10) (T := TX10) (N := 11) hx hb hts hkX10_build_X10 tyX10 tyX10_ok nmX10 hown hK hP hD hS 0 rfl rfl 8 (by decide) (hts (.fieldLink RX10 33 "NestReaders$Wholes" "size" "I") hfX10_build_33) (fun _ h9 => h9) rfl (by decide +kernel) rfl rfl (Nat.le_of_ble_eq_true rfl) dX10_build_2 (fun H locs hP hD hS => ?_)
  have hP : va_P G vwCl [(q_t, .inr (10, [.ref q_t_held, .ref q_t_pairs, .ref q_t_stepOf, .ref q_t_wholeOf, .ref q_t_next, .ref q_t_around, .ref q_t_plain, .ref q_t_slots, .int (0 : Int32), .int F_steps, .int F_spent])), (q_t_held, .inr (1, [.ref q_t_held_one, .ref q_t_held_one, .int F_held_both])), (q_t_held_one, .inr (5, [.ref q_t_held_one_ways, .int F_held_one_states, .int F_held_one_marks, .int F_held_one_takes, .int F_held_one_changes])), (q_t_held_one_ways, .inl (cI, 18, .inl A_held_one_ways)), (q_t_pairs, .inl (cI, 60, .inl A_pairs)), (q_t_stepOf, .inl (cI, 60, .inl A_stepOf)), (q_t_wholeOf, .inl (cI, 60, .inl A_wholeOf)), (q_t_next, .inl (cI, 3600, .inl A_next)), (q_t_around, .inl (cI, 240, .inl A_around)), (q_t_plain, .inl (cI, 2, .inl A_plain)), (q_t_slots, .inl (cI, 256, .inl A_slots))] H := hP
  have hD : va_D A [(q_t, .inr (10, [.ref q_t_held, .ref q_t_pairs, .ref q_t_stepOf, .ref q_t_wholeOf, .ref q_t_next, .ref q_t_around, .ref q_t_plain, .ref q_t_slots, .int (0 : Int32), .int F_steps, .int F_spent])), (q_t_held, .inr (1, [.ref q_t_held_one, .ref q_t_held_one, .int F_held_both])), (q_t_held_one, .inr (5, [.ref q_t_held_one_ways, .int F_held_one_states, .int F_held_one_marks, .int F_held_one_takes, .int F_held_one_changes])), (q_t_held_one_ways, .inl (cI, 18, .inl A_held_one_ways)), (q_t_pairs, .inl (cI, 60, .inl A_pairs)), (q_t_stepOf, .inl (cI, 60, .inl A_stepOf)), (q_t_wholeOf, .inl (cI, 60, .inl A_wholeOf)), (q_t_next, .inl (cI, 3600, .inl A_next)), (q_t_around, .inl (cI, 240, .inl A_around)), (q_t_plain, .inl (cI, 2, .inl A_plain)), (q_t_slots, .inl (cI, 256, .inl A_slots))] := hD
  refine lv_aload_n hx hb dX10_build_5 rfl (lv_at hl 0 rfl) ?_
  refine lv_iconst (v := 0) hx hb dX10_build_6 (by decide) ?_
  refine va_put (D := G) (ci := 10) (v := .int (0 : Int32)) (ty := .int) (C := RX10) (T := TX10) (N := 11) hx hb hts hkX10_build_X10 tyX10 tyX10_ok nmX10 hown hK hP hD hS 0 rfl rfl 9 (by decide) (hts (.fieldLink RX10 37 "NestReaders$Wholes" "steps" "I") hfX10_build_37) (fun _ h9 => h9) rfl (by decide +kernel) rfl rfl (Nat.le_of_ble_eq_true rfl) dX10_build_7 (fun H locs hP hD hS => ?_)
  have hP : va_P G vwCl [(q_t, .inr (10, [.ref q_t_held, .ref q_t_pairs, .ref q_t_stepOf, .ref q_t_wholeOf, .ref q_t_next, .ref q_t_around, .ref q_t_plain, .ref q_t_slots, .int (0 : Int32), .int (0 : Int32), .int F_spent])), (q_t_held, .inr (1, [.ref q_t_held_one, .ref q_t_held_one, .int F_held_both])), (q_t_held_one, .inr (5, [.ref q_t_held_one_ways, .int F_held_one_states, .int F_held_one_marks, .int F_held_one_takes, .int F_held_one_changes])), (q_t_held_one_ways, .inl (cI, 18, .inl A_held_one_ways)), (q_t_pairs, .inl (cI, 60, .inl A_pairs)), (q_t_stepOf, .inl (cI, 60, .inl A_stepOf)), (q_t_wholeOf, .inl (cI, 60, .inl A_wholeOf)), (q_t_next, .inl (cI, 3600, .inl A_next)), (q_t_around, .inl (cI, 240, .inl A_around)), (q_t_plain, .inl (cI, 2, .inl A_plain)), (q_t_slots, .inl (cI, 256, .inl A_slots))] H := hP
  have hD : va_D A [(q_t, .inr (10, [.ref q_t_held, .ref q_t_pairs, .ref q_t_stepOf, .ref q_t_wholeOf, .ref q_t_next, .ref q_t_around, .ref q_t_plain, .ref q_t_slots, .int (0 : Int32), .int (0 : Int32), .int F_spent])), (q_t_held, .inr (1, [.ref q_t_held_one, .ref q_t_held_one, .int F_held_both])), (q_t_held_one, .inr (5, [.ref q_t_held_one_ways, .int F_held_one_states, .int F_held_one_marks, .int F_held_one_takes, .int F_held_one_changes])), (q_t_held_one_ways, .inl (cI, 18, .inl A_held_one_ways)), (q_t_pairs, .inl (cI, 60, .inl A_pairs)), (q_t_stepOf, .inl (cI, 60, .inl A_stepOf)), (q_t_wholeOf, .inl (cI, 60, .inl A_wholeOf)), (q_t_next, .inl (cI, 3600, .inl A_next)), (q_t_around, .inl (cI, 240, .inl A_around)), (q_t_plain, .inl (cI, 2, .inl A_plain)), (q_t_slots, .inl (cI, 256, .inl A_slots))] := hD
  refine lv_aload_n hx hb dX10_build_10 rfl (lv_at hl 0 rfl) ?_
  refine lv_iconst (v := 0) hx hb dX10_build_11 (by decide) ?_
  refine va_put (D := G) (ci := 10) (v := .int (0 : Int32)) (ty := .boolean) (C := RX10) (T := TX10) (N := 11) hx hb hts hkX10_build_X10 tyX10 tyX10_ok nmX10 hown hK hP hD hS 0 rfl rfl 10 (by decide) (hts (.fieldLink RX10 40 "NestReaders$Wholes" "spent" "Z") hfX10_build_40) (fun _ h9 => h9) rfl (by decide +kernel) ms_z0 (ms_zfit ms_z0) (Nat.le_of_ble_eq_true rfl) dX10_build_12 (fun H locs hP hD hS => ?_)
  have hP : va_P G vwCl [(q_t, .inr (10, [.ref q_t_held, .ref q_t_pairs, .ref q_t_stepOf, .ref q_t_wholeOf, .ref q_t_next, .ref q_t_around, .ref q_t_plain, .ref q_t_slots, .int (0 : Int32), .int (0 : Int32), .int (0 : Int32)])), (q_t_held, .inr (1, [.ref q_t_held_one, .ref q_t_held_one, .int F_held_both])), (q_t_held_one, .inr (5, [.ref q_t_held_one_ways, .int F_held_one_states, .int F_held_one_marks, .int F_held_one_takes, .int F_held_one_changes])), (q_t_held_one_ways, .inl (cI, 18, .inl A_held_one_ways)), (q_t_pairs, .inl (cI, 60, .inl A_pairs)), (q_t_stepOf, .inl (cI, 60, .inl A_stepOf)), (q_t_wholeOf, .inl (cI, 60, .inl A_wholeOf)), (q_t_next, .inl (cI, 3600, .inl A_next)), (q_t_around, .inl (cI, 240, .inl A_around)), (q_t_plain, .inl (cI, 2, .inl A_plain)), (q_t_slots, .inl (cI, 256, .inl A_slots))] H := hP
  have hD : va_D A [(q_t, .inr (10, [.ref q_t_held, .ref q_t_pairs, .ref q_t_stepOf, .ref q_t_wholeOf, .ref q_t_next, .ref q_t_around, .ref q_t_plain, .ref q_t_slots, .int (0 : Int32), .int (0 : Int32), .int (0 : Int32)])), (q_t_held, .inr (1, [.ref q_t_held_one, .ref q_t_held_one, .int F_held_both])), (q_t_held_one, .inr (5, [.ref q_t_held_one_ways, .int F_held_one_states, .int F_held_one_marks, .int F_held_one_takes, .int F_held_one_changes])), (q_t_held_one_ways, .inl (cI, 18, .inl A_held_one_ways)), (q_t_pairs, .inl (cI, 60, .inl A_pairs)), (q_t_stepOf, .inl (cI, 60, .inl A_stepOf)), (q_t_wholeOf, .inl (cI, 60, .inl A_wholeOf)), (q_t_next, .inl (cI, 3600, .inl A_next)), (q_t_around, .inl (cI, 240, .inl A_around)), (q_t_plain, .inl (cI, 2, .inl A_plain)), (q_t_slots, .inl (cI, 256, .inl A_slots))] := hD
  refine lv_iconst (v := 0) hx hb dX10_build_15 (by decide) ?_
  refine lv_istore_n (lv' := [(1, .int (0 : Int32)), (0, .ref q_t)]) hx hb dX10_build_16 rfl hl (by decide) rfl (fun ls hl => ?_)
  refine hw (fun i17_1 A_slots_17 => ∀ (H : Heap) (locs : List Loc), va_P G vwCl [(q_t, .inr (10, [.ref q_t_held, .ref q_t_pairs, .ref q_t_stepOf, .ref q_t_wholeOf, .ref q_t_next, .ref q_t_around, .ref q_t_plain, .ref q_t_slots, .int (0 : Int32), .int (0 : Int32), .int (0 : Int32)])), (q_t_held, .inr (1, [.ref q_t_held_one, .ref q_t_held_one, .int F_held_both])), (q_t_held_one, .inr (5, [.ref q_t_held_one_ways, .int F_held_one_states, .int F_held_one_marks, .int F_held_one_takes, .int F_held_one_changes])), (q_t_held_one_ways, .inl (cI, 18, .inl A_held_one_ways)), (q_t_pairs, .inl (cI, 60, .inl A_pairs)), (q_t_stepOf, .inl (cI, 60, .inl A_stepOf)), (q_t_wholeOf, .inl (cI, 60, .inl A_wholeOf)), (q_t_next, .inl (cI, 3600, .inl A_next)), (q_t_around, .inl (cI, 240, .inl A_around)), (q_t_plain, .inl (cI, 2, .inl A_plain)), (q_t_slots, .inl (cI, 256, .inl A_slots_17))] H → va_D A [(q_t, .inr (10, [.ref q_t_held, .ref q_t_pairs, .ref q_t_stepOf, .ref q_t_wholeOf, .ref q_t_next, .ref q_t_around, .ref q_t_plain, .ref q_t_slots, .int (0 : Int32), .int (0 : Int32), .int (0 : Int32)])), (q_t_held, .inr (1, [.ref q_t_held_one, .ref q_t_held_one, .int F_held_both])), (q_t_held_one, .inr (5, [.ref q_t_held_one_ways, .int F_held_one_states, .int F_held_one_marks, .int F_held_one_takes, .int F_held_one_changes])), (q_t_held_one_ways, .inl (cI, 18, .inl A_held_one_ways)), (q_t_pairs, .inl (cI, 60, .inl A_pairs)), (q_t_stepOf, .inl (cI, 60, .inl A_stepOf)), (q_t_wholeOf, .inl (cI, 60, .inl A_wholeOf)), (q_t_next, .inl (cI, 3600, .inl A_next)), (q_t_around, .inl (cI, 240, .inl A_around)), (q_t_plain, .inl (cI, 2, .inl A_plain)), (q_t_slots, .inl (cI, 256, .inl A_slots_17))] → va_S A s.heap H locs → ∀ ls : Array Slot, lv_has ls 5 [(0, .ref q_t), (1, .int i17_1)] → W p l e rmX10_build s m args below meth c H locs 0 0 Q (F0 m 17 ls [])) (fun i17_1 A_slots_17 hw H locs hP hD hS ls hl => ?_) H locs hP hD hS ls (lv_sub hl [1, 0] rfl)
  refine lv_iload_n hx hb dX10_build_17 rfl (lv_at hl 1 rfl) ?_
  refine lv_sipush (v := (256)) hx hb dX10_build_18 (by decide) ?_
  refine lv_icmp_ge (tgt := 37) hx hb dX10_build_21 (by decide) (fun c1 => ?_) (fun c1 => ?_)
  · have hw := hw.1 c1
    refine lv_aload_n hx hb dX10_build_37 rfl (lv_at hl 0 rfl) ?_
    refine lv_aload_n hx hb dX10_build_38 rfl (lv_at hl 0 rfl) ?_
    refine va_get (D := G) (ci := 10) (v := .ref q_t_held) (C := RX10) (T := TX10) (N := 11) hx hb hts hkX10_build_X10 hown hK hP 0 rfl rfl 0 (by decide) (hts (.fieldLink RX10 44 "NestReaders$Wholes" "held" "LNestReaders$Held;") hfX10_build_44) (fun _ h9 => h9) rfl dX10_build_39 ?_
    refine ms_cVi ⟨hx, hb, hml, hown, hts⟩ hK hP hD (c_X1_identity_S l G cI cJ cZ q_t_held q_t_held_one q_t_held_one_ways F_held_both F_held_one_states F_held_one_marks F_held_one_takes F_held_one_changes hw) gX10_build_X1_identity rfl nd_X1_identity (ci := 1) rfl rfl rfl ⟨rfl, rfl⟩ rfl ⟨Nat.le_of_ble_eq_true rfl, Nat.le_of_ble_eq_true rfl⟩ hl.1 (rest := [.ref q_t]) rfl (Nat.le_of_ble_eq_true rfl)  [1, 2] rfl rfl dX10_build_42 (fun r2 hw => ?_)
    refine ms_mVi (wr := [(q_t_held, .inr (1, [.ref q_t_held_one, .ref q_t_held_one, .int F_held_both])), (q_t_held_one, .inr (5, [.ref q_t_held_one_ways, .int F_held_one_states, .int F_held_one_marks, .int F_held_one_takes, .int F_held_one_changes])), (q_t_held_one_ways, .inl (cI, 18, .inl A_held_one_ways)), (q_t_wholeOf, .inl (cI, 60, .inl A_wholeOf)), (q_t_next, .inl (cI, 3600, .inl A_next)), (q_t_around, .inl (cI, 240, .inl A_around)), (q_t_plain, .inl (cI, 2, .inl A_plain))]) ⟨hx, hb, hml, hown, hts⟩ hK hP hD (c_X10_numberOf l G cI cJ cZ q_t q_t_held q_t_pairs q_t_stepOf q_t_wholeOf q_t_next q_t_around q_t_plain q_t_slots H.size (0 : Int32) (0 : Int32) (0 : Int32) A_pairs A_stepOf A_slots_17 r2 hw) gX10_build_X10_numberOf rfl nd_X10_numberOf (ci := 10) rfl rfl rfl ⟨rfl, rfl⟩ rfl ⟨Nat.le_of_ble_eq_true rfl, Nat.le_of_ble_eq_true rfl⟩ hl.1 (rest := []) rfl (Nat.le_of_ble_eq_true rfl)  hS hA [0, 4, 5, 10] [1, 2, 3, 6, 7, 8, 9] rfl rfl rfl (by decide) rfl dX10_build_45 (fun r3 u H locs hw hP hD hS => ?_)
    obtain ⟨u4, u5, u6, u7, u8⟩ := u
    obtain ⟨hP, hD⟩ : ms_PD G A [(q_t, .inr (10, [.ref q_t_held, .ref q_t_pairs, .ref q_t_stepOf, .ref q_t_wholeOf, .ref q_t_next, .ref q_t_around, .ref q_t_plain, .ref q_t_slots, .int u4, .int (0 : Int32), .int u5])), (q_t_held, .inr (1, [.ref q_t_held_one, .ref q_t_held_one, .int F_held_both])), (q_t_held_one, .inr (5, [.ref q_t_held_one_ways, .int F_held_one_states, .int F_held_one_marks, .int F_held_one_takes, .int F_held_one_changes])), (q_t_held_one_ways, .inl (cI, 18, .inl A_held_one_ways)), (q_t_pairs, .inl (cI, 60, .inl u6)), (q_t_stepOf, .inl (cI, 60, .inl u7)), (q_t_wholeOf, .inl (cI, 60, .inl A_wholeOf)), (q_t_next, .inl (cI, 3600, .inl A_next)), (q_t_around, .inl (cI, 240, .inl A_around)), (q_t_plain, .inl (cI, 2, .inl A_plain)), (q_t_slots, .inl (cI, 256, .inl u8))] H := ms_PDsub hP hD [7, 0, 1, 2, 8, 9, 3, 4, 5, 6, 10] (by decide +kernel) rfl
    refine lv_pop hx hb dX10_build_48 rfl ?_
    refine lv_aload_n hx hb dX10_build_49 rfl (lv_at hl 0 rfl) ?_
    refine va_get (D := G) (ci := 10) (v := .ref q_t_plain) (C := RX10) (T := TX10) (N := 11) hx hb hts hkX10_build_X10 hown hK hP 0 rfl rfl 6 (by decide) (hts (.fieldLink RX10 27 "NestReaders$Wholes" "plain" "[I") hfX10_build_27) (fun _ h9 => h9) rfl dX10_build_50 ?_
    refine lv_iconst (v := 0) hx hb dX10_build_53 (by decide) ?_
    refine lv_aload_n hx hb dX10_build_54 rfl (lv_at hl 0 rfl) ?_
    refine lv_aload_n hx hb dX10_build_55 rfl (lv_at hl 0 rfl) ?_
    refine va_get (D := G) (ci := 10) (v := .ref q_t_held) (C := RX10) (T := TX10) (N := 11) hx hb hts hkX10_build_X10 hown hK hP 0 rfl rfl 0 (by decide) (hts (.fieldLink RX10 44 "NestReaders$Wholes" "held" "LNestReaders$Held;") hfX10_build_44) (fun _ h9 => h9) rfl dX10_build_56 ?_
    refine lv_iconst (v := 2) hx hb dX10_build_59 (by decide) ?_
    refine ms_cVi ⟨hx, hb, hml, hown, hts⟩ hK hP hD (c_X1_plain_S l G cI cJ cZ q_t_held q_t_held_one q_t_held_one_ways F_held_both F_held_one_states F_held_one_marks F_held_one_takes F_held_one_changes A_held_one_ways (2 : Int32) hw) gX10_build_X1_plain rfl nd_X1_plain (ci := 1) rfl rfl rfl ⟨rfl, rfl⟩ rfl ⟨Nat.le_of_ble_eq_true rfl, Nat.le_of_ble_eq_true rfl⟩ hl.1 (rest := [.ref q_t, .int (0 : Int32), .ref q_t_plain]) rfl (Nat.le_of_ble_eq_true rfl)  [1, 2, 3] rfl rfl dX10_build_60 (fun r9 hw => ?_)
    refine ms_mVi (wr := [(q_t_held, .inr (1, [.ref q_t_held_one, .ref q_t_held_one, .int F_held_both])), (q_t_held_one, .inr (5, [.ref q_t_held_one_ways, .int F_held_one_states, .int F_held_one_marks, .int F_held_one_takes, .int F_held_one_changes])), (q_t_held_one_ways, .inl (cI, 18, .inl A_held_one_ways)), (q_t_next, .inl (cI, 3600, .inl A_next)), (q_t_around, .inl (cI, 240, .inl A_around)), (q_t_plain, .inl (cI, 2, .inl A_plain))]) ⟨hx, hb, hml, hown, hts⟩ hK hP hD (c_X10_stepFor l G cI cJ cZ q_t q_t_held q_t_pairs q_t_stepOf q_t_wholeOf q_t_next q_t_around q_t_plain q_t_slots H.size u4 (0 : Int32) u5 u6 u7 A_wholeOf u8 r9 hw) gX10_build_X10_stepFor rfl nd_X10_stepFor (ci := 10) rfl rfl rfl ⟨rfl, rfl⟩ rfl ⟨Nat.le_of_ble_eq_true rfl, Nat.le_of_ble_eq_true rfl⟩ hl.1 (rest := [.int (0 : Int32), .ref q_t_plain]) rfl (Nat.le_of_ble_eq_true rfl)  hS hA [0, 4, 5, 6, 10] [1, 2, 3, 7, 8, 9] rfl rfl rfl (by decide) rfl dX10_build_63 (fun r10 u H locs hw hP hD hS => ?_)
    obtain ⟨u11, u12, u13, u14, u15, u16, u17⟩ := u
    obtain ⟨hP, hD⟩ : ms_PD G A [(q_t, .inr (10, [.ref q_t_held, .ref q_t_pairs, .ref q_t_stepOf, .ref q_t_wholeOf, .ref q_t_next, .ref q_t_around, .ref q_t_plain, .ref q_t_slots, .int u11, .int u12, .int u13])), (q_t_held, .inr (1, [.ref q_t_held_one, .ref q_t_held_one, .int F_held_both])), (q_t_held_one, .inr (5, [.ref q_t_held_one_ways, .int F_held_one_states, .int F_held_one_marks, .int F_held_one_takes, .int F_held_one_changes])), (q_t_held_one_ways, .inl (cI, 18, .inl A_held_one_ways)), (q_t_pairs, .inl (cI, 60, .inl u14)), (q_t_stepOf, .inl (cI, 60, .inl u15)), (q_t_wholeOf, .inl (cI, 60, .inl u16)), (q_t_next, .inl (cI, 3600, .inl A_next)), (q_t_around, .inl (cI, 240, .inl A_around)), (q_t_plain, .inl (cI, 2, .inl A_plain)), (q_t_slots, .inl (cI, 256, .inl u17))] H := ms_PDsub hP hD [6, 0, 1, 2, 7, 8, 9, 3, 4, 5, 10] (by decide +kernel) rfl
    refine ms_iast hx hb hK hP hD hS 9 0 rfl rfl hw.1 dX10_build_66 (fun g18 H locs eg18 hP hD hS => ?_)
    have hw := hw.2 g18 eg18
    have hP : va_P G vwCl [(q_t, .inr (10, [.ref q_t_held, .ref q_t_pairs, .ref q_t_stepOf, .ref q_t_wholeOf, .ref q_t_next, .ref q_t_around, .ref q_t_plain, .ref q_t_slots, .int u11, .int u12, .int u13])), (q_t_held, .inr (1, [.ref q_t_held_one, .ref q_t_held_one, .int F_held_both])), (q_t_held_one, .inr (5, [.ref q_t_held_one_ways, .int F_held_one_states, .int F_held_one_marks, .int F_held_one_takes, .int F_held_one_changes])), (q_t_held_one_ways, .inl (cI, 18, .inl A_held_one_ways)), (q_t_pairs, .inl (cI, 60, .inl u14)), (q_t_stepOf, .inl (cI, 60, .inl u15)), (q_t_wholeOf, .inl (cI, 60, .inl u16)), (q_t_next, .inl (cI, 3600, .inl A_next)), (q_t_around, .inl (cI, 240, .inl A_around)), (q_t_plain, .inl (cI, 2, .inl g18)), (q_t_slots, .inl (cI, 256, .inl u17))] H := hP
    have hD : va_D A [(q_t, .inr (10, [.ref q_t_held, .ref q_t_pairs, .ref q_t_stepOf, .ref q_t_wholeOf, .ref q_t_next, .ref q_t_around, .ref q_t_plain, .ref q_t_slots, .int u11, .int u12, .int u13])), (q_t_held, .inr (1, [.ref q_t_held_one, .ref q_t_held_one, .int F_held_both])), (q_t_held_one, .inr (5, [.ref q_t_held_one_ways, .int F_held_one_states, .int F_held_one_marks, .int F_held_one_takes, .int F_held_one_changes])), (q_t_held_one_ways, .inl (cI, 18, .inl A_held_one_ways)), (q_t_pairs, .inl (cI, 60, .inl u14)), (q_t_stepOf, .inl (cI, 60, .inl u15)), (q_t_wholeOf, .inl (cI, 60, .inl u16)), (q_t_next, .inl (cI, 3600, .inl A_next)), (q_t_around, .inl (cI, 240, .inl A_around)), (q_t_plain, .inl (cI, 2, .inl g18)), (q_t_slots, .inl (cI, 256, .inl u17))] := hD
    refine lv_aload_n hx hb dX10_build_67 rfl (lv_at hl 0 rfl) ?_
    refine va_get (D := G) (ci := 10) (v := .ref q_t_plain) (C := RX10) (T := TX10) (N := 11) hx hb hts hkX10_build_X10 hown hK hP 0 rfl rfl 6 (by decide) (hts (.fieldLink RX10 27 "NestReaders$Wholes" "plain" "[I") hfX10_build_27) (fun _ h9 => h9) rfl dX10_build_68 ?_
    refine lv_iconst (v := 1) hx hb dX10_build_71 (by decide) ?_
    refine lv_aload_n hx hb dX10_build_72 rfl (lv_at hl 0 rfl) ?_
    refine lv_aload_n hx hb dX10_build_73 rfl (lv_at hl 0 rfl) ?_
    refine va_get (D := G) (ci := 10) (v := .ref q_t_held) (C := RX10) (T := TX10) (N := 11) hx hb hts hkX10_build_X10 hown hK hP 0 rfl rfl 0 (by decide) (hts (.fieldLink RX10 44 "NestReaders$Wholes" "held" "LNestReaders$Held;") hfX10_build_44) (fun _ h9 => h9) rfl dX10_build_74 ?_
    refine lv_iconst (v := 3) hx hb dX10_build_77 (by decide) ?_
    refine ms_cVi ⟨hx, hb, hml, hown, hts⟩ hK hP hD (c_X1_plain_S l G cI cJ cZ q_t_held q_t_held_one q_t_held_one_ways F_held_both F_held_one_states F_held_one_marks F_held_one_takes F_held_one_changes A_held_one_ways (3 : Int32) hw) gX10_build_X1_plain rfl nd_X1_plain (ci := 1) rfl rfl rfl ⟨rfl, rfl⟩ rfl ⟨Nat.le_of_ble_eq_true rfl, Nat.le_of_ble_eq_true rfl⟩ hl.1 (rest := [.ref q_t, .int (1 : Int32), .ref q_t_plain]) rfl (Nat.le_of_ble_eq_true rfl)  [1, 2, 3] rfl rfl dX10_build_78 (fun r19 hw => ?_)
    refine ms_mVi (wr := [(q_t_held, .inr (1, [.ref q_t_held_one, .ref q_t_held_one, .int F_held_both])), (q_t_held_one, .inr (5, [.ref q_t_held_one_ways, .int F_held_one_states, .int F_held_one_marks, .int F_held_one_takes, .int F_held_one_changes])), (q_t_held_one_ways, .inl (cI, 18, .inl A_held_one_ways)), (q_t_next, .inl (cI, 3600, .inl A_next)), (q_t_around, .inl (cI, 240, .inl A_around)), (q_t_plain, .inl (cI, 2, .inl g18))]) ⟨hx, hb, hml, hown, hts⟩ hK hP hD (c_X10_stepFor l G cI cJ cZ q_t q_t_held q_t_pairs q_t_stepOf q_t_wholeOf q_t_next q_t_around q_t_plain q_t_slots H.size u11 u12 u13 u14 u15 u16 u17 r19 hw) gX10_build_X10_stepFor rfl nd_X10_stepFor (ci := 10) rfl rfl rfl ⟨rfl, rfl⟩ rfl ⟨Nat.le_of_ble_eq_true rfl, Nat.le_of_ble_eq_true rfl⟩ hl.1 (rest := [.int (1 : Int32), .ref q_t_plain]) rfl (Nat.le_of_ble_eq_true rfl)  hS hA [0, 4, 5, 6, 10] [1, 2, 3, 7, 8, 9] rfl rfl rfl (by decide) rfl dX10_build_81 (fun r20 u H locs hw hP hD hS => ?_)
    obtain ⟨u21, u22, u23, u24, u25, u26, u27⟩ := u
    obtain ⟨hP, hD⟩ : ms_PD G A [(q_t, .inr (10, [.ref q_t_held, .ref q_t_pairs, .ref q_t_stepOf, .ref q_t_wholeOf, .ref q_t_next, .ref q_t_around, .ref q_t_plain, .ref q_t_slots, .int u21, .int u22, .int u23])), (q_t_held, .inr (1, [.ref q_t_held_one, .ref q_t_held_one, .int F_held_both])), (q_t_held_one, .inr (5, [.ref q_t_held_one_ways, .int F_held_one_states, .int F_held_one_marks, .int F_held_one_takes, .int F_held_one_changes])), (q_t_held_one_ways, .inl (cI, 18, .inl A_held_one_ways)), (q_t_pairs, .inl (cI, 60, .inl u24)), (q_t_stepOf, .inl (cI, 60, .inl u25)), (q_t_wholeOf, .inl (cI, 60, .inl u26)), (q_t_next, .inl (cI, 3600, .inl A_next)), (q_t_around, .inl (cI, 240, .inl A_around)), (q_t_plain, .inl (cI, 2, .inl g18)), (q_t_slots, .inl (cI, 256, .inl u27))] H := ms_PDsub hP hD [6, 0, 1, 2, 7, 8, 9, 3, 4, 5, 10] (by decide +kernel) rfl
    refine ms_iast hx hb hK hP hD hS 9 0 rfl rfl hw.1 dX10_build_84 (fun g28 H locs eg28 hP hD hS => ?_)
    have hw := hw.2 g28 eg28
    have hP : va_P G vwCl [(q_t, .inr (10, [.ref q_t_held, .ref q_t_pairs, .ref q_t_stepOf, .ref q_t_wholeOf, .ref q_t_next, .ref q_t_around, .ref q_t_plain, .ref q_t_slots, .int u21, .int u22, .int u23])), (q_t_held, .inr (1, [.ref q_t_held_one, .ref q_t_held_one, .int F_held_both])), (q_t_held_one, .inr (5, [.ref q_t_held_one_ways, .int F_held_one_states, .int F_held_one_marks, .int F_held_one_takes, .int F_held_one_changes])), (q_t_held_one_ways, .inl (cI, 18, .inl A_held_one_ways)), (q_t_pairs, .inl (cI, 60, .inl u24)), (q_t_stepOf, .inl (cI, 60, .inl u25)), (q_t_wholeOf, .inl (cI, 60, .inl u26)), (q_t_next, .inl (cI, 3600, .inl A_next)), (q_t_around, .inl (cI, 240, .inl A_around)), (q_t_plain, .inl (cI, 2, .inl g28)), (q_t_slots, .inl (cI, 256, .inl u27))] H := hP
    have hD : va_D A [(q_t, .inr (10, [.ref q_t_held, .ref q_t_pairs, .ref q_t_stepOf, .ref q_t_wholeOf, .ref q_t_next, .ref q_t_around, .ref q_t_plain, .ref q_t_slots, .int u21, .int u22, .int u23])), (q_t_held, .inr (1, [.ref q_t_held_one, .ref q_t_held_one, .int F_held_both])), (q_t_held_one, .inr (5, [.ref q_t_held_one_ways, .int F_held_one_states, .int F_held_one_marks, .int F_held_one_takes, .int F_held_one_changes])), (q_t_held_one_ways, .inl (cI, 18, .inl A_held_one_ways)), (q_t_pairs, .inl (cI, 60, .inl u24)), (q_t_stepOf, .inl (cI, 60, .inl u25)), (q_t_wholeOf, .inl (cI, 60, .inl u26)), (q_t_next, .inl (cI, 3600, .inl A_next)), (q_t_around, .inl (cI, 240, .inl A_around)), (q_t_plain, .inl (cI, 2, .inl g28)), (q_t_slots, .inl (cI, 256, .inl u27))] := hD
    refine lv_iconst (v := 0) hx hb dX10_build_85 (by decide) ?_
    refine lv_istore_n (lv' := [(1, .int (0 : Int32)), (0, .ref q_t)]) hx hb dX10_build_86 rfl hl (by decide) rfl (fun ls hl => ?_)
    have hw := hw (fun i87_1 F_size_87 F_steps_87 F_spent_87 A_pairs_87 A_stepOf_87 A_wholeOf_87 A_next_87 A_around_87 A_slots_87 => ∀ (H : Heap) (locs : List Loc), va_P G vwCl [(q_t, .inr (10, [.ref q_t_held, .ref q_t_pairs, .ref q_t_stepOf, .ref q_t_wholeOf, .ref q_t_next, .ref q_t_around, .ref q_t_plain, .ref q_t_slots, .int F_size_87, .int F_steps_87, .int F_spent_87])), (q_t_held, .inr (1, [.ref q_t_held_one, .ref q_t_held_one, .int F_held_both])), (q_t_held_one, .inr (5, [.ref q_t_held_one_ways, .int F_held_one_states, .int F_held_one_marks, .int F_held_one_takes, .int F_held_one_changes])), (q_t_held_one_ways, .inl (cI, 18, .inl A_held_one_ways)), (q_t_pairs, .inl (cI, 60, .inl A_pairs_87)), (q_t_stepOf, .inl (cI, 60, .inl A_stepOf_87)), (q_t_wholeOf, .inl (cI, 60, .inl A_wholeOf_87)), (q_t_next, .inl (cI, 3600, .inl A_next_87)), (q_t_around, .inl (cI, 240, .inl A_around_87)), (q_t_plain, .inl (cI, 2, .inl g28)), (q_t_slots, .inl (cI, 256, .inl A_slots_87))] H → va_D A [(q_t, .inr (10, [.ref q_t_held, .ref q_t_pairs, .ref q_t_stepOf, .ref q_t_wholeOf, .ref q_t_next, .ref q_t_around, .ref q_t_plain, .ref q_t_slots, .int F_size_87, .int F_steps_87, .int F_spent_87])), (q_t_held, .inr (1, [.ref q_t_held_one, .ref q_t_held_one, .int F_held_both])), (q_t_held_one, .inr (5, [.ref q_t_held_one_ways, .int F_held_one_states, .int F_held_one_marks, .int F_held_one_takes, .int F_held_one_changes])), (q_t_held_one_ways, .inl (cI, 18, .inl A_held_one_ways)), (q_t_pairs, .inl (cI, 60, .inl A_pairs_87)), (q_t_stepOf, .inl (cI, 60, .inl A_stepOf_87)), (q_t_wholeOf, .inl (cI, 60, .inl A_wholeOf_87)), (q_t_next, .inl (cI, 3600, .inl A_next_87)), (q_t_around, .inl (cI, 240, .inl A_around_87)), (q_t_plain, .inl (cI, 2, .inl g28)), (q_t_slots, .inl (cI, 256, .inl A_slots_87))] → va_S A s.heap H locs → ∀ ls : Array Slot, lv_has ls 5 [] → W p l e rmX10_build s m args below meth c H locs 0 0 Q (F0 m 192 ls [])) (fun i87_1 F_size_87 F_steps_87 F_spent_87 A_pairs_87 A_stepOf_87 A_wholeOf_87 A_next_87 A_around_87 A_slots_87 hw H locs hP hD hS ls hl => by
      exact hRet ⟨F_size_87, F_steps_87, F_spent_87, A_pairs_87, A_stepOf_87, A_wholeOf_87, A_next_87, A_around_87, g28, A_slots_87⟩ H locs _ _ hw hP hD hS dX10_build_192
      )
    refine hw (fun i87_1 F_size_87 F_steps_87 F_spent_87 A_pairs_87 A_stepOf_87 A_wholeOf_87 A_next_87 A_around_87 A_slots_87 => ∀ (H : Heap) (locs : List Loc), va_P G vwCl [(q_t, .inr (10, [.ref q_t_held, .ref q_t_pairs, .ref q_t_stepOf, .ref q_t_wholeOf, .ref q_t_next, .ref q_t_around, .ref q_t_plain, .ref q_t_slots, .int F_size_87, .int F_steps_87, .int F_spent_87])), (q_t_held, .inr (1, [.ref q_t_held_one, .ref q_t_held_one, .int F_held_both])), (q_t_held_one, .inr (5, [.ref q_t_held_one_ways, .int F_held_one_states, .int F_held_one_marks, .int F_held_one_takes, .int F_held_one_changes])), (q_t_held_one_ways, .inl (cI, 18, .inl A_held_one_ways)), (q_t_pairs, .inl (cI, 60, .inl A_pairs_87)), (q_t_stepOf, .inl (cI, 60, .inl A_stepOf_87)), (q_t_wholeOf, .inl (cI, 60, .inl A_wholeOf_87)), (q_t_next, .inl (cI, 3600, .inl A_next_87)), (q_t_around, .inl (cI, 240, .inl A_around_87)), (q_t_plain, .inl (cI, 2, .inl g28)), (q_t_slots, .inl (cI, 256, .inl A_slots_87))] H → va_D A [(q_t, .inr (10, [.ref q_t_held, .ref q_t_pairs, .ref q_t_stepOf, .ref q_t_wholeOf, .ref q_t_next, .ref q_t_around, .ref q_t_plain, .ref q_t_slots, .int F_size_87, .int F_steps_87, .int F_spent_87])), (q_t_held, .inr (1, [.ref q_t_held_one, .ref q_t_held_one, .int F_held_both])), (q_t_held_one, .inr (5, [.ref q_t_held_one_ways, .int F_held_one_states, .int F_held_one_marks, .int F_held_one_takes, .int F_held_one_changes])), (q_t_held_one_ways, .inl (cI, 18, .inl A_held_one_ways)), (q_t_pairs, .inl (cI, 60, .inl A_pairs_87)), (q_t_stepOf, .inl (cI, 60, .inl A_stepOf_87)), (q_t_wholeOf, .inl (cI, 60, .inl A_wholeOf_87)), (q_t_next, .inl (cI, 3600, .inl A_next_87)), (q_t_around, .inl (cI, 240, .inl A_around_87)), (q_t_plain, .inl (cI, 2, .inl g28)), (q_t_slots, .inl (cI, 256, .inl A_slots_87))] → va_S A s.heap H locs → ∀ ls : Array Slot, lv_has ls 5 [(0, .ref q_t), (1, .int i87_1)] → W p l e rmX10_build s m args below meth c H locs 0 0 Q (F0 m 87 ls [])) (fun i87_1 F_size_87 F_steps_87 F_spent_87 A_pairs_87 A_stepOf_87 A_wholeOf_87 A_next_87 A_around_87 A_slots_87 hw H locs hP hD hS ls hl => ?_) H locs hP hD hS ls (lv_sub hl [1, 0] rfl)
    refine lv_iload_n hx hb dX10_build_87 rfl (lv_at hl 1 rfl) ?_
    refine lv_aload_n hx hb dX10_build_88 rfl (lv_at hl 0 rfl) ?_
    refine va_get (D := G) (ci := 10) (v := .int F_size_87) (C := RX10) (T := TX10) (N := 11) hx hb hts hkX10_build_X10 hown hK hP 0 rfl rfl 8 (by decide) (hts (.fieldLink RX10 33 "NestReaders$Wholes" "size" "I") hfX10_build_33) (fun _ h9 => h9) rfl dX10_build_89 ?_
    refine lv_icmp_ge (tgt := 192) hx hb dX10_build_92 (by decide) (fun c29 => ?_) (fun c29 => ?_)
    · have hw := hw.1 c29
      exact hw H locs hP hD hS ls (lv_sub hl [] rfl)
    · have hw := hw.2 c29
      refine lv_aload_n hx hb dX10_build_95 rfl (lv_at hl 0 rfl) ?_
      refine va_get (D := G) (ci := 10) (v := .int F_spent_87) (C := RX10) (T := TX10) (N := 11) hx hb hts hkX10_build_X10 hown hK hP 0 rfl rfl 10 (by decide) (hts (.fieldLink RX10 40 "NestReaders$Wholes" "spent" "Z") hfX10_build_40) (fun _ h9 => h9) rfl dX10_build_96 ?_
      refine lv_if_ne (tgt := 192) hx hb dX10_build_99 (by decide) (fun c30 => ?_) (fun c30 => ?_)
      · have hw := hw.2 c30
        exact hw H locs hP hD hS ls (lv_sub hl [] rfl)
      · have hw := hw.1 c30
        refine lv_aload_n hx hb dX10_build_102 rfl (lv_at hl 0 rfl) ?_
        refine va_get (D := G) (ci := 10) (v := .int F_steps_87) (C := RX10) (T := TX10) (N := 11) hx hb hts hkX10_build_X10 hown hK hP 0 rfl rfl 9 (by decide) (hts (.fieldLink RX10 37 "NestReaders$Wholes" "steps" "I") hfX10_build_37) (fun _ h9 => h9) rfl dX10_build_103 ?_
        refine lv_istore_n (lv' := [(2, .int F_steps_87), (0, .ref q_t), (1, .int i87_1)]) hx hb dX10_build_106 rfl hl (by decide) rfl (fun ls hl => ?_)
        refine lv_iconst (v := 0) hx hb dX10_build_107 (by decide) ?_
        refine lv_istore_n (lv' := [(3, .int (0 : Int32)), (2, .int F_steps_87), (0, .ref q_t), (1, .int i87_1)]) hx hb dX10_build_108 rfl hl (by decide) rfl (fun ls hl => ?_)
        refine hw (fun i109_3 F_size_109 F_steps_109 F_spent_109 A_pairs_109 A_stepOf_109 A_wholeOf_109 A_around_109 A_slots_109 => ∀ (H : Heap) (locs : List Loc), va_P G vwCl [(q_t, .inr (10, [.ref q_t_held, .ref q_t_pairs, .ref q_t_stepOf, .ref q_t_wholeOf, .ref q_t_next, .ref q_t_around, .ref q_t_plain, .ref q_t_slots, .int F_size_109, .int F_steps_109, .int F_spent_109])), (q_t_held, .inr (1, [.ref q_t_held_one, .ref q_t_held_one, .int F_held_both])), (q_t_held_one, .inr (5, [.ref q_t_held_one_ways, .int F_held_one_states, .int F_held_one_marks, .int F_held_one_takes, .int F_held_one_changes])), (q_t_held_one_ways, .inl (cI, 18, .inl A_held_one_ways)), (q_t_pairs, .inl (cI, 60, .inl A_pairs_109)), (q_t_stepOf, .inl (cI, 60, .inl A_stepOf_109)), (q_t_wholeOf, .inl (cI, 60, .inl A_wholeOf_109)), (q_t_next, .inl (cI, 3600, .inl A_next_87)), (q_t_around, .inl (cI, 240, .inl A_around_109)), (q_t_plain, .inl (cI, 2, .inl g28)), (q_t_slots, .inl (cI, 256, .inl A_slots_109))] H → va_D A [(q_t, .inr (10, [.ref q_t_held, .ref q_t_pairs, .ref q_t_stepOf, .ref q_t_wholeOf, .ref q_t_next, .ref q_t_around, .ref q_t_plain, .ref q_t_slots, .int F_size_109, .int F_steps_109, .int F_spent_109])), (q_t_held, .inr (1, [.ref q_t_held_one, .ref q_t_held_one, .int F_held_both])), (q_t_held_one, .inr (5, [.ref q_t_held_one_ways, .int F_held_one_states, .int F_held_one_marks, .int F_held_one_takes, .int F_held_one_changes])), (q_t_held_one_ways, .inl (cI, 18, .inl A_held_one_ways)), (q_t_pairs, .inl (cI, 60, .inl A_pairs_109)), (q_t_stepOf, .inl (cI, 60, .inl A_stepOf_109)), (q_t_wholeOf, .inl (cI, 60, .inl A_wholeOf_109)), (q_t_next, .inl (cI, 3600, .inl A_next_87)), (q_t_around, .inl (cI, 240, .inl A_around_109)), (q_t_plain, .inl (cI, 2, .inl g28)), (q_t_slots, .inl (cI, 256, .inl A_slots_109))] → va_S A s.heap H locs → ∀ ls : Array Slot, lv_has ls 5 [(0, .ref q_t), (1, .int i87_1), (2, .int F_steps_87), (3, .int i109_3)] → W p l e rmX10_build s m args below meth c H locs 0 0 Q (F0 m 109 ls [])) (fun i109_3 F_size_109 F_steps_109 F_spent_109 A_pairs_109 A_stepOf_109 A_wholeOf_109 A_around_109 A_slots_109 hw H locs hP hD hS ls hl => ?_) H locs hP hD hS ls (lv_sub hl [2, 3, 1, 0] rfl)
        refine lv_iload_n hx hb dX10_build_109 rfl (lv_at hl 3 rfl) ?_
        refine lv_iconst (v := 4) hx hb dX10_build_110 (by decide) ?_
        refine lv_icmp_ge (tgt := 161) hx hb dX10_build_111 (by decide) (fun c31 => ?_) (fun c31 => ?_)
        · have hw := hw.1 c31
          refine lv_iconst (v := 0) hx hb dX10_build_161 (by decide) ?_
          refine lv_istore_n (lv' := [(3, .int (0 : Int32)), (0, .ref q_t), (1, .int i87_1), (2, .int F_steps_87)]) hx hb dX10_build_162 rfl hl (by decide) rfl (fun ls hl => ?_)
          refine hw (fun i163_3 F_size_163 F_spent_163 A_pairs_163 A_stepOf_163 A_next_163 A_slots_163 => ∀ (H : Heap) (locs : List Loc), va_P G vwCl [(q_t, .inr (10, [.ref q_t_held, .ref q_t_pairs, .ref q_t_stepOf, .ref q_t_wholeOf, .ref q_t_next, .ref q_t_around, .ref q_t_plain, .ref q_t_slots, .int F_size_163, .int F_steps_109, .int F_spent_163])), (q_t_held, .inr (1, [.ref q_t_held_one, .ref q_t_held_one, .int F_held_both])), (q_t_held_one, .inr (5, [.ref q_t_held_one_ways, .int F_held_one_states, .int F_held_one_marks, .int F_held_one_takes, .int F_held_one_changes])), (q_t_held_one_ways, .inl (cI, 18, .inl A_held_one_ways)), (q_t_pairs, .inl (cI, 60, .inl A_pairs_163)), (q_t_stepOf, .inl (cI, 60, .inl A_stepOf_163)), (q_t_wholeOf, .inl (cI, 60, .inl A_wholeOf_109)), (q_t_next, .inl (cI, 3600, .inl A_next_163)), (q_t_around, .inl (cI, 240, .inl A_around_109)), (q_t_plain, .inl (cI, 2, .inl g28)), (q_t_slots, .inl (cI, 256, .inl A_slots_163))] H → va_D A [(q_t, .inr (10, [.ref q_t_held, .ref q_t_pairs, .ref q_t_stepOf, .ref q_t_wholeOf, .ref q_t_next, .ref q_t_around, .ref q_t_plain, .ref q_t_slots, .int F_size_163, .int F_steps_109, .int F_spent_163])), (q_t_held, .inr (1, [.ref q_t_held_one, .ref q_t_held_one, .int F_held_both])), (q_t_held_one, .inr (5, [.ref q_t_held_one_ways, .int F_held_one_states, .int F_held_one_marks, .int F_held_one_takes, .int F_held_one_changes])), (q_t_held_one_ways, .inl (cI, 18, .inl A_held_one_ways)), (q_t_pairs, .inl (cI, 60, .inl A_pairs_163)), (q_t_stepOf, .inl (cI, 60, .inl A_stepOf_163)), (q_t_wholeOf, .inl (cI, 60, .inl A_wholeOf_109)), (q_t_next, .inl (cI, 3600, .inl A_next_163)), (q_t_around, .inl (cI, 240, .inl A_around_109)), (q_t_plain, .inl (cI, 2, .inl g28)), (q_t_slots, .inl (cI, 256, .inl A_slots_163))] → va_S A s.heap H locs → ∀ ls : Array Slot, lv_has ls 5 [(0, .ref q_t), (1, .int i87_1), (2, .int F_steps_87), (3, .int i163_3)] → W p l e rmX10_build s m args below meth c H locs 0 0 Q (F0 m 163 ls [])) (fun i163_3 F_size_163 F_spent_163 A_pairs_163 A_stepOf_163 A_next_163 A_slots_163 hw H locs hP hD hS ls hl => ?_) H locs hP hD hS ls (lv_sub hl [1, 2, 3, 0] rfl)
          refine lv_iload_n hx hb dX10_build_163 rfl (lv_at hl 3 rfl) ?_
          refine lv_iload_n hx hb dX10_build_164 rfl (lv_at hl 1 rfl) ?_
          refine lv_icmp_ge (tgt := 180) hx hb dX10_build_165 (by decide) (fun c32 => ?_) (fun c32 => ?_)
          · have hw := hw.1 c32
            refine lv_aload_n hx hb dX10_build_180 rfl (lv_at hl 0 rfl) ?_
            refine lv_iload_n hx hb dX10_build_181 rfl (lv_at hl 1 rfl) ?_
            refine lv_iconst (v := 0) hx hb dX10_build_182 (by decide) ?_
            refine ms_mVv (wr := [(q_t_held, .inr (1, [.ref q_t_held_one, .ref q_t_held_one, .int F_held_both])), (q_t_held_one, .inr (5, [.ref q_t_held_one_ways, .int F_held_one_states, .int F_held_one_marks, .int F_held_one_takes, .int F_held_one_changes])), (q_t_held_one_ways, .inl (cI, 18, .inl A_held_one_ways)), (q_t_around, .inl (cI, 240, .inl A_around_109)), (q_t_plain, .inl (cI, 2, .inl g28))]) ⟨hx, hb, hml, hown, hts⟩ hK hP hD (c_X10_link l G cI cJ cZ q_t q_t_held q_t_pairs q_t_stepOf q_t_wholeOf q_t_next q_t_around q_t_plain q_t_slots H.size F_size_163 F_steps_109 F_spent_163 A_pairs_163 A_stepOf_163 A_wholeOf_109 A_next_163 A_slots_163 i87_1 (0 : Int32) hw) gX10_build_X10_link rfl nd_X10_link (ci := 10) rfl rfl rfl ⟨rfl, rfl⟩ rfl ⟨Nat.le_of_ble_eq_true rfl, Nat.le_of_ble_eq_true rfl⟩ hl.1 (rest := []) rfl (Nat.le_of_ble_eq_true rfl)  hS hA [0, 4, 5, 6, 7, 10] [1, 2, 3, 8, 9] rfl rfl rfl (by decide) rfl dX10_build_183 (fun u H locs hw hP hD hS => ?_)
            obtain ⟨u33, u34, u35, u36, u37, u38⟩ := u
            obtain ⟨hP, hD⟩ : ms_PD G A [(q_t, .inr (10, [.ref q_t_held, .ref q_t_pairs, .ref q_t_stepOf, .ref q_t_wholeOf, .ref q_t_next, .ref q_t_around, .ref q_t_plain, .ref q_t_slots, .int u33, .int F_steps_109, .int u34])), (q_t_held, .inr (1, [.ref q_t_held_one, .ref q_t_held_one, .int F_held_both])), (q_t_held_one, .inr (5, [.ref q_t_held_one_ways, .int F_held_one_states, .int F_held_one_marks, .int F_held_one_takes, .int F_held_one_changes])), (q_t_held_one_ways, .inl (cI, 18, .inl A_held_one_ways)), (q_t_pairs, .inl (cI, 60, .inl u35)), (q_t_stepOf, .inl (cI, 60, .inl u36)), (q_t_wholeOf, .inl (cI, 60, .inl A_wholeOf_109)), (q_t_next, .inl (cI, 3600, .inl u37)), (q_t_around, .inl (cI, 240, .inl A_around_109)), (q_t_plain, .inl (cI, 2, .inl g28)), (q_t_slots, .inl (cI, 256, .inl u38))] H := ms_PDsub hP hD [5, 0, 1, 2, 6, 7, 8, 9, 3, 4, 10] (by decide +kernel) rfl
            obtain ⟨x39, ex39⟩ : ∃ y : Int32, y = i87_1 + (1 : Int32) := ⟨_, rfl⟩
            have hw := hw x39 ex39
            refine lv_iinc (v := x39) (lv' := [(1, .int x39), (0, .ref q_t), (2, .int F_steps_87), (3, .int i163_3)]) hx hb dX10_build_186 hl (k := 1) rfl (by rw [ex39]; rfl) (by decide) rfl (fun ls hl => ?_)
            refine lv_goto (tgt := 87) hx hb dX10_build_189 (by decide) ?_
            exact hw H locs hP hD hS ls (lv_sub hl [1, 0] rfl)
          · have hw := hw.2 c32
            refine lv_aload_n hx hb dX10_build_168 rfl (lv_at hl 0 rfl) ?_
            refine lv_iload_n hx hb dX10_build_169 rfl (lv_at hl 3 rfl) ?_
            refine lv_iload_n hx hb dX10_build_170 rfl (lv_at hl 2 rfl) ?_
            refine ms_mVv (wr := [(q_t_held, .inr (1, [.ref q_t_held_one, .ref q_t_held_one, .int F_held_both])), (q_t_held_one, .inr (5, [.ref q_t_held_one_ways, .int F_held_one_states, .int F_held_one_marks, .int F_held_one_takes, .int F_held_one_changes])), (q_t_held_one_ways, .inl (cI, 18, .inl A_held_one_ways)), (q_t_around, .inl (cI, 240, .inl A_around_109)), (q_t_plain, .inl (cI, 2, .inl g28))]) ⟨hx, hb, hml, hown, hts⟩ hK hP hD (c_X10_link l G cI cJ cZ q_t q_t_held q_t_pairs q_t_stepOf q_t_wholeOf q_t_next q_t_around q_t_plain q_t_slots H.size F_size_163 F_steps_109 F_spent_163 A_pairs_163 A_stepOf_163 A_wholeOf_109 A_next_163 A_slots_163 i163_3 F_steps_87 hw) gX10_build_X10_link rfl nd_X10_link (ci := 10) rfl rfl rfl ⟨rfl, rfl⟩ rfl ⟨Nat.le_of_ble_eq_true rfl, Nat.le_of_ble_eq_true rfl⟩ hl.1 (rest := []) rfl (Nat.le_of_ble_eq_true rfl)  hS hA [0, 4, 5, 6, 7, 10] [1, 2, 3, 8, 9] rfl rfl rfl (by decide) rfl dX10_build_171 (fun u H locs hw hP hD hS => ?_)
            obtain ⟨u40, u41, u42, u43, u44, u45⟩ := u
            obtain ⟨hP, hD⟩ : ms_PD G A [(q_t, .inr (10, [.ref q_t_held, .ref q_t_pairs, .ref q_t_stepOf, .ref q_t_wholeOf, .ref q_t_next, .ref q_t_around, .ref q_t_plain, .ref q_t_slots, .int u40, .int F_steps_109, .int u41])), (q_t_held, .inr (1, [.ref q_t_held_one, .ref q_t_held_one, .int F_held_both])), (q_t_held_one, .inr (5, [.ref q_t_held_one_ways, .int F_held_one_states, .int F_held_one_marks, .int F_held_one_takes, .int F_held_one_changes])), (q_t_held_one_ways, .inl (cI, 18, .inl A_held_one_ways)), (q_t_pairs, .inl (cI, 60, .inl u42)), (q_t_stepOf, .inl (cI, 60, .inl u43)), (q_t_wholeOf, .inl (cI, 60, .inl A_wholeOf_109)), (q_t_next, .inl (cI, 3600, .inl u44)), (q_t_around, .inl (cI, 240, .inl A_around_109)), (q_t_plain, .inl (cI, 2, .inl g28)), (q_t_slots, .inl (cI, 256, .inl u45))] H := ms_PDsub hP hD [5, 0, 1, 2, 6, 7, 8, 9, 3, 4, 10] (by decide +kernel) rfl
            obtain ⟨x46, ex46⟩ : ∃ y : Int32, y = i163_3 + (1 : Int32) := ⟨_, rfl⟩
            have hw := hw x46 ex46
            refine lv_iinc (v := x46) (lv' := [(3, .int x46), (0, .ref q_t), (1, .int i87_1), (2, .int F_steps_87)]) hx hb dX10_build_174 hl (k := 3) rfl (by rw [ex46]; rfl) (by decide) rfl (fun ls hl => ?_)
            refine lv_goto (tgt := 163) hx hb dX10_build_177 (by decide) ?_
            exact hw H locs hP hD hS ls (lv_sub hl [1, 2, 3, 0] rfl)
        · have hw := hw.2 c31
          refine lv_aload_n hx hb dX10_build_114 rfl (lv_at hl 0 rfl) ?_
          refine va_get (D := G) (ci := 10) (v := .ref q_t_held) (C := RX10) (T := TX10) (N := 11) hx hb hts hkX10_build_X10 hown hK hP 0 rfl rfl 0 (by decide) (hts (.fieldLink RX10 44 "NestReaders$Wholes" "held" "LNestReaders$Held;") hfX10_build_44) (fun _ h9 => h9) rfl dX10_build_115 ?_
          refine lv_iconst (v := 0) hx hb dX10_build_118 (by decide) ?_
          refine lv_iload_n hx hb dX10_build_119 rfl (lv_at hl 3 rfl) ?_
          refine lv_iconst (v := 1) hx hb dX10_build_120 (by decide) ?_
          refine lv_ishr hx hb dX10_build_121 ?_
          refine lv_iadd hx hb dX10_build_122 ?_
          refine lv_iconst (v := 4) hx hb dX10_build_123 (by decide) ?_
          refine lv_iload_n hx hb dX10_build_124 rfl (lv_at hl 3 rfl) ?_
          refine lv_iconst (v := 1) hx hb dX10_build_125 (by decide) ?_
          refine lv_iand hx hb dX10_build_126 ?_
          refine lv_iadd hx hb dX10_build_127 ?_
          refine lv_aload_n hx hb dX10_build_128 rfl (lv_at hl 0 rfl) ?_
          refine va_get (D := G) (ci := 10) (v := .ref q_t_pairs) (C := RX10) (T := TX10) (N := 11) hx hb hts hkX10_build_X10 hown hK hP 0 rfl rfl 1 (by decide) (hts (.fieldLink RX10 9 "NestReaders$Wholes" "pairs" "[I") hfX10_build_9) (fun _ h9 => h9) rfl dX10_build_129 ?_
          refine lv_iload_n hx hb dX10_build_132 rfl (lv_at hl 1 rfl) ?_
          refine va_iald (D := G) hx hb hK hP 4 0 rfl rfl hw.1 dX10_build_133 ?_
          have hw := hw.2
          refine ms_cVi ⟨hx, hb, hml, hown, hts⟩ hK hP hD (c_X1_wrapped_S l G cI cJ cZ q_t_held q_t_held_one q_t_held_one_ways F_held_both F_held_one_states F_held_one_marks F_held_one_takes F_held_one_changes A_held_one_ways ((0 : Int32) + (i109_3 >>> ((1 : Int32) &&& 31))) ((4 : Int32) + (i109_3 &&& (1 : Int32))) (A_pairs_109 i87_1.toNatClampNeg) hw) gX10_build_X1_wrapped rfl nd_X1_wrapped (ci := 1) rfl rfl rfl ⟨rfl, rfl⟩ rfl ⟨Nat.le_of_ble_eq_true rfl, Nat.le_of_ble_eq_true rfl⟩ hl.1 (rest := []) rfl (Nat.le_of_ble_eq_true rfl)  [1, 2, 3] rfl rfl dX10_build_134 (fun r47 hw => ?_)
          refine lv_istore (lv' := [(4, .int r47), (0, .ref q_t), (1, .int i87_1), (2, .int F_steps_87), (3, .int i109_3)]) hx hb dX10_build_137 hl (by decide) rfl (fun ls hl => ?_)
          refine lv_aload_n hx hb dX10_build_139 rfl (lv_at hl 1 rfl) ?_
          refine va_get (D := G) (ci := 10) (v := .ref q_t_around) (C := RX10) (T := TX10) (N := 11) hx hb hts hkX10_build_X10 hown hK hP 0 rfl rfl 5 (by decide) (hts (.fieldLink RX10 24 "NestReaders$Wholes" "around" "[I") hfX10_build_24) (fun _ h9 => h9) rfl dX10_build_140 ?_
          refine lv_iconst (v := 4) hx hb dX10_build_143 (by decide) ?_
          refine lv_iload_n hx hb dX10_build_144 rfl (lv_at hl 2 rfl) ?_
          refine lv_imul hx hb dX10_build_145 ?_
          refine lv_iload_n hx hb dX10_build_146 rfl (lv_at hl 4 rfl) ?_
          refine lv_iadd hx hb dX10_build_147 ?_
          refine lv_aload_n hx hb dX10_build_148 rfl (lv_at hl 1 rfl) ?_
          refine lv_iload hx hb dX10_build_149 (lv_at hl 0 rfl) ?_
          refine ms_mVi (wr := [(q_t_held, .inr (1, [.ref q_t_held_one, .ref q_t_held_one, .int F_held_both])), (q_t_held_one, .inr (5, [.ref q_t_held_one_ways, .int F_held_one_states, .int F_held_one_marks, .int F_held_one_takes, .int F_held_one_changes])), (q_t_held_one_ways, .inl (cI, 18, .inl A_held_one_ways)), (q_t_next, .inl (cI, 3600, .inl A_next_87)), (q_t_around, .inl (cI, 240, .inl A_around_109)), (q_t_plain, .inl (cI, 2, .inl g28))]) ⟨hx, hb, hml, hown, hts⟩ hK hP hD (c_X10_stepFor l G cI cJ cZ q_t q_t_held q_t_pairs q_t_stepOf q_t_wholeOf q_t_next q_t_around q_t_plain q_t_slots H.size F_size_109 F_steps_109 F_spent_109 A_pairs_109 A_stepOf_109 A_wholeOf_109 A_slots_109 r47 hw) gX10_build_X10_stepFor rfl nd_X10_stepFor (ci := 10) rfl rfl rfl ⟨rfl, rfl⟩ rfl ⟨Nat.le_of_ble_eq_true rfl, Nat.le_of_ble_eq_true rfl⟩ hl.1 (rest := [.int (((4 : Int32) * i87_1) + i109_3), .ref q_t_around]) rfl (Nat.le_of_ble_eq_true rfl)  hS hA [0, 4, 5, 6, 10] [1, 2, 3, 7, 8, 9] rfl rfl rfl (by decide) rfl dX10_build_151 (fun r48 u H locs hw hP hD hS => ?_)
          obtain ⟨u49, u50, u51, u52, u53, u54, u55⟩ := u
          obtain ⟨hP, hD⟩ : ms_PD G A [(q_t, .inr (10, [.ref q_t_held, .ref q_t_pairs, .ref q_t_stepOf, .ref q_t_wholeOf, .ref q_t_next, .ref q_t_around, .ref q_t_plain, .ref q_t_slots, .int u49, .int u50, .int u51])), (q_t_held, .inr (1, [.ref q_t_held_one, .ref q_t_held_one, .int F_held_both])), (q_t_held_one, .inr (5, [.ref q_t_held_one_ways, .int F_held_one_states, .int F_held_one_marks, .int F_held_one_takes, .int F_held_one_changes])), (q_t_held_one_ways, .inl (cI, 18, .inl A_held_one_ways)), (q_t_pairs, .inl (cI, 60, .inl u52)), (q_t_stepOf, .inl (cI, 60, .inl u53)), (q_t_wholeOf, .inl (cI, 60, .inl u54)), (q_t_next, .inl (cI, 3600, .inl A_next_87)), (q_t_around, .inl (cI, 240, .inl A_around_109)), (q_t_plain, .inl (cI, 2, .inl g28)), (q_t_slots, .inl (cI, 256, .inl u55))] H := ms_PDsub hP hD [6, 0, 1, 2, 7, 8, 9, 3, 4, 5, 10] (by decide +kernel) rfl
          refine ms_iast hx hb hK hP hD hS 8 0 rfl rfl hw.1 dX10_build_154 (fun g56 H locs eg56 hP hD hS => ?_)
          have hw := hw.2 g56 eg56
          have hP : va_P G vwCl [(q_t, .inr (10, [.ref q_t_held, .ref q_t_pairs, .ref q_t_stepOf, .ref q_t_wholeOf, .ref q_t_next, .ref q_t_around, .ref q_t_plain, .ref q_t_slots, .int u49, .int u50, .int u51])), (q_t_held, .inr (1, [.ref q_t_held_one, .ref q_t_held_one, .int F_held_both])), (q_t_held_one, .inr (5, [.ref q_t_held_one_ways, .int F_held_one_states, .int F_held_one_marks, .int F_held_one_takes, .int F_held_one_changes])), (q_t_held_one_ways, .inl (cI, 18, .inl A_held_one_ways)), (q_t_pairs, .inl (cI, 60, .inl u52)), (q_t_stepOf, .inl (cI, 60, .inl u53)), (q_t_wholeOf, .inl (cI, 60, .inl u54)), (q_t_next, .inl (cI, 3600, .inl A_next_87)), (q_t_around, .inl (cI, 240, .inl g56)), (q_t_plain, .inl (cI, 2, .inl g28)), (q_t_slots, .inl (cI, 256, .inl u55))] H := hP
          have hD : va_D A [(q_t, .inr (10, [.ref q_t_held, .ref q_t_pairs, .ref q_t_stepOf, .ref q_t_wholeOf, .ref q_t_next, .ref q_t_around, .ref q_t_plain, .ref q_t_slots, .int u49, .int u50, .int u51])), (q_t_held, .inr (1, [.ref q_t_held_one, .ref q_t_held_one, .int F_held_both])), (q_t_held_one, .inr (5, [.ref q_t_held_one_ways, .int F_held_one_states, .int F_held_one_marks, .int F_held_one_takes, .int F_held_one_changes])), (q_t_held_one_ways, .inl (cI, 18, .inl A_held_one_ways)), (q_t_pairs, .inl (cI, 60, .inl u52)), (q_t_stepOf, .inl (cI, 60, .inl u53)), (q_t_wholeOf, .inl (cI, 60, .inl u54)), (q_t_next, .inl (cI, 3600, .inl A_next_87)), (q_t_around, .inl (cI, 240, .inl g56)), (q_t_plain, .inl (cI, 2, .inl g28)), (q_t_slots, .inl (cI, 256, .inl u55))] := hD
          obtain ⟨x57, ex57⟩ : ∃ y : Int32, y = i109_3 + (1 : Int32) := ⟨_, rfl⟩
          have hw := hw x57 ex57
          refine lv_iinc (v := x57) (lv' := [(3, .int x57), (4, .int r47), (0, .ref q_t), (1, .int i87_1), (2, .int F_steps_87)]) hx hb dX10_build_155 hl (k := 4) rfl (by rw [ex57]; rfl) (by decide) rfl (fun ls hl => ?_)
          refine lv_goto (tgt := 109) hx hb dX10_build_158 (by decide) ?_
          exact hw H locs hP hD hS ls (lv_sub hl [2, 3, 4, 0] rfl)
  · have hw := hw.2 c1
    refine lv_aload_n hx hb dX10_build_24 rfl (lv_at hl 0 rfl) ?_
    refine va_get (D := G) (ci := 10) (v := .ref q_t_slots) (C := RX10) (T := TX10) (N := 11) hx hb hts hkX10_build_X10 hown hK hP 0 rfl rfl 7 (by decide) (hts (.fieldLink RX10 30 "NestReaders$Wholes" "slots" "[I") hfX10_build_30) (fun _ h9 => h9) rfl dX10_build_25 ?_
    refine lv_iload_n hx hb dX10_build_28 rfl (lv_at hl 1 rfl) ?_
    refine lv_iconst (v := 0) hx hb dX10_build_29 (by decide) ?_
    refine ms_iast hx hb hK hP hD hS 10 0 rfl rfl hw.1 dX10_build_30 (fun g58 H locs eg58 hP hD hS => ?_)
    have hw := hw.2 g58 eg58
    have hP : va_P G vwCl [(q_t, .inr (10, [.ref q_t_held, .ref q_t_pairs, .ref q_t_stepOf, .ref q_t_wholeOf, .ref q_t_next, .ref q_t_around, .ref q_t_plain, .ref q_t_slots, .int (0 : Int32), .int (0 : Int32), .int (0 : Int32)])), (q_t_held, .inr (1, [.ref q_t_held_one, .ref q_t_held_one, .int F_held_both])), (q_t_held_one, .inr (5, [.ref q_t_held_one_ways, .int F_held_one_states, .int F_held_one_marks, .int F_held_one_takes, .int F_held_one_changes])), (q_t_held_one_ways, .inl (cI, 18, .inl A_held_one_ways)), (q_t_pairs, .inl (cI, 60, .inl A_pairs)), (q_t_stepOf, .inl (cI, 60, .inl A_stepOf)), (q_t_wholeOf, .inl (cI, 60, .inl A_wholeOf)), (q_t_next, .inl (cI, 3600, .inl A_next)), (q_t_around, .inl (cI, 240, .inl A_around)), (q_t_plain, .inl (cI, 2, .inl A_plain)), (q_t_slots, .inl (cI, 256, .inl g58))] H := hP
    have hD : va_D A [(q_t, .inr (10, [.ref q_t_held, .ref q_t_pairs, .ref q_t_stepOf, .ref q_t_wholeOf, .ref q_t_next, .ref q_t_around, .ref q_t_plain, .ref q_t_slots, .int (0 : Int32), .int (0 : Int32), .int (0 : Int32)])), (q_t_held, .inr (1, [.ref q_t_held_one, .ref q_t_held_one, .int F_held_both])), (q_t_held_one, .inr (5, [.ref q_t_held_one_ways, .int F_held_one_states, .int F_held_one_marks, .int F_held_one_takes, .int F_held_one_changes])), (q_t_held_one_ways, .inl (cI, 18, .inl A_held_one_ways)), (q_t_pairs, .inl (cI, 60, .inl A_pairs)), (q_t_stepOf, .inl (cI, 60, .inl A_stepOf)), (q_t_wholeOf, .inl (cI, 60, .inl A_wholeOf)), (q_t_next, .inl (cI, 3600, .inl A_next)), (q_t_around, .inl (cI, 240, .inl A_around)), (q_t_plain, .inl (cI, 2, .inl A_plain)), (q_t_slots, .inl (cI, 256, .inl g58))] := hD
    obtain ⟨x59, ex59⟩ : ∃ y : Int32, y = i17_1 + (1 : Int32) := ⟨_, rfl⟩
    have hw := hw x59 ex59
    refine lv_iinc (v := x59) (lv' := [(1, .int x59), (0, .ref q_t)]) hx hb dX10_build_31 hl (k := 1) rfl (by rw [ex59]; rfl) (by decide) rfl (fun ls hl => ?_)
    refine lv_goto (tgt := 17) hx hb dX10_build_34 (by decide) ?_
    exact hw H locs hP hD hS ls (lv_sub hl [1, 0] rfl)
