theorem dX12_tell_50 : decode cX12_tell 50 = .ok (.iload_n 2, 1) := by decide +kernel
theorem dX12_tell_51 : decode cX12_tell 51 = .ok (.iload 4, 2) := by decide +kernel
theorem dX12_tell_53 : decode cX12_tell 53 = .ok (.invokestatic 202, 3) := by decide +kernel
theorem dX12_tell_56 : decode cX12_tell 56 = .ok (.iload 5, 2) := by decide +kernel
theorem dX12_tell_58 : decode cX12_tell 58 = .ok (.iastore, 1) := by decide +kernel
theorem dX12_tell_59 : decode cX12_tell 59 = .ok (.aload_n 0, 1) := by decide +kernel
theorem dX12_tell_60 : decode cX12_tell 60 = .ok (.iconst (-1), 1) := by decide +kernel
theorem dX12_tell_61 : decode cX12_tell 61 = .ok (.putfield 68, 3) := by decide +kernel
theorem dX12_tell_64 : decode cX12_tell 64 = .ok (.return_, 1) := by decide +kernel
theorem ggX12_moves_X12_isReader : GoodIn wsX12_moves wsX12_isReader := gdC (gd1 m11_2)
theorem gX12_moves_X12_isReader : GoodIn wsX12_moves (va_wsS RX12 116 yX12_isReader wsX12_isReader) := gdC (gd3 m11_0 m11_1 m1_5 m11_2)
theorem ggX12_moves_X12_isRead : GoodIn wsX12_moves wsX12_isRead := gdC (gd1 m18_3)
theorem gX12_moves_X12_isRead : GoodIn wsX12_moves (wsV RX12 187 RX12 yX12_isRead wsX12_isRead) := gdC (gd4 m18_0 m18_1 m18_2 m1_5 m18_3)
theorem ggX12_moves_X12_tos : GoodIn wsX12_moves wsX12_tos := gdC (gd1 m20_15)
theorem gX12_moves_X12_tos : GoodIn wsX12_moves (wsV RX12 205 RX12 yX12_tos wsX12_tos) := gdC (gd4 m20_12 m20_13 m20_14 m1_5 m20_15)
theorem ggX12_moves_X12_tell : GoodIn wsX12_moves wsX12_tell := gdC (gd1 m21_4)
theorem gX12_moves_X12_tell : GoodIn wsX12_moves (wsV RX12 208 RX12 yX12_tell wsX12_tell) := gdC (gd4 m21_1 m21_2 m21_3 m1_5 m21_4)
theorem ggX12_moves_X12_movesOf : GoodIn wsX12_moves wsX12_movesOf := gdC (gd1 m21_8)
theorem gX12_moves_X12_movesOf : GoodIn wsX12_moves (wsV RX12 212 RX12 yX12_movesOf wsX12_movesOf) := gdC (gd4 m21_5 m21_6 m21_7 m1_5 m21_8)
theorem dX12_moves_0 : decode cX12_moves 0 = .ok (.iload_n 1, 1) := by decide +kernel
theorem dX12_moves_1 : decode cX12_moves 1 = .ok (.invokestatic 116, 3) := by decide +kernel
theorem dX12_moves_4 : decode cX12_moves 4 = .ok (.ifCond .ne 6, 3) := by decide +kernel
theorem dX12_moves_7 : decode cX12_moves 7 = .ok (.bipush (-2), 2) := by decide +kernel
theorem dX12_moves_9 : decode cX12_moves 9 = .ok (.ireturn, 1) := by decide +kernel
theorem dX12_moves_10 : decode cX12_moves 10 = .ok (.aload_n 0, 1) := by decide +kernel
theorem dX12_moves_11 : decode cX12_moves 11 = .ok (.iload_n 1, 1) := by decide +kernel
theorem dX12_moves_12 : decode cX12_moves 12 = .ok (.invokevirtual 187, 3) := by decide +kernel
theorem dX12_moves_15 : decode cX12_moves 15 = .ok (.ifCond .ne 6, 3) := by decide +kernel
theorem dX12_moves_18 : decode cX12_moves 18 = .ok (.bipush (-4), 2) := by decide +kernel
theorem dX12_moves_20 : decode cX12_moves 20 = .ok (.ireturn, 1) := by decide +kernel
theorem dX12_moves_21 : decode cX12_moves 21 = .ok (.iconst 0, 1) := by decide +kernel
theorem dX12_moves_22 : decode cX12_moves 22 = .ok (.istore_n 2, 1) := by decide +kernel
theorem dX12_moves_23 : decode cX12_moves 23 = .ok (.iload_n 2, 1) := by decide +kernel
theorem dX12_moves_24 : decode cX12_moves 24 = .ok (.aload_n 0, 1) := by decide +kernel
theorem dX12_moves_25 : decode cX12_moves 25 = .ok (.getfield 181, 3) := by decide +kernel
theorem dX12_moves_28 : decode cX12_moves 28 = .ok (.if_icmp .ge 75, 3) := by decide +kernel
theorem dX12_moves_31 : decode cX12_moves 31 = .ok (.aload_n 0, 1) := by decide +kernel
theorem dX12_moves_32 : decode cX12_moves 32 = .ok (.getfield 31, 3) := by decide +kernel
theorem dX12_moves_35 : decode cX12_moves 35 = .ok (.iconst 4, 1) := by decide +kernel
theorem dX12_moves_36 : decode cX12_moves 36 = .ok (.iload_n 2, 1) := by decide +kernel
theorem dX12_moves_37 : decode cX12_moves 37 = .ok (.imul, 1) := by decide +kernel
theorem dX12_moves_38 : decode cX12_moves 38 = .ok (.iaload, 1) := by decide +kernel
theorem dX12_moves_39 : decode cX12_moves 39 = .ok (.istore_n 3, 1) := by decide +kernel
theorem dX12_moves_40 : decode cX12_moves 40 = .ok (.aload_n 0, 1) := by decide +kernel
theorem dX12_moves_41 : decode cX12_moves 41 = .ok (.getfield 31, 3) := by decide +kernel
theorem dX12_moves_44 : decode cX12_moves 44 = .ok (.iconst 4, 1) := by decide +kernel
theorem dX12_moves_45 : decode cX12_moves 45 = .ok (.iload_n 2, 1) := by decide +kernel
theorem dX12_moves_46 : decode cX12_moves 46 = .ok (.imul, 1) := by decide +kernel
theorem dX12_moves_47 : decode cX12_moves 47 = .ok (.iconst 1, 1) := by decide +kernel
theorem dX12_moves_48 : decode cX12_moves 48 = .ok (.iadd, 1) := by decide +kernel
theorem dX12_moves_49 : decode cX12_moves 49 = .ok (.iaload, 1) := by decide +kernel
theorem dX12_moves_50 : decode cX12_moves 50 = .ok (.istore 4, 2) := by decide +kernel
theorem dX12_moves_52 : decode cX12_moves 52 = .ok (.aload_n 0, 1) := by decide +kernel
theorem dX12_moves_53 : decode cX12_moves 53 = .ok (.getfield 31, 3) := by decide +kernel
theorem dX12_moves_56 : decode cX12_moves 56 = .ok (.iconst 4, 1) := by decide +kernel
theorem dX12_moves_57 : decode cX12_moves 57 = .ok (.iload_n 2, 1) := by decide +kernel
theorem dX12_moves_58 : decode cX12_moves 58 = .ok (.imul, 1) := by decide +kernel
theorem dX12_moves_59 : decode cX12_moves 59 = .ok (.iconst 2, 1) := by decide +kernel
theorem dX12_moves_60 : decode cX12_moves 60 = .ok (.iadd, 1) := by decide +kernel
theorem dX12_moves_61 : decode cX12_moves 61 = .ok (.iaload, 1) := by decide +kernel
theorem dX12_moves_62 : decode cX12_moves 62 = .ok (.istore 5, 2) := by decide +kernel
theorem dX12_moves_64 : decode cX12_moves 64 = .ok (.aload_n 0, 1) := by decide +kernel
theorem dX12_moves_65 : decode cX12_moves 65 = .ok (.iload_n 1, 1) := by decide +kernel
theorem dX12_moves_66 : decode cX12_moves 66 = .ok (.iload_n 3, 1) := by decide +kernel
theorem dX12_moves_67 : decode cX12_moves 67 = .ok (.iload 4, 2) := by decide +kernel
theorem dX12_moves_69 : decode cX12_moves 69 = .ok (.iload 5, 2) := by decide +kernel
theorem dX12_moves_71 : decode cX12_moves 71 = .ok (.aload_n 0, 1) := by decide +kernel
theorem dX12_moves_72 : decode cX12_moves 72 = .ok (.iload_n 1, 1) := by decide +kernel
theorem dX12_moves_73 : decode cX12_moves 73 = .ok (.iload_n 3, 1) := by decide +kernel
theorem dX12_moves_74 : decode cX12_moves 74 = .ok (.iload 4, 2) := by decide +kernel
theorem dX12_moves_76 : decode cX12_moves 76 = .ok (.iload 5, 2) := by decide +kernel
theorem dX12_moves_78 : decode cX12_moves 78 = .ok (.invokevirtual 205, 3) := by decide +kernel
theorem dX12_moves_81 : decode cX12_moves 81 = .ok (.iconst 1, 1) := by decide +kernel
theorem dX12_moves_82 : decode cX12_moves 82 = .ok (.aload_n 0, 1) := by decide +kernel
theorem dX12_moves_83 : decode cX12_moves 83 = .ok (.getfield 31, 3) := by decide +kernel
theorem dX12_moves_86 : decode cX12_moves 86 = .ok (.iconst 4, 1) := by decide +kernel
theorem dX12_moves_87 : decode cX12_moves 87 = .ok (.iload_n 2, 1) := by decide +kernel
theorem dX12_moves_88 : decode cX12_moves 88 = .ok (.imul, 1) := by decide +kernel
theorem dX12_moves_89 : decode cX12_moves 89 = .ok (.iconst 3, 1) := by decide +kernel
theorem dX12_moves_90 : decode cX12_moves 90 = .ok (.iadd, 1) := by decide +kernel
theorem dX12_moves_91 : decode cX12_moves 91 = .ok (.iaload, 1) := by decide +kernel
theorem dX12_moves_92 : decode cX12_moves 92 = .ok (.ishl, 1) := by decide +kernel
theorem dX12_moves_93 : decode cX12_moves 93 = .ok (.ior, 1) := by decide +kernel
theorem dX12_moves_94 : decode cX12_moves 94 = .ok (.invokevirtual 208, 3) := by decide +kernel
theorem dX12_moves_97 : decode cX12_moves 97 = .ok (.iinc 2 1, 3) := by decide +kernel
theorem dX12_moves_100 : decode cX12_moves 100 = .ok (.goto (-77), 3) := by decide +kernel
theorem dX12_moves_103 : decode cX12_moves 103 = .ok (.aload_n 0, 1) := by decide +kernel
theorem dX12_moves_104 : decode cX12_moves 104 = .ok (.iconst 0, 1) := by decide +kernel
theorem dX12_moves_105 : decode cX12_moves 105 = .ok (.putfield 120, 3) := by decide +kernel
theorem dX12_moves_108 : decode cX12_moves 108 = .ok (.aload_n 0, 1) := by decide +kernel
theorem dX12_moves_109 : decode cX12_moves 109 = .ok (.iload_n 1, 1) := by decide +kernel
theorem dX12_moves_110 : decode cX12_moves 110 = .ok (.invokevirtual 212, 3) := by decide +kernel
theorem dX12_moves_113 : decode cX12_moves 113 = .ok (.ireturn, 1) := by decide +kernel
theorem ggX12_isTold_X12_isReader : GoodIn wsX12_isTold wsX12_isReader := gdC (gd1 m11_2)
theorem gX12_isTold_X12_isReader : GoodIn wsX12_isTold (va_wsS RX12 116 yX12_isReader wsX12_isReader) := gdC (gd3 m11_0 m11_1 m1_5 m11_2)
theorem ggX12_isTold_X12_in : GoodIn wsX12_isTold wsX12_in := gdC (gd1 m11_5)
theorem gX12_isTold_X12_in : GoodIn wsX12_isTold (va_wsS RX12 112 yX12_in wsX12_in) := gdC (gd3 m11_3 m11_4 m1_5 m11_5)
theorem dX12_isTold_0 : decode cX12_isTold 0 = .ok (.iload_n 1, 1) := by decide +kernel
theorem dX12_isTold_1 : decode cX12_isTold 1 = .ok (.invokestatic 116, 3) := by decide +kernel
theorem dX12_isTold_4 : decode cX12_isTold 4 = .ok (.ifCond .eq 45, 3) := by decide +kernel
theorem dX12_isTold_7 : decode cX12_isTold 7 = .ok (.iload_n 2, 1) := by decide +kernel
theorem dX12_isTold_8 : decode cX12_isTold 8 = .ok (.iconst 0, 1) := by decide +kernel
theorem dX12_isTold_9 : decode cX12_isTold 9 = .ok (.aload_n 0, 1) := by decide +kernel
theorem dX12_isTold_10 : decode cX12_isTold 10 = .ok (.getfield 7, 3) := by decide +kernel
theorem dX12_isTold_13 : decode cX12_isTold 13 = .ok (.iload_n 1, 1) := by decide +kernel
theorem dX12_isTold_14 : decode cX12_isTold 14 = .ok (.iaload, 1) := by decide +kernel
theorem dX12_isTold_15 : decode cX12_isTold 15 = .ok (.iconst 1, 1) := by decide +kernel
theorem dX12_isTold_16 : decode cX12_isTold 16 = .ok (.isub, 1) := by decide +kernel
theorem dX12_isTold_17 : decode cX12_isTold 17 = .ok (.invokestatic 112, 3) := by decide +kernel
theorem dX12_isTold_20 : decode cX12_isTold 20 = .ok (.ifCond .eq 29, 3) := by decide +kernel
theorem dX12_isTold_23 : decode cX12_isTold 23 = .ok (.iload 5, 2) := by decide +kernel
theorem dX12_isTold_25 : decode cX12_isTold 25 = .ok (.iconst 0, 1) := by decide +kernel
theorem dX12_isTold_26 : decode cX12_isTold 26 = .ok (.aload_n 0, 1) := by decide +kernel
theorem dX12_isTold_27 : decode cX12_isTold 27 = .ok (.getfield 7, 3) := by decide +kernel
theorem dX12_isTold_30 : decode cX12_isTold 30 = .ok (.iload_n 1, 1) := by decide +kernel
theorem dX12_isTold_31 : decode cX12_isTold 31 = .ok (.iaload, 1) := by decide +kernel
theorem dX12_isTold_32 : decode cX12_isTold 32 = .ok (.iconst 1, 1) := by decide +kernel
theorem dX12_isTold_33 : decode cX12_isTold 33 = .ok (.isub, 1) := by decide +kernel
theorem dX12_isTold_34 : decode cX12_isTold 34 = .ok (.invokestatic 112, 3) := by decide +kernel
theorem dX12_isTold_37 : decode cX12_isTold 37 = .ok (.ifCond .eq 12, 3) := by decide +kernel
theorem dX12_isTold_40 : decode cX12_isTold 40 = .ok (.iload_n 3, 1) := by decide +kernel
theorem dX12_isTold_41 : decode cX12_isTold 41 = .ok (.iconst 0, 1) := by decide +kernel
theorem dX12_isTold_42 : decode cX12_isTold 42 = .ok (.iconst 5, 1) := by decide +kernel
theorem dX12_isTold_43 : decode cX12_isTold 43 = .ok (.invokestatic 112, 3) := by decide +kernel
theorem dX12_isTold_46 : decode cX12_isTold 46 = .ok (.ifCond .ne 5, 3) := by decide +kernel
theorem dX12_isTold_49 : decode cX12_isTold 49 = .ok (.iconst 0, 1) := by decide +kernel
theorem dX12_isTold_50 : decode cX12_isTold 50 = .ok (.ireturn, 1) := by decide +kernel
theorem dX12_isTold_51 : decode cX12_isTold 51 = .ok (.iload_n 3, 1) := by decide +kernel
theorem dX12_isTold_52 : decode cX12_isTold 52 = .ok (.iconst 2, 1) := by decide +kernel
theorem dX12_isTold_53 : decode cX12_isTold 53 = .ok (.if_icmp .ge 20, 3) := by decide +kernel
theorem dX12_isTold_56 : decode cX12_isTold 56 = .ok (.iload 4, 2) := by decide +kernel
theorem dX12_isTold_58 : decode cX12_isTold 58 = .ok (.iconst 0, 1) := by decide +kernel
theorem dX12_isTold_59 : decode cX12_isTold 59 = .ok (.aload_n 0, 1) := by decide +kernel
theorem dX12_isTold_60 : decode cX12_isTold 60 = .ok (.getfield 13, 3) := by decide +kernel
theorem dX12_isTold_63 : decode cX12_isTold 63 = .ok (.iload_n 1, 1) := by decide +kernel
theorem dX12_isTold_64 : decode cX12_isTold 64 = .ok (.iaload, 1) := by decide +kernel
theorem dX12_isTold_65 : decode cX12_isTold 65 = .ok (.iconst 1, 1) := by decide +kernel
theorem dX12_isTold_66 : decode cX12_isTold 66 = .ok (.isub, 1) := by decide +kernel
theorem dX12_isTold_67 : decode cX12_isTold 67 = .ok (.invokestatic 112, 3) := by decide +kernel
theorem dX12_isTold_70 : decode cX12_isTold 70 = .ok (.goto 35, 3) := by decide +kernel
theorem dX12_isTold_73 : decode cX12_isTold 73 = .ok (.iload_n 3, 1) := by decide +kernel
theorem dX12_isTold_74 : decode cX12_isTold 74 = .ok (.iconst 4, 1) := by decide +kernel
theorem dX12_isTold_75 : decode cX12_isTold 75 = .ok (.if_icmp .ge 16, 3) := by decide +kernel
theorem dX12_isTold_78 : decode cX12_isTold 78 = .ok (.iload 4, 2) := by decide +kernel
theorem dX12_isTold_80 : decode cX12_isTold 80 = .ok (.ifCond .ne 7, 3) := by decide +kernel
theorem dX12_isTold_83 : decode cX12_isTold 83 = .ok (.iconst 1, 1) := by decide +kernel
theorem dX12_isTold_84 : decode cX12_isTold 84 = .ok (.goto 21, 3) := by decide +kernel
theorem dX12_isTold_87 : decode cX12_isTold 87 = .ok (.iconst 0, 1) := by decide +kernel
theorem dX12_isTold_88 : decode cX12_isTold 88 = .ok (.goto 17, 3) := by decide +kernel
theorem dX12_isTold_91 : decode cX12_isTold 91 = .ok (.iload 4, 2) := by decide +kernel
theorem dX12_isTold_93 : decode cX12_isTold 93 = .ok (.iconst (-1), 1) := by decide +kernel
theorem dX12_isTold_94 : decode cX12_isTold 94 = .ok (.aload_n 0, 1) := by decide +kernel
theorem dX12_isTold_95 : decode cX12_isTold 95 = .ok (.getfield 13, 3) := by decide +kernel
theorem dX12_isTold_98 : decode cX12_isTold 98 = .ok (.iload_n 1, 1) := by decide +kernel
theorem dX12_isTold_99 : decode cX12_isTold 99 = .ok (.iaload, 1) := by decide +kernel
theorem dX12_isTold_100 : decode cX12_isTold 100 = .ok (.iconst 1, 1) := by decide +kernel
theorem dX12_isTold_101 : decode cX12_isTold 101 = .ok (.isub, 1) := by decide +kernel
theorem dX12_isTold_102 : decode cX12_isTold 102 = .ok (.invokestatic 112, 3) := by decide +kernel
theorem dX12_isTold_105 : decode cX12_isTold 105 = .ok (.ireturn, 1) := by decide +kernel
theorem ggX12_has_X12_isTold : GoodIn wsX12_has wsX12_isTold := gdC (gd1 m22_8)
theorem gX12_has_X12_isTold : GoodIn wsX12_has (wsV RX12 215 RX12 yX12_isTold wsX12_isTold) := gdC (gd4 m22_5 m22_6 m22_7 m1_5 m22_8)
theorem ggX12_has_X12_tos : GoodIn wsX12_has wsX12_tos := gdC (gd1 m20_15)
theorem gX12_has_X12_tos : GoodIn wsX12_has (wsV RX12 205 RX12 yX12_tos wsX12_tos) := gdC (gd4 m20_12 m20_13 m20_14 m1_5 m20_15)
theorem dX12_has_0 : decode cX12_has 0 = .ok (.aload_n 0, 1) := by decide +kernel
theorem dX12_has_1 : decode cX12_has 1 = .ok (.iload_n 1, 1) := by decide +kernel
theorem dX12_has_2 : decode cX12_has 2 = .ok (.iload_n 2, 1) := by decide +kernel
theorem dX12_has_3 : decode cX12_has 3 = .ok (.iload_n 3, 1) := by decide +kernel
theorem dX12_has_4 : decode cX12_has 4 = .ok (.iload 4, 2) := by decide +kernel
theorem dX12_has_6 : decode cX12_has 6 = .ok (.iload 5, 2) := by decide +kernel
theorem dX12_has_8 : decode cX12_has 8 = .ok (.invokevirtual 215, 3) := by decide +kernel
theorem dX12_has_11 : decode cX12_has 11 = .ok (.ifCond .eq 20, 3) := by decide +kernel
theorem dX12_has_14 : decode cX12_has 14 = .ok (.aload_n 0, 1) := by decide +kernel
theorem dX12_has_15 : decode cX12_has 15 = .ok (.iload_n 1, 1) := by decide +kernel
theorem dX12_has_16 : decode cX12_has 16 = .ok (.iload_n 2, 1) := by decide +kernel
theorem dX12_has_17 : decode cX12_has 17 = .ok (.iload_n 3, 1) := by decide +kernel
theorem dX12_has_18 : decode cX12_has 18 = .ok (.iload 4, 2) := by decide +kernel
theorem dX12_has_20 : decode cX12_has 20 = .ok (.invokevirtual 205, 3) := by decide +kernel
theorem dX12_has_23 : decode cX12_has 23 = .ok (.iload 5, 2) := by decide +kernel
theorem dX12_has_25 : decode cX12_has 25 = .ok (.ishr, 1) := by decide +kernel
theorem dX12_has_26 : decode cX12_has 26 = .ok (.iconst 1, 1) := by decide +kernel
theorem dX12_has_27 : decode cX12_has 27 = .ok (.iand, 1) := by decide +kernel
theorem dX12_has_28 : decode cX12_has 28 = .ok (.goto 5, 3) := by decide +kernel
theorem dX12_has_31 : decode cX12_has 31 = .ok (.bipush (-2), 2) := by decide +kernel
theorem dX12_has_33 : decode cX12_has 33 = .ok (.ireturn, 1) := by decide +kernel
theorem ggX12_drop_X12_isTold : GoodIn wsX12_drop wsX12_isTold := gdC (gd1 m22_8)
theorem gX12_drop_X12_isTold : GoodIn wsX12_drop (wsV RX12 215 RX12 yX12_isTold wsX12_isTold) := gdC (gd4 m22_5 m22_6 m22_7 m1_5 m22_8)
theorem ggX12_drop_X12_tos : GoodIn wsX12_drop wsX12_tos := gdC (gd1 m20_15)
theorem gX12_drop_X12_tos : GoodIn wsX12_drop (wsV RX12 205 RX12 yX12_tos wsX12_tos) := gdC (gd4 m20_12 m20_13 m20_14 m1_5 m20_15)
theorem ggX12_drop_X12_tell : GoodIn wsX12_drop wsX12_tell := gdC (gd1 m21_4)
theorem gX12_drop_X12_tell : GoodIn wsX12_drop (wsV RX12 208 RX12 yX12_tell wsX12_tell) := gdC (gd4 m21_1 m21_2 m21_3 m1_5 m21_4)
theorem ggX12_drop_X12_movesOf : GoodIn wsX12_drop wsX12_movesOf := gdC (gd1 m21_8)
theorem gX12_drop_X12_movesOf : GoodIn wsX12_drop (wsV RX12 212 RX12 yX12_movesOf wsX12_movesOf) := gdC (gd4 m21_5 m21_6 m21_7 m1_5 m21_8)
theorem dX12_drop_0 : decode cX12_drop 0 = .ok (.aload_n 0, 1) := by decide +kernel
theorem dX12_drop_1 : decode cX12_drop 1 = .ok (.iload_n 1, 1) := by decide +kernel
theorem dX12_drop_2 : decode cX12_drop 2 = .ok (.iload_n 2, 1) := by decide +kernel
theorem dX12_drop_3 : decode cX12_drop 3 = .ok (.iload_n 3, 1) := by decide +kernel
theorem dX12_drop_4 : decode cX12_drop 4 = .ok (.iload 4, 2) := by decide +kernel
theorem dX12_drop_6 : decode cX12_drop 6 = .ok (.iload 5, 2) := by decide +kernel
theorem dX12_drop_8 : decode cX12_drop 8 = .ok (.invokevirtual 215, 3) := by decide +kernel
theorem dX12_drop_11 : decode cX12_drop 11 = .ok (.ifCond .eq 20, 3) := by decide +kernel
theorem dX12_drop_14 : decode cX12_drop 14 = .ok (.aload_n 0, 1) := by decide +kernel
theorem dX12_drop_15 : decode cX12_drop 15 = .ok (.iload_n 1, 1) := by decide +kernel
theorem dX12_drop_16 : decode cX12_drop 16 = .ok (.iload_n 2, 1) := by decide +kernel
theorem dX12_drop_17 : decode cX12_drop 17 = .ok (.iload_n 3, 1) := by decide +kernel
theorem dX12_drop_18 : decode cX12_drop 18 = .ok (.iload 4, 2) := by decide +kernel
theorem dX12_drop_20 : decode cX12_drop 20 = .ok (.invokevirtual 205, 3) := by decide +kernel
theorem dX12_drop_23 : decode cX12_drop 23 = .ok (.iload 5, 2) := by decide +kernel
theorem dX12_drop_25 : decode cX12_drop 25 = .ok (.ishr, 1) := by decide +kernel
theorem dX12_drop_26 : decode cX12_drop 26 = .ok (.iconst 1, 1) := by decide +kernel
theorem dX12_drop_27 : decode cX12_drop 27 = .ok (.iand, 1) := by decide +kernel
theorem dX12_drop_28 : decode cX12_drop 28 = .ok (.ifCond .ne 6, 3) := by decide +kernel
theorem dX12_drop_31 : decode cX12_drop 31 = .ok (.bipush (-2), 2) := by decide +kernel
theorem dX12_drop_33 : decode cX12_drop 33 = .ok (.ireturn, 1) := by decide +kernel
theorem dX12_drop_34 : decode cX12_drop 34 = .ok (.aload_n 0, 1) := by decide +kernel
theorem dX12_drop_35 : decode cX12_drop 35 = .ok (.iload_n 1, 1) := by decide +kernel
theorem dX12_drop_36 : decode cX12_drop 36 = .ok (.iload_n 2, 1) := by decide +kernel
theorem dX12_drop_37 : decode cX12_drop 37 = .ok (.iload_n 3, 1) := by decide +kernel
theorem dX12_drop_38 : decode cX12_drop 38 = .ok (.iload 4, 2) := by decide +kernel
theorem dX12_drop_40 : decode cX12_drop 40 = .ok (.aload_n 0, 1) := by decide +kernel
theorem dX12_drop_41 : decode cX12_drop 41 = .ok (.iload_n 1, 1) := by decide +kernel
theorem dX12_drop_42 : decode cX12_drop 42 = .ok (.iload_n 2, 1) := by decide +kernel
theorem dX12_drop_43 : decode cX12_drop 43 = .ok (.iload_n 3, 1) := by decide +kernel
theorem dX12_drop_44 : decode cX12_drop 44 = .ok (.iload 4, 2) := by decide +kernel
theorem dX12_drop_46 : decode cX12_drop 46 = .ok (.invokevirtual 205, 3) := by decide +kernel
theorem dX12_drop_49 : decode cX12_drop 49 = .ok (.iconst 1, 1) := by decide +kernel
theorem dX12_drop_50 : decode cX12_drop 50 = .ok (.iload 5, 2) := by decide +kernel
theorem dX12_drop_52 : decode cX12_drop 52 = .ok (.ishl, 1) := by decide +kernel
theorem dX12_drop_53 : decode cX12_drop 53 = .ok (.iconst (-1), 1) := by decide +kernel
theorem dX12_drop_54 : decode cX12_drop 54 = .ok (.ixor, 1) := by decide +kernel
theorem dX12_drop_55 : decode cX12_drop 55 = .ok (.iand, 1) := by decide +kernel
theorem dX12_drop_56 : decode cX12_drop 56 = .ok (.invokevirtual 208, 3) := by decide +kernel
theorem dX12_drop_59 : decode cX12_drop 59 = .ok (.aload_n 0, 1) := by decide +kernel
theorem dX12_drop_60 : decode cX12_drop 60 = .ok (.iload_n 1, 1) := by decide +kernel
theorem dX12_drop_61 : decode cX12_drop 61 = .ok (.invokevirtual 212, 3) := by decide +kernel
theorem dX12_drop_64 : decode cX12_drop 64 = .ok (.ireturn, 1) := by decide +kernel
theorem ggX12_letter_X12_in : GoodIn wsX12_letter wsX12_in := gdC (gd1 m11_5)
theorem gX12_letter_X12_in : GoodIn wsX12_letter (va_wsS RX12 112 yX12_in wsX12_in) := gdC (gd3 m11_3 m11_4 m1_5 m11_5)
theorem dX12_letter_0 : decode cX12_letter 0 = .ok (.iload_n 1, 1) := by decide +kernel
theorem dX12_letter_1 : decode cX12_letter 1 = .ok (.iconst 0, 1) := by decide +kernel
theorem dX12_letter_2 : decode cX12_letter 2 = .ok (.iconst 5, 1) := by decide +kernel
theorem dX12_letter_3 : decode cX12_letter 3 = .ok (.invokestatic 112, 3) := by decide +kernel
theorem dX12_letter_6 : decode cX12_letter 6 = .ok (.ifCond .ne 6, 3) := by decide +kernel
theorem dX12_letter_9 : decode cX12_letter 9 = .ok (.bipush (-2), 2) := by decide +kernel
theorem dX12_letter_11 : decode cX12_letter 11 = .ok (.ireturn, 1) := by decide +kernel
theorem dX12_letter_12 : decode cX12_letter 12 = .ok (.aload_n 0, 1) := by decide +kernel
theorem dX12_letter_13 : decode cX12_letter 13 = .ok (.getfield 219, 3) := by decide +kernel
theorem dX12_letter_16 : decode cX12_letter 16 = .ok (.bipush 24, 2) := by decide +kernel
theorem dX12_letter_18 : decode cX12_letter 18 = .ok (.if_icmp .ne 6, 3) := by decide +kernel
theorem dX12_letter_21 : decode cX12_letter 21 = .ok (.bipush (-5), 2) := by decide +kernel
theorem dX12_letter_23 : decode cX12_letter 23 = .ok (.ireturn, 1) := by decide +kernel
theorem dX12_letter_24 : decode cX12_letter 24 = .ok (.aload_n 0, 1) := by decide +kernel
theorem dX12_letter_25 : decode cX12_letter 25 = .ok (.getfield 34, 3) := by decide +kernel
theorem dX12_letter_28 : decode cX12_letter 28 = .ok (.aload_n 0, 1) := by decide +kernel
theorem dX12_letter_29 : decode cX12_letter 29 = .ok (.getfield 219, 3) := by decide +kernel
theorem dX12_letter_32 : decode cX12_letter 32 = .ok (.iload_n 1, 1) := by decide +kernel
theorem dX12_letter_33 : decode cX12_letter 33 = .ok (.iastore, 1) := by decide +kernel
theorem dX12_letter_34 : decode cX12_letter 34 = .ok (.aload_n 0, 1) := by decide +kernel
theorem dX12_letter_35 : decode cX12_letter 35 = .ok (.dup, 1) := by decide +kernel
theorem dX12_letter_36 : decode cX12_letter 36 = .ok (.getfield 219, 3) := by decide +kernel
theorem dX12_letter_39 : decode cX12_letter 39 = .ok (.iconst 1, 1) := by decide +kernel
theorem dX12_letter_40 : decode cX12_letter 40 = .ok (.iadd, 1) := by decide +kernel
theorem dX12_letter_41 : decode cX12_letter 41 = .ok (.putfield 219, 3) := by decide +kernel
theorem dX12_letter_44 : decode cX12_letter 44 = .ok (.aload_n 0, 1) := by decide +kernel
theorem dX12_letter_45 : decode cX12_letter 45 = .ok (.getfield 219, 3) := by decide +kernel
theorem dX12_letter_48 : decode cX12_letter 48 = .ok (.ireturn, 1) := by decide +kernel
theorem ggX12_row_X12_in : GoodIn wsX12_row wsX12_in := gdC (gd1 m11_5)
theorem gX12_row_X12_in : GoodIn wsX12_row (va_wsS RX12 112 yX12_in wsX12_in) := gdC (gd3 m11_3 m11_4 m1_5 m11_5)
theorem dX12_row_0 : decode cX12_row 0 = .ok (.iload_n 3, 1) := by decide +kernel
theorem dX12_row_1 : decode cX12_row 1 = .ok (.iconst 0, 1) := by decide +kernel
theorem dX12_row_2 : decode cX12_row 2 = .ok (.bipush 20, 2) := by decide +kernel
theorem dX12_row_4 : decode cX12_row 4 = .ok (.invokestatic 112, 3) := by decide +kernel
theorem dX12_row_7 : decode cX12_row 7 = .ok (.ifCond .ne 6, 3) := by decide +kernel
theorem dX12_row_10 : decode cX12_row 10 = .ok (.bipush (-3), 2) := by decide +kernel
theorem dX12_row_12 : decode cX12_row 12 = .ok (.ireturn, 1) := by decide +kernel
theorem dX12_row_13 : decode cX12_row 13 = .ok (.iconst 0, 1) := by decide +kernel
theorem dX12_row_14 : decode cX12_row 14 = .ok (.istore 4, 2) := by decide +kernel
theorem dX12_row_16 : decode cX12_row 16 = .ok (.iload 4, 2) := by decide +kernel
theorem dX12_row_18 : decode cX12_row 18 = .ok (.iload_n 3, 1) := by decide +kernel
theorem dX12_row_19 : decode cX12_row 19 = .ok (.if_icmp .ge 29, 3) := by decide +kernel
theorem dX12_row_22 : decode cX12_row 22 = .ok (.lload_n 1, 1) := by decide +kernel
theorem dX12_row_23 : decode cX12_row 23 = .ok (.iconst 3, 1) := by decide +kernel
theorem dX12_row_24 : decode cX12_row 24 = .ok (.iload 4, 2) := by decide +kernel
theorem dX12_row_26 : decode cX12_row 26 = .ok (.imul, 1) := by decide +kernel
theorem dX12_row_27 : decode cX12_row 27 = .ok (.lshr, 1) := by decide +kernel
theorem dX12_row_28 : decode cX12_row 28 = .ok (.ldc2_w 222, 3) := by decide +kernel
theorem dX12_row_31 : decode cX12_row 31 = .ok (.land, 1) := by decide +kernel
theorem dX12_row_32 : decode cX12_row 32 = .ok (.ldc2_w 224, 3) := by decide +kernel
theorem dX12_row_35 : decode cX12_row 35 = .ok (.lcmp, 1) := by decide +kernel
theorem dX12_row_36 : decode cX12_row 36 = .ok (.ifCond .le 6, 3) := by decide +kernel
theorem dX12_row_39 : decode cX12_row 39 = .ok (.bipush (-2), 2) := by decide +kernel
theorem dX12_row_41 : decode cX12_row 41 = .ok (.ireturn, 1) := by decide +kernel
theorem dX12_row_42 : decode cX12_row 42 = .ok (.iinc 4 1, 3) := by decide +kernel
theorem dX12_row_45 : decode cX12_row 45 = .ok (.goto (-29), 3) := by decide +kernel
theorem dX12_row_48 : decode cX12_row 48 = .ok (.iconst 0, 1) := by decide +kernel
theorem dX12_row_49 : decode cX12_row 49 = .ok (.istore 4, 2) := by decide +kernel
theorem dX12_row_51 : decode cX12_row 51 = .ok (.iload 4, 2) := by decide +kernel
theorem dX12_row_53 : decode cX12_row 53 = .ok (.iload_n 3, 1) := by decide +kernel
theorem dX12_row_54 : decode cX12_row 54 = .ok (.if_icmp .ge 27, 3) := by decide +kernel
theorem dX12_row_57 : decode cX12_row 57 = .ok (.aload_n 0, 1) := by decide +kernel
theorem dX12_row_58 : decode cX12_row 58 = .ok (.getfield 34, 3) := by decide +kernel
theorem dX12_row_61 : decode cX12_row 61 = .ok (.iload 4, 2) := by decide +kernel
theorem dX12_row_63 : decode cX12_row 63 = .ok (.lload_n 1, 1) := by decide +kernel
theorem dX12_row_64 : decode cX12_row 64 = .ok (.iconst 3, 1) := by decide +kernel
theorem dX12_row_65 : decode cX12_row 65 = .ok (.iload 4, 2) := by decide +kernel
theorem dX12_row_67 : decode cX12_row 67 = .ok (.imul, 1) := by decide +kernel
theorem dX12_row_68 : decode cX12_row 68 = .ok (.lshr, 1) := by decide +kernel
theorem dX12_row_69 : decode cX12_row 69 = .ok (.ldc2_w 222, 3) := by decide +kernel
theorem dX12_row_72 : decode cX12_row 72 = .ok (.land, 1) := by decide +kernel
theorem dX12_row_73 : decode cX12_row 73 = .ok (.l2i, 1) := by decide +kernel
theorem dX12_row_74 : decode cX12_row 74 = .ok (.iastore, 1) := by decide +kernel
theorem dX12_row_75 : decode cX12_row 75 = .ok (.iinc 4 1, 3) := by decide +kernel
theorem dX12_row_78 : decode cX12_row 78 = .ok (.goto (-27), 3) := by decide +kernel
theorem dX12_row_81 : decode cX12_row 81 = .ok (.aload_n 0, 1) := by decide +kernel
theorem dX12_row_82 : decode cX12_row 82 = .ok (.iload_n 3, 1) := by decide +kernel
theorem dX12_row_83 : decode cX12_row 83 = .ok (.putfield 219, 3) := by decide +kernel
theorem dX12_row_86 : decode cX12_row 86 = .ok (.iconst 1, 1) := by decide +kernel
theorem dX12_row_87 : decode cX12_row 87 = .ok (.ireturn, 1) := by decide +kernel
theorem dX12_findPartners_0 : decode cX12_findPartners 0 = .ok (.iconst 0, 1) := by decide +kernel
theorem dX12_findPartners_1 : decode cX12_findPartners 1 = .ok (.istore_n 2, 1) := by decide +kernel
theorem dX12_findPartners_2 : decode cX12_findPartners 2 = .ok (.iconst 0, 1) := by decide +kernel
theorem dX12_findPartners_3 : decode cX12_findPartners 3 = .ok (.istore_n 3, 1) := by decide +kernel
theorem dX12_findPartners_4 : decode cX12_findPartners 4 = .ok (.iload_n 3, 1) := by decide +kernel
theorem dX12_findPartners_5 : decode cX12_findPartners 5 = .ok (.iload_n 1, 1) := by decide +kernel
theorem dX12_findPartners_6 : decode cX12_findPartners 6 = .ok (.if_icmp .ge 80, 3) := by decide +kernel
theorem dX12_findPartners_9 : decode cX12_findPartners 9 = .ok (.aload_n 0, 1) := by decide +kernel
theorem dX12_findPartners_10 : decode cX12_findPartners 10 = .ok (.getfield 37, 3) := by decide +kernel
theorem dX12_findPartners_13 : decode cX12_findPartners 13 = .ok (.iload_n 3, 1) := by decide +kernel
theorem dX12_findPartners_14 : decode cX12_findPartners 14 = .ok (.iconst (-1), 1) := by decide +kernel
theorem dX12_findPartners_15 : decode cX12_findPartners 15 = .ok (.iastore, 1) := by decide +kernel
theorem dX12_findPartners_16 : decode cX12_findPartners 16 = .ok (.aload_n 0, 1) := by decide +kernel
theorem dX12_findPartners_17 : decode cX12_findPartners 17 = .ok (.getfield 34, 3) := by decide +kernel
theorem dX12_findPartners_20 : decode cX12_findPartners 20 = .ok (.iload_n 3, 1) := by decide +kernel
theorem dX12_findPartners_21 : decode cX12_findPartners 21 = .ok (.iaload, 1) := by decide +kernel
theorem dX12_findPartners_22 : decode cX12_findPartners 22 = .ok (.iconst 2, 1) := by decide +kernel
theorem dX12_findPartners_23 : decode cX12_findPartners 23 = .ok (.if_icmp .ge 16, 3) := by decide +kernel
theorem dX12_findPartners_26 : decode cX12_findPartners 26 = .ok (.aload_n 0, 1) := by decide +kernel
theorem dX12_findPartners_27 : decode cX12_findPartners 27 = .ok (.getfield 40, 3) := by decide +kernel
theorem dX12_findPartners_30 : decode cX12_findPartners 30 = .ok (.iload_n 2, 1) := by decide +kernel
theorem dX12_findPartners_31 : decode cX12_findPartners 31 = .ok (.iload_n 3, 1) := by decide +kernel
theorem dX12_findPartners_32 : decode cX12_findPartners 32 = .ok (.iastore, 1) := by decide +kernel
theorem dX12_findPartners_33 : decode cX12_findPartners 33 = .ok (.iinc 2 1, 3) := by decide +kernel
theorem dX12_findPartners_36 : decode cX12_findPartners 36 = .ok (.goto 44, 3) := by decide +kernel
theorem dX12_findPartners_39 : decode cX12_findPartners 39 = .ok (.aload_n 0, 1) := by decide +kernel
theorem dX12_findPartners_40 : decode cX12_findPartners 40 = .ok (.getfield 34, 3) := by decide +kernel
theorem dX12_findPartners_43 : decode cX12_findPartners 43 = .ok (.iload_n 3, 1) := by decide +kernel
theorem dX12_findPartners_44 : decode cX12_findPartners 44 = .ok (.iaload, 1) := by decide +kernel
theorem dX12_findPartners_45 : decode cX12_findPartners 45 = .ok (.iconst 3, 1) := by decide +kernel
theorem dX12_findPartners_46 : decode cX12_findPartners 46 = .ok (.if_icmp .le 34, 3) := by decide +kernel
theorem dX12_findPartners_49 : decode cX12_findPartners 49 = .ok (.iload_n 2, 1) := by decide +kernel
theorem dX12_findPartners_50 : decode cX12_findPartners 50 = .ok (.ifCond .le 30, 3) := by decide +kernel
theorem dX12_findPartners_53 : decode cX12_findPartners 53 = .ok (.iinc 2 (-1), 3) := by decide +kernel
theorem dX12_findPartners_56 : decode cX12_findPartners 56 = .ok (.aload_n 0, 1) := by decide +kernel
theorem dX12_findPartners_57 : decode cX12_findPartners 57 = .ok (.getfield 37, 3) := by decide +kernel
theorem dX12_findPartners_60 : decode cX12_findPartners 60 = .ok (.iload_n 3, 1) := by decide +kernel
theorem dX12_findPartners_61 : decode cX12_findPartners 61 = .ok (.aload_n 0, 1) := by decide +kernel
theorem dX12_findPartners_62 : decode cX12_findPartners 62 = .ok (.getfield 40, 3) := by decide +kernel
theorem dX12_findPartners_65 : decode cX12_findPartners 65 = .ok (.iload_n 2, 1) := by decide +kernel
theorem dX12_findPartners_66 : decode cX12_findPartners 66 = .ok (.iaload, 1) := by decide +kernel
theorem dX12_findPartners_67 : decode cX12_findPartners 67 = .ok (.iastore, 1) := by decide +kernel
theorem dX12_findPartners_68 : decode cX12_findPartners 68 = .ok (.aload_n 0, 1) := by decide +kernel
theorem dX12_findPartners_69 : decode cX12_findPartners 69 = .ok (.getfield 37, 3) := by decide +kernel
theorem dX12_findPartners_72 : decode cX12_findPartners 72 = .ok (.aload_n 0, 1) := by decide +kernel
theorem dX12_findPartners_73 : decode cX12_findPartners 73 = .ok (.getfield 40, 3) := by decide +kernel
theorem dX12_findPartners_76 : decode cX12_findPartners 76 = .ok (.iload_n 2, 1) := by decide +kernel
theorem dX12_findPartners_77 : decode cX12_findPartners 77 = .ok (.iaload, 1) := by decide +kernel
theorem dX12_findPartners_78 : decode cX12_findPartners 78 = .ok (.iload_n 3, 1) := by decide +kernel
theorem dX12_findPartners_79 : decode cX12_findPartners 79 = .ok (.iastore, 1) := by decide +kernel
theorem dX12_findPartners_80 : decode cX12_findPartners 80 = .ok (.iinc 3 1, 3) := by decide +kernel
theorem dX12_findPartners_83 : decode cX12_findPartners 83 = .ok (.goto (-79), 3) := by decide +kernel
theorem dX12_findPartners_86 : decode cX12_findPartners 86 = .ok (.iload_n 2, 1) := by decide +kernel
theorem dX12_findPartners_87 : decode cX12_findPartners 87 = .ok (.ireturn, 1) := by decide +kernel
theorem ggX12_partner_X12_in : GoodIn wsX12_partner wsX12_in := gdC (gd1 m11_5)
theorem gX12_partner_X12_in : GoodIn wsX12_partner (va_wsS RX12 112 yX12_in wsX12_in) := gdC (gd3 m11_3 m11_4 m1_5 m11_5)
theorem ggX12_partner_X12_findPartners : GoodIn wsX12_partner wsX12_findPartners := gdC (gd1 m25_15)
theorem gX12_partner_X12_findPartners : GoodIn wsX12_partner (wsV RX12 226 RX12 yX12_findPartners wsX12_findPartners) := gdC (gd4 m25_12 m25_13 m25_14 m1_5 m25_15)
theorem dX12_partner_0 : decode cX12_partner 0 = .ok (.iload_n 1, 1) := by decide +kernel
theorem dX12_partner_1 : decode cX12_partner 1 = .ok (.iconst 0, 1) := by decide +kernel
theorem dX12_partner_2 : decode cX12_partner 2 = .ok (.aload_n 0, 1) := by decide +kernel
theorem dX12_partner_3 : decode cX12_partner 3 = .ok (.getfield 219, 3) := by decide +kernel
theorem dX12_partner_6 : decode cX12_partner 6 = .ok (.iconst 1, 1) := by decide +kernel
theorem dX12_partner_7 : decode cX12_partner 7 = .ok (.isub, 1) := by decide +kernel
theorem dX12_partner_8 : decode cX12_partner 8 = .ok (.invokestatic 112, 3) := by decide +kernel
theorem dX12_partner_11 : decode cX12_partner 11 = .ok (.ifCond .ne 6, 3) := by decide +kernel
theorem dX12_partner_14 : decode cX12_partner 14 = .ok (.bipush (-3), 2) := by decide +kernel
theorem dX12_partner_16 : decode cX12_partner 16 = .ok (.ireturn, 1) := by decide +kernel
theorem dX12_partner_17 : decode cX12_partner 17 = .ok (.aload_n 0, 1) := by decide +kernel
theorem dX12_partner_18 : decode cX12_partner 18 = .ok (.aload_n 0, 1) := by decide +kernel
theorem dX12_partner_19 : decode cX12_partner 19 = .ok (.getfield 219, 3) := by decide +kernel
theorem dX12_partner_22 : decode cX12_partner 22 = .ok (.invokevirtual 226, 3) := by decide +kernel
theorem dX12_partner_25 : decode cX12_partner 25 = .ok (.pop, 1) := by decide +kernel
theorem dX12_partner_26 : decode cX12_partner 26 = .ok (.aload_n 0, 1) := by decide +kernel
theorem dX12_partner_27 : decode cX12_partner 27 = .ok (.getfield 37, 3) := by decide +kernel
theorem dX12_partner_30 : decode cX12_partner 30 = .ok (.iload_n 1, 1) := by decide +kernel
theorem dX12_partner_31 : decode cX12_partner 31 = .ok (.iaload, 1) := by decide +kernel
theorem dX12_partner_32 : decode cX12_partner 32 = .ok (.ireturn, 1) := by decide +kernel
theorem ggX12_depth_X12_in : GoodIn wsX12_depth wsX12_in := gdC (gd1 m11_5)
theorem gX12_depth_X12_in : GoodIn wsX12_depth (va_wsS RX12 112 yX12_in wsX12_in) := gdC (gd3 m11_3 m11_4 m1_5 m11_5)
theorem ggX12_depth_X12_findPartners : GoodIn wsX12_depth wsX12_findPartners := gdC (gd1 m25_15)
theorem gX12_depth_X12_findPartners : GoodIn wsX12_depth (wsV RX12 226 RX12 yX12_findPartners wsX12_findPartners) := gdC (gd4 m25_12 m25_13 m25_14 m1_5 m25_15)
theorem dX12_depth_0 : decode cX12_depth 0 = .ok (.iload_n 1, 1) := by decide +kernel
theorem dX12_depth_1 : decode cX12_depth 1 = .ok (.iconst 0, 1) := by decide +kernel
theorem dX12_depth_2 : decode cX12_depth 2 = .ok (.aload_n 0, 1) := by decide +kernel
theorem dX12_depth_3 : decode cX12_depth 3 = .ok (.getfield 219, 3) := by decide +kernel
theorem dX12_depth_6 : decode cX12_depth 6 = .ok (.invokestatic 112, 3) := by decide +kernel
theorem dX12_depth_9 : decode cX12_depth 9 = .ok (.ifCond .eq 11, 3) := by decide +kernel
theorem dX12_depth_12 : decode cX12_depth 12 = .ok (.aload_n 0, 1) := by decide +kernel
theorem dX12_depth_13 : decode cX12_depth 13 = .ok (.iload_n 1, 1) := by decide +kernel
theorem dX12_depth_14 : decode cX12_depth 14 = .ok (.invokevirtual 226, 3) := by decide +kernel
theorem dX12_depth_17 : decode cX12_depth 17 = .ok (.goto 5, 3) := by decide +kernel
theorem dX12_depth_20 : decode cX12_depth 20 = .ok (.bipush (-3), 2) := by decide +kernel
theorem dX12_depth_22 : decode cX12_depth 22 = .ok (.ireturn, 1) := by decide +kernel
theorem dX12_isOf_0 : decode cX12_isOf 0 = .ok (.iload_n 0, 1) := by decide +kernel
theorem dX12_isOf_1 : decode cX12_isOf 1 = .ok (.iconst 2, 1) := by decide +kernel
theorem dX12_isOf_2 : decode cX12_isOf 2 = .ok (.if_icmp .eq 8, 3) := by decide +kernel
theorem dX12_isOf_5 : decode cX12_isOf 5 = .ok (.iload_n 0, 1) := by decide +kernel
theorem dX12_isOf_6 : decode cX12_isOf 6 = .ok (.iload_n 1, 1) := by decide +kernel
theorem dX12_isOf_7 : decode cX12_isOf 7 = .ok (.if_icmp .ne 7, 3) := by decide +kernel
theorem dX12_isOf_10 : decode cX12_isOf 10 = .ok (.iconst 1, 1) := by decide +kernel
theorem dX12_isOf_11 : decode cX12_isOf 11 = .ok (.goto 4, 3) := by decide +kernel
theorem dX12_isOf_14 : decode cX12_isOf 14 = .ok (.iconst 0, 1) := by decide +kernel
theorem dX12_isOf_15 : decode cX12_isOf 15 = .ok (.ireturn, 1) := by decide +kernel
theorem ggX12_itself_X12_isOf : GoodIn wsX12_itself wsX12_isOf := gdC (gd1 m32_3)
theorem gX12_itself_X12_isOf : GoodIn wsX12_itself (va_wsS RX12 229 yX12_isOf wsX12_isOf) := gdC (gd3 m32_1 m32_2 m1_5 m32_3)
theorem dX12_itself_0 : decode cX12_itself 0 = .ok (.iconst 0, 1) := by decide +kernel
theorem dX12_itself_1 : decode cX12_itself 1 = .ok (.istore_n 2, 1) := by decide +kernel
theorem dX12_itself_2 : decode cX12_itself 2 = .ok (.iconst 0, 1) := by decide +kernel
theorem dX12_itself_3 : decode cX12_itself 3 = .ok (.istore_n 3, 1) := by decide +kernel
theorem dX12_itself_4 : decode cX12_itself 4 = .ok (.iload_n 3, 1) := by decide +kernel
theorem dX12_itself_5 : decode cX12_itself 5 = .ok (.iconst 2, 1) := by decide +kernel
theorem dX12_itself_6 : decode cX12_itself 6 = .ok (.if_icmp .ge 51, 3) := by decide +kernel
theorem dX12_itself_9 : decode cX12_itself 9 = .ok (.iconst 0, 1) := by decide +kernel
theorem dX12_itself_10 : decode cX12_itself 10 = .ok (.istore 4, 2) := by decide +kernel
theorem dX12_itself_12 : decode cX12_itself 12 = .ok (.iload 4, 2) := by decide +kernel
theorem dX12_itself_14 : decode cX12_itself 14 = .ok (.aload_n 0, 1) := by decide +kernel
theorem dX12_itself_15 : decode cX12_itself 15 = .ok (.getfield 7, 3) := by decide +kernel
theorem dX12_itself_18 : decode cX12_itself 18 = .ok (.iload_n 3, 1) := by decide +kernel
theorem dX12_itself_19 : decode cX12_itself 19 = .ok (.iaload, 1) := by decide +kernel
theorem dX12_itself_20 : decode cX12_itself 20 = .ok (.if_icmp .ge 31, 3) := by decide +kernel
theorem dX12_itself_23 : decode cX12_itself 23 = .ok (.iload_n 1, 1) := by decide +kernel
theorem dX12_itself_24 : decode cX12_itself 24 = .ok (.iload_n 3, 1) := by decide +kernel
theorem dX12_itself_25 : decode cX12_itself 25 = .ok (.invokestatic 229, 3) := by decide +kernel
theorem dX12_itself_28 : decode cX12_itself 28 = .ok (.ifCond .eq 23, 3) := by decide +kernel
theorem dX12_itself_31 : decode cX12_itself 31 = .ok (.iload_n 2, 1) := by decide +kernel
theorem dX12_itself_32 : decode cX12_itself 32 = .ok (.iconst 1, 1) := by decide +kernel
theorem dX12_itself_33 : decode cX12_itself 33 = .ok (.bipush 9, 2) := by decide +kernel
theorem dX12_itself_35 : decode cX12_itself 35 = .ok (.iload_n 3, 1) := by decide +kernel
theorem dX12_itself_36 : decode cX12_itself 36 = .ok (.imul, 1) := by decide +kernel
theorem dX12_itself_37 : decode cX12_itself 37 = .ok (.iconst 4, 1) := by decide +kernel
theorem dX12_itself_38 : decode cX12_itself 38 = .ok (.iload 4, 2) := by decide +kernel
theorem dX12_itself_40 : decode cX12_itself 40 = .ok (.imul, 1) := by decide +kernel
theorem dX12_itself_41 : decode cX12_itself 41 = .ok (.iadd, 1) := by decide +kernel
theorem dX12_itself_42 : decode cX12_itself 42 = .ok (.ishl, 1) := by decide +kernel
theorem dX12_itself_43 : decode cX12_itself 43 = .ok (.ior, 1) := by decide +kernel
theorem dX12_itself_44 : decode cX12_itself 44 = .ok (.istore_n 2, 1) := by decide +kernel
theorem dX12_itself_45 : decode cX12_itself 45 = .ok (.iinc 4 1, 3) := by decide +kernel
theorem dX12_itself_48 : decode cX12_itself 48 = .ok (.goto (-36), 3) := by decide +kernel
theorem dX12_itself_51 : decode cX12_itself 51 = .ok (.iinc 3 1, 3) := by decide +kernel
theorem dX12_itself_54 : decode cX12_itself 54 = .ok (.goto (-50), 3) := by decide +kernel
theorem dX12_itself_57 : decode cX12_itself 57 = .ok (.iload_n 2, 1) := by decide +kernel
theorem dX12_itself_58 : decode cX12_itself 58 = .ok (.ireturn, 1) := by decide +kernel
theorem dX12_follow_0 : decode cX12_follow 0 = .ok (.iconst 0, 1) := by decide +kernel
theorem dX12_follow_1 : decode cX12_follow 1 = .ok (.istore_n 2, 1) := by decide +kernel
theorem dX12_follow_2 : decode cX12_follow 2 = .ok (.iconst 0, 1) := by decide +kernel
theorem dX12_follow_3 : decode cX12_follow 3 = .ok (.istore_n 3, 1) := by decide +kernel
theorem dX12_follow_4 : decode cX12_follow 4 = .ok (.iload_n 3, 1) := by decide +kernel
theorem dX12_follow_5 : decode cX12_follow 5 = .ok (.bipush 18, 2) := by decide +kernel
theorem dX12_follow_7 : decode cX12_follow 7 = .ok (.if_icmp .ge 71, 3) := by decide +kernel
theorem dX12_follow_10 : decode cX12_follow 10 = .ok (.iload_n 3, 1) := by decide +kernel
theorem dX12_follow_11 : decode cX12_follow 11 = .ok (.bipush 9, 2) := by decide +kernel
theorem dX12_follow_13 : decode cX12_follow 13 = .ok (.idiv, 1) := by decide +kernel
theorem dX12_follow_14 : decode cX12_follow 14 = .ok (.bipush 9, 2) := by decide +kernel
theorem dX12_follow_16 : decode cX12_follow 16 = .ok (.imul, 1) := by decide +kernel
theorem dX12_follow_17 : decode cX12_follow 17 = .ok (.istore 4, 2) := by decide +kernel
theorem dX12_follow_19 : decode cX12_follow 19 = .ok (.iload_n 3, 1) := by decide +kernel
theorem dX12_follow_20 : decode cX12_follow 20 = .ok (.bipush 9, 2) := by decide +kernel
theorem dX12_follow_22 : decode cX12_follow 22 = .ok (.irem, 1) := by decide +kernel
theorem dX12_follow_23 : decode cX12_follow 23 = .ok (.iconst 3, 1) := by decide +kernel
theorem dX12_follow_24 : decode cX12_follow 24 = .ok (.idiv, 1) := by decide +kernel
theorem dX12_follow_25 : decode cX12_follow 25 = .ok (.istore 5, 2) := by decide +kernel
theorem dX12_follow_27 : decode cX12_follow 27 = .ok (.iload_n 3, 1) := by decide +kernel
theorem dX12_follow_28 : decode cX12_follow 28 = .ok (.iconst 3, 1) := by decide +kernel
theorem dX12_follow_29 : decode cX12_follow 29 = .ok (.irem, 1) := by decide +kernel
theorem dX12_follow_30 : decode cX12_follow 30 = .ok (.istore 6, 2) := by decide +kernel
theorem dX12_follow_32 : decode cX12_follow 32 = .ok (.iload_n 1, 1) := by decide +kernel
theorem dX12_follow_33 : decode cX12_follow 33 = .ok (.iload 4, 2) := by decide +kernel
theorem dX12_follow_35 : decode cX12_follow 35 = .ok (.iconst 3, 1) := by decide +kernel
theorem dX12_follow_36 : decode cX12_follow 36 = .ok (.iload 6, 2) := by decide +kernel
theorem dX12_follow_38 : decode cX12_follow 38 = .ok (.imul, 1) := by decide +kernel
theorem dX12_follow_39 : decode cX12_follow 39 = .ok (.iadd, 1) := by decide +kernel
theorem dX12_follow_40 : decode cX12_follow 40 = .ok (.ishr, 1) := by decide +kernel
theorem dX12_follow_41 : decode cX12_follow 41 = .ok (.bipush 7, 2) := by decide +kernel
theorem dX12_follow_43 : decode cX12_follow 43 = .ok (.iand, 1) := by decide +kernel
theorem dX12_follow_44 : decode cX12_follow 44 = .ok (.istore 7, 2) := by decide +kernel
theorem dX12_follow_46 : decode cX12_follow 46 = .ok (.iload_n 2, 1) := by decide +kernel
theorem dX12_follow_47 : decode cX12_follow 47 = .ok (.iload_n 0, 1) := by decide +kernel
theorem dX12_follow_48 : decode cX12_follow 48 = .ok (.iload_n 3, 1) := by decide +kernel
theorem dX12_follow_49 : decode cX12_follow 49 = .ok (.ishr, 1) := by decide +kernel
theorem dX12_follow_50 : decode cX12_follow 50 = .ok (.iconst 1, 1) := by decide +kernel
theorem dX12_follow_51 : decode cX12_follow 51 = .ok (.iand, 1) := by decide +kernel
theorem dX12_follow_52 : decode cX12_follow 52 = .ok (.iconst 1, 1) := by decide +kernel
theorem dX12_follow_53 : decode cX12_follow 53 = .ok (.if_icmp .ne 16, 3) := by decide +kernel
theorem dX12_follow_56 : decode cX12_follow 56 = .ok (.iload 7, 2) := by decide +kernel
theorem dX12_follow_58 : decode cX12_follow 58 = .ok (.iload 4, 2) := by decide +kernel
theorem dX12_follow_60 : decode cX12_follow 60 = .ok (.iconst 3, 1) := by decide +kernel
theorem dX12_follow_61 : decode cX12_follow 61 = .ok (.iload 5, 2) := by decide +kernel
theorem dX12_follow_63 : decode cX12_follow 63 = .ok (.imul, 1) := by decide +kernel
theorem dX12_follow_64 : decode cX12_follow 64 = .ok (.iadd, 1) := by decide +kernel
theorem dX12_follow_65 : decode cX12_follow 65 = .ok (.ishl, 1) := by decide +kernel
theorem dX12_follow_66 : decode cX12_follow 66 = .ok (.goto 4, 3) := by decide +kernel
theorem dX12_follow_69 : decode cX12_follow 69 = .ok (.iconst 0, 1) := by decide +kernel
theorem dX12_follow_70 : decode cX12_follow 70 = .ok (.ior, 1) := by decide +kernel
theorem dX12_follow_71 : decode cX12_follow 71 = .ok (.istore_n 2, 1) := by decide +kernel
theorem dX12_follow_72 : decode cX12_follow 72 = .ok (.iinc 3 1, 3) := by decide +kernel
theorem dX12_follow_75 : decode cX12_follow 75 = .ok (.goto (-71), 3) := by decide +kernel
theorem dX12_follow_78 : decode cX12_follow 78 = .ok (.iload_n 2, 1) := by decide +kernel
theorem dX12_follow_79 : decode cX12_follow 79 = .ok (.ireturn, 1) := by decide +kernel
theorem dX12_image_0 : decode cX12_image 0 = .ok (.iconst 0, 1) := by decide +kernel
theorem dX12_image_1 : decode cX12_image 1 = .ok (.istore_n 2, 1) := by decide +kernel
theorem dX12_image_2 : decode cX12_image 2 = .ok (.iconst 0, 1) := by decide +kernel
theorem dX12_image_3 : decode cX12_image 3 = .ok (.istore_n 3, 1) := by decide +kernel
theorem dX12_image_4 : decode cX12_image 4 = .ok (.iload_n 3, 1) := by decide +kernel
theorem dX12_image_5 : decode cX12_image 5 = .ok (.bipush 6, 2) := by decide +kernel
theorem dX12_image_7 : decode cX12_image 7 = .ok (.if_icmp .ge 52, 3) := by decide +kernel
theorem dX12_image_10 : decode cX12_image 10 = .ok (.iload_n 1, 1) := by decide +kernel
theorem dX12_image_11 : decode cX12_image 11 = .ok (.iload_n 3, 1) := by decide +kernel
theorem dX12_image_12 : decode cX12_image 12 = .ok (.iconst 3, 1) := by decide +kernel
theorem dX12_image_13 : decode cX12_image 13 = .ok (.idiv, 1) := by decide +kernel
theorem dX12_image_14 : decode cX12_image 14 = .ok (.bipush 9, 2) := by decide +kernel
theorem dX12_image_16 : decode cX12_image 16 = .ok (.imul, 1) := by decide +kernel
theorem dX12_image_17 : decode cX12_image 17 = .ok (.iconst 3, 1) := by decide +kernel
theorem dX12_image_18 : decode cX12_image 18 = .ok (.iload_n 3, 1) := by decide +kernel
theorem dX12_image_19 : decode cX12_image 19 = .ok (.iconst 3, 1) := by decide +kernel
theorem dX12_image_20 : decode cX12_image 20 = .ok (.irem, 1) := by decide +kernel
theorem dX12_image_21 : decode cX12_image 21 = .ok (.imul, 1) := by decide +kernel
theorem dX12_image_22 : decode cX12_image 22 = .ok (.iadd, 1) := by decide +kernel
theorem dX12_image_23 : decode cX12_image 23 = .ok (.ishr, 1) := by decide +kernel
theorem dX12_image_24 : decode cX12_image 24 = .ok (.bipush 7, 2) := by decide +kernel
theorem dX12_image_26 : decode cX12_image 26 = .ok (.iand, 1) := by decide +kernel
theorem dX12_image_27 : decode cX12_image 27 = .ok (.istore 4, 2) := by decide +kernel
theorem dX12_image_29 : decode cX12_image 29 = .ok (.iload_n 2, 1) := by decide +kernel
theorem dX12_image_30 : decode cX12_image 30 = .ok (.iload_n 0, 1) := by decide +kernel
theorem dX12_image_31 : decode cX12_image 31 = .ok (.iload_n 3, 1) := by decide +kernel
theorem dX12_image_32 : decode cX12_image 32 = .ok (.ishr, 1) := by decide +kernel
theorem dX12_image_33 : decode cX12_image 33 = .ok (.iconst 1, 1) := by decide +kernel
theorem dX12_image_34 : decode cX12_image 34 = .ok (.iand, 1) := by decide +kernel
theorem dX12_image_35 : decode cX12_image 35 = .ok (.iconst 1, 1) := by decide +kernel
theorem dX12_image_36 : decode cX12_image 36 = .ok (.if_icmp .ne 14, 3) := by decide +kernel
theorem dX12_image_39 : decode cX12_image 39 = .ok (.iload 4, 2) := by decide +kernel
theorem dX12_image_41 : decode cX12_image 41 = .ok (.iload_n 3, 1) := by decide +kernel
theorem dX12_image_42 : decode cX12_image 42 = .ok (.iconst 3, 1) := by decide +kernel
theorem dX12_image_43 : decode cX12_image 43 = .ok (.idiv, 1) := by decide +kernel
theorem dX12_image_44 : decode cX12_image 44 = .ok (.iconst 3, 1) := by decide +kernel
theorem dX12_image_45 : decode cX12_image 45 = .ok (.imul, 1) := by decide +kernel
theorem dX12_image_46 : decode cX12_image 46 = .ok (.ishl, 1) := by decide +kernel
theorem dX12_image_47 : decode cX12_image 47 = .ok (.goto 4, 3) := by decide +kernel
theorem dX12_image_50 : decode cX12_image 50 = .ok (.iconst 0, 1) := by decide +kernel
theorem dX12_image_51 : decode cX12_image 51 = .ok (.ior, 1) := by decide +kernel
theorem dX12_image_52 : decode cX12_image 52 = .ok (.istore_n 2, 1) := by decide +kernel
theorem dX12_image_53 : decode cX12_image 53 = .ok (.iinc 3 1, 3) := by decide +kernel
theorem dX12_image_56 : decode cX12_image 56 = .ok (.goto (-52), 3) := by decide +kernel
theorem dX12_image_59 : decode cX12_image 59 = .ok (.iload_n 2, 1) := by decide +kernel
theorem dX12_image_60 : decode cX12_image 60 = .ok (.ireturn, 1) := by decide +kernel
theorem ggX12_plain_X12_isOf : GoodIn wsX12_plain wsX12_isOf := gdC (gd1 m32_3)
theorem gX12_plain_X12_isOf : GoodIn wsX12_plain (va_wsS RX12 229 yX12_isOf wsX12_isOf) := gdC (gd3 m32_1 m32_2 m1_5 m32_3)
theorem ggX12_plain_X12_goAt : GoodIn wsX12_plain wsX12_goAt := gdC (gd1 m20_21)
theorem gX12_plain_X12_goAt : GoodIn wsX12_plain (va_wsS RX12 198 yX12_goAt wsX12_goAt) := gdC (gd3 m20_19 m20_20 m1_5 m20_21)
theorem dX12_plain_0 : decode cX12_plain 0 = .ok (.iconst 0, 1) := by decide +kernel
theorem dX12_plain_1 : decode cX12_plain 1 = .ok (.istore_n 3, 1) := by decide +kernel
theorem dX12_plain_2 : decode cX12_plain 2 = .ok (.iconst 0, 1) := by decide +kernel
theorem dX12_plain_3 : decode cX12_plain 3 = .ok (.istore 4, 2) := by decide +kernel
theorem dX12_plain_5 : decode cX12_plain 5 = .ok (.iload 4, 2) := by decide +kernel
theorem dX12_plain_7 : decode cX12_plain 7 = .ok (.iconst 2, 1) := by decide +kernel
theorem dX12_plain_8 : decode cX12_plain 8 = .ok (.if_icmp .ge 60, 3) := by decide +kernel
theorem dX12_plain_11 : decode cX12_plain 11 = .ok (.iconst 0, 1) := by decide +kernel
theorem dX12_plain_12 : decode cX12_plain 12 = .ok (.istore 5, 2) := by decide +kernel
theorem dX12_plain_14 : decode cX12_plain 14 = .ok (.iload 5, 2) := by decide +kernel
theorem dX12_plain_16 : decode cX12_plain 16 = .ok (.iconst 3, 1) := by decide +kernel
theorem dX12_plain_17 : decode cX12_plain 17 = .ok (.if_icmp .ge 45, 3) := by decide +kernel
theorem dX12_plain_20 : decode cX12_plain 20 = .ok (.iload_n 1, 1) := by decide +kernel
theorem dX12_plain_21 : decode cX12_plain 21 = .ok (.iload 4, 2) := by decide +kernel
theorem dX12_plain_23 : decode cX12_plain 23 = .ok (.invokestatic 229, 3) := by decide +kernel
theorem dX12_plain_26 : decode cX12_plain 26 = .ok (.ifCond .eq 36, 3) := by decide +kernel
theorem dX12_plain_29 : decode cX12_plain 29 = .ok (.iload_n 3, 1) := by decide +kernel
theorem dX12_plain_30 : decode cX12_plain 30 = .ok (.aload_n 0, 1) := by decide +kernel
theorem dX12_plain_31 : decode cX12_plain 31 = .ok (.getfield 22, 3) := by decide +kernel
theorem dX12_plain_34 : decode cX12_plain 34 = .ok (.iload 4, 2) := by decide +kernel
theorem dX12_plain_36 : decode cX12_plain 36 = .ok (.iload_n 2, 1) := by decide +kernel
theorem dX12_plain_37 : decode cX12_plain 37 = .ok (.iload 5, 2) := by decide +kernel
theorem dX12_plain_39 : decode cX12_plain 39 = .ok (.invokestatic 198, 3) := by decide +kernel
theorem dX12_plain_42 : decode cX12_plain 42 = .ok (.iaload, 1) := by decide +kernel
theorem dX12_plain_43 : decode cX12_plain 43 = .ok (.bipush 9, 2) := by decide +kernel
theorem dX12_plain_45 : decode cX12_plain 45 = .ok (.iload 4, 2) := by decide +kernel
theorem dX12_plain_47 : decode cX12_plain 47 = .ok (.imul, 1) := by decide +kernel
theorem dX12_plain_48 : decode cX12_plain 48 = .ok (.iconst 3, 1) := by decide +kernel
theorem dX12_plain_49 : decode cX12_plain 49 = .ok (.iload 5, 2) := by decide +kernel
theorem dX12_plain_51 : decode cX12_plain 51 = .ok (.imul, 1) := by decide +kernel
theorem dX12_plain_52 : decode cX12_plain 52 = .ok (.iadd, 1) := by decide +kernel
theorem dX12_plain_53 : decode cX12_plain 53 = .ok (.ishl, 1) := by decide +kernel
theorem dX12_plain_54 : decode cX12_plain 54 = .ok (.ior, 1) := by decide +kernel
theorem dX12_plain_55 : decode cX12_plain 55 = .ok (.istore_n 3, 1) := by decide +kernel
theorem dX12_plain_56 : decode cX12_plain 56 = .ok (.iinc 5 1, 3) := by decide +kernel
theorem dX12_plain_59 : decode cX12_plain 59 = .ok (.goto (-45), 3) := by decide +kernel
theorem dX12_plain_62 : decode cX12_plain 62 = .ok (.iinc 4 1, 3) := by decide +kernel
theorem dX12_plain_65 : decode cX12_plain 65 = .ok (.goto (-60), 3) := by decide +kernel
theorem dX12_plain_68 : decode cX12_plain 68 = .ok (.iload_n 3, 1) := by decide +kernel
theorem dX12_plain_69 : decode cX12_plain 69 = .ok (.ireturn, 1) := by decide +kernel
theorem ggX12_block_X12_isOf : GoodIn wsX12_block wsX12_isOf := gdC (gd1 m32_3)
theorem gX12_block_X12_isOf : GoodIn wsX12_block (va_wsS RX12 229 yX12_isOf wsX12_isOf) := gdC (gd3 m32_1 m32_2 m1_5 m32_3)
theorem ggX12_block_X12_putAt : GoodIn wsX12_block wsX12_putAt := gdC (gd1 m20_18)
theorem gX12_block_X12_putAt : GoodIn wsX12_block (va_wsS RX12 194 yX12_putAt wsX12_putAt) := gdC (gd3 m20_16 m20_17 m1_5 m20_18)
theorem ggX12_block_X12_image : GoodIn wsX12_block wsX12_image := gdC (gd1 m32_18)
theorem gX12_block_X12_image : GoodIn wsX12_block (va_wsS RX12 232 yX12_image wsX12_image) := gdC (gd3 m32_16 m32_17 m1_5 m32_18)
theorem ggX12_block_X12_closeAt : GoodIn wsX12_block wsX12_closeAt := gdC (gd1 m21_0)
theorem gX12_block_X12_closeAt : GoodIn wsX12_block (va_wsS RX12 202 yX12_closeAt wsX12_closeAt) := gdC (gd3 m20_22 m20_23 m1_5 m21_0)
theorem dX12_block_0 : decode cX12_block 0 = .ok (.iconst 0, 1) := by decide +kernel
theorem dX12_block_1 : decode cX12_block 1 = .ok (.istore 5, 2) := by decide +kernel
theorem dX12_block_3 : decode cX12_block 3 = .ok (.iconst 0, 1) := by decide +kernel
theorem dX12_block_4 : decode cX12_block 4 = .ok (.istore 6, 2) := by decide +kernel
theorem dX12_block_6 : decode cX12_block 6 = .ok (.iload 6, 2) := by decide +kernel
theorem dX12_block_8 : decode cX12_block 8 = .ok (.iconst 2, 1) := by decide +kernel
theorem dX12_block_9 : decode cX12_block 9 = .ok (.if_icmp .ge 154, 3) := by decide +kernel
theorem dX12_block_12 : decode cX12_block 12 = .ok (.iconst 0, 1) := by decide +kernel
theorem dX12_block_13 : decode cX12_block 13 = .ok (.istore 7, 2) := by decide +kernel
theorem dX12_block_15 : decode cX12_block 15 = .ok (.iload 7, 2) := by decide +kernel
theorem dX12_block_17 : decode cX12_block 17 = .ok (.iconst 3, 1) := by decide +kernel
theorem dX12_block_18 : decode cX12_block 18 = .ok (.if_icmp .ge 139, 3) := by decide +kernel
theorem dX12_block_21 : decode cX12_block 21 = .ok (.iload_n 1, 1) := by decide +kernel
theorem dX12_block_22 : decode cX12_block 22 = .ok (.iload 6, 2) := by decide +kernel
theorem dX12_block_24 : decode cX12_block 24 = .ok (.invokestatic 229, 3) := by decide +kernel
theorem dX12_block_27 : decode cX12_block 27 = .ok (.ifCond .eq 130, 3) := by decide +kernel
theorem dX12_block_30 : decode cX12_block 30 = .ok (.iconst 0, 1) := by decide +kernel
theorem dX12_block_31 : decode cX12_block 31 = .ok (.istore 8, 2) := by decide +kernel
theorem dX12_block_33 : decode cX12_block 33 = .ok (.iload 8, 2) := by decide +kernel
theorem dX12_block_35 : decode cX12_block 35 = .ok (.aload_n 0, 1) := by decide +kernel
theorem dX12_block_36 : decode cX12_block 36 = .ok (.getfield 13, 3) := by decide +kernel
theorem dX12_block_39 : decode cX12_block 39 = .ok (.iload 6, 2) := by decide +kernel
theorem dX12_block_41 : decode cX12_block 41 = .ok (.iaload, 1) := by decide +kernel
theorem dX12_block_42 : decode cX12_block 42 = .ok (.if_icmp .ge 109, 3) := by decide +kernel
theorem dX12_block_45 : decode cX12_block 45 = .ok (.aload_n 0, 1) := by decide +kernel
theorem dX12_block_46 : decode cX12_block 46 = .ok (.getfield 19, 3) := by decide +kernel
theorem dX12_block_49 : decode cX12_block 49 = .ok (.iload 6, 2) := by decide +kernel
theorem dX12_block_51 : decode cX12_block 51 = .ok (.iload_n 2, 1) := by decide +kernel
theorem dX12_block_52 : decode cX12_block 52 = .ok (.iload 7, 2) := by decide +kernel
theorem dX12_block_54 : decode cX12_block 54 = .ok (.iload 8, 2) := by decide +kernel
theorem dX12_block_56 : decode cX12_block 56 = .ok (.invokestatic 194, 3) := by decide +kernel
theorem dX12_block_59 : decode cX12_block 59 = .ok (.iaload, 1) := by decide +kernel
theorem dX12_block_60 : decode cX12_block 60 = .ok (.istore 9, 2) := by decide +kernel
theorem dX12_block_62 : decode cX12_block 62 = .ok (.iload 9, 2) := by decide +kernel
theorem dX12_block_64 : decode cX12_block 64 = .ok (.iconst 3, 1) := by decide +kernel
theorem dX12_block_65 : decode cX12_block 65 = .ok (.iload 6, 2) := by decide +kernel
theorem dX12_block_67 : decode cX12_block 67 = .ok (.imul, 1) := by decide +kernel
theorem dX12_block_68 : decode cX12_block 68 = .ok (.ishl, 1) := by decide +kernel
theorem dX12_block_69 : decode cX12_block 69 = .ok (.iload_n 3, 1) := by decide +kernel
theorem dX12_block_70 : decode cX12_block 70 = .ok (.invokestatic 232, 3) := by decide +kernel
theorem dX12_block_73 : decode cX12_block 73 = .ok (.iconst 3, 1) := by decide +kernel
theorem dX12_block_74 : decode cX12_block 74 = .ok (.iload 6, 2) := by decide +kernel
theorem dX12_block_76 : decode cX12_block 76 = .ok (.imul, 1) := by decide +kernel
theorem dX12_block_77 : decode cX12_block 77 = .ok (.ishr, 1) := by decide +kernel
theorem dX12_block_78 : decode cX12_block 78 = .ok (.bipush 7, 2) := by decide +kernel
theorem dX12_block_80 : decode cX12_block 80 = .ok (.iand, 1) := by decide +kernel
theorem dX12_block_81 : decode cX12_block 81 = .ok (.istore 10, 2) := by decide +kernel
theorem dX12_block_83 : decode cX12_block 83 = .ok (.iconst 0, 1) := by decide +kernel
theorem dX12_block_84 : decode cX12_block 84 = .ok (.istore 11, 2) := by decide +kernel
theorem dX12_block_86 : decode cX12_block 86 = .ok (.iload 11, 2) := by decide +kernel
theorem dX12_block_88 : decode cX12_block 88 = .ok (.iconst 3, 1) := by decide +kernel
theorem dX12_block_89 : decode cX12_block 89 = .ok (.if_icmp .ge 56, 3) := by decide +kernel
theorem dX12_block_92 : decode cX12_block 92 = .ok (.iload 5, 2) := by decide +kernel
theorem dX12_block_94 : decode cX12_block 94 = .ok (.iload 10, 2) := by decide +kernel
theorem dX12_block_96 : decode cX12_block 96 = .ok (.iload 11, 2) := by decide +kernel
theorem dX12_block_98 : decode cX12_block 98 = .ok (.ishr, 1) := by decide +kernel
theorem dX12_block_99 : decode cX12_block 99 = .ok (.iconst 1, 1) := by decide +kernel
theorem dX12_block_100 : decode cX12_block 100 = .ok (.iand, 1) := by decide +kernel
theorem dX12_block_101 : decode cX12_block 101 = .ok (.iconst 1, 1) := by decide +kernel
theorem dX12_block_102 : decode cX12_block 102 = .ok (.if_icmp .ne 33, 3) := by decide +kernel
theorem dX12_block_105 : decode cX12_block 105 = .ok (.aload_n 0, 1) := by decide +kernel
theorem dX12_block_106 : decode cX12_block 106 = .ok (.getfield 25, 3) := by decide +kernel
theorem dX12_block_109 : decode cX12_block 109 = .ok (.iload 6, 2) := by decide +kernel
theorem dX12_block_111 : decode cX12_block 111 = .ok (.iload 4, 2) := by decide +kernel
theorem dX12_block_113 : decode cX12_block 113 = .ok (.iload 11, 2) := by decide +kernel
theorem dX12_block_115 : decode cX12_block 115 = .ok (.iload 8, 2) := by decide +kernel
theorem dX12_block_117 : decode cX12_block 117 = .ok (.invokestatic 202, 3) := by decide +kernel
theorem dX12_block_120 : decode cX12_block 120 = .ok (.iaload, 1) := by decide +kernel
theorem dX12_block_121 : decode cX12_block 121 = .ok (.bipush 9, 2) := by decide +kernel
theorem dX12_block_123 : decode cX12_block 123 = .ok (.iload 6, 2) := by decide +kernel
theorem dX12_block_125 : decode cX12_block 125 = .ok (.imul, 1) := by decide +kernel
theorem dX12_block_126 : decode cX12_block 126 = .ok (.iconst 3, 1) := by decide +kernel
theorem dX12_block_127 : decode cX12_block 127 = .ok (.iload 7, 2) := by decide +kernel
theorem dX12_block_129 : decode cX12_block 129 = .ok (.imul, 1) := by decide +kernel
theorem dX12_block_130 : decode cX12_block 130 = .ok (.iadd, 1) := by decide +kernel
theorem dX12_block_131 : decode cX12_block 131 = .ok (.ishl, 1) := by decide +kernel
theorem dX12_block_132 : decode cX12_block 132 = .ok (.goto 4, 3) := by decide +kernel
theorem dX12_block_135 : decode cX12_block 135 = .ok (.iconst 0, 1) := by decide +kernel
theorem dX12_block_136 : decode cX12_block 136 = .ok (.ior, 1) := by decide +kernel
theorem dX12_block_137 : decode cX12_block 137 = .ok (.istore 5, 2) := by decide +kernel
theorem dX12_block_139 : decode cX12_block 139 = .ok (.iinc 11 1, 3) := by decide +kernel
theorem dX12_block_142 : decode cX12_block 142 = .ok (.goto (-56), 3) := by decide +kernel
theorem dX12_block_145 : decode cX12_block 145 = .ok (.iinc 8 1, 3) := by decide +kernel
theorem dX12_block_148 : decode cX12_block 148 = .ok (.goto (-115), 3) := by decide +kernel
theorem dX12_block_151 : decode cX12_block 151 = .ok (.iinc 7 1, 3) := by decide +kernel
theorem dX12_block_154 : decode cX12_block 154 = .ok (.goto (-139), 3) := by decide +kernel
theorem dX12_block_157 : decode cX12_block 157 = .ok (.iinc 6 1, 3) := by decide +kernel
theorem dX12_block_160 : decode cX12_block 160 = .ok (.goto (-154), 3) := by decide +kernel
theorem dX12_block_163 : decode cX12_block 163 = .ok (.iload 5, 2) := by decide +kernel
theorem dX12_block_165 : decode cX12_block 165 = .ok (.ireturn, 1) := by decide +kernel
theorem ggX12_opened_X12_isOf : GoodIn wsX12_opened wsX12_isOf := gdC (gd1 m32_3)
theorem gX12_opened_X12_isOf : GoodIn wsX12_opened (va_wsS RX12 229 yX12_isOf wsX12_isOf) := gdC (gd3 m32_1 m32_2 m1_5 m32_3)
theorem ggX12_opened_X12_putAt : GoodIn wsX12_opened wsX12_putAt := gdC (gd1 m20_18)
theorem gX12_opened_X12_putAt : GoodIn wsX12_opened (va_wsS RX12 194 yX12_putAt wsX12_putAt) := gdC (gd3 m20_16 m20_17 m1_5 m20_18)
theorem dX12_opened_0 : decode cX12_opened 0 = .ok (.iconst 0, 1) := by decide +kernel
theorem dX12_opened_1 : decode cX12_opened 1 = .ok (.istore 4, 2) := by decide +kernel
theorem dX12_opened_3 : decode cX12_opened 3 = .ok (.iconst 0, 1) := by decide +kernel
theorem dX12_opened_4 : decode cX12_opened 4 = .ok (.istore 5, 2) := by decide +kernel
theorem dX12_opened_6 : decode cX12_opened 6 = .ok (.iload 5, 2) := by decide +kernel
theorem dX12_opened_8 : decode cX12_opened 8 = .ok (.iconst 2, 1) := by decide +kernel
theorem dX12_opened_9 : decode cX12_opened 9 = .ok (.if_icmp .ge 95, 3) := by decide +kernel
theorem dX12_opened_12 : decode cX12_opened 12 = .ok (.iconst 0, 1) := by decide +kernel
theorem dX12_opened_13 : decode cX12_opened 13 = .ok (.istore 6, 2) := by decide +kernel
theorem dX12_opened_15 : decode cX12_opened 15 = .ok (.iload 6, 2) := by decide +kernel
theorem dX12_opened_17 : decode cX12_opened 17 = .ok (.iconst 3, 1) := by decide +kernel
theorem dX12_opened_18 : decode cX12_opened 18 = .ok (.if_icmp .ge 80, 3) := by decide +kernel
theorem dX12_opened_21 : decode cX12_opened 21 = .ok (.iload_n 1, 1) := by decide +kernel
theorem dX12_opened_22 : decode cX12_opened 22 = .ok (.iload 5, 2) := by decide +kernel
theorem dX12_opened_24 : decode cX12_opened 24 = .ok (.invokestatic 229, 3) := by decide +kernel
theorem dX12_opened_27 : decode cX12_opened 27 = .ok (.ifCond .eq 71, 3) := by decide +kernel
theorem dX12_opened_30 : decode cX12_opened 30 = .ok (.aload_n 0, 1) := by decide +kernel
theorem dX12_opened_31 : decode cX12_opened 31 = .ok (.getfield 19, 3) := by decide +kernel
theorem dX12_opened_34 : decode cX12_opened 34 = .ok (.iload 5, 2) := by decide +kernel
theorem dX12_opened_36 : decode cX12_opened 36 = .ok (.iload_n 2, 1) := by decide +kernel
theorem dX12_opened_37 : decode cX12_opened 37 = .ok (.iload 6, 2) := by decide +kernel
theorem dX12_opened_39 : decode cX12_opened 39 = .ok (.iconst 0, 1) := by decide +kernel
theorem dX12_opened_40 : decode cX12_opened 40 = .ok (.invokestatic 194, 3) := by decide +kernel
theorem dX12_opened_43 : decode cX12_opened 43 = .ok (.iaload, 1) := by decide +kernel
theorem dX12_opened_44 : decode cX12_opened 44 = .ok (.aload_n 0, 1) := by decide +kernel
theorem dX12_opened_45 : decode cX12_opened 45 = .ok (.getfield 19, 3) := by decide +kernel
theorem dX12_opened_48 : decode cX12_opened 48 = .ok (.iload 5, 2) := by decide +kernel
theorem dX12_opened_50 : decode cX12_opened 50 = .ok (.iload_n 2, 1) := by decide +kernel
theorem dX12_opened_51 : decode cX12_opened 51 = .ok (.iload 6, 2) := by decide +kernel
theorem dX12_opened_53 : decode cX12_opened 53 = .ok (.iconst 1, 1) := by decide +kernel
theorem dX12_opened_54 : decode cX12_opened 54 = .ok (.invokestatic 194, 3) := by decide +kernel
theorem dX12_opened_57 : decode cX12_opened 57 = .ok (.iaload, 1) := by decide +kernel
theorem dX12_opened_58 : decode cX12_opened 58 = .ok (.ior, 1) := by decide +kernel
theorem dX12_opened_59 : decode cX12_opened 59 = .ok (.istore 7, 2) := by decide +kernel
theorem dX12_opened_61 : decode cX12_opened 61 = .ok (.iload 4, 2) := by decide +kernel
theorem dX12_opened_63 : decode cX12_opened 63 = .ok (.iload_n 3, 1) := by decide +kernel
theorem dX12_opened_64 : decode cX12_opened 64 = .ok (.iconst 3, 1) := by decide +kernel
theorem dX12_opened_65 : decode cX12_opened 65 = .ok (.iload 5, 2) := by decide +kernel
theorem dX12_opened_67 : decode cX12_opened 67 = .ok (.imul, 1) := by decide +kernel
theorem dX12_opened_68 : decode cX12_opened 68 = .ok (.iload 6, 2) := by decide +kernel
theorem dX12_opened_70 : decode cX12_opened 70 = .ok (.iadd, 1) := by decide +kernel
theorem dX12_opened_71 : decode cX12_opened 71 = .ok (.ishr, 1) := by decide +kernel
theorem dX12_opened_72 : decode cX12_opened 72 = .ok (.iconst 1, 1) := by decide +kernel
theorem dX12_opened_73 : decode cX12_opened 73 = .ok (.iand, 1) := by decide +kernel
theorem dX12_opened_74 : decode cX12_opened 74 = .ok (.iconst 1, 1) := by decide +kernel
theorem dX12_opened_75 : decode cX12_opened 75 = .ok (.if_icmp .ne 13, 3) := by decide +kernel
theorem dX12_opened_78 : decode cX12_opened 78 = .ok (.iload 7, 2) := by decide +kernel
theorem dX12_opened_80 : decode cX12_opened 80 = .ok (.iconst 3, 1) := by decide +kernel
theorem dX12_opened_81 : decode cX12_opened 81 = .ok (.iload 5, 2) := by decide +kernel
theorem dX12_opened_83 : decode cX12_opened 83 = .ok (.imul, 1) := by decide +kernel
theorem dX12_opened_84 : decode cX12_opened 84 = .ok (.ishl, 1) := by decide +kernel
theorem dX12_opened_85 : decode cX12_opened 85 = .ok (.goto 4, 3) := by decide +kernel
theorem dX12_opened_88 : decode cX12_opened 88 = .ok (.iconst 0, 1) := by decide +kernel
theorem dX12_opened_89 : decode cX12_opened 89 = .ok (.ior, 1) := by decide +kernel
theorem dX12_opened_90 : decode cX12_opened 90 = .ok (.istore 4, 2) := by decide +kernel
theorem dX12_opened_92 : decode cX12_opened 92 = .ok (.iinc 6 1, 3) := by decide +kernel
theorem dX12_opened_95 : decode cX12_opened 95 = .ok (.goto (-80), 3) := by decide +kernel
theorem dX12_opened_98 : decode cX12_opened 98 = .ok (.iinc 5 1, 3) := by decide +kernel
theorem dX12_opened_101 : decode cX12_opened 101 = .ok (.goto (-95), 3) := by decide +kernel
theorem dX12_opened_104 : decode cX12_opened 104 = .ok (.iload 4, 2) := by decide +kernel
theorem dX12_opened_106 : decode cX12_opened 106 = .ok (.ireturn, 1) := by decide +kernel
theorem ggX12_closedOff_X12_isOf : GoodIn wsX12_closedOff wsX12_isOf := gdC (gd1 m32_3)
theorem gX12_closedOff_X12_isOf : GoodIn wsX12_closedOff (va_wsS RX12 229 yX12_isOf wsX12_isOf) := gdC (gd3 m32_1 m32_2 m1_5 m32_3)
theorem ggX12_closedOff_X12_closeAt : GoodIn wsX12_closedOff wsX12_closeAt := gdC (gd1 m21_0)
theorem gX12_closedOff_X12_closeAt : GoodIn wsX12_closedOff (va_wsS RX12 202 yX12_closeAt wsX12_closeAt) := gdC (gd3 m20_22 m20_23 m1_5 m21_0)
theorem dX12_closedOff_0 : decode cX12_closedOff 0 = .ok (.iconst 0, 1) := by decide +kernel
theorem dX12_closedOff_1 : decode cX12_closedOff 1 = .ok (.istore 4, 2) := by decide +kernel
theorem dX12_closedOff_3 : decode cX12_closedOff 3 = .ok (.iconst 0, 1) := by decide +kernel
theorem dX12_closedOff_4 : decode cX12_closedOff 4 = .ok (.istore 5, 2) := by decide +kernel
theorem dX12_closedOff_6 : decode cX12_closedOff 6 = .ok (.iload 5, 2) := by decide +kernel
theorem dX12_closedOff_8 : decode cX12_closedOff 8 = .ok (.iconst 2, 1) := by decide +kernel
theorem dX12_closedOff_9 : decode cX12_closedOff 9 = .ok (.if_icmp .ge 76, 3) := by decide +kernel
theorem dX12_closedOff_12 : decode cX12_closedOff 12 = .ok (.iconst 0, 1) := by decide +kernel
theorem dX12_closedOff_13 : decode cX12_closedOff 13 = .ok (.istore 6, 2) := by decide +kernel
theorem dX12_closedOff_15 : decode cX12_closedOff 15 = .ok (.iload 6, 2) := by decide +kernel
theorem dX12_closedOff_17 : decode cX12_closedOff 17 = .ok (.iconst 3, 1) := by decide +kernel
theorem dX12_closedOff_18 : decode cX12_closedOff 18 = .ok (.if_icmp .ge 61, 3) := by decide +kernel
theorem dX12_closedOff_21 : decode cX12_closedOff 21 = .ok (.iload_n 1, 1) := by decide +kernel
theorem dX12_closedOff_22 : decode cX12_closedOff 22 = .ok (.iload 5, 2) := by decide +kernel
theorem dX12_closedOff_24 : decode cX12_closedOff 24 = .ok (.invokestatic 229, 3) := by decide +kernel
theorem dX12_closedOff_27 : decode cX12_closedOff 27 = .ok (.ifCond .eq 52, 3) := by decide +kernel
theorem dX12_closedOff_30 : decode cX12_closedOff 30 = .ok (.iload 4, 2) := by decide +kernel
theorem dX12_closedOff_32 : decode cX12_closedOff 32 = .ok (.iload_n 3, 1) := by decide +kernel
theorem dX12_closedOff_33 : decode cX12_closedOff 33 = .ok (.iconst 3, 1) := by decide +kernel
theorem dX12_closedOff_34 : decode cX12_closedOff 34 = .ok (.iload 5, 2) := by decide +kernel
theorem dX12_closedOff_36 : decode cX12_closedOff 36 = .ok (.imul, 1) := by decide +kernel
theorem dX12_closedOff_37 : decode cX12_closedOff 37 = .ok (.iload 6, 2) := by decide +kernel
theorem dX12_closedOff_39 : decode cX12_closedOff 39 = .ok (.iadd, 1) := by decide +kernel
theorem dX12_closedOff_40 : decode cX12_closedOff 40 = .ok (.ishr, 1) := by decide +kernel
theorem dX12_closedOff_41 : decode cX12_closedOff 41 = .ok (.iconst 1, 1) := by decide +kernel
theorem dX12_closedOff_42 : decode cX12_closedOff 42 = .ok (.iand, 1) := by decide +kernel
theorem dX12_closedOff_43 : decode cX12_closedOff 43 = .ok (.iconst 1, 1) := by decide +kernel
theorem dX12_closedOff_44 : decode cX12_closedOff 44 = .ok (.if_icmp .ne 25, 3) := by decide +kernel
theorem dX12_closedOff_47 : decode cX12_closedOff 47 = .ok (.aload_n 0, 1) := by decide +kernel
theorem dX12_closedOff_48 : decode cX12_closedOff 48 = .ok (.getfield 25, 3) := by decide +kernel
theorem dX12_closedOff_51 : decode cX12_closedOff 51 = .ok (.iload 5, 2) := by decide +kernel
theorem dX12_closedOff_53 : decode cX12_closedOff 53 = .ok (.iload_n 2, 1) := by decide +kernel
theorem dX12_closedOff_54 : decode cX12_closedOff 54 = .ok (.iload 6, 2) := by decide +kernel
theorem dX12_closedOff_56 : decode cX12_closedOff 56 = .ok (.iconst (-1), 1) := by decide +kernel
theorem dX12_closedOff_57 : decode cX12_closedOff 57 = .ok (.invokestatic 202, 3) := by decide +kernel
theorem dX12_closedOff_60 : decode cX12_closedOff 60 = .ok (.iaload, 1) := by decide +kernel
theorem dX12_closedOff_61 : decode cX12_closedOff 61 = .ok (.iconst 3, 1) := by decide +kernel
theorem dX12_closedOff_62 : decode cX12_closedOff 62 = .ok (.iload 5, 2) := by decide +kernel
theorem dX12_closedOff_64 : decode cX12_closedOff 64 = .ok (.imul, 1) := by decide +kernel
theorem dX12_closedOff_65 : decode cX12_closedOff 65 = .ok (.ishl, 1) := by decide +kernel
theorem dX12_closedOff_66 : decode cX12_closedOff 66 = .ok (.goto 4, 3) := by decide +kernel
theorem dX12_closedOff_69 : decode cX12_closedOff 69 = .ok (.iconst 0, 1) := by decide +kernel
theorem dX12_closedOff_70 : decode cX12_closedOff 70 = .ok (.ior, 1) := by decide +kernel
theorem dX12_closedOff_71 : decode cX12_closedOff 71 = .ok (.istore 4, 2) := by decide +kernel
theorem dX12_closedOff_73 : decode cX12_closedOff 73 = .ok (.iinc 6 1, 3) := by decide +kernel
theorem dX12_closedOff_76 : decode cX12_closedOff 76 = .ok (.goto (-61), 3) := by decide +kernel
theorem dX12_closedOff_79 : decode cX12_closedOff 79 = .ok (.iinc 5 1, 3) := by decide +kernel
theorem dX12_closedOff_82 : decode cX12_closedOff 82 = .ok (.goto (-76), 3) := by decide +kernel
theorem dX12_closedOff_85 : decode cX12_closedOff 85 = .ok (.iload 4, 2) := by decide +kernel
theorem dX12_closedOff_87 : decode cX12_closedOff 87 = .ok (.ireturn, 1) := by decide +kernel
theorem dX12_begun_0 : decode cX12_begun 0 = .ok (.iload_n 0, 1) := by decide +kernel
theorem dX12_begun_1 : decode cX12_begun 1 = .ok (.ifCond .ne 7, 3) := by decide +kernel
theorem dX12_begun_4 : decode cX12_begun 4 = .ok (.iconst 1, 1) := by decide +kernel
theorem dX12_begun_5 : decode cX12_begun 5 = .ok (.goto 15, 3) := by decide +kernel
theorem dX12_begun_8 : decode cX12_begun 8 = .ok (.iload_n 0, 1) := by decide +kernel
theorem dX12_begun_9 : decode cX12_begun 9 = .ok (.iconst 1, 1) := by decide +kernel
theorem dX12_begun_10 : decode cX12_begun 10 = .ok (.if_icmp .ne 8, 3) := by decide +kernel
theorem dX12_begun_13 : decode cX12_begun 13 = .ok (.bipush 8, 2) := by decide +kernel
theorem dX12_begun_15 : decode cX12_begun 15 = .ok (.goto 5, 3) := by decide +kernel
theorem dX12_begun_18 : decode cX12_begun 18 = .ok (.bipush 9, 2) := by decide +kernel
theorem dX12_begun_20 : decode cX12_begun 20 = .ok (.ireturn, 1) := by decide +kernel
theorem ggX12_beginRow_X12_begun : GoodIn wsX12_beginRow wsX12_begun := gdC (gd1 m31_20)
theorem gX12_beginRow_X12_begun : GoodIn wsX12_beginRow (va_wsS RX12 239 yX12_begun wsX12_begun) := gdC (gd3 m31_18 m31_19 m1_5 m31_20)
theorem ggX12_beginRow_X12_itself : GoodIn wsX12_beginRow wsX12_itself := gdC (gd1 m32_0)
theorem gX12_beginRow_X12_itself : GoodIn wsX12_beginRow (wsV RX12 245 RX12 yX12_itself wsX12_itself) := gdC (gd4 m31_21 m31_22 m31_23 m1_5 m32_0)
theorem dX12_beginRow_0 : decode cX12_beginRow 0 = .ok (.aload_n 0, 1) := by decide +kernel
theorem dX12_beginRow_1 : decode cX12_beginRow 1 = .ok (.iconst 0, 1) := by decide +kernel
theorem dX12_beginRow_2 : decode cX12_beginRow 2 = .ok (.putfield 236, 3) := by decide +kernel
theorem dX12_beginRow_5 : decode cX12_beginRow 5 = .ok (.aload_n 0, 1) := by decide +kernel
theorem dX12_beginRow_6 : decode cX12_beginRow 6 = .ok (.iload_n 1, 1) := by decide +kernel
theorem dX12_beginRow_7 : decode cX12_beginRow 7 = .ok (.invokestatic 239, 3) := by decide +kernel
theorem dX12_beginRow_10 : decode cX12_beginRow 10 = .ok (.putfield 242, 3) := by decide +kernel
theorem dX12_beginRow_13 : decode cX12_beginRow 13 = .ok (.aload_n 0, 1) := by decide +kernel
theorem dX12_beginRow_14 : decode cX12_beginRow 14 = .ok (.aload_n 0, 1) := by decide +kernel
theorem dX12_beginRow_15 : decode cX12_beginRow 15 = .ok (.iload_n 1, 1) := by decide +kernel
theorem dX12_beginRow_16 : decode cX12_beginRow 16 = .ok (.invokevirtual 245, 3) := by decide +kernel
theorem dX12_beginRow_19 : decode cX12_beginRow 19 = .ok (.putfield 248, 3) := by decide +kernel
theorem dX12_beginRow_22 : decode cX12_beginRow 22 = .ok (.return_, 1) := by decide +kernel
theorem ggX12_goOn_X12_opened : GoodIn wsX12_goOn wsX12_opened := gdC (gd1 m32_11)
theorem gX12_goOn_X12_opened : GoodIn wsX12_goOn (wsV RX12 251 RX12 yX12_opened wsX12_opened) := gdC (gd4 m32_8 m32_9 m32_10 m1_5 m32_11)
theorem ggX12_goOn_X12_itself : GoodIn wsX12_goOn wsX12_itself := gdC (gd1 m32_0)
theorem gX12_goOn_X12_itself : GoodIn wsX12_goOn (wsV RX12 245 RX12 yX12_itself wsX12_itself) := gdC (gd4 m31_21 m31_22 m31_23 m1_5 m32_0)
theorem ggX12_goOn_X12_plain : GoodIn wsX12_goOn wsX12_plain := gdC (gd1 m32_15)
theorem gX12_goOn_X12_plain : GoodIn wsX12_goOn (wsV RX12 254 RX12 yX12_plain wsX12_plain) := gdC (gd4 m32_12 m32_13 m32_14 m1_5 m32_15)
theorem ggX12_goOn_X12_image : GoodIn wsX12_goOn wsX12_image := gdC (gd1 m32_18)
theorem gX12_goOn_X12_image : GoodIn wsX12_goOn (va_wsS RX12 232 yX12_image wsX12_image) := gdC (gd3 m32_16 m32_17 m1_5 m32_18)
theorem ggX12_goOn_X12_follow : GoodIn wsX12_goOn wsX12_follow := gdC (gd1 m32_21)
theorem gX12_goOn_X12_follow : GoodIn wsX12_goOn (va_wsS RX12 257 yX12_follow wsX12_follow) := gdC (gd3 m32_19 m32_20 m1_5 m32_21)
theorem ggX12_goOn_X12_block : GoodIn wsX12_goOn wsX12_block := gdC (gd1 m33_1)
theorem gX12_goOn_X12_block : GoodIn wsX12_goOn (wsV RX12 260 RX12 yX12_block wsX12_block) := gdC (gd4 m32_22 m32_23 m33_0 m1_5 m33_1)
theorem ggX12_goOn_X12_closedOff : GoodIn wsX12_goOn wsX12_closedOff := gdC (gd1 m33_5)
theorem gX12_goOn_X12_closedOff : GoodIn wsX12_goOn (wsV RX12 263 RX12 yX12_closedOff wsX12_closedOff) := gdC (gd4 m33_2 m33_3 m33_4 m1_5 m33_5)
theorem dX12_goOn_0 : decode cX12_goOn 0 = .ok (.iload_n 2, 1) := by decide +kernel
theorem dX12_goOn_1 : decode cX12_goOn 1 = .ok (.iconst 2, 1) := by decide +kernel
theorem dX12_goOn_2 : decode cX12_goOn 2 = .ok (.if_icmp .ge 75, 3) := by decide +kernel
theorem dX12_goOn_5 : decode cX12_goOn 5 = .ok (.aload_n 0, 1) := by decide +kernel
theorem dX12_goOn_6 : decode cX12_goOn 6 = .ok (.getfield 43, 3) := by decide +kernel
theorem dX12_goOn_9 : decode cX12_goOn 9 = .ok (.aload_n 0, 1) := by decide +kernel
theorem dX12_goOn_10 : decode cX12_goOn 10 = .ok (.getfield 236, 3) := by decide +kernel
theorem dX12_goOn_13 : decode cX12_goOn 13 = .ok (.aload_n 0, 1) := by decide +kernel
theorem dX12_goOn_14 : decode cX12_goOn 14 = .ok (.getfield 242, 3) := by decide +kernel
theorem dX12_goOn_17 : decode cX12_goOn 17 = .ok (.iastore, 1) := by decide +kernel
theorem dX12_goOn_18 : decode cX12_goOn 18 = .ok (.aload_n 0, 1) := by decide +kernel
theorem dX12_goOn_19 : decode cX12_goOn 19 = .ok (.getfield 46, 3) := by decide +kernel
theorem dX12_goOn_22 : decode cX12_goOn 22 = .ok (.aload_n 0, 1) := by decide +kernel
theorem dX12_goOn_23 : decode cX12_goOn 23 = .ok (.getfield 236, 3) := by decide +kernel
theorem dX12_goOn_26 : decode cX12_goOn 26 = .ok (.aload_n 0, 1) := by decide +kernel
theorem dX12_goOn_27 : decode cX12_goOn 27 = .ok (.getfield 248, 3) := by decide +kernel
theorem dX12_goOn_30 : decode cX12_goOn 30 = .ok (.iastore, 1) := by decide +kernel
theorem dX12_goOn_31 : decode cX12_goOn 31 = .ok (.aload_n 0, 1) := by decide +kernel
theorem dX12_goOn_32 : decode cX12_goOn 32 = .ok (.getfield 49, 3) := by decide +kernel
theorem dX12_goOn_35 : decode cX12_goOn 35 = .ok (.aload_n 0, 1) := by decide +kernel
theorem dX12_goOn_36 : decode cX12_goOn 36 = .ok (.getfield 236, 3) := by decide +kernel
theorem dX12_goOn_39 : decode cX12_goOn 39 = .ok (.iload_n 2, 1) := by decide +kernel
theorem dX12_goOn_40 : decode cX12_goOn 40 = .ok (.iastore, 1) := by decide +kernel
theorem dX12_goOn_41 : decode cX12_goOn 41 = .ok (.aload_n 0, 1) := by decide +kernel
theorem dX12_goOn_42 : decode cX12_goOn 42 = .ok (.dup, 1) := by decide +kernel
theorem dX12_goOn_43 : decode cX12_goOn 43 = .ok (.getfield 236, 3) := by decide +kernel
theorem dX12_goOn_46 : decode cX12_goOn 46 = .ok (.iconst 1, 1) := by decide +kernel
theorem dX12_goOn_47 : decode cX12_goOn 47 = .ok (.iadd, 1) := by decide +kernel
theorem dX12_goOn_48 : decode cX12_goOn 48 = .ok (.putfield 236, 3) := by decide +kernel
theorem dX12_goOn_51 : decode cX12_goOn 51 = .ok (.aload_n 0, 1) := by decide +kernel
theorem dX12_goOn_52 : decode cX12_goOn 52 = .ok (.aload_n 0, 1) := by decide +kernel
theorem dX12_goOn_53 : decode cX12_goOn 53 = .ok (.iload_n 1, 1) := by decide +kernel
theorem dX12_goOn_54 : decode cX12_goOn 54 = .ok (.iload_n 2, 1) := by decide +kernel
theorem dX12_goOn_55 : decode cX12_goOn 55 = .ok (.aload_n 0, 1) := by decide +kernel
theorem dX12_goOn_56 : decode cX12_goOn 56 = .ok (.getfield 242, 3) := by decide +kernel
theorem dX12_goOn_59 : decode cX12_goOn 59 = .ok (.invokevirtual 251, 3) := by decide +kernel
theorem dX12_goOn_62 : decode cX12_goOn 62 = .ok (.putfield 242, 3) := by decide +kernel
theorem dX12_goOn_65 : decode cX12_goOn 65 = .ok (.aload_n 0, 1) := by decide +kernel
theorem dX12_goOn_66 : decode cX12_goOn 66 = .ok (.aload_n 0, 1) := by decide +kernel
theorem dX12_goOn_67 : decode cX12_goOn 67 = .ok (.iload_n 1, 1) := by decide +kernel
theorem dX12_goOn_68 : decode cX12_goOn 68 = .ok (.invokevirtual 245, 3) := by decide +kernel
theorem dX12_goOn_71 : decode cX12_goOn 71 = .ok (.putfield 248, 3) := by decide +kernel
theorem dX12_goOn_74 : decode cX12_goOn 74 = .ok (.goto 139, 3) := by decide +kernel
theorem dX12_goOn_77 : decode cX12_goOn 77 = .ok (.iload_n 2, 1) := by decide +kernel
theorem dX12_goOn_78 : decode cX12_goOn 78 = .ok (.iconst 4, 1) := by decide +kernel
theorem dX12_goOn_79 : decode cX12_goOn 79 = .ok (.if_icmp .ge 37, 3) := by decide +kernel
theorem dX12_goOn_82 : decode cX12_goOn 82 = .ok (.aload_n 0, 1) := by decide +kernel
theorem dX12_goOn_83 : decode cX12_goOn 83 = .ok (.iload_n 1, 1) := by decide +kernel
theorem dX12_goOn_84 : decode cX12_goOn 84 = .ok (.iload_n 2, 1) := by decide +kernel
theorem dX12_goOn_85 : decode cX12_goOn 85 = .ok (.invokevirtual 254, 3) := by decide +kernel
theorem dX12_goOn_88 : decode cX12_goOn 88 = .ok (.istore_n 3, 1) := by decide +kernel
theorem dX12_goOn_89 : decode cX12_goOn 89 = .ok (.aload_n 0, 1) := by decide +kernel
theorem dX12_goOn_90 : decode cX12_goOn 90 = .ok (.aload_n 0, 1) := by decide +kernel
theorem dX12_goOn_91 : decode cX12_goOn 91 = .ok (.getfield 242, 3) := by decide +kernel
theorem dX12_goOn_94 : decode cX12_goOn 94 = .ok (.iload_n 3, 1) := by decide +kernel
theorem dX12_goOn_95 : decode cX12_goOn 95 = .ok (.invokestatic 232, 3) := by decide +kernel
theorem dX12_goOn_98 : decode cX12_goOn 98 = .ok (.putfield 242, 3) := by decide +kernel
theorem dX12_goOn_101 : decode cX12_goOn 101 = .ok (.aload_n 0, 1) := by decide +kernel
theorem dX12_goOn_102 : decode cX12_goOn 102 = .ok (.aload_n 0, 1) := by decide +kernel
theorem dX12_goOn_103 : decode cX12_goOn 103 = .ok (.getfield 248, 3) := by decide +kernel
theorem dX12_goOn_106 : decode cX12_goOn 106 = .ok (.iload_n 3, 1) := by decide +kernel
theorem dX12_goOn_107 : decode cX12_goOn 107 = .ok (.invokestatic 257, 3) := by decide +kernel
theorem dX12_goOn_110 : decode cX12_goOn 110 = .ok (.putfield 248, 3) := by decide +kernel
theorem dX12_goOn_113 : decode cX12_goOn 113 = .ok (.goto 100, 3) := by decide +kernel
theorem dX12_goOn_116 : decode cX12_goOn 116 = .ok (.aload_n 0, 1) := by decide +kernel
theorem dX12_goOn_117 : decode cX12_goOn 117 = .ok (.getfield 236, 3) := by decide +kernel
theorem dX12_goOn_120 : decode cX12_goOn 120 = .ok (.ifCond .le 70, 3) := by decide +kernel
theorem dX12_goOn_123 : decode cX12_goOn 123 = .ok (.aload_n 0, 1) := by decide +kernel
theorem dX12_goOn_124 : decode cX12_goOn 124 = .ok (.dup, 1) := by decide +kernel
theorem dX12_goOn_125 : decode cX12_goOn 125 = .ok (.getfield 236, 3) := by decide +kernel
theorem dX12_goOn_128 : decode cX12_goOn 128 = .ok (.iconst 1, 1) := by decide +kernel
theorem dX12_goOn_129 : decode cX12_goOn 129 = .ok (.isub, 1) := by decide +kernel
theorem dX12_goOn_130 : decode cX12_goOn 130 = .ok (.putfield 236, 3) := by decide +kernel
theorem dX12_goOn_133 : decode cX12_goOn 133 = .ok (.aload_n 0, 1) := by decide +kernel
theorem dX12_goOn_134 : decode cX12_goOn 134 = .ok (.iload_n 1, 1) := by decide +kernel
theorem dX12_goOn_135 : decode cX12_goOn 135 = .ok (.aload_n 0, 1) := by decide +kernel
theorem dX12_goOn_136 : decode cX12_goOn 136 = .ok (.getfield 49, 3) := by decide +kernel
theorem dX12_goOn_139 : decode cX12_goOn 139 = .ok (.aload_n 0, 1) := by decide +kernel
theorem dX12_goOn_140 : decode cX12_goOn 140 = .ok (.getfield 236, 3) := by decide +kernel
theorem dX12_goOn_143 : decode cX12_goOn 143 = .ok (.iaload, 1) := by decide +kernel
theorem dX12_goOn_144 : decode cX12_goOn 144 = .ok (.aload_n 0, 1) := by decide +kernel
theorem dX12_goOn_145 : decode cX12_goOn 145 = .ok (.getfield 248, 3) := by decide +kernel
theorem dX12_goOn_148 : decode cX12_goOn 148 = .ok (.iload_n 2, 1) := by decide +kernel
theorem dX12_goOn_149 : decode cX12_goOn 149 = .ok (.invokevirtual 260, 3) := by decide +kernel
theorem dX12_goOn_152 : decode cX12_goOn 152 = .ok (.istore_n 3, 1) := by decide +kernel
theorem dX12_goOn_153 : decode cX12_goOn 153 = .ok (.aload_n 0, 1) := by decide +kernel
theorem dX12_goOn_154 : decode cX12_goOn 154 = .ok (.aload_n 0, 1) := by decide +kernel
theorem dX12_goOn_155 : decode cX12_goOn 155 = .ok (.getfield 43, 3) := by decide +kernel
theorem dX12_goOn_158 : decode cX12_goOn 158 = .ok (.aload_n 0, 1) := by decide +kernel
theorem dX12_goOn_159 : decode cX12_goOn 159 = .ok (.getfield 236, 3) := by decide +kernel
theorem dX12_goOn_162 : decode cX12_goOn 162 = .ok (.iaload, 1) := by decide +kernel
theorem dX12_goOn_163 : decode cX12_goOn 163 = .ok (.iload_n 3, 1) := by decide +kernel
theorem dX12_goOn_164 : decode cX12_goOn 164 = .ok (.invokestatic 232, 3) := by decide +kernel
theorem dX12_goOn_167 : decode cX12_goOn 167 = .ok (.putfield 242, 3) := by decide +kernel
theorem dX12_goOn_170 : decode cX12_goOn 170 = .ok (.aload_n 0, 1) := by decide +kernel
theorem dX12_goOn_171 : decode cX12_goOn 171 = .ok (.aload_n 0, 1) := by decide +kernel
theorem dX12_goOn_172 : decode cX12_goOn 172 = .ok (.getfield 46, 3) := by decide +kernel
theorem dX12_goOn_175 : decode cX12_goOn 175 = .ok (.aload_n 0, 1) := by decide +kernel
theorem dX12_goOn_176 : decode cX12_goOn 176 = .ok (.getfield 236, 3) := by decide +kernel
theorem dX12_goOn_179 : decode cX12_goOn 179 = .ok (.iaload, 1) := by decide +kernel
theorem dX12_goOn_180 : decode cX12_goOn 180 = .ok (.iload_n 3, 1) := by decide +kernel
theorem dX12_goOn_181 : decode cX12_goOn 181 = .ok (.invokestatic 257, 3) := by decide +kernel
theorem dX12_goOn_184 : decode cX12_goOn 184 = .ok (.putfield 248, 3) := by decide +kernel
theorem dX12_goOn_187 : decode cX12_goOn 187 = .ok (.goto 26, 3) := by decide +kernel
theorem dX12_goOn_190 : decode cX12_goOn 190 = .ok (.aload_n 0, 1) := by decide +kernel
theorem dX12_goOn_191 : decode cX12_goOn 191 = .ok (.aload_n 0, 1) := by decide +kernel
theorem dX12_goOn_192 : decode cX12_goOn 192 = .ok (.iload_n 1, 1) := by decide +kernel
theorem dX12_goOn_193 : decode cX12_goOn 193 = .ok (.iload_n 2, 1) := by decide +kernel
theorem dX12_goOn_194 : decode cX12_goOn 194 = .ok (.aload_n 0, 1) := by decide +kernel
theorem dX12_goOn_195 : decode cX12_goOn 195 = .ok (.getfield 242, 3) := by decide +kernel
theorem dX12_goOn_198 : decode cX12_goOn 198 = .ok (.invokevirtual 263, 3) := by decide +kernel
theorem dX12_goOn_201 : decode cX12_goOn 201 = .ok (.putfield 242, 3) := by decide +kernel
theorem dX12_goOn_204 : decode cX12_goOn 204 = .ok (.aload_n 0, 1) := by decide +kernel
theorem dX12_goOn_205 : decode cX12_goOn 205 = .ok (.aload_n 0, 1) := by decide +kernel
theorem dX12_goOn_206 : decode cX12_goOn 206 = .ok (.iload_n 1, 1) := by decide +kernel
theorem dX12_goOn_207 : decode cX12_goOn 207 = .ok (.invokevirtual 245, 3) := by decide +kernel
theorem dX12_goOn_210 : decode cX12_goOn 210 = .ok (.putfield 248, 3) := by decide +kernel
theorem dX12_goOn_213 : decode cX12_goOn 213 = .ok (.return_, 1) := by decide +kernel
theorem ggX12_goRow_X12_beginRow : GoodIn wsX12_goRow wsX12_beginRow := gdC (gd1 m31_15)
theorem gX12_goRow_X12_beginRow : GoodIn wsX12_goRow (wsV RX12 266 RX12 yX12_beginRow wsX12_beginRow) := gdC (gd4 m31_12 m31_13 m31_14 m1_5 m31_15)
theorem ggX12_goRow_X12_goOn : GoodIn wsX12_goRow wsX12_goOn := gdC (gd1 m32_7)
theorem gX12_goRow_X12_goOn : GoodIn wsX12_goRow (wsV RX12 270 RX12 yX12_goOn wsX12_goOn) := gdC (gd4 m32_4 m32_5 m32_6 m1_5 m32_7)
theorem dX12_goRow_0 : decode cX12_goRow 0 = .ok (.aload_n 0, 1) := by decide +kernel
theorem dX12_goRow_1 : decode cX12_goRow 1 = .ok (.iload_n 1, 1) := by decide +kernel
theorem dX12_goRow_2 : decode cX12_goRow 2 = .ok (.invokevirtual 266, 3) := by decide +kernel
theorem dX12_goRow_5 : decode cX12_goRow 5 = .ok (.iconst 0, 1) := by decide +kernel
theorem dX12_goRow_6 : decode cX12_goRow 6 = .ok (.istore_n 3, 1) := by decide +kernel
theorem dX12_goRow_7 : decode cX12_goRow 7 = .ok (.iload_n 3, 1) := by decide +kernel
theorem dX12_goRow_8 : decode cX12_goRow 8 = .ok (.iload_n 2, 1) := by decide +kernel
theorem dX12_goRow_9 : decode cX12_goRow 9 = .ok (.if_icmp .ge 20, 3) := by decide +kernel
theorem dX12_goRow_12 : decode cX12_goRow 12 = .ok (.aload_n 0, 1) := by decide +kernel
