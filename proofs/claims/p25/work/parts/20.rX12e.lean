theorem dX12_findBlocks_25 : decode cX12_findBlocks 25 = .ok (.iconst 4, 1) := by decide +kernel
theorem dX12_findBlocks_26 : decode cX12_findBlocks 26 = .ok (.irem, 1) := by decide +kernel
theorem dX12_findBlocks_27 : decode cX12_findBlocks 27 = .ok (.iconst 2, 1) := by decide +kernel
theorem dX12_findBlocks_28 : decode cX12_findBlocks 28 = .ok (.idiv, 1) := by decide +kernel
theorem dX12_findBlocks_29 : decode cX12_findBlocks 29 = .ok (.aload_n 0, 1) := by decide +kernel
theorem dX12_findBlocks_30 : decode cX12_findBlocks 30 = .ok (.getfield 72, 3) := by decide +kernel
theorem dX12_findBlocks_33 : decode cX12_findBlocks 33 = .ok (.iload_n 3, 1) := by decide +kernel
theorem dX12_findBlocks_34 : decode cX12_findBlocks 34 = .ok (.iconst 4, 1) := by decide +kernel
theorem dX12_findBlocks_35 : decode cX12_findBlocks 35 = .ok (.idiv, 1) := by decide +kernel
theorem dX12_findBlocks_36 : decode cX12_findBlocks 36 = .ok (.iaload, 1) := by decide +kernel
theorem dX12_findBlocks_37 : decode cX12_findBlocks 37 = .ok (.iconst 4, 1) := by decide +kernel
theorem dX12_findBlocks_38 : decode cX12_findBlocks 38 = .ok (.iload_n 3, 1) := by decide +kernel
theorem dX12_findBlocks_39 : decode cX12_findBlocks 39 = .ok (.iconst 2, 1) := by decide +kernel
theorem dX12_findBlocks_40 : decode cX12_findBlocks 40 = .ok (.irem, 1) := by decide +kernel
theorem dX12_findBlocks_41 : decode cX12_findBlocks 41 = .ok (.iadd, 1) := by decide +kernel
theorem dX12_findBlocks_42 : decode cX12_findBlocks 42 = .ok (.invokevirtual 260, 3) := by decide +kernel
theorem dX12_findBlocks_45 : decode cX12_findBlocks 45 = .ok (.istore 4, 2) := by decide +kernel
theorem dX12_findBlocks_47 : decode cX12_findBlocks 47 = .ok (.aload_n 0, 1) := by decide +kernel
theorem dX12_findBlocks_48 : decode cX12_findBlocks 48 = .ok (.getfield 94, 3) := by decide +kernel
theorem dX12_findBlocks_51 : decode cX12_findBlocks 51 = .ok (.sipush 240, 3) := by decide +kernel
theorem dX12_findBlocks_54 : decode cX12_findBlocks 54 = .ok (.iload_n 2, 1) := by decide +kernel
theorem dX12_findBlocks_55 : decode cX12_findBlocks 55 = .ok (.imul, 1) := by decide +kernel
theorem dX12_findBlocks_56 : decode cX12_findBlocks 56 = .ok (.iload_n 3, 1) := by decide +kernel
theorem dX12_findBlocks_57 : decode cX12_findBlocks 57 = .ok (.iadd, 1) := by decide +kernel
theorem dX12_findBlocks_58 : decode cX12_findBlocks 58 = .ok (.aload_n 0, 1) := by decide +kernel
theorem dX12_findBlocks_59 : decode cX12_findBlocks 59 = .ok (.aload_n 0, 1) := by decide +kernel
theorem dX12_findBlocks_60 : decode cX12_findBlocks 60 = .ok (.getfield 78, 3) := by decide +kernel
theorem dX12_findBlocks_63 : decode cX12_findBlocks 63 = .ok (.iload_n 2, 1) := by decide +kernel
theorem dX12_findBlocks_64 : decode cX12_findBlocks 64 = .ok (.iaload, 1) := by decide +kernel
theorem dX12_findBlocks_65 : decode cX12_findBlocks 65 = .ok (.iload 4, 2) := by decide +kernel
theorem dX12_findBlocks_67 : decode cX12_findBlocks 67 = .ok (.invokestatic 232, 3) := by decide +kernel
theorem dX12_findBlocks_70 : decode cX12_findBlocks 70 = .ok (.aload_n 0, 1) := by decide +kernel
theorem dX12_findBlocks_71 : decode cX12_findBlocks 71 = .ok (.getfield 81, 3) := by decide +kernel
theorem dX12_findBlocks_74 : decode cX12_findBlocks 74 = .ok (.iload_n 2, 1) := by decide +kernel
theorem dX12_findBlocks_75 : decode cX12_findBlocks 75 = .ok (.iaload, 1) := by decide +kernel
theorem dX12_findBlocks_76 : decode cX12_findBlocks 76 = .ok (.iload 4, 2) := by decide +kernel
theorem dX12_findBlocks_78 : decode cX12_findBlocks 78 = .ok (.invokestatic 257, 3) := by decide +kernel
theorem dX12_findBlocks_81 : decode cX12_findBlocks 81 = .ok (.aload_n 0, 1) := by decide +kernel
theorem dX12_findBlocks_82 : decode cX12_findBlocks 82 = .ok (.getfield 84, 3) := by decide +kernel
theorem dX12_findBlocks_85 : decode cX12_findBlocks 85 = .ok (.iload_n 2, 1) := by decide +kernel
theorem dX12_findBlocks_86 : decode cX12_findBlocks 86 = .ok (.baload, 1) := by decide +kernel
theorem dX12_findBlocks_87 : decode cX12_findBlocks 87 = .ok (.invokevirtual 314, 3) := by decide +kernel
theorem dX12_findBlocks_90 : decode cX12_findBlocks 90 = .ok (.iastore, 1) := by decide +kernel
theorem dX12_findBlocks_91 : decode cX12_findBlocks 91 = .ok (.iinc 3 1, 3) := by decide +kernel
theorem dX12_findBlocks_94 : decode cX12_findBlocks 94 = .ok (.goto (-82), 3) := by decide +kernel
theorem dX12_findBlocks_97 : decode cX12_findBlocks 97 = .ok (.iinc 2 1, 3) := by decide +kernel
theorem dX12_findBlocks_100 : decode cX12_findBlocks 100 = .ok (.goto (-98), 3) := by decide +kernel
theorem dX12_findBlocks_103 : decode cX12_findBlocks 103 = .ok (.return_, 1) := by decide +kernel
theorem ggX12_countNodes_X12_findBlocks : GoodIn wsX12_countNodes wsX12_findBlocks := gdC (gd1 m50_8)
theorem gX12_countNodes_X12_findBlocks : GoodIn wsX12_countNodes (wsV RX12 353 RX12 yX12_findBlocks wsX12_findBlocks) := gdC (gd4 m50_5 m50_6 m50_7 m1_5 m50_8)
theorem ggX12_countNodes_X12_countBehind : GoodIn wsX12_countNodes wsX12_countBehind := gdC (gd1 m50_12)
theorem gX12_countNodes_X12_countBehind : GoodIn wsX12_countNodes (wsV RX12 356 RX12 yX12_countBehind wsX12_countBehind) := gdC (gd4 m50_9 m50_10 m50_11 m1_5 m50_12)
theorem dX12_countNodes_0 : decode cX12_countNodes 0 = .ok (.aload_n 0, 1) := by decide +kernel
theorem dX12_countNodes_1 : decode cX12_countNodes 1 = .ok (.iload_n 1, 1) := by decide +kernel
theorem dX12_countNodes_2 : decode cX12_countNodes 2 = .ok (.invokevirtual 353, 3) := by decide +kernel
theorem dX12_countNodes_5 : decode cX12_countNodes 5 = .ok (.iconst 0, 1) := by decide +kernel
theorem dX12_countNodes_6 : decode cX12_countNodes 6 = .ok (.istore_n 3, 1) := by decide +kernel
theorem dX12_countNodes_7 : decode cX12_countNodes 7 = .ok (.iload_n 3, 1) := by decide +kernel
theorem dX12_countNodes_8 : decode cX12_countNodes 8 = .ok (.sipush 1664, 3) := by decide +kernel
theorem dX12_countNodes_11 : decode cX12_countNodes 11 = .ok (.if_icmp .ge 16, 3) := by decide +kernel
theorem dX12_countNodes_14 : decode cX12_countNodes 14 = .ok (.aload_n 0, 1) := by decide +kernel
theorem dX12_countNodes_15 : decode cX12_countNodes 15 = .ok (.getfield 97, 3) := by decide +kernel
theorem dX12_countNodes_18 : decode cX12_countNodes 18 = .ok (.iload_n 3, 1) := by decide +kernel
theorem dX12_countNodes_19 : decode cX12_countNodes 19 = .ok (.lconst 0, 1) := by decide +kernel
theorem dX12_countNodes_20 : decode cX12_countNodes 20 = .ok (.lastore, 1) := by decide +kernel
theorem dX12_countNodes_21 : decode cX12_countNodes 21 = .ok (.iinc 3 1, 3) := by decide +kernel
theorem dX12_countNodes_24 : decode cX12_countNodes 24 = .ok (.goto (-17), 3) := by decide +kernel
theorem dX12_countNodes_27 : decode cX12_countNodes 27 = .ok (.aload_n 0, 1) := by decide +kernel
theorem dX12_countNodes_28 : decode cX12_countNodes 28 = .ok (.getfield 97, 3) := by decide +kernel
theorem dX12_countNodes_31 : decode cX12_countNodes 31 = .ok (.iconst 0, 1) := by decide +kernel
theorem dX12_countNodes_32 : decode cX12_countNodes 32 = .ok (.lconst 1, 1) := by decide +kernel
theorem dX12_countNodes_33 : decode cX12_countNodes 33 = .ok (.lastore, 1) := by decide +kernel
theorem dX12_countNodes_34 : decode cX12_countNodes 34 = .ok (.iconst 0, 1) := by decide +kernel
theorem dX12_countNodes_35 : decode cX12_countNodes 35 = .ok (.istore_n 3, 1) := by decide +kernel
theorem dX12_countNodes_36 : decode cX12_countNodes 36 = .ok (.iload_n 3, 1) := by decide +kernel
theorem dX12_countNodes_37 : decode cX12_countNodes 37 = .ok (.iload_n 2, 1) := by decide +kernel
theorem dX12_countNodes_38 : decode cX12_countNodes 38 = .ok (.if_icmp .ge 60, 3) := by decide +kernel
theorem dX12_countNodes_41 : decode cX12_countNodes 41 = .ok (.iconst 0, 1) := by decide +kernel
theorem dX12_countNodes_42 : decode cX12_countNodes 42 = .ok (.istore 4, 2) := by decide +kernel
theorem dX12_countNodes_44 : decode cX12_countNodes 44 = .ok (.iload 4, 2) := by decide +kernel
theorem dX12_countNodes_46 : decode cX12_countNodes 46 = .ok (.aload_n 0, 1) := by decide +kernel
theorem dX12_countNodes_47 : decode cX12_countNodes 47 = .ok (.getfield 311, 3) := by decide +kernel
theorem dX12_countNodes_50 : decode cX12_countNodes 50 = .ok (.if_icmp .ge 42, 3) := by decide +kernel
theorem dX12_countNodes_53 : decode cX12_countNodes 53 = .ok (.aload_n 0, 1) := by decide +kernel
theorem dX12_countNodes_54 : decode cX12_countNodes 54 = .ok (.getfield 97, 3) := by decide +kernel
theorem dX12_countNodes_57 : decode cX12_countNodes 57 = .ok (.sipush 128, 3) := by decide +kernel
theorem dX12_countNodes_60 : decode cX12_countNodes 60 = .ok (.iload_n 3, 1) := by decide +kernel
theorem dX12_countNodes_61 : decode cX12_countNodes 61 = .ok (.imul, 1) := by decide +kernel
theorem dX12_countNodes_62 : decode cX12_countNodes 62 = .ok (.iload 4, 2) := by decide +kernel
theorem dX12_countNodes_64 : decode cX12_countNodes 64 = .ok (.iadd, 1) := by decide +kernel
theorem dX12_countNodes_65 : decode cX12_countNodes 65 = .ok (.laload, 1) := by decide +kernel
theorem dX12_countNodes_66 : decode cX12_countNodes 66 = .ok (.lstore 5, 2) := by decide +kernel
theorem dX12_countNodes_68 : decode cX12_countNodes 68 = .ok (.lload 5, 2) := by decide +kernel
theorem dX12_countNodes_70 : decode cX12_countNodes 70 = .ok (.lconst 0, 1) := by decide +kernel
theorem dX12_countNodes_71 : decode cX12_countNodes 71 = .ok (.lcmp, 1) := by decide +kernel
theorem dX12_countNodes_72 : decode cX12_countNodes 72 = .ok (.ifCond .eq 14, 3) := by decide +kernel
theorem dX12_countNodes_75 : decode cX12_countNodes 75 = .ok (.aload_n 0, 1) := by decide +kernel
theorem dX12_countNodes_76 : decode cX12_countNodes 76 = .ok (.iload_n 1, 1) := by decide +kernel
theorem dX12_countNodes_77 : decode cX12_countNodes 77 = .ok (.iload_n 3, 1) := by decide +kernel
theorem dX12_countNodes_78 : decode cX12_countNodes 78 = .ok (.iload_n 2, 1) := by decide +kernel
theorem dX12_countNodes_79 : decode cX12_countNodes 79 = .ok (.iload 4, 2) := by decide +kernel
theorem dX12_countNodes_81 : decode cX12_countNodes 81 = .ok (.lload 5, 2) := by decide +kernel
theorem dX12_countNodes_83 : decode cX12_countNodes 83 = .ok (.invokevirtual 356, 3) := by decide +kernel
theorem dX12_countNodes_86 : decode cX12_countNodes 86 = .ok (.iinc 4 1, 3) := by decide +kernel
theorem dX12_countNodes_89 : decode cX12_countNodes 89 = .ok (.goto (-45), 3) := by decide +kernel
theorem dX12_countNodes_92 : decode cX12_countNodes 92 = .ok (.iinc 3 1, 3) := by decide +kernel
theorem dX12_countNodes_95 : decode cX12_countNodes 95 = .ok (.goto (-59), 3) := by decide +kernel
theorem dX12_countNodes_98 : decode cX12_countNodes 98 = .ok (.return_, 1) := by decide +kernel
theorem ggX12_countBehind_X12_plain : GoodIn wsX12_countBehind wsX12_plain := gdC (gd1 m32_15)
theorem gX12_countBehind_X12_plain : GoodIn wsX12_countBehind (wsV RX12 254 RX12 yX12_plain wsX12_plain) := gdC (gd4 m32_12 m32_13 m32_14 m1_5 m32_15)
theorem ggX12_countBehind_X12_image : GoodIn wsX12_countBehind wsX12_image := gdC (gd1 m32_18)
theorem gX12_countBehind_X12_image : GoodIn wsX12_countBehind (va_wsS RX12 232 yX12_image wsX12_image) := gdC (gd3 m32_16 m32_17 m1_5 m32_18)
theorem ggX12_countBehind_X12_follow : GoodIn wsX12_countBehind wsX12_follow := gdC (gd1 m32_21)
theorem gX12_countBehind_X12_follow : GoodIn wsX12_countBehind (va_wsS RX12 257 yX12_follow wsX12_follow) := gdC (gd3 m32_19 m32_20 m1_5 m32_21)
theorem ggX12_countBehind_X12_addNode : GoodIn wsX12_countBehind wsX12_addNode := gdC (gd1 m50_16)
theorem gX12_countBehind_X12_addNode : GoodIn wsX12_countBehind (wsV RX12 360 RX12 yX12_addNode wsX12_addNode) := gdC (gd4 m50_13 m50_14 m50_15 m1_5 m50_16)
theorem ggX12_countBehind_X12_opened : GoodIn wsX12_countBehind wsX12_opened := gdC (gd1 m32_11)
theorem gX12_countBehind_X12_opened : GoodIn wsX12_countBehind (wsV RX12 251 RX12 yX12_opened wsX12_opened) := gdC (gd4 m32_8 m32_9 m32_10 m1_5 m32_11)
theorem ggX12_countBehind_X12_itself : GoodIn wsX12_countBehind wsX12_itself := gdC (gd1 m32_0)
theorem gX12_countBehind_X12_itself : GoodIn wsX12_countBehind (wsV RX12 245 RX12 yX12_itself wsX12_itself) := gdC (gd4 m31_21 m31_22 m31_23 m1_5 m32_0)
theorem ggX12_countBehind_X12_closedOff : GoodIn wsX12_countBehind wsX12_closedOff := gdC (gd1 m33_5)
theorem gX12_countBehind_X12_closedOff : GoodIn wsX12_countBehind (wsV RX12 263 RX12 yX12_closedOff wsX12_closedOff) := gdC (gd4 m33_2 m33_3 m33_4 m1_5 m33_5)
theorem dX12_countBehind_0 : decode cX12_countBehind 0 = .ok (.aload_n 0, 1) := by decide +kernel
theorem dX12_countBehind_1 : decode cX12_countBehind 1 = .ok (.getfield 78, 3) := by decide +kernel
theorem dX12_countBehind_4 : decode cX12_countBehind 4 = .ok (.iload 4, 2) := by decide +kernel
theorem dX12_countBehind_6 : decode cX12_countBehind 6 = .ok (.iaload, 1) := by decide +kernel
theorem dX12_countBehind_7 : decode cX12_countBehind 7 = .ok (.istore 7, 2) := by decide +kernel
theorem dX12_countBehind_9 : decode cX12_countBehind 9 = .ok (.aload_n 0, 1) := by decide +kernel
theorem dX12_countBehind_10 : decode cX12_countBehind 10 = .ok (.getfield 81, 3) := by decide +kernel
theorem dX12_countBehind_13 : decode cX12_countBehind 13 = .ok (.iload 4, 2) := by decide +kernel
theorem dX12_countBehind_15 : decode cX12_countBehind 15 = .ok (.iaload, 1) := by decide +kernel
theorem dX12_countBehind_16 : decode cX12_countBehind 16 = .ok (.istore 8, 2) := by decide +kernel
theorem dX12_countBehind_18 : decode cX12_countBehind 18 = .ok (.iconst 2, 1) := by decide +kernel
theorem dX12_countBehind_19 : decode cX12_countBehind 19 = .ok (.istore 9, 2) := by decide +kernel
theorem dX12_countBehind_21 : decode cX12_countBehind 21 = .ok (.iload 9, 2) := by decide +kernel
theorem dX12_countBehind_23 : decode cX12_countBehind 23 = .ok (.iconst 4, 1) := by decide +kernel
theorem dX12_countBehind_24 : decode cX12_countBehind 24 = .ok (.if_icmp .ge 49, 3) := by decide +kernel
theorem dX12_countBehind_27 : decode cX12_countBehind 27 = .ok (.aload_n 0, 1) := by decide +kernel
theorem dX12_countBehind_28 : decode cX12_countBehind 28 = .ok (.iload_n 1, 1) := by decide +kernel
theorem dX12_countBehind_29 : decode cX12_countBehind 29 = .ok (.iload 9, 2) := by decide +kernel
theorem dX12_countBehind_31 : decode cX12_countBehind 31 = .ok (.invokevirtual 254, 3) := by decide +kernel
theorem dX12_countBehind_34 : decode cX12_countBehind 34 = .ok (.istore 10, 2) := by decide +kernel
theorem dX12_countBehind_36 : decode cX12_countBehind 36 = .ok (.aload_n 0, 1) := by decide +kernel
theorem dX12_countBehind_37 : decode cX12_countBehind 37 = .ok (.iload_n 2, 1) := by decide +kernel
theorem dX12_countBehind_38 : decode cX12_countBehind 38 = .ok (.iconst 1, 1) := by decide +kernel
theorem dX12_countBehind_39 : decode cX12_countBehind 39 = .ok (.iadd, 1) := by decide +kernel
theorem dX12_countBehind_40 : decode cX12_countBehind 40 = .ok (.iload_n 3, 1) := by decide +kernel
theorem dX12_countBehind_41 : decode cX12_countBehind 41 = .ok (.iload 7, 2) := by decide +kernel
theorem dX12_countBehind_43 : decode cX12_countBehind 43 = .ok (.iload 10, 2) := by decide +kernel
theorem dX12_countBehind_45 : decode cX12_countBehind 45 = .ok (.invokestatic 232, 3) := by decide +kernel
theorem dX12_countBehind_48 : decode cX12_countBehind 48 = .ok (.iload 8, 2) := by decide +kernel
theorem dX12_countBehind_50 : decode cX12_countBehind 50 = .ok (.iload 10, 2) := by decide +kernel
theorem dX12_countBehind_52 : decode cX12_countBehind 52 = .ok (.invokestatic 257, 3) := by decide +kernel
theorem dX12_countBehind_55 : decode cX12_countBehind 55 = .ok (.aload_n 0, 1) := by decide +kernel
theorem dX12_countBehind_56 : decode cX12_countBehind 56 = .ok (.getfield 84, 3) := by decide +kernel
theorem dX12_countBehind_59 : decode cX12_countBehind 59 = .ok (.iload 4, 2) := by decide +kernel
theorem dX12_countBehind_61 : decode cX12_countBehind 61 = .ok (.baload, 1) := by decide +kernel
theorem dX12_countBehind_62 : decode cX12_countBehind 62 = .ok (.lload 5, 2) := by decide +kernel
theorem dX12_countBehind_64 : decode cX12_countBehind 64 = .ok (.invokevirtual 360, 3) := by decide +kernel
theorem dX12_countBehind_67 : decode cX12_countBehind 67 = .ok (.iinc 9 1, 3) := by decide +kernel
theorem dX12_countBehind_70 : decode cX12_countBehind 70 = .ok (.goto (-49), 3) := by decide +kernel
theorem dX12_countBehind_73 : decode cX12_countBehind 73 = .ok (.iconst 0, 1) := by decide +kernel
theorem dX12_countBehind_74 : decode cX12_countBehind 74 = .ok (.istore 9, 2) := by decide +kernel
theorem dX12_countBehind_76 : decode cX12_countBehind 76 = .ok (.iload_n 2, 1) := by decide +kernel
theorem dX12_countBehind_77 : decode cX12_countBehind 77 = .ok (.iload 9, 2) := by decide +kernel
theorem dX12_countBehind_79 : decode cX12_countBehind 79 = .ok (.iadd, 1) := by decide +kernel
theorem dX12_countBehind_80 : decode cX12_countBehind 80 = .ok (.iconst 2, 1) := by decide +kernel
theorem dX12_countBehind_81 : decode cX12_countBehind 81 = .ok (.iadd, 1) := by decide +kernel
theorem dX12_countBehind_82 : decode cX12_countBehind 82 = .ok (.iload_n 3, 1) := by decide +kernel
theorem dX12_countBehind_83 : decode cX12_countBehind 83 = .ok (.if_icmp .gt 124, 3) := by decide +kernel
theorem dX12_countBehind_86 : decode cX12_countBehind 86 = .ok (.iconst 0, 1) := by decide +kernel
theorem dX12_countBehind_87 : decode cX12_countBehind 87 = .ok (.istore 10, 2) := by decide +kernel
theorem dX12_countBehind_89 : decode cX12_countBehind 89 = .ok (.iload 10, 2) := by decide +kernel
theorem dX12_countBehind_91 : decode cX12_countBehind 91 = .ok (.aload_n 0, 1) := by decide +kernel
theorem dX12_countBehind_92 : decode cX12_countBehind 92 = .ok (.getfield 301, 3) := by decide +kernel
theorem dX12_countBehind_95 : decode cX12_countBehind 95 = .ok (.if_icmp .ge 106, 3) := by decide +kernel
theorem dX12_countBehind_98 : decode cX12_countBehind 98 = .ok (.lload 5, 2) := by decide +kernel
theorem dX12_countBehind_100 : decode cX12_countBehind 100 = .ok (.aload_n 0, 1) := by decide +kernel
theorem dX12_countBehind_101 : decode cX12_countBehind 101 = .ok (.getfield 91, 3) := by decide +kernel
theorem dX12_countBehind_104 : decode cX12_countBehind 104 = .ok (.bipush 64, 2) := by decide +kernel
theorem dX12_countBehind_106 : decode cX12_countBehind 106 = .ok (.iload 9, 2) := by decide +kernel
theorem dX12_countBehind_108 : decode cX12_countBehind 108 = .ok (.imul, 1) := by decide +kernel
theorem dX12_countBehind_109 : decode cX12_countBehind 109 = .ok (.iload 10, 2) := by decide +kernel
theorem dX12_countBehind_111 : decode cX12_countBehind 111 = .ok (.iadd, 1) := by decide +kernel
theorem dX12_countBehind_112 : decode cX12_countBehind 112 = .ok (.laload, 1) := by decide +kernel
theorem dX12_countBehind_113 : decode cX12_countBehind 113 = .ok (.lmul, 1) := by decide +kernel
theorem dX12_countBehind_114 : decode cX12_countBehind 114 = .ok (.ldc2_w 290, 3) := by decide +kernel
theorem dX12_countBehind_117 : decode cX12_countBehind 117 = .ok (.lrem, 1) := by decide +kernel
theorem dX12_countBehind_118 : decode cX12_countBehind 118 = .ok (.lstore 11, 2) := by decide +kernel
theorem dX12_countBehind_120 : decode cX12_countBehind 120 = .ok (.iconst 0, 1) := by decide +kernel
theorem dX12_countBehind_121 : decode cX12_countBehind 121 = .ok (.istore 13, 2) := by decide +kernel
theorem dX12_countBehind_123 : decode cX12_countBehind 123 = .ok (.iload 13, 2) := by decide +kernel
theorem dX12_countBehind_125 : decode cX12_countBehind 125 = .ok (.iconst 4, 1) := by decide +kernel
theorem dX12_countBehind_126 : decode cX12_countBehind 126 = .ok (.if_icmp .ge 69, 3) := by decide +kernel
theorem dX12_countBehind_129 : decode cX12_countBehind 129 = .ok (.lload 11, 2) := by decide +kernel
theorem dX12_countBehind_131 : decode cX12_countBehind 131 = .ok (.lconst 0, 1) := by decide +kernel
theorem dX12_countBehind_132 : decode cX12_countBehind 132 = .ok (.lcmp, 1) := by decide +kernel
theorem dX12_countBehind_133 : decode cX12_countBehind 133 = .ok (.ifCond .eq 62, 3) := by decide +kernel
theorem dX12_countBehind_136 : decode cX12_countBehind 136 = .ok (.sipush 128, 3) := by decide +kernel
theorem dX12_countBehind_139 : decode cX12_countBehind 139 = .ok (.iload_n 2, 1) := by decide +kernel
theorem dX12_countBehind_140 : decode cX12_countBehind 140 = .ok (.iload 9, 2) := by decide +kernel
theorem dX12_countBehind_142 : decode cX12_countBehind 142 = .ok (.iadd, 1) := by decide +kernel
theorem dX12_countBehind_143 : decode cX12_countBehind 143 = .ok (.iconst 2, 1) := by decide +kernel
theorem dX12_countBehind_144 : decode cX12_countBehind 144 = .ok (.iadd, 1) := by decide +kernel
theorem dX12_countBehind_145 : decode cX12_countBehind 145 = .ok (.imul, 1) := by decide +kernel
theorem dX12_countBehind_146 : decode cX12_countBehind 146 = .ok (.aload_n 0, 1) := by decide +kernel
theorem dX12_countBehind_147 : decode cX12_countBehind 147 = .ok (.getfield 94, 3) := by decide +kernel
theorem dX12_countBehind_150 : decode cX12_countBehind 150 = .ok (.sipush 240, 3) := by decide +kernel
theorem dX12_countBehind_153 : decode cX12_countBehind 153 = .ok (.iload 4, 2) := by decide +kernel
theorem dX12_countBehind_155 : decode cX12_countBehind 155 = .ok (.imul, 1) := by decide +kernel
theorem dX12_countBehind_156 : decode cX12_countBehind 156 = .ok (.iconst 4, 1) := by decide +kernel
theorem dX12_countBehind_157 : decode cX12_countBehind 157 = .ok (.iload 10, 2) := by decide +kernel
theorem dX12_countBehind_159 : decode cX12_countBehind 159 = .ok (.imul, 1) := by decide +kernel
theorem dX12_countBehind_160 : decode cX12_countBehind 160 = .ok (.iadd, 1) := by decide +kernel
theorem dX12_countBehind_161 : decode cX12_countBehind 161 = .ok (.iload 13, 2) := by decide +kernel
theorem dX12_countBehind_163 : decode cX12_countBehind 163 = .ok (.iadd, 1) := by decide +kernel
theorem dX12_countBehind_164 : decode cX12_countBehind 164 = .ok (.iaload, 1) := by decide +kernel
theorem dX12_countBehind_165 : decode cX12_countBehind 165 = .ok (.iadd, 1) := by decide +kernel
theorem dX12_countBehind_166 : decode cX12_countBehind 166 = .ok (.istore 14, 2) := by decide +kernel
theorem dX12_countBehind_168 : decode cX12_countBehind 168 = .ok (.aload_n 0, 1) := by decide +kernel
theorem dX12_countBehind_169 : decode cX12_countBehind 169 = .ok (.getfield 97, 3) := by decide +kernel
theorem dX12_countBehind_172 : decode cX12_countBehind 172 = .ok (.iload 14, 2) := by decide +kernel
theorem dX12_countBehind_174 : decode cX12_countBehind 174 = .ok (.aload_n 0, 1) := by decide +kernel
theorem dX12_countBehind_175 : decode cX12_countBehind 175 = .ok (.getfield 97, 3) := by decide +kernel
theorem dX12_countBehind_178 : decode cX12_countBehind 178 = .ok (.iload 14, 2) := by decide +kernel
theorem dX12_countBehind_180 : decode cX12_countBehind 180 = .ok (.laload, 1) := by decide +kernel
theorem dX12_countBehind_181 : decode cX12_countBehind 181 = .ok (.lload 11, 2) := by decide +kernel
theorem dX12_countBehind_183 : decode cX12_countBehind 183 = .ok (.ladd, 1) := by decide +kernel
theorem dX12_countBehind_184 : decode cX12_countBehind 184 = .ok (.ldc2_w 290, 3) := by decide +kernel
theorem dX12_countBehind_187 : decode cX12_countBehind 187 = .ok (.lrem, 1) := by decide +kernel
theorem dX12_countBehind_188 : decode cX12_countBehind 188 = .ok (.lastore, 1) := by decide +kernel
theorem dX12_countBehind_189 : decode cX12_countBehind 189 = .ok (.iinc 13 1, 3) := by decide +kernel
theorem dX12_countBehind_192 : decode cX12_countBehind 192 = .ok (.goto (-69), 3) := by decide +kernel
theorem dX12_countBehind_195 : decode cX12_countBehind 195 = .ok (.iinc 10 1, 3) := by decide +kernel
theorem dX12_countBehind_198 : decode cX12_countBehind 198 = .ok (.goto (-109), 3) := by decide +kernel
theorem dX12_countBehind_201 : decode cX12_countBehind 201 = .ok (.iinc 9 1, 3) := by decide +kernel
theorem dX12_countBehind_204 : decode cX12_countBehind 204 = .ok (.goto (-128), 3) := by decide +kernel
theorem dX12_countBehind_207 : decode cX12_countBehind 207 = .ok (.iconst 0, 1) := by decide +kernel
theorem dX12_countBehind_208 : decode cX12_countBehind 208 = .ok (.istore 9, 2) := by decide +kernel
theorem dX12_countBehind_210 : decode cX12_countBehind 210 = .ok (.iload 9, 2) := by decide +kernel
theorem dX12_countBehind_212 : decode cX12_countBehind 212 = .ok (.iconst 2, 1) := by decide +kernel
theorem dX12_countBehind_213 : decode cX12_countBehind 213 = .ok (.if_icmp .ge 71, 3) := by decide +kernel
theorem dX12_countBehind_216 : decode cX12_countBehind 216 = .ok (.aload_n 0, 1) := by decide +kernel
theorem dX12_countBehind_217 : decode cX12_countBehind 217 = .ok (.iload_n 2, 1) := by decide +kernel
theorem dX12_countBehind_218 : decode cX12_countBehind 218 = .ok (.iconst 1, 1) := by decide +kernel
theorem dX12_countBehind_219 : decode cX12_countBehind 219 = .ok (.iadd, 1) := by decide +kernel
theorem dX12_countBehind_220 : decode cX12_countBehind 220 = .ok (.iload_n 3, 1) := by decide +kernel
theorem dX12_countBehind_221 : decode cX12_countBehind 221 = .ok (.aload_n 0, 1) := by decide +kernel
theorem dX12_countBehind_222 : decode cX12_countBehind 222 = .ok (.iload_n 1, 1) := by decide +kernel
theorem dX12_countBehind_223 : decode cX12_countBehind 223 = .ok (.iload 9, 2) := by decide +kernel
theorem dX12_countBehind_225 : decode cX12_countBehind 225 = .ok (.iload 7, 2) := by decide +kernel
theorem dX12_countBehind_227 : decode cX12_countBehind 227 = .ok (.invokevirtual 251, 3) := by decide +kernel
theorem dX12_countBehind_230 : decode cX12_countBehind 230 = .ok (.aload_n 0, 1) := by decide +kernel
theorem dX12_countBehind_231 : decode cX12_countBehind 231 = .ok (.iload_n 1, 1) := by decide +kernel
theorem dX12_countBehind_232 : decode cX12_countBehind 232 = .ok (.invokevirtual 245, 3) := by decide +kernel
theorem dX12_countBehind_235 : decode cX12_countBehind 235 = .ok (.iconst 1, 1) := by decide +kernel
theorem dX12_countBehind_236 : decode cX12_countBehind 236 = .ok (.lload 5, 2) := by decide +kernel
theorem dX12_countBehind_238 : decode cX12_countBehind 238 = .ok (.invokevirtual 360, 3) := by decide +kernel
theorem dX12_countBehind_241 : decode cX12_countBehind 241 = .ok (.aload_n 0, 1) := by decide +kernel
theorem dX12_countBehind_242 : decode cX12_countBehind 242 = .ok (.getfield 84, 3) := by decide +kernel
theorem dX12_countBehind_245 : decode cX12_countBehind 245 = .ok (.iload 4, 2) := by decide +kernel
theorem dX12_countBehind_247 : decode cX12_countBehind 247 = .ok (.baload, 1) := by decide +kernel
theorem dX12_countBehind_248 : decode cX12_countBehind 248 = .ok (.ifCond .ne 30, 3) := by decide +kernel
theorem dX12_countBehind_251 : decode cX12_countBehind 251 = .ok (.aload_n 0, 1) := by decide +kernel
theorem dX12_countBehind_252 : decode cX12_countBehind 252 = .ok (.iload_n 2, 1) := by decide +kernel
theorem dX12_countBehind_253 : decode cX12_countBehind 253 = .ok (.iconst 1, 1) := by decide +kernel
theorem dX12_countBehind_254 : decode cX12_countBehind 254 = .ok (.iadd, 1) := by decide +kernel
theorem dX12_countBehind_255 : decode cX12_countBehind 255 = .ok (.iload_n 3, 1) := by decide +kernel
theorem dX12_countBehind_256 : decode cX12_countBehind 256 = .ok (.aload_n 0, 1) := by decide +kernel
theorem dX12_countBehind_257 : decode cX12_countBehind 257 = .ok (.iload_n 1, 1) := by decide +kernel
theorem dX12_countBehind_258 : decode cX12_countBehind 258 = .ok (.iconst 4, 1) := by decide +kernel
theorem dX12_countBehind_259 : decode cX12_countBehind 259 = .ok (.iload 9, 2) := by decide +kernel
theorem dX12_countBehind_261 : decode cX12_countBehind 261 = .ok (.iadd, 1) := by decide +kernel
theorem dX12_countBehind_262 : decode cX12_countBehind 262 = .ok (.iload 7, 2) := by decide +kernel
theorem dX12_countBehind_264 : decode cX12_countBehind 264 = .ok (.invokevirtual 263, 3) := by decide +kernel
theorem dX12_countBehind_267 : decode cX12_countBehind 267 = .ok (.aload_n 0, 1) := by decide +kernel
theorem dX12_countBehind_268 : decode cX12_countBehind 268 = .ok (.iload_n 1, 1) := by decide +kernel
theorem dX12_countBehind_269 : decode cX12_countBehind 269 = .ok (.invokevirtual 245, 3) := by decide +kernel
theorem dX12_countBehind_272 : decode cX12_countBehind 272 = .ok (.iconst 0, 1) := by decide +kernel
theorem dX12_countBehind_273 : decode cX12_countBehind 273 = .ok (.lload 5, 2) := by decide +kernel
theorem dX12_countBehind_275 : decode cX12_countBehind 275 = .ok (.invokevirtual 360, 3) := by decide +kernel
theorem dX12_countBehind_278 : decode cX12_countBehind 278 = .ok (.iinc 9 1, 3) := by decide +kernel
theorem dX12_countBehind_281 : decode cX12_countBehind 281 = .ok (.goto (-71), 3) := by decide +kernel
theorem dX12_countBehind_284 : decode cX12_countBehind 284 = .ok (.return_, 1) := by decide +kernel
theorem ggX12_many_X12_isReader : GoodIn wsX12_many wsX12_isReader := gdC (gd1 m11_2)
theorem gX12_many_X12_isReader : GoodIn wsX12_many (va_wsS RX12 116 yX12_isReader wsX12_isReader) := gdC (gd3 m11_0 m11_1 m1_5 m11_2)
theorem ggX12_many_X12_in : GoodIn wsX12_many wsX12_in := gdC (gd1 m11_5)
theorem gX12_many_X12_in : GoodIn wsX12_many (va_wsS RX12 112 yX12_in wsX12_in) := gdC (gd3 m11_3 m11_4 m1_5 m11_5)
theorem ggX12_many_X12_findPlaces : GoodIn wsX12_many wsX12_findPlaces := gdC (gd1 m39_20)
theorem gX12_many_X12_findPlaces : GoodIn wsX12_many (wsV RX12 331 RX12 yX12_findPlaces wsX12_findPlaces) := gdC (gd4 m39_17 m39_18 m39_19 m1_5 m39_20)
theorem ggX12_many_X12_countWholes : GoodIn wsX12_many wsX12_countWholes := gdC (gd1 m49_16)
theorem gX12_many_X12_countWholes : GoodIn wsX12_many (wsV RX12 364 RX12 yX12_countWholes wsX12_countWholes) := gdC (gd4 m49_13 m49_14 m49_15 m1_5 m49_16)
theorem ggX12_many_X12_countNodes : GoodIn wsX12_many wsX12_countNodes := gdC (gd1 m50_4)
theorem gX12_many_X12_countNodes : GoodIn wsX12_many (wsV RX12 367 RX12 yX12_countNodes wsX12_countNodes) := gdC (gd4 m50_1 m50_2 m50_3 m1_5 m50_4)
theorem ggX12_many_X12_doesTake : GoodIn wsX12_many wsX12_doesTake := gdC (gd1 m33_9)
theorem gX12_many_X12_doesTake : GoodIn wsX12_many (wsV RX12 298 RX12 yX12_doesTake wsX12_doesTake) := gdC (gd4 m33_6 m33_7 m33_8 m1_5 m33_9)
theorem dX12_many_0 : decode cX12_many 0 = .ok (.iload_n 1, 1) := by decide +kernel
theorem dX12_many_1 : decode cX12_many 1 = .ok (.invokestatic 116, 3) := by decide +kernel
theorem dX12_many_4 : decode cX12_many 4 = .ok (.ifCond .ne 6, 3) := by decide +kernel
theorem dX12_many_7 : decode cX12_many 7 = .ok (.bipush (-2), 2) := by decide +kernel
theorem dX12_many_9 : decode cX12_many 9 = .ok (.ireturn, 1) := by decide +kernel
theorem dX12_many_10 : decode cX12_many 10 = .ok (.iload_n 2, 1) := by decide +kernel
theorem dX12_many_11 : decode cX12_many 11 = .ok (.iconst 0, 1) := by decide +kernel
theorem dX12_many_12 : decode cX12_many 12 = .ok (.bipush 12, 2) := by decide +kernel
theorem dX12_many_14 : decode cX12_many 14 = .ok (.invokestatic 112, 3) := by decide +kernel
theorem dX12_many_17 : decode cX12_many 17 = .ok (.ifCond .ne 6, 3) := by decide +kernel
theorem dX12_many_20 : decode cX12_many 20 = .ok (.bipush (-3), 2) := by decide +kernel
theorem dX12_many_22 : decode cX12_many 22 = .ok (.ireturn, 1) := by decide +kernel
theorem dX12_many_23 : decode cX12_many 23 = .ok (.aload_n 0, 1) := by decide +kernel
theorem dX12_many_24 : decode cX12_many 24 = .ok (.iload_n 1, 1) := by decide +kernel
theorem dX12_many_25 : decode cX12_many 25 = .ok (.invokevirtual 331, 3) := by decide +kernel
theorem dX12_many_28 : decode cX12_many 28 = .ok (.aload_n 0, 1) := by decide +kernel
theorem dX12_many_29 : decode cX12_many 29 = .ok (.getfield 304, 3) := by decide +kernel
theorem dX12_many_32 : decode cX12_many 32 = .ok (.ifCond .eq 6, 3) := by decide +kernel
theorem dX12_many_35 : decode cX12_many 35 = .ok (.bipush (-6), 2) := by decide +kernel
theorem dX12_many_37 : decode cX12_many 37 = .ok (.ireturn, 1) := by decide +kernel
theorem dX12_many_38 : decode cX12_many 38 = .ok (.aload_n 0, 1) := by decide +kernel
theorem dX12_many_39 : decode cX12_many 39 = .ok (.iload_n 1, 1) := by decide +kernel
theorem dX12_many_40 : decode cX12_many 40 = .ok (.iload_n 2, 1) := by decide +kernel
theorem dX12_many_41 : decode cX12_many 41 = .ok (.invokevirtual 364, 3) := by decide +kernel
theorem dX12_many_44 : decode cX12_many 44 = .ok (.aload_n 0, 1) := by decide +kernel
theorem dX12_many_45 : decode cX12_many 45 = .ok (.iload_n 1, 1) := by decide +kernel
theorem dX12_many_46 : decode cX12_many 46 = .ok (.iload_n 2, 1) := by decide +kernel
theorem dX12_many_47 : decode cX12_many 47 = .ok (.invokevirtual 367, 3) := by decide +kernel
theorem dX12_many_50 : decode cX12_many 50 = .ok (.lconst 0, 1) := by decide +kernel
theorem dX12_many_51 : decode cX12_many 51 = .ok (.lstore_n 3, 1) := by decide +kernel
theorem dX12_many_52 : decode cX12_many 52 = .ok (.iconst 0, 1) := by decide +kernel
theorem dX12_many_53 : decode cX12_many 53 = .ok (.istore 5, 2) := by decide +kernel
theorem dX12_many_55 : decode cX12_many 55 = .ok (.iload 5, 2) := by decide +kernel
theorem dX12_many_57 : decode cX12_many 57 = .ok (.aload_n 0, 1) := by decide +kernel
theorem dX12_many_58 : decode cX12_many 58 = .ok (.getfield 311, 3) := by decide +kernel
theorem dX12_many_61 : decode cX12_many 61 = .ok (.if_icmp .ge 44, 3) := by decide +kernel
theorem dX12_many_64 : decode cX12_many 64 = .ok (.lload_n 3, 1) := by decide +kernel
theorem dX12_many_65 : decode cX12_many 65 = .ok (.aload_n 0, 1) := by decide +kernel
theorem dX12_many_66 : decode cX12_many 66 = .ok (.iload_n 1, 1) := by decide +kernel
theorem dX12_many_67 : decode cX12_many 67 = .ok (.aload_n 0, 1) := by decide +kernel
theorem dX12_many_68 : decode cX12_many 68 = .ok (.getfield 78, 3) := by decide +kernel
theorem dX12_many_71 : decode cX12_many 71 = .ok (.iload 5, 2) := by decide +kernel
theorem dX12_many_73 : decode cX12_many 73 = .ok (.iaload, 1) := by decide +kernel
theorem dX12_many_74 : decode cX12_many 74 = .ok (.invokevirtual 298, 3) := by decide +kernel
theorem dX12_many_77 : decode cX12_many 77 = .ok (.ifCond .eq 19, 3) := by decide +kernel
theorem dX12_many_80 : decode cX12_many 80 = .ok (.aload_n 0, 1) := by decide +kernel
theorem dX12_many_81 : decode cX12_many 81 = .ok (.getfield 97, 3) := by decide +kernel
theorem dX12_many_84 : decode cX12_many 84 = .ok (.sipush 128, 3) := by decide +kernel
theorem dX12_many_87 : decode cX12_many 87 = .ok (.iload_n 2, 1) := by decide +kernel
theorem dX12_many_88 : decode cX12_many 88 = .ok (.imul, 1) := by decide +kernel
theorem dX12_many_89 : decode cX12_many 89 = .ok (.iload 5, 2) := by decide +kernel
theorem dX12_many_91 : decode cX12_many 91 = .ok (.iadd, 1) := by decide +kernel
theorem dX12_many_92 : decode cX12_many 92 = .ok (.laload, 1) := by decide +kernel
theorem dX12_many_93 : decode cX12_many 93 = .ok (.goto 4, 3) := by decide +kernel
theorem dX12_many_96 : decode cX12_many 96 = .ok (.lconst 0, 1) := by decide +kernel
theorem dX12_many_97 : decode cX12_many 97 = .ok (.ladd, 1) := by decide +kernel
theorem dX12_many_98 : decode cX12_many 98 = .ok (.lstore_n 3, 1) := by decide +kernel
theorem dX12_many_99 : decode cX12_many 99 = .ok (.iinc 5 1, 3) := by decide +kernel
theorem dX12_many_102 : decode cX12_many 102 = .ok (.goto (-47), 3) := by decide +kernel
theorem dX12_many_105 : decode cX12_many 105 = .ok (.lload_n 3, 1) := by decide +kernel
theorem dX12_many_106 : decode cX12_many 106 = .ok (.ldc2_w 290, 3) := by decide +kernel
theorem dX12_many_109 : decode cX12_many 109 = .ok (.lrem, 1) := by decide +kernel
theorem dX12_many_110 : decode cX12_many 110 = .ok (.l2i, 1) := by decide +kernel
theorem dX12_many_111 : decode cX12_many 111 = .ok (.ireturn, 1) := by decide +kernel
theorem ggX12_of_X12_isReader : GoodIn wsX12_of wsX12_isReader := gdC (gd1 m11_2)
theorem gX12_of_X12_isReader : GoodIn wsX12_of (va_wsS RX12 116 yX12_isReader wsX12_isReader) := gdC (gd3 m11_0 m11_1 m1_5 m11_2)
theorem ggX12_of_X12_in : GoodIn wsX12_of wsX12_in := gdC (gd1 m11_5)
theorem gX12_of_X12_in : GoodIn wsX12_of (va_wsS RX12 112 yX12_in wsX12_in) := gdC (gd3 m11_3 m11_4 m1_5 m11_5)
theorem ggX12_of_X12_letterOf : GoodIn wsX12_of wsX12_letterOf := gdC (gd1 m47_1)
theorem gX12_of_X12_letterOf : GoodIn wsX12_of (wsV RX12 343 RX12 yX12_letterOf wsX12_letterOf) := gdC (gd4 m46_22 m46_23 m47_0 m1_5 m47_1)
theorem dX12_of_0 : decode cX12_of 0 = .ok (.iload_n 1, 1) := by decide +kernel
theorem dX12_of_1 : decode cX12_of 1 = .ok (.invokestatic 116, 3) := by decide +kernel
theorem dX12_of_4 : decode cX12_of 4 = .ok (.ifCond .ne 6, 3) := by decide +kernel
theorem dX12_of_7 : decode cX12_of 7 = .ok (.bipush (-2), 2) := by decide +kernel
theorem dX12_of_9 : decode cX12_of 9 = .ok (.ireturn, 1) := by decide +kernel
theorem dX12_of_10 : decode cX12_of 10 = .ok (.iload_n 2, 1) := by decide +kernel
theorem dX12_of_11 : decode cX12_of 11 = .ok (.iconst 0, 1) := by decide +kernel
theorem dX12_of_12 : decode cX12_of 12 = .ok (.iconst 5, 1) := by decide +kernel
theorem dX12_of_13 : decode cX12_of 13 = .ok (.invokestatic 112, 3) := by decide +kernel
theorem dX12_of_16 : decode cX12_of 16 = .ok (.ifCond .eq 12, 3) := by decide +kernel
theorem dX12_of_19 : decode cX12_of 19 = .ok (.iload_n 3, 1) := by decide +kernel
theorem dX12_of_20 : decode cX12_of 20 = .ok (.ifCond .lt 8, 3) := by decide +kernel
theorem dX12_of_23 : decode cX12_of 23 = .ok (.iload 4, 2) := by decide +kernel
theorem dX12_of_25 : decode cX12_of 25 = .ok (.ifCond .ge 6, 3) := by decide +kernel
theorem dX12_of_28 : decode cX12_of 28 = .ok (.bipush (-3), 2) := by decide +kernel
theorem dX12_of_30 : decode cX12_of 30 = .ok (.ireturn, 1) := by decide +kernel
theorem dX12_of_31 : decode cX12_of 31 = .ok (.aload_n 0, 1) := by decide +kernel
theorem dX12_of_32 : decode cX12_of 32 = .ok (.iload_n 1, 1) := by decide +kernel
theorem dX12_of_33 : decode cX12_of 33 = .ok (.iload_n 2, 1) := by decide +kernel
theorem dX12_of_34 : decode cX12_of 34 = .ok (.iload_n 3, 1) := by decide +kernel
theorem dX12_of_35 : decode cX12_of 35 = .ok (.iload 4, 2) := by decide +kernel
theorem dX12_of_37 : decode cX12_of 37 = .ok (.invokevirtual 343, 3) := by decide +kernel
theorem dX12_of_40 : decode cX12_of 40 = .ok (.ireturn, 1) := by decide +kernel
theorem dX12_list_0 : decode cX12_list 0 = .ok (.iconst 1, 1) := by decide +kernel
theorem dX12_list_1 : decode cX12_list 1 = .ok (.istore_n 3, 1) := by decide +kernel
theorem dX12_list_2 : decode cX12_list 2 = .ok (.iconst 0, 1) := by decide +kernel
theorem dX12_list_3 : decode cX12_list 3 = .ok (.istore 4, 2) := by decide +kernel
theorem dX12_list_5 : decode cX12_list 5 = .ok (.iload 4, 2) := by decide +kernel
theorem dX12_list_7 : decode cX12_list 7 = .ok (.aload_n 0, 1) := by decide +kernel
theorem dX12_list_8 : decode cX12_list 8 = .ok (.getfield 370, 3) := by decide +kernel
theorem dX12_list_11 : decode cX12_list 11 = .ok (.if_icmp .ge 41, 3) := by decide +kernel
theorem dX12_list_14 : decode cX12_list 14 = .ok (.iload_n 3, 1) := by decide +kernel
theorem dX12_list_15 : decode cX12_list 15 = .ok (.ifCond .eq 29, 3) := by decide +kernel
theorem dX12_list_18 : decode cX12_list 18 = .ok (.aload_n 0, 1) := by decide +kernel
theorem dX12_list_19 : decode cX12_list 19 = .ok (.getfield 100, 3) := by decide +kernel
theorem dX12_list_22 : decode cX12_list 22 = .ok (.iload 4, 2) := by decide +kernel
theorem dX12_list_24 : decode cX12_list 24 = .ok (.iaload, 1) := by decide +kernel
theorem dX12_list_25 : decode cX12_list 25 = .ok (.iload_n 1, 1) := by decide +kernel
theorem dX12_list_26 : decode cX12_list 26 = .ok (.if_icmp .ne 14, 3) := by decide +kernel
theorem dX12_list_29 : decode cX12_list 29 = .ok (.aload_n 0, 1) := by decide +kernel
theorem dX12_list_30 : decode cX12_list 30 = .ok (.getfield 103, 3) := by decide +kernel
theorem dX12_list_33 : decode cX12_list 33 = .ok (.iload 4, 2) := by decide +kernel
theorem dX12_list_35 : decode cX12_list 35 = .ok (.iaload, 1) := by decide +kernel
theorem dX12_list_36 : decode cX12_list 36 = .ok (.iload_n 2, 1) := by decide +kernel
theorem dX12_list_37 : decode cX12_list 37 = .ok (.if_icmp .eq 7, 3) := by decide +kernel
theorem dX12_list_40 : decode cX12_list 40 = .ok (.iconst 1, 1) := by decide +kernel
theorem dX12_list_41 : decode cX12_list 41 = .ok (.goto 4, 3) := by decide +kernel
theorem dX12_list_44 : decode cX12_list 44 = .ok (.iconst 0, 1) := by decide +kernel
theorem dX12_list_45 : decode cX12_list 45 = .ok (.istore_n 3, 1) := by decide +kernel
theorem dX12_list_46 : decode cX12_list 46 = .ok (.iinc 4 1, 3) := by decide +kernel
theorem dX12_list_49 : decode cX12_list 49 = .ok (.goto (-44), 3) := by decide +kernel
theorem dX12_list_52 : decode cX12_list 52 = .ok (.iload_n 3, 1) := by decide +kernel
theorem dX12_list_53 : decode cX12_list 53 = .ok (.ifCond .eq 33, 3) := by decide +kernel
theorem dX12_list_56 : decode cX12_list 56 = .ok (.aload_n 0, 1) := by decide +kernel
theorem dX12_list_57 : decode cX12_list 57 = .ok (.getfield 100, 3) := by decide +kernel
theorem dX12_list_60 : decode cX12_list 60 = .ok (.aload_n 0, 1) := by decide +kernel
theorem dX12_list_61 : decode cX12_list 61 = .ok (.getfield 370, 3) := by decide +kernel
theorem dX12_list_64 : decode cX12_list 64 = .ok (.iload_n 1, 1) := by decide +kernel
theorem dX12_list_65 : decode cX12_list 65 = .ok (.iastore, 1) := by decide +kernel
theorem dX12_list_66 : decode cX12_list 66 = .ok (.aload_n 0, 1) := by decide +kernel
theorem dX12_list_67 : decode cX12_list 67 = .ok (.getfield 103, 3) := by decide +kernel
theorem dX12_list_70 : decode cX12_list 70 = .ok (.aload_n 0, 1) := by decide +kernel
theorem dX12_list_71 : decode cX12_list 71 = .ok (.getfield 370, 3) := by decide +kernel
theorem dX12_list_74 : decode cX12_list 74 = .ok (.iload_n 2, 1) := by decide +kernel
theorem dX12_list_75 : decode cX12_list 75 = .ok (.iastore, 1) := by decide +kernel
theorem dX12_list_76 : decode cX12_list 76 = .ok (.aload_n 0, 1) := by decide +kernel
theorem dX12_list_77 : decode cX12_list 77 = .ok (.dup, 1) := by decide +kernel
theorem dX12_list_78 : decode cX12_list 78 = .ok (.getfield 370, 3) := by decide +kernel
theorem dX12_list_81 : decode cX12_list 81 = .ok (.iconst 1, 1) := by decide +kernel
theorem dX12_list_82 : decode cX12_list 82 = .ok (.iadd, 1) := by decide +kernel
theorem dX12_list_83 : decode cX12_list 83 = .ok (.putfield 370, 3) := by decide +kernel
theorem dX12_list_86 : decode cX12_list 86 = .ok (.return_, 1) := by decide +kernel
theorem ggX12_widen_X12_plain : GoodIn wsX12_widen wsX12_plain := gdC (gd1 m32_15)
theorem gX12_widen_X12_plain : GoodIn wsX12_widen (wsV RX12 254 RX12 yX12_plain wsX12_plain) := gdC (gd4 m32_12 m32_13 m32_14 m1_5 m32_15)
theorem ggX12_widen_X12_image : GoodIn wsX12_widen wsX12_image := gdC (gd1 m32_18)
theorem gX12_widen_X12_image : GoodIn wsX12_widen (va_wsS RX12 232 yX12_image wsX12_image) := gdC (gd3 m32_16 m32_17 m1_5 m32_18)
theorem ggX12_widen_X12_follow : GoodIn wsX12_widen wsX12_follow := gdC (gd1 m32_21)
theorem gX12_widen_X12_follow : GoodIn wsX12_widen (va_wsS RX12 257 yX12_follow wsX12_follow) := gdC (gd3 m32_19 m32_20 m1_5 m32_21)
theorem ggX12_widen_X12_list : GoodIn wsX12_widen wsX12_list := gdC (gd1 m53_2)
theorem gX12_widen_X12_list : GoodIn wsX12_widen (wsV RX12 373 RX12 yX12_list wsX12_list) := gdC (gd4 m52_23 m53_0 m53_1 m1_5 m53_2)
theorem ggX12_widen_X12_block : GoodIn wsX12_widen wsX12_block := gdC (gd1 m33_1)
theorem gX12_widen_X12_block : GoodIn wsX12_widen (wsV RX12 260 RX12 yX12_block wsX12_block) := gdC (gd4 m32_22 m32_23 m33_0 m1_5 m33_1)
theorem ggX12_widen_X12_closedOff : GoodIn wsX12_widen wsX12_closedOff := gdC (gd1 m33_5)
theorem gX12_widen_X12_closedOff : GoodIn wsX12_widen (wsV RX12 263 RX12 yX12_closedOff wsX12_closedOff) := gdC (gd4 m33_2 m33_3 m33_4 m1_5 m33_5)
theorem ggX12_widen_X12_itself : GoodIn wsX12_widen wsX12_itself := gdC (gd1 m32_0)
theorem gX12_widen_X12_itself : GoodIn wsX12_widen (wsV RX12 245 RX12 yX12_itself wsX12_itself) := gdC (gd4 m31_21 m31_22 m31_23 m1_5 m32_0)
theorem dX12_widen_0 : decode cX12_widen 0 = .ok (.iconst 0, 1) := by decide +kernel
theorem dX12_widen_1 : decode cX12_widen 1 = .ok (.istore_n 3, 1) := by decide +kernel
theorem dX12_widen_2 : decode cX12_widen 2 = .ok (.iload_n 3, 1) := by decide +kernel
theorem dX12_widen_3 : decode cX12_widen 3 = .ok (.aload_n 0, 1) := by decide +kernel
theorem dX12_widen_4 : decode cX12_widen 4 = .ok (.getfield 370, 3) := by decide +kernel
theorem dX12_widen_7 : decode cX12_widen 7 = .ok (.if_icmp .ge 171, 3) := by decide +kernel
theorem dX12_widen_10 : decode cX12_widen 10 = .ok (.aload_n 0, 1) := by decide +kernel
theorem dX12_widen_11 : decode cX12_widen 11 = .ok (.getfield 100, 3) := by decide +kernel
theorem dX12_widen_14 : decode cX12_widen 14 = .ok (.iload_n 3, 1) := by decide +kernel
theorem dX12_widen_15 : decode cX12_widen 15 = .ok (.iaload, 1) := by decide +kernel
theorem dX12_widen_16 : decode cX12_widen 16 = .ok (.istore 4, 2) := by decide +kernel
theorem dX12_widen_18 : decode cX12_widen 18 = .ok (.aload_n 0, 1) := by decide +kernel
theorem dX12_widen_19 : decode cX12_widen 19 = .ok (.getfield 103, 3) := by decide +kernel
theorem dX12_widen_22 : decode cX12_widen 22 = .ok (.iload_n 3, 1) := by decide +kernel
theorem dX12_widen_23 : decode cX12_widen 23 = .ok (.iaload, 1) := by decide +kernel
theorem dX12_widen_24 : decode cX12_widen 24 = .ok (.istore 5, 2) := by decide +kernel
theorem dX12_widen_26 : decode cX12_widen 26 = .ok (.iconst 2, 1) := by decide +kernel
theorem dX12_widen_27 : decode cX12_widen 27 = .ok (.istore 6, 2) := by decide +kernel
theorem dX12_widen_29 : decode cX12_widen 29 = .ok (.iload 6, 2) := by decide +kernel
theorem dX12_widen_31 : decode cX12_widen 31 = .ok (.iconst 4, 1) := by decide +kernel
theorem dX12_widen_32 : decode cX12_widen 32 = .ok (.if_icmp .ge 36, 3) := by decide +kernel
theorem dX12_widen_35 : decode cX12_widen 35 = .ok (.aload_n 0, 1) := by decide +kernel
theorem dX12_widen_36 : decode cX12_widen 36 = .ok (.iload_n 1, 1) := by decide +kernel
theorem dX12_widen_37 : decode cX12_widen 37 = .ok (.iload 6, 2) := by decide +kernel
theorem dX12_widen_39 : decode cX12_widen 39 = .ok (.invokevirtual 254, 3) := by decide +kernel
theorem dX12_widen_42 : decode cX12_widen 42 = .ok (.istore 7, 2) := by decide +kernel
theorem dX12_widen_44 : decode cX12_widen 44 = .ok (.aload_n 0, 1) := by decide +kernel
theorem dX12_widen_45 : decode cX12_widen 45 = .ok (.iload 4, 2) := by decide +kernel
theorem dX12_widen_47 : decode cX12_widen 47 = .ok (.iload 7, 2) := by decide +kernel
theorem dX12_widen_49 : decode cX12_widen 49 = .ok (.invokestatic 232, 3) := by decide +kernel
theorem dX12_widen_52 : decode cX12_widen 52 = .ok (.iload 5, 2) := by decide +kernel
theorem dX12_widen_54 : decode cX12_widen 54 = .ok (.iload 7, 2) := by decide +kernel
theorem dX12_widen_56 : decode cX12_widen 56 = .ok (.invokestatic 257, 3) := by decide +kernel
theorem dX12_widen_59 : decode cX12_widen 59 = .ok (.invokevirtual 373, 3) := by decide +kernel
theorem dX12_widen_62 : decode cX12_widen 62 = .ok (.iinc 6 1, 3) := by decide +kernel
theorem dX12_widen_65 : decode cX12_widen 65 = .ok (.goto (-36), 3) := by decide +kernel
theorem dX12_widen_68 : decode cX12_widen 68 = .ok (.iconst 0, 1) := by decide +kernel
theorem dX12_widen_69 : decode cX12_widen 69 = .ok (.istore 6, 2) := by decide +kernel
theorem dX12_widen_71 : decode cX12_widen 71 = .ok (.iload 6, 2) := by decide +kernel
theorem dX12_widen_73 : decode cX12_widen 73 = .ok (.iconst 4, 1) := by decide +kernel
theorem dX12_widen_74 : decode cX12_widen 74 = .ok (.aload_n 0, 1) := by decide +kernel
theorem dX12_widen_75 : decode cX12_widen 75 = .ok (.getfield 301, 3) := by decide +kernel
theorem dX12_widen_78 : decode cX12_widen 78 = .ok (.imul, 1) := by decide +kernel
theorem dX12_widen_79 : decode cX12_widen 79 = .ok (.if_icmp .ge 55, 3) := by decide +kernel
theorem dX12_widen_82 : decode cX12_widen 82 = .ok (.aload_n 0, 1) := by decide +kernel
theorem dX12_widen_83 : decode cX12_widen 83 = .ok (.iload_n 1, 1) := by decide +kernel
theorem dX12_widen_84 : decode cX12_widen 84 = .ok (.iload 6, 2) := by decide +kernel
theorem dX12_widen_86 : decode cX12_widen 86 = .ok (.iconst 4, 1) := by decide +kernel
theorem dX12_widen_87 : decode cX12_widen 87 = .ok (.irem, 1) := by decide +kernel
theorem dX12_widen_88 : decode cX12_widen 88 = .ok (.iconst 2, 1) := by decide +kernel
theorem dX12_widen_89 : decode cX12_widen 89 = .ok (.idiv, 1) := by decide +kernel
theorem dX12_widen_90 : decode cX12_widen 90 = .ok (.aload_n 0, 1) := by decide +kernel
theorem dX12_widen_91 : decode cX12_widen 91 = .ok (.getfield 72, 3) := by decide +kernel
theorem dX12_widen_94 : decode cX12_widen 94 = .ok (.iload 6, 2) := by decide +kernel
theorem dX12_widen_96 : decode cX12_widen 96 = .ok (.iconst 4, 1) := by decide +kernel
theorem dX12_widen_97 : decode cX12_widen 97 = .ok (.idiv, 1) := by decide +kernel
theorem dX12_widen_98 : decode cX12_widen 98 = .ok (.iaload, 1) := by decide +kernel
theorem dX12_widen_99 : decode cX12_widen 99 = .ok (.iconst 4, 1) := by decide +kernel
theorem dX12_widen_100 : decode cX12_widen 100 = .ok (.iload 6, 2) := by decide +kernel
theorem dX12_widen_102 : decode cX12_widen 102 = .ok (.iconst 2, 1) := by decide +kernel
theorem dX12_widen_103 : decode cX12_widen 103 = .ok (.irem, 1) := by decide +kernel
theorem dX12_widen_104 : decode cX12_widen 104 = .ok (.iadd, 1) := by decide +kernel
theorem dX12_widen_105 : decode cX12_widen 105 = .ok (.invokevirtual 260, 3) := by decide +kernel
theorem dX12_widen_108 : decode cX12_widen 108 = .ok (.istore 7, 2) := by decide +kernel
theorem dX12_widen_110 : decode cX12_widen 110 = .ok (.aload_n 0, 1) := by decide +kernel
theorem dX12_widen_111 : decode cX12_widen 111 = .ok (.iload 4, 2) := by decide +kernel
theorem dX12_widen_113 : decode cX12_widen 113 = .ok (.iload 7, 2) := by decide +kernel
theorem dX12_widen_115 : decode cX12_widen 115 = .ok (.invokestatic 232, 3) := by decide +kernel
theorem dX12_widen_118 : decode cX12_widen 118 = .ok (.iload 5, 2) := by decide +kernel
theorem dX12_widen_120 : decode cX12_widen 120 = .ok (.iload 7, 2) := by decide +kernel
theorem dX12_widen_122 : decode cX12_widen 122 = .ok (.invokestatic 257, 3) := by decide +kernel
theorem dX12_widen_125 : decode cX12_widen 125 = .ok (.invokevirtual 373, 3) := by decide +kernel
theorem dX12_widen_128 : decode cX12_widen 128 = .ok (.iinc 6 1, 3) := by decide +kernel
theorem dX12_widen_131 : decode cX12_widen 131 = .ok (.goto (-60), 3) := by decide +kernel
theorem dX12_widen_134 : decode cX12_widen 134 = .ok (.iconst 4, 1) := by decide +kernel
theorem dX12_widen_135 : decode cX12_widen 135 = .ok (.istore 6, 2) := by decide +kernel
theorem dX12_widen_137 : decode cX12_widen 137 = .ok (.iload 6, 2) := by decide +kernel
theorem dX12_widen_139 : decode cX12_widen 139 = .ok (.bipush 6, 2) := by decide +kernel
theorem dX12_widen_141 : decode cX12_widen 141 = .ok (.if_icmp .ge 31, 3) := by decide +kernel
theorem dX12_widen_144 : decode cX12_widen 144 = .ok (.iload_n 2, 1) := by decide +kernel
theorem dX12_widen_145 : decode cX12_widen 145 = .ok (.ifCond .eq 27, 3) := by decide +kernel
theorem dX12_widen_148 : decode cX12_widen 148 = .ok (.aload_n 0, 1) := by decide +kernel
theorem dX12_widen_149 : decode cX12_widen 149 = .ok (.aload_n 0, 1) := by decide +kernel
theorem dX12_widen_150 : decode cX12_widen 150 = .ok (.iload_n 1, 1) := by decide +kernel
theorem dX12_widen_151 : decode cX12_widen 151 = .ok (.iload 6, 2) := by decide +kernel
theorem dX12_widen_153 : decode cX12_widen 153 = .ok (.iload 4, 2) := by decide +kernel
theorem dX12_widen_155 : decode cX12_widen 155 = .ok (.invokevirtual 263, 3) := by decide +kernel
theorem dX12_widen_158 : decode cX12_widen 158 = .ok (.aload_n 0, 1) := by decide +kernel
theorem dX12_widen_159 : decode cX12_widen 159 = .ok (.iload_n 1, 1) := by decide +kernel
theorem dX12_widen_160 : decode cX12_widen 160 = .ok (.invokevirtual 245, 3) := by decide +kernel
theorem dX12_widen_163 : decode cX12_widen 163 = .ok (.invokevirtual 373, 3) := by decide +kernel
theorem dX12_widen_166 : decode cX12_widen 166 = .ok (.iinc 6 1, 3) := by decide +kernel
theorem dX12_widen_169 : decode cX12_widen 169 = .ok (.goto (-32), 3) := by decide +kernel
theorem dX12_widen_172 : decode cX12_widen 172 = .ok (.iinc 3 1, 3) := by decide +kernel
theorem dX12_widen_175 : decode cX12_widen 175 = .ok (.goto (-173), 3) := by decide +kernel
theorem dX12_widen_178 : decode cX12_widen 178 = .ok (.return_, 1) := by decide +kernel
theorem ggX12_judge_X12_doesTake : GoodIn wsX12_judge wsX12_doesTake := gdC (gd1 m33_9)
theorem gX12_judge_X12_doesTake : GoodIn wsX12_judge (wsV RX12 298 RX12 yX12_doesTake wsX12_doesTake) := gdC (gd4 m33_6 m33_7 m33_8 m1_5 m33_9)
theorem dX12_judge_0 : decode cX12_judge 0 = .ok (.iconst 0, 1) := by decide +kernel
theorem dX12_judge_1 : decode cX12_judge 1 = .ok (.istore_n 2, 1) := by decide +kernel
theorem dX12_judge_2 : decode cX12_judge 2 = .ok (.iconst 0, 1) := by decide +kernel
theorem dX12_judge_3 : decode cX12_judge 3 = .ok (.istore_n 3, 1) := by decide +kernel
theorem dX12_judge_4 : decode cX12_judge 4 = .ok (.iload_n 3, 1) := by decide +kernel
theorem dX12_judge_5 : decode cX12_judge 5 = .ok (.aload_n 0, 1) := by decide +kernel
theorem dX12_judge_6 : decode cX12_judge 6 = .ok (.getfield 370, 3) := by decide +kernel
theorem dX12_judge_9 : decode cX12_judge 9 = .ok (.if_icmp .ge 31, 3) := by decide +kernel
theorem dX12_judge_12 : decode cX12_judge 12 = .ok (.iload_n 2, 1) := by decide +kernel
theorem dX12_judge_13 : decode cX12_judge 13 = .ok (.aload_n 0, 1) := by decide +kernel
theorem dX12_judge_14 : decode cX12_judge 14 = .ok (.iload_n 1, 1) := by decide +kernel
theorem dX12_judge_15 : decode cX12_judge 15 = .ok (.aload_n 0, 1) := by decide +kernel
theorem dX12_judge_16 : decode cX12_judge 16 = .ok (.getfield 100, 3) := by decide +kernel
theorem dX12_judge_19 : decode cX12_judge 19 = .ok (.iload_n 3, 1) := by decide +kernel
theorem dX12_judge_20 : decode cX12_judge 20 = .ok (.iaload, 1) := by decide +kernel
theorem dX12_judge_21 : decode cX12_judge 21 = .ok (.invokevirtual 298, 3) := by decide +kernel
theorem dX12_judge_24 : decode cX12_judge 24 = .ok (.ifCond .eq 7, 3) := by decide +kernel
theorem dX12_judge_27 : decode cX12_judge 27 = .ok (.iconst 1, 1) := by decide +kernel
theorem dX12_judge_28 : decode cX12_judge 28 = .ok (.goto 4, 3) := by decide +kernel
theorem dX12_judge_31 : decode cX12_judge 31 = .ok (.iconst 2, 1) := by decide +kernel
theorem dX12_judge_32 : decode cX12_judge 32 = .ok (.ior, 1) := by decide +kernel
theorem dX12_judge_33 : decode cX12_judge 33 = .ok (.istore_n 2, 1) := by decide +kernel
theorem dX12_judge_34 : decode cX12_judge 34 = .ok (.iinc 3 1, 3) := by decide +kernel
theorem dX12_judge_37 : decode cX12_judge 37 = .ok (.goto (-33), 3) := by decide +kernel
theorem dX12_judge_40 : decode cX12_judge 40 = .ok (.iload_n 2, 1) := by decide +kernel
theorem dX12_judge_41 : decode cX12_judge 41 = .ok (.ireturn, 1) := by decide +kernel
theorem dX12_putAside_0 : decode cX12_putAside 0 = .ok (.iconst 0, 1) := by decide +kernel
theorem dX12_putAside_1 : decode cX12_putAside 1 = .ok (.istore_n 1, 1) := by decide +kernel
theorem dX12_putAside_2 : decode cX12_putAside 2 = .ok (.iload_n 1, 1) := by decide +kernel
theorem dX12_putAside_3 : decode cX12_putAside 3 = .ok (.aload_n 0, 1) := by decide +kernel
theorem dX12_putAside_4 : decode cX12_putAside 4 = .ok (.getfield 370, 3) := by decide +kernel
theorem dX12_putAside_7 : decode cX12_putAside 7 = .ok (.if_icmp .ge 33, 3) := by decide +kernel
theorem dX12_putAside_10 : decode cX12_putAside 10 = .ok (.aload_n 0, 1) := by decide +kernel
theorem dX12_putAside_11 : decode cX12_putAside 11 = .ok (.getfield 106, 3) := by decide +kernel
theorem dX12_putAside_14 : decode cX12_putAside 14 = .ok (.iload_n 1, 1) := by decide +kernel
theorem dX12_putAside_15 : decode cX12_putAside 15 = .ok (.aload_n 0, 1) := by decide +kernel
theorem dX12_putAside_16 : decode cX12_putAside 16 = .ok (.getfield 100, 3) := by decide +kernel
theorem dX12_putAside_19 : decode cX12_putAside 19 = .ok (.iload_n 1, 1) := by decide +kernel
theorem dX12_putAside_20 : decode cX12_putAside 20 = .ok (.iaload, 1) := by decide +kernel
theorem dX12_putAside_21 : decode cX12_putAside 21 = .ok (.iastore, 1) := by decide +kernel
theorem dX12_putAside_22 : decode cX12_putAside 22 = .ok (.aload_n 0, 1) := by decide +kernel
theorem dX12_putAside_23 : decode cX12_putAside 23 = .ok (.getfield 109, 3) := by decide +kernel
theorem dX12_putAside_26 : decode cX12_putAside 26 = .ok (.iload_n 1, 1) := by decide +kernel
theorem dX12_putAside_27 : decode cX12_putAside 27 = .ok (.aload_n 0, 1) := by decide +kernel
theorem dX12_putAside_28 : decode cX12_putAside 28 = .ok (.getfield 103, 3) := by decide +kernel
theorem dX12_putAside_31 : decode cX12_putAside 31 = .ok (.iload_n 1, 1) := by decide +kernel
theorem dX12_putAside_32 : decode cX12_putAside 32 = .ok (.iaload, 1) := by decide +kernel
theorem dX12_putAside_33 : decode cX12_putAside 33 = .ok (.iastore, 1) := by decide +kernel
theorem dX12_putAside_34 : decode cX12_putAside 34 = .ok (.iinc 1 1, 3) := by decide +kernel
theorem dX12_putAside_37 : decode cX12_putAside 37 = .ok (.goto (-35), 3) := by decide +kernel
theorem dX12_putAside_40 : decode cX12_putAside 40 = .ok (.aload_n 0, 1) := by decide +kernel
theorem dX12_putAside_41 : decode cX12_putAside 41 = .ok (.aload_n 0, 1) := by decide +kernel
theorem dX12_putAside_42 : decode cX12_putAside 42 = .ok (.getfield 370, 3) := by decide +kernel
theorem dX12_putAside_45 : decode cX12_putAside 45 = .ok (.putfield 376, 3) := by decide +kernel
theorem dX12_putAside_48 : decode cX12_putAside 48 = .ok (.return_, 1) := by decide +kernel
theorem ggX12_judgeDeeper_X12_opened : GoodIn wsX12_judgeDeeper wsX12_opened := gdC (gd1 m32_11)
theorem gX12_judgeDeeper_X12_opened : GoodIn wsX12_judgeDeeper (wsV RX12 251 RX12 yX12_opened wsX12_opened) := gdC (gd4 m32_8 m32_9 m32_10 m1_5 m32_11)
theorem ggX12_judgeDeeper_X12_itself : GoodIn wsX12_judgeDeeper wsX12_itself := gdC (gd1 m32_0)
theorem gX12_judgeDeeper_X12_itself : GoodIn wsX12_judgeDeeper (wsV RX12 245 RX12 yX12_itself wsX12_itself) := gdC (gd4 m31_21 m31_22 m31_23 m1_5 m32_0)
theorem ggX12_judgeDeeper_X12_list : GoodIn wsX12_judgeDeeper wsX12_list := gdC (gd1 m53_2)
theorem gX12_judgeDeeper_X12_list : GoodIn wsX12_judgeDeeper (wsV RX12 373 RX12 yX12_list wsX12_list) := gdC (gd4 m52_23 m53_0 m53_1 m1_5 m53_2)
theorem ggX12_judgeDeeper_X12_widen : GoodIn wsX12_judgeDeeper wsX12_widen := gdC (gd1 m53_6)
theorem gX12_judgeDeeper_X12_widen : GoodIn wsX12_judgeDeeper (wsV RX12 379 RX12 yX12_widen wsX12_widen) := gdC (gd4 m53_3 m53_4 m53_5 m1_5 m53_6)
theorem ggX12_judgeDeeper_X12_judge : GoodIn wsX12_judgeDeeper wsX12_judge := gdC (gd1 m53_10)
theorem gX12_judgeDeeper_X12_judge : GoodIn wsX12_judgeDeeper (wsV RX12 383 RX12 yX12_judge wsX12_judge) := gdC (gd4 m53_7 m53_8 m53_9 m1_5 m53_10)
theorem dX12_judgeDeeper_0 : decode cX12_judgeDeeper 0 = .ok (.aload_n 0, 1) := by decide +kernel
theorem dX12_judgeDeeper_1 : decode cX12_judgeDeeper 1 = .ok (.iconst 0, 1) := by decide +kernel
theorem dX12_judgeDeeper_2 : decode cX12_judgeDeeper 2 = .ok (.putfield 370, 3) := by decide +kernel
theorem dX12_judgeDeeper_5 : decode cX12_judgeDeeper 5 = .ok (.iconst 0, 1) := by decide +kernel
theorem dX12_judgeDeeper_6 : decode cX12_judgeDeeper 6 = .ok (.istore_n 2, 1) := by decide +kernel
theorem dX12_judgeDeeper_7 : decode cX12_judgeDeeper 7 = .ok (.iload_n 2, 1) := by decide +kernel
theorem dX12_judgeDeeper_8 : decode cX12_judgeDeeper 8 = .ok (.aload_n 0, 1) := by decide +kernel
theorem dX12_judgeDeeper_9 : decode cX12_judgeDeeper 9 = .ok (.getfield 376, 3) := by decide +kernel
theorem dX12_judgeDeeper_12 : decode cX12_judgeDeeper 12 = .ok (.if_icmp .ge 43, 3) := by decide +kernel
theorem dX12_judgeDeeper_15 : decode cX12_judgeDeeper 15 = .ok (.iconst 0, 1) := by decide +kernel
theorem dX12_judgeDeeper_16 : decode cX12_judgeDeeper 16 = .ok (.istore_n 3, 1) := by decide +kernel
theorem dX12_judgeDeeper_17 : decode cX12_judgeDeeper 17 = .ok (.iload_n 3, 1) := by decide +kernel
theorem dX12_judgeDeeper_18 : decode cX12_judgeDeeper 18 = .ok (.iconst 2, 1) := by decide +kernel
theorem dX12_judgeDeeper_19 : decode cX12_judgeDeeper 19 = .ok (.if_icmp .ge 30, 3) := by decide +kernel
theorem dX12_judgeDeeper_22 : decode cX12_judgeDeeper 22 = .ok (.aload_n 0, 1) := by decide +kernel
theorem dX12_judgeDeeper_23 : decode cX12_judgeDeeper 23 = .ok (.aload_n 0, 1) := by decide +kernel
theorem dX12_judgeDeeper_24 : decode cX12_judgeDeeper 24 = .ok (.iload_n 1, 1) := by decide +kernel
theorem dX12_judgeDeeper_25 : decode cX12_judgeDeeper 25 = .ok (.iload_n 3, 1) := by decide +kernel
theorem dX12_judgeDeeper_26 : decode cX12_judgeDeeper 26 = .ok (.aload_n 0, 1) := by decide +kernel
theorem dX12_judgeDeeper_27 : decode cX12_judgeDeeper 27 = .ok (.getfield 106, 3) := by decide +kernel
theorem dX12_judgeDeeper_30 : decode cX12_judgeDeeper 30 = .ok (.iload_n 2, 1) := by decide +kernel
theorem dX12_judgeDeeper_31 : decode cX12_judgeDeeper 31 = .ok (.iaload, 1) := by decide +kernel
theorem dX12_judgeDeeper_32 : decode cX12_judgeDeeper 32 = .ok (.invokevirtual 251, 3) := by decide +kernel
theorem dX12_judgeDeeper_35 : decode cX12_judgeDeeper 35 = .ok (.aload_n 0, 1) := by decide +kernel
theorem dX12_judgeDeeper_36 : decode cX12_judgeDeeper 36 = .ok (.iload_n 1, 1) := by decide +kernel
theorem dX12_judgeDeeper_37 : decode cX12_judgeDeeper 37 = .ok (.invokevirtual 245, 3) := by decide +kernel
theorem dX12_judgeDeeper_40 : decode cX12_judgeDeeper 40 = .ok (.invokevirtual 373, 3) := by decide +kernel
theorem dX12_judgeDeeper_43 : decode cX12_judgeDeeper 43 = .ok (.iinc 3 1, 3) := by decide +kernel
theorem dX12_judgeDeeper_46 : decode cX12_judgeDeeper 46 = .ok (.goto (-29), 3) := by decide +kernel
theorem dX12_judgeDeeper_49 : decode cX12_judgeDeeper 49 = .ok (.iinc 2 1, 3) := by decide +kernel
theorem dX12_judgeDeeper_52 : decode cX12_judgeDeeper 52 = .ok (.goto (-45), 3) := by decide +kernel
theorem dX12_judgeDeeper_55 : decode cX12_judgeDeeper 55 = .ok (.iconst 0, 1) := by decide +kernel
theorem dX12_judgeDeeper_56 : decode cX12_judgeDeeper 56 = .ok (.istore_n 2, 1) := by decide +kernel
theorem dX12_judgeDeeper_57 : decode cX12_judgeDeeper 57 = .ok (.iload_n 2, 1) := by decide +kernel
theorem dX12_judgeDeeper_58 : decode cX12_judgeDeeper 58 = .ok (.aload_n 0, 1) := by decide +kernel
theorem dX12_judgeDeeper_59 : decode cX12_judgeDeeper 59 = .ok (.getfield 370, 3) := by decide +kernel
theorem dX12_judgeDeeper_62 : decode cX12_judgeDeeper 62 = .ok (.if_icmp .ge 75, 3) := by decide +kernel
theorem dX12_judgeDeeper_65 : decode cX12_judgeDeeper 65 = .ok (.aload_n 0, 1) := by decide +kernel
theorem dX12_judgeDeeper_66 : decode cX12_judgeDeeper 66 = .ok (.getfield 370, 3) := by decide +kernel
theorem dX12_judgeDeeper_69 : decode cX12_judgeDeeper 69 = .ok (.istore_n 2, 1) := by decide +kernel
theorem dX12_judgeDeeper_70 : decode cX12_judgeDeeper 70 = .ok (.aload_n 0, 1) := by decide +kernel
theorem dX12_judgeDeeper_71 : decode cX12_judgeDeeper 71 = .ok (.iload_n 1, 1) := by decide +kernel
theorem dX12_judgeDeeper_72 : decode cX12_judgeDeeper 72 = .ok (.iconst 0, 1) := by decide +kernel
theorem dX12_judgeDeeper_73 : decode cX12_judgeDeeper 73 = .ok (.invokevirtual 379, 3) := by decide +kernel
theorem dX12_judgeDeeper_76 : decode cX12_judgeDeeper 76 = .ok (.aload_n 0, 1) := by decide +kernel
theorem dX12_judgeDeeper_77 : decode cX12_judgeDeeper 77 = .ok (.getfield 370, 3) := by decide +kernel
theorem dX12_judgeDeeper_80 : decode cX12_judgeDeeper 80 = .ok (.istore_n 3, 1) := by decide +kernel
theorem dX12_judgeDeeper_81 : decode cX12_judgeDeeper 81 = .ok (.iconst 0, 1) := by decide +kernel
theorem dX12_judgeDeeper_82 : decode cX12_judgeDeeper 82 = .ok (.istore 4, 2) := by decide +kernel
theorem dX12_judgeDeeper_84 : decode cX12_judgeDeeper 84 = .ok (.iload 4, 2) := by decide +kernel
theorem dX12_judgeDeeper_86 : decode cX12_judgeDeeper 86 = .ok (.iload_n 3, 1) := by decide +kernel
theorem dX12_judgeDeeper_87 : decode cX12_judgeDeeper 87 = .ok (.if_icmp .ge 47, 3) := by decide +kernel
theorem dX12_judgeDeeper_90 : decode cX12_judgeDeeper 90 = .ok (.iconst 0, 1) := by decide +kernel
theorem dX12_judgeDeeper_91 : decode cX12_judgeDeeper 91 = .ok (.istore 5, 2) := by decide +kernel
theorem dX12_judgeDeeper_93 : decode cX12_judgeDeeper 93 = .ok (.iload 5, 2) := by decide +kernel
theorem dX12_judgeDeeper_95 : decode cX12_judgeDeeper 95 = .ok (.iconst 2, 1) := by decide +kernel
theorem dX12_judgeDeeper_96 : decode cX12_judgeDeeper 96 = .ok (.if_icmp .ge 32, 3) := by decide +kernel
theorem dX12_judgeDeeper_99 : decode cX12_judgeDeeper 99 = .ok (.aload_n 0, 1) := by decide +kernel
theorem dX12_judgeDeeper_100 : decode cX12_judgeDeeper 100 = .ok (.aload_n 0, 1) := by decide +kernel
theorem dX12_judgeDeeper_101 : decode cX12_judgeDeeper 101 = .ok (.iload_n 1, 1) := by decide +kernel
theorem dX12_judgeDeeper_102 : decode cX12_judgeDeeper 102 = .ok (.iload 5, 2) := by decide +kernel
theorem dX12_judgeDeeper_104 : decode cX12_judgeDeeper 104 = .ok (.aload_n 0, 1) := by decide +kernel
theorem dX12_judgeDeeper_105 : decode cX12_judgeDeeper 105 = .ok (.getfield 100, 3) := by decide +kernel
theorem dX12_judgeDeeper_108 : decode cX12_judgeDeeper 108 = .ok (.iload 4, 2) := by decide +kernel
theorem dX12_judgeDeeper_110 : decode cX12_judgeDeeper 110 = .ok (.iaload, 1) := by decide +kernel
theorem dX12_judgeDeeper_111 : decode cX12_judgeDeeper 111 = .ok (.invokevirtual 251, 3) := by decide +kernel
theorem dX12_judgeDeeper_114 : decode cX12_judgeDeeper 114 = .ok (.aload_n 0, 1) := by decide +kernel
theorem dX12_judgeDeeper_115 : decode cX12_judgeDeeper 115 = .ok (.iload_n 1, 1) := by decide +kernel
theorem dX12_judgeDeeper_116 : decode cX12_judgeDeeper 116 = .ok (.invokevirtual 245, 3) := by decide +kernel
theorem dX12_judgeDeeper_119 : decode cX12_judgeDeeper 119 = .ok (.invokevirtual 373, 3) := by decide +kernel
theorem dX12_judgeDeeper_122 : decode cX12_judgeDeeper 122 = .ok (.iinc 5 1, 3) := by decide +kernel
theorem dX12_judgeDeeper_125 : decode cX12_judgeDeeper 125 = .ok (.goto (-32), 3) := by decide +kernel
theorem dX12_judgeDeeper_128 : decode cX12_judgeDeeper 128 = .ok (.iinc 4 1, 3) := by decide +kernel
theorem dX12_judgeDeeper_131 : decode cX12_judgeDeeper 131 = .ok (.goto (-47), 3) := by decide +kernel
theorem dX12_judgeDeeper_134 : decode cX12_judgeDeeper 134 = .ok (.goto (-77), 3) := by decide +kernel
theorem dX12_judgeDeeper_137 : decode cX12_judgeDeeper 137 = .ok (.aload_n 0, 1) := by decide +kernel
theorem dX12_judgeDeeper_138 : decode cX12_judgeDeeper 138 = .ok (.iload_n 1, 1) := by decide +kernel
theorem dX12_judgeDeeper_139 : decode cX12_judgeDeeper 139 = .ok (.invokevirtual 383, 3) := by decide +kernel
theorem dX12_judgeDeeper_142 : decode cX12_judgeDeeper 142 = .ok (.ireturn, 1) := by decide +kernel
theorem ggX12_watch_X12_isReader : GoodIn wsX12_watch wsX12_isReader := gdC (gd1 m11_2)
theorem gX12_watch_X12_isReader : GoodIn wsX12_watch (va_wsS RX12 116 yX12_isReader wsX12_isReader) := gdC (gd3 m11_0 m11_1 m1_5 m11_2)
theorem ggX12_watch_X12_in : GoodIn wsX12_watch wsX12_in := gdC (gd1 m11_5)
theorem gX12_watch_X12_in : GoodIn wsX12_watch (va_wsS RX12 112 yX12_in wsX12_in) := gdC (gd3 m11_3 m11_4 m1_5 m11_5)
theorem ggX12_watch_X12_findPlaces : GoodIn wsX12_watch wsX12_findPlaces := gdC (gd1 m39_20)
theorem gX12_watch_X12_findPlaces : GoodIn wsX12_watch (wsV RX12 331 RX12 yX12_findPlaces wsX12_findPlaces) := gdC (gd4 m39_17 m39_18 m39_19 m1_5 m39_20)
theorem ggX12_watch_X12_goRow : GoodIn wsX12_watch wsX12_goRow := gdC (gd1 m31_11)
theorem gX12_watch_X12_goRow : GoodIn wsX12_watch (wsV RX12 295 RX12 yX12_goRow wsX12_goRow) := gdC (gd4 m31_8 m31_9 m31_10 m1_5 m31_11)
theorem ggX12_watch_X12_doesTake : GoodIn wsX12_watch wsX12_doesTake := gdC (gd1 m33_9)
theorem gX12_watch_X12_doesTake : GoodIn wsX12_watch (wsV RX12 298 RX12 yX12_doesTake wsX12_doesTake) := gdC (gd4 m33_6 m33_7 m33_8 m1_5 m33_9)
theorem ggX12_watch_X12_list : GoodIn wsX12_watch wsX12_list := gdC (gd1 m53_2)
theorem gX12_watch_X12_list : GoodIn wsX12_watch (wsV RX12 373 RX12 yX12_list wsX12_list) := gdC (gd4 m52_23 m53_0 m53_1 m1_5 m53_2)
theorem ggX12_watch_X12_widen : GoodIn wsX12_watch wsX12_widen := gdC (gd1 m53_6)
theorem gX12_watch_X12_widen : GoodIn wsX12_watch (wsV RX12 379 RX12 yX12_widen wsX12_widen) := gdC (gd4 m53_3 m53_4 m53_5 m1_5 m53_6)
theorem ggX12_watch_X12_judge : GoodIn wsX12_watch wsX12_judge := gdC (gd1 m53_10)
theorem gX12_watch_X12_judge : GoodIn wsX12_watch (wsV RX12 383 RX12 yX12_judge wsX12_judge) := gdC (gd4 m53_7 m53_8 m53_9 m1_5 m53_10)
theorem ggX12_watch_X12_putAside : GoodIn wsX12_watch wsX12_putAside := gdC (gd1 m53_14)
theorem gX12_watch_X12_putAside : GoodIn wsX12_watch (wsV RX12 386 RX12 yX12_putAside wsX12_putAside) := gdC (gd4 m53_11 m53_12 m53_13 m1_5 m53_14)
theorem ggX12_watch_X12_judgeDeeper : GoodIn wsX12_watch wsX12_judgeDeeper := gdC (gd1 m53_18)
theorem gX12_watch_X12_judgeDeeper : GoodIn wsX12_watch (wsV RX12 389 RX12 yX12_judgeDeeper wsX12_judgeDeeper) := gdC (gd4 m53_15 m53_16 m53_17 m1_5 m53_18)
theorem ggX12_watch_X12_block : GoodIn wsX12_watch wsX12_block := gdC (gd1 m33_1)
theorem gX12_watch_X12_block : GoodIn wsX12_watch (wsV RX12 260 RX12 yX12_block wsX12_block) := gdC (gd4 m32_22 m32_23 m33_0 m1_5 m33_1)
theorem ggX12_watch_X12_image : GoodIn wsX12_watch wsX12_image := gdC (gd1 m32_18)
theorem gX12_watch_X12_image : GoodIn wsX12_watch (va_wsS RX12 232 yX12_image wsX12_image) := gdC (gd3 m32_16 m32_17 m1_5 m32_18)
theorem ggX12_watch_X12_follow : GoodIn wsX12_watch wsX12_follow := gdC (gd1 m32_21)
theorem gX12_watch_X12_follow : GoodIn wsX12_watch (va_wsS RX12 257 yX12_follow wsX12_follow) := gdC (gd3 m32_19 m32_20 m1_5 m32_21)
theorem dX12_watch_0 : decode cX12_watch 0 = .ok (.iload_n 1, 1) := by decide +kernel
theorem dX12_watch_1 : decode cX12_watch 1 = .ok (.invokestatic 116, 3) := by decide +kernel
theorem dX12_watch_4 : decode cX12_watch 4 = .ok (.ifCond .ne 6, 3) := by decide +kernel
theorem dX12_watch_7 : decode cX12_watch 7 = .ok (.bipush (-2), 2) := by decide +kernel
theorem dX12_watch_9 : decode cX12_watch 9 = .ok (.ireturn, 1) := by decide +kernel
theorem dX12_watch_10 : decode cX12_watch 10 = .ok (.iload_n 2, 1) := by decide +kernel
theorem dX12_watch_11 : decode cX12_watch 11 = .ok (.iconst 0, 1) := by decide +kernel
theorem dX12_watch_12 : decode cX12_watch 12 = .ok (.aload_n 0, 1) := by decide +kernel
theorem dX12_watch_13 : decode cX12_watch 13 = .ok (.getfield 219, 3) := by decide +kernel
theorem dX12_watch_16 : decode cX12_watch 16 = .ok (.invokestatic 112, 3) := by decide +kernel
theorem dX12_watch_19 : decode cX12_watch 19 = .ok (.ifCond .ne 6, 3) := by decide +kernel
theorem dX12_watch_22 : decode cX12_watch 22 = .ok (.bipush (-3), 2) := by decide +kernel
theorem dX12_watch_24 : decode cX12_watch 24 = .ok (.ireturn, 1) := by decide +kernel
theorem dX12_watch_25 : decode cX12_watch 25 = .ok (.aload_n 0, 1) := by decide +kernel
theorem dX12_watch_26 : decode cX12_watch 26 = .ok (.iload_n 1, 1) := by decide +kernel
theorem dX12_watch_27 : decode cX12_watch 27 = .ok (.invokevirtual 331, 3) := by decide +kernel
theorem dX12_watch_30 : decode cX12_watch 30 = .ok (.aload_n 0, 1) := by decide +kernel
theorem dX12_watch_31 : decode cX12_watch 31 = .ok (.getfield 304, 3) := by decide +kernel
theorem dX12_watch_34 : decode cX12_watch 34 = .ok (.ifCond .eq 6, 3) := by decide +kernel
theorem dX12_watch_37 : decode cX12_watch 37 = .ok (.bipush (-6), 2) := by decide +kernel
theorem dX12_watch_39 : decode cX12_watch 39 = .ok (.ireturn, 1) := by decide +kernel
theorem dX12_watch_40 : decode cX12_watch 40 = .ok (.aload_n 0, 1) := by decide +kernel
theorem dX12_watch_41 : decode cX12_watch 41 = .ok (.iload_n 1, 1) := by decide +kernel
theorem dX12_watch_42 : decode cX12_watch 42 = .ok (.iload_n 2, 1) := by decide +kernel
theorem dX12_watch_43 : decode cX12_watch 43 = .ok (.invokevirtual 295, 3) := by decide +kernel
theorem dX12_watch_46 : decode cX12_watch 46 = .ok (.aload_n 0, 1) := by decide +kernel
theorem dX12_watch_47 : decode cX12_watch 47 = .ok (.iload_n 1, 1) := by decide +kernel
theorem dX12_watch_48 : decode cX12_watch 48 = .ok (.aload_n 0, 1) := by decide +kernel
theorem dX12_watch_49 : decode cX12_watch 49 = .ok (.getfield 242, 3) := by decide +kernel
theorem dX12_watch_52 : decode cX12_watch 52 = .ok (.invokevirtual 298, 3) := by decide +kernel
theorem dX12_watch_55 : decode cX12_watch 55 = .ok (.ifCond .eq 7, 3) := by decide +kernel
theorem dX12_watch_58 : decode cX12_watch 58 = .ok (.iconst 4, 1) := by decide +kernel
theorem dX12_watch_59 : decode cX12_watch 59 = .ok (.goto 4, 3) := by decide +kernel
theorem dX12_watch_62 : decode cX12_watch 62 = .ok (.iconst 0, 1) := by decide +kernel
theorem dX12_watch_63 : decode cX12_watch 63 = .ok (.istore_n 3, 1) := by decide +kernel
theorem dX12_watch_64 : decode cX12_watch 64 = .ok (.aload_n 0, 1) := by decide +kernel
theorem dX12_watch_65 : decode cX12_watch 65 = .ok (.iconst 0, 1) := by decide +kernel
theorem dX12_watch_66 : decode cX12_watch 66 = .ok (.putfield 370, 3) := by decide +kernel
theorem dX12_watch_69 : decode cX12_watch 69 = .ok (.aload_n 0, 1) := by decide +kernel
theorem dX12_watch_70 : decode cX12_watch 70 = .ok (.aload_n 0, 1) := by decide +kernel
theorem dX12_watch_71 : decode cX12_watch 71 = .ok (.getfield 242, 3) := by decide +kernel
theorem dX12_watch_74 : decode cX12_watch 74 = .ok (.aload_n 0, 1) := by decide +kernel
theorem dX12_watch_75 : decode cX12_watch 75 = .ok (.getfield 248, 3) := by decide +kernel
theorem dX12_watch_78 : decode cX12_watch 78 = .ok (.invokevirtual 373, 3) := by decide +kernel
theorem dX12_watch_81 : decode cX12_watch 81 = .ok (.aload_n 0, 1) := by decide +kernel
theorem dX12_watch_82 : decode cX12_watch 82 = .ok (.getfield 236, 3) := by decide +kernel
theorem dX12_watch_85 : decode cX12_watch 85 = .ok (.istore 4, 2) := by decide +kernel
theorem dX12_watch_87 : decode cX12_watch 87 = .ok (.iload 4, 2) := by decide +kernel
theorem dX12_watch_89 : decode cX12_watch 89 = .ok (.ifCond .lt 145, 3) := by decide +kernel
theorem dX12_watch_92 : decode cX12_watch 92 = .ok (.aload_n 0, 1) := by decide +kernel
theorem dX12_watch_93 : decode cX12_watch 93 = .ok (.iload_n 1, 1) := by decide +kernel
theorem dX12_watch_94 : decode cX12_watch 94 = .ok (.iload 4, 2) := by decide +kernel
theorem dX12_watch_96 : decode cX12_watch 96 = .ok (.ifCond .ne 7, 3) := by decide +kernel
theorem dX12_watch_99 : decode cX12_watch 99 = .ok (.iconst 1, 1) := by decide +kernel
theorem dX12_watch_100 : decode cX12_watch 100 = .ok (.goto 4, 3) := by decide +kernel
theorem dX12_watch_103 : decode cX12_watch 103 = .ok (.iconst 0, 1) := by decide +kernel
theorem dX12_watch_104 : decode cX12_watch 104 = .ok (.invokevirtual 379, 3) := by decide +kernel
theorem dX12_watch_107 : decode cX12_watch 107 = .ok (.iload_n 3, 1) := by decide +kernel
theorem dX12_watch_108 : decode cX12_watch 108 = .ok (.aload_n 0, 1) := by decide +kernel
theorem dX12_watch_109 : decode cX12_watch 109 = .ok (.iload_n 1, 1) := by decide +kernel
theorem dX12_watch_110 : decode cX12_watch 110 = .ok (.invokevirtual 383, 3) := by decide +kernel
theorem dX12_watch_113 : decode cX12_watch 113 = .ok (.ior, 1) := by decide +kernel
theorem dX12_watch_114 : decode cX12_watch 114 = .ok (.istore_n 3, 1) := by decide +kernel
theorem dX12_watch_115 : decode cX12_watch 115 = .ok (.aload_n 0, 1) := by decide +kernel
theorem dX12_watch_116 : decode cX12_watch 116 = .ok (.invokevirtual 386, 3) := by decide +kernel
theorem dX12_watch_119 : decode cX12_watch 119 = .ok (.iload_n 3, 1) := by decide +kernel
theorem dX12_watch_120 : decode cX12_watch 120 = .ok (.aload_n 0, 1) := by decide +kernel
theorem dX12_watch_121 : decode cX12_watch 121 = .ok (.iload_n 1, 1) := by decide +kernel
theorem dX12_watch_122 : decode cX12_watch 122 = .ok (.invokevirtual 389, 3) := by decide +kernel
theorem dX12_watch_125 : decode cX12_watch 125 = .ok (.ior, 1) := by decide +kernel
theorem dX12_watch_126 : decode cX12_watch 126 = .ok (.istore_n 3, 1) := by decide +kernel
theorem dX12_watch_127 : decode cX12_watch 127 = .ok (.aload_n 0, 1) := by decide +kernel
theorem dX12_watch_128 : decode cX12_watch 128 = .ok (.iconst 0, 1) := by decide +kernel
theorem dX12_watch_129 : decode cX12_watch 129 = .ok (.putfield 370, 3) := by decide +kernel
theorem dX12_watch_132 : decode cX12_watch 132 = .ok (.iconst 0, 1) := by decide +kernel
theorem dX12_watch_133 : decode cX12_watch 133 = .ok (.istore 5, 2) := by decide +kernel
theorem dX12_watch_135 : decode cX12_watch 135 = .ok (.iload 5, 2) := by decide +kernel
theorem dX12_watch_137 : decode cX12_watch 137 = .ok (.aload_n 0, 1) := by decide +kernel
theorem dX12_watch_138 : decode cX12_watch 138 = .ok (.getfield 376, 3) := by decide +kernel
theorem dX12_watch_141 : decode cX12_watch 141 = .ok (.if_icmp .ge 87, 3) := by decide +kernel
theorem dX12_watch_144 : decode cX12_watch 144 = .ok (.iload 4, 2) := by decide +kernel
theorem dX12_watch_146 : decode cX12_watch 146 = .ok (.ifCond .le 82, 3) := by decide +kernel
theorem dX12_watch_149 : decode cX12_watch 149 = .ok (.iconst 4, 1) := by decide +kernel
theorem dX12_watch_150 : decode cX12_watch 150 = .ok (.istore 6, 2) := by decide +kernel
theorem dX12_watch_152 : decode cX12_watch 152 = .ok (.iload 6, 2) := by decide +kernel
theorem dX12_watch_154 : decode cX12_watch 154 = .ok (.bipush 6, 2) := by decide +kernel
theorem dX12_watch_156 : decode cX12_watch 156 = .ok (.if_icmp .ge 66, 3) := by decide +kernel
theorem dX12_watch_159 : decode cX12_watch 159 = .ok (.aload_n 0, 1) := by decide +kernel
theorem dX12_watch_160 : decode cX12_watch 160 = .ok (.iload_n 1, 1) := by decide +kernel
theorem dX12_watch_161 : decode cX12_watch 161 = .ok (.aload_n 0, 1) := by decide +kernel
theorem dX12_watch_162 : decode cX12_watch 162 = .ok (.getfield 49, 3) := by decide +kernel
theorem dX12_watch_165 : decode cX12_watch 165 = .ok (.iload 4, 2) := by decide +kernel
theorem dX12_watch_167 : decode cX12_watch 167 = .ok (.iconst 1, 1) := by decide +kernel
theorem dX12_watch_168 : decode cX12_watch 168 = .ok (.isub, 1) := by decide +kernel
theorem dX12_watch_169 : decode cX12_watch 169 = .ok (.iaload, 1) := by decide +kernel
theorem dX12_watch_170 : decode cX12_watch 170 = .ok (.aload_n 0, 1) := by decide +kernel
theorem dX12_watch_171 : decode cX12_watch 171 = .ok (.getfield 109, 3) := by decide +kernel
theorem dX12_watch_174 : decode cX12_watch 174 = .ok (.iload 5, 2) := by decide +kernel
theorem dX12_watch_176 : decode cX12_watch 176 = .ok (.iaload, 1) := by decide +kernel
theorem dX12_watch_177 : decode cX12_watch 177 = .ok (.iload 6, 2) := by decide +kernel
theorem dX12_watch_179 : decode cX12_watch 179 = .ok (.invokevirtual 260, 3) := by decide +kernel
theorem dX12_watch_182 : decode cX12_watch 182 = .ok (.istore 7, 2) := by decide +kernel
theorem dX12_watch_184 : decode cX12_watch 184 = .ok (.aload_n 0, 1) := by decide +kernel
theorem dX12_watch_185 : decode cX12_watch 185 = .ok (.aload_n 0, 1) := by decide +kernel
theorem dX12_watch_186 : decode cX12_watch 186 = .ok (.getfield 43, 3) := by decide +kernel
theorem dX12_watch_189 : decode cX12_watch 189 = .ok (.iload 4, 2) := by decide +kernel
theorem dX12_watch_191 : decode cX12_watch 191 = .ok (.iconst 1, 1) := by decide +kernel
theorem dX12_watch_192 : decode cX12_watch 192 = .ok (.isub, 1) := by decide +kernel
theorem dX12_watch_193 : decode cX12_watch 193 = .ok (.iaload, 1) := by decide +kernel
theorem dX12_watch_194 : decode cX12_watch 194 = .ok (.iload 7, 2) := by decide +kernel
theorem dX12_watch_196 : decode cX12_watch 196 = .ok (.invokestatic 232, 3) := by decide +kernel
theorem dX12_watch_199 : decode cX12_watch 199 = .ok (.aload_n 0, 1) := by decide +kernel
theorem dX12_watch_200 : decode cX12_watch 200 = .ok (.getfield 46, 3) := by decide +kernel
theorem dX12_watch_203 : decode cX12_watch 203 = .ok (.iload 4, 2) := by decide +kernel
theorem dX12_watch_205 : decode cX12_watch 205 = .ok (.iconst 1, 1) := by decide +kernel
theorem dX12_watch_206 : decode cX12_watch 206 = .ok (.isub, 1) := by decide +kernel
theorem dX12_watch_207 : decode cX12_watch 207 = .ok (.iaload, 1) := by decide +kernel
theorem dX12_watch_208 : decode cX12_watch 208 = .ok (.iload 7, 2) := by decide +kernel
theorem dX12_watch_210 : decode cX12_watch 210 = .ok (.invokestatic 257, 3) := by decide +kernel
theorem dX12_watch_213 : decode cX12_watch 213 = .ok (.invokevirtual 373, 3) := by decide +kernel
theorem dX12_watch_216 : decode cX12_watch 216 = .ok (.iinc 6 1, 3) := by decide +kernel
theorem dX12_watch_219 : decode cX12_watch 219 = .ok (.goto (-67), 3) := by decide +kernel
theorem dX12_watch_222 : decode cX12_watch 222 = .ok (.iinc 5 1, 3) := by decide +kernel
theorem dX12_watch_225 : decode cX12_watch 225 = .ok (.goto (-90), 3) := by decide +kernel
theorem dX12_watch_228 : decode cX12_watch 228 = .ok (.iinc 4 (-1), 3) := by decide +kernel
theorem dX12_watch_231 : decode cX12_watch 231 = .ok (.goto (-144), 3) := by decide +kernel
theorem dX12_watch_234 : decode cX12_watch 234 = .ok (.iload_n 3, 1) := by decide +kernel
theorem dX12_watch_235 : decode cX12_watch 235 = .ok (.ireturn, 1) := by decide +kernel
theorem ggX12_compare_X12_in : GoodIn wsX12_compare wsX12_in := gdC (gd1 m11_5)
theorem gX12_compare_X12_in : GoodIn wsX12_compare (va_wsS RX12 112 yX12_in wsX12_in) := gdC (gd3 m11_3 m11_4 m1_5 m11_5)
theorem ggX12_compare_X12_findPlaces : GoodIn wsX12_compare wsX12_findPlaces := gdC (gd1 m39_20)
theorem gX12_compare_X12_findPlaces : GoodIn wsX12_compare (wsV RX12 331 RX12 yX12_findPlaces wsX12_findPlaces) := gdC (gd4 m39_17 m39_18 m39_19 m1_5 m39_20)
theorem ggX12_compare_X12_doesTake : GoodIn wsX12_compare wsX12_doesTake := gdC (gd1 m33_9)
theorem gX12_compare_X12_doesTake : GoodIn wsX12_compare (wsV RX12 298 RX12 yX12_doesTake wsX12_doesTake) := gdC (gd4 m33_6 m33_7 m33_8 m1_5 m33_9)
theorem dX12_compare_0 : decode cX12_compare 0 = .ok (.iload_n 1, 1) := by decide +kernel
theorem dX12_compare_1 : decode cX12_compare 1 = .ok (.iconst 0, 1) := by decide +kernel
theorem dX12_compare_2 : decode cX12_compare 2 = .ok (.iconst 4, 1) := by decide +kernel
theorem dX12_compare_3 : decode cX12_compare 3 = .ok (.invokestatic 112, 3) := by decide +kernel
theorem dX12_compare_6 : decode cX12_compare 6 = .ok (.ifCond .ne 6, 3) := by decide +kernel
theorem dX12_compare_9 : decode cX12_compare 9 = .ok (.bipush (-3), 2) := by decide +kernel
theorem dX12_compare_11 : decode cX12_compare 11 = .ok (.ireturn, 1) := by decide +kernel
theorem dX12_compare_12 : decode cX12_compare 12 = .ok (.aload_n 0, 1) := by decide +kernel
theorem dX12_compare_13 : decode cX12_compare 13 = .ok (.iconst 2, 1) := by decide +kernel
theorem dX12_compare_14 : decode cX12_compare 14 = .ok (.invokevirtual 331, 3) := by decide +kernel
theorem dX12_compare_17 : decode cX12_compare 17 = .ok (.aload_n 0, 1) := by decide +kernel
theorem dX12_compare_18 : decode cX12_compare 18 = .ok (.getfield 304, 3) := by decide +kernel
theorem dX12_compare_21 : decode cX12_compare 21 = .ok (.ifCond .eq 6, 3) := by decide +kernel
theorem dX12_compare_24 : decode cX12_compare 24 = .ok (.bipush (-6), 2) := by decide +kernel
theorem dX12_compare_26 : decode cX12_compare 26 = .ok (.ireturn, 1) := by decide +kernel
theorem dX12_compare_27 : decode cX12_compare 27 = .ok (.iconst 1, 1) := by decide +kernel
theorem dX12_compare_28 : decode cX12_compare 28 = .ok (.istore_n 2, 1) := by decide +kernel
theorem dX12_compare_29 : decode cX12_compare 29 = .ok (.iconst 0, 1) := by decide +kernel
theorem dX12_compare_30 : decode cX12_compare 30 = .ok (.istore_n 3, 1) := by decide +kernel
theorem dX12_compare_31 : decode cX12_compare 31 = .ok (.iload_n 3, 1) := by decide +kernel
theorem dX12_compare_32 : decode cX12_compare 32 = .ok (.aload_n 0, 1) := by decide +kernel
theorem dX12_compare_33 : decode cX12_compare 33 = .ok (.getfield 311, 3) := by decide +kernel
theorem dX12_compare_36 : decode cX12_compare 36 = .ok (.if_icmp .ge 123, 3) := by decide +kernel
theorem dX12_compare_39 : decode cX12_compare 39 = .ok (.aload_n 0, 1) := by decide +kernel
theorem dX12_compare_40 : decode cX12_compare 40 = .ok (.iconst 0, 1) := by decide +kernel
theorem dX12_compare_41 : decode cX12_compare 41 = .ok (.aload_n 0, 1) := by decide +kernel
theorem dX12_compare_42 : decode cX12_compare 42 = .ok (.getfield 78, 3) := by decide +kernel
theorem dX12_compare_45 : decode cX12_compare 45 = .ok (.iload_n 3, 1) := by decide +kernel
theorem dX12_compare_46 : decode cX12_compare 46 = .ok (.iaload, 1) := by decide +kernel
theorem dX12_compare_47 : decode cX12_compare 47 = .ok (.invokevirtual 298, 3) := by decide +kernel
theorem dX12_compare_50 : decode cX12_compare 50 = .ok (.istore 4, 2) := by decide +kernel
theorem dX12_compare_52 : decode cX12_compare 52 = .ok (.aload_n 0, 1) := by decide +kernel
theorem dX12_compare_53 : decode cX12_compare 53 = .ok (.iconst 1, 1) := by decide +kernel
theorem dX12_compare_54 : decode cX12_compare 54 = .ok (.aload_n 0, 1) := by decide +kernel
theorem dX12_compare_55 : decode cX12_compare 55 = .ok (.getfield 78, 3) := by decide +kernel
theorem dX12_compare_58 : decode cX12_compare 58 = .ok (.iload_n 3, 1) := by decide +kernel
theorem dX12_compare_59 : decode cX12_compare 59 = .ok (.iaload, 1) := by decide +kernel
theorem dX12_compare_60 : decode cX12_compare 60 = .ok (.invokevirtual 298, 3) := by decide +kernel
theorem dX12_compare_63 : decode cX12_compare 63 = .ok (.istore 5, 2) := by decide +kernel
theorem dX12_compare_65 : decode cX12_compare 65 = .ok (.iload_n 2, 1) := by decide +kernel
theorem dX12_compare_66 : decode cX12_compare 66 = .ok (.ifCond .eq 85, 3) := by decide +kernel
theorem dX12_compare_69 : decode cX12_compare 69 = .ok (.iload_n 1, 1) := by decide +kernel
theorem dX12_compare_70 : decode cX12_compare 70 = .ok (.ifCond .ne 13, 3) := by decide +kernel
theorem dX12_compare_73 : decode cX12_compare 73 = .ok (.iload 4, 2) := by decide +kernel
theorem dX12_compare_75 : decode cX12_compare 75 = .ok (.iload 5, 2) := by decide +kernel
theorem dX12_compare_77 : decode cX12_compare 77 = .ok (.if_icmp .ne 74, 3) := by decide +kernel
theorem dX12_compare_80 : decode cX12_compare 80 = .ok (.goto 67, 3) := by decide +kernel
theorem dX12_compare_83 : decode cX12_compare 83 = .ok (.iload_n 1, 1) := by decide +kernel
theorem dX12_compare_84 : decode cX12_compare 84 = .ok (.iconst 1, 1) := by decide +kernel
theorem dX12_compare_85 : decode cX12_compare 85 = .ok (.if_icmp .ne 16, 3) := by decide +kernel
theorem dX12_compare_88 : decode cX12_compare 88 = .ok (.iload 4, 2) := by decide +kernel
theorem dX12_compare_90 : decode cX12_compare 90 = .ok (.ifCond .eq 57, 3) := by decide +kernel
theorem dX12_compare_93 : decode cX12_compare 93 = .ok (.iload 5, 2) := by decide +kernel
theorem dX12_compare_95 : decode cX12_compare 95 = .ok (.ifCond .eq 56, 3) := by decide +kernel
theorem dX12_compare_98 : decode cX12_compare 98 = .ok (.goto 49, 3) := by decide +kernel
theorem dX12_compare_101 : decode cX12_compare 101 = .ok (.iload_n 1, 1) := by decide +kernel
theorem dX12_compare_102 : decode cX12_compare 102 = .ok (.iconst 2, 1) := by decide +kernel
theorem dX12_compare_103 : decode cX12_compare 103 = .ok (.if_icmp .ne 16, 3) := by decide +kernel
theorem dX12_compare_106 : decode cX12_compare 106 = .ok (.iload 4, 2) := by decide +kernel
theorem dX12_compare_108 : decode cX12_compare 108 = .ok (.ifCond .ne 39, 3) := by decide +kernel
theorem dX12_compare_111 : decode cX12_compare 111 = .ok (.iload 5, 2) := by decide +kernel
theorem dX12_compare_113 : decode cX12_compare 113 = .ok (.ifCond .ne 38, 3) := by decide +kernel
theorem dX12_compare_116 : decode cX12_compare 116 = .ok (.goto 31, 3) := by decide +kernel
theorem dX12_compare_119 : decode cX12_compare 119 = .ok (.iload_n 1, 1) := by decide +kernel
theorem dX12_compare_120 : decode cX12_compare 120 = .ok (.iconst 3, 1) := by decide +kernel
theorem dX12_compare_121 : decode cX12_compare 121 = .ok (.if_icmp .ne 16, 3) := by decide +kernel
theorem dX12_compare_124 : decode cX12_compare 124 = .ok (.iload 4, 2) := by decide +kernel
theorem dX12_compare_126 : decode cX12_compare 126 = .ok (.ifCond .eq 21, 3) := by decide +kernel
theorem dX12_compare_129 : decode cX12_compare 129 = .ok (.iload 5, 2) := by decide +kernel
theorem dX12_compare_131 : decode cX12_compare 131 = .ok (.ifCond .ne 20, 3) := by decide +kernel
theorem dX12_compare_134 : decode cX12_compare 134 = .ok (.goto 13, 3) := by decide +kernel
theorem dX12_compare_137 : decode cX12_compare 137 = .ok (.iload 4, 2) := by decide +kernel
theorem dX12_compare_139 : decode cX12_compare 139 = .ok (.ifCond .ne 8, 3) := by decide +kernel
theorem dX12_compare_142 : decode cX12_compare 142 = .ok (.iload 5, 2) := by decide +kernel
theorem dX12_compare_144 : decode cX12_compare 144 = .ok (.ifCond .eq 7, 3) := by decide +kernel
theorem dX12_compare_147 : decode cX12_compare 147 = .ok (.iconst 1, 1) := by decide +kernel
theorem dX12_compare_148 : decode cX12_compare 148 = .ok (.goto 4, 3) := by decide +kernel
theorem dX12_compare_151 : decode cX12_compare 151 = .ok (.iconst 0, 1) := by decide +kernel
theorem dX12_compare_152 : decode cX12_compare 152 = .ok (.istore_n 2, 1) := by decide +kernel
theorem dX12_compare_153 : decode cX12_compare 153 = .ok (.iinc 3 1, 3) := by decide +kernel
theorem dX12_compare_156 : decode cX12_compare 156 = .ok (.goto (-125), 3) := by decide +kernel
theorem dX12_compare_159 : decode cX12_compare 159 = .ok (.iload_n 2, 1) := by decide +kernel
theorem dX12_compare_160 : decode cX12_compare 160 = .ok (.ifCond .eq 7, 3) := by decide +kernel
theorem dX12_compare_163 : decode cX12_compare 163 = .ok (.iconst 1, 1) := by decide +kernel
theorem dX12_compare_164 : decode cX12_compare 164 = .ok (.goto 4, 3) := by decide +kernel
theorem dX12_compare_167 : decode cX12_compare 167 = .ok (.iconst 0, 1) := by decide +kernel
theorem dX12_compare_168 : decode cX12_compare 168 = .ok (.ireturn, 1) := by decide +kernel
theorem ggX12_parted_X12_findPlaces : GoodIn wsX12_parted wsX12_findPlaces := gdC (gd1 m39_20)
theorem gX12_parted_X12_findPlaces : GoodIn wsX12_parted (wsV RX12 331 RX12 yX12_findPlaces wsX12_findPlaces) := gdC (gd4 m39_17 m39_18 m39_19 m1_5 m39_20)
theorem ggX12_parted_X12_shortestOf : GoodIn wsX12_parted wsX12_shortestOf := gdC (gd1 m44_22)
theorem gX12_parted_X12_shortestOf : GoodIn wsX12_parted (wsV RX12 337 RX12 yX12_shortestOf wsX12_shortestOf) := gdC (gd4 m44_19 m44_20 m44_21 m1_5 m44_22)
theorem dX12_parted_0 : decode cX12_parted 0 = .ok (.aload_n 0, 1) := by decide +kernel
theorem dX12_parted_1 : decode cX12_parted 1 = .ok (.iconst 2, 1) := by decide +kernel
theorem dX12_parted_2 : decode cX12_parted 2 = .ok (.invokevirtual 331, 3) := by decide +kernel
theorem dX12_parted_5 : decode cX12_parted 5 = .ok (.aload_n 0, 1) := by decide +kernel
theorem dX12_parted_6 : decode cX12_parted 6 = .ok (.getfield 304, 3) := by decide +kernel
theorem dX12_parted_9 : decode cX12_parted 9 = .ok (.ifCond .eq 8, 3) := by decide +kernel
theorem dX12_parted_12 : decode cX12_parted 12 = .ok (.bipush (-6), 2) := by decide +kernel
theorem dX12_parted_14 : decode cX12_parted 14 = .ok (.goto 8, 3) := by decide +kernel
theorem dX12_parted_17 : decode cX12_parted 17 = .ok (.aload_n 0, 1) := by decide +kernel
theorem dX12_parted_18 : decode cX12_parted 18 = .ok (.iconst 3, 1) := by decide +kernel
theorem dX12_parted_19 : decode cX12_parted 19 = .ok (.invokevirtual 337, 3) := by decide +kernel
theorem dX12_parted_22 : decode cX12_parted 22 = .ok (.ireturn, 1) := by decide +kernel
theorem ggX12_both_X12_findPlaces : GoodIn wsX12_both wsX12_findPlaces := gdC (gd1 m39_20)
theorem gX12_both_X12_findPlaces : GoodIn wsX12_both (wsV RX12 331 RX12 yX12_findPlaces wsX12_findPlaces) := gdC (gd4 m39_17 m39_18 m39_19 m1_5 m39_20)
theorem ggX12_both_X12_shortestOf : GoodIn wsX12_both wsX12_shortestOf := gdC (gd1 m44_22)
theorem gX12_both_X12_shortestOf : GoodIn wsX12_both (wsV RX12 337 RX12 yX12_shortestOf wsX12_shortestOf) := gdC (gd4 m44_19 m44_20 m44_21 m1_5 m44_22)
theorem dX12_both_0 : decode cX12_both 0 = .ok (.aload_n 0, 1) := by decide +kernel
theorem dX12_both_1 : decode cX12_both 1 = .ok (.iconst 2, 1) := by decide +kernel
theorem dX12_both_2 : decode cX12_both 2 = .ok (.invokevirtual 331, 3) := by decide +kernel
theorem dX12_both_5 : decode cX12_both 5 = .ok (.aload_n 0, 1) := by decide +kernel
theorem dX12_both_6 : decode cX12_both 6 = .ok (.getfield 304, 3) := by decide +kernel
theorem dX12_both_9 : decode cX12_both 9 = .ok (.ifCond .eq 8, 3) := by decide +kernel
theorem dX12_both_12 : decode cX12_both 12 = .ok (.bipush (-6), 2) := by decide +kernel
theorem dX12_both_14 : decode cX12_both 14 = .ok (.goto 8, 3) := by decide +kernel
theorem dX12_both_17 : decode cX12_both 17 = .ok (.aload_n 0, 1) := by decide +kernel
theorem dX12_both_18 : decode cX12_both 18 = .ok (.iconst 2, 1) := by decide +kernel
theorem dX12_both_19 : decode cX12_both 19 = .ok (.invokevirtual 337, 3) := by decide +kernel
theorem dX12_both_22 : decode cX12_both 22 = .ok (.ireturn, 1) := by decide +kernel
theorem ggX12_count_X12_movesOf : GoodIn wsX12_count wsX12_movesOf := gdC (gd1 m21_8)
theorem gX12_count_X12_movesOf : GoodIn wsX12_count (wsV RX12 212 RX12 yX12_movesOf wsX12_movesOf) := gdC (gd4 m21_5 m21_6 m21_7 m1_5 m21_8)
theorem dX12_count_0 : decode cX12_count 0 = .ok (.iload_n 1, 1) := by decide +kernel
theorem dX12_count_1 : decode cX12_count 1 = .ok (.tableswitch 53 0 3 #[31, 36, 41, 47], 31) := by decide +kernel
theorem dX12_count_32 : decode cX12_count 32 = .ok (.aload_n 0, 1) := by decide +kernel
theorem dX12_count_33 : decode cX12_count 33 = .ok (.getfield 219, 3) := by decide +kernel
theorem dX12_count_36 : decode cX12_count 36 = .ok (.ireturn, 1) := by decide +kernel
theorem dX12_count_37 : decode cX12_count 37 = .ok (.aload_n 0, 1) := by decide +kernel
theorem dX12_count_38 : decode cX12_count 38 = .ok (.getfield 120, 3) := by decide +kernel
theorem dX12_count_41 : decode cX12_count 41 = .ok (.ireturn, 1) := by decide +kernel
theorem dX12_count_42 : decode cX12_count 42 = .ok (.aload_n 0, 1) := by decide +kernel
theorem dX12_count_43 : decode cX12_count 43 = .ok (.iconst 0, 1) := by decide +kernel
theorem dX12_count_44 : decode cX12_count 44 = .ok (.invokevirtual 212, 3) := by decide +kernel
theorem dX12_count_47 : decode cX12_count 47 = .ok (.ireturn, 1) := by decide +kernel
theorem dX12_count_48 : decode cX12_count 48 = .ok (.aload_n 0, 1) := by decide +kernel
theorem dX12_count_49 : decode cX12_count 49 = .ok (.iconst 1, 1) := by decide +kernel
theorem dX12_count_50 : decode cX12_count 50 = .ok (.invokevirtual 212, 3) := by decide +kernel
theorem dX12_count_53 : decode cX12_count 53 = .ok (.ireturn, 1) := by decide +kernel
theorem dX12_count_54 : decode cX12_count 54 = .ok (.bipush (-3), 2) := by decide +kernel
theorem dX12_count_56 : decode cX12_count 56 = .ok (.ireturn, 1) := by decide +kernel
