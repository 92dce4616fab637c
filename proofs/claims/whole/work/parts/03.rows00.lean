set_option maxRecDepth 20000 in
theorem ggX0_init_X4_held : GoodIn wsX0_init wsX4_held := goodIn_r _ [17, 18, 33, 34, 35, 36, 37, 38, 39, 40, 41] (by decide +kernel) (by decide +kernel)
set_option maxRecDepth 20000 in
theorem gX0_init_X4_held : GoodIn wsX0_init (wsV RX0 29 RX4 yX4_held wsX4_held) := goodIn_app (goodIn_of _ (by decide +kernel)) ggX0_init_X4_held
set_option maxRecDepth 20000 in
theorem ggX0_init_X1_codes : GoodIn wsX0_init wsX1_codes := goodIn_r _ [23, 24, 42, 43, 44] (by decide +kernel) (by decide +kernel)
set_option maxRecDepth 20000 in
theorem gX0_init_X1_codes : GoodIn wsX0_init (wsV RX0 35 RX1 yX1_codes wsX1_codes) := goodIn_app (goodIn_of _ (by decide +kernel)) ggX0_init_X1_codes
theorem dX0_init_0 : decode cX0_init 0 = .ok (.aload_n 0, 1) := by decide +kernel
theorem dX0_init_1 : decode cX0_init 1 = .ok (.invokespecial 3, 3) := by decide +kernel
theorem dX0_init_4 : decode cX0_init 4 = .ok (.aload_n 0, 1) := by decide +kernel
theorem dX0_init_5 : decode cX0_init 5 = .ok (.sipush 780, 3) := by decide +kernel
theorem dX0_init_8 : decode cX0_init 8 = .ok (.newarray .long, 2) := by decide +kernel
theorem dX0_init_10 : decode cX0_init 10 = .ok (.putfield 11, 3) := by decide +kernel
theorem dX0_init_13 : decode cX0_init 13 = .ok (.aload_n 0, 1) := by decide +kernel
theorem dX0_init_14 : decode cX0_init 14 = .ok (.sipush 780, 3) := by decide +kernel
theorem dX0_init_17 : decode cX0_init 17 = .ok (.newarray .long, 2) := by decide +kernel
theorem dX0_init_19 : decode cX0_init 19 = .ok (.putfield 15, 3) := by decide +kernel
theorem dX0_init_22 : decode cX0_init 22 = .ok (.aload_n 0, 1) := by decide +kernel
theorem dX0_init_23 : decode cX0_init 23 = .ok (.iconst 0, 1) := by decide +kernel
theorem dX0_init_24 : decode cX0_init 24 = .ok (.putfield 18, 3) := by decide +kernel
theorem dX0_init_27 : decode cX0_init 27 = .ok (.aload_n 0, 1) := by decide +kernel
theorem dX0_init_28 : decode cX0_init 28 = .ok (.iconst 0, 1) := by decide +kernel
theorem dX0_init_29 : decode cX0_init 29 = .ok (.putfield 22, 3) := by decide +kernel
theorem dX0_init_32 : decode cX0_init 32 = .ok (.aload_n 0, 1) := by decide +kernel
theorem dX0_init_33 : decode cX0_init 33 = .ok (.aload_n 1, 1) := by decide +kernel
theorem dX0_init_34 : decode cX0_init 34 = .ok (.putfield 25, 3) := by decide +kernel
theorem dX0_init_37 : decode cX0_init 37 = .ok (.aload_n 0, 1) := by decide +kernel
theorem dX0_init_38 : decode cX0_init 38 = .ok (.aload_n 1, 1) := by decide +kernel
theorem dX0_init_39 : decode cX0_init 39 = .ok (.invokevirtual 29, 3) := by decide +kernel
theorem dX0_init_42 : decode cX0_init 42 = .ok (.invokevirtual 35, 3) := by decide +kernel
theorem dX0_init_45 : decode cX0_init 45 = .ok (.putfield 41, 3) := by decide +kernel
theorem dX0_init_48 : decode cX0_init 48 = .ok (.aload_n 0, 1) := by decide +kernel
theorem dX0_init_49 : decode cX0_init 49 = .ok (.bipush 13, 2) := by decide +kernel
theorem dX0_init_51 : decode cX0_init 51 = .ok (.aload_n 0, 1) := by decide +kernel
theorem dX0_init_52 : decode cX0_init 52 = .ok (.getfield 41, 3) := by decide +kernel
theorem dX0_init_55 : decode cX0_init 55 = .ok (.imul, 1) := by decide +kernel
theorem dX0_init_56 : decode cX0_init 56 = .ok (.newarray .long, 2) := by decide +kernel
theorem dX0_init_58 : decode cX0_init 58 = .ok (.putfield 43, 3) := by decide +kernel
theorem dX0_init_61 : decode cX0_init 61 = .ok (.aload_n 0, 1) := by decide +kernel
theorem dX0_init_62 : decode cX0_init 62 = .ok (.bipush 13, 2) := by decide +kernel
theorem dX0_init_64 : decode cX0_init 64 = .ok (.aload_n 0, 1) := by decide +kernel
theorem dX0_init_65 : decode cX0_init 65 = .ok (.getfield 41, 3) := by decide +kernel
theorem dX0_init_68 : decode cX0_init 68 = .ok (.imul, 1) := by decide +kernel
theorem dX0_init_69 : decode cX0_init 69 = .ok (.newarray .long, 2) := by decide +kernel
theorem dX0_init_71 : decode cX0_init 71 = .ok (.putfield 46, 3) := by decide +kernel
theorem dX0_init_74 : decode cX0_init 74 = .ok (.return_, 1) := by decide +kernel
set_option maxRecDepth 20000 in
theorem ggX0_rowsWithin_X0_refresh : GoodIn wsX0_rowsWithin wsX0_refresh := goodIn_r _ [10, 11, 12, 1, 13, 3, 14, 15, 16, 17, 18, 19, 20, 21, 22, 9, 23, 24, 2, 4, 25, 26, 27, 5, 28, 29, 30, 31, 32, 33, 34, 35, 36, 37, 38, 39, 40, 41, 134, 135, 136, 137, 138, 139, 140, 141, 142, 143, 144, 145, 146, 147, 148, 149, 150, 151, 152, 153] (by decide +kernel) (by decide +kernel)
set_option maxRecDepth 20000 in
theorem gX0_rowsWithin_X0_refresh : GoodIn wsX0_rowsWithin (wsV RX0 49 RX0 yX0_refresh wsX0_refresh) := goodIn_app (goodIn_of _ (by decide +kernel)) ggX0_rowsWithin_X0_refresh
set_option maxRecDepth 20000 in
theorem ggX0_rowsWithin_X0_extend : GoodIn wsX0_rowsWithin wsX0_extend := goodIn_r _ [45, 12, 3, 4, 20, 21, 22, 9, 23, 13, 24, 2, 46, 47, 48, 17, 49, 50, 51, 52, 53, 54, 55, 56, 57, 58, 59, 60, 61, 62, 63, 64, 25, 26, 27, 5, 65, 66, 67, 68, 69, 70, 71, 72, 73, 74, 75, 76, 77, 78, 79, 80, 81, 82, 83, 84, 85, 86, 87, 88, 89, 90, 91, 92, 93, 94, 95, 96, 97, 98, 99, 100, 101, 102, 103, 104, 105, 106, 28, 29, 30, 31, 32, 107, 108, 109, 36, 110, 111, 112, 113, 114, 115, 116, 117, 118, 119, 120, 121, 122, 123, 124, 125, 126, 127, 128, 129, 130, 131, 132, 133, 39, 40, 41, 134, 135, 136, 137, 138, 139, 140, 141, 142, 143, 144, 145, 146, 147, 148, 149, 150, 154, 155, 156, 157, 158, 159, 160, 161, 162, 163, 164, 151, 152, 153, 165, 166, 167, 168, 169] (by decide +kernel) (by decide +kernel)
set_option maxRecDepth 20000 in
theorem gX0_rowsWithin_X0_extend : GoodIn wsX0_rowsWithin (wsV RX0 52 RX0 yX0_extend wsX0_extend) := goodIn_app (goodIn_of _ (by decide +kernel)) ggX0_rowsWithin_X0_extend
theorem dX0_rowsWithin_0 : decode cX0_rowsWithin 0 = .ok (.aload_n 0, 1) := by decide +kernel
theorem dX0_rowsWithin_1 : decode cX0_rowsWithin 1 = .ok (.invokevirtual 49, 3) := by decide +kernel
theorem dX0_rowsWithin_4 : decode cX0_rowsWithin 4 = .ok (.aload_n 0, 1) := by decide +kernel
theorem dX0_rowsWithin_5 : decode cX0_rowsWithin 5 = .ok (.getfield 22, 3) := by decide +kernel
theorem dX0_rowsWithin_8 : decode cX0_rowsWithin 8 = .ok (.iconst 1, 1) := by decide +kernel
theorem dX0_rowsWithin_9 : decode cX0_rowsWithin 9 = .ok (.iadd, 1) := by decide +kernel
theorem dX0_rowsWithin_10 : decode cX0_rowsWithin 10 = .ok (.istore 4, 2) := by decide +kernel
theorem dX0_rowsWithin_12 : decode cX0_rowsWithin 12 = .ok (.iload 4, 2) := by decide +kernel
theorem dX0_rowsWithin_14 : decode cX0_rowsWithin 14 = .ok (.iload_n 3, 1) := by decide +kernel
theorem dX0_rowsWithin_15 : decode cX0_rowsWithin 15 = .ok (.if_icmp .gt 28, 3) := by decide +kernel
theorem dX0_rowsWithin_18 : decode cX0_rowsWithin 18 = .ok (.iload 4, 2) := by decide +kernel
theorem dX0_rowsWithin_20 : decode cX0_rowsWithin 20 = .ok (.bipush 13, 2) := by decide +kernel
theorem dX0_rowsWithin_22 : decode cX0_rowsWithin 22 = .ok (.if_icmp .ge 21, 3) := by decide +kernel
theorem dX0_rowsWithin_25 : decode cX0_rowsWithin 25 = .ok (.aload_n 0, 1) := by decide +kernel
theorem dX0_rowsWithin_26 : decode cX0_rowsWithin 26 = .ok (.iload 4, 2) := by decide +kernel
theorem dX0_rowsWithin_28 : decode cX0_rowsWithin 28 = .ok (.invokevirtual 52, 3) := by decide +kernel
theorem dX0_rowsWithin_31 : decode cX0_rowsWithin 31 = .ok (.aload_n 0, 1) := by decide +kernel
theorem dX0_rowsWithin_32 : decode cX0_rowsWithin 32 = .ok (.iload 4, 2) := by decide +kernel
theorem dX0_rowsWithin_34 : decode cX0_rowsWithin 34 = .ok (.putfield 22, 3) := by decide +kernel
theorem dX0_rowsWithin_37 : decode cX0_rowsWithin 37 = .ok (.iinc 4 1, 3) := by decide +kernel
theorem dX0_rowsWithin_40 : decode cX0_rowsWithin 40 = .ok (.goto (-28), 3) := by decide +kernel
theorem dX0_rowsWithin_43 : decode cX0_rowsWithin 43 = .ok (.lconst 0, 1) := by decide +kernel
theorem dX0_rowsWithin_44 : decode cX0_rowsWithin 44 = .ok (.lstore 4, 2) := by decide +kernel
theorem dX0_rowsWithin_46 : decode cX0_rowsWithin 46 = .ok (.iconst 0, 1) := by decide +kernel
theorem dX0_rowsWithin_47 : decode cX0_rowsWithin 47 = .ok (.istore 6, 2) := by decide +kernel
theorem dX0_rowsWithin_49 : decode cX0_rowsWithin 49 = .ok (.iload 6, 2) := by decide +kernel
theorem dX0_rowsWithin_51 : decode cX0_rowsWithin 51 = .ok (.aload_n 0, 1) := by decide +kernel
theorem dX0_rowsWithin_52 : decode cX0_rowsWithin 52 = .ok (.getfield 41, 3) := by decide +kernel
theorem dX0_rowsWithin_55 : decode cX0_rowsWithin 55 = .ok (.if_icmp .ge 66, 3) := by decide +kernel
theorem dX0_rowsWithin_58 : decode cX0_rowsWithin 58 = .ok (.iload_n 3, 1) := by decide +kernel
theorem dX0_rowsWithin_59 : decode cX0_rowsWithin 59 = .ok (.ifCond .lt 62, 3) := by decide +kernel
theorem dX0_rowsWithin_62 : decode cX0_rowsWithin 62 = .ok (.iload_n 3, 1) := by decide +kernel
theorem dX0_rowsWithin_63 : decode cX0_rowsWithin 63 = .ok (.aload_n 0, 1) := by decide +kernel
theorem dX0_rowsWithin_64 : decode cX0_rowsWithin 64 = .ok (.getfield 22, 3) := by decide +kernel
theorem dX0_rowsWithin_67 : decode cX0_rowsWithin 67 = .ok (.if_icmp .gt 54, 3) := by decide +kernel
theorem dX0_rowsWithin_70 : decode cX0_rowsWithin 70 = .ok (.lload_n 1, 1) := by decide +kernel
theorem dX0_rowsWithin_71 : decode cX0_rowsWithin 71 = .ok (.iload 6, 2) := by decide +kernel
theorem dX0_rowsWithin_73 : decode cX0_rowsWithin 73 = .ok (.lshr, 1) := by decide +kernel
theorem dX0_rowsWithin_74 : decode cX0_rowsWithin 74 = .ok (.lconst 1, 1) := by decide +kernel
theorem dX0_rowsWithin_75 : decode cX0_rowsWithin 75 = .ok (.land, 1) := by decide +kernel
theorem dX0_rowsWithin_76 : decode cX0_rowsWithin 76 = .ok (.lconst 0, 1) := by decide +kernel
theorem dX0_rowsWithin_77 : decode cX0_rowsWithin 77 = .ok (.lcmp, 1) := by decide +kernel
theorem dX0_rowsWithin_78 : decode cX0_rowsWithin 78 = .ok (.ifCond .eq 37, 3) := by decide +kernel
theorem dX0_rowsWithin_81 : decode cX0_rowsWithin 81 = .ok (.lload 4, 2) := by decide +kernel
theorem dX0_rowsWithin_83 : decode cX0_rowsWithin 83 = .ok (.aload_n 0, 1) := by decide +kernel
theorem dX0_rowsWithin_84 : decode cX0_rowsWithin 84 = .ok (.getfield 43, 3) := by decide +kernel
theorem dX0_rowsWithin_87 : decode cX0_rowsWithin 87 = .ok (.iload_n 3, 1) := by decide +kernel
theorem dX0_rowsWithin_88 : decode cX0_rowsWithin 88 = .ok (.aload_n 0, 1) := by decide +kernel
theorem dX0_rowsWithin_89 : decode cX0_rowsWithin 89 = .ok (.getfield 41, 3) := by decide +kernel
theorem dX0_rowsWithin_92 : decode cX0_rowsWithin 92 = .ok (.imul, 1) := by decide +kernel
theorem dX0_rowsWithin_93 : decode cX0_rowsWithin 93 = .ok (.iload 6, 2) := by decide +kernel
theorem dX0_rowsWithin_95 : decode cX0_rowsWithin 95 = .ok (.iadd, 1) := by decide +kernel
theorem dX0_rowsWithin_96 : decode cX0_rowsWithin 96 = .ok (.laload, 1) := by decide +kernel
theorem dX0_rowsWithin_97 : decode cX0_rowsWithin 97 = .ok (.aload_n 0, 1) := by decide +kernel
theorem dX0_rowsWithin_98 : decode cX0_rowsWithin 98 = .ok (.getfield 46, 3) := by decide +kernel
theorem dX0_rowsWithin_101 : decode cX0_rowsWithin 101 = .ok (.iload_n 3, 1) := by decide +kernel
theorem dX0_rowsWithin_102 : decode cX0_rowsWithin 102 = .ok (.aload_n 0, 1) := by decide +kernel
theorem dX0_rowsWithin_103 : decode cX0_rowsWithin 103 = .ok (.getfield 41, 3) := by decide +kernel
theorem dX0_rowsWithin_106 : decode cX0_rowsWithin 106 = .ok (.imul, 1) := by decide +kernel
theorem dX0_rowsWithin_107 : decode cX0_rowsWithin 107 = .ok (.iload 6, 2) := by decide +kernel
theorem dX0_rowsWithin_109 : decode cX0_rowsWithin 109 = .ok (.iadd, 1) := by decide +kernel
theorem dX0_rowsWithin_110 : decode cX0_rowsWithin 110 = .ok (.laload, 1) := by decide +kernel
theorem dX0_rowsWithin_111 : decode cX0_rowsWithin 111 = .ok (.ladd, 1) := by decide +kernel
theorem dX0_rowsWithin_112 : decode cX0_rowsWithin 112 = .ok (.ladd, 1) := by decide +kernel
theorem dX0_rowsWithin_113 : decode cX0_rowsWithin 113 = .ok (.lstore 4, 2) := by decide +kernel
theorem dX0_rowsWithin_115 : decode cX0_rowsWithin 115 = .ok (.iinc 6 1, 3) := by decide +kernel
theorem dX0_rowsWithin_118 : decode cX0_rowsWithin 118 = .ok (.goto (-69), 3) := by decide +kernel
theorem dX0_rowsWithin_121 : decode cX0_rowsWithin 121 = .ok (.lload 4, 2) := by decide +kernel
theorem dX0_rowsWithin_123 : decode cX0_rowsWithin 123 = .ok (.ldc2_w 56, 3) := by decide +kernel
theorem dX0_rowsWithin_126 : decode cX0_rowsWithin 126 = .ok (.lrem, 1) := by decide +kernel
theorem dX0_rowsWithin_127 : decode cX0_rowsWithin 127 = .ok (.l2i, 1) := by decide +kernel
theorem dX0_rowsWithin_128 : decode cX0_rowsWithin 128 = .ok (.ireturn, 1) := by decide +kernel
set_option maxRecDepth 20000 in
theorem ggX0_refresh_X4_edition : GoodIn wsX0_refresh wsX4_edition := goodIn_r _ [10, 11, 46, 47, 48, 49, 50, 51, 52, 53, 54] (by decide +kernel) (by decide +kernel)
set_option maxRecDepth 20000 in
theorem gX0_refresh_X4_edition : GoodIn wsX0_refresh (wsV RX0 58 RX4 yX4_edition wsX4_edition) := goodIn_app (goodIn_of _ (by decide +kernel)) ggX0_refresh_X4_edition
set_option maxRecDepth 20000 in
theorem ggX0_refresh_X0_clearLine : GoodIn wsX0_refresh wsX0_clearLine := goodIn_r _ [16, 4, 17, 18, 5, 19, 38, 39, 40, 41, 42, 43, 44, 45] (by decide +kernel) (by decide +kernel)
set_option maxRecDepth 20000 in
theorem gX0_refresh_X0_clearLine : GoodIn wsX0_refresh (wsV RX0 60 RX0 yX0_clearLine wsX0_clearLine) := goodIn_app (goodIn_of _ (by decide +kernel)) ggX0_refresh_X0_clearLine
set_option maxRecDepth 20000 in
theorem ggX0_refresh_X0_add : GoodIn wsX0_refresh wsX0_add := goodIn_r _ [22, 23] (by decide +kernel) (by decide +kernel)
set_option maxRecDepth 20000 in
theorem gX0_refresh_X0_add : GoodIn wsX0_refresh (va_wsS RX0 63 yX0_add wsX0_add) := goodIn_app (goodIn_of _ (by decide +kernel)) ggX0_refresh_X0_add
set_option maxRecDepth 20000 in
theorem ggX0_refresh_X4_held : GoodIn wsX0_refresh wsX4_held := goodIn_r _ [27, 28, 46, 47, 48, 49, 50, 51, 52, 53, 54] (by decide +kernel) (by decide +kernel)
set_option maxRecDepth 20000 in
theorem gX0_refresh_X4_held : GoodIn wsX0_refresh (wsV RX0 29 RX4 yX4_held wsX4_held) := goodIn_app (goodIn_of _ (by decide +kernel)) ggX0_refresh_X4_held
set_option maxRecDepth 20000 in
theorem ggX0_refresh_X1_beginning : GoodIn wsX0_refresh wsX1_beginning := goodIn_r _ [33, 34, 35, 36, 32, 37, 55, 56, 57] (by decide +kernel) (by decide +kernel)
set_option maxRecDepth 20000 in
theorem gX0_refresh_X1_beginning : GoodIn wsX0_refresh (wsV RX0 67 RX1 yX1_beginning wsX1_beginning) := goodIn_app (goodIn_of _ (by decide +kernel)) ggX0_refresh_X1_beginning
theorem dX0_refresh_0 : decode cX0_refresh 0 = .ok (.aload_n 0, 1) := by decide +kernel
theorem dX0_refresh_1 : decode cX0_refresh 1 = .ok (.getfield 18, 3) := by decide +kernel
theorem dX0_refresh_4 : decode cX0_refresh 4 = .ok (.aload_n 0, 1) := by decide +kernel
theorem dX0_refresh_5 : decode cX0_refresh 5 = .ok (.getfield 25, 3) := by decide +kernel
theorem dX0_refresh_8 : decode cX0_refresh 8 = .ok (.invokevirtual 58, 3) := by decide +kernel
theorem dX0_refresh_11 : decode cX0_refresh 11 = .ok (.if_icmp .ne 4, 3) := by decide +kernel
theorem dX0_refresh_14 : decode cX0_refresh 14 = .ok (.return_, 1) := by decide +kernel
theorem dX0_refresh_15 : decode cX0_refresh 15 = .ok (.aload_n 0, 1) := by decide +kernel
theorem dX0_refresh_16 : decode cX0_refresh 16 = .ok (.aload_n 0, 1) := by decide +kernel
theorem dX0_refresh_17 : decode cX0_refresh 17 = .ok (.getfield 25, 3) := by decide +kernel
theorem dX0_refresh_20 : decode cX0_refresh 20 = .ok (.invokevirtual 58, 3) := by decide +kernel
theorem dX0_refresh_23 : decode cX0_refresh 23 = .ok (.putfield 18, 3) := by decide +kernel
theorem dX0_refresh_26 : decode cX0_refresh 26 = .ok (.aload_n 0, 1) := by decide +kernel
theorem dX0_refresh_27 : decode cX0_refresh 27 = .ok (.iconst 0, 1) := by decide +kernel
theorem dX0_refresh_28 : decode cX0_refresh 28 = .ok (.putfield 22, 3) := by decide +kernel
theorem dX0_refresh_31 : decode cX0_refresh 31 = .ok (.aload_n 0, 1) := by decide +kernel
theorem dX0_refresh_32 : decode cX0_refresh 32 = .ok (.iconst 0, 1) := by decide +kernel
theorem dX0_refresh_33 : decode cX0_refresh 33 = .ok (.invokevirtual 60, 3) := by decide +kernel
theorem dX0_refresh_36 : decode cX0_refresh 36 = .ok (.aload_n 0, 1) := by decide +kernel
theorem dX0_refresh_37 : decode cX0_refresh 37 = .ok (.getfield 11, 3) := by decide +kernel
theorem dX0_refresh_40 : decode cX0_refresh 40 = .ok (.iconst 0, 1) := by decide +kernel
theorem dX0_refresh_41 : decode cX0_refresh 41 = .ok (.lconst 1, 1) := by decide +kernel
theorem dX0_refresh_42 : decode cX0_refresh 42 = .ok (.invokestatic 63, 3) := by decide +kernel
theorem dX0_refresh_45 : decode cX0_refresh 45 = .ok (.aload_n 0, 1) := by decide +kernel
theorem dX0_refresh_46 : decode cX0_refresh 46 = .ok (.getfield 43, 3) := by decide +kernel
theorem dX0_refresh_49 : decode cX0_refresh 49 = .ok (.aload_n 0, 1) := by decide +kernel
theorem dX0_refresh_50 : decode cX0_refresh 50 = .ok (.getfield 25, 3) := by decide +kernel
theorem dX0_refresh_53 : decode cX0_refresh 53 = .ok (.invokevirtual 29, 3) := by decide +kernel
theorem dX0_refresh_56 : decode cX0_refresh 56 = .ok (.invokevirtual 67, 3) := by decide +kernel
theorem dX0_refresh_59 : decode cX0_refresh 59 = .ok (.lconst 1, 1) := by decide +kernel
theorem dX0_refresh_60 : decode cX0_refresh 60 = .ok (.invokestatic 63, 3) := by decide +kernel
theorem dX0_refresh_63 : decode cX0_refresh 63 = .ok (.return_, 1) := by decide +kernel
set_option maxRecDepth 20000 in
theorem ggX0_extend_X0_clearLine : GoodIn wsX0_extend wsX0_clearLine := goodIn_r _ [8, 9, 10, 11, 2, 3, 114, 115, 116, 117, 118, 119, 120, 121] (by decide +kernel) (by decide +kernel)
set_option maxRecDepth 20000 in
theorem gX0_extend_X0_clearLine : GoodIn wsX0_extend (wsV RX0 60 RX0 yX0_clearLine wsX0_clearLine) := goodIn_app (goodIn_of _ (by decide +kernel)) ggX0_extend_X0_clearLine
set_option maxRecDepth 20000 in
theorem ggX0_extend_X4_wholes : GoodIn wsX0_extend wsX4_wholes := goodIn_r _ [16, 17, 122, 123, 124, 125, 126, 127, 128, 129, 130] (by decide +kernel) (by decide +kernel)
set_option maxRecDepth 20000 in
theorem gX0_extend_X4_wholes : GoodIn wsX0_extend (wsV RX0 70 RX4 yX4_wholes wsX4_wholes) := goodIn_app (goodIn_of _ (by decide +kernel)) ggX0_extend_X4_wholes
set_option maxRecDepth 20000 in
theorem ggX0_extend_X0_countSteps : GoodIn wsX0_extend wsX0_countSteps := goodIn_r _ [21, 10, 9, 22, 23, 24, 25, 26, 27, 28, 29, 30, 31, 32, 33, 7, 34, 35, 36, 37, 38, 39, 40, 41, 42, 43, 44, 45, 114, 115, 116, 117, 118, 119, 120, 121, 131, 132, 133, 134, 135, 136, 137, 138, 139, 140, 141] (by decide +kernel) (by decide +kernel)
set_option maxRecDepth 20000 in
theorem gX0_extend_X0_countSteps : GoodIn wsX0_extend (wsV RX0 74 RX0 yX0_countSteps wsX0_countSteps) := goodIn_app (goodIn_of _ (by decide +kernel)) ggX0_extend_X0_countSteps
set_option maxRecDepth 20000 in
theorem ggX0_extend_X0_addWholes : GoodIn wsX0_extend wsX0_addWholes := goodIn_r _ [49, 9, 10, 36, 37, 38, 25, 39, 40, 50, 51, 52, 53, 54, 55, 56, 57, 58, 59, 32, 33, 7, 34, 35, 114, 115, 116, 117, 118, 119, 120, 121, 131, 132, 133, 134, 135, 136, 137, 138, 139, 140, 141] (by decide +kernel) (by decide +kernel)
set_option maxRecDepth 20000 in
theorem gX0_extend_X0_addWholes : GoodIn wsX0_extend (wsV RX0 78 RX0 yX0_addWholes wsX0_addWholes) := goodIn_app (goodIn_of _ (by decide +kernel)) ggX0_extend_X0_addWholes
set_option maxRecDepth 20000 in
theorem ggX0_extend_X0_addCodes : GoodIn wsX0_extend wsX0_addCodes := goodIn_r _ [63, 1, 11, 10, 12, 13, 14, 15, 16, 17, 50, 51, 52, 25, 53, 54, 64, 65, 66, 67, 68, 69, 70, 71, 72, 73, 32, 33, 7, 34, 35, 114, 115, 116, 117, 118, 119, 120, 121, 122, 123, 124, 125, 126, 127, 128, 129, 130, 131, 132, 133, 134, 135, 136, 137, 138, 139, 140, 141] (by decide +kernel) (by decide +kernel)
set_option maxRecDepth 20000 in
theorem gX0_extend_X0_addCodes : GoodIn wsX0_extend (wsV RX0 82 RX0 yX0_addCodes wsX0_addCodes) := goodIn_app (goodIn_of _ (by decide +kernel)) ggX0_extend_X0_addCodes
set_option maxRecDepth 20000 in
theorem ggX0_extend_X0_addHalfOpen : GoodIn wsX0_extend wsX0_addHalfOpen := goodIn_r _ [77, 1, 11, 2, 3, 78, 79, 80, 15, 81, 82, 83, 84, 85, 86, 87, 88, 89, 90, 91, 92, 30, 93, 94, 95, 96, 97, 98, 99, 100, 101, 102, 103, 104, 105, 106, 107, 108, 109, 110, 111, 112, 113, 32, 33, 7, 34, 35, 114, 115, 116, 117, 118, 119, 120, 121, 122, 123, 124, 125, 126, 127, 128, 129, 130, 142, 143, 144, 145, 146, 147, 148, 149] (by decide +kernel) (by decide +kernel)
set_option maxRecDepth 20000 in
theorem gX0_extend_X0_addHalfOpen : GoodIn wsX0_extend (wsV RX0 86 RX0 yX0_addHalfOpen wsX0_addHalfOpen) := goodIn_app (goodIn_of _ (by decide +kernel)) ggX0_extend_X0_addHalfOpen
theorem dX0_extend_0 : decode cX0_extend 0 = .ok (.aload_n 0, 1) := by decide +kernel
theorem dX0_extend_1 : decode cX0_extend 1 = .ok (.iload_n 1, 1) := by decide +kernel
theorem dX0_extend_2 : decode cX0_extend 2 = .ok (.invokevirtual 60, 3) := by decide +kernel
theorem dX0_extend_5 : decode cX0_extend 5 = .ok (.aload_n 0, 1) := by decide +kernel
theorem dX0_extend_6 : decode cX0_extend 6 = .ok (.aload_n 0, 1) := by decide +kernel
theorem dX0_extend_7 : decode cX0_extend 7 = .ok (.getfield 25, 3) := by decide +kernel
theorem dX0_extend_10 : decode cX0_extend 10 = .ok (.invokevirtual 70, 3) := by decide +kernel
theorem dX0_extend_13 : decode cX0_extend 13 = .ok (.iload_n 1, 1) := by decide +kernel
theorem dX0_extend_14 : decode cX0_extend 14 = .ok (.invokevirtual 74, 3) := by decide +kernel
theorem dX0_extend_17 : decode cX0_extend 17 = .ok (.iconst 1, 1) := by decide +kernel
theorem dX0_extend_18 : decode cX0_extend 18 = .ok (.istore_n 2, 1) := by decide +kernel
theorem dX0_extend_19 : decode cX0_extend 19 = .ok (.iload_n 2, 1) := by decide +kernel
theorem dX0_extend_20 : decode cX0_extend 20 = .ok (.iload_n 1, 1) := by decide +kernel
theorem dX0_extend_21 : decode cX0_extend 21 = .ok (.if_icmp .gt 48, 3) := by decide +kernel
theorem dX0_extend_24 : decode cX0_extend 24 = .ok (.aload_n 0, 1) := by decide +kernel
theorem dX0_extend_25 : decode cX0_extend 25 = .ok (.aload_n 0, 1) := by decide +kernel
theorem dX0_extend_26 : decode cX0_extend 26 = .ok (.getfield 25, 3) := by decide +kernel
theorem dX0_extend_29 : decode cX0_extend 29 = .ok (.invokevirtual 70, 3) := by decide +kernel
theorem dX0_extend_32 : decode cX0_extend 32 = .ok (.iload_n 1, 1) := by decide +kernel
theorem dX0_extend_33 : decode cX0_extend 33 = .ok (.iload_n 2, 1) := by decide +kernel
theorem dX0_extend_34 : decode cX0_extend 34 = .ok (.isub, 1) := by decide +kernel
theorem dX0_extend_35 : decode cX0_extend 35 = .ok (.iload_n 2, 1) := by decide +kernel
theorem dX0_extend_36 : decode cX0_extend 36 = .ok (.invokevirtual 78, 3) := by decide +kernel
theorem dX0_extend_39 : decode cX0_extend 39 = .ok (.aload_n 0, 1) := by decide +kernel
theorem dX0_extend_40 : decode cX0_extend 40 = .ok (.aload_n 0, 1) := by decide +kernel
theorem dX0_extend_41 : decode cX0_extend 41 = .ok (.getfield 43, 3) := by decide +kernel
theorem dX0_extend_44 : decode cX0_extend 44 = .ok (.iload_n 1, 1) := by decide +kernel
theorem dX0_extend_45 : decode cX0_extend 45 = .ok (.iload_n 2, 1) := by decide +kernel
theorem dX0_extend_46 : decode cX0_extend 46 = .ok (.isub, 1) := by decide +kernel
theorem dX0_extend_47 : decode cX0_extend 47 = .ok (.iload_n 2, 1) := by decide +kernel
theorem dX0_extend_48 : decode cX0_extend 48 = .ok (.invokevirtual 82, 3) := by decide +kernel
theorem dX0_extend_51 : decode cX0_extend 51 = .ok (.aload_n 0, 1) := by decide +kernel
theorem dX0_extend_52 : decode cX0_extend 52 = .ok (.aload_n 0, 1) := by decide +kernel
theorem dX0_extend_53 : decode cX0_extend 53 = .ok (.getfield 46, 3) := by decide +kernel
theorem dX0_extend_56 : decode cX0_extend 56 = .ok (.iload_n 1, 1) := by decide +kernel
theorem dX0_extend_57 : decode cX0_extend 57 = .ok (.iload_n 2, 1) := by decide +kernel
theorem dX0_extend_58 : decode cX0_extend 58 = .ok (.isub, 1) := by decide +kernel
theorem dX0_extend_59 : decode cX0_extend 59 = .ok (.iload_n 2, 1) := by decide +kernel
theorem dX0_extend_60 : decode cX0_extend 60 = .ok (.invokevirtual 82, 3) := by decide +kernel
theorem dX0_extend_63 : decode cX0_extend 63 = .ok (.iinc 2 1, 3) := by decide +kernel
theorem dX0_extend_66 : decode cX0_extend 66 = .ok (.goto (-47), 3) := by decide +kernel
theorem dX0_extend_69 : decode cX0_extend 69 = .ok (.aload_n 0, 1) := by decide +kernel
theorem dX0_extend_70 : decode cX0_extend 70 = .ok (.iload_n 1, 1) := by decide +kernel
theorem dX0_extend_71 : decode cX0_extend 71 = .ok (.iconst 1, 1) := by decide +kernel
theorem dX0_extend_72 : decode cX0_extend 72 = .ok (.isub, 1) := by decide +kernel
theorem dX0_extend_73 : decode cX0_extend 73 = .ok (.invokevirtual 86, 3) := by decide +kernel
theorem dX0_extend_76 : decode cX0_extend 76 = .ok (.return_, 1) := by decide +kernel
theorem dX0_clearLine_0 : decode cX0_clearLine 0 = .ok (.iconst 0, 1) := by decide +kernel
theorem dX0_clearLine_1 : decode cX0_clearLine 1 = .ok (.istore_n 2, 1) := by decide +kernel
theorem dX0_clearLine_2 : decode cX0_clearLine 2 = .ok (.iload_n 2, 1) := by decide +kernel
theorem dX0_clearLine_3 : decode cX0_clearLine 3 = .ok (.bipush 60, 2) := by decide +kernel
theorem dX0_clearLine_5 : decode cX0_clearLine 5 = .ok (.if_icmp .ge 33, 3) := by decide +kernel
theorem dX0_clearLine_8 : decode cX0_clearLine 8 = .ok (.aload_n 0, 1) := by decide +kernel
theorem dX0_clearLine_9 : decode cX0_clearLine 9 = .ok (.getfield 11, 3) := by decide +kernel
theorem dX0_clearLine_12 : decode cX0_clearLine 12 = .ok (.iload_n 1, 1) := by decide +kernel
theorem dX0_clearLine_13 : decode cX0_clearLine 13 = .ok (.bipush 60, 2) := by decide +kernel
theorem dX0_clearLine_15 : decode cX0_clearLine 15 = .ok (.imul, 1) := by decide +kernel
theorem dX0_clearLine_16 : decode cX0_clearLine 16 = .ok (.iload_n 2, 1) := by decide +kernel
theorem dX0_clearLine_17 : decode cX0_clearLine 17 = .ok (.iadd, 1) := by decide +kernel
theorem dX0_clearLine_18 : decode cX0_clearLine 18 = .ok (.lconst 0, 1) := by decide +kernel
theorem dX0_clearLine_19 : decode cX0_clearLine 19 = .ok (.lastore, 1) := by decide +kernel
theorem dX0_clearLine_20 : decode cX0_clearLine 20 = .ok (.aload_n 0, 1) := by decide +kernel
theorem dX0_clearLine_21 : decode cX0_clearLine 21 = .ok (.getfield 15, 3) := by decide +kernel
theorem dX0_clearLine_24 : decode cX0_clearLine 24 = .ok (.iload_n 1, 1) := by decide +kernel
theorem dX0_clearLine_25 : decode cX0_clearLine 25 = .ok (.bipush 60, 2) := by decide +kernel
theorem dX0_clearLine_27 : decode cX0_clearLine 27 = .ok (.imul, 1) := by decide +kernel
theorem dX0_clearLine_28 : decode cX0_clearLine 28 = .ok (.iload_n 2, 1) := by decide +kernel
theorem dX0_clearLine_29 : decode cX0_clearLine 29 = .ok (.iadd, 1) := by decide +kernel
theorem dX0_clearLine_30 : decode cX0_clearLine 30 = .ok (.lconst 0, 1) := by decide +kernel
theorem dX0_clearLine_31 : decode cX0_clearLine 31 = .ok (.lastore, 1) := by decide +kernel
theorem dX0_clearLine_32 : decode cX0_clearLine 32 = .ok (.iinc 2 1, 3) := by decide +kernel
theorem dX0_clearLine_35 : decode cX0_clearLine 35 = .ok (.goto (-33), 3) := by decide +kernel
theorem dX0_clearLine_38 : decode cX0_clearLine 38 = .ok (.iconst 0, 1) := by decide +kernel
theorem dX0_clearLine_39 : decode cX0_clearLine 39 = .ok (.istore_n 2, 1) := by decide +kernel
theorem dX0_clearLine_40 : decode cX0_clearLine 40 = .ok (.iload_n 2, 1) := by decide +kernel
theorem dX0_clearLine_41 : decode cX0_clearLine 41 = .ok (.aload_n 0, 1) := by decide +kernel
theorem dX0_clearLine_42 : decode cX0_clearLine 42 = .ok (.getfield 41, 3) := by decide +kernel
theorem dX0_clearLine_45 : decode cX0_clearLine 45 = .ok (.if_icmp .ge 37, 3) := by decide +kernel
theorem dX0_clearLine_48 : decode cX0_clearLine 48 = .ok (.aload_n 0, 1) := by decide +kernel
theorem dX0_clearLine_49 : decode cX0_clearLine 49 = .ok (.getfield 43, 3) := by decide +kernel
theorem dX0_clearLine_52 : decode cX0_clearLine 52 = .ok (.iload_n 1, 1) := by decide +kernel
theorem dX0_clearLine_53 : decode cX0_clearLine 53 = .ok (.aload_n 0, 1) := by decide +kernel
theorem dX0_clearLine_54 : decode cX0_clearLine 54 = .ok (.getfield 41, 3) := by decide +kernel
theorem dX0_clearLine_57 : decode cX0_clearLine 57 = .ok (.imul, 1) := by decide +kernel
theorem dX0_clearLine_58 : decode cX0_clearLine 58 = .ok (.iload_n 2, 1) := by decide +kernel
theorem dX0_clearLine_59 : decode cX0_clearLine 59 = .ok (.iadd, 1) := by decide +kernel
theorem dX0_clearLine_60 : decode cX0_clearLine 60 = .ok (.lconst 0, 1) := by decide +kernel
theorem dX0_clearLine_61 : decode cX0_clearLine 61 = .ok (.lastore, 1) := by decide +kernel
theorem dX0_clearLine_62 : decode cX0_clearLine 62 = .ok (.aload_n 0, 1) := by decide +kernel
theorem dX0_clearLine_63 : decode cX0_clearLine 63 = .ok (.getfield 46, 3) := by decide +kernel
theorem dX0_clearLine_66 : decode cX0_clearLine 66 = .ok (.iload_n 1, 1) := by decide +kernel
theorem dX0_clearLine_67 : decode cX0_clearLine 67 = .ok (.aload_n 0, 1) := by decide +kernel
theorem dX0_clearLine_68 : decode cX0_clearLine 68 = .ok (.getfield 41, 3) := by decide +kernel
theorem dX0_clearLine_71 : decode cX0_clearLine 71 = .ok (.imul, 1) := by decide +kernel
theorem dX0_clearLine_72 : decode cX0_clearLine 72 = .ok (.iload_n 2, 1) := by decide +kernel
theorem dX0_clearLine_73 : decode cX0_clearLine 73 = .ok (.iadd, 1) := by decide +kernel
theorem dX0_clearLine_74 : decode cX0_clearLine 74 = .ok (.lconst 0, 1) := by decide +kernel
theorem dX0_clearLine_75 : decode cX0_clearLine 75 = .ok (.lastore, 1) := by decide +kernel
theorem dX0_clearLine_76 : decode cX0_clearLine 76 = .ok (.iinc 2 1, 3) := by decide +kernel
theorem dX0_clearLine_79 : decode cX0_clearLine 79 = .ok (.goto (-39), 3) := by decide +kernel
theorem dX0_clearLine_82 : decode cX0_clearLine 82 = .ok (.return_, 1) := by decide +kernel
set_option maxRecDepth 20000 in
theorem ggX0_countSteps_X10_stepOfPlain : GoodIn wsX0_countSteps wsX10_stepOfPlain := goodIn_r _ [7, 8, 9, 10, 11, 12, 36, 37, 38, 39, 40, 41, 42, 43, 44, 45, 46] (by decide +kernel) (by decide +kernel)
set_option maxRecDepth 20000 in
theorem gX0_countSteps_X10_stepOfPlain : GoodIn wsX0_countSteps (wsV RX0 89 RX10 yX10_stepOfPlain wsX10_stepOfPlain) := goodIn_app (goodIn_of _ (by decide +kernel)) ggX0_countSteps_X10_stepOfPlain
set_option maxRecDepth 20000 in
theorem ggX0_countSteps_X0_add : GoodIn wsX0_countSteps wsX0_add := goodIn_r _ [16, 17] (by decide +kernel) (by decide +kernel)
set_option maxRecDepth 20000 in
theorem gX0_countSteps_X0_add : GoodIn wsX0_countSteps (va_wsS RX0 63 yX0_add wsX0_add) := goodIn_app (goodIn_of _ (by decide +kernel)) ggX0_countSteps_X0_add
set_option maxRecDepth 20000 in
theorem ggX0_countSteps_X10_size : GoodIn wsX0_countSteps wsX10_size := goodIn_r _ [21, 22, 36, 37, 38, 39, 40, 41, 42, 43, 44, 45, 46] (by decide +kernel) (by decide +kernel)
set_option maxRecDepth 20000 in
theorem gX0_countSteps_X10_size : GoodIn wsX0_countSteps (wsV RX0 95 RX10 yX10_size wsX10_size) := goodIn_app (goodIn_of _ (by decide +kernel)) ggX0_countSteps_X10_size
set_option maxRecDepth 20000 in
theorem ggX0_countSteps_X10_stepAround : GoodIn wsX0_countSteps wsX10_stepAround := goodIn_r _ [26, 22, 27, 36, 37, 38, 39, 40, 41, 42, 43, 44, 45, 46] (by decide +kernel) (by decide +kernel)
set_option maxRecDepth 20000 in
theorem gX0_countSteps_X10_stepAround : GoodIn wsX0_countSteps (wsV RX0 98 RX10 yX10_stepAround wsX10_stepAround) := goodIn_app (goodIn_of _ (by decide +kernel)) ggX0_countSteps_X10_stepAround
theorem dX0_countSteps_0 : decode cX0_countSteps 0 = .ok (.iload_n 2, 1) := by decide +kernel
theorem dX0_countSteps_1 : decode cX0_countSteps 1 = .ok (.bipush 60, 2) := by decide +kernel
theorem dX0_countSteps_3 : decode cX0_countSteps 3 = .ok (.imul, 1) := by decide +kernel
theorem dX0_countSteps_4 : decode cX0_countSteps 4 = .ok (.istore_n 3, 1) := by decide +kernel
theorem dX0_countSteps_5 : decode cX0_countSteps 5 = .ok (.iload_n 2, 1) := by decide +kernel
theorem dX0_countSteps_6 : decode cX0_countSteps 6 = .ok (.iconst 1, 1) := by decide +kernel
theorem dX0_countSteps_7 : decode cX0_countSteps 7 = .ok (.if_icmp .ne 33, 3) := by decide +kernel
theorem dX0_countSteps_10 : decode cX0_countSteps 10 = .ok (.aload_n 0, 1) := by decide +kernel
theorem dX0_countSteps_11 : decode cX0_countSteps 11 = .ok (.getfield 15, 3) := by decide +kernel
theorem dX0_countSteps_14 : decode cX0_countSteps 14 = .ok (.iload_n 3, 1) := by decide +kernel
theorem dX0_countSteps_15 : decode cX0_countSteps 15 = .ok (.aload_n 1, 1) := by decide +kernel
theorem dX0_countSteps_16 : decode cX0_countSteps 16 = .ok (.iconst 2, 1) := by decide +kernel
theorem dX0_countSteps_17 : decode cX0_countSteps 17 = .ok (.invokevirtual 89, 3) := by decide +kernel
theorem dX0_countSteps_20 : decode cX0_countSteps 20 = .ok (.iadd, 1) := by decide +kernel
theorem dX0_countSteps_21 : decode cX0_countSteps 21 = .ok (.lconst 1, 1) := by decide +kernel
theorem dX0_countSteps_22 : decode cX0_countSteps 22 = .ok (.invokestatic 63, 3) := by decide +kernel
theorem dX0_countSteps_25 : decode cX0_countSteps 25 = .ok (.aload_n 0, 1) := by decide +kernel
theorem dX0_countSteps_26 : decode cX0_countSteps 26 = .ok (.getfield 15, 3) := by decide +kernel
theorem dX0_countSteps_29 : decode cX0_countSteps 29 = .ok (.iload_n 3, 1) := by decide +kernel
theorem dX0_countSteps_30 : decode cX0_countSteps 30 = .ok (.aload_n 1, 1) := by decide +kernel
theorem dX0_countSteps_31 : decode cX0_countSteps 31 = .ok (.iconst 3, 1) := by decide +kernel
theorem dX0_countSteps_32 : decode cX0_countSteps 32 = .ok (.invokevirtual 89, 3) := by decide +kernel
theorem dX0_countSteps_35 : decode cX0_countSteps 35 = .ok (.iadd, 1) := by decide +kernel
theorem dX0_countSteps_36 : decode cX0_countSteps 36 = .ok (.lconst 1, 1) := by decide +kernel
theorem dX0_countSteps_37 : decode cX0_countSteps 37 = .ok (.invokestatic 63, 3) := by decide +kernel
theorem dX0_countSteps_40 : decode cX0_countSteps 40 = .ok (.iconst 0, 1) := by decide +kernel
theorem dX0_countSteps_41 : decode cX0_countSteps 41 = .ok (.istore 4, 2) := by decide +kernel
theorem dX0_countSteps_43 : decode cX0_countSteps 43 = .ok (.iload 4, 2) := by decide +kernel
theorem dX0_countSteps_45 : decode cX0_countSteps 45 = .ok (.aload_n 1, 1) := by decide +kernel
theorem dX0_countSteps_46 : decode cX0_countSteps 46 = .ok (.invokevirtual 95, 3) := by decide +kernel
theorem dX0_countSteps_49 : decode cX0_countSteps 49 = .ok (.if_icmp .ge 58, 3) := by decide +kernel
theorem dX0_countSteps_52 : decode cX0_countSteps 52 = .ok (.iload_n 2, 1) := by decide +kernel
theorem dX0_countSteps_53 : decode cX0_countSteps 53 = .ok (.iconst 2, 1) := by decide +kernel
theorem dX0_countSteps_54 : decode cX0_countSteps 54 = .ok (.if_icmp .lt 53, 3) := by decide +kernel
theorem dX0_countSteps_57 : decode cX0_countSteps 57 = .ok (.iconst 0, 1) := by decide +kernel
theorem dX0_countSteps_58 : decode cX0_countSteps 58 = .ok (.istore 5, 2) := by decide +kernel
theorem dX0_countSteps_60 : decode cX0_countSteps 60 = .ok (.iload 5, 2) := by decide +kernel
theorem dX0_countSteps_62 : decode cX0_countSteps 62 = .ok (.iconst 4, 1) := by decide +kernel
theorem dX0_countSteps_63 : decode cX0_countSteps 63 = .ok (.if_icmp .ge 38, 3) := by decide +kernel
theorem dX0_countSteps_66 : decode cX0_countSteps 66 = .ok (.aload_n 0, 1) := by decide +kernel
theorem dX0_countSteps_67 : decode cX0_countSteps 67 = .ok (.getfield 15, 3) := by decide +kernel
theorem dX0_countSteps_70 : decode cX0_countSteps 70 = .ok (.iload_n 3, 1) := by decide +kernel
theorem dX0_countSteps_71 : decode cX0_countSteps 71 = .ok (.aload_n 1, 1) := by decide +kernel
theorem dX0_countSteps_72 : decode cX0_countSteps 72 = .ok (.iload 4, 2) := by decide +kernel
theorem dX0_countSteps_74 : decode cX0_countSteps 74 = .ok (.iload 5, 2) := by decide +kernel
theorem dX0_countSteps_76 : decode cX0_countSteps 76 = .ok (.invokevirtual 98, 3) := by decide +kernel
theorem dX0_countSteps_79 : decode cX0_countSteps 79 = .ok (.iadd, 1) := by decide +kernel
theorem dX0_countSteps_80 : decode cX0_countSteps 80 = .ok (.aload_n 0, 1) := by decide +kernel
theorem dX0_countSteps_81 : decode cX0_countSteps 81 = .ok (.getfield 11, 3) := by decide +kernel
theorem dX0_countSteps_84 : decode cX0_countSteps 84 = .ok (.iload_n 3, 1) := by decide +kernel
theorem dX0_countSteps_85 : decode cX0_countSteps 85 = .ok (.bipush 120, 2) := by decide +kernel
theorem dX0_countSteps_87 : decode cX0_countSteps 87 = .ok (.isub, 1) := by decide +kernel
theorem dX0_countSteps_88 : decode cX0_countSteps 88 = .ok (.iload 4, 2) := by decide +kernel
theorem dX0_countSteps_90 : decode cX0_countSteps 90 = .ok (.iadd, 1) := by decide +kernel
theorem dX0_countSteps_91 : decode cX0_countSteps 91 = .ok (.laload, 1) := by decide +kernel
theorem dX0_countSteps_92 : decode cX0_countSteps 92 = .ok (.invokestatic 63, 3) := by decide +kernel
theorem dX0_countSteps_95 : decode cX0_countSteps 95 = .ok (.iinc 5 1, 3) := by decide +kernel
theorem dX0_countSteps_98 : decode cX0_countSteps 98 = .ok (.goto (-38), 3) := by decide +kernel
theorem dX0_countSteps_101 : decode cX0_countSteps 101 = .ok (.iinc 4 1, 3) := by decide +kernel
theorem dX0_countSteps_104 : decode cX0_countSteps 104 = .ok (.goto (-61), 3) := by decide +kernel
theorem dX0_countSteps_107 : decode cX0_countSteps 107 = .ok (.return_, 1) := by decide +kernel
set_option maxRecDepth 20000 in
theorem ggX0_addWholes_X10_size : GoodIn wsX0_addWholes wsX10_size := goodIn_r _ [7, 8, 32, 33, 34, 35, 36, 37, 38, 39, 40, 41, 42] (by decide +kernel) (by decide +kernel)
set_option maxRecDepth 20000 in
theorem gX0_addWholes_X10_size : GoodIn wsX0_addWholes (wsV RX0 95 RX10 yX10_size wsX10_size) := goodIn_app (goodIn_of _ (by decide +kernel)) ggX0_addWholes_X10_size
set_option maxRecDepth 20000 in
theorem ggX0_addWholes_X10_steps : GoodIn wsX0_addWholes wsX10_steps := goodIn_r _ [12, 13, 32, 33, 34, 35, 36, 37, 38, 39, 40, 41, 42] (by decide +kernel) (by decide +kernel)
set_option maxRecDepth 20000 in
theorem gX0_addWholes_X10_steps : GoodIn wsX0_addWholes (wsV RX0 102 RX10 yX10_steps wsX10_steps) := goodIn_app (goodIn_of _ (by decide +kernel)) ggX0_addWholes_X10_steps
set_option maxRecDepth 20000 in
theorem ggX0_addWholes_X10_after : GoodIn wsX0_addWholes wsX10_after := goodIn_r _ [17, 8, 13, 18, 32, 33, 34, 35, 36, 37, 38, 39, 40, 41, 42] (by decide +kernel) (by decide +kernel)
set_option maxRecDepth 20000 in
theorem gX0_addWholes_X10_after : GoodIn wsX0_addWholes (wsV RX0 105 RX10 yX10_after wsX10_after) := goodIn_app (goodIn_of _ (by decide +kernel)) ggX0_addWholes_X10_after
set_option maxRecDepth 20000 in
theorem ggX0_addWholes_X0_add : GoodIn wsX0_addWholes wsX0_add := goodIn_r _ [22, 23] (by decide +kernel) (by decide +kernel)
set_option maxRecDepth 20000 in
theorem gX0_addWholes_X0_add : GoodIn wsX0_addWholes (va_wsS RX0 63 yX0_add wsX0_add) := goodIn_app (goodIn_of _ (by decide +kernel)) ggX0_addWholes_X0_add
theorem dX0_addWholes_0 : decode cX0_addWholes 0 = .ok (.iload_n 2, 1) := by decide +kernel
theorem dX0_addWholes_1 : decode cX0_addWholes 1 = .ok (.iload_n 3, 1) := by decide +kernel
theorem dX0_addWholes_2 : decode cX0_addWholes 2 = .ok (.iadd, 1) := by decide +kernel
theorem dX0_addWholes_3 : decode cX0_addWholes 3 = .ok (.bipush 60, 2) := by decide +kernel
theorem dX0_addWholes_5 : decode cX0_addWholes 5 = .ok (.imul, 1) := by decide +kernel
theorem dX0_addWholes_6 : decode cX0_addWholes 6 = .ok (.istore 4, 2) := by decide +kernel
theorem dX0_addWholes_8 : decode cX0_addWholes 8 = .ok (.iconst 0, 1) := by decide +kernel
theorem dX0_addWholes_9 : decode cX0_addWholes 9 = .ok (.istore 5, 2) := by decide +kernel
theorem dX0_addWholes_11 : decode cX0_addWholes 11 = .ok (.iload 5, 2) := by decide +kernel
theorem dX0_addWholes_13 : decode cX0_addWholes 13 = .ok (.aload_n 1, 1) := by decide +kernel
theorem dX0_addWholes_14 : decode cX0_addWholes 14 = .ok (.invokevirtual 95, 3) := by decide +kernel
theorem dX0_addWholes_17 : decode cX0_addWholes 17 = .ok (.if_icmp .ge 92, 3) := by decide +kernel
theorem dX0_addWholes_20 : decode cX0_addWholes 20 = .ok (.aload_n 0, 1) := by decide +kernel
theorem dX0_addWholes_21 : decode cX0_addWholes 21 = .ok (.getfield 11, 3) := by decide +kernel
theorem dX0_addWholes_24 : decode cX0_addWholes 24 = .ok (.iload_n 2, 1) := by decide +kernel
theorem dX0_addWholes_25 : decode cX0_addWholes 25 = .ok (.bipush 60, 2) := by decide +kernel
theorem dX0_addWholes_27 : decode cX0_addWholes 27 = .ok (.imul, 1) := by decide +kernel
theorem dX0_addWholes_28 : decode cX0_addWholes 28 = .ok (.iload 5, 2) := by decide +kernel
theorem dX0_addWholes_30 : decode cX0_addWholes 30 = .ok (.iadd, 1) := by decide +kernel
theorem dX0_addWholes_31 : decode cX0_addWholes 31 = .ok (.laload, 1) := by decide +kernel
theorem dX0_addWholes_32 : decode cX0_addWholes 32 = .ok (.lstore 6, 2) := by decide +kernel
theorem dX0_addWholes_34 : decode cX0_addWholes 34 = .ok (.iconst 0, 1) := by decide +kernel
theorem dX0_addWholes_35 : decode cX0_addWholes 35 = .ok (.istore 8, 2) := by decide +kernel
theorem dX0_addWholes_37 : decode cX0_addWholes 37 = .ok (.iload 8, 2) := by decide +kernel
theorem dX0_addWholes_39 : decode cX0_addWholes 39 = .ok (.aload_n 1, 1) := by decide +kernel
theorem dX0_addWholes_40 : decode cX0_addWholes 40 = .ok (.invokevirtual 102, 3) := by decide +kernel
theorem dX0_addWholes_43 : decode cX0_addWholes 43 = .ok (.if_icmp .ge 60, 3) := by decide +kernel
theorem dX0_addWholes_46 : decode cX0_addWholes 46 = .ok (.lload 6, 2) := by decide +kernel
theorem dX0_addWholes_48 : decode cX0_addWholes 48 = .ok (.lconst 0, 1) := by decide +kernel
theorem dX0_addWholes_49 : decode cX0_addWholes 49 = .ok (.lcmp, 1) := by decide +kernel
theorem dX0_addWholes_50 : decode cX0_addWholes 50 = .ok (.ifCond .eq 53, 3) := by decide +kernel
theorem dX0_addWholes_53 : decode cX0_addWholes 53 = .ok (.aload_n 0, 1) := by decide +kernel
theorem dX0_addWholes_54 : decode cX0_addWholes 54 = .ok (.getfield 15, 3) := by decide +kernel
theorem dX0_addWholes_57 : decode cX0_addWholes 57 = .ok (.iload_n 3, 1) := by decide +kernel
theorem dX0_addWholes_58 : decode cX0_addWholes 58 = .ok (.bipush 60, 2) := by decide +kernel
theorem dX0_addWholes_60 : decode cX0_addWholes 60 = .ok (.imul, 1) := by decide +kernel
theorem dX0_addWholes_61 : decode cX0_addWholes 61 = .ok (.iload 8, 2) := by decide +kernel
theorem dX0_addWholes_63 : decode cX0_addWholes 63 = .ok (.iadd, 1) := by decide +kernel
theorem dX0_addWholes_64 : decode cX0_addWholes 64 = .ok (.laload, 1) := by decide +kernel
theorem dX0_addWholes_65 : decode cX0_addWholes 65 = .ok (.lstore 9, 2) := by decide +kernel
theorem dX0_addWholes_67 : decode cX0_addWholes 67 = .ok (.lload 9, 2) := by decide +kernel
theorem dX0_addWholes_69 : decode cX0_addWholes 69 = .ok (.lconst 0, 1) := by decide +kernel
theorem dX0_addWholes_70 : decode cX0_addWholes 70 = .ok (.lcmp, 1) := by decide +kernel
theorem dX0_addWholes_71 : decode cX0_addWholes 71 = .ok (.ifCond .eq 26, 3) := by decide +kernel
theorem dX0_addWholes_74 : decode cX0_addWholes 74 = .ok (.aload_n 0, 1) := by decide +kernel
theorem dX0_addWholes_75 : decode cX0_addWholes 75 = .ok (.getfield 11, 3) := by decide +kernel
theorem dX0_addWholes_78 : decode cX0_addWholes 78 = .ok (.iload 4, 2) := by decide +kernel
theorem dX0_addWholes_80 : decode cX0_addWholes 80 = .ok (.aload_n 1, 1) := by decide +kernel
theorem dX0_addWholes_81 : decode cX0_addWholes 81 = .ok (.iload 5, 2) := by decide +kernel
theorem dX0_addWholes_83 : decode cX0_addWholes 83 = .ok (.iload 8, 2) := by decide +kernel
theorem dX0_addWholes_85 : decode cX0_addWholes 85 = .ok (.invokevirtual 105, 3) := by decide +kernel
theorem dX0_addWholes_88 : decode cX0_addWholes 88 = .ok (.iadd, 1) := by decide +kernel
theorem dX0_addWholes_89 : decode cX0_addWholes 89 = .ok (.lload 6, 2) := by decide +kernel
theorem dX0_addWholes_91 : decode cX0_addWholes 91 = .ok (.lload 9, 2) := by decide +kernel
theorem dX0_addWholes_93 : decode cX0_addWholes 93 = .ok (.lmul, 1) := by decide +kernel
theorem dX0_addWholes_94 : decode cX0_addWholes 94 = .ok (.invokestatic 63, 3) := by decide +kernel
theorem dX0_addWholes_97 : decode cX0_addWholes 97 = .ok (.iinc 8 1, 3) := by decide +kernel
theorem dX0_addWholes_100 : decode cX0_addWholes 100 = .ok (.goto (-63), 3) := by decide +kernel
theorem dX0_addWholes_103 : decode cX0_addWholes 103 = .ok (.iinc 5 1, 3) := by decide +kernel
theorem dX0_addWholes_106 : decode cX0_addWholes 106 = .ok (.goto (-95), 3) := by decide +kernel
theorem dX0_addWholes_109 : decode cX0_addWholes 109 = .ok (.return_, 1) := by decide +kernel
set_option maxRecDepth 20000 in
theorem ggX0_addCodes_X4_wholes : GoodIn wsX0_addCodes wsX4_wholes := goodIn_r _ [8, 9, 39, 40, 41, 42, 43, 44, 45, 46, 47] (by decide +kernel) (by decide +kernel)
set_option maxRecDepth 20000 in
theorem gX0_addCodes_X4_wholes : GoodIn wsX0_addCodes (wsV RX0 70 RX4 yX4_wholes wsX4_wholes) := goodIn_app (goodIn_of _ (by decide +kernel)) ggX0_addCodes_X4_wholes
set_option maxRecDepth 20000 in
theorem ggX0_addCodes_X10_steps : GoodIn wsX0_addCodes wsX10_steps := goodIn_r _ [14, 15, 48, 49, 50, 51, 52, 53, 54, 55, 56, 57, 58] (by decide +kernel) (by decide +kernel)
set_option maxRecDepth 20000 in
theorem gX0_addCodes_X10_steps : GoodIn wsX0_addCodes (wsV RX0 102 RX10 yX10_steps wsX10_steps) := goodIn_app (goodIn_of _ (by decide +kernel)) ggX0_addCodes_X10_steps
set_option maxRecDepth 20000 in
theorem ggX0_addCodes_X10_wholeOfStep : GoodIn wsX0_addCodes wsX10_wholeOfStep := goodIn_r _ [19, 15, 20, 48, 49, 50, 51, 52, 53, 54, 55, 56, 57, 58] (by decide +kernel) (by decide +kernel)
set_option maxRecDepth 20000 in
theorem gX0_addCodes_X10_wholeOfStep : GoodIn wsX0_addCodes (wsV RX0 108 RX10 yX10_wholeOfStep wsX10_wholeOfStep) := goodIn_app (goodIn_of _ (by decide +kernel)) ggX0_addCodes_X10_wholeOfStep
set_option maxRecDepth 20000 in
theorem ggX0_addCodes_X4_image : GoodIn wsX0_addCodes wsX4_image := goodIn_r _ [24, 25, 39, 40, 41, 42, 43, 44, 45, 46, 47] (by decide +kernel) (by decide +kernel)
set_option maxRecDepth 20000 in
theorem gX0_addCodes_X4_image : GoodIn wsX0_addCodes (wsV RX0 111 RX4 yX4_image wsX4_image) := goodIn_app (goodIn_of _ (by decide +kernel)) ggX0_addCodes_X4_image
set_option maxRecDepth 20000 in
theorem ggX0_addCodes_X0_add : GoodIn wsX0_addCodes wsX0_add := goodIn_r _ [29, 30] (by decide +kernel) (by decide +kernel)
set_option maxRecDepth 20000 in
theorem gX0_addCodes_X0_add : GoodIn wsX0_addCodes (va_wsS RX0 63 yX0_add wsX0_add) := goodIn_app (goodIn_of _ (by decide +kernel)) ggX0_addCodes_X0_add
theorem dX0_addCodes_0 : decode cX0_addCodes 0 = .ok (.aload_n 0, 1) := by decide +kernel
theorem dX0_addCodes_1 : decode cX0_addCodes 1 = .ok (.getfield 25, 3) := by decide +kernel
theorem dX0_addCodes_4 : decode cX0_addCodes 4 = .ok (.invokevirtual 70, 3) := by decide +kernel
theorem dX0_addCodes_7 : decode cX0_addCodes 7 = .ok (.astore 4, 2) := by decide +kernel
theorem dX0_addCodes_9 : decode cX0_addCodes 9 = .ok (.iload_n 2, 1) := by decide +kernel
theorem dX0_addCodes_10 : decode cX0_addCodes 10 = .ok (.iload_n 3, 1) := by decide +kernel
theorem dX0_addCodes_11 : decode cX0_addCodes 11 = .ok (.iadd, 1) := by decide +kernel
theorem dX0_addCodes_12 : decode cX0_addCodes 12 = .ok (.aload_n 0, 1) := by decide +kernel
theorem dX0_addCodes_13 : decode cX0_addCodes 13 = .ok (.getfield 41, 3) := by decide +kernel
theorem dX0_addCodes_16 : decode cX0_addCodes 16 = .ok (.imul, 1) := by decide +kernel
theorem dX0_addCodes_17 : decode cX0_addCodes 17 = .ok (.istore 5, 2) := by decide +kernel
theorem dX0_addCodes_19 : decode cX0_addCodes 19 = .ok (.iconst 0, 1) := by decide +kernel
theorem dX0_addCodes_20 : decode cX0_addCodes 20 = .ok (.istore 6, 2) := by decide +kernel
theorem dX0_addCodes_22 : decode cX0_addCodes 22 = .ok (.iload 6, 2) := by decide +kernel
theorem dX0_addCodes_24 : decode cX0_addCodes 24 = .ok (.aload_n 0, 1) := by decide +kernel
theorem dX0_addCodes_25 : decode cX0_addCodes 25 = .ok (.getfield 41, 3) := by decide +kernel
theorem dX0_addCodes_28 : decode cX0_addCodes 28 = .ok (.if_icmp .ge 97, 3) := by decide +kernel
theorem dX0_addCodes_31 : decode cX0_addCodes 31 = .ok (.aload_n 1, 1) := by decide +kernel
theorem dX0_addCodes_32 : decode cX0_addCodes 32 = .ok (.iload_n 2, 1) := by decide +kernel
theorem dX0_addCodes_33 : decode cX0_addCodes 33 = .ok (.aload_n 0, 1) := by decide +kernel
theorem dX0_addCodes_34 : decode cX0_addCodes 34 = .ok (.getfield 41, 3) := by decide +kernel
theorem dX0_addCodes_37 : decode cX0_addCodes 37 = .ok (.imul, 1) := by decide +kernel
theorem dX0_addCodes_38 : decode cX0_addCodes 38 = .ok (.iload 6, 2) := by decide +kernel
theorem dX0_addCodes_40 : decode cX0_addCodes 40 = .ok (.iadd, 1) := by decide +kernel
theorem dX0_addCodes_41 : decode cX0_addCodes 41 = .ok (.laload, 1) := by decide +kernel
theorem dX0_addCodes_42 : decode cX0_addCodes 42 = .ok (.lstore 7, 2) := by decide +kernel
theorem dX0_addCodes_44 : decode cX0_addCodes 44 = .ok (.iconst 0, 1) := by decide +kernel
theorem dX0_addCodes_45 : decode cX0_addCodes 45 = .ok (.istore 9, 2) := by decide +kernel
theorem dX0_addCodes_47 : decode cX0_addCodes 47 = .ok (.iload 9, 2) := by decide +kernel
theorem dX0_addCodes_49 : decode cX0_addCodes 49 = .ok (.aload 4, 2) := by decide +kernel
theorem dX0_addCodes_51 : decode cX0_addCodes 51 = .ok (.invokevirtual 102, 3) := by decide +kernel
theorem dX0_addCodes_54 : decode cX0_addCodes 54 = .ok (.if_icmp .ge 65, 3) := by decide +kernel
theorem dX0_addCodes_57 : decode cX0_addCodes 57 = .ok (.lload 7, 2) := by decide +kernel
theorem dX0_addCodes_59 : decode cX0_addCodes 59 = .ok (.lconst 0, 1) := by decide +kernel
theorem dX0_addCodes_60 : decode cX0_addCodes 60 = .ok (.lcmp, 1) := by decide +kernel
theorem dX0_addCodes_61 : decode cX0_addCodes 61 = .ok (.ifCond .eq 58, 3) := by decide +kernel
theorem dX0_addCodes_64 : decode cX0_addCodes 64 = .ok (.aload_n 0, 1) := by decide +kernel
theorem dX0_addCodes_65 : decode cX0_addCodes 65 = .ok (.getfield 15, 3) := by decide +kernel
theorem dX0_addCodes_68 : decode cX0_addCodes 68 = .ok (.iload_n 3, 1) := by decide +kernel
theorem dX0_addCodes_69 : decode cX0_addCodes 69 = .ok (.bipush 60, 2) := by decide +kernel
theorem dX0_addCodes_71 : decode cX0_addCodes 71 = .ok (.imul, 1) := by decide +kernel
theorem dX0_addCodes_72 : decode cX0_addCodes 72 = .ok (.iload 9, 2) := by decide +kernel
theorem dX0_addCodes_74 : decode cX0_addCodes 74 = .ok (.iadd, 1) := by decide +kernel
theorem dX0_addCodes_75 : decode cX0_addCodes 75 = .ok (.laload, 1) := by decide +kernel
theorem dX0_addCodes_76 : decode cX0_addCodes 76 = .ok (.lstore 10, 2) := by decide +kernel
theorem dX0_addCodes_78 : decode cX0_addCodes 78 = .ok (.lload 10, 2) := by decide +kernel
theorem dX0_addCodes_80 : decode cX0_addCodes 80 = .ok (.lconst 0, 1) := by decide +kernel
theorem dX0_addCodes_81 : decode cX0_addCodes 81 = .ok (.lcmp, 1) := by decide +kernel
theorem dX0_addCodes_82 : decode cX0_addCodes 82 = .ok (.ifCond .eq 31, 3) := by decide +kernel
theorem dX0_addCodes_85 : decode cX0_addCodes 85 = .ok (.aload_n 1, 1) := by decide +kernel
theorem dX0_addCodes_86 : decode cX0_addCodes 86 = .ok (.iload 5, 2) := by decide +kernel
theorem dX0_addCodes_88 : decode cX0_addCodes 88 = .ok (.aload_n 0, 1) := by decide +kernel
theorem dX0_addCodes_89 : decode cX0_addCodes 89 = .ok (.getfield 25, 3) := by decide +kernel
theorem dX0_addCodes_92 : decode cX0_addCodes 92 = .ok (.iload 6, 2) := by decide +kernel
theorem dX0_addCodes_94 : decode cX0_addCodes 94 = .ok (.aload 4, 2) := by decide +kernel
theorem dX0_addCodes_96 : decode cX0_addCodes 96 = .ok (.iload 9, 2) := by decide +kernel
theorem dX0_addCodes_98 : decode cX0_addCodes 98 = .ok (.invokevirtual 108, 3) := by decide +kernel
theorem dX0_addCodes_101 : decode cX0_addCodes 101 = .ok (.invokevirtual 111, 3) := by decide +kernel
theorem dX0_addCodes_104 : decode cX0_addCodes 104 = .ok (.iadd, 1) := by decide +kernel
theorem dX0_addCodes_105 : decode cX0_addCodes 105 = .ok (.lload 7, 2) := by decide +kernel
theorem dX0_addCodes_107 : decode cX0_addCodes 107 = .ok (.lload 10, 2) := by decide +kernel
theorem dX0_addCodes_109 : decode cX0_addCodes 109 = .ok (.lmul, 1) := by decide +kernel
theorem dX0_addCodes_110 : decode cX0_addCodes 110 = .ok (.invokestatic 63, 3) := by decide +kernel
theorem dX0_addCodes_113 : decode cX0_addCodes 113 = .ok (.iinc 9 1, 3) := by decide +kernel
theorem dX0_addCodes_116 : decode cX0_addCodes 116 = .ok (.goto (-69), 3) := by decide +kernel
theorem dX0_addCodes_119 : decode cX0_addCodes 119 = .ok (.iinc 6 1, 3) := by decide +kernel
theorem dX0_addCodes_122 : decode cX0_addCodes 122 = .ok (.goto (-100), 3) := by decide +kernel
theorem dX0_addCodes_125 : decode cX0_addCodes 125 = .ok (.return_, 1) := by decide +kernel
set_option maxRecDepth 20000 in
theorem ggX0_addHalfOpen_X4_held : GoodIn wsX0_addHalfOpen wsX4_held := goodIn_r _ [9, 10, 56, 57, 58, 59, 60, 61, 62, 63, 64] (by decide +kernel) (by decide +kernel)
set_option maxRecDepth 20000 in
theorem gX0_addHalfOpen_X4_held : GoodIn wsX0_addHalfOpen (wsV RX0 29 RX4 yX4_held wsX4_held) := goodIn_app (goodIn_of _ (by decide +kernel)) ggX0_addHalfOpen_X4_held
set_option maxRecDepth 20000 in
theorem ggX0_addHalfOpen_X1_alone : GoodIn wsX0_addHalfOpen wsX1_alone := goodIn_r _ [15, 16, 17, 18, 19, 20, 21, 22, 23, 24, 25, 26, 27, 28, 29, 30, 31, 32, 14, 33, 34, 35, 36, 37, 38, 39, 40, 41, 42, 65, 66, 67, 68, 69, 70, 71, 72] (by decide +kernel) (by decide +kernel)
set_option maxRecDepth 20000 in
theorem gX0_addHalfOpen_X1_alone : GoodIn wsX0_addHalfOpen (wsV RX0 114 RX1 yX1_alone wsX1_alone) := goodIn_app (goodIn_of _ (by decide +kernel)) ggX0_addHalfOpen_X1_alone
set_option maxRecDepth 20000 in
theorem ggX0_addHalfOpen_X0_add : GoodIn wsX0_addHalfOpen wsX0_add := goodIn_r _ [46, 47] (by decide +kernel) (by decide +kernel)
set_option maxRecDepth 20000 in
theorem gX0_addHalfOpen_X0_add : GoodIn wsX0_addHalfOpen (va_wsS RX0 63 yX0_add wsX0_add) := goodIn_app (goodIn_of _ (by decide +kernel)) ggX0_addHalfOpen_X0_add
theorem dX0_addHalfOpen_0 : decode cX0_addHalfOpen 0 = .ok (.aload_n 0, 1) := by decide +kernel
theorem dX0_addHalfOpen_1 : decode cX0_addHalfOpen 1 = .ok (.getfield 25, 3) := by decide +kernel
theorem dX0_addHalfOpen_4 : decode cX0_addHalfOpen 4 = .ok (.invokevirtual 29, 3) := by decide +kernel
theorem dX0_addHalfOpen_7 : decode cX0_addHalfOpen 7 = .ok (.astore_n 2, 1) := by decide +kernel
theorem dX0_addHalfOpen_8 : decode cX0_addHalfOpen 8 = .ok (.iload_n 1, 1) := by decide +kernel
theorem dX0_addHalfOpen_9 : decode cX0_addHalfOpen 9 = .ok (.iconst 1, 1) := by decide +kernel
theorem dX0_addHalfOpen_10 : decode cX0_addHalfOpen 10 = .ok (.iadd, 1) := by decide +kernel
theorem dX0_addHalfOpen_11 : decode cX0_addHalfOpen 11 = .ok (.aload_n 0, 1) := by decide +kernel
theorem dX0_addHalfOpen_12 : decode cX0_addHalfOpen 12 = .ok (.getfield 41, 3) := by decide +kernel
theorem dX0_addHalfOpen_15 : decode cX0_addHalfOpen 15 = .ok (.imul, 1) := by decide +kernel
theorem dX0_addHalfOpen_16 : decode cX0_addHalfOpen 16 = .ok (.istore_n 3, 1) := by decide +kernel
theorem dX0_addHalfOpen_17 : decode cX0_addHalfOpen 17 = .ok (.iconst 0, 1) := by decide +kernel
theorem dX0_addHalfOpen_18 : decode cX0_addHalfOpen 18 = .ok (.istore 4, 2) := by decide +kernel
theorem dX0_addHalfOpen_20 : decode cX0_addHalfOpen 20 = .ok (.iload 4, 2) := by decide +kernel
theorem dX0_addHalfOpen_22 : decode cX0_addHalfOpen 22 = .ok (.aload_n 0, 1) := by decide +kernel
theorem dX0_addHalfOpen_23 : decode cX0_addHalfOpen 23 = .ok (.getfield 41, 3) := by decide +kernel
theorem dX0_addHalfOpen_26 : decode cX0_addHalfOpen 26 = .ok (.if_icmp .ge 108, 3) := by decide +kernel
theorem dX0_addHalfOpen_29 : decode cX0_addHalfOpen 29 = .ok (.aload_n 0, 1) := by decide +kernel
theorem dX0_addHalfOpen_30 : decode cX0_addHalfOpen 30 = .ok (.getfield 43, 3) := by decide +kernel
theorem dX0_addHalfOpen_33 : decode cX0_addHalfOpen 33 = .ok (.iload_n 1, 1) := by decide +kernel
theorem dX0_addHalfOpen_34 : decode cX0_addHalfOpen 34 = .ok (.aload_n 0, 1) := by decide +kernel
theorem dX0_addHalfOpen_35 : decode cX0_addHalfOpen 35 = .ok (.getfield 41, 3) := by decide +kernel
theorem dX0_addHalfOpen_38 : decode cX0_addHalfOpen 38 = .ok (.imul, 1) := by decide +kernel
theorem dX0_addHalfOpen_39 : decode cX0_addHalfOpen 39 = .ok (.iload 4, 2) := by decide +kernel
theorem dX0_addHalfOpen_41 : decode cX0_addHalfOpen 41 = .ok (.iadd, 1) := by decide +kernel
theorem dX0_addHalfOpen_42 : decode cX0_addHalfOpen 42 = .ok (.laload, 1) := by decide +kernel
theorem dX0_addHalfOpen_43 : decode cX0_addHalfOpen 43 = .ok (.lstore 5, 2) := by decide +kernel
theorem dX0_addHalfOpen_45 : decode cX0_addHalfOpen 45 = .ok (.lload 5, 2) := by decide +kernel
theorem dX0_addHalfOpen_47 : decode cX0_addHalfOpen 47 = .ok (.aload_n 0, 1) := by decide +kernel
theorem dX0_addHalfOpen_48 : decode cX0_addHalfOpen 48 = .ok (.getfield 46, 3) := by decide +kernel
theorem dX0_addHalfOpen_51 : decode cX0_addHalfOpen 51 = .ok (.iload_n 1, 1) := by decide +kernel
theorem dX0_addHalfOpen_52 : decode cX0_addHalfOpen 52 = .ok (.aload_n 0, 1) := by decide +kernel
theorem dX0_addHalfOpen_53 : decode cX0_addHalfOpen 53 = .ok (.getfield 41, 3) := by decide +kernel
theorem dX0_addHalfOpen_56 : decode cX0_addHalfOpen 56 = .ok (.imul, 1) := by decide +kernel
theorem dX0_addHalfOpen_57 : decode cX0_addHalfOpen 57 = .ok (.iload 4, 2) := by decide +kernel
theorem dX0_addHalfOpen_59 : decode cX0_addHalfOpen 59 = .ok (.iadd, 1) := by decide +kernel
theorem dX0_addHalfOpen_60 : decode cX0_addHalfOpen 60 = .ok (.laload, 1) := by decide +kernel
theorem dX0_addHalfOpen_61 : decode cX0_addHalfOpen 61 = .ok (.ladd, 1) := by decide +kernel
theorem dX0_addHalfOpen_62 : decode cX0_addHalfOpen 62 = .ok (.lstore 7, 2) := by decide +kernel
theorem dX0_addHalfOpen_64 : decode cX0_addHalfOpen 64 = .ok (.iconst 0, 1) := by decide +kernel
theorem dX0_addHalfOpen_65 : decode cX0_addHalfOpen 65 = .ok (.istore 9, 2) := by decide +kernel
theorem dX0_addHalfOpen_67 : decode cX0_addHalfOpen 67 = .ok (.iload 9, 2) := by decide +kernel
theorem dX0_addHalfOpen_69 : decode cX0_addHalfOpen 69 = .ok (.iconst 2, 1) := by decide +kernel
theorem dX0_addHalfOpen_70 : decode cX0_addHalfOpen 70 = .ok (.if_icmp .ge 58, 3) := by decide +kernel
theorem dX0_addHalfOpen_73 : decode cX0_addHalfOpen 73 = .ok (.lload 7, 2) := by decide +kernel
theorem dX0_addHalfOpen_75 : decode cX0_addHalfOpen 75 = .ok (.lconst 0, 1) := by decide +kernel
theorem dX0_addHalfOpen_76 : decode cX0_addHalfOpen 76 = .ok (.lcmp, 1) := by decide +kernel
theorem dX0_addHalfOpen_77 : decode cX0_addHalfOpen 77 = .ok (.ifCond .eq 51, 3) := by decide +kernel
theorem dX0_addHalfOpen_80 : decode cX0_addHalfOpen 80 = .ok (.aload_n 0, 1) := by decide +kernel
theorem dX0_addHalfOpen_81 : decode cX0_addHalfOpen 81 = .ok (.getfield 43, 3) := by decide +kernel
theorem dX0_addHalfOpen_84 : decode cX0_addHalfOpen 84 = .ok (.iload_n 3, 1) := by decide +kernel
theorem dX0_addHalfOpen_85 : decode cX0_addHalfOpen 85 = .ok (.aload_n 2, 1) := by decide +kernel
theorem dX0_addHalfOpen_86 : decode cX0_addHalfOpen 86 = .ok (.iconst 4, 1) := by decide +kernel
theorem dX0_addHalfOpen_87 : decode cX0_addHalfOpen 87 = .ok (.iload 9, 2) := by decide +kernel
theorem dX0_addHalfOpen_89 : decode cX0_addHalfOpen 89 = .ok (.iadd, 1) := by decide +kernel
theorem dX0_addHalfOpen_90 : decode cX0_addHalfOpen 90 = .ok (.iload 4, 2) := by decide +kernel
theorem dX0_addHalfOpen_92 : decode cX0_addHalfOpen 92 = .ok (.invokevirtual 114, 3) := by decide +kernel
theorem dX0_addHalfOpen_95 : decode cX0_addHalfOpen 95 = .ok (.iadd, 1) := by decide +kernel
theorem dX0_addHalfOpen_96 : decode cX0_addHalfOpen 96 = .ok (.lload 5, 2) := by decide +kernel
theorem dX0_addHalfOpen_98 : decode cX0_addHalfOpen 98 = .ok (.invokestatic 63, 3) := by decide +kernel
theorem dX0_addHalfOpen_101 : decode cX0_addHalfOpen 101 = .ok (.aload_n 0, 1) := by decide +kernel
theorem dX0_addHalfOpen_102 : decode cX0_addHalfOpen 102 = .ok (.getfield 46, 3) := by decide +kernel
theorem dX0_addHalfOpen_105 : decode cX0_addHalfOpen 105 = .ok (.iload_n 3, 1) := by decide +kernel
theorem dX0_addHalfOpen_106 : decode cX0_addHalfOpen 106 = .ok (.aload_n 2, 1) := by decide +kernel
theorem dX0_addHalfOpen_107 : decode cX0_addHalfOpen 107 = .ok (.iconst 0, 1) := by decide +kernel
theorem dX0_addHalfOpen_108 : decode cX0_addHalfOpen 108 = .ok (.iload 9, 2) := by decide +kernel
theorem dX0_addHalfOpen_110 : decode cX0_addHalfOpen 110 = .ok (.iadd, 1) := by decide +kernel
theorem dX0_addHalfOpen_111 : decode cX0_addHalfOpen 111 = .ok (.iload 4, 2) := by decide +kernel
theorem dX0_addHalfOpen_113 : decode cX0_addHalfOpen 113 = .ok (.invokevirtual 114, 3) := by decide +kernel
theorem dX0_addHalfOpen_116 : decode cX0_addHalfOpen 116 = .ok (.iadd, 1) := by decide +kernel
theorem dX0_addHalfOpen_117 : decode cX0_addHalfOpen 117 = .ok (.lload 7, 2) := by decide +kernel
theorem dX0_addHalfOpen_119 : decode cX0_addHalfOpen 119 = .ok (.invokestatic 63, 3) := by decide +kernel
theorem dX0_addHalfOpen_122 : decode cX0_addHalfOpen 122 = .ok (.iinc 9 1, 3) := by decide +kernel
theorem dX0_addHalfOpen_125 : decode cX0_addHalfOpen 125 = .ok (.goto (-58), 3) := by decide +kernel
theorem dX0_addHalfOpen_128 : decode cX0_addHalfOpen 128 = .ok (.iinc 4 1, 3) := by decide +kernel
theorem dX0_addHalfOpen_131 : decode cX0_addHalfOpen 131 = .ok (.goto (-111), 3) := by decide +kernel
theorem dX0_addHalfOpen_134 : decode cX0_addHalfOpen 134 = .ok (.return_, 1) := by decide +kernel
theorem dX0_add_0 : decode cX0_add 0 = .ok (.iload_n 1, 1) := by decide +kernel
theorem dX0_add_1 : decode cX0_add 1 = .ok (.ifCond .lt 21, 3) := by decide +kernel
theorem dX0_add_4 : decode cX0_add 4 = .ok (.iload_n 1, 1) := by decide +kernel
theorem dX0_add_5 : decode cX0_add 5 = .ok (.aload_n 0, 1) := by decide +kernel
theorem dX0_add_6 : decode cX0_add 6 = .ok (.arraylength, 1) := by decide +kernel
theorem dX0_add_7 : decode cX0_add 7 = .ok (.if_icmp .ge 15, 3) := by decide +kernel
theorem dX0_add_10 : decode cX0_add 10 = .ok (.aload_n 0, 1) := by decide +kernel
theorem dX0_add_11 : decode cX0_add 11 = .ok (.iload_n 1, 1) := by decide +kernel
theorem dX0_add_12 : decode cX0_add 12 = .ok (.aload_n 0, 1) := by decide +kernel
theorem dX0_add_13 : decode cX0_add 13 = .ok (.iload_n 1, 1) := by decide +kernel
theorem dX0_add_14 : decode cX0_add 14 = .ok (.laload, 1) := by decide +kernel
theorem dX0_add_15 : decode cX0_add 15 = .ok (.lload_n 2, 1) := by decide +kernel
theorem dX0_add_16 : decode cX0_add 16 = .ok (.ladd, 1) := by decide +kernel
theorem dX0_add_17 : decode cX0_add 17 = .ok (.ldc2_w 56, 3) := by decide +kernel
theorem dX0_add_20 : decode cX0_add 20 = .ok (.lrem, 1) := by decide +kernel
theorem dX0_add_21 : decode cX0_add 21 = .ok (.lastore, 1) := by decide +kernel
theorem dX0_add_22 : decode cX0_add 22 = .ok (.return_, 1) := by decide +kernel
theorem dX1_init_0 : decode cX1_init 0 = .ok (.aload_n 0, 1) := by decide +kernel
theorem dX1_init_1 : decode cX1_init 1 = .ok (.invokespecial 3, 3) := by decide +kernel
theorem dX1_init_4 : decode cX1_init 4 = .ok (.aload_n 0, 1) := by decide +kernel
theorem dX1_init_5 : decode cX1_init 5 = .ok (.aload_n 1, 1) := by decide +kernel
theorem dX1_init_6 : decode cX1_init 6 = .ok (.putfield 9, 3) := by decide +kernel
theorem dX1_init_9 : decode cX1_init 9 = .ok (.aload_n 0, 1) := by decide +kernel
theorem dX1_init_10 : decode cX1_init 10 = .ok (.aload_n 2, 1) := by decide +kernel
theorem dX1_init_11 : decode cX1_init 11 = .ok (.putfield 15, 3) := by decide +kernel
theorem dX1_init_14 : decode cX1_init 14 = .ok (.aload_n 0, 1) := by decide +kernel
theorem dX1_init_15 : decode cX1_init 15 = .ok (.iload_n 3, 1) := by decide +kernel
theorem dX1_init_16 : decode cX1_init 16 = .ok (.putfield 18, 3) := by decide +kernel
theorem dX1_init_19 : decode cX1_init 19 = .ok (.return_, 1) := by decide +kernel
theorem dX1_codes_0 : decode cX1_codes 0 = .ok (.aload_n 0, 1) := by decide +kernel
theorem dX1_codes_1 : decode cX1_codes 1 = .ok (.getfield 18, 3) := by decide +kernel
theorem dX1_codes_4 : decode cX1_codes 4 = .ok (.ifCond .eq 8, 3) := by decide +kernel
theorem dX1_codes_7 : decode cX1_codes 7 = .ok (.bipush 64, 2) := by decide +kernel
theorem dX1_codes_9 : decode cX1_codes 9 = .ok (.goto 5, 3) := by decide +kernel
theorem dX1_codes_12 : decode cX1_codes 12 = .ok (.bipush 8, 2) := by decide +kernel
theorem dX1_codes_14 : decode cX1_codes 14 = .ok (.ireturn, 1) := by decide +kernel
set_option maxRecDepth 20000 in
theorem ggX1_changes_X5_changes : GoodIn wsX1_changes wsX5_changes := goodIn_r _ [8, 9, 13, 14, 15, 16, 17] (by decide +kernel) (by decide +kernel)
set_option maxRecDepth 20000 in
theorem gX1_changes_X5_changes : GoodIn wsX1_changes (wsV RX1 22 RX5 yX5_changes wsX5_changes) := goodIn_app (goodIn_of _ (by decide +kernel)) ggX1_changes_X5_changes
theorem dX1_changes_0 : decode cX1_changes 0 = .ok (.aload_n 0, 1) := by decide +kernel
theorem dX1_changes_1 : decode cX1_changes 1 = .ok (.getfield 9, 3) := by decide +kernel
theorem dX1_changes_4 : decode cX1_changes 4 = .ok (.invokevirtual 22, 3) := by decide +kernel
theorem dX1_changes_7 : decode cX1_changes 7 = .ok (.aload_n 0, 1) := by decide +kernel
theorem dX1_changes_8 : decode cX1_changes 8 = .ok (.getfield 18, 3) := by decide +kernel
theorem dX1_changes_11 : decode cX1_changes 11 = .ok (.ifCond .eq 13, 3) := by decide +kernel
theorem dX1_changes_14 : decode cX1_changes 14 = .ok (.aload_n 0, 1) := by decide +kernel
theorem dX1_changes_15 : decode cX1_changes 15 = .ok (.getfield 15, 3) := by decide +kernel
theorem dX1_changes_18 : decode cX1_changes 18 = .ok (.invokevirtual 22, 3) := by decide +kernel
theorem dX1_changes_21 : decode cX1_changes 21 = .ok (.goto 4, 3) := by decide +kernel
theorem dX1_changes_24 : decode cX1_changes 24 = .ok (.iconst 0, 1) := by decide +kernel
theorem dX1_changes_25 : decode cX1_changes 25 = .ok (.iadd, 1) := by decide +kernel
theorem dX1_changes_26 : decode cX1_changes 26 = .ok (.ireturn, 1) := by decide +kernel
set_option maxRecDepth 20000 in
theorem ggX1_beginning_X1_joinedCode : GoodIn wsX1_beginning wsX1_joinedCode := goodIn_r _ [5] (by decide +kernel) (by decide +kernel)
set_option maxRecDepth 20000 in
theorem gX1_beginning_X1_joinedCode : GoodIn wsX1_beginning (va_wsS RX1 28 yX1_joinedCode wsX1_joinedCode) := goodIn_app (goodIn_of _ (by decide +kernel)) ggX1_beginning_X1_joinedCode
theorem dX1_beginning_0 : decode cX1_beginning 0 = .ok (.iconst 1, 1) := by decide +kernel
theorem dX1_beginning_1 : decode cX1_beginning 1 = .ok (.aload_n 0, 1) := by decide +kernel
theorem dX1_beginning_2 : decode cX1_beginning 2 = .ok (.getfield 18, 3) := by decide +kernel
theorem dX1_beginning_5 : decode cX1_beginning 5 = .ok (.ifCond .eq 7, 3) := by decide +kernel
theorem dX1_beginning_8 : decode cX1_beginning 8 = .ok (.iconst 1, 1) := by decide +kernel
theorem dX1_beginning_9 : decode cX1_beginning 9 = .ok (.goto 4, 3) := by decide +kernel
theorem dX1_beginning_12 : decode cX1_beginning 12 = .ok (.iconst 0, 1) := by decide +kernel
theorem dX1_beginning_13 : decode cX1_beginning 13 = .ok (.invokestatic 28, 3) := by decide +kernel
theorem dX1_beginning_16 : decode cX1_beginning 16 = .ok (.ireturn, 1) := by decide +kernel
set_option maxRecDepth 20000 in
theorem ggX1_identity_X5_identity : GoodIn wsX1_identity wsX5_identity := goodIn_r _ [8, 9, 10, 11, 7, 12, 20, 21, 22, 23, 24] (by decide +kernel) (by decide +kernel)
set_option maxRecDepth 20000 in
theorem gX1_identity_X5_identity : GoodIn wsX1_identity (wsV RX1 32 RX5 yX5_identity wsX5_identity) := goodIn_app (goodIn_of _ (by decide +kernel)) ggX1_identity_X5_identity
set_option maxRecDepth 20000 in
theorem ggX1_identity_X1_joinedPair : GoodIn wsX1_identity wsX1_joinedPair := goodIn_r _ [16] (by decide +kernel) (by decide +kernel)
set_option maxRecDepth 20000 in
theorem gX1_identity_X1_joinedPair : GoodIn wsX1_identity (va_wsS RX1 35 yX1_joinedPair wsX1_joinedPair) := goodIn_app (goodIn_of _ (by decide +kernel)) ggX1_identity_X1_joinedPair
theorem dX1_identity_0 : decode cX1_identity 0 = .ok (.aload_n 0, 1) := by decide +kernel
theorem dX1_identity_1 : decode cX1_identity 1 = .ok (.getfield 9, 3) := by decide +kernel
theorem dX1_identity_4 : decode cX1_identity 4 = .ok (.invokevirtual 32, 3) := by decide +kernel
theorem dX1_identity_7 : decode cX1_identity 7 = .ok (.aload_n 0, 1) := by decide +kernel
theorem dX1_identity_8 : decode cX1_identity 8 = .ok (.getfield 18, 3) := by decide +kernel
theorem dX1_identity_11 : decode cX1_identity 11 = .ok (.ifCond .eq 13, 3) := by decide +kernel
theorem dX1_identity_14 : decode cX1_identity 14 = .ok (.aload_n 0, 1) := by decide +kernel
theorem dX1_identity_15 : decode cX1_identity 15 = .ok (.getfield 15, 3) := by decide +kernel
theorem dX1_identity_18 : decode cX1_identity 18 = .ok (.invokevirtual 32, 3) := by decide +kernel
theorem dX1_identity_21 : decode cX1_identity 21 = .ok (.goto 4, 3) := by decide +kernel
theorem dX1_identity_24 : decode cX1_identity 24 = .ok (.iconst 0, 1) := by decide +kernel
theorem dX1_identity_25 : decode cX1_identity 25 = .ok (.invokestatic 35, 3) := by decide +kernel
theorem dX1_identity_28 : decode cX1_identity 28 = .ok (.ireturn, 1) := by decide +kernel
set_option maxRecDepth 20000 in
theorem ggX1_plain_X1_identity : GoodIn wsX1_plain wsX1_identity := goodIn_r _ [7, 1, 8, 2, 9, 10, 11, 12, 13, 14, 15, 16, 17, 18, 19, 6, 20, 35, 36, 37, 38, 39, 40, 41, 42] (by decide +kernel) (by decide +kernel)
set_option maxRecDepth 20000 in
theorem gX1_plain_X1_identity : GoodIn wsX1_plain (wsV RX1 38 RX1 yX1_identity wsX1_identity) := goodIn_app (goodIn_of _ (by decide +kernel)) ggX1_plain_X1_identity
set_option maxRecDepth 20000 in
theorem ggX1_plain_X5_way : GoodIn wsX1_plain wsX5_way := goodIn_r _ [24, 25, 38, 39, 40, 41, 42] (by decide +kernel) (by decide +kernel)
set_option maxRecDepth 20000 in
theorem gX1_plain_X5_way : GoodIn wsX1_plain (wsV RX1 39 RX5 yX5_way wsX5_way) := goodIn_app (goodIn_of _ (by decide +kernel)) ggX1_plain_X5_way
set_option maxRecDepth 20000 in
theorem ggX1_plain_X1_joinedPair : GoodIn wsX1_plain wsX1_joinedPair := goodIn_r _ [20] (by decide +kernel) (by decide +kernel)
set_option maxRecDepth 20000 in
theorem gX1_plain_X1_joinedPair : GoodIn wsX1_plain (va_wsS RX1 35 yX1_joinedPair wsX1_joinedPair) := goodIn_app (goodIn_of _ (by decide +kernel)) ggX1_plain_X1_joinedPair
set_option maxRecDepth 20000 in
theorem ggX1_plain_X1_then : GoodIn wsX1_plain wsX1_then := goodIn_r _ [28, 29, 30, 12, 31, 32, 33, 34, 18, 19, 6, 20] (by decide +kernel) (by decide +kernel)
set_option maxRecDepth 20000 in
theorem gX1_plain_X1_then : GoodIn wsX1_plain (va_wsS RX1 42 yX1_then wsX1_then) := goodIn_app (goodIn_of _ (by decide +kernel)) ggX1_plain_X1_then
theorem dX1_plain_0 : decode cX1_plain 0 = .ok (.aload_n 0, 1) := by decide +kernel
theorem dX1_plain_1 : decode cX1_plain 1 = .ok (.invokevirtual 38, 3) := by decide +kernel
theorem dX1_plain_4 : decode cX1_plain 4 = .ok (.aload_n 0, 1) := by decide +kernel
theorem dX1_plain_5 : decode cX1_plain 5 = .ok (.getfield 9, 3) := by decide +kernel
theorem dX1_plain_8 : decode cX1_plain 8 = .ok (.iload_n 1, 1) := by decide +kernel
theorem dX1_plain_9 : decode cX1_plain 9 = .ok (.iconst 0, 1) := by decide +kernel
theorem dX1_plain_10 : decode cX1_plain 10 = .ok (.invokevirtual 39, 3) := by decide +kernel
theorem dX1_plain_13 : decode cX1_plain 13 = .ok (.aload_n 0, 1) := by decide +kernel
theorem dX1_plain_14 : decode cX1_plain 14 = .ok (.getfield 15, 3) := by decide +kernel
theorem dX1_plain_17 : decode cX1_plain 17 = .ok (.iload_n 1, 1) := by decide +kernel
theorem dX1_plain_18 : decode cX1_plain 18 = .ok (.iconst 0, 1) := by decide +kernel
theorem dX1_plain_19 : decode cX1_plain 19 = .ok (.invokevirtual 39, 3) := by decide +kernel
theorem dX1_plain_22 : decode cX1_plain 22 = .ok (.invokestatic 35, 3) := by decide +kernel
theorem dX1_plain_25 : decode cX1_plain 25 = .ok (.invokestatic 42, 3) := by decide +kernel
theorem dX1_plain_28 : decode cX1_plain 28 = .ok (.ireturn, 1) := by decide +kernel
set_option maxRecDepth 20000 in
theorem ggX1_wrapped_X5_wrapped : GoodIn wsX1_wrapped wsX5_wrapped := goodIn_r _ [7, 8, 9, 10, 11, 6, 12, 13, 14, 15, 16, 17, 18, 19, 27, 28, 29, 30, 31] (by decide +kernel) (by decide +kernel)
set_option maxRecDepth 20000 in
theorem gX1_wrapped_X5_wrapped : GoodIn wsX1_wrapped (wsV RX1 45 RX5 yX5_wrapped wsX5_wrapped) := goodIn_app (goodIn_of _ (by decide +kernel)) ggX1_wrapped_X5_wrapped
set_option maxRecDepth 20000 in
theorem ggX1_wrapped_X1_joinedPair : GoodIn wsX1_wrapped wsX1_joinedPair := goodIn_r _ [23] (by decide +kernel) (by decide +kernel)
set_option maxRecDepth 20000 in
theorem gX1_wrapped_X1_joinedPair : GoodIn wsX1_wrapped (va_wsS RX1 35 yX1_joinedPair wsX1_joinedPair) := goodIn_app (goodIn_of _ (by decide +kernel)) ggX1_wrapped_X1_joinedPair
theorem dX1_wrapped_0 : decode cX1_wrapped 0 = .ok (.aload_n 0, 1) := by decide +kernel
theorem dX1_wrapped_1 : decode cX1_wrapped 1 = .ok (.getfield 9, 3) := by decide +kernel
theorem dX1_wrapped_4 : decode cX1_wrapped 4 = .ok (.iload_n 1, 1) := by decide +kernel
theorem dX1_wrapped_5 : decode cX1_wrapped 5 = .ok (.iload_n 2, 1) := by decide +kernel
theorem dX1_wrapped_6 : decode cX1_wrapped 6 = .ok (.iload_n 3, 1) := by decide +kernel
theorem dX1_wrapped_7 : decode cX1_wrapped 7 = .ok (.sipush 511, 3) := by decide +kernel
theorem dX1_wrapped_10 : decode cX1_wrapped 10 = .ok (.iand, 1) := by decide +kernel
theorem dX1_wrapped_11 : decode cX1_wrapped 11 = .ok (.invokevirtual 45, 3) := by decide +kernel
theorem dX1_wrapped_14 : decode cX1_wrapped 14 = .ok (.aload_n 0, 1) := by decide +kernel
theorem dX1_wrapped_15 : decode cX1_wrapped 15 = .ok (.getfield 15, 3) := by decide +kernel
theorem dX1_wrapped_18 : decode cX1_wrapped 18 = .ok (.iload_n 1, 1) := by decide +kernel
theorem dX1_wrapped_19 : decode cX1_wrapped 19 = .ok (.iload_n 2, 1) := by decide +kernel
theorem dX1_wrapped_20 : decode cX1_wrapped 20 = .ok (.iload_n 3, 1) := by decide +kernel
theorem dX1_wrapped_21 : decode cX1_wrapped 21 = .ok (.bipush 9, 2) := by decide +kernel
theorem dX1_wrapped_23 : decode cX1_wrapped 23 = .ok (.ishr, 1) := by decide +kernel
theorem dX1_wrapped_24 : decode cX1_wrapped 24 = .ok (.sipush 511, 3) := by decide +kernel
theorem dX1_wrapped_27 : decode cX1_wrapped 27 = .ok (.iand, 1) := by decide +kernel
theorem dX1_wrapped_28 : decode cX1_wrapped 28 = .ok (.invokevirtual 45, 3) := by decide +kernel
theorem dX1_wrapped_31 : decode cX1_wrapped 31 = .ok (.invokestatic 35, 3) := by decide +kernel
theorem dX1_wrapped_34 : decode cX1_wrapped 34 = .ok (.ireturn, 1) := by decide +kernel
set_option maxRecDepth 20000 in
theorem ggX1_alone_X5_alone : GoodIn wsX1_alone wsX5_alone := goodIn_r _ [7, 8, 9, 6, 10, 11, 12, 13, 14, 15, 32, 33, 34, 35, 36] (by decide +kernel) (by decide +kernel)
set_option maxRecDepth 20000 in
theorem gX1_alone_X5_alone : GoodIn wsX1_alone (wsV RX1 49 RX5 yX5_alone wsX5_alone) := goodIn_app (goodIn_of _ (by decide +kernel)) ggX1_alone_X5_alone
set_option maxRecDepth 20000 in
theorem ggX1_alone_X1_joinedPair : GoodIn wsX1_alone wsX1_joinedPair := goodIn_r _ [19] (by decide +kernel) (by decide +kernel)
set_option maxRecDepth 20000 in
theorem gX1_alone_X1_joinedPair : GoodIn wsX1_alone (va_wsS RX1 35 yX1_joinedPair wsX1_joinedPair) := goodIn_app (goodIn_of _ (by decide +kernel)) ggX1_alone_X1_joinedPair
set_option maxRecDepth 20000 in
theorem ggX1_alone_X1_image : GoodIn wsX1_alone wsX1_image := goodIn_r _ [22, 23, 24, 6, 25, 26, 27, 18, 28] (by decide +kernel) (by decide +kernel)
set_option maxRecDepth 20000 in
theorem gX1_alone_X1_image : GoodIn wsX1_alone (va_wsS RX1 53 yX1_image wsX1_image) := goodIn_app (goodIn_of _ (by decide +kernel)) ggX1_alone_X1_image
theorem dX1_alone_0 : decode cX1_alone 0 = .ok (.iload_n 2, 1) := by decide +kernel
theorem dX1_alone_1 : decode cX1_alone 1 = .ok (.aload_n 0, 1) := by decide +kernel
theorem dX1_alone_2 : decode cX1_alone 2 = .ok (.getfield 9, 3) := by decide +kernel
theorem dX1_alone_5 : decode cX1_alone 5 = .ok (.iload_n 1, 1) := by decide +kernel
theorem dX1_alone_6 : decode cX1_alone 6 = .ok (.invokevirtual 49, 3) := by decide +kernel
theorem dX1_alone_9 : decode cX1_alone 9 = .ok (.aload_n 0, 1) := by decide +kernel
theorem dX1_alone_10 : decode cX1_alone 10 = .ok (.getfield 15, 3) := by decide +kernel
theorem dX1_alone_13 : decode cX1_alone 13 = .ok (.iload_n 1, 1) := by decide +kernel
theorem dX1_alone_14 : decode cX1_alone 14 = .ok (.invokevirtual 49, 3) := by decide +kernel
theorem dX1_alone_17 : decode cX1_alone 17 = .ok (.invokestatic 35, 3) := by decide +kernel
theorem dX1_alone_20 : decode cX1_alone 20 = .ok (.invokestatic 53, 3) := by decide +kernel
theorem dX1_alone_23 : decode cX1_alone 23 = .ok (.ireturn, 1) := by decide +kernel
set_option maxRecDepth 20000 in
theorem ggX1_takenByOne_X1_codes : GoodIn wsX1_takenByOne wsX1_codes := goodIn_r _ [6, 7, 14, 15, 16] (by decide +kernel) (by decide +kernel)
set_option maxRecDepth 20000 in
theorem gX1_takenByOne_X1_codes : GoodIn wsX1_takenByOne (wsV RX1 56 RX1 yX1_codes wsX1_codes) := goodIn_app (goodIn_of _ (by decide +kernel)) ggX1_takenByOne_X1_codes
set_option maxRecDepth 20000 in
theorem ggX1_takenByOne_X5_takesAny : GoodIn wsX1_takenByOne wsX5_takesAny := goodIn_r _ [12, 13, 17, 18, 19, 20, 21] (by decide +kernel) (by decide +kernel)
set_option maxRecDepth 20000 in
theorem gX1_takenByOne_X5_takesAny : GoodIn wsX1_takenByOne (wsV RX1 59 RX5 yX5_takesAny wsX5_takesAny) := goodIn_app (goodIn_of _ (by decide +kernel)) ggX1_takenByOne_X5_takesAny
theorem dX1_takenByOne_0 : decode cX1_takenByOne 0 = .ok (.lconst 0, 1) := by decide +kernel
theorem dX1_takenByOne_1 : decode cX1_takenByOne 1 = .ok (.lstore_n 1, 1) := by decide +kernel
theorem dX1_takenByOne_2 : decode cX1_takenByOne 2 = .ok (.iconst 0, 1) := by decide +kernel
theorem dX1_takenByOne_3 : decode cX1_takenByOne 3 = .ok (.istore_n 3, 1) := by decide +kernel
theorem dX1_takenByOne_4 : decode cX1_takenByOne 4 = .ok (.iload_n 3, 1) := by decide +kernel
theorem dX1_takenByOne_5 : decode cX1_takenByOne 5 = .ok (.aload_n 0, 1) := by decide +kernel
theorem dX1_takenByOne_6 : decode cX1_takenByOne 6 = .ok (.invokevirtual 56, 3) := by decide +kernel
theorem dX1_takenByOne_9 : decode cX1_takenByOne 9 = .ok (.if_icmp .ge 33, 3) := by decide +kernel
theorem dX1_takenByOne_12 : decode cX1_takenByOne 12 = .ok (.lload_n 1, 1) := by decide +kernel
theorem dX1_takenByOne_13 : decode cX1_takenByOne 13 = .ok (.aload_n 0, 1) := by decide +kernel
theorem dX1_takenByOne_14 : decode cX1_takenByOne 14 = .ok (.getfield 9, 3) := by decide +kernel
theorem dX1_takenByOne_17 : decode cX1_takenByOne 17 = .ok (.iload_n 3, 1) := by decide +kernel
theorem dX1_takenByOne_18 : decode cX1_takenByOne 18 = .ok (.bipush 7, 2) := by decide +kernel
theorem dX1_takenByOne_20 : decode cX1_takenByOne 20 = .ok (.iand, 1) := by decide +kernel
theorem dX1_takenByOne_21 : decode cX1_takenByOne 21 = .ok (.invokevirtual 59, 3) := by decide +kernel
theorem dX1_takenByOne_24 : decode cX1_takenByOne 24 = .ok (.ifCond .eq 9, 3) := by decide +kernel
theorem dX1_takenByOne_27 : decode cX1_takenByOne 27 = .ok (.lconst 1, 1) := by decide +kernel
theorem dX1_takenByOne_28 : decode cX1_takenByOne 28 = .ok (.iload_n 3, 1) := by decide +kernel
theorem dX1_takenByOne_29 : decode cX1_takenByOne 29 = .ok (.lshl, 1) := by decide +kernel
theorem dX1_takenByOne_30 : decode cX1_takenByOne 30 = .ok (.goto 4, 3) := by decide +kernel
theorem dX1_takenByOne_33 : decode cX1_takenByOne 33 = .ok (.lconst 0, 1) := by decide +kernel
theorem dX1_takenByOne_34 : decode cX1_takenByOne 34 = .ok (.lor, 1) := by decide +kernel
theorem dX1_takenByOne_35 : decode cX1_takenByOne 35 = .ok (.lstore_n 1, 1) := by decide +kernel
theorem dX1_takenByOne_36 : decode cX1_takenByOne 36 = .ok (.iinc 3 1, 3) := by decide +kernel
theorem dX1_takenByOne_39 : decode cX1_takenByOne 39 = .ok (.goto (-35), 3) := by decide +kernel
theorem dX1_takenByOne_42 : decode cX1_takenByOne 42 = .ok (.lload_n 1, 1) := by decide +kernel
theorem dX1_takenByOne_43 : decode cX1_takenByOne 43 = .ok (.lreturn, 1) := by decide +kernel
set_option maxRecDepth 20000 in
theorem ggX1_takenByOther_X1_codes : GoodIn wsX1_takenByOther wsX1_codes := goodIn_r _ [6, 7, 14, 15, 16] (by decide +kernel) (by decide +kernel)
set_option maxRecDepth 20000 in
theorem gX1_takenByOther_X1_codes : GoodIn wsX1_takenByOther (wsV RX1 56 RX1 yX1_codes wsX1_codes) := goodIn_app (goodIn_of _ (by decide +kernel)) ggX1_takenByOther_X1_codes
set_option maxRecDepth 20000 in
theorem ggX1_takenByOther_X5_takesAny : GoodIn wsX1_takenByOther wsX5_takesAny := goodIn_r _ [12, 13, 17, 18, 19, 20, 21] (by decide +kernel) (by decide +kernel)
set_option maxRecDepth 20000 in
theorem gX1_takenByOther_X5_takesAny : GoodIn wsX1_takenByOther (wsV RX1 59 RX5 yX5_takesAny wsX5_takesAny) := goodIn_app (goodIn_of _ (by decide +kernel)) ggX1_takenByOther_X5_takesAny
theorem dX1_takenByOther_0 : decode cX1_takenByOther 0 = .ok (.lconst 0, 1) := by decide +kernel
theorem dX1_takenByOther_1 : decode cX1_takenByOther 1 = .ok (.lstore_n 1, 1) := by decide +kernel
theorem dX1_takenByOther_2 : decode cX1_takenByOther 2 = .ok (.iconst 0, 1) := by decide +kernel
theorem dX1_takenByOther_3 : decode cX1_takenByOther 3 = .ok (.istore_n 3, 1) := by decide +kernel
theorem dX1_takenByOther_4 : decode cX1_takenByOther 4 = .ok (.iload_n 3, 1) := by decide +kernel
theorem dX1_takenByOther_5 : decode cX1_takenByOther 5 = .ok (.aload_n 0, 1) := by decide +kernel
theorem dX1_takenByOther_6 : decode cX1_takenByOther 6 = .ok (.invokevirtual 56, 3) := by decide +kernel
theorem dX1_takenByOther_9 : decode cX1_takenByOther 9 = .ok (.if_icmp .ge 35, 3) := by decide +kernel
theorem dX1_takenByOther_12 : decode cX1_takenByOther 12 = .ok (.lload_n 1, 1) := by decide +kernel
theorem dX1_takenByOther_13 : decode cX1_takenByOther 13 = .ok (.aload_n 0, 1) := by decide +kernel
theorem dX1_takenByOther_14 : decode cX1_takenByOther 14 = .ok (.getfield 15, 3) := by decide +kernel
theorem dX1_takenByOther_17 : decode cX1_takenByOther 17 = .ok (.iload_n 3, 1) := by decide +kernel
theorem dX1_takenByOther_18 : decode cX1_takenByOther 18 = .ok (.iconst 3, 1) := by decide +kernel
theorem dX1_takenByOther_19 : decode cX1_takenByOther 19 = .ok (.ishr, 1) := by decide +kernel
theorem dX1_takenByOther_20 : decode cX1_takenByOther 20 = .ok (.bipush 7, 2) := by decide +kernel
theorem dX1_takenByOther_22 : decode cX1_takenByOther 22 = .ok (.iand, 1) := by decide +kernel
theorem dX1_takenByOther_23 : decode cX1_takenByOther 23 = .ok (.invokevirtual 59, 3) := by decide +kernel
theorem dX1_takenByOther_26 : decode cX1_takenByOther 26 = .ok (.ifCond .eq 9, 3) := by decide +kernel
theorem dX1_takenByOther_29 : decode cX1_takenByOther 29 = .ok (.lconst 1, 1) := by decide +kernel
theorem dX1_takenByOther_30 : decode cX1_takenByOther 30 = .ok (.iload_n 3, 1) := by decide +kernel
theorem dX1_takenByOther_31 : decode cX1_takenByOther 31 = .ok (.lshl, 1) := by decide +kernel
theorem dX1_takenByOther_32 : decode cX1_takenByOther 32 = .ok (.goto 4, 3) := by decide +kernel
theorem dX1_takenByOther_35 : decode cX1_takenByOther 35 = .ok (.lconst 0, 1) := by decide +kernel
theorem dX1_takenByOther_36 : decode cX1_takenByOther 36 = .ok (.lor, 1) := by decide +kernel
theorem dX1_takenByOther_37 : decode cX1_takenByOther 37 = .ok (.lstore_n 1, 1) := by decide +kernel
theorem dX1_takenByOther_38 : decode cX1_takenByOther 38 = .ok (.iinc 3 1, 3) := by decide +kernel
theorem dX1_takenByOther_41 : decode cX1_takenByOther 41 = .ok (.goto (-37), 3) := by decide +kernel
theorem dX1_takenByOther_44 : decode cX1_takenByOther 44 = .ok (.lload_n 1, 1) := by decide +kernel
theorem dX1_takenByOther_45 : decode cX1_takenByOther 45 = .ok (.lreturn, 1) := by decide +kernel
set_option maxRecDepth 20000 in
theorem ggX1_image_X5_image : GoodIn wsX1_image wsX5_image := goodIn_r _ [4] (by decide +kernel) (by decide +kernel)
set_option maxRecDepth 20000 in
theorem gX1_image_X5_image : GoodIn wsX1_image (va_wsS RX1 63 yX5_image wsX5_image) := goodIn_app (goodIn_of _ (by decide +kernel)) ggX1_image_X5_image
set_option maxRecDepth 20000 in
theorem ggX1_image_X1_joinedCode : GoodIn wsX1_image wsX1_joinedCode := goodIn_r _ [8] (by decide +kernel) (by decide +kernel)
set_option maxRecDepth 20000 in
theorem gX1_image_X1_joinedCode : GoodIn wsX1_image (va_wsS RX1 28 yX1_joinedCode wsX1_joinedCode) := goodIn_app (goodIn_of _ (by decide +kernel)) ggX1_image_X1_joinedCode
theorem dX1_image_0 : decode cX1_image 0 = .ok (.iload_n 0, 1) := by decide +kernel
theorem dX1_image_1 : decode cX1_image 1 = .ok (.bipush 7, 2) := by decide +kernel
theorem dX1_image_3 : decode cX1_image 3 = .ok (.iand, 1) := by decide +kernel
theorem dX1_image_4 : decode cX1_image 4 = .ok (.iload_n 1, 1) := by decide +kernel
theorem dX1_image_5 : decode cX1_image 5 = .ok (.sipush 511, 3) := by decide +kernel
theorem dX1_image_8 : decode cX1_image 8 = .ok (.iand, 1) := by decide +kernel
theorem dX1_image_9 : decode cX1_image 9 = .ok (.invokestatic 63, 3) := by decide +kernel
theorem dX1_image_12 : decode cX1_image 12 = .ok (.iload_n 0, 1) := by decide +kernel
theorem dX1_image_13 : decode cX1_image 13 = .ok (.iconst 3, 1) := by decide +kernel
theorem dX1_image_14 : decode cX1_image 14 = .ok (.ishr, 1) := by decide +kernel
theorem dX1_image_15 : decode cX1_image 15 = .ok (.bipush 7, 2) := by decide +kernel
theorem dX1_image_17 : decode cX1_image 17 = .ok (.iand, 1) := by decide +kernel
theorem dX1_image_18 : decode cX1_image 18 = .ok (.iload_n 1, 1) := by decide +kernel
theorem dX1_image_19 : decode cX1_image 19 = .ok (.bipush 9, 2) := by decide +kernel
theorem dX1_image_21 : decode cX1_image 21 = .ok (.ishr, 1) := by decide +kernel
theorem dX1_image_22 : decode cX1_image 22 = .ok (.sipush 511, 3) := by decide +kernel
theorem dX1_image_25 : decode cX1_image 25 = .ok (.iand, 1) := by decide +kernel
theorem dX1_image_26 : decode cX1_image 26 = .ok (.invokestatic 63, 3) := by decide +kernel
theorem dX1_image_29 : decode cX1_image 29 = .ok (.invokestatic 28, 3) := by decide +kernel
theorem dX1_image_32 : decode cX1_image 32 = .ok (.ireturn, 1) := by decide +kernel
set_option maxRecDepth 20000 in
theorem ggX1_then_X5_then : GoodIn wsX1_then wsX5_then := goodIn_r _ [4, 5, 6, 3, 7] (by decide +kernel) (by decide +kernel)
set_option maxRecDepth 20000 in
theorem gX1_then_X5_then : GoodIn wsX1_then (va_wsS RX1 64 yX5_then wsX5_then) := goodIn_app (goodIn_of _ (by decide +kernel)) ggX1_then_X5_then
set_option maxRecDepth 20000 in
theorem ggX1_then_X1_joinedPair : GoodIn wsX1_then wsX1_joinedPair := goodIn_r _ [11] (by decide +kernel) (by decide +kernel)
set_option maxRecDepth 20000 in
theorem gX1_then_X1_joinedPair : GoodIn wsX1_then (va_wsS RX1 35 yX1_joinedPair wsX1_joinedPair) := goodIn_app (goodIn_of _ (by decide +kernel)) ggX1_then_X1_joinedPair
theorem dX1_then_0 : decode cX1_then 0 = .ok (.iload_n 0, 1) := by decide +kernel
theorem dX1_then_1 : decode cX1_then 1 = .ok (.sipush 511, 3) := by decide +kernel
theorem dX1_then_4 : decode cX1_then 4 = .ok (.iand, 1) := by decide +kernel
theorem dX1_then_5 : decode cX1_then 5 = .ok (.iload_n 1, 1) := by decide +kernel
theorem dX1_then_6 : decode cX1_then 6 = .ok (.sipush 511, 3) := by decide +kernel
theorem dX1_then_9 : decode cX1_then 9 = .ok (.iand, 1) := by decide +kernel
theorem dX1_then_10 : decode cX1_then 10 = .ok (.invokestatic 64, 3) := by decide +kernel
theorem dX1_then_13 : decode cX1_then 13 = .ok (.iload_n 0, 1) := by decide +kernel
theorem dX1_then_14 : decode cX1_then 14 = .ok (.bipush 9, 2) := by decide +kernel
theorem dX1_then_16 : decode cX1_then 16 = .ok (.ishr, 1) := by decide +kernel
theorem dX1_then_17 : decode cX1_then 17 = .ok (.sipush 511, 3) := by decide +kernel
theorem dX1_then_20 : decode cX1_then 20 = .ok (.iand, 1) := by decide +kernel
theorem dX1_then_21 : decode cX1_then 21 = .ok (.iload_n 1, 1) := by decide +kernel
theorem dX1_then_22 : decode cX1_then 22 = .ok (.bipush 9, 2) := by decide +kernel
theorem dX1_then_24 : decode cX1_then 24 = .ok (.ishr, 1) := by decide +kernel
theorem dX1_then_25 : decode cX1_then 25 = .ok (.sipush 511, 3) := by decide +kernel
theorem dX1_then_28 : decode cX1_then 28 = .ok (.iand, 1) := by decide +kernel
theorem dX1_then_29 : decode cX1_then 29 = .ok (.invokestatic 64, 3) := by decide +kernel
theorem dX1_then_32 : decode cX1_then 32 = .ok (.invokestatic 35, 3) := by decide +kernel
theorem dX1_then_35 : decode cX1_then 35 = .ok (.ireturn, 1) := by decide +kernel
theorem dX1_joinedCode_0 : decode cX1_joinedCode 0 = .ok (.iload_n 0, 1) := by decide +kernel
theorem dX1_joinedCode_1 : decode cX1_joinedCode 1 = .ok (.iload_n 1, 1) := by decide +kernel
theorem dX1_joinedCode_2 : decode cX1_joinedCode 2 = .ok (.iconst 3, 1) := by decide +kernel
theorem dX1_joinedCode_3 : decode cX1_joinedCode 3 = .ok (.ishl, 1) := by decide +kernel
theorem dX1_joinedCode_4 : decode cX1_joinedCode 4 = .ok (.ior, 1) := by decide +kernel
theorem dX1_joinedCode_5 : decode cX1_joinedCode 5 = .ok (.ireturn, 1) := by decide +kernel
theorem dX1_joinedPair_0 : decode cX1_joinedPair 0 = .ok (.iload_n 0, 1) := by decide +kernel
theorem dX1_joinedPair_1 : decode cX1_joinedPair 1 = .ok (.iload_n 1, 1) := by decide +kernel
theorem dX1_joinedPair_2 : decode cX1_joinedPair 2 = .ok (.bipush 9, 2) := by decide +kernel
theorem dX1_joinedPair_4 : decode cX1_joinedPair 4 = .ok (.ishl, 1) := by decide +kernel
theorem dX1_joinedPair_5 : decode cX1_joinedPair 5 = .ok (.ior, 1) := by decide +kernel
theorem dX1_joinedPair_6 : decode cX1_joinedPair 6 = .ok (.ireturn, 1) := by decide +kernel
set_option maxRecDepth 20000 in
theorem ggX2_init_X4_held : GoodIn wsX2_init wsX4_held := goodIn_r _ [16, 17, 31, 32, 33, 34, 35, 36, 37, 38, 39] (by decide +kernel) (by decide +kernel)
set_option maxRecDepth 20000 in
theorem gX2_init_X4_held : GoodIn wsX2_init (wsV RX2 30 RX4 yX4_held wsX4_held) := goodIn_app (goodIn_of _ (by decide +kernel)) ggX2_init_X4_held
set_option maxRecDepth 20000 in
theorem ggX2_init_X1_codes : GoodIn wsX2_init wsX1_codes := goodIn_r _ [22, 23, 40, 41, 42] (by decide +kernel) (by decide +kernel)
set_option maxRecDepth 20000 in
theorem gX2_init_X1_codes : GoodIn wsX2_init (wsV RX2 36 RX1 yX1_codes wsX1_codes) := goodIn_app (goodIn_of _ (by decide +kernel)) ggX2_init_X1_codes
theorem dX2_init_0 : decode cX2_init 0 = .ok (.aload_n 0, 1) := by decide +kernel
theorem dX2_init_1 : decode cX2_init 1 = .ok (.invokespecial 3, 3) := by decide +kernel
theorem dX2_init_4 : decode cX2_init 4 = .ok (.aload_n 0, 1) := by decide +kernel
theorem dX2_init_5 : decode cX2_init 5 = .ok (.bipush 60, 2) := by decide +kernel
theorem dX2_init_7 : decode cX2_init 7 = .ok (.newarray .int, 2) := by decide +kernel
theorem dX2_init_9 : decode cX2_init 9 = .ok (.putfield 9, 3) := by decide +kernel
theorem dX2_init_12 : decode cX2_init 12 = .ok (.aload_n 0, 1) := by decide +kernel
theorem dX2_init_13 : decode cX2_init 13 = .ok (.bipush 60, 2) := by decide +kernel
theorem dX2_init_15 : decode cX2_init 15 = .ok (.newarray .int, 2) := by decide +kernel
theorem dX2_init_17 : decode cX2_init 17 = .ok (.putfield 15, 3) := by decide +kernel
theorem dX2_init_20 : decode cX2_init 20 = .ok (.aload_n 0, 1) := by decide +kernel
theorem dX2_init_21 : decode cX2_init 21 = .ok (.iconst 0, 1) := by decide +kernel
theorem dX2_init_22 : decode cX2_init 22 = .ok (.putfield 18, 3) := by decide +kernel
theorem dX2_init_25 : decode cX2_init 25 = .ok (.aload_n 0, 1) := by decide +kernel
theorem dX2_init_26 : decode cX2_init 26 = .ok (.iconst 0, 1) := by decide +kernel
theorem dX2_init_27 : decode cX2_init 27 = .ok (.putfield 22, 3) := by decide +kernel
theorem dX2_init_30 : decode cX2_init 30 = .ok (.aload_n 0, 1) := by decide +kernel
theorem dX2_init_31 : decode cX2_init 31 = .ok (.aload_n 1, 1) := by decide +kernel
theorem dX2_init_32 : decode cX2_init 32 = .ok (.putfield 26, 3) := by decide +kernel
theorem dX2_init_35 : decode cX2_init 35 = .ok (.aload_n 0, 1) := by decide +kernel
theorem dX2_init_36 : decode cX2_init 36 = .ok (.aload_n 1, 1) := by decide +kernel
theorem dX2_init_37 : decode cX2_init 37 = .ok (.invokevirtual 30, 3) := by decide +kernel
theorem dX2_init_40 : decode cX2_init 40 = .ok (.invokevirtual 36, 3) := by decide +kernel
theorem dX2_init_43 : decode cX2_init 43 = .ok (.newarray .int, 2) := by decide +kernel
theorem dX2_init_45 : decode cX2_init 45 = .ok (.putfield 42, 3) := by decide +kernel
theorem dX2_init_48 : decode cX2_init 48 = .ok (.aload_n 0, 1) := by decide +kernel
theorem dX2_init_49 : decode cX2_init 49 = .ok (.aload_n 1, 1) := by decide +kernel
theorem dX2_init_50 : decode cX2_init 50 = .ok (.invokevirtual 30, 3) := by decide +kernel
theorem dX2_init_53 : decode cX2_init 53 = .ok (.invokevirtual 36, 3) := by decide +kernel
theorem dX2_init_56 : decode cX2_init 56 = .ok (.newarray .int, 2) := by decide +kernel
theorem dX2_init_58 : decode cX2_init 58 = .ok (.putfield 45, 3) := by decide +kernel
theorem dX2_init_61 : decode cX2_init 61 = .ok (.return_, 1) := by decide +kernel
set_option maxRecDepth 20000 in
theorem ggX2_least_X2_refresh : GoodIn wsX2_least wsX2_refresh := goodIn_r _ [12, 13, 14, 15, 16, 17, 2, 18, 19, 20, 21, 22, 23, 24, 25, 26, 11, 27, 1, 3, 28, 29, 30, 31, 32, 33, 34, 35, 36, 37, 38, 39, 40, 41, 42, 43, 44, 45, 46, 47, 48, 49, 50, 51, 52, 53, 54, 55, 56, 57, 58, 59, 60, 61, 62, 63, 64, 65, 66, 67, 68, 69, 70, 71, 72, 73, 74, 75, 76, 77, 78, 79, 80, 81, 82, 83, 84, 85, 86, 87, 88, 4, 5, 6, 7, 89, 90, 91, 92, 93, 94, 95, 96, 97, 98, 99, 100, 101, 102, 103, 104, 105, 106, 107, 108, 109, 110, 111, 112, 113, 114, 115, 116, 117, 118, 119, 120, 121, 122, 123, 124, 125, 126, 127, 128, 129, 130, 131, 132, 133, 134, 135, 136, 137, 138, 139, 140, 141, 142, 143, 144, 145, 146, 147, 148, 149, 150, 151, 152, 153, 154, 155, 156, 157, 158, 159, 160] (by decide +kernel) (by decide +kernel)
set_option maxRecDepth 20000 in
theorem gX2_least_X2_refresh : GoodIn wsX2_least (wsV RX2 48 RX2 yX2_refresh wsX2_refresh) := goodIn_app (goodIn_of _ (by decide +kernel)) ggX2_least_X2_refresh
theorem dX2_least_0 : decode cX2_least 0 = .ok (.aload_n 0, 1) := by decide +kernel
theorem dX2_least_1 : decode cX2_least 1 = .ok (.invokevirtual 48, 3) := by decide +kernel
theorem dX2_least_4 : decode cX2_least 4 = .ok (.ldc 51, 2) := by decide +kernel
theorem dX2_least_6 : decode cX2_least 6 = .ok (.istore_n 3, 1) := by decide +kernel
theorem dX2_least_7 : decode cX2_least 7 = .ok (.iconst 0, 1) := by decide +kernel
theorem dX2_least_8 : decode cX2_least 8 = .ok (.istore 4, 2) := by decide +kernel
theorem dX2_least_10 : decode cX2_least 10 = .ok (.iload 4, 2) := by decide +kernel
theorem dX2_least_12 : decode cX2_least 12 = .ok (.aload_n 0, 1) := by decide +kernel
theorem dX2_least_13 : decode cX2_least 13 = .ok (.getfield 42, 3) := by decide +kernel
theorem dX2_least_16 : decode cX2_least 16 = .ok (.arraylength, 1) := by decide +kernel
theorem dX2_least_17 : decode cX2_least 17 = .ok (.if_icmp .ge 42, 3) := by decide +kernel
theorem dX2_least_20 : decode cX2_least 20 = .ok (.lload_n 1, 1) := by decide +kernel
theorem dX2_least_21 : decode cX2_least 21 = .ok (.iload 4, 2) := by decide +kernel
theorem dX2_least_23 : decode cX2_least 23 = .ok (.lshr, 1) := by decide +kernel
theorem dX2_least_24 : decode cX2_least 24 = .ok (.lconst 1, 1) := by decide +kernel
theorem dX2_least_25 : decode cX2_least 25 = .ok (.land, 1) := by decide +kernel
theorem dX2_least_26 : decode cX2_least 26 = .ok (.lconst 0, 1) := by decide +kernel
theorem dX2_least_27 : decode cX2_least 27 = .ok (.lcmp, 1) := by decide +kernel
theorem dX2_least_28 : decode cX2_least 28 = .ok (.ifCond .eq 25, 3) := by decide +kernel
theorem dX2_least_31 : decode cX2_least 31 = .ok (.iload_n 3, 1) := by decide +kernel
theorem dX2_least_32 : decode cX2_least 32 = .ok (.aload_n 0, 1) := by decide +kernel
theorem dX2_least_33 : decode cX2_least 33 = .ok (.getfield 42, 3) := by decide +kernel
theorem dX2_least_36 : decode cX2_least 36 = .ok (.iload 4, 2) := by decide +kernel
theorem dX2_least_38 : decode cX2_least 38 = .ok (.iaload, 1) := by decide +kernel
theorem dX2_least_39 : decode cX2_least 39 = .ok (.aload_n 0, 1) := by decide +kernel
theorem dX2_least_40 : decode cX2_least 40 = .ok (.getfield 45, 3) := by decide +kernel
theorem dX2_least_43 : decode cX2_least 43 = .ok (.iload 4, 2) := by decide +kernel
theorem dX2_least_45 : decode cX2_least 45 = .ok (.iaload, 1) := by decide +kernel
theorem dX2_least_46 : decode cX2_least 46 = .ok (.invokestatic 52, 3) := by decide +kernel
theorem dX2_least_49 : decode cX2_least 49 = .ok (.invokestatic 52, 3) := by decide +kernel
theorem dX2_least_52 : decode cX2_least 52 = .ok (.istore_n 3, 1) := by decide +kernel
theorem dX2_least_53 : decode cX2_least 53 = .ok (.iinc 4 1, 3) := by decide +kernel
theorem dX2_least_56 : decode cX2_least 56 = .ok (.goto (-46), 3) := by decide +kernel
theorem dX2_least_59 : decode cX2_least 59 = .ok (.iload_n 3, 1) := by decide +kernel
theorem dX2_least_60 : decode cX2_least 60 = .ok (.ldc 51, 2) := by decide +kernel
theorem dX2_least_62 : decode cX2_least 62 = .ok (.if_icmp .ge 7, 3) := by decide +kernel
theorem dX2_least_65 : decode cX2_least 65 = .ok (.iload_n 3, 1) := by decide +kernel
theorem dX2_least_66 : decode cX2_least 66 = .ok (.goto 4, 3) := by decide +kernel
theorem dX2_least_69 : decode cX2_least 69 = .ok (.iconst (-1), 1) := by decide +kernel
theorem dX2_least_70 : decode cX2_least 70 = .ok (.ireturn, 1) := by decide +kernel
set_option maxRecDepth 20000 in
theorem ggX2_refresh_X4_edition : GoodIn wsX2_refresh wsX4_edition := goodIn_r _ [11, 12, 129, 130, 131, 132, 133, 134, 135, 136, 137] (by decide +kernel) (by decide +kernel)
set_option maxRecDepth 20000 in
theorem gX2_refresh_X4_edition : GoodIn wsX2_refresh (wsV RX2 58 RX4 yX4_edition wsX4_edition) := goodIn_app (goodIn_of _ (by decide +kernel)) ggX2_refresh_X4_edition
set_option maxRecDepth 20000 in
theorem ggX2_refresh_X2_setAllFar : GoodIn wsX2_refresh wsX2_setAllFar := goodIn_r _ [17, 3, 18, 4, 6, 19, 122, 123, 124, 125, 126, 127, 128] (by decide +kernel) (by decide +kernel)
set_option maxRecDepth 20000 in
theorem gX2_refresh_X2_setAllFar : GoodIn wsX2_refresh (wsV RX2 60 RX2 yX2_setAllFar wsX2_setAllFar) := goodIn_app (goodIn_of _ (by decide +kernel)) ggX2_refresh_X2_setAllFar
set_option maxRecDepth 20000 in
theorem ggX2_refresh_X4_wholes : GoodIn wsX2_refresh wsX4_wholes := goodIn_r _ [23, 24, 129, 130, 131, 132, 133, 134, 135, 136, 137] (by decide +kernel) (by decide +kernel)
set_option maxRecDepth 20000 in
theorem gX2_refresh_X4_wholes : GoodIn wsX2_refresh (wsV RX2 63 RX4 yX4_wholes wsX4_wholes) := goodIn_app (goodIn_of _ (by decide +kernel)) ggX2_refresh_X4_wholes
set_option maxRecDepth 20000 in
theorem ggX2_refresh_X2_shorten : GoodIn wsX2_refresh wsX2_shorten := goodIn_r _ [28, 5, 122, 123, 124, 125, 126, 127, 128] (by decide +kernel) (by decide +kernel)
set_option maxRecDepth 20000 in
theorem gX2_refresh_X2_shorten : GoodIn wsX2_refresh (wsV RX2 67 RX2 yX2_shorten wsX2_shorten) := goodIn_app (goodIn_of _ (by decide +kernel)) ggX2_refresh_X2_shorten
set_option maxRecDepth 20000 in
theorem ggX2_refresh_X10_stepOfPlain : GoodIn wsX2_refresh wsX10_stepOfPlain := goodIn_r _ [33, 34, 35, 36, 37, 38, 138, 139, 140, 141, 142, 143, 144, 145, 146, 147, 148] (by decide +kernel) (by decide +kernel)
set_option maxRecDepth 20000 in
theorem gX2_refresh_X10_stepOfPlain : GoodIn wsX2_refresh (wsV RX2 71 RX10 yX10_stepOfPlain wsX10_stepOfPlain) := goodIn_app (goodIn_of _ (by decide +kernel)) ggX2_refresh_X10_stepOfPlain
set_option maxRecDepth 20000 in
theorem ggX2_refresh_X2_shortenWholes : GoodIn wsX2_refresh wsX2_shortenWholes := goodIn_r _ [42, 4, 3, 43, 44, 45, 32, 46, 47, 48, 49, 50, 51, 52, 25, 26, 27, 16, 28, 5, 53, 54, 55, 56, 57, 58, 59, 60, 61, 62, 122, 123, 124, 125, 126, 127, 128, 138, 139, 140, 141, 142, 143, 144, 145, 146, 147, 148] (by decide +kernel) (by decide +kernel)
set_option maxRecDepth 20000 in
theorem gX2_refresh_X2_shortenWholes : GoodIn wsX2_refresh (wsV RX2 77 RX2 yX2_shortenWholes wsX2_shortenWholes) := goodIn_app (goodIn_of _ (by decide +kernel)) ggX2_refresh_X2_shortenWholes
set_option maxRecDepth 20000 in
theorem ggX2_refresh_X4_held : GoodIn wsX2_refresh wsX4_held := goodIn_r _ [66, 67, 129, 130, 131, 132, 133, 134, 135, 136, 137] (by decide +kernel) (by decide +kernel)
set_option maxRecDepth 20000 in
theorem gX2_refresh_X4_held : GoodIn wsX2_refresh (wsV RX2 30 RX4 yX4_held wsX4_held) := goodIn_app (goodIn_of _ (by decide +kernel)) ggX2_refresh_X4_held
set_option maxRecDepth 20000 in
theorem ggX2_refresh_X1_beginning : GoodIn wsX2_refresh wsX1_beginning := goodIn_r _ [72, 73, 74, 75, 71, 76, 149, 150, 151] (by decide +kernel) (by decide +kernel)
set_option maxRecDepth 20000 in
theorem gX2_refresh_X1_beginning : GoodIn wsX2_refresh (wsV RX2 81 RX1 yX1_beginning wsX1_beginning) := goodIn_app (goodIn_of _ (by decide +kernel)) ggX2_refresh_X1_beginning
set_option maxRecDepth 20000 in
theorem ggX2_refresh_X2_shortenCodes : GoodIn wsX2_refresh wsX2_shortenCodes := goodIn_r _ [80, 2, 6, 19, 81, 82, 83, 84, 18, 4, 63, 64, 65, 10, 66, 67, 53, 54, 55, 32, 56, 57, 85, 86, 87, 88, 89, 90, 91, 92, 93, 94, 25, 26, 27, 16, 28, 5, 95, 96, 97, 71, 98, 99, 100, 101, 102, 103, 37, 104, 105, 106, 107, 108, 109, 110, 111, 112, 113, 114, 115, 116, 117, 118, 119, 120, 121, 74, 75, 76, 122, 123, 124, 125, 126, 127, 128, 129, 130, 131, 132, 133, 134, 135, 136, 137, 138, 139, 140, 141, 142, 143, 144, 145, 146, 147, 148, 149, 150, 151, 152, 153, 154, 155, 156] (by decide +kernel) (by decide +kernel)
set_option maxRecDepth 20000 in
theorem gX2_refresh_X2_shortenCodes : GoodIn wsX2_refresh (wsV RX2 84 RX2 yX2_shortenCodes wsX2_shortenCodes) := goodIn_app (goodIn_of _ (by decide +kernel)) ggX2_refresh_X2_shortenCodes
theorem dX2_refresh_0 : decode cX2_refresh 0 = .ok (.aload_n 0, 1) := by decide +kernel
theorem dX2_refresh_1 : decode cX2_refresh 1 = .ok (.getfield 18, 3) := by decide +kernel
theorem dX2_refresh_4 : decode cX2_refresh 4 = .ok (.aload_n 0, 1) := by decide +kernel
theorem dX2_refresh_5 : decode cX2_refresh 5 = .ok (.getfield 26, 3) := by decide +kernel
theorem dX2_refresh_8 : decode cX2_refresh 8 = .ok (.invokevirtual 58, 3) := by decide +kernel
theorem dX2_refresh_11 : decode cX2_refresh 11 = .ok (.if_icmp .ne 4, 3) := by decide +kernel
theorem dX2_refresh_14 : decode cX2_refresh 14 = .ok (.return_, 1) := by decide +kernel
theorem dX2_refresh_15 : decode cX2_refresh 15 = .ok (.aload_n 0, 1) := by decide +kernel
theorem dX2_refresh_16 : decode cX2_refresh 16 = .ok (.aload_n 0, 1) := by decide +kernel
theorem dX2_refresh_17 : decode cX2_refresh 17 = .ok (.getfield 26, 3) := by decide +kernel
theorem dX2_refresh_20 : decode cX2_refresh 20 = .ok (.invokevirtual 58, 3) := by decide +kernel
theorem dX2_refresh_23 : decode cX2_refresh 23 = .ok (.putfield 18, 3) := by decide +kernel
theorem dX2_refresh_26 : decode cX2_refresh 26 = .ok (.aload_n 0, 1) := by decide +kernel
theorem dX2_refresh_27 : decode cX2_refresh 27 = .ok (.invokevirtual 60, 3) := by decide +kernel
theorem dX2_refresh_30 : decode cX2_refresh 30 = .ok (.aload_n 0, 1) := by decide +kernel
theorem dX2_refresh_31 : decode cX2_refresh 31 = .ok (.getfield 26, 3) := by decide +kernel
theorem dX2_refresh_34 : decode cX2_refresh 34 = .ok (.invokevirtual 63, 3) := by decide +kernel
theorem dX2_refresh_37 : decode cX2_refresh 37 = .ok (.astore_n 1, 1) := by decide +kernel
theorem dX2_refresh_38 : decode cX2_refresh 38 = .ok (.aload_n 0, 1) := by decide +kernel
theorem dX2_refresh_39 : decode cX2_refresh 39 = .ok (.aload_n 0, 1) := by decide +kernel
theorem dX2_refresh_40 : decode cX2_refresh 40 = .ok (.getfield 9, 3) := by decide +kernel
theorem dX2_refresh_43 : decode cX2_refresh 43 = .ok (.iconst 0, 1) := by decide +kernel
theorem dX2_refresh_44 : decode cX2_refresh 44 = .ok (.iconst 0, 1) := by decide +kernel
theorem dX2_refresh_45 : decode cX2_refresh 45 = .ok (.invokevirtual 67, 3) := by decide +kernel
theorem dX2_refresh_48 : decode cX2_refresh 48 = .ok (.aload_n 0, 1) := by decide +kernel
theorem dX2_refresh_49 : decode cX2_refresh 49 = .ok (.aload_n 0, 1) := by decide +kernel
theorem dX2_refresh_50 : decode cX2_refresh 50 = .ok (.getfield 15, 3) := by decide +kernel
theorem dX2_refresh_53 : decode cX2_refresh 53 = .ok (.aload_n 1, 1) := by decide +kernel
theorem dX2_refresh_54 : decode cX2_refresh 54 = .ok (.iconst 2, 1) := by decide +kernel
theorem dX2_refresh_55 : decode cX2_refresh 55 = .ok (.invokevirtual 71, 3) := by decide +kernel
theorem dX2_refresh_58 : decode cX2_refresh 58 = .ok (.iconst 1, 1) := by decide +kernel
theorem dX2_refresh_59 : decode cX2_refresh 59 = .ok (.invokevirtual 67, 3) := by decide +kernel
theorem dX2_refresh_62 : decode cX2_refresh 62 = .ok (.aload_n 0, 1) := by decide +kernel
theorem dX2_refresh_63 : decode cX2_refresh 63 = .ok (.aload_n 0, 1) := by decide +kernel
theorem dX2_refresh_64 : decode cX2_refresh 64 = .ok (.getfield 15, 3) := by decide +kernel
theorem dX2_refresh_67 : decode cX2_refresh 67 = .ok (.aload_n 1, 1) := by decide +kernel
theorem dX2_refresh_68 : decode cX2_refresh 68 = .ok (.iconst 3, 1) := by decide +kernel
theorem dX2_refresh_69 : decode cX2_refresh 69 = .ok (.invokevirtual 71, 3) := by decide +kernel
theorem dX2_refresh_72 : decode cX2_refresh 72 = .ok (.iconst 1, 1) := by decide +kernel
theorem dX2_refresh_73 : decode cX2_refresh 73 = .ok (.invokevirtual 67, 3) := by decide +kernel
theorem dX2_refresh_76 : decode cX2_refresh 76 = .ok (.aload_n 0, 1) := by decide +kernel
theorem dX2_refresh_77 : decode cX2_refresh 77 = .ok (.iconst 1, 1) := by decide +kernel
theorem dX2_refresh_78 : decode cX2_refresh 78 = .ok (.putfield 22, 3) := by decide +kernel
theorem dX2_refresh_81 : decode cX2_refresh 81 = .ok (.iconst 0, 1) := by decide +kernel
theorem dX2_refresh_82 : decode cX2_refresh 82 = .ok (.istore_n 2, 1) := by decide +kernel
theorem dX2_refresh_83 : decode cX2_refresh 83 = .ok (.iload_n 2, 1) := by decide +kernel
theorem dX2_refresh_84 : decode cX2_refresh 84 = .ok (.sipush 1000, 3) := by decide +kernel
theorem dX2_refresh_87 : decode cX2_refresh 87 = .ok (.if_icmp .ge 26, 3) := by decide +kernel
theorem dX2_refresh_90 : decode cX2_refresh 90 = .ok (.aload_n 0, 1) := by decide +kernel
theorem dX2_refresh_91 : decode cX2_refresh 91 = .ok (.getfield 22, 3) := by decide +kernel
theorem dX2_refresh_94 : decode cX2_refresh 94 = .ok (.ifCond .eq 19, 3) := by decide +kernel
theorem dX2_refresh_97 : decode cX2_refresh 97 = .ok (.aload_n 0, 1) := by decide +kernel
theorem dX2_refresh_98 : decode cX2_refresh 98 = .ok (.iconst 0, 1) := by decide +kernel
theorem dX2_refresh_99 : decode cX2_refresh 99 = .ok (.putfield 22, 3) := by decide +kernel
theorem dX2_refresh_102 : decode cX2_refresh 102 = .ok (.aload_n 0, 1) := by decide +kernel
theorem dX2_refresh_103 : decode cX2_refresh 103 = .ok (.aload_n 1, 1) := by decide +kernel
theorem dX2_refresh_104 : decode cX2_refresh 104 = .ok (.invokevirtual 77, 3) := by decide +kernel
theorem dX2_refresh_107 : decode cX2_refresh 107 = .ok (.iinc 2 1, 3) := by decide +kernel
theorem dX2_refresh_110 : decode cX2_refresh 110 = .ok (.goto (-27), 3) := by decide +kernel
theorem dX2_refresh_113 : decode cX2_refresh 113 = .ok (.aload_n 0, 1) := by decide +kernel
theorem dX2_refresh_114 : decode cX2_refresh 114 = .ok (.aload_n 0, 1) := by decide +kernel
theorem dX2_refresh_115 : decode cX2_refresh 115 = .ok (.getfield 42, 3) := by decide +kernel
theorem dX2_refresh_118 : decode cX2_refresh 118 = .ok (.aload_n 0, 1) := by decide +kernel
theorem dX2_refresh_119 : decode cX2_refresh 119 = .ok (.getfield 26, 3) := by decide +kernel
theorem dX2_refresh_122 : decode cX2_refresh 122 = .ok (.invokevirtual 30, 3) := by decide +kernel
theorem dX2_refresh_125 : decode cX2_refresh 125 = .ok (.invokevirtual 81, 3) := by decide +kernel
theorem dX2_refresh_128 : decode cX2_refresh 128 = .ok (.iconst 0, 1) := by decide +kernel
theorem dX2_refresh_129 : decode cX2_refresh 129 = .ok (.invokevirtual 67, 3) := by decide +kernel
theorem dX2_refresh_132 : decode cX2_refresh 132 = .ok (.aload_n 0, 1) := by decide +kernel
theorem dX2_refresh_133 : decode cX2_refresh 133 = .ok (.iconst 1, 1) := by decide +kernel
theorem dX2_refresh_134 : decode cX2_refresh 134 = .ok (.putfield 22, 3) := by decide +kernel
theorem dX2_refresh_137 : decode cX2_refresh 137 = .ok (.iconst 0, 1) := by decide +kernel
theorem dX2_refresh_138 : decode cX2_refresh 138 = .ok (.istore_n 2, 1) := by decide +kernel
theorem dX2_refresh_139 : decode cX2_refresh 139 = .ok (.iload_n 2, 1) := by decide +kernel
theorem dX2_refresh_140 : decode cX2_refresh 140 = .ok (.sipush 1000, 3) := by decide +kernel
theorem dX2_refresh_143 : decode cX2_refresh 143 = .ok (.if_icmp .ge 26, 3) := by decide +kernel
theorem dX2_refresh_146 : decode cX2_refresh 146 = .ok (.aload_n 0, 1) := by decide +kernel
theorem dX2_refresh_147 : decode cX2_refresh 147 = .ok (.getfield 22, 3) := by decide +kernel
theorem dX2_refresh_150 : decode cX2_refresh 150 = .ok (.ifCond .eq 19, 3) := by decide +kernel
theorem dX2_refresh_153 : decode cX2_refresh 153 = .ok (.aload_n 0, 1) := by decide +kernel
theorem dX2_refresh_154 : decode cX2_refresh 154 = .ok (.iconst 0, 1) := by decide +kernel
theorem dX2_refresh_155 : decode cX2_refresh 155 = .ok (.putfield 22, 3) := by decide +kernel
theorem dX2_refresh_158 : decode cX2_refresh 158 = .ok (.aload_n 0, 1) := by decide +kernel
theorem dX2_refresh_159 : decode cX2_refresh 159 = .ok (.aload_n 1, 1) := by decide +kernel
theorem dX2_refresh_160 : decode cX2_refresh 160 = .ok (.invokevirtual 84, 3) := by decide +kernel
theorem dX2_refresh_163 : decode cX2_refresh 163 = .ok (.iinc 2 1, 3) := by decide +kernel
theorem dX2_refresh_166 : decode cX2_refresh 166 = .ok (.goto (-27), 3) := by decide +kernel
theorem dX2_refresh_169 : decode cX2_refresh 169 = .ok (.return_, 1) := by decide +kernel
theorem dX2_setAllFar_0 : decode cX2_setAllFar 0 = .ok (.iconst 0, 1) := by decide +kernel
theorem dX2_setAllFar_1 : decode cX2_setAllFar 1 = .ok (.istore_n 1, 1) := by decide +kernel
theorem dX2_setAllFar_2 : decode cX2_setAllFar 2 = .ok (.iload_n 1, 1) := by decide +kernel
theorem dX2_setAllFar_3 : decode cX2_setAllFar 3 = .ok (.bipush 60, 2) := by decide +kernel
theorem dX2_setAllFar_5 : decode cX2_setAllFar 5 = .ok (.if_icmp .ge 25, 3) := by decide +kernel
theorem dX2_setAllFar_8 : decode cX2_setAllFar 8 = .ok (.aload_n 0, 1) := by decide +kernel
theorem dX2_setAllFar_9 : decode cX2_setAllFar 9 = .ok (.getfield 9, 3) := by decide +kernel
theorem dX2_setAllFar_12 : decode cX2_setAllFar 12 = .ok (.iload_n 1, 1) := by decide +kernel
theorem dX2_setAllFar_13 : decode cX2_setAllFar 13 = .ok (.ldc 51, 2) := by decide +kernel
theorem dX2_setAllFar_15 : decode cX2_setAllFar 15 = .ok (.iastore, 1) := by decide +kernel
theorem dX2_setAllFar_16 : decode cX2_setAllFar 16 = .ok (.aload_n 0, 1) := by decide +kernel
theorem dX2_setAllFar_17 : decode cX2_setAllFar 17 = .ok (.getfield 15, 3) := by decide +kernel
theorem dX2_setAllFar_20 : decode cX2_setAllFar 20 = .ok (.iload_n 1, 1) := by decide +kernel
theorem dX2_setAllFar_21 : decode cX2_setAllFar 21 = .ok (.ldc 51, 2) := by decide +kernel
theorem dX2_setAllFar_23 : decode cX2_setAllFar 23 = .ok (.iastore, 1) := by decide +kernel
theorem dX2_setAllFar_24 : decode cX2_setAllFar 24 = .ok (.iinc 1 1, 3) := by decide +kernel
theorem dX2_setAllFar_27 : decode cX2_setAllFar 27 = .ok (.goto (-25), 3) := by decide +kernel
theorem dX2_setAllFar_30 : decode cX2_setAllFar 30 = .ok (.iconst 0, 1) := by decide +kernel
theorem dX2_setAllFar_31 : decode cX2_setAllFar 31 = .ok (.istore_n 1, 1) := by decide +kernel
theorem dX2_setAllFar_32 : decode cX2_setAllFar 32 = .ok (.iload_n 1, 1) := by decide +kernel
theorem dX2_setAllFar_33 : decode cX2_setAllFar 33 = .ok (.aload_n 0, 1) := by decide +kernel
theorem dX2_setAllFar_34 : decode cX2_setAllFar 34 = .ok (.getfield 42, 3) := by decide +kernel
theorem dX2_setAllFar_37 : decode cX2_setAllFar 37 = .ok (.arraylength, 1) := by decide +kernel
theorem dX2_setAllFar_38 : decode cX2_setAllFar 38 = .ok (.if_icmp .ge 25, 3) := by decide +kernel
theorem dX2_setAllFar_41 : decode cX2_setAllFar 41 = .ok (.aload_n 0, 1) := by decide +kernel
theorem dX2_setAllFar_42 : decode cX2_setAllFar 42 = .ok (.getfield 42, 3) := by decide +kernel
theorem dX2_setAllFar_45 : decode cX2_setAllFar 45 = .ok (.iload_n 1, 1) := by decide +kernel
theorem dX2_setAllFar_46 : decode cX2_setAllFar 46 = .ok (.ldc 51, 2) := by decide +kernel
theorem dX2_setAllFar_48 : decode cX2_setAllFar 48 = .ok (.iastore, 1) := by decide +kernel
theorem dX2_setAllFar_49 : decode cX2_setAllFar 49 = .ok (.aload_n 0, 1) := by decide +kernel
theorem dX2_setAllFar_50 : decode cX2_setAllFar 50 = .ok (.getfield 45, 3) := by decide +kernel
theorem dX2_setAllFar_53 : decode cX2_setAllFar 53 = .ok (.iload_n 1, 1) := by decide +kernel
theorem dX2_setAllFar_54 : decode cX2_setAllFar 54 = .ok (.ldc 51, 2) := by decide +kernel
theorem dX2_setAllFar_56 : decode cX2_setAllFar 56 = .ok (.iastore, 1) := by decide +kernel
theorem dX2_setAllFar_57 : decode cX2_setAllFar 57 = .ok (.iinc 1 1, 3) := by decide +kernel
theorem dX2_setAllFar_60 : decode cX2_setAllFar 60 = .ok (.goto (-28), 3) := by decide +kernel
theorem dX2_setAllFar_63 : decode cX2_setAllFar 63 = .ok (.return_, 1) := by decide +kernel
set_option maxRecDepth 20000 in
theorem ggX2_shortenWholes_X10_size : GoodIn wsX2_shortenWholes wsX10_size := goodIn_r _ [7, 8, 37, 38, 39, 40, 41, 42, 43, 44, 45, 46, 47] (by decide +kernel) (by decide +kernel)
set_option maxRecDepth 20000 in
theorem gX2_shortenWholes_X10_size : GoodIn wsX2_shortenWholes (wsV RX2 87 RX10 yX10_size wsX10_size) := goodIn_app (goodIn_of _ (by decide +kernel)) ggX2_shortenWholes_X10_size
set_option maxRecDepth 20000 in
theorem ggX2_shortenWholes_X10_stepAround : GoodIn wsX2_shortenWholes wsX10_stepAround := goodIn_r _ [12, 8, 13, 37, 38, 39, 40, 41, 42, 43, 44, 45, 46, 47] (by decide +kernel) (by decide +kernel)
set_option maxRecDepth 20000 in
theorem gX2_shortenWholes_X10_stepAround : GoodIn wsX2_shortenWholes (wsV RX2 90 RX10 yX10_stepAround wsX10_stepAround) := goodIn_app (goodIn_of _ (by decide +kernel)) ggX2_shortenWholes_X10_stepAround
set_option maxRecDepth 20000 in
theorem ggX2_shortenWholes_X2_shorten : GoodIn wsX2_shortenWholes wsX2_shorten := goodIn_r _ [18, 19, 30, 31, 32, 33, 34, 35, 36] (by decide +kernel) (by decide +kernel)
set_option maxRecDepth 20000 in
theorem gX2_shortenWholes_X2_shorten : GoodIn wsX2_shortenWholes (wsV RX2 67 RX2 yX2_shorten wsX2_shorten) := goodIn_app (goodIn_of _ (by decide +kernel)) ggX2_shortenWholes_X2_shorten
set_option maxRecDepth 20000 in
theorem ggX2_shortenWholes_X10_steps : GoodIn wsX2_shortenWholes wsX10_steps := goodIn_r _ [23, 24, 37, 38, 39, 40, 41, 42, 43, 44, 45, 46, 47] (by decide +kernel) (by decide +kernel)
set_option maxRecDepth 20000 in
theorem gX2_shortenWholes_X10_steps : GoodIn wsX2_shortenWholes (wsV RX2 93 RX10 yX10_steps wsX10_steps) := goodIn_app (goodIn_of _ (by decide +kernel)) ggX2_shortenWholes_X10_steps
set_option maxRecDepth 20000 in
theorem ggX2_shortenWholes_X10_after : GoodIn wsX2_shortenWholes wsX10_after := goodIn_r _ [28, 8, 24, 29, 37, 38, 39, 40, 41, 42, 43, 44, 45, 46, 47] (by decide +kernel) (by decide +kernel)
set_option maxRecDepth 20000 in
theorem gX2_shortenWholes_X10_after : GoodIn wsX2_shortenWholes (wsV RX2 96 RX10 yX10_after wsX10_after) := goodIn_app (goodIn_of _ (by decide +kernel)) ggX2_shortenWholes_X10_after
theorem dX2_shortenWholes_0 : decode cX2_shortenWholes 0 = .ok (.iconst 0, 1) := by decide +kernel
theorem dX2_shortenWholes_1 : decode cX2_shortenWholes 1 = .ok (.istore_n 2, 1) := by decide +kernel
theorem dX2_shortenWholes_2 : decode cX2_shortenWholes 2 = .ok (.iload_n 2, 1) := by decide +kernel
theorem dX2_shortenWholes_3 : decode cX2_shortenWholes 3 = .ok (.aload_n 1, 1) := by decide +kernel
theorem dX2_shortenWholes_4 : decode cX2_shortenWholes 4 = .ok (.invokevirtual 87, 3) := by decide +kernel
theorem dX2_shortenWholes_7 : decode cX2_shortenWholes 7 = .ok (.if_icmp .ge 87, 3) := by decide +kernel
theorem dX2_shortenWholes_10 : decode cX2_shortenWholes 10 = .ok (.iconst 0, 1) := by decide +kernel
theorem dX2_shortenWholes_11 : decode cX2_shortenWholes 11 = .ok (.istore_n 3, 1) := by decide +kernel
theorem dX2_shortenWholes_12 : decode cX2_shortenWholes 12 = .ok (.iload_n 3, 1) := by decide +kernel
theorem dX2_shortenWholes_13 : decode cX2_shortenWholes 13 = .ok (.iconst 4, 1) := by decide +kernel
theorem dX2_shortenWholes_14 : decode cX2_shortenWholes 14 = .ok (.if_icmp .ge 31, 3) := by decide +kernel
theorem dX2_shortenWholes_17 : decode cX2_shortenWholes 17 = .ok (.aload_n 0, 1) := by decide +kernel
theorem dX2_shortenWholes_18 : decode cX2_shortenWholes 18 = .ok (.aload_n 0, 1) := by decide +kernel
theorem dX2_shortenWholes_19 : decode cX2_shortenWholes 19 = .ok (.getfield 15, 3) := by decide +kernel
theorem dX2_shortenWholes_22 : decode cX2_shortenWholes 22 = .ok (.aload_n 1, 1) := by decide +kernel
theorem dX2_shortenWholes_23 : decode cX2_shortenWholes 23 = .ok (.iload_n 2, 1) := by decide +kernel
theorem dX2_shortenWholes_24 : decode cX2_shortenWholes 24 = .ok (.iload_n 3, 1) := by decide +kernel
theorem dX2_shortenWholes_25 : decode cX2_shortenWholes 25 = .ok (.invokevirtual 90, 3) := by decide +kernel
theorem dX2_shortenWholes_28 : decode cX2_shortenWholes 28 = .ok (.aload_n 0, 1) := by decide +kernel
theorem dX2_shortenWholes_29 : decode cX2_shortenWholes 29 = .ok (.getfield 9, 3) := by decide +kernel
theorem dX2_shortenWholes_32 : decode cX2_shortenWholes 32 = .ok (.iload_n 2, 1) := by decide +kernel
theorem dX2_shortenWholes_33 : decode cX2_shortenWholes 33 = .ok (.iaload, 1) := by decide +kernel
theorem dX2_shortenWholes_34 : decode cX2_shortenWholes 34 = .ok (.iconst 2, 1) := by decide +kernel
theorem dX2_shortenWholes_35 : decode cX2_shortenWholes 35 = .ok (.iadd, 1) := by decide +kernel
theorem dX2_shortenWholes_36 : decode cX2_shortenWholes 36 = .ok (.invokevirtual 67, 3) := by decide +kernel
theorem dX2_shortenWholes_39 : decode cX2_shortenWholes 39 = .ok (.iinc 3 1, 3) := by decide +kernel
theorem dX2_shortenWholes_42 : decode cX2_shortenWholes 42 = .ok (.goto (-30), 3) := by decide +kernel
theorem dX2_shortenWholes_45 : decode cX2_shortenWholes 45 = .ok (.iconst 0, 1) := by decide +kernel
theorem dX2_shortenWholes_46 : decode cX2_shortenWholes 46 = .ok (.istore_n 3, 1) := by decide +kernel
theorem dX2_shortenWholes_47 : decode cX2_shortenWholes 47 = .ok (.iload_n 3, 1) := by decide +kernel
theorem dX2_shortenWholes_48 : decode cX2_shortenWholes 48 = .ok (.aload_n 1, 1) := by decide +kernel
theorem dX2_shortenWholes_49 : decode cX2_shortenWholes 49 = .ok (.invokevirtual 93, 3) := by decide +kernel
theorem dX2_shortenWholes_52 : decode cX2_shortenWholes 52 = .ok (.if_icmp .ge 36, 3) := by decide +kernel
theorem dX2_shortenWholes_55 : decode cX2_shortenWholes 55 = .ok (.aload_n 0, 1) := by decide +kernel
theorem dX2_shortenWholes_56 : decode cX2_shortenWholes 56 = .ok (.aload_n 0, 1) := by decide +kernel
theorem dX2_shortenWholes_57 : decode cX2_shortenWholes 57 = .ok (.getfield 9, 3) := by decide +kernel
theorem dX2_shortenWholes_60 : decode cX2_shortenWholes 60 = .ok (.aload_n 1, 1) := by decide +kernel
theorem dX2_shortenWholes_61 : decode cX2_shortenWholes 61 = .ok (.iload_n 2, 1) := by decide +kernel
theorem dX2_shortenWholes_62 : decode cX2_shortenWholes 62 = .ok (.iload_n 3, 1) := by decide +kernel
theorem dX2_shortenWholes_63 : decode cX2_shortenWholes 63 = .ok (.invokevirtual 96, 3) := by decide +kernel
theorem dX2_shortenWholes_66 : decode cX2_shortenWholes 66 = .ok (.aload_n 0, 1) := by decide +kernel
theorem dX2_shortenWholes_67 : decode cX2_shortenWholes 67 = .ok (.getfield 9, 3) := by decide +kernel
theorem dX2_shortenWholes_70 : decode cX2_shortenWholes 70 = .ok (.iload_n 2, 1) := by decide +kernel
theorem dX2_shortenWholes_71 : decode cX2_shortenWholes 71 = .ok (.iaload, 1) := by decide +kernel
theorem dX2_shortenWholes_72 : decode cX2_shortenWholes 72 = .ok (.aload_n 0, 1) := by decide +kernel
theorem dX2_shortenWholes_73 : decode cX2_shortenWholes 73 = .ok (.getfield 15, 3) := by decide +kernel
theorem dX2_shortenWholes_76 : decode cX2_shortenWholes 76 = .ok (.iload_n 3, 1) := by decide +kernel
theorem dX2_shortenWholes_77 : decode cX2_shortenWholes 77 = .ok (.iaload, 1) := by decide +kernel
theorem dX2_shortenWholes_78 : decode cX2_shortenWholes 78 = .ok (.iadd, 1) := by decide +kernel
theorem dX2_shortenWholes_79 : decode cX2_shortenWholes 79 = .ok (.invokevirtual 67, 3) := by decide +kernel
theorem dX2_shortenWholes_82 : decode cX2_shortenWholes 82 = .ok (.iinc 3 1, 3) := by decide +kernel
theorem dX2_shortenWholes_85 : decode cX2_shortenWholes 85 = .ok (.goto (-38), 3) := by decide +kernel
theorem dX2_shortenWholes_88 : decode cX2_shortenWholes 88 = .ok (.iinc 2 1, 3) := by decide +kernel
theorem dX2_shortenWholes_91 : decode cX2_shortenWholes 91 = .ok (.goto (-89), 3) := by decide +kernel
theorem dX2_shortenWholes_94 : decode cX2_shortenWholes 94 = .ok (.return_, 1) := by decide +kernel
set_option maxRecDepth 20000 in
theorem ggX2_shortenCodes_X4_held : GoodIn wsX2_shortenCodes wsX4_held := goodIn_r _ [14, 15, 77, 78, 79, 80, 81, 82, 83, 84, 85] (by decide +kernel) (by decide +kernel)
set_option maxRecDepth 20000 in
theorem gX2_shortenCodes_X4_held : GoodIn wsX2_shortenCodes (wsV RX2 30 RX4 yX4_held wsX4_held) := goodIn_app (goodIn_of _ (by decide +kernel)) ggX2_shortenCodes_X4_held
set_option maxRecDepth 20000 in
theorem ggX2_shortenCodes_X10_steps : GoodIn wsX2_shortenCodes wsX10_steps := goodIn_r _ [20, 21, 86, 87, 88, 89, 90, 91, 92, 93, 94, 95, 96] (by decide +kernel) (by decide +kernel)
set_option maxRecDepth 20000 in
theorem gX2_shortenCodes_X10_steps : GoodIn wsX2_shortenCodes (wsV RX2 93 RX10 yX10_steps wsX10_steps) := goodIn_app (goodIn_of _ (by decide +kernel)) ggX2_shortenCodes_X10_steps
set_option maxRecDepth 20000 in
theorem ggX2_shortenCodes_X10_wholeOfStep : GoodIn wsX2_shortenCodes wsX10_wholeOfStep := goodIn_r _ [25, 21, 26, 86, 87, 88, 89, 90, 91, 92, 93, 94, 95, 96] (by decide +kernel) (by decide +kernel)
set_option maxRecDepth 20000 in
theorem gX2_shortenCodes_X10_wholeOfStep : GoodIn wsX2_shortenCodes (wsV RX2 99 RX10 yX10_wholeOfStep wsX10_wholeOfStep) := goodIn_app (goodIn_of _ (by decide +kernel)) ggX2_shortenCodes_X10_wholeOfStep
set_option maxRecDepth 20000 in
theorem ggX2_shortenCodes_X4_image : GoodIn wsX2_shortenCodes wsX4_image := goodIn_r _ [30, 31, 77, 78, 79, 80, 81, 82, 83, 84, 85] (by decide +kernel) (by decide +kernel)
set_option maxRecDepth 20000 in
theorem gX2_shortenCodes_X4_image : GoodIn wsX2_shortenCodes (wsV RX2 102 RX4 yX4_image wsX4_image) := goodIn_app (goodIn_of _ (by decide +kernel)) ggX2_shortenCodes_X4_image
set_option maxRecDepth 20000 in
theorem ggX2_shortenCodes_X2_shorten : GoodIn wsX2_shortenCodes wsX2_shorten := goodIn_r _ [36, 37, 70, 71, 72, 73, 74, 75, 76] (by decide +kernel) (by decide +kernel)
set_option maxRecDepth 20000 in
theorem gX2_shortenCodes_X2_shorten : GoodIn wsX2_shortenCodes (wsV RX2 67 RX2 yX2_shorten wsX2_shorten) := goodIn_app (goodIn_of _ (by decide +kernel)) ggX2_shortenCodes_X2_shorten
set_option maxRecDepth 20000 in
theorem ggX2_shortenCodes_X1_alone : GoodIn wsX2_shortenCodes wsX1_alone := goodIn_r _ [42, 43, 44, 45, 46, 47, 48, 49, 50, 51, 52, 53, 54, 55, 56, 57, 58, 59, 41, 60, 61, 62, 63, 64, 65, 66, 67, 68, 69, 97, 98, 99, 100, 101, 102, 103, 104] (by decide +kernel) (by decide +kernel)
set_option maxRecDepth 20000 in
theorem gX2_shortenCodes_X1_alone : GoodIn wsX2_shortenCodes (wsV RX2 105 RX1 yX1_alone wsX1_alone) := goodIn_app (goodIn_of _ (by decide +kernel)) ggX2_shortenCodes_X1_alone
theorem dX2_shortenCodes_0 : decode cX2_shortenCodes 0 = .ok (.aload_n 0, 1) := by decide +kernel
theorem dX2_shortenCodes_1 : decode cX2_shortenCodes 1 = .ok (.getfield 26, 3) := by decide +kernel
theorem dX2_shortenCodes_4 : decode cX2_shortenCodes 4 = .ok (.invokevirtual 30, 3) := by decide +kernel
theorem dX2_shortenCodes_7 : decode cX2_shortenCodes 7 = .ok (.astore_n 2, 1) := by decide +kernel
theorem dX2_shortenCodes_8 : decode cX2_shortenCodes 8 = .ok (.iconst 0, 1) := by decide +kernel
theorem dX2_shortenCodes_9 : decode cX2_shortenCodes 9 = .ok (.istore_n 3, 1) := by decide +kernel
theorem dX2_shortenCodes_10 : decode cX2_shortenCodes 10 = .ok (.iload_n 3, 1) := by decide +kernel
theorem dX2_shortenCodes_11 : decode cX2_shortenCodes 11 = .ok (.aload_n 0, 1) := by decide +kernel
theorem dX2_shortenCodes_12 : decode cX2_shortenCodes 12 = .ok (.getfield 42, 3) := by decide +kernel
theorem dX2_shortenCodes_15 : decode cX2_shortenCodes 15 = .ok (.arraylength, 1) := by decide +kernel
theorem dX2_shortenCodes_16 : decode cX2_shortenCodes 16 = .ok (.if_icmp .ge 183, 3) := by decide +kernel
