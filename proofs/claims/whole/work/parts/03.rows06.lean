theorem dX12_row_74 : decode cX12_row 74 = .ok (.iastore, 1) := by decide +kernel
theorem dX12_row_75 : decode cX12_row 75 = .ok (.iinc 4 1, 3) := by decide +kernel
theorem dX12_row_78 : decode cX12_row 78 = .ok (.goto (-27), 3) := by decide +kernel
theorem dX12_row_81 : decode cX12_row 81 = .ok (.aload_n 0, 1) := by decide +kernel
theorem dX12_row_82 : decode cX12_row 82 = .ok (.iload_n 3, 1) := by decide +kernel
theorem dX12_row_83 : decode cX12_row 83 = .ok (.putfield 219, 3) := by decide +kernel
theorem dX12_row_86 : decode cX12_row 86 = .ok (.iconst 1, 1) := by decide +kernel
theorem dX12_row_87 : decode cX12_row 87 = .ok (.ireturn, 1) := by decide +kernel
theorem dX12_findPartners_0 : decode cX12_findPartners 0 = .ok (.iconst 0, 1) := by decide +kernel
theorem dX12_findPartners_1 : decode cX12_findPartners 1 = .ok (.istore_n 2, 1) := by decide +kernel
theorem dX12_findPartners_2 : decode cX12_findPartners 2 = .ok (.iconst 0, 1) := by decide +kernel
theorem dX12_findPartners_3 : decode cX12_findPartners 3 = .ok (.istore_n 3, 1) := by decide +kernel
theorem dX12_findPartners_4 : decode cX12_findPartners 4 = .ok (.iload_n 3, 1) := by decide +kernel
theorem dX12_findPartners_5 : decode cX12_findPartners 5 = .ok (.iload_n 1, 1) := by decide +kernel
theorem dX12_findPartners_6 : decode cX12_findPartners 6 = .ok (.if_icmp .ge 80, 3) := by decide +kernel
theorem dX12_findPartners_9 : decode cX12_findPartners 9 = .ok (.aload_n 0, 1) := by decide +kernel
theorem dX12_findPartners_10 : decode cX12_findPartners 10 = .ok (.getfield 37, 3) := by decide +kernel
theorem dX12_findPartners_13 : decode cX12_findPartners 13 = .ok (.iload_n 3, 1) := by decide +kernel
theorem dX12_findPartners_14 : decode cX12_findPartners 14 = .ok (.iconst (-1), 1) := by decide +kernel
theorem dX12_findPartners_15 : decode cX12_findPartners 15 = .ok (.iastore, 1) := by decide +kernel
theorem dX12_findPartners_16 : decode cX12_findPartners 16 = .ok (.aload_n 0, 1) := by decide +kernel
theorem dX12_findPartners_17 : decode cX12_findPartners 17 = .ok (.getfield 34, 3) := by decide +kernel
theorem dX12_findPartners_20 : decode cX12_findPartners 20 = .ok (.iload_n 3, 1) := by decide +kernel
theorem dX12_findPartners_21 : decode cX12_findPartners 21 = .ok (.iaload, 1) := by decide +kernel
theorem dX12_findPartners_22 : decode cX12_findPartners 22 = .ok (.iconst 2, 1) := by decide +kernel
theorem dX12_findPartners_23 : decode cX12_findPartners 23 = .ok (.if_icmp .ge 16, 3) := by decide +kernel
theorem dX12_findPartners_26 : decode cX12_findPartners 26 = .ok (.aload_n 0, 1) := by decide +kernel
theorem dX12_findPartners_27 : decode cX12_findPartners 27 = .ok (.getfield 40, 3) := by decide +kernel
theorem dX12_findPartners_30 : decode cX12_findPartners 30 = .ok (.iload_n 2, 1) := by decide +kernel
theorem dX12_findPartners_31 : decode cX12_findPartners 31 = .ok (.iload_n 3, 1) := by decide +kernel
theorem dX12_findPartners_32 : decode cX12_findPartners 32 = .ok (.iastore, 1) := by decide +kernel
theorem dX12_findPartners_33 : decode cX12_findPartners 33 = .ok (.iinc 2 1, 3) := by decide +kernel
theorem dX12_findPartners_36 : decode cX12_findPartners 36 = .ok (.goto 44, 3) := by decide +kernel
theorem dX12_findPartners_39 : decode cX12_findPartners 39 = .ok (.aload_n 0, 1) := by decide +kernel
theorem dX12_findPartners_40 : decode cX12_findPartners 40 = .ok (.getfield 34, 3) := by decide +kernel
theorem dX12_findPartners_43 : decode cX12_findPartners 43 = .ok (.iload_n 3, 1) := by decide +kernel
theorem dX12_findPartners_44 : decode cX12_findPartners 44 = .ok (.iaload, 1) := by decide +kernel
theorem dX12_findPartners_45 : decode cX12_findPartners 45 = .ok (.iconst 3, 1) := by decide +kernel
theorem dX12_findPartners_46 : decode cX12_findPartners 46 = .ok (.if_icmp .le 34, 3) := by decide +kernel
theorem dX12_findPartners_49 : decode cX12_findPartners 49 = .ok (.iload_n 2, 1) := by decide +kernel
theorem dX12_findPartners_50 : decode cX12_findPartners 50 = .ok (.ifCond .le 30, 3) := by decide +kernel
theorem dX12_findPartners_53 : decode cX12_findPartners 53 = .ok (.iinc 2 (-1), 3) := by decide +kernel
theorem dX12_findPartners_56 : decode cX12_findPartners 56 = .ok (.aload_n 0, 1) := by decide +kernel
theorem dX12_findPartners_57 : decode cX12_findPartners 57 = .ok (.getfield 37, 3) := by decide +kernel
theorem dX12_findPartners_60 : decode cX12_findPartners 60 = .ok (.iload_n 3, 1) := by decide +kernel
theorem dX12_findPartners_61 : decode cX12_findPartners 61 = .ok (.aload_n 0, 1) := by decide +kernel
theorem dX12_findPartners_62 : decode cX12_findPartners 62 = .ok (.getfield 40, 3) := by decide +kernel
theorem dX12_findPartners_65 : decode cX12_findPartners 65 = .ok (.iload_n 2, 1) := by decide +kernel
theorem dX12_findPartners_66 : decode cX12_findPartners 66 = .ok (.iaload, 1) := by decide +kernel
theorem dX12_findPartners_67 : decode cX12_findPartners 67 = .ok (.iastore, 1) := by decide +kernel
theorem dX12_findPartners_68 : decode cX12_findPartners 68 = .ok (.aload_n 0, 1) := by decide +kernel
theorem dX12_findPartners_69 : decode cX12_findPartners 69 = .ok (.getfield 37, 3) := by decide +kernel
theorem dX12_findPartners_72 : decode cX12_findPartners 72 = .ok (.aload_n 0, 1) := by decide +kernel
theorem dX12_findPartners_73 : decode cX12_findPartners 73 = .ok (.getfield 40, 3) := by decide +kernel
theorem dX12_findPartners_76 : decode cX12_findPartners 76 = .ok (.iload_n 2, 1) := by decide +kernel
theorem dX12_findPartners_77 : decode cX12_findPartners 77 = .ok (.iaload, 1) := by decide +kernel
theorem dX12_findPartners_78 : decode cX12_findPartners 78 = .ok (.iload_n 3, 1) := by decide +kernel
theorem dX12_findPartners_79 : decode cX12_findPartners 79 = .ok (.iastore, 1) := by decide +kernel
theorem dX12_findPartners_80 : decode cX12_findPartners 80 = .ok (.iinc 3 1, 3) := by decide +kernel
theorem dX12_findPartners_83 : decode cX12_findPartners 83 = .ok (.goto (-79), 3) := by decide +kernel
theorem dX12_findPartners_86 : decode cX12_findPartners 86 = .ok (.iload_n 2, 1) := by decide +kernel
theorem dX12_findPartners_87 : decode cX12_findPartners 87 = .ok (.ireturn, 1) := by decide +kernel
set_option maxRecDepth 20000 in
theorem ggX12_partner_X12_in : GoodIn wsX12_partner wsX12_in := goodIn_r _ [6] (by decide +kernel) (by decide +kernel)
set_option maxRecDepth 20000 in
theorem gX12_partner_X12_in : GoodIn wsX12_partner (va_wsS RX12 112 yX12_in wsX12_in) := goodIn_app (goodIn_of _ (by decide +kernel)) ggX12_partner_X12_in
set_option maxRecDepth 20000 in
theorem ggX12_partner_X12_findPartners : GoodIn wsX12_partner wsX12_findPartners := goodIn_r _ [10, 2, 11, 12, 13, 14, 15, 16, 17, 18, 19, 20, 21, 22, 23, 24, 25, 26, 27, 28, 29, 30, 31, 32, 33, 34, 35, 36, 37, 38, 39, 40, 41, 42, 43, 44, 45, 46, 47, 48, 49, 50, 51, 52, 53, 54, 55, 56, 57, 58, 59, 60, 61, 62, 63] (by decide +kernel) (by decide +kernel)
set_option maxRecDepth 20000 in
theorem gX12_partner_X12_findPartners : GoodIn wsX12_partner (wsV RX12 226 RX12 yX12_findPartners wsX12_findPartners) := goodIn_app (goodIn_of _ (by decide +kernel)) ggX12_partner_X12_findPartners
theorem dX12_partner_0 : decode cX12_partner 0 = .ok (.iload_n 1, 1) := by decide +kernel
theorem dX12_partner_1 : decode cX12_partner 1 = .ok (.iconst 0, 1) := by decide +kernel
theorem dX12_partner_2 : decode cX12_partner 2 = .ok (.aload_n 0, 1) := by decide +kernel
theorem dX12_partner_3 : decode cX12_partner 3 = .ok (.getfield 219, 3) := by decide +kernel
theorem dX12_partner_6 : decode cX12_partner 6 = .ok (.iconst 1, 1) := by decide +kernel
theorem dX12_partner_7 : decode cX12_partner 7 = .ok (.isub, 1) := by decide +kernel
theorem dX12_partner_8 : decode cX12_partner 8 = .ok (.invokestatic 112, 3) := by decide +kernel
theorem dX12_partner_11 : decode cX12_partner 11 = .ok (.ifCond .ne 6, 3) := by decide +kernel
theorem dX12_partner_14 : decode cX12_partner 14 = .ok (.bipush (-3), 2) := by decide +kernel
theorem dX12_partner_16 : decode cX12_partner 16 = .ok (.ireturn, 1) := by decide +kernel
theorem dX12_partner_17 : decode cX12_partner 17 = .ok (.aload_n 0, 1) := by decide +kernel
theorem dX12_partner_18 : decode cX12_partner 18 = .ok (.aload_n 0, 1) := by decide +kernel
theorem dX12_partner_19 : decode cX12_partner 19 = .ok (.getfield 219, 3) := by decide +kernel
theorem dX12_partner_22 : decode cX12_partner 22 = .ok (.invokevirtual 226, 3) := by decide +kernel
theorem dX12_partner_25 : decode cX12_partner 25 = .ok (.pop, 1) := by decide +kernel
theorem dX12_partner_26 : decode cX12_partner 26 = .ok (.aload_n 0, 1) := by decide +kernel
theorem dX12_partner_27 : decode cX12_partner 27 = .ok (.getfield 37, 3) := by decide +kernel
theorem dX12_partner_30 : decode cX12_partner 30 = .ok (.iload_n 1, 1) := by decide +kernel
theorem dX12_partner_31 : decode cX12_partner 31 = .ok (.iaload, 1) := by decide +kernel
theorem dX12_partner_32 : decode cX12_partner 32 = .ok (.ireturn, 1) := by decide +kernel
set_option maxRecDepth 20000 in
theorem ggX12_depth_X12_in : GoodIn wsX12_depth wsX12_in := goodIn_r _ [5] (by decide +kernel) (by decide +kernel)
set_option maxRecDepth 20000 in
theorem gX12_depth_X12_in : GoodIn wsX12_depth (va_wsS RX12 112 yX12_in wsX12_in) := goodIn_app (goodIn_of _ (by decide +kernel)) ggX12_depth_X12_in
set_option maxRecDepth 20000 in
theorem ggX12_depth_X12_findPartners : GoodIn wsX12_depth wsX12_findPartners := goodIn_r _ [9, 10, 11, 12, 13, 14, 15, 16, 17, 18, 19, 20, 21, 22, 23, 24, 25, 26, 27, 28, 29, 30, 31, 32, 33, 34, 35, 36, 37, 38, 39, 40, 41, 42, 43, 44, 45, 46, 47, 48, 49, 50, 51, 52, 53, 54, 55, 56, 57, 58, 59, 60, 61, 62, 63] (by decide +kernel) (by decide +kernel)
set_option maxRecDepth 20000 in
theorem gX12_depth_X12_findPartners : GoodIn wsX12_depth (wsV RX12 226 RX12 yX12_findPartners wsX12_findPartners) := goodIn_app (goodIn_of _ (by decide +kernel)) ggX12_depth_X12_findPartners
theorem dX12_depth_0 : decode cX12_depth 0 = .ok (.iload_n 1, 1) := by decide +kernel
theorem dX12_depth_1 : decode cX12_depth 1 = .ok (.iconst 0, 1) := by decide +kernel
theorem dX12_depth_2 : decode cX12_depth 2 = .ok (.aload_n 0, 1) := by decide +kernel
theorem dX12_depth_3 : decode cX12_depth 3 = .ok (.getfield 219, 3) := by decide +kernel
theorem dX12_depth_6 : decode cX12_depth 6 = .ok (.invokestatic 112, 3) := by decide +kernel
theorem dX12_depth_9 : decode cX12_depth 9 = .ok (.ifCond .eq 11, 3) := by decide +kernel
theorem dX12_depth_12 : decode cX12_depth 12 = .ok (.aload_n 0, 1) := by decide +kernel
theorem dX12_depth_13 : decode cX12_depth 13 = .ok (.iload_n 1, 1) := by decide +kernel
theorem dX12_depth_14 : decode cX12_depth 14 = .ok (.invokevirtual 226, 3) := by decide +kernel
theorem dX12_depth_17 : decode cX12_depth 17 = .ok (.goto 5, 3) := by decide +kernel
theorem dX12_depth_20 : decode cX12_depth 20 = .ok (.bipush (-3), 2) := by decide +kernel
theorem dX12_depth_22 : decode cX12_depth 22 = .ok (.ireturn, 1) := by decide +kernel
theorem dX12_isOf_0 : decode cX12_isOf 0 = .ok (.iload_n 0, 1) := by decide +kernel
theorem dX12_isOf_1 : decode cX12_isOf 1 = .ok (.iconst 2, 1) := by decide +kernel
theorem dX12_isOf_2 : decode cX12_isOf 2 = .ok (.if_icmp .eq 8, 3) := by decide +kernel
theorem dX12_isOf_5 : decode cX12_isOf 5 = .ok (.iload_n 0, 1) := by decide +kernel
theorem dX12_isOf_6 : decode cX12_isOf 6 = .ok (.iload_n 1, 1) := by decide +kernel
theorem dX12_isOf_7 : decode cX12_isOf 7 = .ok (.if_icmp .ne 7, 3) := by decide +kernel
theorem dX12_isOf_10 : decode cX12_isOf 10 = .ok (.iconst 1, 1) := by decide +kernel
theorem dX12_isOf_11 : decode cX12_isOf 11 = .ok (.goto 4, 3) := by decide +kernel
theorem dX12_isOf_14 : decode cX12_isOf 14 = .ok (.iconst 0, 1) := by decide +kernel
theorem dX12_isOf_15 : decode cX12_isOf 15 = .ok (.ireturn, 1) := by decide +kernel
set_option maxRecDepth 20000 in
theorem ggX12_itself_X12_isOf : GoodIn wsX12_itself wsX12_isOf := goodIn_r _ [5] (by decide +kernel) (by decide +kernel)
set_option maxRecDepth 20000 in
theorem gX12_itself_X12_isOf : GoodIn wsX12_itself (va_wsS RX12 229 yX12_isOf wsX12_isOf) := goodIn_app (goodIn_of _ (by decide +kernel)) ggX12_itself_X12_isOf
theorem dX12_itself_0 : decode cX12_itself 0 = .ok (.iconst 0, 1) := by decide +kernel
theorem dX12_itself_1 : decode cX12_itself 1 = .ok (.istore_n 2, 1) := by decide +kernel
theorem dX12_itself_2 : decode cX12_itself 2 = .ok (.iconst 0, 1) := by decide +kernel
theorem dX12_itself_3 : decode cX12_itself 3 = .ok (.istore_n 3, 1) := by decide +kernel
theorem dX12_itself_4 : decode cX12_itself 4 = .ok (.iload_n 3, 1) := by decide +kernel
theorem dX12_itself_5 : decode cX12_itself 5 = .ok (.iconst 2, 1) := by decide +kernel
theorem dX12_itself_6 : decode cX12_itself 6 = .ok (.if_icmp .ge 51, 3) := by decide +kernel
theorem dX12_itself_9 : decode cX12_itself 9 = .ok (.iconst 0, 1) := by decide +kernel
theorem dX12_itself_10 : decode cX12_itself 10 = .ok (.istore 4, 2) := by decide +kernel
theorem dX12_itself_12 : decode cX12_itself 12 = .ok (.iload 4, 2) := by decide +kernel
theorem dX12_itself_14 : decode cX12_itself 14 = .ok (.aload_n 0, 1) := by decide +kernel
theorem dX12_itself_15 : decode cX12_itself 15 = .ok (.getfield 7, 3) := by decide +kernel
theorem dX12_itself_18 : decode cX12_itself 18 = .ok (.iload_n 3, 1) := by decide +kernel
theorem dX12_itself_19 : decode cX12_itself 19 = .ok (.iaload, 1) := by decide +kernel
theorem dX12_itself_20 : decode cX12_itself 20 = .ok (.if_icmp .ge 31, 3) := by decide +kernel
theorem dX12_itself_23 : decode cX12_itself 23 = .ok (.iload_n 1, 1) := by decide +kernel
theorem dX12_itself_24 : decode cX12_itself 24 = .ok (.iload_n 3, 1) := by decide +kernel
theorem dX12_itself_25 : decode cX12_itself 25 = .ok (.invokestatic 229, 3) := by decide +kernel
theorem dX12_itself_28 : decode cX12_itself 28 = .ok (.ifCond .eq 23, 3) := by decide +kernel
theorem dX12_itself_31 : decode cX12_itself 31 = .ok (.iload_n 2, 1) := by decide +kernel
theorem dX12_itself_32 : decode cX12_itself 32 = .ok (.iconst 1, 1) := by decide +kernel
theorem dX12_itself_33 : decode cX12_itself 33 = .ok (.bipush 9, 2) := by decide +kernel
theorem dX12_itself_35 : decode cX12_itself 35 = .ok (.iload_n 3, 1) := by decide +kernel
theorem dX12_itself_36 : decode cX12_itself 36 = .ok (.imul, 1) := by decide +kernel
theorem dX12_itself_37 : decode cX12_itself 37 = .ok (.iconst 4, 1) := by decide +kernel
theorem dX12_itself_38 : decode cX12_itself 38 = .ok (.iload 4, 2) := by decide +kernel
theorem dX12_itself_40 : decode cX12_itself 40 = .ok (.imul, 1) := by decide +kernel
theorem dX12_itself_41 : decode cX12_itself 41 = .ok (.iadd, 1) := by decide +kernel
theorem dX12_itself_42 : decode cX12_itself 42 = .ok (.ishl, 1) := by decide +kernel
theorem dX12_itself_43 : decode cX12_itself 43 = .ok (.ior, 1) := by decide +kernel
theorem dX12_itself_44 : decode cX12_itself 44 = .ok (.istore_n 2, 1) := by decide +kernel
theorem dX12_itself_45 : decode cX12_itself 45 = .ok (.iinc 4 1, 3) := by decide +kernel
theorem dX12_itself_48 : decode cX12_itself 48 = .ok (.goto (-36), 3) := by decide +kernel
theorem dX12_itself_51 : decode cX12_itself 51 = .ok (.iinc 3 1, 3) := by decide +kernel
theorem dX12_itself_54 : decode cX12_itself 54 = .ok (.goto (-50), 3) := by decide +kernel
theorem dX12_itself_57 : decode cX12_itself 57 = .ok (.iload_n 2, 1) := by decide +kernel
theorem dX12_itself_58 : decode cX12_itself 58 = .ok (.ireturn, 1) := by decide +kernel
theorem dX12_follow_0 : decode cX12_follow 0 = .ok (.iconst 0, 1) := by decide +kernel
theorem dX12_follow_1 : decode cX12_follow 1 = .ok (.istore_n 2, 1) := by decide +kernel
theorem dX12_follow_2 : decode cX12_follow 2 = .ok (.iconst 0, 1) := by decide +kernel
theorem dX12_follow_3 : decode cX12_follow 3 = .ok (.istore_n 3, 1) := by decide +kernel
theorem dX12_follow_4 : decode cX12_follow 4 = .ok (.iload_n 3, 1) := by decide +kernel
theorem dX12_follow_5 : decode cX12_follow 5 = .ok (.bipush 18, 2) := by decide +kernel
theorem dX12_follow_7 : decode cX12_follow 7 = .ok (.if_icmp .ge 71, 3) := by decide +kernel
theorem dX12_follow_10 : decode cX12_follow 10 = .ok (.iload_n 3, 1) := by decide +kernel
theorem dX12_follow_11 : decode cX12_follow 11 = .ok (.bipush 9, 2) := by decide +kernel
theorem dX12_follow_13 : decode cX12_follow 13 = .ok (.idiv, 1) := by decide +kernel
theorem dX12_follow_14 : decode cX12_follow 14 = .ok (.bipush 9, 2) := by decide +kernel
theorem dX12_follow_16 : decode cX12_follow 16 = .ok (.imul, 1) := by decide +kernel
theorem dX12_follow_17 : decode cX12_follow 17 = .ok (.istore 4, 2) := by decide +kernel
theorem dX12_follow_19 : decode cX12_follow 19 = .ok (.iload_n 3, 1) := by decide +kernel
theorem dX12_follow_20 : decode cX12_follow 20 = .ok (.bipush 9, 2) := by decide +kernel
theorem dX12_follow_22 : decode cX12_follow 22 = .ok (.irem, 1) := by decide +kernel
theorem dX12_follow_23 : decode cX12_follow 23 = .ok (.iconst 3, 1) := by decide +kernel
theorem dX12_follow_24 : decode cX12_follow 24 = .ok (.idiv, 1) := by decide +kernel
theorem dX12_follow_25 : decode cX12_follow 25 = .ok (.istore 5, 2) := by decide +kernel
theorem dX12_follow_27 : decode cX12_follow 27 = .ok (.iload_n 3, 1) := by decide +kernel
theorem dX12_follow_28 : decode cX12_follow 28 = .ok (.iconst 3, 1) := by decide +kernel
theorem dX12_follow_29 : decode cX12_follow 29 = .ok (.irem, 1) := by decide +kernel
theorem dX12_follow_30 : decode cX12_follow 30 = .ok (.istore 6, 2) := by decide +kernel
theorem dX12_follow_32 : decode cX12_follow 32 = .ok (.iload_n 1, 1) := by decide +kernel
theorem dX12_follow_33 : decode cX12_follow 33 = .ok (.iload 4, 2) := by decide +kernel
theorem dX12_follow_35 : decode cX12_follow 35 = .ok (.iconst 3, 1) := by decide +kernel
theorem dX12_follow_36 : decode cX12_follow 36 = .ok (.iload 6, 2) := by decide +kernel
theorem dX12_follow_38 : decode cX12_follow 38 = .ok (.imul, 1) := by decide +kernel
theorem dX12_follow_39 : decode cX12_follow 39 = .ok (.iadd, 1) := by decide +kernel
theorem dX12_follow_40 : decode cX12_follow 40 = .ok (.ishr, 1) := by decide +kernel
theorem dX12_follow_41 : decode cX12_follow 41 = .ok (.bipush 7, 2) := by decide +kernel
theorem dX12_follow_43 : decode cX12_follow 43 = .ok (.iand, 1) := by decide +kernel
theorem dX12_follow_44 : decode cX12_follow 44 = .ok (.istore 7, 2) := by decide +kernel
theorem dX12_follow_46 : decode cX12_follow 46 = .ok (.iload_n 2, 1) := by decide +kernel
theorem dX12_follow_47 : decode cX12_follow 47 = .ok (.iload_n 0, 1) := by decide +kernel
theorem dX12_follow_48 : decode cX12_follow 48 = .ok (.iload_n 3, 1) := by decide +kernel
theorem dX12_follow_49 : decode cX12_follow 49 = .ok (.ishr, 1) := by decide +kernel
theorem dX12_follow_50 : decode cX12_follow 50 = .ok (.iconst 1, 1) := by decide +kernel
theorem dX12_follow_51 : decode cX12_follow 51 = .ok (.iand, 1) := by decide +kernel
theorem dX12_follow_52 : decode cX12_follow 52 = .ok (.iconst 1, 1) := by decide +kernel
theorem dX12_follow_53 : decode cX12_follow 53 = .ok (.if_icmp .ne 16, 3) := by decide +kernel
theorem dX12_follow_56 : decode cX12_follow 56 = .ok (.iload 7, 2) := by decide +kernel
theorem dX12_follow_58 : decode cX12_follow 58 = .ok (.iload 4, 2) := by decide +kernel
theorem dX12_follow_60 : decode cX12_follow 60 = .ok (.iconst 3, 1) := by decide +kernel
theorem dX12_follow_61 : decode cX12_follow 61 = .ok (.iload 5, 2) := by decide +kernel
theorem dX12_follow_63 : decode cX12_follow 63 = .ok (.imul, 1) := by decide +kernel
theorem dX12_follow_64 : decode cX12_follow 64 = .ok (.iadd, 1) := by decide +kernel
theorem dX12_follow_65 : decode cX12_follow 65 = .ok (.ishl, 1) := by decide +kernel
theorem dX12_follow_66 : decode cX12_follow 66 = .ok (.goto 4, 3) := by decide +kernel
theorem dX12_follow_69 : decode cX12_follow 69 = .ok (.iconst 0, 1) := by decide +kernel
theorem dX12_follow_70 : decode cX12_follow 70 = .ok (.ior, 1) := by decide +kernel
theorem dX12_follow_71 : decode cX12_follow 71 = .ok (.istore_n 2, 1) := by decide +kernel
theorem dX12_follow_72 : decode cX12_follow 72 = .ok (.iinc 3 1, 3) := by decide +kernel
theorem dX12_follow_75 : decode cX12_follow 75 = .ok (.goto (-71), 3) := by decide +kernel
theorem dX12_follow_78 : decode cX12_follow 78 = .ok (.iload_n 2, 1) := by decide +kernel
theorem dX12_follow_79 : decode cX12_follow 79 = .ok (.ireturn, 1) := by decide +kernel
theorem dX12_image_0 : decode cX12_image 0 = .ok (.iconst 0, 1) := by decide +kernel
theorem dX12_image_1 : decode cX12_image 1 = .ok (.istore_n 2, 1) := by decide +kernel
theorem dX12_image_2 : decode cX12_image 2 = .ok (.iconst 0, 1) := by decide +kernel
theorem dX12_image_3 : decode cX12_image 3 = .ok (.istore_n 3, 1) := by decide +kernel
theorem dX12_image_4 : decode cX12_image 4 = .ok (.iload_n 3, 1) := by decide +kernel
theorem dX12_image_5 : decode cX12_image 5 = .ok (.bipush 6, 2) := by decide +kernel
theorem dX12_image_7 : decode cX12_image 7 = .ok (.if_icmp .ge 52, 3) := by decide +kernel
theorem dX12_image_10 : decode cX12_image 10 = .ok (.iload_n 1, 1) := by decide +kernel
theorem dX12_image_11 : decode cX12_image 11 = .ok (.iload_n 3, 1) := by decide +kernel
theorem dX12_image_12 : decode cX12_image 12 = .ok (.iconst 3, 1) := by decide +kernel
theorem dX12_image_13 : decode cX12_image 13 = .ok (.idiv, 1) := by decide +kernel
theorem dX12_image_14 : decode cX12_image 14 = .ok (.bipush 9, 2) := by decide +kernel
theorem dX12_image_16 : decode cX12_image 16 = .ok (.imul, 1) := by decide +kernel
theorem dX12_image_17 : decode cX12_image 17 = .ok (.iconst 3, 1) := by decide +kernel
theorem dX12_image_18 : decode cX12_image 18 = .ok (.iload_n 3, 1) := by decide +kernel
theorem dX12_image_19 : decode cX12_image 19 = .ok (.iconst 3, 1) := by decide +kernel
theorem dX12_image_20 : decode cX12_image 20 = .ok (.irem, 1) := by decide +kernel
theorem dX12_image_21 : decode cX12_image 21 = .ok (.imul, 1) := by decide +kernel
theorem dX12_image_22 : decode cX12_image 22 = .ok (.iadd, 1) := by decide +kernel
theorem dX12_image_23 : decode cX12_image 23 = .ok (.ishr, 1) := by decide +kernel
theorem dX12_image_24 : decode cX12_image 24 = .ok (.bipush 7, 2) := by decide +kernel
theorem dX12_image_26 : decode cX12_image 26 = .ok (.iand, 1) := by decide +kernel
theorem dX12_image_27 : decode cX12_image 27 = .ok (.istore 4, 2) := by decide +kernel
theorem dX12_image_29 : decode cX12_image 29 = .ok (.iload_n 2, 1) := by decide +kernel
theorem dX12_image_30 : decode cX12_image 30 = .ok (.iload_n 0, 1) := by decide +kernel
theorem dX12_image_31 : decode cX12_image 31 = .ok (.iload_n 3, 1) := by decide +kernel
theorem dX12_image_32 : decode cX12_image 32 = .ok (.ishr, 1) := by decide +kernel
theorem dX12_image_33 : decode cX12_image 33 = .ok (.iconst 1, 1) := by decide +kernel
theorem dX12_image_34 : decode cX12_image 34 = .ok (.iand, 1) := by decide +kernel
theorem dX12_image_35 : decode cX12_image 35 = .ok (.iconst 1, 1) := by decide +kernel
theorem dX12_image_36 : decode cX12_image 36 = .ok (.if_icmp .ne 14, 3) := by decide +kernel
theorem dX12_image_39 : decode cX12_image 39 = .ok (.iload 4, 2) := by decide +kernel
theorem dX12_image_41 : decode cX12_image 41 = .ok (.iload_n 3, 1) := by decide +kernel
theorem dX12_image_42 : decode cX12_image 42 = .ok (.iconst 3, 1) := by decide +kernel
theorem dX12_image_43 : decode cX12_image 43 = .ok (.idiv, 1) := by decide +kernel
theorem dX12_image_44 : decode cX12_image 44 = .ok (.iconst 3, 1) := by decide +kernel
theorem dX12_image_45 : decode cX12_image 45 = .ok (.imul, 1) := by decide +kernel
theorem dX12_image_46 : decode cX12_image 46 = .ok (.ishl, 1) := by decide +kernel
theorem dX12_image_47 : decode cX12_image 47 = .ok (.goto 4, 3) := by decide +kernel
theorem dX12_image_50 : decode cX12_image 50 = .ok (.iconst 0, 1) := by decide +kernel
theorem dX12_image_51 : decode cX12_image 51 = .ok (.ior, 1) := by decide +kernel
theorem dX12_image_52 : decode cX12_image 52 = .ok (.istore_n 2, 1) := by decide +kernel
theorem dX12_image_53 : decode cX12_image 53 = .ok (.iinc 3 1, 3) := by decide +kernel
theorem dX12_image_56 : decode cX12_image 56 = .ok (.goto (-52), 3) := by decide +kernel
theorem dX12_image_59 : decode cX12_image 59 = .ok (.iload_n 2, 1) := by decide +kernel
theorem dX12_image_60 : decode cX12_image 60 = .ok (.ireturn, 1) := by decide +kernel
set_option maxRecDepth 20000 in
theorem ggX12_plain_X12_isOf : GoodIn wsX12_plain wsX12_isOf := goodIn_r _ [5] (by decide +kernel) (by decide +kernel)
set_option maxRecDepth 20000 in
theorem gX12_plain_X12_isOf : GoodIn wsX12_plain (va_wsS RX12 229 yX12_isOf wsX12_isOf) := goodIn_app (goodIn_of _ (by decide +kernel)) ggX12_plain_X12_isOf
set_option maxRecDepth 20000 in
theorem ggX12_plain_X12_goAt : GoodIn wsX12_plain wsX12_goAt := goodIn_r _ [8] (by decide +kernel) (by decide +kernel)
set_option maxRecDepth 20000 in
theorem gX12_plain_X12_goAt : GoodIn wsX12_plain (va_wsS RX12 198 yX12_goAt wsX12_goAt) := goodIn_app (goodIn_of _ (by decide +kernel)) ggX12_plain_X12_goAt
theorem dX12_plain_0 : decode cX12_plain 0 = .ok (.iconst 0, 1) := by decide +kernel
theorem dX12_plain_1 : decode cX12_plain 1 = .ok (.istore_n 3, 1) := by decide +kernel
theorem dX12_plain_2 : decode cX12_plain 2 = .ok (.iconst 0, 1) := by decide +kernel
theorem dX12_plain_3 : decode cX12_plain 3 = .ok (.istore 4, 2) := by decide +kernel
theorem dX12_plain_5 : decode cX12_plain 5 = .ok (.iload 4, 2) := by decide +kernel
theorem dX12_plain_7 : decode cX12_plain 7 = .ok (.iconst 2, 1) := by decide +kernel
theorem dX12_plain_8 : decode cX12_plain 8 = .ok (.if_icmp .ge 60, 3) := by decide +kernel
theorem dX12_plain_11 : decode cX12_plain 11 = .ok (.iconst 0, 1) := by decide +kernel
theorem dX12_plain_12 : decode cX12_plain 12 = .ok (.istore 5, 2) := by decide +kernel
theorem dX12_plain_14 : decode cX12_plain 14 = .ok (.iload 5, 2) := by decide +kernel
theorem dX12_plain_16 : decode cX12_plain 16 = .ok (.iconst 3, 1) := by decide +kernel
theorem dX12_plain_17 : decode cX12_plain 17 = .ok (.if_icmp .ge 45, 3) := by decide +kernel
theorem dX12_plain_20 : decode cX12_plain 20 = .ok (.iload_n 1, 1) := by decide +kernel
theorem dX12_plain_21 : decode cX12_plain 21 = .ok (.iload 4, 2) := by decide +kernel
theorem dX12_plain_23 : decode cX12_plain 23 = .ok (.invokestatic 229, 3) := by decide +kernel
theorem dX12_plain_26 : decode cX12_plain 26 = .ok (.ifCond .eq 36, 3) := by decide +kernel
theorem dX12_plain_29 : decode cX12_plain 29 = .ok (.iload_n 3, 1) := by decide +kernel
theorem dX12_plain_30 : decode cX12_plain 30 = .ok (.aload_n 0, 1) := by decide +kernel
theorem dX12_plain_31 : decode cX12_plain 31 = .ok (.getfield 22, 3) := by decide +kernel
theorem dX12_plain_34 : decode cX12_plain 34 = .ok (.iload 4, 2) := by decide +kernel
theorem dX12_plain_36 : decode cX12_plain 36 = .ok (.iload_n 2, 1) := by decide +kernel
theorem dX12_plain_37 : decode cX12_plain 37 = .ok (.iload 5, 2) := by decide +kernel
theorem dX12_plain_39 : decode cX12_plain 39 = .ok (.invokestatic 198, 3) := by decide +kernel
theorem dX12_plain_42 : decode cX12_plain 42 = .ok (.iaload, 1) := by decide +kernel
theorem dX12_plain_43 : decode cX12_plain 43 = .ok (.bipush 9, 2) := by decide +kernel
theorem dX12_plain_45 : decode cX12_plain 45 = .ok (.iload 4, 2) := by decide +kernel
theorem dX12_plain_47 : decode cX12_plain 47 = .ok (.imul, 1) := by decide +kernel
theorem dX12_plain_48 : decode cX12_plain 48 = .ok (.iconst 3, 1) := by decide +kernel
theorem dX12_plain_49 : decode cX12_plain 49 = .ok (.iload 5, 2) := by decide +kernel
theorem dX12_plain_51 : decode cX12_plain 51 = .ok (.imul, 1) := by decide +kernel
theorem dX12_plain_52 : decode cX12_plain 52 = .ok (.iadd, 1) := by decide +kernel
theorem dX12_plain_53 : decode cX12_plain 53 = .ok (.ishl, 1) := by decide +kernel
theorem dX12_plain_54 : decode cX12_plain 54 = .ok (.ior, 1) := by decide +kernel
theorem dX12_plain_55 : decode cX12_plain 55 = .ok (.istore_n 3, 1) := by decide +kernel
theorem dX12_plain_56 : decode cX12_plain 56 = .ok (.iinc 5 1, 3) := by decide +kernel
theorem dX12_plain_59 : decode cX12_plain 59 = .ok (.goto (-45), 3) := by decide +kernel
theorem dX12_plain_62 : decode cX12_plain 62 = .ok (.iinc 4 1, 3) := by decide +kernel
theorem dX12_plain_65 : decode cX12_plain 65 = .ok (.goto (-60), 3) := by decide +kernel
theorem dX12_plain_68 : decode cX12_plain 68 = .ok (.iload_n 3, 1) := by decide +kernel
theorem dX12_plain_69 : decode cX12_plain 69 = .ok (.ireturn, 1) := by decide +kernel
set_option maxRecDepth 20000 in
theorem ggX12_block_X12_isOf : GoodIn wsX12_block wsX12_isOf := goodIn_r _ [7] (by decide +kernel) (by decide +kernel)
set_option maxRecDepth 20000 in
theorem gX12_block_X12_isOf : GoodIn wsX12_block (va_wsS RX12 229 yX12_isOf wsX12_isOf) := goodIn_app (goodIn_of _ (by decide +kernel)) ggX12_block_X12_isOf
set_option maxRecDepth 20000 in
theorem ggX12_block_X12_putAt : GoodIn wsX12_block wsX12_putAt := goodIn_r _ [10] (by decide +kernel) (by decide +kernel)
set_option maxRecDepth 20000 in
theorem gX12_block_X12_putAt : GoodIn wsX12_block (va_wsS RX12 194 yX12_putAt wsX12_putAt) := goodIn_app (goodIn_of _ (by decide +kernel)) ggX12_block_X12_putAt
set_option maxRecDepth 20000 in
theorem ggX12_block_X12_image : GoodIn wsX12_block wsX12_image := goodIn_r _ [13] (by decide +kernel) (by decide +kernel)
set_option maxRecDepth 20000 in
theorem gX12_block_X12_image : GoodIn wsX12_block (va_wsS RX12 232 yX12_image wsX12_image) := goodIn_app (goodIn_of _ (by decide +kernel)) ggX12_block_X12_image
set_option maxRecDepth 20000 in
theorem ggX12_block_X12_closeAt : GoodIn wsX12_block wsX12_closeAt := goodIn_r _ [16] (by decide +kernel) (by decide +kernel)
set_option maxRecDepth 20000 in
theorem gX12_block_X12_closeAt : GoodIn wsX12_block (va_wsS RX12 202 yX12_closeAt wsX12_closeAt) := goodIn_app (goodIn_of _ (by decide +kernel)) ggX12_block_X12_closeAt
theorem dX12_block_0 : decode cX12_block 0 = .ok (.iconst 0, 1) := by decide +kernel
theorem dX12_block_1 : decode cX12_block 1 = .ok (.istore 5, 2) := by decide +kernel
theorem dX12_block_3 : decode cX12_block 3 = .ok (.iconst 0, 1) := by decide +kernel
theorem dX12_block_4 : decode cX12_block 4 = .ok (.istore 6, 2) := by decide +kernel
theorem dX12_block_6 : decode cX12_block 6 = .ok (.iload 6, 2) := by decide +kernel
theorem dX12_block_8 : decode cX12_block 8 = .ok (.iconst 2, 1) := by decide +kernel
theorem dX12_block_9 : decode cX12_block 9 = .ok (.if_icmp .ge 154, 3) := by decide +kernel
theorem dX12_block_12 : decode cX12_block 12 = .ok (.iconst 0, 1) := by decide +kernel
theorem dX12_block_13 : decode cX12_block 13 = .ok (.istore 7, 2) := by decide +kernel
theorem dX12_block_15 : decode cX12_block 15 = .ok (.iload 7, 2) := by decide +kernel
theorem dX12_block_17 : decode cX12_block 17 = .ok (.iconst 3, 1) := by decide +kernel
theorem dX12_block_18 : decode cX12_block 18 = .ok (.if_icmp .ge 139, 3) := by decide +kernel
theorem dX12_block_21 : decode cX12_block 21 = .ok (.iload_n 1, 1) := by decide +kernel
theorem dX12_block_22 : decode cX12_block 22 = .ok (.iload 6, 2) := by decide +kernel
theorem dX12_block_24 : decode cX12_block 24 = .ok (.invokestatic 229, 3) := by decide +kernel
theorem dX12_block_27 : decode cX12_block 27 = .ok (.ifCond .eq 130, 3) := by decide +kernel
theorem dX12_block_30 : decode cX12_block 30 = .ok (.iconst 0, 1) := by decide +kernel
theorem dX12_block_31 : decode cX12_block 31 = .ok (.istore 8, 2) := by decide +kernel
theorem dX12_block_33 : decode cX12_block 33 = .ok (.iload 8, 2) := by decide +kernel
theorem dX12_block_35 : decode cX12_block 35 = .ok (.aload_n 0, 1) := by decide +kernel
theorem dX12_block_36 : decode cX12_block 36 = .ok (.getfield 13, 3) := by decide +kernel
theorem dX12_block_39 : decode cX12_block 39 = .ok (.iload 6, 2) := by decide +kernel
theorem dX12_block_41 : decode cX12_block 41 = .ok (.iaload, 1) := by decide +kernel
theorem dX12_block_42 : decode cX12_block 42 = .ok (.if_icmp .ge 109, 3) := by decide +kernel
theorem dX12_block_45 : decode cX12_block 45 = .ok (.aload_n 0, 1) := by decide +kernel
theorem dX12_block_46 : decode cX12_block 46 = .ok (.getfield 19, 3) := by decide +kernel
theorem dX12_block_49 : decode cX12_block 49 = .ok (.iload 6, 2) := by decide +kernel
theorem dX12_block_51 : decode cX12_block 51 = .ok (.iload_n 2, 1) := by decide +kernel
theorem dX12_block_52 : decode cX12_block 52 = .ok (.iload 7, 2) := by decide +kernel
theorem dX12_block_54 : decode cX12_block 54 = .ok (.iload 8, 2) := by decide +kernel
theorem dX12_block_56 : decode cX12_block 56 = .ok (.invokestatic 194, 3) := by decide +kernel
theorem dX12_block_59 : decode cX12_block 59 = .ok (.iaload, 1) := by decide +kernel
theorem dX12_block_60 : decode cX12_block 60 = .ok (.istore 9, 2) := by decide +kernel
theorem dX12_block_62 : decode cX12_block 62 = .ok (.iload 9, 2) := by decide +kernel
theorem dX12_block_64 : decode cX12_block 64 = .ok (.iconst 3, 1) := by decide +kernel
theorem dX12_block_65 : decode cX12_block 65 = .ok (.iload 6, 2) := by decide +kernel
theorem dX12_block_67 : decode cX12_block 67 = .ok (.imul, 1) := by decide +kernel
theorem dX12_block_68 : decode cX12_block 68 = .ok (.ishl, 1) := by decide +kernel
theorem dX12_block_69 : decode cX12_block 69 = .ok (.iload_n 3, 1) := by decide +kernel
theorem dX12_block_70 : decode cX12_block 70 = .ok (.invokestatic 232, 3) := by decide +kernel
theorem dX12_block_73 : decode cX12_block 73 = .ok (.iconst 3, 1) := by decide +kernel
theorem dX12_block_74 : decode cX12_block 74 = .ok (.iload 6, 2) := by decide +kernel
theorem dX12_block_76 : decode cX12_block 76 = .ok (.imul, 1) := by decide +kernel
theorem dX12_block_77 : decode cX12_block 77 = .ok (.ishr, 1) := by decide +kernel
theorem dX12_block_78 : decode cX12_block 78 = .ok (.bipush 7, 2) := by decide +kernel
theorem dX12_block_80 : decode cX12_block 80 = .ok (.iand, 1) := by decide +kernel
theorem dX12_block_81 : decode cX12_block 81 = .ok (.istore 10, 2) := by decide +kernel
theorem dX12_block_83 : decode cX12_block 83 = .ok (.iconst 0, 1) := by decide +kernel
theorem dX12_block_84 : decode cX12_block 84 = .ok (.istore 11, 2) := by decide +kernel
theorem dX12_block_86 : decode cX12_block 86 = .ok (.iload 11, 2) := by decide +kernel
theorem dX12_block_88 : decode cX12_block 88 = .ok (.iconst 3, 1) := by decide +kernel
theorem dX12_block_89 : decode cX12_block 89 = .ok (.if_icmp .ge 56, 3) := by decide +kernel
theorem dX12_block_92 : decode cX12_block 92 = .ok (.iload 5, 2) := by decide +kernel
theorem dX12_block_94 : decode cX12_block 94 = .ok (.iload 10, 2) := by decide +kernel
theorem dX12_block_96 : decode cX12_block 96 = .ok (.iload 11, 2) := by decide +kernel
theorem dX12_block_98 : decode cX12_block 98 = .ok (.ishr, 1) := by decide +kernel
theorem dX12_block_99 : decode cX12_block 99 = .ok (.iconst 1, 1) := by decide +kernel
theorem dX12_block_100 : decode cX12_block 100 = .ok (.iand, 1) := by decide +kernel
theorem dX12_block_101 : decode cX12_block 101 = .ok (.iconst 1, 1) := by decide +kernel
theorem dX12_block_102 : decode cX12_block 102 = .ok (.if_icmp .ne 33, 3) := by decide +kernel
theorem dX12_block_105 : decode cX12_block 105 = .ok (.aload_n 0, 1) := by decide +kernel
theorem dX12_block_106 : decode cX12_block 106 = .ok (.getfield 25, 3) := by decide +kernel
theorem dX12_block_109 : decode cX12_block 109 = .ok (.iload 6, 2) := by decide +kernel
theorem dX12_block_111 : decode cX12_block 111 = .ok (.iload 4, 2) := by decide +kernel
theorem dX12_block_113 : decode cX12_block 113 = .ok (.iload 11, 2) := by decide +kernel
theorem dX12_block_115 : decode cX12_block 115 = .ok (.iload 8, 2) := by decide +kernel
theorem dX12_block_117 : decode cX12_block 117 = .ok (.invokestatic 202, 3) := by decide +kernel
theorem dX12_block_120 : decode cX12_block 120 = .ok (.iaload, 1) := by decide +kernel
theorem dX12_block_121 : decode cX12_block 121 = .ok (.bipush 9, 2) := by decide +kernel
theorem dX12_block_123 : decode cX12_block 123 = .ok (.iload 6, 2) := by decide +kernel
theorem dX12_block_125 : decode cX12_block 125 = .ok (.imul, 1) := by decide +kernel
theorem dX12_block_126 : decode cX12_block 126 = .ok (.iconst 3, 1) := by decide +kernel
theorem dX12_block_127 : decode cX12_block 127 = .ok (.iload 7, 2) := by decide +kernel
theorem dX12_block_129 : decode cX12_block 129 = .ok (.imul, 1) := by decide +kernel
theorem dX12_block_130 : decode cX12_block 130 = .ok (.iadd, 1) := by decide +kernel
theorem dX12_block_131 : decode cX12_block 131 = .ok (.ishl, 1) := by decide +kernel
theorem dX12_block_132 : decode cX12_block 132 = .ok (.goto 4, 3) := by decide +kernel
theorem dX12_block_135 : decode cX12_block 135 = .ok (.iconst 0, 1) := by decide +kernel
theorem dX12_block_136 : decode cX12_block 136 = .ok (.ior, 1) := by decide +kernel
theorem dX12_block_137 : decode cX12_block 137 = .ok (.istore 5, 2) := by decide +kernel
theorem dX12_block_139 : decode cX12_block 139 = .ok (.iinc 11 1, 3) := by decide +kernel
theorem dX12_block_142 : decode cX12_block 142 = .ok (.goto (-56), 3) := by decide +kernel
theorem dX12_block_145 : decode cX12_block 145 = .ok (.iinc 8 1, 3) := by decide +kernel
theorem dX12_block_148 : decode cX12_block 148 = .ok (.goto (-115), 3) := by decide +kernel
theorem dX12_block_151 : decode cX12_block 151 = .ok (.iinc 7 1, 3) := by decide +kernel
theorem dX12_block_154 : decode cX12_block 154 = .ok (.goto (-139), 3) := by decide +kernel
theorem dX12_block_157 : decode cX12_block 157 = .ok (.iinc 6 1, 3) := by decide +kernel
theorem dX12_block_160 : decode cX12_block 160 = .ok (.goto (-154), 3) := by decide +kernel
theorem dX12_block_163 : decode cX12_block 163 = .ok (.iload 5, 2) := by decide +kernel
theorem dX12_block_165 : decode cX12_block 165 = .ok (.ireturn, 1) := by decide +kernel
set_option maxRecDepth 20000 in
theorem ggX12_opened_X12_isOf : GoodIn wsX12_opened wsX12_isOf := goodIn_r _ [5] (by decide +kernel) (by decide +kernel)
set_option maxRecDepth 20000 in
theorem gX12_opened_X12_isOf : GoodIn wsX12_opened (va_wsS RX12 229 yX12_isOf wsX12_isOf) := goodIn_app (goodIn_of _ (by decide +kernel)) ggX12_opened_X12_isOf
set_option maxRecDepth 20000 in
theorem ggX12_opened_X12_putAt : GoodIn wsX12_opened wsX12_putAt := goodIn_r _ [8] (by decide +kernel) (by decide +kernel)
set_option maxRecDepth 20000 in
theorem gX12_opened_X12_putAt : GoodIn wsX12_opened (va_wsS RX12 194 yX12_putAt wsX12_putAt) := goodIn_app (goodIn_of _ (by decide +kernel)) ggX12_opened_X12_putAt
theorem dX12_opened_0 : decode cX12_opened 0 = .ok (.iconst 0, 1) := by decide +kernel
theorem dX12_opened_1 : decode cX12_opened 1 = .ok (.istore 4, 2) := by decide +kernel
theorem dX12_opened_3 : decode cX12_opened 3 = .ok (.iconst 0, 1) := by decide +kernel
theorem dX12_opened_4 : decode cX12_opened 4 = .ok (.istore 5, 2) := by decide +kernel
theorem dX12_opened_6 : decode cX12_opened 6 = .ok (.iload 5, 2) := by decide +kernel
theorem dX12_opened_8 : decode cX12_opened 8 = .ok (.iconst 2, 1) := by decide +kernel
theorem dX12_opened_9 : decode cX12_opened 9 = .ok (.if_icmp .ge 95, 3) := by decide +kernel
theorem dX12_opened_12 : decode cX12_opened 12 = .ok (.iconst 0, 1) := by decide +kernel
theorem dX12_opened_13 : decode cX12_opened 13 = .ok (.istore 6, 2) := by decide +kernel
theorem dX12_opened_15 : decode cX12_opened 15 = .ok (.iload 6, 2) := by decide +kernel
theorem dX12_opened_17 : decode cX12_opened 17 = .ok (.iconst 3, 1) := by decide +kernel
theorem dX12_opened_18 : decode cX12_opened 18 = .ok (.if_icmp .ge 80, 3) := by decide +kernel
theorem dX12_opened_21 : decode cX12_opened 21 = .ok (.iload_n 1, 1) := by decide +kernel
theorem dX12_opened_22 : decode cX12_opened 22 = .ok (.iload 5, 2) := by decide +kernel
theorem dX12_opened_24 : decode cX12_opened 24 = .ok (.invokestatic 229, 3) := by decide +kernel
theorem dX12_opened_27 : decode cX12_opened 27 = .ok (.ifCond .eq 71, 3) := by decide +kernel
theorem dX12_opened_30 : decode cX12_opened 30 = .ok (.aload_n 0, 1) := by decide +kernel
theorem dX12_opened_31 : decode cX12_opened 31 = .ok (.getfield 19, 3) := by decide +kernel
theorem dX12_opened_34 : decode cX12_opened 34 = .ok (.iload 5, 2) := by decide +kernel
theorem dX12_opened_36 : decode cX12_opened 36 = .ok (.iload_n 2, 1) := by decide +kernel
theorem dX12_opened_37 : decode cX12_opened 37 = .ok (.iload 6, 2) := by decide +kernel
theorem dX12_opened_39 : decode cX12_opened 39 = .ok (.iconst 0, 1) := by decide +kernel
theorem dX12_opened_40 : decode cX12_opened 40 = .ok (.invokestatic 194, 3) := by decide +kernel
theorem dX12_opened_43 : decode cX12_opened 43 = .ok (.iaload, 1) := by decide +kernel
theorem dX12_opened_44 : decode cX12_opened 44 = .ok (.aload_n 0, 1) := by decide +kernel
theorem dX12_opened_45 : decode cX12_opened 45 = .ok (.getfield 19, 3) := by decide +kernel
theorem dX12_opened_48 : decode cX12_opened 48 = .ok (.iload 5, 2) := by decide +kernel
theorem dX12_opened_50 : decode cX12_opened 50 = .ok (.iload_n 2, 1) := by decide +kernel
theorem dX12_opened_51 : decode cX12_opened 51 = .ok (.iload 6, 2) := by decide +kernel
theorem dX12_opened_53 : decode cX12_opened 53 = .ok (.iconst 1, 1) := by decide +kernel
theorem dX12_opened_54 : decode cX12_opened 54 = .ok (.invokestatic 194, 3) := by decide +kernel
theorem dX12_opened_57 : decode cX12_opened 57 = .ok (.iaload, 1) := by decide +kernel
theorem dX12_opened_58 : decode cX12_opened 58 = .ok (.ior, 1) := by decide +kernel
theorem dX12_opened_59 : decode cX12_opened 59 = .ok (.istore 7, 2) := by decide +kernel
theorem dX12_opened_61 : decode cX12_opened 61 = .ok (.iload 4, 2) := by decide +kernel
theorem dX12_opened_63 : decode cX12_opened 63 = .ok (.iload_n 3, 1) := by decide +kernel
theorem dX12_opened_64 : decode cX12_opened 64 = .ok (.iconst 3, 1) := by decide +kernel
theorem dX12_opened_65 : decode cX12_opened 65 = .ok (.iload 5, 2) := by decide +kernel
theorem dX12_opened_67 : decode cX12_opened 67 = .ok (.imul, 1) := by decide +kernel
theorem dX12_opened_68 : decode cX12_opened 68 = .ok (.iload 6, 2) := by decide +kernel
theorem dX12_opened_70 : decode cX12_opened 70 = .ok (.iadd, 1) := by decide +kernel
theorem dX12_opened_71 : decode cX12_opened 71 = .ok (.ishr, 1) := by decide +kernel
theorem dX12_opened_72 : decode cX12_opened 72 = .ok (.iconst 1, 1) := by decide +kernel
theorem dX12_opened_73 : decode cX12_opened 73 = .ok (.iand, 1) := by decide +kernel
theorem dX12_opened_74 : decode cX12_opened 74 = .ok (.iconst 1, 1) := by decide +kernel
theorem dX12_opened_75 : decode cX12_opened 75 = .ok (.if_icmp .ne 13, 3) := by decide +kernel
theorem dX12_opened_78 : decode cX12_opened 78 = .ok (.iload 7, 2) := by decide +kernel
theorem dX12_opened_80 : decode cX12_opened 80 = .ok (.iconst 3, 1) := by decide +kernel
theorem dX12_opened_81 : decode cX12_opened 81 = .ok (.iload 5, 2) := by decide +kernel
theorem dX12_opened_83 : decode cX12_opened 83 = .ok (.imul, 1) := by decide +kernel
theorem dX12_opened_84 : decode cX12_opened 84 = .ok (.ishl, 1) := by decide +kernel
theorem dX12_opened_85 : decode cX12_opened 85 = .ok (.goto 4, 3) := by decide +kernel
theorem dX12_opened_88 : decode cX12_opened 88 = .ok (.iconst 0, 1) := by decide +kernel
theorem dX12_opened_89 : decode cX12_opened 89 = .ok (.ior, 1) := by decide +kernel
theorem dX12_opened_90 : decode cX12_opened 90 = .ok (.istore 4, 2) := by decide +kernel
theorem dX12_opened_92 : decode cX12_opened 92 = .ok (.iinc 6 1, 3) := by decide +kernel
theorem dX12_opened_95 : decode cX12_opened 95 = .ok (.goto (-80), 3) := by decide +kernel
theorem dX12_opened_98 : decode cX12_opened 98 = .ok (.iinc 5 1, 3) := by decide +kernel
theorem dX12_opened_101 : decode cX12_opened 101 = .ok (.goto (-95), 3) := by decide +kernel
theorem dX12_opened_104 : decode cX12_opened 104 = .ok (.iload 4, 2) := by decide +kernel
theorem dX12_opened_106 : decode cX12_opened 106 = .ok (.ireturn, 1) := by decide +kernel
set_option maxRecDepth 20000 in
theorem ggX12_closedOff_X12_isOf : GoodIn wsX12_closedOff wsX12_isOf := goodIn_r _ [5] (by decide +kernel) (by decide +kernel)
set_option maxRecDepth 20000 in
theorem gX12_closedOff_X12_isOf : GoodIn wsX12_closedOff (va_wsS RX12 229 yX12_isOf wsX12_isOf) := goodIn_app (goodIn_of _ (by decide +kernel)) ggX12_closedOff_X12_isOf
set_option maxRecDepth 20000 in
theorem ggX12_closedOff_X12_closeAt : GoodIn wsX12_closedOff wsX12_closeAt := goodIn_r _ [8] (by decide +kernel) (by decide +kernel)
set_option maxRecDepth 20000 in
theorem gX12_closedOff_X12_closeAt : GoodIn wsX12_closedOff (va_wsS RX12 202 yX12_closeAt wsX12_closeAt) := goodIn_app (goodIn_of _ (by decide +kernel)) ggX12_closedOff_X12_closeAt
theorem dX12_closedOff_0 : decode cX12_closedOff 0 = .ok (.iconst 0, 1) := by decide +kernel
theorem dX12_closedOff_1 : decode cX12_closedOff 1 = .ok (.istore 4, 2) := by decide +kernel
theorem dX12_closedOff_3 : decode cX12_closedOff 3 = .ok (.iconst 0, 1) := by decide +kernel
theorem dX12_closedOff_4 : decode cX12_closedOff 4 = .ok (.istore 5, 2) := by decide +kernel
theorem dX12_closedOff_6 : decode cX12_closedOff 6 = .ok (.iload 5, 2) := by decide +kernel
theorem dX12_closedOff_8 : decode cX12_closedOff 8 = .ok (.iconst 2, 1) := by decide +kernel
theorem dX12_closedOff_9 : decode cX12_closedOff 9 = .ok (.if_icmp .ge 76, 3) := by decide +kernel
theorem dX12_closedOff_12 : decode cX12_closedOff 12 = .ok (.iconst 0, 1) := by decide +kernel
theorem dX12_closedOff_13 : decode cX12_closedOff 13 = .ok (.istore 6, 2) := by decide +kernel
theorem dX12_closedOff_15 : decode cX12_closedOff 15 = .ok (.iload 6, 2) := by decide +kernel
theorem dX12_closedOff_17 : decode cX12_closedOff 17 = .ok (.iconst 3, 1) := by decide +kernel
theorem dX12_closedOff_18 : decode cX12_closedOff 18 = .ok (.if_icmp .ge 61, 3) := by decide +kernel
theorem dX12_closedOff_21 : decode cX12_closedOff 21 = .ok (.iload_n 1, 1) := by decide +kernel
theorem dX12_closedOff_22 : decode cX12_closedOff 22 = .ok (.iload 5, 2) := by decide +kernel
theorem dX12_closedOff_24 : decode cX12_closedOff 24 = .ok (.invokestatic 229, 3) := by decide +kernel
theorem dX12_closedOff_27 : decode cX12_closedOff 27 = .ok (.ifCond .eq 52, 3) := by decide +kernel
theorem dX12_closedOff_30 : decode cX12_closedOff 30 = .ok (.iload 4, 2) := by decide +kernel
theorem dX12_closedOff_32 : decode cX12_closedOff 32 = .ok (.iload_n 3, 1) := by decide +kernel
theorem dX12_closedOff_33 : decode cX12_closedOff 33 = .ok (.iconst 3, 1) := by decide +kernel
theorem dX12_closedOff_34 : decode cX12_closedOff 34 = .ok (.iload 5, 2) := by decide +kernel
theorem dX12_closedOff_36 : decode cX12_closedOff 36 = .ok (.imul, 1) := by decide +kernel
theorem dX12_closedOff_37 : decode cX12_closedOff 37 = .ok (.iload 6, 2) := by decide +kernel
theorem dX12_closedOff_39 : decode cX12_closedOff 39 = .ok (.iadd, 1) := by decide +kernel
theorem dX12_closedOff_40 : decode cX12_closedOff 40 = .ok (.ishr, 1) := by decide +kernel
theorem dX12_closedOff_41 : decode cX12_closedOff 41 = .ok (.iconst 1, 1) := by decide +kernel
theorem dX12_closedOff_42 : decode cX12_closedOff 42 = .ok (.iand, 1) := by decide +kernel
theorem dX12_closedOff_43 : decode cX12_closedOff 43 = .ok (.iconst 1, 1) := by decide +kernel
theorem dX12_closedOff_44 : decode cX12_closedOff 44 = .ok (.if_icmp .ne 25, 3) := by decide +kernel
theorem dX12_closedOff_47 : decode cX12_closedOff 47 = .ok (.aload_n 0, 1) := by decide +kernel
theorem dX12_closedOff_48 : decode cX12_closedOff 48 = .ok (.getfield 25, 3) := by decide +kernel
theorem dX12_closedOff_51 : decode cX12_closedOff 51 = .ok (.iload 5, 2) := by decide +kernel
theorem dX12_closedOff_53 : decode cX12_closedOff 53 = .ok (.iload_n 2, 1) := by decide +kernel
theorem dX12_closedOff_54 : decode cX12_closedOff 54 = .ok (.iload 6, 2) := by decide +kernel
theorem dX12_closedOff_56 : decode cX12_closedOff 56 = .ok (.iconst (-1), 1) := by decide +kernel
theorem dX12_closedOff_57 : decode cX12_closedOff 57 = .ok (.invokestatic 202, 3) := by decide +kernel
theorem dX12_closedOff_60 : decode cX12_closedOff 60 = .ok (.iaload, 1) := by decide +kernel
theorem dX12_closedOff_61 : decode cX12_closedOff 61 = .ok (.iconst 3, 1) := by decide +kernel
theorem dX12_closedOff_62 : decode cX12_closedOff 62 = .ok (.iload 5, 2) := by decide +kernel
theorem dX12_closedOff_64 : decode cX12_closedOff 64 = .ok (.imul, 1) := by decide +kernel
theorem dX12_closedOff_65 : decode cX12_closedOff 65 = .ok (.ishl, 1) := by decide +kernel
theorem dX12_closedOff_66 : decode cX12_closedOff 66 = .ok (.goto 4, 3) := by decide +kernel
theorem dX12_closedOff_69 : decode cX12_closedOff 69 = .ok (.iconst 0, 1) := by decide +kernel
theorem dX12_closedOff_70 : decode cX12_closedOff 70 = .ok (.ior, 1) := by decide +kernel
theorem dX12_closedOff_71 : decode cX12_closedOff 71 = .ok (.istore 4, 2) := by decide +kernel
theorem dX12_closedOff_73 : decode cX12_closedOff 73 = .ok (.iinc 6 1, 3) := by decide +kernel
theorem dX12_closedOff_76 : decode cX12_closedOff 76 = .ok (.goto (-61), 3) := by decide +kernel
theorem dX12_closedOff_79 : decode cX12_closedOff 79 = .ok (.iinc 5 1, 3) := by decide +kernel
theorem dX12_closedOff_82 : decode cX12_closedOff 82 = .ok (.goto (-76), 3) := by decide +kernel
theorem dX12_closedOff_85 : decode cX12_closedOff 85 = .ok (.iload 4, 2) := by decide +kernel
theorem dX12_closedOff_87 : decode cX12_closedOff 87 = .ok (.ireturn, 1) := by decide +kernel
theorem dX12_begun_0 : decode cX12_begun 0 = .ok (.iload_n 0, 1) := by decide +kernel
theorem dX12_begun_1 : decode cX12_begun 1 = .ok (.ifCond .ne 7, 3) := by decide +kernel
theorem dX12_begun_4 : decode cX12_begun 4 = .ok (.iconst 1, 1) := by decide +kernel
theorem dX12_begun_5 : decode cX12_begun 5 = .ok (.goto 15, 3) := by decide +kernel
theorem dX12_begun_8 : decode cX12_begun 8 = .ok (.iload_n 0, 1) := by decide +kernel
theorem dX12_begun_9 : decode cX12_begun 9 = .ok (.iconst 1, 1) := by decide +kernel
theorem dX12_begun_10 : decode cX12_begun 10 = .ok (.if_icmp .ne 8, 3) := by decide +kernel
theorem dX12_begun_13 : decode cX12_begun 13 = .ok (.bipush 8, 2) := by decide +kernel
theorem dX12_begun_15 : decode cX12_begun 15 = .ok (.goto 5, 3) := by decide +kernel
theorem dX12_begun_18 : decode cX12_begun 18 = .ok (.bipush 9, 2) := by decide +kernel
theorem dX12_begun_20 : decode cX12_begun 20 = .ok (.ireturn, 1) := by decide +kernel
set_option maxRecDepth 20000 in
theorem ggX12_beginRow_X12_begun : GoodIn wsX12_beginRow wsX12_begun := goodIn_r _ [7] (by decide +kernel) (by decide +kernel)
set_option maxRecDepth 20000 in
theorem gX12_beginRow_X12_begun : GoodIn wsX12_beginRow (va_wsS RX12 239 yX12_begun wsX12_begun) := goodIn_app (goodIn_of _ (by decide +kernel)) ggX12_beginRow_X12_begun
set_option maxRecDepth 20000 in
theorem ggX12_beginRow_X12_itself : GoodIn wsX12_beginRow wsX12_itself := goodIn_r _ [11, 12, 13, 14, 6, 15, 16, 17, 18, 19, 20, 21, 22, 23, 24, 25, 26, 27, 28, 29, 30, 31, 32, 33, 34, 35, 36, 37, 38, 39, 40, 41, 42, 43, 44, 45, 46, 47, 48, 49, 50, 51, 52, 53, 54, 55, 56, 57, 58, 59, 60, 61, 62, 63, 64, 65, 66] (by decide +kernel) (by decide +kernel)
set_option maxRecDepth 20000 in
theorem gX12_beginRow_X12_itself : GoodIn wsX12_beginRow (wsV RX12 245 RX12 yX12_itself wsX12_itself) := goodIn_app (goodIn_of _ (by decide +kernel)) ggX12_beginRow_X12_itself
theorem dX12_beginRow_0 : decode cX12_beginRow 0 = .ok (.aload_n 0, 1) := by decide +kernel
theorem dX12_beginRow_1 : decode cX12_beginRow 1 = .ok (.iconst 0, 1) := by decide +kernel
theorem dX12_beginRow_2 : decode cX12_beginRow 2 = .ok (.putfield 236, 3) := by decide +kernel
theorem dX12_beginRow_5 : decode cX12_beginRow 5 = .ok (.aload_n 0, 1) := by decide +kernel
theorem dX12_beginRow_6 : decode cX12_beginRow 6 = .ok (.iload_n 1, 1) := by decide +kernel
theorem dX12_beginRow_7 : decode cX12_beginRow 7 = .ok (.invokestatic 239, 3) := by decide +kernel
theorem dX12_beginRow_10 : decode cX12_beginRow 10 = .ok (.putfield 242, 3) := by decide +kernel
theorem dX12_beginRow_13 : decode cX12_beginRow 13 = .ok (.aload_n 0, 1) := by decide +kernel
theorem dX12_beginRow_14 : decode cX12_beginRow 14 = .ok (.aload_n 0, 1) := by decide +kernel
theorem dX12_beginRow_15 : decode cX12_beginRow 15 = .ok (.iload_n 1, 1) := by decide +kernel
theorem dX12_beginRow_16 : decode cX12_beginRow 16 = .ok (.invokevirtual 245, 3) := by decide +kernel
theorem dX12_beginRow_19 : decode cX12_beginRow 19 = .ok (.putfield 248, 3) := by decide +kernel
theorem dX12_beginRow_22 : decode cX12_beginRow 22 = .ok (.return_, 1) := by decide +kernel
set_option maxRecDepth 20000 in
theorem ggX12_goOn_X12_opened : GoodIn wsX12_goOn wsX12_opened := goodIn_r _ [11, 12, 13, 14, 10, 15, 16, 17, 18, 51, 52, 53, 54, 55, 56, 57, 58, 59, 60, 61, 62, 63, 64, 65, 66, 67, 68, 69, 70, 71, 72, 73, 74, 75, 76, 77, 78, 79, 80, 81, 82, 83, 84, 85, 86, 87, 88, 89, 90, 91, 92, 93, 94, 95, 96, 97, 98, 99, 100, 101] (by decide +kernel) (by decide +kernel)
set_option maxRecDepth 20000 in
theorem gX12_goOn_X12_opened : GoodIn wsX12_goOn (wsV RX12 251 RX12 yX12_opened wsX12_opened) := goodIn_app (goodIn_of _ (by decide +kernel)) ggX12_goOn_X12_opened
set_option maxRecDepth 20000 in
theorem ggX12_goOn_X12_itself : GoodIn wsX12_goOn wsX12_itself := goodIn_r _ [22, 23, 13, 14, 10, 15, 51, 52, 53, 54, 55, 56, 57, 58, 59, 60, 61, 62, 63, 64, 65, 66, 67, 68, 69, 70, 71, 72, 73, 74, 75, 76, 77, 78, 79, 80, 81, 82, 83, 84, 85, 86, 87, 88, 89, 90, 91, 92, 93, 94, 95, 96, 97, 98, 99, 100, 101] (by decide +kernel) (by decide +kernel)
set_option maxRecDepth 20000 in
theorem gX12_goOn_X12_itself : GoodIn wsX12_goOn (wsV RX12 245 RX12 yX12_itself wsX12_itself) := goodIn_app (goodIn_of _ (by decide +kernel)) ggX12_goOn_X12_itself
set_option maxRecDepth 20000 in
theorem ggX12_goOn_X12_plain : GoodIn wsX12_goOn wsX12_plain := goodIn_r _ [27, 28, 13, 14, 10, 15, 29, 30, 31, 51, 52, 53, 54, 55, 56, 57, 58, 59, 60, 61, 62, 63, 64, 65, 66, 67, 68, 69, 70, 71, 72, 73, 74, 75, 76, 77, 78, 79, 80, 81, 82, 83, 84, 85, 86, 87, 88, 89, 90, 91, 92, 93, 94, 95, 96, 97, 98, 99, 100, 101] (by decide +kernel) (by decide +kernel)
set_option maxRecDepth 20000 in
theorem gX12_goOn_X12_plain : GoodIn wsX12_goOn (wsV RX12 254 RX12 yX12_plain wsX12_plain) := goodIn_app (goodIn_of _ (by decide +kernel)) ggX12_goOn_X12_plain
set_option maxRecDepth 20000 in
theorem ggX12_goOn_X12_image : GoodIn wsX12_goOn wsX12_image := goodIn_r _ [34] (by decide +kernel) (by decide +kernel)
set_option maxRecDepth 20000 in
theorem gX12_goOn_X12_image : GoodIn wsX12_goOn (va_wsS RX12 232 yX12_image wsX12_image) := goodIn_app (goodIn_of _ (by decide +kernel)) ggX12_goOn_X12_image
set_option maxRecDepth 20000 in
theorem ggX12_goOn_X12_follow : GoodIn wsX12_goOn wsX12_follow := goodIn_r _ [37] (by decide +kernel) (by decide +kernel)
set_option maxRecDepth 20000 in
theorem gX12_goOn_X12_follow : GoodIn wsX12_goOn (va_wsS RX12 257 yX12_follow wsX12_follow) := goodIn_app (goodIn_of _ (by decide +kernel)) ggX12_goOn_X12_follow
set_option maxRecDepth 20000 in
theorem ggX12_goOn_X12_block : GoodIn wsX12_goOn wsX12_block := goodIn_r _ [41, 42, 12, 43, 13, 14, 10, 15, 16, 17, 18, 32, 33, 34, 44, 45, 46, 51, 52, 53, 54, 55, 56, 57, 58, 59, 60, 61, 62, 63, 64, 65, 66, 67, 68, 69, 70, 71, 72, 73, 74, 75, 76, 77, 78, 79, 80, 81, 82, 83, 84, 85, 86, 87, 88, 89, 90, 91, 92, 93, 94, 95, 96, 97, 98, 99, 100, 101] (by decide +kernel) (by decide +kernel)
set_option maxRecDepth 20000 in
theorem gX12_goOn_X12_block : GoodIn wsX12_goOn (wsV RX12 260 RX12 yX12_block wsX12_block) := goodIn_app (goodIn_of _ (by decide +kernel)) ggX12_goOn_X12_block
set_option maxRecDepth 20000 in
theorem ggX12_goOn_X12_closedOff : GoodIn wsX12_goOn wsX12_closedOff := goodIn_r _ [50, 43, 13, 14, 10, 15, 44, 45, 46, 51, 52, 53, 54, 55, 56, 57, 58, 59, 60, 61, 62, 63, 64, 65, 66, 67, 68, 69, 70, 71, 72, 73, 74, 75, 76, 77, 78, 79, 80, 81, 82, 83, 84, 85, 86, 87, 88, 89, 90, 91, 92, 93, 94, 95, 96, 97, 98, 99, 100, 101] (by decide +kernel) (by decide +kernel)
set_option maxRecDepth 20000 in
theorem gX12_goOn_X12_closedOff : GoodIn wsX12_goOn (wsV RX12 263 RX12 yX12_closedOff wsX12_closedOff) := goodIn_app (goodIn_of _ (by decide +kernel)) ggX12_goOn_X12_closedOff
theorem dX12_goOn_0 : decode cX12_goOn 0 = .ok (.iload_n 2, 1) := by decide +kernel
theorem dX12_goOn_1 : decode cX12_goOn 1 = .ok (.iconst 2, 1) := by decide +kernel
theorem dX12_goOn_2 : decode cX12_goOn 2 = .ok (.if_icmp .ge 75, 3) := by decide +kernel
theorem dX12_goOn_5 : decode cX12_goOn 5 = .ok (.aload_n 0, 1) := by decide +kernel
theorem dX12_goOn_6 : decode cX12_goOn 6 = .ok (.getfield 43, 3) := by decide +kernel
theorem dX12_goOn_9 : decode cX12_goOn 9 = .ok (.aload_n 0, 1) := by decide +kernel
theorem dX12_goOn_10 : decode cX12_goOn 10 = .ok (.getfield 236, 3) := by decide +kernel
theorem dX12_goOn_13 : decode cX12_goOn 13 = .ok (.aload_n 0, 1) := by decide +kernel
theorem dX12_goOn_14 : decode cX12_goOn 14 = .ok (.getfield 242, 3) := by decide +kernel
theorem dX12_goOn_17 : decode cX12_goOn 17 = .ok (.iastore, 1) := by decide +kernel
theorem dX12_goOn_18 : decode cX12_goOn 18 = .ok (.aload_n 0, 1) := by decide +kernel
theorem dX12_goOn_19 : decode cX12_goOn 19 = .ok (.getfield 46, 3) := by decide +kernel
theorem dX12_goOn_22 : decode cX12_goOn 22 = .ok (.aload_n 0, 1) := by decide +kernel
theorem dX12_goOn_23 : decode cX12_goOn 23 = .ok (.getfield 236, 3) := by decide +kernel
theorem dX12_goOn_26 : decode cX12_goOn 26 = .ok (.aload_n 0, 1) := by decide +kernel
theorem dX12_goOn_27 : decode cX12_goOn 27 = .ok (.getfield 248, 3) := by decide +kernel
theorem dX12_goOn_30 : decode cX12_goOn 30 = .ok (.iastore, 1) := by decide +kernel
theorem dX12_goOn_31 : decode cX12_goOn 31 = .ok (.aload_n 0, 1) := by decide +kernel
theorem dX12_goOn_32 : decode cX12_goOn 32 = .ok (.getfield 49, 3) := by decide +kernel
theorem dX12_goOn_35 : decode cX12_goOn 35 = .ok (.aload_n 0, 1) := by decide +kernel
theorem dX12_goOn_36 : decode cX12_goOn 36 = .ok (.getfield 236, 3) := by decide +kernel
theorem dX12_goOn_39 : decode cX12_goOn 39 = .ok (.iload_n 2, 1) := by decide +kernel
theorem dX12_goOn_40 : decode cX12_goOn 40 = .ok (.iastore, 1) := by decide +kernel
theorem dX12_goOn_41 : decode cX12_goOn 41 = .ok (.aload_n 0, 1) := by decide +kernel
theorem dX12_goOn_42 : decode cX12_goOn 42 = .ok (.dup, 1) := by decide +kernel
theorem dX12_goOn_43 : decode cX12_goOn 43 = .ok (.getfield 236, 3) := by decide +kernel
theorem dX12_goOn_46 : decode cX12_goOn 46 = .ok (.iconst 1, 1) := by decide +kernel
theorem dX12_goOn_47 : decode cX12_goOn 47 = .ok (.iadd, 1) := by decide +kernel
theorem dX12_goOn_48 : decode cX12_goOn 48 = .ok (.putfield 236, 3) := by decide +kernel
theorem dX12_goOn_51 : decode cX12_goOn 51 = .ok (.aload_n 0, 1) := by decide +kernel
theorem dX12_goOn_52 : decode cX12_goOn 52 = .ok (.aload_n 0, 1) := by decide +kernel
theorem dX12_goOn_53 : decode cX12_goOn 53 = .ok (.iload_n 1, 1) := by decide +kernel
theorem dX12_goOn_54 : decode cX12_goOn 54 = .ok (.iload_n 2, 1) := by decide +kernel
theorem dX12_goOn_55 : decode cX12_goOn 55 = .ok (.aload_n 0, 1) := by decide +kernel
theorem dX12_goOn_56 : decode cX12_goOn 56 = .ok (.getfield 242, 3) := by decide +kernel
theorem dX12_goOn_59 : decode cX12_goOn 59 = .ok (.invokevirtual 251, 3) := by decide +kernel
theorem dX12_goOn_62 : decode cX12_goOn 62 = .ok (.putfield 242, 3) := by decide +kernel
theorem dX12_goOn_65 : decode cX12_goOn 65 = .ok (.aload_n 0, 1) := by decide +kernel
theorem dX12_goOn_66 : decode cX12_goOn 66 = .ok (.aload_n 0, 1) := by decide +kernel
theorem dX12_goOn_67 : decode cX12_goOn 67 = .ok (.iload_n 1, 1) := by decide +kernel
theorem dX12_goOn_68 : decode cX12_goOn 68 = .ok (.invokevirtual 245, 3) := by decide +kernel
theorem dX12_goOn_71 : decode cX12_goOn 71 = .ok (.putfield 248, 3) := by decide +kernel
theorem dX12_goOn_74 : decode cX12_goOn 74 = .ok (.goto 139, 3) := by decide +kernel
theorem dX12_goOn_77 : decode cX12_goOn 77 = .ok (.iload_n 2, 1) := by decide +kernel
theorem dX12_goOn_78 : decode cX12_goOn 78 = .ok (.iconst 4, 1) := by decide +kernel
theorem dX12_goOn_79 : decode cX12_goOn 79 = .ok (.if_icmp .ge 37, 3) := by decide +kernel
theorem dX12_goOn_82 : decode cX12_goOn 82 = .ok (.aload_n 0, 1) := by decide +kernel
theorem dX12_goOn_83 : decode cX12_goOn 83 = .ok (.iload_n 1, 1) := by decide +kernel
theorem dX12_goOn_84 : decode cX12_goOn 84 = .ok (.iload_n 2, 1) := by decide +kernel
theorem dX12_goOn_85 : decode cX12_goOn 85 = .ok (.invokevirtual 254, 3) := by decide +kernel
theorem dX12_goOn_88 : decode cX12_goOn 88 = .ok (.istore_n 3, 1) := by decide +kernel
theorem dX12_goOn_89 : decode cX12_goOn 89 = .ok (.aload_n 0, 1) := by decide +kernel
theorem dX12_goOn_90 : decode cX12_goOn 90 = .ok (.aload_n 0, 1) := by decide +kernel
theorem dX12_goOn_91 : decode cX12_goOn 91 = .ok (.getfield 242, 3) := by decide +kernel
theorem dX12_goOn_94 : decode cX12_goOn 94 = .ok (.iload_n 3, 1) := by decide +kernel
theorem dX12_goOn_95 : decode cX12_goOn 95 = .ok (.invokestatic 232, 3) := by decide +kernel
theorem dX12_goOn_98 : decode cX12_goOn 98 = .ok (.putfield 242, 3) := by decide +kernel
theorem dX12_goOn_101 : decode cX12_goOn 101 = .ok (.aload_n 0, 1) := by decide +kernel
theorem dX12_goOn_102 : decode cX12_goOn 102 = .ok (.aload_n 0, 1) := by decide +kernel
theorem dX12_goOn_103 : decode cX12_goOn 103 = .ok (.getfield 248, 3) := by decide +kernel
theorem dX12_goOn_106 : decode cX12_goOn 106 = .ok (.iload_n 3, 1) := by decide +kernel
theorem dX12_goOn_107 : decode cX12_goOn 107 = .ok (.invokestatic 257, 3) := by decide +kernel
theorem dX12_goOn_110 : decode cX12_goOn 110 = .ok (.putfield 248, 3) := by decide +kernel
theorem dX12_goOn_113 : decode cX12_goOn 113 = .ok (.goto 100, 3) := by decide +kernel
theorem dX12_goOn_116 : decode cX12_goOn 116 = .ok (.aload_n 0, 1) := by decide +kernel
theorem dX12_goOn_117 : decode cX12_goOn 117 = .ok (.getfield 236, 3) := by decide +kernel
theorem dX12_goOn_120 : decode cX12_goOn 120 = .ok (.ifCond .le 70, 3) := by decide +kernel
theorem dX12_goOn_123 : decode cX12_goOn 123 = .ok (.aload_n 0, 1) := by decide +kernel
theorem dX12_goOn_124 : decode cX12_goOn 124 = .ok (.dup, 1) := by decide +kernel
theorem dX12_goOn_125 : decode cX12_goOn 125 = .ok (.getfield 236, 3) := by decide +kernel
theorem dX12_goOn_128 : decode cX12_goOn 128 = .ok (.iconst 1, 1) := by decide +kernel
theorem dX12_goOn_129 : decode cX12_goOn 129 = .ok (.isub, 1) := by decide +kernel
theorem dX12_goOn_130 : decode cX12_goOn 130 = .ok (.putfield 236, 3) := by decide +kernel
theorem dX12_goOn_133 : decode cX12_goOn 133 = .ok (.aload_n 0, 1) := by decide +kernel
theorem dX12_goOn_134 : decode cX12_goOn 134 = .ok (.iload_n 1, 1) := by decide +kernel
theorem dX12_goOn_135 : decode cX12_goOn 135 = .ok (.aload_n 0, 1) := by decide +kernel
theorem dX12_goOn_136 : decode cX12_goOn 136 = .ok (.getfield 49, 3) := by decide +kernel
theorem dX12_goOn_139 : decode cX12_goOn 139 = .ok (.aload_n 0, 1) := by decide +kernel
theorem dX12_goOn_140 : decode cX12_goOn 140 = .ok (.getfield 236, 3) := by decide +kernel
theorem dX12_goOn_143 : decode cX12_goOn 143 = .ok (.iaload, 1) := by decide +kernel
theorem dX12_goOn_144 : decode cX12_goOn 144 = .ok (.aload_n 0, 1) := by decide +kernel
theorem dX12_goOn_145 : decode cX12_goOn 145 = .ok (.getfield 248, 3) := by decide +kernel
theorem dX12_goOn_148 : decode cX12_goOn 148 = .ok (.iload_n 2, 1) := by decide +kernel
theorem dX12_goOn_149 : decode cX12_goOn 149 = .ok (.invokevirtual 260, 3) := by decide +kernel
theorem dX12_goOn_152 : decode cX12_goOn 152 = .ok (.istore_n 3, 1) := by decide +kernel
theorem dX12_goOn_153 : decode cX12_goOn 153 = .ok (.aload_n 0, 1) := by decide +kernel
theorem dX12_goOn_154 : decode cX12_goOn 154 = .ok (.aload_n 0, 1) := by decide +kernel
theorem dX12_goOn_155 : decode cX12_goOn 155 = .ok (.getfield 43, 3) := by decide +kernel
theorem dX12_goOn_158 : decode cX12_goOn 158 = .ok (.aload_n 0, 1) := by decide +kernel
theorem dX12_goOn_159 : decode cX12_goOn 159 = .ok (.getfield 236, 3) := by decide +kernel
theorem dX12_goOn_162 : decode cX12_goOn 162 = .ok (.iaload, 1) := by decide +kernel
theorem dX12_goOn_163 : decode cX12_goOn 163 = .ok (.iload_n 3, 1) := by decide +kernel
theorem dX12_goOn_164 : decode cX12_goOn 164 = .ok (.invokestatic 232, 3) := by decide +kernel
theorem dX12_goOn_167 : decode cX12_goOn 167 = .ok (.putfield 242, 3) := by decide +kernel
theorem dX12_goOn_170 : decode cX12_goOn 170 = .ok (.aload_n 0, 1) := by decide +kernel
theorem dX12_goOn_171 : decode cX12_goOn 171 = .ok (.aload_n 0, 1) := by decide +kernel
theorem dX12_goOn_172 : decode cX12_goOn 172 = .ok (.getfield 46, 3) := by decide +kernel
theorem dX12_goOn_175 : decode cX12_goOn 175 = .ok (.aload_n 0, 1) := by decide +kernel
theorem dX12_goOn_176 : decode cX12_goOn 176 = .ok (.getfield 236, 3) := by decide +kernel
theorem dX12_goOn_179 : decode cX12_goOn 179 = .ok (.iaload, 1) := by decide +kernel
theorem dX12_goOn_180 : decode cX12_goOn 180 = .ok (.iload_n 3, 1) := by decide +kernel
theorem dX12_goOn_181 : decode cX12_goOn 181 = .ok (.invokestatic 257, 3) := by decide +kernel
theorem dX12_goOn_184 : decode cX12_goOn 184 = .ok (.putfield 248, 3) := by decide +kernel
theorem dX12_goOn_187 : decode cX12_goOn 187 = .ok (.goto 26, 3) := by decide +kernel
theorem dX12_goOn_190 : decode cX12_goOn 190 = .ok (.aload_n 0, 1) := by decide +kernel
theorem dX12_goOn_191 : decode cX12_goOn 191 = .ok (.aload_n 0, 1) := by decide +kernel
theorem dX12_goOn_192 : decode cX12_goOn 192 = .ok (.iload_n 1, 1) := by decide +kernel
theorem dX12_goOn_193 : decode cX12_goOn 193 = .ok (.iload_n 2, 1) := by decide +kernel
theorem dX12_goOn_194 : decode cX12_goOn 194 = .ok (.aload_n 0, 1) := by decide +kernel
theorem dX12_goOn_195 : decode cX12_goOn 195 = .ok (.getfield 242, 3) := by decide +kernel
theorem dX12_goOn_198 : decode cX12_goOn 198 = .ok (.invokevirtual 263, 3) := by decide +kernel
theorem dX12_goOn_201 : decode cX12_goOn 201 = .ok (.putfield 242, 3) := by decide +kernel
theorem dX12_goOn_204 : decode cX12_goOn 204 = .ok (.aload_n 0, 1) := by decide +kernel
theorem dX12_goOn_205 : decode cX12_goOn 205 = .ok (.aload_n 0, 1) := by decide +kernel
theorem dX12_goOn_206 : decode cX12_goOn 206 = .ok (.iload_n 1, 1) := by decide +kernel
theorem dX12_goOn_207 : decode cX12_goOn 207 = .ok (.invokevirtual 245, 3) := by decide +kernel
theorem dX12_goOn_210 : decode cX12_goOn 210 = .ok (.putfield 248, 3) := by decide +kernel
theorem dX12_goOn_213 : decode cX12_goOn 213 = .ok (.return_, 1) := by decide +kernel
set_option maxRecDepth 20000 in
theorem ggX12_goRow_X12_beginRow : GoodIn wsX12_goRow wsX12_beginRow := goodIn_r _ [6, 7, 8, 9, 10, 11, 5, 12, 13, 14, 15, 16, 17, 18, 19, 20, 63, 64, 65, 66, 67, 68, 69, 70, 71, 72, 73, 74, 75, 76, 77, 78, 79, 80, 81, 82, 83, 84, 85, 86, 87, 88, 89, 90, 91, 92, 93, 94, 95, 96, 97, 98, 99, 100, 101, 102, 103, 104, 105, 106, 107, 108, 109, 110, 111, 112, 113] (by decide +kernel) (by decide +kernel)
set_option maxRecDepth 20000 in
theorem gX12_goRow_X12_beginRow : GoodIn wsX12_goRow (wsV RX12 266 RX12 yX12_beginRow wsX12_beginRow) := goodIn_app (goodIn_of _ (by decide +kernel)) ggX12_goRow_X12_beginRow
set_option maxRecDepth 20000 in
theorem ggX12_goRow_X12_goOn : GoodIn wsX12_goRow wsX12_goOn := goodIn_r _ [24, 25, 7, 8, 26, 9, 27, 28, 29, 30, 5, 31, 32, 18, 19, 20, 33, 34, 35, 13, 14, 15, 16, 17, 36, 37, 38, 39, 40, 41, 42, 43, 44, 45, 46, 47, 48, 49, 50, 51, 52, 53, 54, 55, 56, 57, 58, 59, 60, 61, 62, 63, 64, 65, 66, 67, 68, 69, 70, 71, 72, 73, 74, 75, 76, 77, 78, 79, 80, 81, 82, 83, 84, 85, 86, 87, 88, 89, 90, 91, 92, 93, 94, 95, 96, 97, 98, 99, 100, 101, 102, 103, 104, 105, 106, 107, 108, 109, 110, 111, 112, 113] (by decide +kernel) (by decide +kernel)
set_option maxRecDepth 20000 in
theorem gX12_goRow_X12_goOn : GoodIn wsX12_goRow (wsV RX12 270 RX12 yX12_goOn wsX12_goOn) := goodIn_app (goodIn_of _ (by decide +kernel)) ggX12_goRow_X12_goOn
theorem dX12_goRow_0 : decode cX12_goRow 0 = .ok (.aload_n 0, 1) := by decide +kernel
theorem dX12_goRow_1 : decode cX12_goRow 1 = .ok (.iload_n 1, 1) := by decide +kernel
theorem dX12_goRow_2 : decode cX12_goRow 2 = .ok (.invokevirtual 266, 3) := by decide +kernel
theorem dX12_goRow_5 : decode cX12_goRow 5 = .ok (.iconst 0, 1) := by decide +kernel
theorem dX12_goRow_6 : decode cX12_goRow 6 = .ok (.istore_n 3, 1) := by decide +kernel
theorem dX12_goRow_7 : decode cX12_goRow 7 = .ok (.iload_n 3, 1) := by decide +kernel
theorem dX12_goRow_8 : decode cX12_goRow 8 = .ok (.iload_n 2, 1) := by decide +kernel
theorem dX12_goRow_9 : decode cX12_goRow 9 = .ok (.if_icmp .ge 20, 3) := by decide +kernel
theorem dX12_goRow_12 : decode cX12_goRow 12 = .ok (.aload_n 0, 1) := by decide +kernel
theorem dX12_goRow_13 : decode cX12_goRow 13 = .ok (.iload_n 1, 1) := by decide +kernel
theorem dX12_goRow_14 : decode cX12_goRow 14 = .ok (.aload_n 0, 1) := by decide +kernel
theorem dX12_goRow_15 : decode cX12_goRow 15 = .ok (.getfield 34, 3) := by decide +kernel
theorem dX12_goRow_18 : decode cX12_goRow 18 = .ok (.iload_n 3, 1) := by decide +kernel
theorem dX12_goRow_19 : decode cX12_goRow 19 = .ok (.iaload, 1) := by decide +kernel
theorem dX12_goRow_20 : decode cX12_goRow 20 = .ok (.invokevirtual 270, 3) := by decide +kernel
theorem dX12_goRow_23 : decode cX12_goRow 23 = .ok (.iinc 3 1, 3) := by decide +kernel
theorem dX12_goRow_26 : decode cX12_goRow 26 = .ok (.goto (-19), 3) := by decide +kernel
theorem dX12_goRow_29 : decode cX12_goRow 29 = .ok (.return_, 1) := by decide +kernel
theorem dX12_doesTake_0 : decode cX12_doesTake 0 = .ok (.iload_n 2, 1) := by decide +kernel
theorem dX12_doesTake_1 : decode cX12_doesTake 1 = .ok (.iconst 3, 1) := by decide +kernel
theorem dX12_doesTake_2 : decode cX12_doesTake 2 = .ok (.iload_n 1, 1) := by decide +kernel
theorem dX12_doesTake_3 : decode cX12_doesTake 3 = .ok (.imul, 1) := by decide +kernel
theorem dX12_doesTake_4 : decode cX12_doesTake 4 = .ok (.ishr, 1) := by decide +kernel
theorem dX12_doesTake_5 : decode cX12_doesTake 5 = .ok (.aload_n 0, 1) := by decide +kernel
theorem dX12_doesTake_6 : decode cX12_doesTake 6 = .ok (.getfield 16, 3) := by decide +kernel
theorem dX12_doesTake_9 : decode cX12_doesTake 9 = .ok (.iload_n 1, 1) := by decide +kernel
theorem dX12_doesTake_10 : decode cX12_doesTake 10 = .ok (.iaload, 1) := by decide +kernel
theorem dX12_doesTake_11 : decode cX12_doesTake 11 = .ok (.iand, 1) := by decide +kernel
theorem dX12_doesTake_12 : decode cX12_doesTake 12 = .ok (.ifCond .eq 7, 3) := by decide +kernel
theorem dX12_doesTake_15 : decode cX12_doesTake 15 = .ok (.iconst 1, 1) := by decide +kernel
theorem dX12_doesTake_16 : decode cX12_doesTake 16 = .ok (.goto 4, 3) := by decide +kernel
theorem dX12_doesTake_19 : decode cX12_doesTake 19 = .ok (.iconst 0, 1) := by decide +kernel
theorem dX12_doesTake_20 : decode cX12_doesTake 20 = .ok (.ireturn, 1) := by decide +kernel
set_option maxRecDepth 20000 in
theorem ggX12_countRuns_X12_toItself : GoodIn wsX12_countRuns wsX12_toItself := goodIn_r _ [14, 5, 48, 49, 50, 51, 52, 53, 54, 55, 56, 57, 58, 59, 60, 61, 62, 63, 64, 65, 66, 67, 68, 69, 70, 71, 72, 73, 74, 75, 76, 77, 78, 79, 80, 81, 82, 83, 84, 85, 86, 87, 88, 89, 90, 91, 92, 93, 94, 95, 96, 97, 98] (by decide +kernel) (by decide +kernel)
set_option maxRecDepth 20000 in
theorem gX12_countRuns_X12_toItself : GoodIn wsX12_countRuns (wsV RX12 274 RX12 yX12_toItself wsX12_toItself) := goodIn_app (goodIn_of _ (by decide +kernel)) ggX12_countRuns_X12_toItself
set_option maxRecDepth 20000 in
theorem ggX12_countRuns_X12_putAt : GoodIn wsX12_countRuns wsX12_putAt := goodIn_r _ [17] (by decide +kernel) (by decide +kernel)
set_option maxRecDepth 20000 in
theorem gX12_countRuns_X12_putAt : GoodIn wsX12_countRuns (va_wsS RX12 194 yX12_putAt wsX12_putAt) := goodIn_app (goodIn_of _ (by decide +kernel)) ggX12_countRuns_X12_putAt
set_option maxRecDepth 20000 in
theorem ggX12_countRuns_X12_stepRuns : GoodIn wsX12_countRuns wsX12_stepRuns := goodIn_r _ [21, 1, 6, 22, 48, 49, 50, 51, 52, 53, 54, 55, 56, 57, 58, 59, 60, 61, 62, 63, 64, 65, 66, 67, 68, 69, 70, 71, 72, 73, 74, 75, 76, 77, 78, 79, 80, 81, 82, 83, 84, 85, 86, 87, 88, 89, 90, 91, 92, 93, 94, 95, 96, 97, 98] (by decide +kernel) (by decide +kernel)
set_option maxRecDepth 20000 in
theorem gX12_countRuns_X12_stepRuns : GoodIn wsX12_countRuns (wsV RX12 277 RX12 yX12_stepRuns wsX12_stepRuns) := goodIn_app (goodIn_of _ (by decide +kernel)) ggX12_countRuns_X12_stepRuns
set_option maxRecDepth 20000 in
theorem ggX12_countRuns_X12_goAt : GoodIn wsX12_countRuns wsX12_goAt := goodIn_r _ [25] (by decide +kernel) (by decide +kernel)
set_option maxRecDepth 20000 in
theorem gX12_countRuns_X12_goAt : GoodIn wsX12_countRuns (va_wsS RX12 198 yX12_goAt wsX12_goAt) := goodIn_app (goodIn_of _ (by decide +kernel)) ggX12_countRuns_X12_goAt
set_option maxRecDepth 20000 in
theorem ggX12_countRuns_X12_stepWays : GoodIn wsX12_countRuns wsX12_stepWays := goodIn_r _ [29, 5, 6, 22, 48, 49, 50, 51, 52, 53, 54, 55, 56, 57, 58, 59, 60, 61, 62, 63, 64, 65, 66, 67, 68, 69, 70, 71, 72, 73, 74, 75, 76, 77, 78, 79, 80, 81, 82, 83, 84, 85, 86, 87, 88, 89, 90, 91, 92, 93, 94, 95, 96, 97, 98] (by decide +kernel) (by decide +kernel)
set_option maxRecDepth 20000 in
theorem gX12_countRuns_X12_stepWays : GoodIn wsX12_countRuns (wsV RX12 280 RX12 yX12_stepWays wsX12_stepWays) := goodIn_app (goodIn_of _ (by decide +kernel)) ggX12_countRuns_X12_stepWays
set_option maxRecDepth 20000 in
theorem ggX12_countRuns_X12_letterOpen : GoodIn wsX12_countRuns wsX12_letterOpen := goodIn_r _ [33, 2, 34, 35, 36, 37, 13, 38, 39, 48, 49, 50, 51, 52, 53, 54, 55, 56, 57, 58, 59, 60, 61, 62, 63, 64, 65, 66, 67, 68, 69, 70, 71, 72, 73, 74, 75, 76, 77, 78, 79, 80, 81, 82, 83, 84, 85, 86, 87, 88, 89, 90, 91, 92, 93, 94, 95, 96, 97, 98] (by decide +kernel) (by decide +kernel)
set_option maxRecDepth 20000 in
theorem gX12_countRuns_X12_letterOpen : GoodIn wsX12_countRuns (wsV RX12 283 RX12 yX12_letterOpen wsX12_letterOpen) := goodIn_app (goodIn_of _ (by decide +kernel)) ggX12_countRuns_X12_letterOpen
set_option maxRecDepth 20000 in
theorem ggX12_countRuns_X12_waysOver : GoodIn wsX12_countRuns wsX12_waysOver := goodIn_r _ [43, 44, 7, 9, 5, 22, 15, 16, 13, 17, 45, 46, 47, 48, 49, 50, 51, 52, 53, 54, 55, 56, 57, 58, 59, 60, 61, 62, 63, 64, 65, 66, 67, 68, 69, 70, 71, 72, 73, 74, 75, 76, 77, 78, 79, 80, 81, 82, 83, 84, 85, 86, 87, 88, 89, 90, 91, 92, 93, 94, 95, 96, 97, 98] (by decide +kernel) (by decide +kernel)
set_option maxRecDepth 20000 in
theorem gX12_countRuns_X12_waysOver : GoodIn wsX12_countRuns (wsV RX12 286 RX12 yX12_waysOver wsX12_waysOver) := goodIn_app (goodIn_of _ (by decide +kernel)) ggX12_countRuns_X12_waysOver
set_option maxRecDepth 20000 in
theorem ggX12_countRuns_X12_closeAt : GoodIn wsX12_countRuns wsX12_closeAt := goodIn_r _ [47] (by decide +kernel) (by decide +kernel)
set_option maxRecDepth 20000 in
theorem gX12_countRuns_X12_closeAt : GoodIn wsX12_countRuns (va_wsS RX12 202 yX12_closeAt wsX12_closeAt) := goodIn_app (goodIn_of _ (by decide +kernel)) ggX12_countRuns_X12_closeAt
theorem dX12_countRuns_0 : decode cX12_countRuns 0 = .ok (.iconst 0, 1) := by decide +kernel
theorem dX12_countRuns_1 : decode cX12_countRuns 1 = .ok (.istore_n 3, 1) := by decide +kernel
theorem dX12_countRuns_2 : decode cX12_countRuns 2 = .ok (.iconst 0, 1) := by decide +kernel
theorem dX12_countRuns_3 : decode cX12_countRuns 3 = .ok (.istore 4, 2) := by decide +kernel
theorem dX12_countRuns_5 : decode cX12_countRuns 5 = .ok (.iload 4, 2) := by decide +kernel
theorem dX12_countRuns_7 : decode cX12_countRuns 7 = .ok (.iconst 3, 1) := by decide +kernel
theorem dX12_countRuns_8 : decode cX12_countRuns 8 = .ok (.if_icmp .ge 26, 3) := by decide +kernel
theorem dX12_countRuns_11 : decode cX12_countRuns 11 = .ok (.aload_n 0, 1) := by decide +kernel
theorem dX12_countRuns_12 : decode cX12_countRuns 12 = .ok (.getfield 52, 3) := by decide +kernel
theorem dX12_countRuns_15 : decode cX12_countRuns 15 = .ok (.iload 4, 2) := by decide +kernel
theorem dX12_countRuns_17 : decode cX12_countRuns 17 = .ok (.iload 4, 2) := by decide +kernel
theorem dX12_countRuns_19 : decode cX12_countRuns 19 = .ok (.ifCond .ne 7, 3) := by decide +kernel
theorem dX12_countRuns_22 : decode cX12_countRuns 22 = .ok (.lconst 1, 1) := by decide +kernel
theorem dX12_countRuns_23 : decode cX12_countRuns 23 = .ok (.goto 4, 3) := by decide +kernel
theorem dX12_countRuns_26 : decode cX12_countRuns 26 = .ok (.lconst 0, 1) := by decide +kernel
theorem dX12_countRuns_27 : decode cX12_countRuns 27 = .ok (.lastore, 1) := by decide +kernel
theorem dX12_countRuns_28 : decode cX12_countRuns 28 = .ok (.iinc 4 1, 3) := by decide +kernel
theorem dX12_countRuns_31 : decode cX12_countRuns 31 = .ok (.goto (-26), 3) := by decide +kernel
theorem dX12_countRuns_34 : decode cX12_countRuns 34 = .ok (.aload_n 0, 1) := by decide +kernel
theorem dX12_countRuns_35 : decode cX12_countRuns 35 = .ok (.invokevirtual 274, 3) := by decide +kernel
theorem dX12_countRuns_38 : decode cX12_countRuns 38 = .ok (.iconst 0, 1) := by decide +kernel
theorem dX12_countRuns_39 : decode cX12_countRuns 39 = .ok (.istore 4, 2) := by decide +kernel
theorem dX12_countRuns_41 : decode cX12_countRuns 41 = .ok (.iload 4, 2) := by decide +kernel
theorem dX12_countRuns_43 : decode cX12_countRuns 43 = .ok (.iload_n 2, 1) := by decide +kernel
theorem dX12_countRuns_44 : decode cX12_countRuns 44 = .ok (.if_icmp .ge 429, 3) := by decide +kernel
theorem dX12_countRuns_47 : decode cX12_countRuns 47 = .ok (.aload_n 0, 1) := by decide +kernel
theorem dX12_countRuns_48 : decode cX12_countRuns 48 = .ok (.getfield 34, 3) := by decide +kernel
theorem dX12_countRuns_51 : decode cX12_countRuns 51 = .ok (.iload 4, 2) := by decide +kernel
theorem dX12_countRuns_53 : decode cX12_countRuns 53 = .ok (.iaload, 1) := by decide +kernel
theorem dX12_countRuns_54 : decode cX12_countRuns 54 = .ok (.istore 5, 2) := by decide +kernel
theorem dX12_countRuns_56 : decode cX12_countRuns 56 = .ok (.iload 5, 2) := by decide +kernel
theorem dX12_countRuns_58 : decode cX12_countRuns 58 = .ok (.iconst 2, 1) := by decide +kernel
theorem dX12_countRuns_59 : decode cX12_countRuns 59 = .ok (.if_icmp .ge 156, 3) := by decide +kernel
theorem dX12_countRuns_62 : decode cX12_countRuns 62 = .ok (.iconst 0, 1) := by decide +kernel
theorem dX12_countRuns_63 : decode cX12_countRuns 63 = .ok (.istore 6, 2) := by decide +kernel
theorem dX12_countRuns_65 : decode cX12_countRuns 65 = .ok (.iload 6, 2) := by decide +kernel
theorem dX12_countRuns_67 : decode cX12_countRuns 67 = .ok (.iconst 3, 1) := by decide +kernel
theorem dX12_countRuns_68 : decode cX12_countRuns 68 = .ok (.if_icmp .ge 27, 3) := by decide +kernel
theorem dX12_countRuns_71 : decode cX12_countRuns 71 = .ok (.aload_n 0, 1) := by decide +kernel
theorem dX12_countRuns_72 : decode cX12_countRuns 72 = .ok (.getfield 59, 3) := by decide +kernel
theorem dX12_countRuns_75 : decode cX12_countRuns 75 = .ok (.iconst 3, 1) := by decide +kernel
theorem dX12_countRuns_76 : decode cX12_countRuns 76 = .ok (.iload_n 3, 1) := by decide +kernel
theorem dX12_countRuns_77 : decode cX12_countRuns 77 = .ok (.imul, 1) := by decide +kernel
theorem dX12_countRuns_78 : decode cX12_countRuns 78 = .ok (.iload 6, 2) := by decide +kernel
theorem dX12_countRuns_80 : decode cX12_countRuns 80 = .ok (.iadd, 1) := by decide +kernel
theorem dX12_countRuns_81 : decode cX12_countRuns 81 = .ok (.aload_n 0, 1) := by decide +kernel
theorem dX12_countRuns_82 : decode cX12_countRuns 82 = .ok (.getfield 52, 3) := by decide +kernel
theorem dX12_countRuns_85 : decode cX12_countRuns 85 = .ok (.iload 6, 2) := by decide +kernel
theorem dX12_countRuns_87 : decode cX12_countRuns 87 = .ok (.laload, 1) := by decide +kernel
theorem dX12_countRuns_88 : decode cX12_countRuns 88 = .ok (.lastore, 1) := by decide +kernel
theorem dX12_countRuns_89 : decode cX12_countRuns 89 = .ok (.iinc 6 1, 3) := by decide +kernel
theorem dX12_countRuns_92 : decode cX12_countRuns 92 = .ok (.goto (-27), 3) := by decide +kernel
theorem dX12_countRuns_95 : decode cX12_countRuns 95 = .ok (.iconst 0, 1) := by decide +kernel
theorem dX12_countRuns_96 : decode cX12_countRuns 96 = .ok (.istore 6, 2) := by decide +kernel
theorem dX12_countRuns_98 : decode cX12_countRuns 98 = .ok (.iload 6, 2) := by decide +kernel
theorem dX12_countRuns_100 : decode cX12_countRuns 100 = .ok (.bipush 9, 2) := by decide +kernel
theorem dX12_countRuns_102 : decode cX12_countRuns 102 = .ok (.if_icmp .ge 28, 3) := by decide +kernel
theorem dX12_countRuns_105 : decode cX12_countRuns 105 = .ok (.aload_n 0, 1) := by decide +kernel
theorem dX12_countRuns_106 : decode cX12_countRuns 106 = .ok (.getfield 62, 3) := by decide +kernel
theorem dX12_countRuns_109 : decode cX12_countRuns 109 = .ok (.bipush 9, 2) := by decide +kernel
theorem dX12_countRuns_111 : decode cX12_countRuns 111 = .ok (.iload_n 3, 1) := by decide +kernel
theorem dX12_countRuns_112 : decode cX12_countRuns 112 = .ok (.imul, 1) := by decide +kernel
theorem dX12_countRuns_113 : decode cX12_countRuns 113 = .ok (.iload 6, 2) := by decide +kernel
theorem dX12_countRuns_115 : decode cX12_countRuns 115 = .ok (.iadd, 1) := by decide +kernel
theorem dX12_countRuns_116 : decode cX12_countRuns 116 = .ok (.aload_n 0, 1) := by decide +kernel
theorem dX12_countRuns_117 : decode cX12_countRuns 117 = .ok (.getfield 56, 3) := by decide +kernel
theorem dX12_countRuns_120 : decode cX12_countRuns 120 = .ok (.iload 6, 2) := by decide +kernel
theorem dX12_countRuns_122 : decode cX12_countRuns 122 = .ok (.laload, 1) := by decide +kernel
theorem dX12_countRuns_123 : decode cX12_countRuns 123 = .ok (.lastore, 1) := by decide +kernel
theorem dX12_countRuns_124 : decode cX12_countRuns 124 = .ok (.iinc 6 1, 3) := by decide +kernel
theorem dX12_countRuns_127 : decode cX12_countRuns 127 = .ok (.goto (-29), 3) := by decide +kernel
theorem dX12_countRuns_130 : decode cX12_countRuns 130 = .ok (.iinc 3 1, 3) := by decide +kernel
theorem dX12_countRuns_133 : decode cX12_countRuns 133 = .ok (.iconst 0, 1) := by decide +kernel
theorem dX12_countRuns_134 : decode cX12_countRuns 134 = .ok (.istore 6, 2) := by decide +kernel
theorem dX12_countRuns_136 : decode cX12_countRuns 136 = .ok (.iload 6, 2) := by decide +kernel
theorem dX12_countRuns_138 : decode cX12_countRuns 138 = .ok (.bipush 9, 2) := by decide +kernel
theorem dX12_countRuns_140 : decode cX12_countRuns 140 = .ok (.if_icmp .ge 64, 3) := by decide +kernel
theorem dX12_countRuns_143 : decode cX12_countRuns 143 = .ok (.aload_n 0, 1) := by decide +kernel
theorem dX12_countRuns_144 : decode cX12_countRuns 144 = .ok (.getfield 65, 3) := by decide +kernel
theorem dX12_countRuns_147 : decode cX12_countRuns 147 = .ok (.iload 6, 2) := by decide +kernel
theorem dX12_countRuns_149 : decode cX12_countRuns 149 = .ok (.aload_n 0, 1) := by decide +kernel
theorem dX12_countRuns_150 : decode cX12_countRuns 150 = .ok (.getfield 19, 3) := by decide +kernel
theorem dX12_countRuns_153 : decode cX12_countRuns 153 = .ok (.iload_n 1, 1) := by decide +kernel
theorem dX12_countRuns_154 : decode cX12_countRuns 154 = .ok (.iload 5, 2) := by decide +kernel
theorem dX12_countRuns_156 : decode cX12_countRuns 156 = .ok (.iload 6, 2) := by decide +kernel
theorem dX12_countRuns_158 : decode cX12_countRuns 158 = .ok (.iconst 3, 1) := by decide +kernel
theorem dX12_countRuns_159 : decode cX12_countRuns 159 = .ok (.idiv, 1) := by decide +kernel
theorem dX12_countRuns_160 : decode cX12_countRuns 160 = .ok (.iconst 0, 1) := by decide +kernel
theorem dX12_countRuns_161 : decode cX12_countRuns 161 = .ok (.invokestatic 194, 3) := by decide +kernel
theorem dX12_countRuns_164 : decode cX12_countRuns 164 = .ok (.iaload, 1) := by decide +kernel
theorem dX12_countRuns_165 : decode cX12_countRuns 165 = .ok (.iload 6, 2) := by decide +kernel
theorem dX12_countRuns_167 : decode cX12_countRuns 167 = .ok (.iconst 3, 1) := by decide +kernel
theorem dX12_countRuns_168 : decode cX12_countRuns 168 = .ok (.irem, 1) := by decide +kernel
theorem dX12_countRuns_169 : decode cX12_countRuns 169 = .ok (.ishr, 1) := by decide +kernel
theorem dX12_countRuns_170 : decode cX12_countRuns 170 = .ok (.iconst 1, 1) := by decide +kernel
theorem dX12_countRuns_171 : decode cX12_countRuns 171 = .ok (.iand, 1) := by decide +kernel
theorem dX12_countRuns_172 : decode cX12_countRuns 172 = .ok (.aload_n 0, 1) := by decide +kernel
theorem dX12_countRuns_173 : decode cX12_countRuns 173 = .ok (.getfield 19, 3) := by decide +kernel
theorem dX12_countRuns_176 : decode cX12_countRuns 176 = .ok (.iload_n 1, 1) := by decide +kernel
theorem dX12_countRuns_177 : decode cX12_countRuns 177 = .ok (.iload 5, 2) := by decide +kernel
theorem dX12_countRuns_179 : decode cX12_countRuns 179 = .ok (.iload 6, 2) := by decide +kernel
theorem dX12_countRuns_181 : decode cX12_countRuns 181 = .ok (.iconst 3, 1) := by decide +kernel
theorem dX12_countRuns_182 : decode cX12_countRuns 182 = .ok (.idiv, 1) := by decide +kernel
theorem dX12_countRuns_183 : decode cX12_countRuns 183 = .ok (.iconst 1, 1) := by decide +kernel
theorem dX12_countRuns_184 : decode cX12_countRuns 184 = .ok (.invokestatic 194, 3) := by decide +kernel
theorem dX12_countRuns_187 : decode cX12_countRuns 187 = .ok (.iaload, 1) := by decide +kernel
theorem dX12_countRuns_188 : decode cX12_countRuns 188 = .ok (.iload 6, 2) := by decide +kernel
theorem dX12_countRuns_190 : decode cX12_countRuns 190 = .ok (.iconst 3, 1) := by decide +kernel
theorem dX12_countRuns_191 : decode cX12_countRuns 191 = .ok (.irem, 1) := by decide +kernel
theorem dX12_countRuns_192 : decode cX12_countRuns 192 = .ok (.ishr, 1) := by decide +kernel
theorem dX12_countRuns_193 : decode cX12_countRuns 193 = .ok (.iconst 1, 1) := by decide +kernel
theorem dX12_countRuns_194 : decode cX12_countRuns 194 = .ok (.iand, 1) := by decide +kernel
theorem dX12_countRuns_195 : decode cX12_countRuns 195 = .ok (.iadd, 1) := by decide +kernel
theorem dX12_countRuns_196 : decode cX12_countRuns 196 = .ok (.i2l, 1) := by decide +kernel
theorem dX12_countRuns_197 : decode cX12_countRuns 197 = .ok (.lastore, 1) := by decide +kernel
theorem dX12_countRuns_198 : decode cX12_countRuns 198 = .ok (.iinc 6 1, 3) := by decide +kernel
theorem dX12_countRuns_201 : decode cX12_countRuns 201 = .ok (.goto (-65), 3) := by decide +kernel
theorem dX12_countRuns_204 : decode cX12_countRuns 204 = .ok (.aload_n 0, 1) := by decide +kernel
theorem dX12_countRuns_205 : decode cX12_countRuns 205 = .ok (.invokevirtual 277, 3) := by decide +kernel
theorem dX12_countRuns_208 : decode cX12_countRuns 208 = .ok (.aload_n 0, 1) := by decide +kernel
theorem dX12_countRuns_209 : decode cX12_countRuns 209 = .ok (.invokevirtual 274, 3) := by decide +kernel
theorem dX12_countRuns_212 : decode cX12_countRuns 212 = .ok (.goto 255, 3) := by decide +kernel
theorem dX12_countRuns_215 : decode cX12_countRuns 215 = .ok (.iload 5, 2) := by decide +kernel
theorem dX12_countRuns_217 : decode cX12_countRuns 217 = .ok (.iconst 4, 1) := by decide +kernel
theorem dX12_countRuns_218 : decode cX12_countRuns 218 = .ok (.if_icmp .ge 60, 3) := by decide +kernel
theorem dX12_countRuns_221 : decode cX12_countRuns 221 = .ok (.iconst 0, 1) := by decide +kernel
theorem dX12_countRuns_222 : decode cX12_countRuns 222 = .ok (.istore 6, 2) := by decide +kernel
theorem dX12_countRuns_224 : decode cX12_countRuns 224 = .ok (.iload 6, 2) := by decide +kernel
theorem dX12_countRuns_226 : decode cX12_countRuns 226 = .ok (.bipush 9, 2) := by decide +kernel
theorem dX12_countRuns_228 : decode cX12_countRuns 228 = .ok (.if_icmp .ge 39, 3) := by decide +kernel
theorem dX12_countRuns_231 : decode cX12_countRuns 231 = .ok (.aload_n 0, 1) := by decide +kernel
theorem dX12_countRuns_232 : decode cX12_countRuns 232 = .ok (.getfield 65, 3) := by decide +kernel
theorem dX12_countRuns_235 : decode cX12_countRuns 235 = .ok (.iload 6, 2) := by decide +kernel
theorem dX12_countRuns_237 : decode cX12_countRuns 237 = .ok (.aload_n 0, 1) := by decide +kernel
theorem dX12_countRuns_238 : decode cX12_countRuns 238 = .ok (.getfield 22, 3) := by decide +kernel
theorem dX12_countRuns_241 : decode cX12_countRuns 241 = .ok (.iload_n 1, 1) := by decide +kernel
theorem dX12_countRuns_242 : decode cX12_countRuns 242 = .ok (.iload 5, 2) := by decide +kernel
theorem dX12_countRuns_244 : decode cX12_countRuns 244 = .ok (.iload 6, 2) := by decide +kernel
theorem dX12_countRuns_246 : decode cX12_countRuns 246 = .ok (.iconst 3, 1) := by decide +kernel
theorem dX12_countRuns_247 : decode cX12_countRuns 247 = .ok (.idiv, 1) := by decide +kernel
theorem dX12_countRuns_248 : decode cX12_countRuns 248 = .ok (.invokestatic 198, 3) := by decide +kernel
theorem dX12_countRuns_251 : decode cX12_countRuns 251 = .ok (.iaload, 1) := by decide +kernel
theorem dX12_countRuns_252 : decode cX12_countRuns 252 = .ok (.iload 6, 2) := by decide +kernel
theorem dX12_countRuns_254 : decode cX12_countRuns 254 = .ok (.iconst 3, 1) := by decide +kernel
theorem dX12_countRuns_255 : decode cX12_countRuns 255 = .ok (.irem, 1) := by decide +kernel
theorem dX12_countRuns_256 : decode cX12_countRuns 256 = .ok (.ishr, 1) := by decide +kernel
theorem dX12_countRuns_257 : decode cX12_countRuns 257 = .ok (.iconst 1, 1) := by decide +kernel
theorem dX12_countRuns_258 : decode cX12_countRuns 258 = .ok (.iand, 1) := by decide +kernel
theorem dX12_countRuns_259 : decode cX12_countRuns 259 = .ok (.i2l, 1) := by decide +kernel
theorem dX12_countRuns_260 : decode cX12_countRuns 260 = .ok (.lastore, 1) := by decide +kernel
theorem dX12_countRuns_261 : decode cX12_countRuns 261 = .ok (.iinc 6 1, 3) := by decide +kernel
theorem dX12_countRuns_264 : decode cX12_countRuns 264 = .ok (.goto (-40), 3) := by decide +kernel
theorem dX12_countRuns_267 : decode cX12_countRuns 267 = .ok (.aload_n 0, 1) := by decide +kernel
theorem dX12_countRuns_268 : decode cX12_countRuns 268 = .ok (.invokevirtual 277, 3) := by decide +kernel
theorem dX12_countRuns_271 : decode cX12_countRuns 271 = .ok (.aload_n 0, 1) := by decide +kernel
theorem dX12_countRuns_272 : decode cX12_countRuns 272 = .ok (.invokevirtual 280, 3) := by decide +kernel
theorem dX12_countRuns_275 : decode cX12_countRuns 275 = .ok (.goto 192, 3) := by decide +kernel
theorem dX12_countRuns_278 : decode cX12_countRuns 278 = .ok (.iload_n 3, 1) := by decide +kernel
theorem dX12_countRuns_279 : decode cX12_countRuns 279 = .ok (.ifCond .le 133, 3) := by decide +kernel
theorem dX12_countRuns_282 : decode cX12_countRuns 282 = .ok (.iinc 3 (-1), 3) := by decide +kernel
theorem dX12_countRuns_285 : decode cX12_countRuns 285 = .ok (.aload_n 0, 1) := by decide +kernel
theorem dX12_countRuns_286 : decode cX12_countRuns 286 = .ok (.iload 4, 2) := by decide +kernel
theorem dX12_countRuns_288 : decode cX12_countRuns 288 = .ok (.invokevirtual 283, 3) := by decide +kernel
theorem dX12_countRuns_291 : decode cX12_countRuns 291 = .ok (.istore 6, 2) := by decide +kernel
theorem dX12_countRuns_293 : decode cX12_countRuns 293 = .ok (.iconst 0, 1) := by decide +kernel
theorem dX12_countRuns_294 : decode cX12_countRuns 294 = .ok (.istore 7, 2) := by decide +kernel
theorem dX12_countRuns_296 : decode cX12_countRuns 296 = .ok (.iload 7, 2) := by decide +kernel
theorem dX12_countRuns_298 : decode cX12_countRuns 298 = .ok (.bipush 9, 2) := by decide +kernel
theorem dX12_countRuns_300 : decode cX12_countRuns 300 = .ok (.if_icmp .ge 33, 3) := by decide +kernel
theorem dX12_countRuns_303 : decode cX12_countRuns 303 = .ok (.aload_n 0, 1) := by decide +kernel
theorem dX12_countRuns_304 : decode cX12_countRuns 304 = .ok (.getfield 65, 3) := by decide +kernel
theorem dX12_countRuns_307 : decode cX12_countRuns 307 = .ok (.iload 7, 2) := by decide +kernel
theorem dX12_countRuns_309 : decode cX12_countRuns 309 = .ok (.aload_n 0, 1) := by decide +kernel
theorem dX12_countRuns_310 : decode cX12_countRuns 310 = .ok (.iload_n 1, 1) := by decide +kernel
theorem dX12_countRuns_311 : decode cX12_countRuns 311 = .ok (.iload 6, 2) := by decide +kernel
theorem dX12_countRuns_313 : decode cX12_countRuns 313 = .ok (.iload 7, 2) := by decide +kernel
theorem dX12_countRuns_315 : decode cX12_countRuns 315 = .ok (.iconst 3, 1) := by decide +kernel
theorem dX12_countRuns_316 : decode cX12_countRuns 316 = .ok (.idiv, 1) := by decide +kernel
theorem dX12_countRuns_317 : decode cX12_countRuns 317 = .ok (.iload 5, 2) := by decide +kernel
theorem dX12_countRuns_319 : decode cX12_countRuns 319 = .ok (.iload 7, 2) := by decide +kernel
theorem dX12_countRuns_321 : decode cX12_countRuns 321 = .ok (.iconst 3, 1) := by decide +kernel
theorem dX12_countRuns_322 : decode cX12_countRuns 322 = .ok (.irem, 1) := by decide +kernel
theorem dX12_countRuns_323 : decode cX12_countRuns 323 = .ok (.invokevirtual 286, 3) := by decide +kernel
theorem dX12_countRuns_326 : decode cX12_countRuns 326 = .ok (.lastore, 1) := by decide +kernel
theorem dX12_countRuns_327 : decode cX12_countRuns 327 = .ok (.iinc 7 1, 3) := by decide +kernel
theorem dX12_countRuns_330 : decode cX12_countRuns 330 = .ok (.goto (-34), 3) := by decide +kernel
theorem dX12_countRuns_333 : decode cX12_countRuns 333 = .ok (.iconst 0, 1) := by decide +kernel
theorem dX12_countRuns_334 : decode cX12_countRuns 334 = .ok (.istore 7, 2) := by decide +kernel
theorem dX12_countRuns_336 : decode cX12_countRuns 336 = .ok (.iload 7, 2) := by decide +kernel
theorem dX12_countRuns_338 : decode cX12_countRuns 338 = .ok (.iconst 3, 1) := by decide +kernel
theorem dX12_countRuns_339 : decode cX12_countRuns 339 = .ok (.if_icmp .ge 27, 3) := by decide +kernel
theorem dX12_countRuns_342 : decode cX12_countRuns 342 = .ok (.aload_n 0, 1) := by decide +kernel
theorem dX12_countRuns_343 : decode cX12_countRuns 343 = .ok (.getfield 52, 3) := by decide +kernel
theorem dX12_countRuns_346 : decode cX12_countRuns 346 = .ok (.iload 7, 2) := by decide +kernel
theorem dX12_countRuns_348 : decode cX12_countRuns 348 = .ok (.aload_n 0, 1) := by decide +kernel
theorem dX12_countRuns_349 : decode cX12_countRuns 349 = .ok (.getfield 59, 3) := by decide +kernel
theorem dX12_countRuns_352 : decode cX12_countRuns 352 = .ok (.iconst 3, 1) := by decide +kernel
theorem dX12_countRuns_353 : decode cX12_countRuns 353 = .ok (.iload_n 3, 1) := by decide +kernel
theorem dX12_countRuns_354 : decode cX12_countRuns 354 = .ok (.imul, 1) := by decide +kernel
theorem dX12_countRuns_355 : decode cX12_countRuns 355 = .ok (.iload 7, 2) := by decide +kernel
theorem dX12_countRuns_357 : decode cX12_countRuns 357 = .ok (.iadd, 1) := by decide +kernel
theorem dX12_countRuns_358 : decode cX12_countRuns 358 = .ok (.laload, 1) := by decide +kernel
theorem dX12_countRuns_359 : decode cX12_countRuns 359 = .ok (.lastore, 1) := by decide +kernel
theorem dX12_countRuns_360 : decode cX12_countRuns 360 = .ok (.iinc 7 1, 3) := by decide +kernel
theorem dX12_countRuns_363 : decode cX12_countRuns 363 = .ok (.goto (-27), 3) := by decide +kernel
theorem dX12_countRuns_366 : decode cX12_countRuns 366 = .ok (.iconst 0, 1) := by decide +kernel
theorem dX12_countRuns_367 : decode cX12_countRuns 367 = .ok (.istore 7, 2) := by decide +kernel
theorem dX12_countRuns_369 : decode cX12_countRuns 369 = .ok (.iload 7, 2) := by decide +kernel
theorem dX12_countRuns_371 : decode cX12_countRuns 371 = .ok (.bipush 9, 2) := by decide +kernel
theorem dX12_countRuns_373 : decode cX12_countRuns 373 = .ok (.if_icmp .ge 28, 3) := by decide +kernel
theorem dX12_countRuns_376 : decode cX12_countRuns 376 = .ok (.aload_n 0, 1) := by decide +kernel
theorem dX12_countRuns_377 : decode cX12_countRuns 377 = .ok (.getfield 56, 3) := by decide +kernel
theorem dX12_countRuns_380 : decode cX12_countRuns 380 = .ok (.iload 7, 2) := by decide +kernel
theorem dX12_countRuns_382 : decode cX12_countRuns 382 = .ok (.aload_n 0, 1) := by decide +kernel
theorem dX12_countRuns_383 : decode cX12_countRuns 383 = .ok (.getfield 62, 3) := by decide +kernel
theorem dX12_countRuns_386 : decode cX12_countRuns 386 = .ok (.bipush 9, 2) := by decide +kernel
theorem dX12_countRuns_388 : decode cX12_countRuns 388 = .ok (.iload_n 3, 1) := by decide +kernel
theorem dX12_countRuns_389 : decode cX12_countRuns 389 = .ok (.imul, 1) := by decide +kernel
theorem dX12_countRuns_390 : decode cX12_countRuns 390 = .ok (.iload 7, 2) := by decide +kernel
theorem dX12_countRuns_392 : decode cX12_countRuns 392 = .ok (.iadd, 1) := by decide +kernel
theorem dX12_countRuns_393 : decode cX12_countRuns 393 = .ok (.laload, 1) := by decide +kernel
theorem dX12_countRuns_394 : decode cX12_countRuns 394 = .ok (.lastore, 1) := by decide +kernel
theorem dX12_countRuns_395 : decode cX12_countRuns 395 = .ok (.iinc 7 1, 3) := by decide +kernel
theorem dX12_countRuns_398 : decode cX12_countRuns 398 = .ok (.goto (-29), 3) := by decide +kernel
theorem dX12_countRuns_401 : decode cX12_countRuns 401 = .ok (.aload_n 0, 1) := by decide +kernel
theorem dX12_countRuns_402 : decode cX12_countRuns 402 = .ok (.invokevirtual 277, 3) := by decide +kernel
theorem dX12_countRuns_405 : decode cX12_countRuns 405 = .ok (.aload_n 0, 1) := by decide +kernel
theorem dX12_countRuns_406 : decode cX12_countRuns 406 = .ok (.invokevirtual 280, 3) := by decide +kernel
theorem dX12_countRuns_409 : decode cX12_countRuns 409 = .ok (.goto 58, 3) := by decide +kernel
theorem dX12_countRuns_412 : decode cX12_countRuns 412 = .ok (.iconst 0, 1) := by decide +kernel
theorem dX12_countRuns_413 : decode cX12_countRuns 413 = .ok (.istore 6, 2) := by decide +kernel
theorem dX12_countRuns_415 : decode cX12_countRuns 415 = .ok (.iload 6, 2) := by decide +kernel
theorem dX12_countRuns_417 : decode cX12_countRuns 417 = .ok (.bipush 9, 2) := by decide +kernel
theorem dX12_countRuns_419 : decode cX12_countRuns 419 = .ok (.if_icmp .ge 40, 3) := by decide +kernel
theorem dX12_countRuns_422 : decode cX12_countRuns 422 = .ok (.aload_n 0, 1) := by decide +kernel
theorem dX12_countRuns_423 : decode cX12_countRuns 423 = .ok (.getfield 65, 3) := by decide +kernel
theorem dX12_countRuns_426 : decode cX12_countRuns 426 = .ok (.iload 6, 2) := by decide +kernel
theorem dX12_countRuns_428 : decode cX12_countRuns 428 = .ok (.aload_n 0, 1) := by decide +kernel
theorem dX12_countRuns_429 : decode cX12_countRuns 429 = .ok (.getfield 25, 3) := by decide +kernel
theorem dX12_countRuns_432 : decode cX12_countRuns 432 = .ok (.iload_n 1, 1) := by decide +kernel
theorem dX12_countRuns_433 : decode cX12_countRuns 433 = .ok (.iload 5, 2) := by decide +kernel
theorem dX12_countRuns_435 : decode cX12_countRuns 435 = .ok (.iload 6, 2) := by decide +kernel
theorem dX12_countRuns_437 : decode cX12_countRuns 437 = .ok (.iconst 3, 1) := by decide +kernel
theorem dX12_countRuns_438 : decode cX12_countRuns 438 = .ok (.idiv, 1) := by decide +kernel
theorem dX12_countRuns_439 : decode cX12_countRuns 439 = .ok (.iconst (-1), 1) := by decide +kernel
theorem dX12_countRuns_440 : decode cX12_countRuns 440 = .ok (.invokestatic 202, 3) := by decide +kernel
theorem dX12_countRuns_443 : decode cX12_countRuns 443 = .ok (.iaload, 1) := by decide +kernel
theorem dX12_countRuns_444 : decode cX12_countRuns 444 = .ok (.iload 6, 2) := by decide +kernel
theorem dX12_countRuns_446 : decode cX12_countRuns 446 = .ok (.iconst 3, 1) := by decide +kernel
theorem dX12_countRuns_447 : decode cX12_countRuns 447 = .ok (.irem, 1) := by decide +kernel
theorem dX12_countRuns_448 : decode cX12_countRuns 448 = .ok (.ishr, 1) := by decide +kernel
theorem dX12_countRuns_449 : decode cX12_countRuns 449 = .ok (.iconst 1, 1) := by decide +kernel
theorem dX12_countRuns_450 : decode cX12_countRuns 450 = .ok (.iand, 1) := by decide +kernel
theorem dX12_countRuns_451 : decode cX12_countRuns 451 = .ok (.i2l, 1) := by decide +kernel
theorem dX12_countRuns_452 : decode cX12_countRuns 452 = .ok (.lastore, 1) := by decide +kernel
theorem dX12_countRuns_453 : decode cX12_countRuns 453 = .ok (.iinc 6 1, 3) := by decide +kernel
theorem dX12_countRuns_456 : decode cX12_countRuns 456 = .ok (.goto (-41), 3) := by decide +kernel
theorem dX12_countRuns_459 : decode cX12_countRuns 459 = .ok (.aload_n 0, 1) := by decide +kernel
theorem dX12_countRuns_460 : decode cX12_countRuns 460 = .ok (.invokevirtual 277, 3) := by decide +kernel
theorem dX12_countRuns_463 : decode cX12_countRuns 463 = .ok (.aload_n 0, 1) := by decide +kernel
theorem dX12_countRuns_464 : decode cX12_countRuns 464 = .ok (.invokevirtual 274, 3) := by decide +kernel
theorem dX12_countRuns_467 : decode cX12_countRuns 467 = .ok (.iinc 4 1, 3) := by decide +kernel
theorem dX12_countRuns_470 : decode cX12_countRuns 470 = .ok (.goto (-429), 3) := by decide +kernel
theorem dX12_countRuns_473 : decode cX12_countRuns 473 = .ok (.return_, 1) := by decide +kernel
theorem dX12_toItself_0 : decode cX12_toItself 0 = .ok (.iconst 0, 1) := by decide +kernel
theorem dX12_toItself_1 : decode cX12_toItself 1 = .ok (.istore_n 1, 1) := by decide +kernel
theorem dX12_toItself_2 : decode cX12_toItself 2 = .ok (.iload_n 1, 1) := by decide +kernel
theorem dX12_toItself_3 : decode cX12_toItself 3 = .ok (.bipush 9, 2) := by decide +kernel
theorem dX12_toItself_5 : decode cX12_toItself 5 = .ok (.if_icmp .ge 26, 3) := by decide +kernel
theorem dX12_toItself_8 : decode cX12_toItself 8 = .ok (.aload_n 0, 1) := by decide +kernel
theorem dX12_toItself_9 : decode cX12_toItself 9 = .ok (.getfield 56, 3) := by decide +kernel
theorem dX12_toItself_12 : decode cX12_toItself 12 = .ok (.iload_n 1, 1) := by decide +kernel
theorem dX12_toItself_13 : decode cX12_toItself 13 = .ok (.iload_n 1, 1) := by decide +kernel
theorem dX12_toItself_14 : decode cX12_toItself 14 = .ok (.iconst 4, 1) := by decide +kernel
theorem dX12_toItself_15 : decode cX12_toItself 15 = .ok (.irem, 1) := by decide +kernel
theorem dX12_toItself_16 : decode cX12_toItself 16 = .ok (.ifCond .ne 7, 3) := by decide +kernel
theorem dX12_toItself_19 : decode cX12_toItself 19 = .ok (.lconst 1, 1) := by decide +kernel
theorem dX12_toItself_20 : decode cX12_toItself 20 = .ok (.goto 4, 3) := by decide +kernel
theorem dX12_toItself_23 : decode cX12_toItself 23 = .ok (.lconst 0, 1) := by decide +kernel
theorem dX12_toItself_24 : decode cX12_toItself 24 = .ok (.lastore, 1) := by decide +kernel
theorem dX12_toItself_25 : decode cX12_toItself 25 = .ok (.iinc 1 1, 3) := by decide +kernel
theorem dX12_toItself_28 : decode cX12_toItself 28 = .ok (.goto (-26), 3) := by decide +kernel
theorem dX12_toItself_31 : decode cX12_toItself 31 = .ok (.return_, 1) := by decide +kernel
set_option maxRecDepth 20000 in
theorem ggX12_letterOpen_X12_findPartners : GoodIn wsX12_letterOpen wsX12_findPartners := goodIn_r _ [7, 2, 1, 8, 9, 10, 11, 12, 13, 14, 15, 16, 17, 18, 19, 20, 21, 22, 23, 24, 25, 26, 27, 28, 29, 30, 31, 32, 33, 34, 35, 36, 37, 38, 39, 40, 41, 42, 43, 44, 45, 46, 47, 48, 49, 50, 51, 52, 53, 54, 55, 56, 57, 58, 59] (by decide +kernel) (by decide +kernel)
set_option maxRecDepth 20000 in
theorem gX12_letterOpen_X12_findPartners : GoodIn wsX12_letterOpen (wsV RX12 226 RX12 yX12_findPartners wsX12_findPartners) := goodIn_app (goodIn_of _ (by decide +kernel)) ggX12_letterOpen_X12_findPartners
theorem dX12_letterOpen_0 : decode cX12_letterOpen 0 = .ok (.aload_n 0, 1) := by decide +kernel
theorem dX12_letterOpen_1 : decode cX12_letterOpen 1 = .ok (.iload_n 1, 1) := by decide +kernel
theorem dX12_letterOpen_2 : decode cX12_letterOpen 2 = .ok (.iconst 1, 1) := by decide +kernel
theorem dX12_letterOpen_3 : decode cX12_letterOpen 3 = .ok (.iadd, 1) := by decide +kernel
theorem dX12_letterOpen_4 : decode cX12_letterOpen 4 = .ok (.invokevirtual 226, 3) := by decide +kernel
theorem dX12_letterOpen_7 : decode cX12_letterOpen 7 = .ok (.pop, 1) := by decide +kernel
theorem dX12_letterOpen_8 : decode cX12_letterOpen 8 = .ok (.aload_n 0, 1) := by decide +kernel
theorem dX12_letterOpen_9 : decode cX12_letterOpen 9 = .ok (.getfield 34, 3) := by decide +kernel
theorem dX12_letterOpen_12 : decode cX12_letterOpen 12 = .ok (.aload_n 0, 1) := by decide +kernel
theorem dX12_letterOpen_13 : decode cX12_letterOpen 13 = .ok (.getfield 37, 3) := by decide +kernel
theorem dX12_letterOpen_16 : decode cX12_letterOpen 16 = .ok (.iload_n 1, 1) := by decide +kernel
theorem dX12_letterOpen_17 : decode cX12_letterOpen 17 = .ok (.iaload, 1) := by decide +kernel
theorem dX12_letterOpen_18 : decode cX12_letterOpen 18 = .ok (.iaload, 1) := by decide +kernel
theorem dX12_letterOpen_19 : decode cX12_letterOpen 19 = .ok (.ireturn, 1) := by decide +kernel
set_option maxRecDepth 20000 in
theorem ggX12_waysOver_X12_putAt : GoodIn wsX12_waysOver wsX12_putAt := goodIn_r _ [9] (by decide +kernel) (by decide +kernel)
set_option maxRecDepth 20000 in
theorem gX12_waysOver_X12_putAt : GoodIn wsX12_waysOver (va_wsS RX12 194 yX12_putAt wsX12_putAt) := goodIn_app (goodIn_of _ (by decide +kernel)) ggX12_waysOver_X12_putAt
set_option maxRecDepth 20000 in
theorem ggX12_waysOver_X12_closeAt : GoodIn wsX12_waysOver wsX12_closeAt := goodIn_r _ [12] (by decide +kernel) (by decide +kernel)
set_option maxRecDepth 20000 in
theorem gX12_waysOver_X12_closeAt : GoodIn wsX12_waysOver (va_wsS RX12 202 yX12_closeAt wsX12_closeAt) := goodIn_app (goodIn_of _ (by decide +kernel)) ggX12_waysOver_X12_closeAt
theorem dX12_waysOver_0 : decode cX12_waysOver 0 = .ok (.lconst 0, 1) := by decide +kernel
theorem dX12_waysOver_1 : decode cX12_waysOver 1 = .ok (.lstore 6, 2) := by decide +kernel
theorem dX12_waysOver_3 : decode cX12_waysOver 3 = .ok (.iconst 0, 1) := by decide +kernel
theorem dX12_waysOver_4 : decode cX12_waysOver 4 = .ok (.istore 8, 2) := by decide +kernel
theorem dX12_waysOver_6 : decode cX12_waysOver 6 = .ok (.iload 8, 2) := by decide +kernel
theorem dX12_waysOver_8 : decode cX12_waysOver 8 = .ok (.aload_n 0, 1) := by decide +kernel
theorem dX12_waysOver_9 : decode cX12_waysOver 9 = .ok (.getfield 13, 3) := by decide +kernel
theorem dX12_waysOver_12 : decode cX12_waysOver 12 = .ok (.iload_n 1, 1) := by decide +kernel
theorem dX12_waysOver_13 : decode cX12_waysOver 13 = .ok (.iaload, 1) := by decide +kernel
theorem dX12_waysOver_14 : decode cX12_waysOver 14 = .ok (.if_icmp .ge 103, 3) := by decide +kernel
theorem dX12_waysOver_17 : decode cX12_waysOver 17 = .ok (.iconst 0, 1) := by decide +kernel
theorem dX12_waysOver_18 : decode cX12_waysOver 18 = .ok (.istore 9, 2) := by decide +kernel
theorem dX12_waysOver_20 : decode cX12_waysOver 20 = .ok (.iload 9, 2) := by decide +kernel
theorem dX12_waysOver_22 : decode cX12_waysOver 22 = .ok (.bipush 9, 2) := by decide +kernel
theorem dX12_waysOver_24 : decode cX12_waysOver 24 = .ok (.if_icmp .ge 87, 3) := by decide +kernel
theorem dX12_waysOver_27 : decode cX12_waysOver 27 = .ok (.aload_n 0, 1) := by decide +kernel
theorem dX12_waysOver_28 : decode cX12_waysOver 28 = .ok (.getfield 19, 3) := by decide +kernel
theorem dX12_waysOver_31 : decode cX12_waysOver 31 = .ok (.iload_n 1, 1) := by decide +kernel
theorem dX12_waysOver_32 : decode cX12_waysOver 32 = .ok (.iload_n 2, 1) := by decide +kernel
theorem dX12_waysOver_33 : decode cX12_waysOver 33 = .ok (.iload_n 3, 1) := by decide +kernel
theorem dX12_waysOver_34 : decode cX12_waysOver 34 = .ok (.iload 8, 2) := by decide +kernel
theorem dX12_waysOver_36 : decode cX12_waysOver 36 = .ok (.invokestatic 194, 3) := by decide +kernel
theorem dX12_waysOver_39 : decode cX12_waysOver 39 = .ok (.iaload, 1) := by decide +kernel
theorem dX12_waysOver_40 : decode cX12_waysOver 40 = .ok (.iload 9, 2) := by decide +kernel
theorem dX12_waysOver_42 : decode cX12_waysOver 42 = .ok (.iconst 3, 1) := by decide +kernel
theorem dX12_waysOver_43 : decode cX12_waysOver 43 = .ok (.idiv, 1) := by decide +kernel
theorem dX12_waysOver_44 : decode cX12_waysOver 44 = .ok (.ishr, 1) := by decide +kernel
theorem dX12_waysOver_45 : decode cX12_waysOver 45 = .ok (.iconst 1, 1) := by decide +kernel
theorem dX12_waysOver_46 : decode cX12_waysOver 46 = .ok (.iand, 1) := by decide +kernel
theorem dX12_waysOver_47 : decode cX12_waysOver 47 = .ok (.iconst 1, 1) := by decide +kernel
theorem dX12_waysOver_48 : decode cX12_waysOver 48 = .ok (.if_icmp .ne 33, 3) := by decide +kernel
theorem dX12_waysOver_51 : decode cX12_waysOver 51 = .ok (.aload_n 0, 1) := by decide +kernel
theorem dX12_waysOver_52 : decode cX12_waysOver 52 = .ok (.getfield 25, 3) := by decide +kernel
theorem dX12_waysOver_55 : decode cX12_waysOver 55 = .ok (.iload_n 1, 1) := by decide +kernel
theorem dX12_waysOver_56 : decode cX12_waysOver 56 = .ok (.iload 4, 2) := by decide +kernel
theorem dX12_waysOver_58 : decode cX12_waysOver 58 = .ok (.iload 9, 2) := by decide +kernel
theorem dX12_waysOver_60 : decode cX12_waysOver 60 = .ok (.iconst 3, 1) := by decide +kernel
theorem dX12_waysOver_61 : decode cX12_waysOver 61 = .ok (.irem, 1) := by decide +kernel
theorem dX12_waysOver_62 : decode cX12_waysOver 62 = .ok (.iload 8, 2) := by decide +kernel
theorem dX12_waysOver_64 : decode cX12_waysOver 64 = .ok (.invokestatic 202, 3) := by decide +kernel
theorem dX12_waysOver_67 : decode cX12_waysOver 67 = .ok (.iaload, 1) := by decide +kernel
theorem dX12_waysOver_68 : decode cX12_waysOver 68 = .ok (.iload 5, 2) := by decide +kernel
theorem dX12_waysOver_70 : decode cX12_waysOver 70 = .ok (.ishr, 1) := by decide +kernel
theorem dX12_waysOver_71 : decode cX12_waysOver 71 = .ok (.iconst 1, 1) := by decide +kernel
theorem dX12_waysOver_72 : decode cX12_waysOver 72 = .ok (.iand, 1) := by decide +kernel
theorem dX12_waysOver_73 : decode cX12_waysOver 73 = .ok (.iconst 1, 1) := by decide +kernel
theorem dX12_waysOver_74 : decode cX12_waysOver 74 = .ok (.if_icmp .ne 7, 3) := by decide +kernel
theorem dX12_waysOver_77 : decode cX12_waysOver 77 = .ok (.iconst 1, 1) := by decide +kernel
theorem dX12_waysOver_78 : decode cX12_waysOver 78 = .ok (.goto 4, 3) := by decide +kernel
theorem dX12_waysOver_81 : decode cX12_waysOver 81 = .ok (.iconst 0, 1) := by decide +kernel
theorem dX12_waysOver_82 : decode cX12_waysOver 82 = .ok (.istore 10, 2) := by decide +kernel
theorem dX12_waysOver_84 : decode cX12_waysOver 84 = .ok (.lload 6, 2) := by decide +kernel
theorem dX12_waysOver_86 : decode cX12_waysOver 86 = .ok (.iload 10, 2) := by decide +kernel
theorem dX12_waysOver_88 : decode cX12_waysOver 88 = .ok (.ifCond .eq 13, 3) := by decide +kernel
theorem dX12_waysOver_91 : decode cX12_waysOver 91 = .ok (.aload_n 0, 1) := by decide +kernel
theorem dX12_waysOver_92 : decode cX12_waysOver 92 = .ok (.getfield 56, 3) := by decide +kernel
theorem dX12_waysOver_95 : decode cX12_waysOver 95 = .ok (.iload 9, 2) := by decide +kernel
theorem dX12_waysOver_97 : decode cX12_waysOver 97 = .ok (.laload, 1) := by decide +kernel
theorem dX12_waysOver_98 : decode cX12_waysOver 98 = .ok (.goto 4, 3) := by decide +kernel
theorem dX12_waysOver_101 : decode cX12_waysOver 101 = .ok (.lconst 0, 1) := by decide +kernel
theorem dX12_waysOver_102 : decode cX12_waysOver 102 = .ok (.ladd, 1) := by decide +kernel
theorem dX12_waysOver_103 : decode cX12_waysOver 103 = .ok (.lstore 6, 2) := by decide +kernel
theorem dX12_waysOver_105 : decode cX12_waysOver 105 = .ok (.iinc 9 1, 3) := by decide +kernel
theorem dX12_waysOver_108 : decode cX12_waysOver 108 = .ok (.goto (-88), 3) := by decide +kernel
theorem dX12_waysOver_111 : decode cX12_waysOver 111 = .ok (.iinc 8 1, 3) := by decide +kernel
theorem dX12_waysOver_114 : decode cX12_waysOver 114 = .ok (.goto (-108), 3) := by decide +kernel
theorem dX12_waysOver_117 : decode cX12_waysOver 117 = .ok (.lload 6, 2) := by decide +kernel
theorem dX12_waysOver_119 : decode cX12_waysOver 119 = .ok (.ldc2_w 290, 3) := by decide +kernel
theorem dX12_waysOver_122 : decode cX12_waysOver 122 = .ok (.lrem, 1) := by decide +kernel
theorem dX12_waysOver_123 : decode cX12_waysOver 123 = .ok (.lreturn, 1) := by decide +kernel
theorem dX12_stepRuns_0 : decode cX12_stepRuns 0 = .ok (.aload_n 0, 1) := by decide +kernel
theorem dX12_stepRuns_1 : decode cX12_stepRuns 1 = .ok (.getfield 52, 3) := by decide +kernel
theorem dX12_stepRuns_4 : decode cX12_stepRuns 4 = .ok (.iconst 0, 1) := by decide +kernel
theorem dX12_stepRuns_5 : decode cX12_stepRuns 5 = .ok (.laload, 1) := by decide +kernel
theorem dX12_stepRuns_6 : decode cX12_stepRuns 6 = .ok (.aload_n 0, 1) := by decide +kernel
theorem dX12_stepRuns_7 : decode cX12_stepRuns 7 = .ok (.getfield 65, 3) := by decide +kernel
theorem dX12_stepRuns_10 : decode cX12_stepRuns 10 = .ok (.iconst 0, 1) := by decide +kernel
theorem dX12_stepRuns_11 : decode cX12_stepRuns 11 = .ok (.laload, 1) := by decide +kernel
theorem dX12_stepRuns_12 : decode cX12_stepRuns 12 = .ok (.lmul, 1) := by decide +kernel
theorem dX12_stepRuns_13 : decode cX12_stepRuns 13 = .ok (.ldc2_w 290, 3) := by decide +kernel
theorem dX12_stepRuns_16 : decode cX12_stepRuns 16 = .ok (.lrem, 1) := by decide +kernel
theorem dX12_stepRuns_17 : decode cX12_stepRuns 17 = .ok (.aload_n 0, 1) := by decide +kernel
theorem dX12_stepRuns_18 : decode cX12_stepRuns 18 = .ok (.getfield 52, 3) := by decide +kernel
theorem dX12_stepRuns_21 : decode cX12_stepRuns 21 = .ok (.iconst 1, 1) := by decide +kernel
theorem dX12_stepRuns_22 : decode cX12_stepRuns 22 = .ok (.laload, 1) := by decide +kernel
theorem dX12_stepRuns_23 : decode cX12_stepRuns 23 = .ok (.aload_n 0, 1) := by decide +kernel
theorem dX12_stepRuns_24 : decode cX12_stepRuns 24 = .ok (.getfield 65, 3) := by decide +kernel
theorem dX12_stepRuns_27 : decode cX12_stepRuns 27 = .ok (.iconst 3, 1) := by decide +kernel
theorem dX12_stepRuns_28 : decode cX12_stepRuns 28 = .ok (.laload, 1) := by decide +kernel
theorem dX12_stepRuns_29 : decode cX12_stepRuns 29 = .ok (.lmul, 1) := by decide +kernel
theorem dX12_stepRuns_30 : decode cX12_stepRuns 30 = .ok (.ldc2_w 290, 3) := by decide +kernel
theorem dX12_stepRuns_33 : decode cX12_stepRuns 33 = .ok (.lrem, 1) := by decide +kernel
theorem dX12_stepRuns_34 : decode cX12_stepRuns 34 = .ok (.ladd, 1) := by decide +kernel
theorem dX12_stepRuns_35 : decode cX12_stepRuns 35 = .ok (.aload_n 0, 1) := by decide +kernel
theorem dX12_stepRuns_36 : decode cX12_stepRuns 36 = .ok (.getfield 52, 3) := by decide +kernel
theorem dX12_stepRuns_39 : decode cX12_stepRuns 39 = .ok (.iconst 2, 1) := by decide +kernel
theorem dX12_stepRuns_40 : decode cX12_stepRuns 40 = .ok (.laload, 1) := by decide +kernel
theorem dX12_stepRuns_41 : decode cX12_stepRuns 41 = .ok (.aload_n 0, 1) := by decide +kernel
theorem dX12_stepRuns_42 : decode cX12_stepRuns 42 = .ok (.getfield 65, 3) := by decide +kernel
theorem dX12_stepRuns_45 : decode cX12_stepRuns 45 = .ok (.bipush 6, 2) := by decide +kernel
theorem dX12_stepRuns_47 : decode cX12_stepRuns 47 = .ok (.laload, 1) := by decide +kernel
theorem dX12_stepRuns_48 : decode cX12_stepRuns 48 = .ok (.lmul, 1) := by decide +kernel
theorem dX12_stepRuns_49 : decode cX12_stepRuns 49 = .ok (.ldc2_w 290, 3) := by decide +kernel
theorem dX12_stepRuns_52 : decode cX12_stepRuns 52 = .ok (.lrem, 1) := by decide +kernel
theorem dX12_stepRuns_53 : decode cX12_stepRuns 53 = .ok (.ladd, 1) := by decide +kernel
theorem dX12_stepRuns_54 : decode cX12_stepRuns 54 = .ok (.ldc2_w 290, 3) := by decide +kernel
theorem dX12_stepRuns_57 : decode cX12_stepRuns 57 = .ok (.lrem, 1) := by decide +kernel
theorem dX12_stepRuns_58 : decode cX12_stepRuns 58 = .ok (.lstore_n 1, 1) := by decide +kernel
theorem dX12_stepRuns_59 : decode cX12_stepRuns 59 = .ok (.aload_n 0, 1) := by decide +kernel
theorem dX12_stepRuns_60 : decode cX12_stepRuns 60 = .ok (.getfield 52, 3) := by decide +kernel
theorem dX12_stepRuns_63 : decode cX12_stepRuns 63 = .ok (.iconst 0, 1) := by decide +kernel
theorem dX12_stepRuns_64 : decode cX12_stepRuns 64 = .ok (.laload, 1) := by decide +kernel
theorem dX12_stepRuns_65 : decode cX12_stepRuns 65 = .ok (.aload_n 0, 1) := by decide +kernel
theorem dX12_stepRuns_66 : decode cX12_stepRuns 66 = .ok (.getfield 65, 3) := by decide +kernel
theorem dX12_stepRuns_69 : decode cX12_stepRuns 69 = .ok (.iconst 1, 1) := by decide +kernel
theorem dX12_stepRuns_70 : decode cX12_stepRuns 70 = .ok (.laload, 1) := by decide +kernel
theorem dX12_stepRuns_71 : decode cX12_stepRuns 71 = .ok (.lmul, 1) := by decide +kernel
theorem dX12_stepRuns_72 : decode cX12_stepRuns 72 = .ok (.ldc2_w 290, 3) := by decide +kernel
theorem dX12_stepRuns_75 : decode cX12_stepRuns 75 = .ok (.lrem, 1) := by decide +kernel
theorem dX12_stepRuns_76 : decode cX12_stepRuns 76 = .ok (.aload_n 0, 1) := by decide +kernel
theorem dX12_stepRuns_77 : decode cX12_stepRuns 77 = .ok (.getfield 52, 3) := by decide +kernel
theorem dX12_stepRuns_80 : decode cX12_stepRuns 80 = .ok (.iconst 1, 1) := by decide +kernel
theorem dX12_stepRuns_81 : decode cX12_stepRuns 81 = .ok (.laload, 1) := by decide +kernel
theorem dX12_stepRuns_82 : decode cX12_stepRuns 82 = .ok (.aload_n 0, 1) := by decide +kernel
theorem dX12_stepRuns_83 : decode cX12_stepRuns 83 = .ok (.getfield 65, 3) := by decide +kernel
theorem dX12_stepRuns_86 : decode cX12_stepRuns 86 = .ok (.iconst 4, 1) := by decide +kernel
theorem dX12_stepRuns_87 : decode cX12_stepRuns 87 = .ok (.laload, 1) := by decide +kernel
theorem dX12_stepRuns_88 : decode cX12_stepRuns 88 = .ok (.lmul, 1) := by decide +kernel
theorem dX12_stepRuns_89 : decode cX12_stepRuns 89 = .ok (.ldc2_w 290, 3) := by decide +kernel
theorem dX12_stepRuns_92 : decode cX12_stepRuns 92 = .ok (.lrem, 1) := by decide +kernel
theorem dX12_stepRuns_93 : decode cX12_stepRuns 93 = .ok (.ladd, 1) := by decide +kernel
theorem dX12_stepRuns_94 : decode cX12_stepRuns 94 = .ok (.aload_n 0, 1) := by decide +kernel
theorem dX12_stepRuns_95 : decode cX12_stepRuns 95 = .ok (.getfield 52, 3) := by decide +kernel
theorem dX12_stepRuns_98 : decode cX12_stepRuns 98 = .ok (.iconst 2, 1) := by decide +kernel
theorem dX12_stepRuns_99 : decode cX12_stepRuns 99 = .ok (.laload, 1) := by decide +kernel
theorem dX12_stepRuns_100 : decode cX12_stepRuns 100 = .ok (.aload_n 0, 1) := by decide +kernel
theorem dX12_stepRuns_101 : decode cX12_stepRuns 101 = .ok (.getfield 65, 3) := by decide +kernel
theorem dX12_stepRuns_104 : decode cX12_stepRuns 104 = .ok (.bipush 7, 2) := by decide +kernel
theorem dX12_stepRuns_106 : decode cX12_stepRuns 106 = .ok (.laload, 1) := by decide +kernel
theorem dX12_stepRuns_107 : decode cX12_stepRuns 107 = .ok (.lmul, 1) := by decide +kernel
theorem dX12_stepRuns_108 : decode cX12_stepRuns 108 = .ok (.ldc2_w 290, 3) := by decide +kernel
theorem dX12_stepRuns_111 : decode cX12_stepRuns 111 = .ok (.lrem, 1) := by decide +kernel
theorem dX12_stepRuns_112 : decode cX12_stepRuns 112 = .ok (.ladd, 1) := by decide +kernel
theorem dX12_stepRuns_113 : decode cX12_stepRuns 113 = .ok (.ldc2_w 290, 3) := by decide +kernel
theorem dX12_stepRuns_116 : decode cX12_stepRuns 116 = .ok (.lrem, 1) := by decide +kernel
theorem dX12_stepRuns_117 : decode cX12_stepRuns 117 = .ok (.lstore_n 3, 1) := by decide +kernel
theorem dX12_stepRuns_118 : decode cX12_stepRuns 118 = .ok (.aload_n 0, 1) := by decide +kernel
theorem dX12_stepRuns_119 : decode cX12_stepRuns 119 = .ok (.getfield 52, 3) := by decide +kernel
theorem dX12_stepRuns_122 : decode cX12_stepRuns 122 = .ok (.iconst 0, 1) := by decide +kernel
theorem dX12_stepRuns_123 : decode cX12_stepRuns 123 = .ok (.laload, 1) := by decide +kernel
theorem dX12_stepRuns_124 : decode cX12_stepRuns 124 = .ok (.aload_n 0, 1) := by decide +kernel
theorem dX12_stepRuns_125 : decode cX12_stepRuns 125 = .ok (.getfield 65, 3) := by decide +kernel
theorem dX12_stepRuns_128 : decode cX12_stepRuns 128 = .ok (.iconst 2, 1) := by decide +kernel
theorem dX12_stepRuns_129 : decode cX12_stepRuns 129 = .ok (.laload, 1) := by decide +kernel
theorem dX12_stepRuns_130 : decode cX12_stepRuns 130 = .ok (.lmul, 1) := by decide +kernel
theorem dX12_stepRuns_131 : decode cX12_stepRuns 131 = .ok (.ldc2_w 290, 3) := by decide +kernel
theorem dX12_stepRuns_134 : decode cX12_stepRuns 134 = .ok (.lrem, 1) := by decide +kernel
theorem dX12_stepRuns_135 : decode cX12_stepRuns 135 = .ok (.aload_n 0, 1) := by decide +kernel
theorem dX12_stepRuns_136 : decode cX12_stepRuns 136 = .ok (.getfield 52, 3) := by decide +kernel
theorem dX12_stepRuns_139 : decode cX12_stepRuns 139 = .ok (.iconst 1, 1) := by decide +kernel
theorem dX12_stepRuns_140 : decode cX12_stepRuns 140 = .ok (.laload, 1) := by decide +kernel
theorem dX12_stepRuns_141 : decode cX12_stepRuns 141 = .ok (.aload_n 0, 1) := by decide +kernel
theorem dX12_stepRuns_142 : decode cX12_stepRuns 142 = .ok (.getfield 65, 3) := by decide +kernel
theorem dX12_stepRuns_145 : decode cX12_stepRuns 145 = .ok (.iconst 5, 1) := by decide +kernel
theorem dX12_stepRuns_146 : decode cX12_stepRuns 146 = .ok (.laload, 1) := by decide +kernel
theorem dX12_stepRuns_147 : decode cX12_stepRuns 147 = .ok (.lmul, 1) := by decide +kernel
theorem dX12_stepRuns_148 : decode cX12_stepRuns 148 = .ok (.ldc2_w 290, 3) := by decide +kernel
theorem dX12_stepRuns_151 : decode cX12_stepRuns 151 = .ok (.lrem, 1) := by decide +kernel
theorem dX12_stepRuns_152 : decode cX12_stepRuns 152 = .ok (.ladd, 1) := by decide +kernel
theorem dX12_stepRuns_153 : decode cX12_stepRuns 153 = .ok (.aload_n 0, 1) := by decide +kernel
theorem dX12_stepRuns_154 : decode cX12_stepRuns 154 = .ok (.getfield 52, 3) := by decide +kernel
theorem dX12_stepRuns_157 : decode cX12_stepRuns 157 = .ok (.iconst 2, 1) := by decide +kernel
theorem dX12_stepRuns_158 : decode cX12_stepRuns 158 = .ok (.laload, 1) := by decide +kernel
theorem dX12_stepRuns_159 : decode cX12_stepRuns 159 = .ok (.aload_n 0, 1) := by decide +kernel
theorem dX12_stepRuns_160 : decode cX12_stepRuns 160 = .ok (.getfield 65, 3) := by decide +kernel
theorem dX12_stepRuns_163 : decode cX12_stepRuns 163 = .ok (.bipush 8, 2) := by decide +kernel
theorem dX12_stepRuns_165 : decode cX12_stepRuns 165 = .ok (.laload, 1) := by decide +kernel
theorem dX12_stepRuns_166 : decode cX12_stepRuns 166 = .ok (.lmul, 1) := by decide +kernel
theorem dX12_stepRuns_167 : decode cX12_stepRuns 167 = .ok (.ldc2_w 290, 3) := by decide +kernel
theorem dX12_stepRuns_170 : decode cX12_stepRuns 170 = .ok (.lrem, 1) := by decide +kernel
theorem dX12_stepRuns_171 : decode cX12_stepRuns 171 = .ok (.ladd, 1) := by decide +kernel
theorem dX12_stepRuns_172 : decode cX12_stepRuns 172 = .ok (.ldc2_w 290, 3) := by decide +kernel
theorem dX12_stepRuns_175 : decode cX12_stepRuns 175 = .ok (.lrem, 1) := by decide +kernel
theorem dX12_stepRuns_176 : decode cX12_stepRuns 176 = .ok (.lstore 5, 2) := by decide +kernel
theorem dX12_stepRuns_178 : decode cX12_stepRuns 178 = .ok (.aload_n 0, 1) := by decide +kernel
theorem dX12_stepRuns_179 : decode cX12_stepRuns 179 = .ok (.getfield 52, 3) := by decide +kernel
theorem dX12_stepRuns_182 : decode cX12_stepRuns 182 = .ok (.iconst 0, 1) := by decide +kernel
theorem dX12_stepRuns_183 : decode cX12_stepRuns 183 = .ok (.lload_n 1, 1) := by decide +kernel
theorem dX12_stepRuns_184 : decode cX12_stepRuns 184 = .ok (.lastore, 1) := by decide +kernel
theorem dX12_stepRuns_185 : decode cX12_stepRuns 185 = .ok (.aload_n 0, 1) := by decide +kernel
theorem dX12_stepRuns_186 : decode cX12_stepRuns 186 = .ok (.getfield 52, 3) := by decide +kernel
theorem dX12_stepRuns_189 : decode cX12_stepRuns 189 = .ok (.iconst 1, 1) := by decide +kernel
theorem dX12_stepRuns_190 : decode cX12_stepRuns 190 = .ok (.lload_n 3, 1) := by decide +kernel
theorem dX12_stepRuns_191 : decode cX12_stepRuns 191 = .ok (.lastore, 1) := by decide +kernel
theorem dX12_stepRuns_192 : decode cX12_stepRuns 192 = .ok (.aload_n 0, 1) := by decide +kernel
theorem dX12_stepRuns_193 : decode cX12_stepRuns 193 = .ok (.getfield 52, 3) := by decide +kernel
