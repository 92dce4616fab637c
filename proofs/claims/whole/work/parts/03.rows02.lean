theorem dX5_knows_71 : decode cX5_knows 71 = .ok (.ireturn, 1) := by decide +kernel
set_option maxRecDepth 20000 in
theorem ggX5_holds_X5_way : GoodIn wsX5_holds wsX5_way := goodIn_r _ [5, 6, 10, 11, 12, 13, 14] (by decide +kernel) (by decide +kernel)
set_option maxRecDepth 20000 in
theorem gX5_holds_X5_way : GoodIn wsX5_holds (wsV RX5 41 RX5 yX5_way wsX5_way) := goodIn_app (goodIn_of _ (by decide +kernel)) ggX5_holds_X5_way
set_option maxRecDepth 20000 in
theorem ggX5_holds_X5_pair : GoodIn wsX5_holds wsX5_pair := goodIn_r _ [9] (by decide +kernel) (by decide +kernel)
set_option maxRecDepth 20000 in
theorem gX5_holds_X5_pair : GoodIn wsX5_holds (va_wsS RX5 45 yX5_pair wsX5_pair) := goodIn_app (goodIn_of _ (by decide +kernel)) ggX5_holds_X5_pair
theorem dX5_holds_0 : decode cX5_holds 0 = .ok (.aload_n 0, 1) := by decide +kernel
theorem dX5_holds_1 : decode cX5_holds 1 = .ok (.iload_n 2, 1) := by decide +kernel
theorem dX5_holds_2 : decode cX5_holds 2 = .ok (.iload_n 3, 1) := by decide +kernel
theorem dX5_holds_3 : decode cX5_holds 3 = .ok (.invokevirtual 41, 3) := by decide +kernel
theorem dX5_holds_6 : decode cX5_holds 6 = .ok (.iload_n 1, 1) := by decide +kernel
theorem dX5_holds_7 : decode cX5_holds 7 = .ok (.iload 4, 2) := by decide +kernel
theorem dX5_holds_9 : decode cX5_holds 9 = .ok (.invokestatic 45, 3) := by decide +kernel
theorem dX5_holds_12 : decode cX5_holds 12 = .ok (.iand, 1) := by decide +kernel
theorem dX5_holds_13 : decode cX5_holds 13 = .ok (.ifCond .eq 7, 3) := by decide +kernel
theorem dX5_holds_16 : decode cX5_holds 16 = .ok (.iconst 1, 1) := by decide +kernel
theorem dX5_holds_17 : decode cX5_holds 17 = .ok (.goto 4, 3) := by decide +kernel
theorem dX5_holds_20 : decode cX5_holds 20 = .ok (.iconst 0, 1) := by decide +kernel
theorem dX5_holds_21 : decode cX5_holds 21 = .ok (.ireturn, 1) := by decide +kernel
set_option maxRecDepth 20000 in
theorem ggX5_add_X5_knows : GoodIn wsX5_add wsX5_knows := goodIn_r _ [7, 8, 9, 10, 6, 11, 12, 13, 14, 15, 16, 17, 18, 19, 20, 21, 22, 23, 30, 31, 32, 33, 34] (by decide +kernel) (by decide +kernel)
set_option maxRecDepth 20000 in
theorem gX5_add_X5_knows : GoodIn wsX5_add (wsV RX5 48 RX5 yX5_knows wsX5_knows) := goodIn_app (goodIn_of _ (by decide +kernel)) ggX5_add_X5_knows
set_option maxRecDepth 20000 in
theorem ggX5_add_X5_slot : GoodIn wsX5_add wsX5_slot := goodIn_r _ [26] (by decide +kernel) (by decide +kernel)
set_option maxRecDepth 20000 in
theorem gX5_add_X5_slot : GoodIn wsX5_add (va_wsS RX5 52 yX5_slot wsX5_slot) := goodIn_app (goodIn_of _ (by decide +kernel)) ggX5_add_X5_slot
set_option maxRecDepth 20000 in
theorem ggX5_add_X5_pair : GoodIn wsX5_add wsX5_pair := goodIn_r _ [29] (by decide +kernel) (by decide +kernel)
set_option maxRecDepth 20000 in
theorem gX5_add_X5_pair : GoodIn wsX5_add (va_wsS RX5 45 yX5_pair wsX5_pair) := goodIn_app (goodIn_of _ (by decide +kernel)) ggX5_add_X5_pair
theorem dX5_add_0 : decode cX5_add 0 = .ok (.aload_n 0, 1) := by decide +kernel
theorem dX5_add_1 : decode cX5_add 1 = .ok (.iload_n 1, 1) := by decide +kernel
theorem dX5_add_2 : decode cX5_add 2 = .ok (.iload_n 2, 1) := by decide +kernel
theorem dX5_add_3 : decode cX5_add 3 = .ok (.iload_n 3, 1) := by decide +kernel
theorem dX5_add_4 : decode cX5_add 4 = .ok (.iload 4, 2) := by decide +kernel
theorem dX5_add_6 : decode cX5_add 6 = .ok (.invokevirtual 48, 3) := by decide +kernel
theorem dX5_add_9 : decode cX5_add 9 = .ok (.ifCond .eq 32, 3) := by decide +kernel
theorem dX5_add_12 : decode cX5_add 12 = .ok (.aload_n 0, 1) := by decide +kernel
theorem dX5_add_13 : decode cX5_add 13 = .ok (.getfield 11, 3) := by decide +kernel
theorem dX5_add_16 : decode cX5_add 16 = .ok (.iload_n 2, 1) := by decide +kernel
theorem dX5_add_17 : decode cX5_add 17 = .ok (.iload_n 3, 1) := by decide +kernel
theorem dX5_add_18 : decode cX5_add 18 = .ok (.invokestatic 52, 3) := by decide +kernel
theorem dX5_add_21 : decode cX5_add 21 = .ok (.dup2, 1) := by decide +kernel
theorem dX5_add_22 : decode cX5_add 22 = .ok (.iaload, 1) := by decide +kernel
theorem dX5_add_23 : decode cX5_add 23 = .ok (.iload_n 1, 1) := by decide +kernel
theorem dX5_add_24 : decode cX5_add 24 = .ok (.iload 4, 2) := by decide +kernel
theorem dX5_add_26 : decode cX5_add 26 = .ok (.invokestatic 45, 3) := by decide +kernel
theorem dX5_add_29 : decode cX5_add 29 = .ok (.ior, 1) := by decide +kernel
theorem dX5_add_30 : decode cX5_add 30 = .ok (.iastore, 1) := by decide +kernel
theorem dX5_add_31 : decode cX5_add 31 = .ok (.aload_n 0, 1) := by decide +kernel
theorem dX5_add_32 : decode cX5_add 32 = .ok (.dup, 1) := by decide +kernel
theorem dX5_add_33 : decode cX5_add 33 = .ok (.getfield 25, 3) := by decide +kernel
theorem dX5_add_36 : decode cX5_add 36 = .ok (.iconst 1, 1) := by decide +kernel
theorem dX5_add_37 : decode cX5_add 37 = .ok (.iadd, 1) := by decide +kernel
theorem dX5_add_38 : decode cX5_add 38 = .ok (.putfield 25, 3) := by decide +kernel
theorem dX5_add_41 : decode cX5_add 41 = .ok (.return_, 1) := by decide +kernel
set_option maxRecDepth 20000 in
theorem ggX5_remove_X5_knows : GoodIn wsX5_remove wsX5_knows := goodIn_r _ [7, 8, 9, 10, 6, 11, 12, 13, 14, 15, 16, 17, 18, 19, 20, 21, 22, 23, 30, 31, 32, 33, 34] (by decide +kernel) (by decide +kernel)
set_option maxRecDepth 20000 in
theorem gX5_remove_X5_knows : GoodIn wsX5_remove (wsV RX5 48 RX5 yX5_knows wsX5_knows) := goodIn_app (goodIn_of _ (by decide +kernel)) ggX5_remove_X5_knows
set_option maxRecDepth 20000 in
theorem ggX5_remove_X5_slot : GoodIn wsX5_remove wsX5_slot := goodIn_r _ [26] (by decide +kernel) (by decide +kernel)
set_option maxRecDepth 20000 in
theorem gX5_remove_X5_slot : GoodIn wsX5_remove (va_wsS RX5 52 yX5_slot wsX5_slot) := goodIn_app (goodIn_of _ (by decide +kernel)) ggX5_remove_X5_slot
set_option maxRecDepth 20000 in
theorem ggX5_remove_X5_pair : GoodIn wsX5_remove wsX5_pair := goodIn_r _ [29] (by decide +kernel) (by decide +kernel)
set_option maxRecDepth 20000 in
theorem gX5_remove_X5_pair : GoodIn wsX5_remove (va_wsS RX5 45 yX5_pair wsX5_pair) := goodIn_app (goodIn_of _ (by decide +kernel)) ggX5_remove_X5_pair
theorem dX5_remove_0 : decode cX5_remove 0 = .ok (.aload_n 0, 1) := by decide +kernel
theorem dX5_remove_1 : decode cX5_remove 1 = .ok (.iload_n 1, 1) := by decide +kernel
theorem dX5_remove_2 : decode cX5_remove 2 = .ok (.iload_n 2, 1) := by decide +kernel
theorem dX5_remove_3 : decode cX5_remove 3 = .ok (.iload_n 3, 1) := by decide +kernel
theorem dX5_remove_4 : decode cX5_remove 4 = .ok (.iload 4, 2) := by decide +kernel
theorem dX5_remove_6 : decode cX5_remove 6 = .ok (.invokevirtual 48, 3) := by decide +kernel
theorem dX5_remove_9 : decode cX5_remove 9 = .ok (.ifCond .eq 34, 3) := by decide +kernel
theorem dX5_remove_12 : decode cX5_remove 12 = .ok (.aload_n 0, 1) := by decide +kernel
theorem dX5_remove_13 : decode cX5_remove 13 = .ok (.getfield 11, 3) := by decide +kernel
theorem dX5_remove_16 : decode cX5_remove 16 = .ok (.iload_n 2, 1) := by decide +kernel
theorem dX5_remove_17 : decode cX5_remove 17 = .ok (.iload_n 3, 1) := by decide +kernel
theorem dX5_remove_18 : decode cX5_remove 18 = .ok (.invokestatic 52, 3) := by decide +kernel
theorem dX5_remove_21 : decode cX5_remove 21 = .ok (.dup2, 1) := by decide +kernel
theorem dX5_remove_22 : decode cX5_remove 22 = .ok (.iaload, 1) := by decide +kernel
theorem dX5_remove_23 : decode cX5_remove 23 = .ok (.iload_n 1, 1) := by decide +kernel
theorem dX5_remove_24 : decode cX5_remove 24 = .ok (.iload 4, 2) := by decide +kernel
theorem dX5_remove_26 : decode cX5_remove 26 = .ok (.invokestatic 45, 3) := by decide +kernel
theorem dX5_remove_29 : decode cX5_remove 29 = .ok (.iconst (-1), 1) := by decide +kernel
theorem dX5_remove_30 : decode cX5_remove 30 = .ok (.ixor, 1) := by decide +kernel
theorem dX5_remove_31 : decode cX5_remove 31 = .ok (.iand, 1) := by decide +kernel
theorem dX5_remove_32 : decode cX5_remove 32 = .ok (.iastore, 1) := by decide +kernel
theorem dX5_remove_33 : decode cX5_remove 33 = .ok (.aload_n 0, 1) := by decide +kernel
theorem dX5_remove_34 : decode cX5_remove 34 = .ok (.dup, 1) := by decide +kernel
theorem dX5_remove_35 : decode cX5_remove 35 = .ok (.getfield 25, 3) := by decide +kernel
theorem dX5_remove_38 : decode cX5_remove 38 = .ok (.iconst 1, 1) := by decide +kernel
theorem dX5_remove_39 : decode cX5_remove 39 = .ok (.iadd, 1) := by decide +kernel
theorem dX5_remove_40 : decode cX5_remove 40 = .ok (.putfield 25, 3) := by decide +kernel
theorem dX5_remove_43 : decode cX5_remove 43 = .ok (.return_, 1) := by decide +kernel
set_option maxRecDepth 20000 in
theorem ggX5_moveCount_J6_bitCount_0f7a4 : GoodIn wsX5_moveCount wsJ6_bitCount_0f7a4 := goodIn_r _ [5, 6, 7, 8] (by decide +kernel) (by decide +kernel)
set_option maxRecDepth 20000 in
theorem gX5_moveCount_J6_bitCount_0f7a4 : GoodIn wsX5_moveCount (va_wsS RX5 55 yJ6_bitCount_0f7a4 wsJ6_bitCount_0f7a4) := goodIn_app (goodIn_of _ (by decide +kernel)) ggX5_moveCount_J6_bitCount_0f7a4
theorem dX5_moveCount_0 : decode cX5_moveCount 0 = .ok (.iconst 0, 1) := by decide +kernel
theorem dX5_moveCount_1 : decode cX5_moveCount 1 = .ok (.istore_n 1, 1) := by decide +kernel
theorem dX5_moveCount_2 : decode cX5_moveCount 2 = .ok (.iconst 0, 1) := by decide +kernel
theorem dX5_moveCount_3 : decode cX5_moveCount 3 = .ok (.istore_n 2, 1) := by decide +kernel
theorem dX5_moveCount_4 : decode cX5_moveCount 4 = .ok (.iload_n 2, 1) := by decide +kernel
theorem dX5_moveCount_5 : decode cX5_moveCount 5 = .ok (.aload_n 0, 1) := by decide +kernel
theorem dX5_moveCount_6 : decode cX5_moveCount 6 = .ok (.getfield 11, 3) := by decide +kernel
theorem dX5_moveCount_9 : decode cX5_moveCount 9 = .ok (.arraylength, 1) := by decide +kernel
theorem dX5_moveCount_10 : decode cX5_moveCount 10 = .ok (.if_icmp .ge 21, 3) := by decide +kernel
theorem dX5_moveCount_13 : decode cX5_moveCount 13 = .ok (.iload_n 1, 1) := by decide +kernel
theorem dX5_moveCount_14 : decode cX5_moveCount 14 = .ok (.aload_n 0, 1) := by decide +kernel
theorem dX5_moveCount_15 : decode cX5_moveCount 15 = .ok (.getfield 11, 3) := by decide +kernel
theorem dX5_moveCount_18 : decode cX5_moveCount 18 = .ok (.iload_n 2, 1) := by decide +kernel
theorem dX5_moveCount_19 : decode cX5_moveCount 19 = .ok (.iaload, 1) := by decide +kernel
theorem dX5_moveCount_20 : decode cX5_moveCount 20 = .ok (.invokestatic 55, 3) := by decide +kernel
theorem dX5_moveCount_23 : decode cX5_moveCount 23 = .ok (.iadd, 1) := by decide +kernel
theorem dX5_moveCount_24 : decode cX5_moveCount 24 = .ok (.istore_n 1, 1) := by decide +kernel
theorem dX5_moveCount_25 : decode cX5_moveCount 25 = .ok (.iinc 2 1, 3) := by decide +kernel
theorem dX5_moveCount_28 : decode cX5_moveCount 28 = .ok (.goto (-24), 3) := by decide +kernel
theorem dX5_moveCount_31 : decode cX5_moveCount 31 = .ok (.iload_n 1, 1) := by decide +kernel
theorem dX5_moveCount_32 : decode cX5_moveCount 32 = .ok (.ireturn, 1) := by decide +kernel
theorem dX5_takesAny_0 : decode cX5_takesAny 0 = .ok (.iload_n 1, 1) := by decide +kernel
theorem dX5_takesAny_1 : decode cX5_takesAny 1 = .ok (.aload_n 0, 1) := by decide +kernel
theorem dX5_takesAny_2 : decode cX5_takesAny 2 = .ok (.getfield 22, 3) := by decide +kernel
theorem dX5_takesAny_5 : decode cX5_takesAny 5 = .ok (.iand, 1) := by decide +kernel
theorem dX5_takesAny_6 : decode cX5_takesAny 6 = .ok (.ifCond .eq 7, 3) := by decide +kernel
theorem dX5_takesAny_9 : decode cX5_takesAny 9 = .ok (.iconst 1, 1) := by decide +kernel
theorem dX5_takesAny_10 : decode cX5_takesAny 10 = .ok (.goto 4, 3) := by decide +kernel
theorem dX5_takesAny_13 : decode cX5_takesAny 13 = .ok (.iconst 0, 1) := by decide +kernel
theorem dX5_takesAny_14 : decode cX5_takesAny 14 = .ok (.ireturn, 1) := by decide +kernel
theorem dX5_way_0 : decode cX5_way 0 = .ok (.iload_n 1, 1) := by decide +kernel
theorem dX5_way_1 : decode cX5_way 1 = .ok (.iconst 3, 1) := by decide +kernel
theorem dX5_way_2 : decode cX5_way 2 = .ok (.imul, 1) := by decide +kernel
theorem dX5_way_3 : decode cX5_way 3 = .ok (.iload_n 2, 1) := by decide +kernel
theorem dX5_way_4 : decode cX5_way 4 = .ok (.iadd, 1) := by decide +kernel
theorem dX5_way_5 : decode cX5_way 5 = .ok (.iconst 1, 1) := by decide +kernel
theorem dX5_way_6 : decode cX5_way 6 = .ok (.iadd, 1) := by decide +kernel
theorem dX5_way_7 : decode cX5_way 7 = .ok (.istore_n 3, 1) := by decide +kernel
theorem dX5_way_8 : decode cX5_way 8 = .ok (.iload_n 3, 1) := by decide +kernel
theorem dX5_way_9 : decode cX5_way 9 = .ok (.ifCond .lt 21, 3) := by decide +kernel
theorem dX5_way_12 : decode cX5_way 12 = .ok (.iload_n 3, 1) := by decide +kernel
theorem dX5_way_13 : decode cX5_way 13 = .ok (.aload_n 0, 1) := by decide +kernel
theorem dX5_way_14 : decode cX5_way 14 = .ok (.getfield 11, 3) := by decide +kernel
theorem dX5_way_17 : decode cX5_way 17 = .ok (.arraylength, 1) := by decide +kernel
theorem dX5_way_18 : decode cX5_way 18 = .ok (.if_icmp .ge 12, 3) := by decide +kernel
theorem dX5_way_21 : decode cX5_way 21 = .ok (.aload_n 0, 1) := by decide +kernel
theorem dX5_way_22 : decode cX5_way 22 = .ok (.getfield 11, 3) := by decide +kernel
theorem dX5_way_25 : decode cX5_way 25 = .ok (.iload_n 3, 1) := by decide +kernel
theorem dX5_way_26 : decode cX5_way 26 = .ok (.iaload, 1) := by decide +kernel
theorem dX5_way_27 : decode cX5_way 27 = .ok (.goto 4, 3) := by decide +kernel
theorem dX5_way_30 : decode cX5_way 30 = .ok (.iconst 0, 1) := by decide +kernel
theorem dX5_way_31 : decode cX5_way 31 = .ok (.ireturn, 1) := by decide +kernel
set_option maxRecDepth 20000 in
theorem ggX5_alone_X5_closes : GoodIn wsX5_alone wsX5_closes := goodIn_r _ [4] (by decide +kernel) (by decide +kernel)
set_option maxRecDepth 20000 in
theorem gX5_alone_X5_closes : GoodIn wsX5_alone (va_wsS RX5 38 yX5_closes wsX5_closes) := goodIn_app (goodIn_of _ (by decide +kernel)) ggX5_alone_X5_closes
set_option maxRecDepth 20000 in
theorem ggX5_alone_X5_way : GoodIn wsX5_alone wsX5_way := goodIn_r _ [8, 9, 10, 11, 12, 13, 14] (by decide +kernel) (by decide +kernel)
set_option maxRecDepth 20000 in
theorem gX5_alone_X5_way : GoodIn wsX5_alone (wsV RX5 41 RX5 yX5_way wsX5_way) := goodIn_app (goodIn_of _ (by decide +kernel)) ggX5_alone_X5_way
theorem dX5_alone_0 : decode cX5_alone 0 = .ok (.iload_n 1, 1) := by decide +kernel
theorem dX5_alone_1 : decode cX5_alone 1 = .ok (.invokestatic 38, 3) := by decide +kernel
theorem dX5_alone_4 : decode cX5_alone 4 = .ok (.ifCond .eq 12, 3) := by decide +kernel
theorem dX5_alone_7 : decode cX5_alone 7 = .ok (.aload_n 0, 1) := by decide +kernel
theorem dX5_alone_8 : decode cX5_alone 8 = .ok (.iload_n 1, 1) := by decide +kernel
theorem dX5_alone_9 : decode cX5_alone 9 = .ok (.iconst (-1), 1) := by decide +kernel
theorem dX5_alone_10 : decode cX5_alone 10 = .ok (.invokevirtual 41, 3) := by decide +kernel
theorem dX5_alone_13 : decode cX5_alone 13 = .ok (.goto 16, 3) := by decide +kernel
theorem dX5_alone_16 : decode cX5_alone 16 = .ok (.aload_n 0, 1) := by decide +kernel
theorem dX5_alone_17 : decode cX5_alone 17 = .ok (.iload_n 1, 1) := by decide +kernel
theorem dX5_alone_18 : decode cX5_alone 18 = .ok (.iconst 0, 1) := by decide +kernel
theorem dX5_alone_19 : decode cX5_alone 19 = .ok (.invokevirtual 41, 3) := by decide +kernel
theorem dX5_alone_22 : decode cX5_alone 22 = .ok (.aload_n 0, 1) := by decide +kernel
theorem dX5_alone_23 : decode cX5_alone 23 = .ok (.iload_n 1, 1) := by decide +kernel
theorem dX5_alone_24 : decode cX5_alone 24 = .ok (.iconst 1, 1) := by decide +kernel
theorem dX5_alone_25 : decode cX5_alone 25 = .ok (.invokevirtual 41, 3) := by decide +kernel
theorem dX5_alone_28 : decode cX5_alone 28 = .ok (.ior, 1) := by decide +kernel
theorem dX5_alone_29 : decode cX5_alone 29 = .ok (.ireturn, 1) := by decide +kernel
set_option maxRecDepth 20000 in
theorem ggX5_identity_X5_pair : GoodIn wsX5_identity wsX5_pair := goodIn_r _ [5] (by decide +kernel) (by decide +kernel)
set_option maxRecDepth 20000 in
theorem gX5_identity_X5_pair : GoodIn wsX5_identity (va_wsS RX5 45 yX5_pair wsX5_pair) := goodIn_app (goodIn_of _ (by decide +kernel)) ggX5_identity_X5_pair
theorem dX5_identity_0 : decode cX5_identity 0 = .ok (.iconst 0, 1) := by decide +kernel
theorem dX5_identity_1 : decode cX5_identity 1 = .ok (.istore_n 1, 1) := by decide +kernel
theorem dX5_identity_2 : decode cX5_identity 2 = .ok (.iconst 0, 1) := by decide +kernel
theorem dX5_identity_3 : decode cX5_identity 3 = .ok (.istore_n 2, 1) := by decide +kernel
theorem dX5_identity_4 : decode cX5_identity 4 = .ok (.iload_n 2, 1) := by decide +kernel
theorem dX5_identity_5 : decode cX5_identity 5 = .ok (.aload_n 0, 1) := by decide +kernel
theorem dX5_identity_6 : decode cX5_identity 6 = .ok (.getfield 15, 3) := by decide +kernel
theorem dX5_identity_9 : decode cX5_identity 9 = .ok (.if_icmp .ge 17, 3) := by decide +kernel
theorem dX5_identity_12 : decode cX5_identity 12 = .ok (.iload_n 1, 1) := by decide +kernel
theorem dX5_identity_13 : decode cX5_identity 13 = .ok (.iload_n 2, 1) := by decide +kernel
theorem dX5_identity_14 : decode cX5_identity 14 = .ok (.iload_n 2, 1) := by decide +kernel
theorem dX5_identity_15 : decode cX5_identity 15 = .ok (.invokestatic 45, 3) := by decide +kernel
theorem dX5_identity_18 : decode cX5_identity 18 = .ok (.ior, 1) := by decide +kernel
theorem dX5_identity_19 : decode cX5_identity 19 = .ok (.istore_n 1, 1) := by decide +kernel
theorem dX5_identity_20 : decode cX5_identity 20 = .ok (.iinc 2 1, 3) := by decide +kernel
theorem dX5_identity_23 : decode cX5_identity 23 = .ok (.goto (-19), 3) := by decide +kernel
theorem dX5_identity_26 : decode cX5_identity 26 = .ok (.iload_n 1, 1) := by decide +kernel
theorem dX5_identity_27 : decode cX5_identity 27 = .ok (.ireturn, 1) := by decide +kernel
set_option maxRecDepth 20000 in
theorem ggX5_wrapped_X5_way : GoodIn wsX5_wrapped wsX5_way := goodIn_r _ [6, 7, 14, 15, 16, 17, 18] (by decide +kernel) (by decide +kernel)
set_option maxRecDepth 20000 in
theorem gX5_wrapped_X5_way : GoodIn wsX5_wrapped (wsV RX5 41 RX5 yX5_way wsX5_way) := goodIn_app (goodIn_of _ (by decide +kernel)) ggX5_wrapped_X5_way
set_option maxRecDepth 20000 in
theorem ggX5_wrapped_X5_then : GoodIn wsX5_wrapped wsX5_then := goodIn_r _ [10, 11, 12, 5, 13] (by decide +kernel) (by decide +kernel)
set_option maxRecDepth 20000 in
theorem gX5_wrapped_X5_then : GoodIn wsX5_wrapped (va_wsS RX5 61 yX5_then wsX5_then) := goodIn_app (goodIn_of _ (by decide +kernel)) ggX5_wrapped_X5_then
theorem dX5_wrapped_0 : decode cX5_wrapped 0 = .ok (.iconst 0, 1) := by decide +kernel
theorem dX5_wrapped_1 : decode cX5_wrapped 1 = .ok (.istore 4, 2) := by decide +kernel
theorem dX5_wrapped_3 : decode cX5_wrapped 3 = .ok (.iconst 0, 1) := by decide +kernel
theorem dX5_wrapped_4 : decode cX5_wrapped 4 = .ok (.istore 5, 2) := by decide +kernel
theorem dX5_wrapped_6 : decode cX5_wrapped 6 = .ok (.iload 5, 2) := by decide +kernel
theorem dX5_wrapped_8 : decode cX5_wrapped 8 = .ok (.aload_n 0, 1) := by decide +kernel
theorem dX5_wrapped_9 : decode cX5_wrapped 9 = .ok (.getfield 19, 3) := by decide +kernel
theorem dX5_wrapped_12 : decode cX5_wrapped 12 = .ok (.if_icmp .ge 39, 3) := by decide +kernel
theorem dX5_wrapped_15 : decode cX5_wrapped 15 = .ok (.iload_n 3, 1) := by decide +kernel
theorem dX5_wrapped_16 : decode cX5_wrapped 16 = .ok (.ifCond .eq 35, 3) := by decide +kernel
theorem dX5_wrapped_19 : decode cX5_wrapped 19 = .ok (.iload 4, 2) := by decide +kernel
theorem dX5_wrapped_21 : decode cX5_wrapped 21 = .ok (.aload_n 0, 1) := by decide +kernel
theorem dX5_wrapped_22 : decode cX5_wrapped 22 = .ok (.iload_n 1, 1) := by decide +kernel
theorem dX5_wrapped_23 : decode cX5_wrapped 23 = .ok (.iload 5, 2) := by decide +kernel
theorem dX5_wrapped_25 : decode cX5_wrapped 25 = .ok (.invokevirtual 41, 3) := by decide +kernel
theorem dX5_wrapped_28 : decode cX5_wrapped 28 = .ok (.iload_n 3, 1) := by decide +kernel
theorem dX5_wrapped_29 : decode cX5_wrapped 29 = .ok (.invokestatic 61, 3) := by decide +kernel
theorem dX5_wrapped_32 : decode cX5_wrapped 32 = .ok (.aload_n 0, 1) := by decide +kernel
theorem dX5_wrapped_33 : decode cX5_wrapped 33 = .ok (.iload_n 2, 1) := by decide +kernel
theorem dX5_wrapped_34 : decode cX5_wrapped 34 = .ok (.iload 5, 2) := by decide +kernel
theorem dX5_wrapped_36 : decode cX5_wrapped 36 = .ok (.invokevirtual 41, 3) := by decide +kernel
theorem dX5_wrapped_39 : decode cX5_wrapped 39 = .ok (.invokestatic 61, 3) := by decide +kernel
theorem dX5_wrapped_42 : decode cX5_wrapped 42 = .ok (.ior, 1) := by decide +kernel
theorem dX5_wrapped_43 : decode cX5_wrapped 43 = .ok (.istore 4, 2) := by decide +kernel
theorem dX5_wrapped_45 : decode cX5_wrapped 45 = .ok (.iinc 5 1, 3) := by decide +kernel
theorem dX5_wrapped_48 : decode cX5_wrapped 48 = .ok (.goto (-42), 3) := by decide +kernel
theorem dX5_wrapped_51 : decode cX5_wrapped 51 = .ok (.iload 4, 2) := by decide +kernel
theorem dX5_wrapped_53 : decode cX5_wrapped 53 = .ok (.ireturn, 1) := by decide +kernel
theorem dX5_opens_0 : decode cX5_opens 0 = .ok (.iload_n 0, 1) := by decide +kernel
theorem dX5_opens_1 : decode cX5_opens 1 = .ok (.ifCond .eq 8, 3) := by decide +kernel
theorem dX5_opens_4 : decode cX5_opens 4 = .ok (.iload_n 0, 1) := by decide +kernel
theorem dX5_opens_5 : decode cX5_opens 5 = .ok (.iconst 1, 1) := by decide +kernel
theorem dX5_opens_6 : decode cX5_opens 6 = .ok (.if_icmp .ne 7, 3) := by decide +kernel
theorem dX5_opens_9 : decode cX5_opens 9 = .ok (.iconst 1, 1) := by decide +kernel
theorem dX5_opens_10 : decode cX5_opens 10 = .ok (.goto 4, 3) := by decide +kernel
theorem dX5_opens_13 : decode cX5_opens 13 = .ok (.iconst 0, 1) := by decide +kernel
theorem dX5_opens_14 : decode cX5_opens 14 = .ok (.ireturn, 1) := by decide +kernel
theorem dX5_isPlain_0 : decode cX5_isPlain 0 = .ok (.iload_n 0, 1) := by decide +kernel
theorem dX5_isPlain_1 : decode cX5_isPlain 1 = .ok (.iconst 2, 1) := by decide +kernel
theorem dX5_isPlain_2 : decode cX5_isPlain 2 = .ok (.if_icmp .eq 8, 3) := by decide +kernel
theorem dX5_isPlain_5 : decode cX5_isPlain 5 = .ok (.iload_n 0, 1) := by decide +kernel
theorem dX5_isPlain_6 : decode cX5_isPlain 6 = .ok (.iconst 3, 1) := by decide +kernel
theorem dX5_isPlain_7 : decode cX5_isPlain 7 = .ok (.if_icmp .ne 7, 3) := by decide +kernel
theorem dX5_isPlain_10 : decode cX5_isPlain 10 = .ok (.iconst 1, 1) := by decide +kernel
theorem dX5_isPlain_11 : decode cX5_isPlain 11 = .ok (.goto 4, 3) := by decide +kernel
theorem dX5_isPlain_14 : decode cX5_isPlain 14 = .ok (.iconst 0, 1) := by decide +kernel
theorem dX5_isPlain_15 : decode cX5_isPlain 15 = .ok (.ireturn, 1) := by decide +kernel
theorem dX5_closes_0 : decode cX5_closes 0 = .ok (.iload_n 0, 1) := by decide +kernel
theorem dX5_closes_1 : decode cX5_closes 1 = .ok (.iconst 4, 1) := by decide +kernel
theorem dX5_closes_2 : decode cX5_closes 2 = .ok (.if_icmp .eq 8, 3) := by decide +kernel
theorem dX5_closes_5 : decode cX5_closes 5 = .ok (.iload_n 0, 1) := by decide +kernel
theorem dX5_closes_6 : decode cX5_closes 6 = .ok (.iconst 5, 1) := by decide +kernel
theorem dX5_closes_7 : decode cX5_closes 7 = .ok (.if_icmp .ne 7, 3) := by decide +kernel
theorem dX5_closes_10 : decode cX5_closes 10 = .ok (.iconst 1, 1) := by decide +kernel
theorem dX5_closes_11 : decode cX5_closes 11 = .ok (.goto 4, 3) := by decide +kernel
theorem dX5_closes_14 : decode cX5_closes 14 = .ok (.iconst 0, 1) := by decide +kernel
theorem dX5_closes_15 : decode cX5_closes 15 = .ok (.ireturn, 1) := by decide +kernel
theorem dX5_pair_0 : decode cX5_pair 0 = .ok (.iconst 1, 1) := by decide +kernel
theorem dX5_pair_1 : decode cX5_pair 1 = .ok (.iconst 3, 1) := by decide +kernel
theorem dX5_pair_2 : decode cX5_pair 2 = .ok (.iload_n 0, 1) := by decide +kernel
theorem dX5_pair_3 : decode cX5_pair 3 = .ok (.imul, 1) := by decide +kernel
theorem dX5_pair_4 : decode cX5_pair 4 = .ok (.iload_n 1, 1) := by decide +kernel
theorem dX5_pair_5 : decode cX5_pair 5 = .ok (.iadd, 1) := by decide +kernel
theorem dX5_pair_6 : decode cX5_pair 6 = .ok (.ishl, 1) := by decide +kernel
theorem dX5_pair_7 : decode cX5_pair 7 = .ok (.ireturn, 1) := by decide +kernel
theorem dX5_image_0 : decode cX5_image 0 = .ok (.iconst 0, 1) := by decide +kernel
theorem dX5_image_1 : decode cX5_image 1 = .ok (.istore_n 2, 1) := by decide +kernel
theorem dX5_image_2 : decode cX5_image 2 = .ok (.iload_n 0, 1) := by decide +kernel
theorem dX5_image_3 : decode cX5_image 3 = .ok (.iconst 1, 1) := by decide +kernel
theorem dX5_image_4 : decode cX5_image 4 = .ok (.iand, 1) := by decide +kernel
theorem dX5_image_5 : decode cX5_image 5 = .ok (.ifCond .eq 10, 3) := by decide +kernel
theorem dX5_image_8 : decode cX5_image 8 = .ok (.iload_n 2, 1) := by decide +kernel
theorem dX5_image_9 : decode cX5_image 9 = .ok (.iload_n 1, 1) := by decide +kernel
theorem dX5_image_10 : decode cX5_image 10 = .ok (.bipush 7, 2) := by decide +kernel
theorem dX5_image_12 : decode cX5_image 12 = .ok (.iand, 1) := by decide +kernel
theorem dX5_image_13 : decode cX5_image 13 = .ok (.ior, 1) := by decide +kernel
theorem dX5_image_14 : decode cX5_image 14 = .ok (.istore_n 2, 1) := by decide +kernel
theorem dX5_image_15 : decode cX5_image 15 = .ok (.iload_n 0, 1) := by decide +kernel
theorem dX5_image_16 : decode cX5_image 16 = .ok (.iconst 2, 1) := by decide +kernel
theorem dX5_image_17 : decode cX5_image 17 = .ok (.iand, 1) := by decide +kernel
theorem dX5_image_18 : decode cX5_image 18 = .ok (.ifCond .eq 12, 3) := by decide +kernel
theorem dX5_image_21 : decode cX5_image 21 = .ok (.iload_n 2, 1) := by decide +kernel
theorem dX5_image_22 : decode cX5_image 22 = .ok (.iload_n 1, 1) := by decide +kernel
theorem dX5_image_23 : decode cX5_image 23 = .ok (.iconst 3, 1) := by decide +kernel
theorem dX5_image_24 : decode cX5_image 24 = .ok (.ishr, 1) := by decide +kernel
theorem dX5_image_25 : decode cX5_image 25 = .ok (.bipush 7, 2) := by decide +kernel
theorem dX5_image_27 : decode cX5_image 27 = .ok (.iand, 1) := by decide +kernel
theorem dX5_image_28 : decode cX5_image 28 = .ok (.ior, 1) := by decide +kernel
theorem dX5_image_29 : decode cX5_image 29 = .ok (.istore_n 2, 1) := by decide +kernel
theorem dX5_image_30 : decode cX5_image 30 = .ok (.iload_n 0, 1) := by decide +kernel
theorem dX5_image_31 : decode cX5_image 31 = .ok (.iconst 4, 1) := by decide +kernel
theorem dX5_image_32 : decode cX5_image 32 = .ok (.iand, 1) := by decide +kernel
theorem dX5_image_33 : decode cX5_image 33 = .ok (.ifCond .eq 13, 3) := by decide +kernel
theorem dX5_image_36 : decode cX5_image 36 = .ok (.iload_n 2, 1) := by decide +kernel
theorem dX5_image_37 : decode cX5_image 37 = .ok (.iload_n 1, 1) := by decide +kernel
theorem dX5_image_38 : decode cX5_image 38 = .ok (.bipush 6, 2) := by decide +kernel
theorem dX5_image_40 : decode cX5_image 40 = .ok (.ishr, 1) := by decide +kernel
theorem dX5_image_41 : decode cX5_image 41 = .ok (.bipush 7, 2) := by decide +kernel
theorem dX5_image_43 : decode cX5_image 43 = .ok (.iand, 1) := by decide +kernel
theorem dX5_image_44 : decode cX5_image 44 = .ok (.ior, 1) := by decide +kernel
theorem dX5_image_45 : decode cX5_image 45 = .ok (.istore_n 2, 1) := by decide +kernel
theorem dX5_image_46 : decode cX5_image 46 = .ok (.iload_n 2, 1) := by decide +kernel
theorem dX5_image_47 : decode cX5_image 47 = .ok (.ireturn, 1) := by decide +kernel
set_option maxRecDepth 20000 in
theorem ggX5_then_X5_image : GoodIn wsX5_then wsX5_image := goodIn_r _ [4] (by decide +kernel) (by decide +kernel)
set_option maxRecDepth 20000 in
theorem gX5_then_X5_image : GoodIn wsX5_then (va_wsS RX5 64 yX5_image wsX5_image) := goodIn_app (goodIn_of _ (by decide +kernel)) ggX5_then_X5_image
theorem dX5_then_0 : decode cX5_then 0 = .ok (.iload_n 0, 1) := by decide +kernel
theorem dX5_then_1 : decode cX5_then 1 = .ok (.ifCond .eq 7, 3) := by decide +kernel
theorem dX5_then_4 : decode cX5_then 4 = .ok (.iload_n 1, 1) := by decide +kernel
theorem dX5_then_5 : decode cX5_then 5 = .ok (.ifCond .ne 5, 3) := by decide +kernel
theorem dX5_then_8 : decode cX5_then 8 = .ok (.iconst 0, 1) := by decide +kernel
theorem dX5_then_9 : decode cX5_then 9 = .ok (.ireturn, 1) := by decide +kernel
theorem dX5_then_10 : decode cX5_then 10 = .ok (.iload_n 0, 1) := by decide +kernel
theorem dX5_then_11 : decode cX5_then 11 = .ok (.bipush 7, 2) := by decide +kernel
theorem dX5_then_13 : decode cX5_then 13 = .ok (.iand, 1) := by decide +kernel
theorem dX5_then_14 : decode cX5_then 14 = .ok (.iload_n 1, 1) := by decide +kernel
theorem dX5_then_15 : decode cX5_then 15 = .ok (.invokestatic 64, 3) := by decide +kernel
theorem dX5_then_18 : decode cX5_then 18 = .ok (.iload_n 0, 1) := by decide +kernel
theorem dX5_then_19 : decode cX5_then 19 = .ok (.iconst 3, 1) := by decide +kernel
theorem dX5_then_20 : decode cX5_then 20 = .ok (.ishr, 1) := by decide +kernel
theorem dX5_then_21 : decode cX5_then 21 = .ok (.bipush 7, 2) := by decide +kernel
theorem dX5_then_23 : decode cX5_then 23 = .ok (.iand, 1) := by decide +kernel
theorem dX5_then_24 : decode cX5_then 24 = .ok (.iload_n 1, 1) := by decide +kernel
theorem dX5_then_25 : decode cX5_then 25 = .ok (.invokestatic 64, 3) := by decide +kernel
theorem dX5_then_28 : decode cX5_then 28 = .ok (.iconst 3, 1) := by decide +kernel
theorem dX5_then_29 : decode cX5_then 29 = .ok (.ishl, 1) := by decide +kernel
theorem dX5_then_30 : decode cX5_then 30 = .ok (.ior, 1) := by decide +kernel
theorem dX5_then_31 : decode cX5_then 31 = .ok (.iload_n 0, 1) := by decide +kernel
theorem dX5_then_32 : decode cX5_then 32 = .ok (.bipush 6, 2) := by decide +kernel
theorem dX5_then_34 : decode cX5_then 34 = .ok (.ishr, 1) := by decide +kernel
theorem dX5_then_35 : decode cX5_then 35 = .ok (.bipush 7, 2) := by decide +kernel
theorem dX5_then_37 : decode cX5_then 37 = .ok (.iand, 1) := by decide +kernel
theorem dX5_then_38 : decode cX5_then 38 = .ok (.iload_n 1, 1) := by decide +kernel
theorem dX5_then_39 : decode cX5_then 39 = .ok (.invokestatic 64, 3) := by decide +kernel
theorem dX5_then_42 : decode cX5_then 42 = .ok (.bipush 6, 2) := by decide +kernel
theorem dX5_then_44 : decode cX5_then 44 = .ok (.ishl, 1) := by decide +kernel
theorem dX5_then_45 : decode cX5_then 45 = .ok (.ior, 1) := by decide +kernel
theorem dX5_then_46 : decode cX5_then 46 = .ok (.ireturn, 1) := by decide +kernel
theorem dX5_slot_0 : decode cX5_slot 0 = .ok (.iload_n 0, 1) := by decide +kernel
theorem dX5_slot_1 : decode cX5_slot 1 = .ok (.iconst 3, 1) := by decide +kernel
theorem dX5_slot_2 : decode cX5_slot 2 = .ok (.imul, 1) := by decide +kernel
theorem dX5_slot_3 : decode cX5_slot 3 = .ok (.iload_n 1, 1) := by decide +kernel
theorem dX5_slot_4 : decode cX5_slot 4 = .ok (.iadd, 1) := by decide +kernel
theorem dX5_slot_5 : decode cX5_slot 5 = .ok (.iconst 1, 1) := by decide +kernel
theorem dX5_slot_6 : decode cX5_slot 6 = .ok (.iadd, 1) := by decide +kernel
theorem dX5_slot_7 : decode cX5_slot 7 = .ok (.ireturn, 1) := by decide +kernel
theorem dX6_init_0 : decode cX6_init 0 = .ok (.aload_n 0, 1) := by decide +kernel
theorem dX6_init_1 : decode cX6_init 1 = .ok (.invokespecial 3, 3) := by decide +kernel
theorem dX6_init_4 : decode cX6_init 4 = .ok (.aload_n 0, 1) := by decide +kernel
theorem dX6_init_5 : decode cX6_init 5 = .ok (.bipush 24, 2) := by decide +kernel
theorem dX6_init_7 : decode cX6_init 7 = .ok (.newarray .int, 2) := by decide +kernel
theorem dX6_init_9 : decode cX6_init 9 = .ok (.putfield 9, 3) := by decide +kernel
theorem dX6_init_12 : decode cX6_init 12 = .ok (.aload_n 0, 1) := by decide +kernel
theorem dX6_init_13 : decode cX6_init 13 = .ok (.bipush 25, 2) := by decide +kernel
theorem dX6_init_15 : decode cX6_init 15 = .ok (.newarray .int, 2) := by decide +kernel
theorem dX6_init_17 : decode cX6_init 17 = .ok (.putfield 15, 3) := by decide +kernel
theorem dX6_init_20 : decode cX6_init 20 = .ok (.aload_n 0, 1) := by decide +kernel
theorem dX6_init_21 : decode cX6_init 21 = .ok (.iconst 0, 1) := by decide +kernel
theorem dX6_init_22 : decode cX6_init 22 = .ok (.putfield 18, 3) := by decide +kernel
theorem dX6_init_25 : decode cX6_init 25 = .ok (.return_, 1) := by decide +kernel
theorem dX6_size_0 : decode cX6_size 0 = .ok (.aload_n 0, 1) := by decide +kernel
theorem dX6_size_1 : decode cX6_size 1 = .ok (.getfield 18, 3) := by decide +kernel
theorem dX6_size_4 : decode cX6_size 4 = .ok (.ireturn, 1) := by decide +kernel
theorem dX6_cut_0 : decode cX6_cut 0 = .ok (.iload_n 1, 1) := by decide +kernel
theorem dX6_cut_1 : decode cX6_cut 1 = .ok (.ifCond .lt 16, 3) := by decide +kernel
theorem dX6_cut_4 : decode cX6_cut 4 = .ok (.iload_n 1, 1) := by decide +kernel
theorem dX6_cut_5 : decode cX6_cut 5 = .ok (.aload_n 0, 1) := by decide +kernel
theorem dX6_cut_6 : decode cX6_cut 6 = .ok (.getfield 18, 3) := by decide +kernel
theorem dX6_cut_9 : decode cX6_cut 9 = .ok (.if_icmp .ge 8, 3) := by decide +kernel
theorem dX6_cut_12 : decode cX6_cut 12 = .ok (.aload_n 0, 1) := by decide +kernel
theorem dX6_cut_13 : decode cX6_cut 13 = .ok (.iload_n 1, 1) := by decide +kernel
theorem dX6_cut_14 : decode cX6_cut 14 = .ok (.putfield 18, 3) := by decide +kernel
theorem dX6_cut_17 : decode cX6_cut 17 = .ok (.return_, 1) := by decide +kernel
set_option maxRecDepth 20000 in
theorem ggX6_append_X6_openAt : GoodIn wsX6_append wsX6_openAt := goodIn_r _ [8, 9, 10, 11, 7, 12, 1, 3, 13, 14, 15, 16, 2, 17, 18, 19, 20, 27, 28, 29] (by decide +kernel) (by decide +kernel)
set_option maxRecDepth 20000 in
theorem gX6_append_X6_openAt : GoodIn wsX6_append (wsV RX6 22 RX6 yX6_openAt wsX6_openAt) := goodIn_app (goodIn_of _ (by decide +kernel)) ggX6_append_X6_openAt
set_option maxRecDepth 20000 in
theorem ggX6_append_X5_isPlain : GoodIn wsX6_append wsX5_isPlain := goodIn_r _ [23] (by decide +kernel) (by decide +kernel)
set_option maxRecDepth 20000 in
theorem gX6_append_X5_isPlain : GoodIn wsX6_append (va_wsS RX6 26 yX5_isPlain wsX5_isPlain) := goodIn_app (goodIn_of _ (by decide +kernel)) ggX6_append_X5_isPlain
set_option maxRecDepth 20000 in
theorem ggX6_append_X5_closes : GoodIn wsX6_append wsX5_closes := goodIn_r _ [26] (by decide +kernel) (by decide +kernel)
set_option maxRecDepth 20000 in
theorem gX6_append_X5_closes : GoodIn wsX6_append (va_wsS RX6 32 yX5_closes wsX5_closes) := goodIn_app (goodIn_of _ (by decide +kernel)) ggX6_append_X5_closes
theorem dX6_append_0 : decode cX6_append 0 = .ok (.aload_n 0, 1) := by decide +kernel
theorem dX6_append_1 : decode cX6_append 1 = .ok (.getfield 18, 3) := by decide +kernel
theorem dX6_append_4 : decode cX6_append 4 = .ok (.bipush 24, 2) := by decide +kernel
theorem dX6_append_6 : decode cX6_append 6 = .ok (.if_icmp .lt 4, 3) := by decide +kernel
theorem dX6_append_9 : decode cX6_append 9 = .ok (.return_, 1) := by decide +kernel
theorem dX6_append_10 : decode cX6_append 10 = .ok (.aload_n 0, 1) := by decide +kernel
theorem dX6_append_11 : decode cX6_append 11 = .ok (.aload_n 0, 1) := by decide +kernel
theorem dX6_append_12 : decode cX6_append 12 = .ok (.getfield 18, 3) := by decide +kernel
theorem dX6_append_15 : decode cX6_append 15 = .ok (.invokevirtual 22, 3) := by decide +kernel
theorem dX6_append_18 : decode cX6_append 18 = .ok (.istore_n 2, 1) := by decide +kernel
theorem dX6_append_19 : decode cX6_append 19 = .ok (.aload_n 0, 1) := by decide +kernel
theorem dX6_append_20 : decode cX6_append 20 = .ok (.getfield 9, 3) := by decide +kernel
theorem dX6_append_23 : decode cX6_append 23 = .ok (.aload_n 0, 1) := by decide +kernel
theorem dX6_append_24 : decode cX6_append 24 = .ok (.getfield 18, 3) := by decide +kernel
theorem dX6_append_27 : decode cX6_append 27 = .ok (.iload_n 1, 1) := by decide +kernel
theorem dX6_append_28 : decode cX6_append 28 = .ok (.iastore, 1) := by decide +kernel
theorem dX6_append_29 : decode cX6_append 29 = .ok (.aload_n 0, 1) := by decide +kernel
theorem dX6_append_30 : decode cX6_append 30 = .ok (.dup, 1) := by decide +kernel
theorem dX6_append_31 : decode cX6_append 31 = .ok (.getfield 18, 3) := by decide +kernel
theorem dX6_append_34 : decode cX6_append 34 = .ok (.iconst 1, 1) := by decide +kernel
theorem dX6_append_35 : decode cX6_append 35 = .ok (.iadd, 1) := by decide +kernel
theorem dX6_append_36 : decode cX6_append 36 = .ok (.putfield 18, 3) := by decide +kernel
theorem dX6_append_39 : decode cX6_append 39 = .ok (.iload_n 1, 1) := by decide +kernel
theorem dX6_append_40 : decode cX6_append 40 = .ok (.invokestatic 26, 3) := by decide +kernel
theorem dX6_append_43 : decode cX6_append 43 = .ok (.ifCond .eq 26, 3) := by decide +kernel
theorem dX6_append_46 : decode cX6_append 46 = .ok (.aload_n 0, 1) := by decide +kernel
theorem dX6_append_47 : decode cX6_append 47 = .ok (.getfield 15, 3) := by decide +kernel
theorem dX6_append_50 : decode cX6_append 50 = .ok (.aload_n 0, 1) := by decide +kernel
theorem dX6_append_51 : decode cX6_append 51 = .ok (.getfield 18, 3) := by decide +kernel
theorem dX6_append_54 : decode cX6_append 54 = .ok (.aload_n 0, 1) := by decide +kernel
theorem dX6_append_55 : decode cX6_append 55 = .ok (.getfield 15, 3) := by decide +kernel
theorem dX6_append_58 : decode cX6_append 58 = .ok (.aload_n 0, 1) := by decide +kernel
theorem dX6_append_59 : decode cX6_append 59 = .ok (.getfield 18, 3) := by decide +kernel
theorem dX6_append_62 : decode cX6_append 62 = .ok (.iconst 1, 1) := by decide +kernel
theorem dX6_append_63 : decode cX6_append 63 = .ok (.isub, 1) := by decide +kernel
theorem dX6_append_64 : decode cX6_append 64 = .ok (.iaload, 1) := by decide +kernel
theorem dX6_append_65 : decode cX6_append 65 = .ok (.iastore, 1) := by decide +kernel
theorem dX6_append_66 : decode cX6_append 66 = .ok (.goto 46, 3) := by decide +kernel
theorem dX6_append_69 : decode cX6_append 69 = .ok (.iload_n 1, 1) := by decide +kernel
theorem dX6_append_70 : decode cX6_append 70 = .ok (.invokestatic 32, 3) := by decide +kernel
theorem dX6_append_73 : decode cX6_append 73 = .ok (.ifCond .eq 26, 3) := by decide +kernel
theorem dX6_append_76 : decode cX6_append 76 = .ok (.iload_n 2, 1) := by decide +kernel
theorem dX6_append_77 : decode cX6_append 77 = .ok (.iconst (-1), 1) := by decide +kernel
theorem dX6_append_78 : decode cX6_append 78 = .ok (.if_icmp .eq 21, 3) := by decide +kernel
theorem dX6_append_81 : decode cX6_append 81 = .ok (.aload_n 0, 1) := by decide +kernel
theorem dX6_append_82 : decode cX6_append 82 = .ok (.getfield 15, 3) := by decide +kernel
theorem dX6_append_85 : decode cX6_append 85 = .ok (.aload_n 0, 1) := by decide +kernel
theorem dX6_append_86 : decode cX6_append 86 = .ok (.getfield 18, 3) := by decide +kernel
theorem dX6_append_89 : decode cX6_append 89 = .ok (.aload_n 0, 1) := by decide +kernel
theorem dX6_append_90 : decode cX6_append 90 = .ok (.getfield 15, 3) := by decide +kernel
theorem dX6_append_93 : decode cX6_append 93 = .ok (.iload_n 2, 1) := by decide +kernel
theorem dX6_append_94 : decode cX6_append 94 = .ok (.iaload, 1) := by decide +kernel
theorem dX6_append_95 : decode cX6_append 95 = .ok (.iastore, 1) := by decide +kernel
theorem dX6_append_96 : decode cX6_append 96 = .ok (.goto 16, 3) := by decide +kernel
theorem dX6_append_99 : decode cX6_append 99 = .ok (.aload_n 0, 1) := by decide +kernel
theorem dX6_append_100 : decode cX6_append 100 = .ok (.getfield 15, 3) := by decide +kernel
theorem dX6_append_103 : decode cX6_append 103 = .ok (.aload_n 0, 1) := by decide +kernel
theorem dX6_append_104 : decode cX6_append 104 = .ok (.getfield 18, 3) := by decide +kernel
theorem dX6_append_107 : decode cX6_append 107 = .ok (.aload_n 0, 1) := by decide +kernel
theorem dX6_append_108 : decode cX6_append 108 = .ok (.getfield 18, 3) := by decide +kernel
theorem dX6_append_111 : decode cX6_append 111 = .ok (.iastore, 1) := by decide +kernel
theorem dX6_append_112 : decode cX6_append 112 = .ok (.return_, 1) := by decide +kernel
theorem dX6_letterAt_0 : decode cX6_letterAt 0 = .ok (.iload_n 1, 1) := by decide +kernel
theorem dX6_letterAt_1 : decode cX6_letterAt 1 = .ok (.ifCond .lt 20, 3) := by decide +kernel
theorem dX6_letterAt_4 : decode cX6_letterAt 4 = .ok (.iload_n 1, 1) := by decide +kernel
theorem dX6_letterAt_5 : decode cX6_letterAt 5 = .ok (.aload_n 0, 1) := by decide +kernel
theorem dX6_letterAt_6 : decode cX6_letterAt 6 = .ok (.getfield 18, 3) := by decide +kernel
theorem dX6_letterAt_9 : decode cX6_letterAt 9 = .ok (.if_icmp .ge 12, 3) := by decide +kernel
theorem dX6_letterAt_12 : decode cX6_letterAt 12 = .ok (.aload_n 0, 1) := by decide +kernel
theorem dX6_letterAt_13 : decode cX6_letterAt 13 = .ok (.getfield 9, 3) := by decide +kernel
theorem dX6_letterAt_16 : decode cX6_letterAt 16 = .ok (.iload_n 1, 1) := by decide +kernel
theorem dX6_letterAt_17 : decode cX6_letterAt 17 = .ok (.iaload, 1) := by decide +kernel
theorem dX6_letterAt_18 : decode cX6_letterAt 18 = .ok (.goto 4, 3) := by decide +kernel
theorem dX6_letterAt_21 : decode cX6_letterAt 21 = .ok (.iconst (-1), 1) := by decide +kernel
theorem dX6_letterAt_22 : decode cX6_letterAt 22 = .ok (.ireturn, 1) := by decide +kernel
theorem dX6_baseAt_0 : decode cX6_baseAt 0 = .ok (.iload_n 1, 1) := by decide +kernel
theorem dX6_baseAt_1 : decode cX6_baseAt 1 = .ok (.ifCond .lt 20, 3) := by decide +kernel
theorem dX6_baseAt_4 : decode cX6_baseAt 4 = .ok (.iload_n 1, 1) := by decide +kernel
theorem dX6_baseAt_5 : decode cX6_baseAt 5 = .ok (.aload_n 0, 1) := by decide +kernel
theorem dX6_baseAt_6 : decode cX6_baseAt 6 = .ok (.getfield 18, 3) := by decide +kernel
theorem dX6_baseAt_9 : decode cX6_baseAt 9 = .ok (.if_icmp .gt 12, 3) := by decide +kernel
theorem dX6_baseAt_12 : decode cX6_baseAt 12 = .ok (.aload_n 0, 1) := by decide +kernel
theorem dX6_baseAt_13 : decode cX6_baseAt 13 = .ok (.getfield 15, 3) := by decide +kernel
theorem dX6_baseAt_16 : decode cX6_baseAt 16 = .ok (.iload_n 1, 1) := by decide +kernel
theorem dX6_baseAt_17 : decode cX6_baseAt 17 = .ok (.iaload, 1) := by decide +kernel
theorem dX6_baseAt_18 : decode cX6_baseAt 18 = .ok (.goto 4, 3) := by decide +kernel
theorem dX6_baseAt_21 : decode cX6_baseAt 21 = .ok (.iconst 0, 1) := by decide +kernel
theorem dX6_baseAt_22 : decode cX6_baseAt 22 = .ok (.ireturn, 1) := by decide +kernel
set_option maxRecDepth 20000 in
theorem ggX6_openAt_X6_baseAt : GoodIn wsX6_openAt wsX6_baseAt := goodIn_r _ [5, 6, 7, 17, 18, 19] (by decide +kernel) (by decide +kernel)
set_option maxRecDepth 20000 in
theorem gX6_openAt_X6_baseAt : GoodIn wsX6_openAt (wsV RX6 35 RX6 yX6_baseAt wsX6_baseAt) := goodIn_app (goodIn_of _ (by decide +kernel)) ggX6_openAt_X6_baseAt
set_option maxRecDepth 20000 in
theorem ggX6_openAt_X6_letterAt : GoodIn wsX6_openAt wsX6_letterAt := goodIn_r _ [11, 6, 12, 17, 18, 19] (by decide +kernel) (by decide +kernel)
set_option maxRecDepth 20000 in
theorem gX6_openAt_X6_letterAt : GoodIn wsX6_openAt (wsV RX6 38 RX6 yX6_letterAt wsX6_letterAt) := goodIn_app (goodIn_of _ (by decide +kernel)) ggX6_openAt_X6_letterAt
set_option maxRecDepth 20000 in
theorem ggX6_openAt_X5_opens : GoodIn wsX6_openAt wsX5_opens := goodIn_r _ [16] (by decide +kernel) (by decide +kernel)
set_option maxRecDepth 20000 in
theorem gX6_openAt_X5_opens : GoodIn wsX6_openAt (va_wsS RX6 41 yX5_opens wsX5_opens) := goodIn_app (goodIn_of _ (by decide +kernel)) ggX6_openAt_X5_opens
theorem dX6_openAt_0 : decode cX6_openAt 0 = .ok (.aload_n 0, 1) := by decide +kernel
theorem dX6_openAt_1 : decode cX6_openAt 1 = .ok (.iload_n 1, 1) := by decide +kernel
theorem dX6_openAt_2 : decode cX6_openAt 2 = .ok (.invokevirtual 35, 3) := by decide +kernel
theorem dX6_openAt_5 : decode cX6_openAt 5 = .ok (.iconst 1, 1) := by decide +kernel
theorem dX6_openAt_6 : decode cX6_openAt 6 = .ok (.isub, 1) := by decide +kernel
theorem dX6_openAt_7 : decode cX6_openAt 7 = .ok (.istore_n 2, 1) := by decide +kernel
theorem dX6_openAt_8 : decode cX6_openAt 8 = .ok (.iload_n 2, 1) := by decide +kernel
theorem dX6_openAt_9 : decode cX6_openAt 9 = .ok (.ifCond .lt 18, 3) := by decide +kernel
theorem dX6_openAt_12 : decode cX6_openAt 12 = .ok (.aload_n 0, 1) := by decide +kernel
theorem dX6_openAt_13 : decode cX6_openAt 13 = .ok (.iload_n 2, 1) := by decide +kernel
theorem dX6_openAt_14 : decode cX6_openAt 14 = .ok (.invokevirtual 38, 3) := by decide +kernel
theorem dX6_openAt_17 : decode cX6_openAt 17 = .ok (.invokestatic 41, 3) := by decide +kernel
theorem dX6_openAt_20 : decode cX6_openAt 20 = .ok (.ifCond .eq 7, 3) := by decide +kernel
theorem dX6_openAt_23 : decode cX6_openAt 23 = .ok (.iload_n 2, 1) := by decide +kernel
theorem dX6_openAt_24 : decode cX6_openAt 24 = .ok (.goto 4, 3) := by decide +kernel
theorem dX6_openAt_27 : decode cX6_openAt 27 = .ok (.iconst (-1), 1) := by decide +kernel
theorem dX6_openAt_28 : decode cX6_openAt 28 = .ok (.ireturn, 1) := by decide +kernel
theorem dX6_isWhole_0 : decode cX6_isWhole 0 = .ok (.aload_n 0, 1) := by decide +kernel
theorem dX6_isWhole_1 : decode cX6_isWhole 1 = .ok (.getfield 15, 3) := by decide +kernel
theorem dX6_isWhole_4 : decode cX6_isWhole 4 = .ok (.aload_n 0, 1) := by decide +kernel
theorem dX6_isWhole_5 : decode cX6_isWhole 5 = .ok (.getfield 18, 3) := by decide +kernel
theorem dX6_isWhole_8 : decode cX6_isWhole 8 = .ok (.iaload, 1) := by decide +kernel
theorem dX6_isWhole_9 : decode cX6_isWhole 9 = .ok (.ifCond .ne 7, 3) := by decide +kernel
theorem dX6_isWhole_12 : decode cX6_isWhole 12 = .ok (.iconst 1, 1) := by decide +kernel
theorem dX6_isWhole_13 : decode cX6_isWhole 13 = .ok (.goto 4, 3) := by decide +kernel
theorem dX6_isWhole_16 : decode cX6_isWhole 16 = .ok (.iconst 0, 1) := by decide +kernel
theorem dX6_isWhole_17 : decode cX6_isWhole 17 = .ok (.ireturn, 1) := by decide +kernel
set_option maxRecDepth 20000 in
theorem ggX6_depthBehind_X6_openAt : GoodIn wsX6_depthBehind wsX6_openAt := goodIn_r _ [5, 6, 7, 8, 4, 9, 10, 11, 12, 13, 14, 15, 16, 17, 18, 19, 20, 21, 22, 23] (by decide +kernel) (by decide +kernel)
set_option maxRecDepth 20000 in
theorem gX6_depthBehind_X6_openAt : GoodIn wsX6_depthBehind (wsV RX6 22 RX6 yX6_openAt wsX6_openAt) := goodIn_app (goodIn_of _ (by decide +kernel)) ggX6_depthBehind_X6_openAt
theorem dX6_depthBehind_0 : decode cX6_depthBehind 0 = .ok (.iconst 0, 1) := by decide +kernel
theorem dX6_depthBehind_1 : decode cX6_depthBehind 1 = .ok (.istore_n 2, 1) := by decide +kernel
theorem dX6_depthBehind_2 : decode cX6_depthBehind 2 = .ok (.aload_n 0, 1) := by decide +kernel
theorem dX6_depthBehind_3 : decode cX6_depthBehind 3 = .ok (.iload_n 1, 1) := by decide +kernel
theorem dX6_depthBehind_4 : decode cX6_depthBehind 4 = .ok (.invokevirtual 22, 3) := by decide +kernel
theorem dX6_depthBehind_7 : decode cX6_depthBehind 7 = .ok (.istore_n 3, 1) := by decide +kernel
theorem dX6_depthBehind_8 : decode cX6_depthBehind 8 = .ok (.iload_n 3, 1) := by decide +kernel
theorem dX6_depthBehind_9 : decode cX6_depthBehind 9 = .ok (.iconst (-1), 1) := by decide +kernel
theorem dX6_depthBehind_10 : decode cX6_depthBehind 10 = .ok (.if_icmp .eq 21, 3) := by decide +kernel
theorem dX6_depthBehind_13 : decode cX6_depthBehind 13 = .ok (.iload_n 2, 1) := by decide +kernel
theorem dX6_depthBehind_14 : decode cX6_depthBehind 14 = .ok (.bipush 24, 2) := by decide +kernel
theorem dX6_depthBehind_16 : decode cX6_depthBehind 16 = .ok (.if_icmp .ge 15, 3) := by decide +kernel
theorem dX6_depthBehind_19 : decode cX6_depthBehind 19 = .ok (.iinc 2 1, 3) := by decide +kernel
theorem dX6_depthBehind_22 : decode cX6_depthBehind 22 = .ok (.aload_n 0, 1) := by decide +kernel
theorem dX6_depthBehind_23 : decode cX6_depthBehind 23 = .ok (.iload_n 3, 1) := by decide +kernel
theorem dX6_depthBehind_24 : decode cX6_depthBehind 24 = .ok (.invokevirtual 22, 3) := by decide +kernel
theorem dX6_depthBehind_27 : decode cX6_depthBehind 27 = .ok (.istore_n 3, 1) := by decide +kernel
theorem dX6_depthBehind_28 : decode cX6_depthBehind 28 = .ok (.goto (-20), 3) := by decide +kernel
theorem dX6_depthBehind_31 : decode cX6_depthBehind 31 = .ok (.iload_n 2, 1) := by decide +kernel
theorem dX6_depthBehind_32 : decode cX6_depthBehind 32 = .ok (.ireturn, 1) := by decide +kernel
set_option maxRecDepth 20000 in
theorem ggX6_partnerOf_X6_letterAt : GoodIn wsX6_partnerOf wsX6_letterAt := goodIn_r _ [6, 1, 7, 24, 25, 26] (by decide +kernel) (by decide +kernel)
set_option maxRecDepth 20000 in
theorem gX6_partnerOf_X6_letterAt : GoodIn wsX6_partnerOf (wsV RX6 38 RX6 yX6_letterAt wsX6_letterAt) := goodIn_app (goodIn_of _ (by decide +kernel)) ggX6_partnerOf_X6_letterAt
set_option maxRecDepth 20000 in
theorem ggX6_partnerOf_X5_closes : GoodIn wsX6_partnerOf wsX5_closes := goodIn_r _ [11] (by decide +kernel) (by decide +kernel)
set_option maxRecDepth 20000 in
theorem gX6_partnerOf_X5_closes : GoodIn wsX6_partnerOf (va_wsS RX6 32 yX5_closes wsX5_closes) := goodIn_app (goodIn_of _ (by decide +kernel)) ggX6_partnerOf_X5_closes
set_option maxRecDepth 20000 in
theorem ggX6_partnerOf_X6_openAt : GoodIn wsX6_partnerOf wsX6_openAt := goodIn_r _ [15, 16, 17, 18, 5, 19, 1, 20, 2, 3, 4, 6, 7, 21, 22, 10, 23, 24, 25, 26] (by decide +kernel) (by decide +kernel)
set_option maxRecDepth 20000 in
theorem gX6_partnerOf_X6_openAt : GoodIn wsX6_partnerOf (wsV RX6 22 RX6 yX6_openAt wsX6_openAt) := goodIn_app (goodIn_of _ (by decide +kernel)) ggX6_partnerOf_X6_openAt
set_option maxRecDepth 20000 in
theorem ggX6_partnerOf_X5_opens : GoodIn wsX6_partnerOf wsX5_opens := goodIn_r _ [23] (by decide +kernel) (by decide +kernel)
set_option maxRecDepth 20000 in
theorem gX6_partnerOf_X5_opens : GoodIn wsX6_partnerOf (va_wsS RX6 41 yX5_opens wsX5_opens) := goodIn_app (goodIn_of _ (by decide +kernel)) ggX6_partnerOf_X5_opens
theorem dX6_partnerOf_0 : decode cX6_partnerOf 0 = .ok (.aload_n 0, 1) := by decide +kernel
theorem dX6_partnerOf_1 : decode cX6_partnerOf 1 = .ok (.iload_n 1, 1) := by decide +kernel
theorem dX6_partnerOf_2 : decode cX6_partnerOf 2 = .ok (.invokevirtual 38, 3) := by decide +kernel
theorem dX6_partnerOf_5 : decode cX6_partnerOf 5 = .ok (.istore_n 2, 1) := by decide +kernel
theorem dX6_partnerOf_6 : decode cX6_partnerOf 6 = .ok (.iload_n 2, 1) := by decide +kernel
theorem dX6_partnerOf_7 : decode cX6_partnerOf 7 = .ok (.invokestatic 32, 3) := by decide +kernel
theorem dX6_partnerOf_10 : decode cX6_partnerOf 10 = .ok (.ifCond .eq 9, 3) := by decide +kernel
theorem dX6_partnerOf_13 : decode cX6_partnerOf 13 = .ok (.aload_n 0, 1) := by decide +kernel
theorem dX6_partnerOf_14 : decode cX6_partnerOf 14 = .ok (.iload_n 1, 1) := by decide +kernel
theorem dX6_partnerOf_15 : decode cX6_partnerOf 15 = .ok (.invokevirtual 22, 3) := by decide +kernel
theorem dX6_partnerOf_18 : decode cX6_partnerOf 18 = .ok (.ireturn, 1) := by decide +kernel
theorem dX6_partnerOf_19 : decode cX6_partnerOf 19 = .ok (.iload_n 1, 1) := by decide +kernel
theorem dX6_partnerOf_20 : decode cX6_partnerOf 20 = .ok (.iconst 1, 1) := by decide +kernel
theorem dX6_partnerOf_21 : decode cX6_partnerOf 21 = .ok (.iadd, 1) := by decide +kernel
theorem dX6_partnerOf_22 : decode cX6_partnerOf 22 = .ok (.istore_n 3, 1) := by decide +kernel
theorem dX6_partnerOf_23 : decode cX6_partnerOf 23 = .ok (.iload_n 3, 1) := by decide +kernel
theorem dX6_partnerOf_24 : decode cX6_partnerOf 24 = .ok (.aload_n 0, 1) := by decide +kernel
theorem dX6_partnerOf_25 : decode cX6_partnerOf 25 = .ok (.getfield 18, 3) := by decide +kernel
theorem dX6_partnerOf_28 : decode cX6_partnerOf 28 = .ok (.if_icmp .ge 38, 3) := by decide +kernel
theorem dX6_partnerOf_31 : decode cX6_partnerOf 31 = .ok (.iload_n 2, 1) := by decide +kernel
theorem dX6_partnerOf_32 : decode cX6_partnerOf 32 = .ok (.invokestatic 41, 3) := by decide +kernel
theorem dX6_partnerOf_35 : decode cX6_partnerOf 35 = .ok (.ifCond .eq 31, 3) := by decide +kernel
theorem dX6_partnerOf_38 : decode cX6_partnerOf 38 = .ok (.aload_n 0, 1) := by decide +kernel
theorem dX6_partnerOf_39 : decode cX6_partnerOf 39 = .ok (.iload_n 3, 1) := by decide +kernel
theorem dX6_partnerOf_40 : decode cX6_partnerOf 40 = .ok (.invokevirtual 38, 3) := by decide +kernel
theorem dX6_partnerOf_43 : decode cX6_partnerOf 43 = .ok (.invokestatic 32, 3) := by decide +kernel
theorem dX6_partnerOf_46 : decode cX6_partnerOf 46 = .ok (.ifCond .eq 14, 3) := by decide +kernel
theorem dX6_partnerOf_49 : decode cX6_partnerOf 49 = .ok (.aload_n 0, 1) := by decide +kernel
theorem dX6_partnerOf_50 : decode cX6_partnerOf 50 = .ok (.iload_n 3, 1) := by decide +kernel
theorem dX6_partnerOf_51 : decode cX6_partnerOf 51 = .ok (.invokevirtual 22, 3) := by decide +kernel
theorem dX6_partnerOf_54 : decode cX6_partnerOf 54 = .ok (.iload_n 1, 1) := by decide +kernel
theorem dX6_partnerOf_55 : decode cX6_partnerOf 55 = .ok (.if_icmp .ne 5, 3) := by decide +kernel
theorem dX6_partnerOf_58 : decode cX6_partnerOf 58 = .ok (.iload_n 3, 1) := by decide +kernel
theorem dX6_partnerOf_59 : decode cX6_partnerOf 59 = .ok (.ireturn, 1) := by decide +kernel
theorem dX6_partnerOf_60 : decode cX6_partnerOf 60 = .ok (.iinc 3 1, 3) := by decide +kernel
theorem dX6_partnerOf_63 : decode cX6_partnerOf 63 = .ok (.goto (-40), 3) := by decide +kernel
theorem dX6_partnerOf_66 : decode cX6_partnerOf 66 = .ok (.iconst (-1), 1) := by decide +kernel
theorem dX6_partnerOf_67 : decode cX6_partnerOf 67 = .ok (.ireturn, 1) := by decide +kernel
theorem dX7_init_0 : decode cX7_init 0 = .ok (.aload_n 0, 1) := by decide +kernel
theorem dX7_init_1 : decode cX7_init 1 = .ok (.invokespecial 3, 3) := by decide +kernel
theorem dX7_init_4 : decode cX7_init 4 = .ok (.aload_n 0, 1) := by decide +kernel
theorem dX7_init_5 : decode cX7_init 5 = .ok (.bipush 75, 2) := by decide +kernel
theorem dX7_init_7 : decode cX7_init 7 = .ok (.newarray .long, 2) := by decide +kernel
theorem dX7_init_9 : decode cX7_init 9 = .ok (.putfield 9, 3) := by decide +kernel
theorem dX7_init_12 : decode cX7_init 12 = .ok (.aload_n 0, 1) := by decide +kernel
theorem dX7_init_13 : decode cX7_init 13 = .ok (.sipush 225, 3) := by decide +kernel
theorem dX7_init_16 : decode cX7_init 16 = .ok (.newarray .long, 2) := by decide +kernel
theorem dX7_init_18 : decode cX7_init 18 = .ok (.putfield 15, 3) := by decide +kernel
theorem dX7_init_21 : decode cX7_init 21 = .ok (.aload_n 0, 1) := by decide +kernel
theorem dX7_init_22 : decode cX7_init 22 = .ok (.bipush 9, 2) := by decide +kernel
theorem dX7_init_24 : decode cX7_init 24 = .ok (.newarray .long, 2) := by decide +kernel
theorem dX7_init_26 : decode cX7_init 26 = .ok (.putfield 18, 3) := by decide +kernel
theorem dX7_init_29 : decode cX7_init 29 = .ok (.aload_n 0, 1) := by decide +kernel
theorem dX7_init_30 : decode cX7_init 30 = .ok (.bipush 9, 2) := by decide +kernel
theorem dX7_init_32 : decode cX7_init 32 = .ok (.newarray .long, 2) := by decide +kernel
theorem dX7_init_34 : decode cX7_init 34 = .ok (.putfield 21, 3) := by decide +kernel
theorem dX7_init_37 : decode cX7_init 37 = .ok (.return_, 1) := by decide +kernel
set_option maxRecDepth 20000 in
theorem ggX7_runs_X7_beginSince : GoodIn wsX7_runs wsX7_beginSince := goodIn_r _ [7, 8, 64, 65, 66, 67] (by decide +kernel) (by decide +kernel)
set_option maxRecDepth 20000 in
theorem gX7_runs_X7_beginSince : GoodIn wsX7_runs (wsV RX7 24 RX7 yX7_beginSince wsX7_beginSince) := goodIn_app (goodIn_of _ (by decide +kernel)) ggX7_runs_X7_beginSince
set_option maxRecDepth 20000 in
theorem ggX7_runs_X7_step : GoodIn wsX7_runs wsX7_step := goodIn_r _ [12, 13, 14, 15, 16, 17, 18, 19, 20, 21, 22, 23, 24, 25, 26, 27, 28, 29, 30, 31, 32, 33, 34, 35, 36, 6, 37, 38, 39, 40, 41, 42, 43, 44, 45, 46, 47, 48, 49, 50, 51, 1, 8, 52, 53, 54, 55, 2, 3, 4, 5, 7, 56, 57, 58, 59, 60, 61, 62, 63, 64, 65, 66, 67, 68, 69, 70, 71, 72, 73, 74, 75] (by decide +kernel) (by decide +kernel)
set_option maxRecDepth 20000 in
theorem gX7_runs_X7_step : GoodIn wsX7_runs (wsV RX7 28 RX7 yX7_step wsX7_step) := goodIn_app (goodIn_of _ (by decide +kernel)) ggX7_runs_X7_step
theorem dX7_runs_0 : decode cX7_runs 0 = .ok (.aload_n 0, 1) := by decide +kernel
theorem dX7_runs_1 : decode cX7_runs 1 = .ok (.getfield 9, 3) := by decide +kernel
theorem dX7_runs_4 : decode cX7_runs 4 = .ok (.iconst 0, 1) := by decide +kernel
theorem dX7_runs_5 : decode cX7_runs 5 = .ok (.lconst 1, 1) := by decide +kernel
theorem dX7_runs_6 : decode cX7_runs 6 = .ok (.lastore, 1) := by decide +kernel
theorem dX7_runs_7 : decode cX7_runs 7 = .ok (.aload_n 0, 1) := by decide +kernel
theorem dX7_runs_8 : decode cX7_runs 8 = .ok (.getfield 9, 3) := by decide +kernel
theorem dX7_runs_11 : decode cX7_runs 11 = .ok (.iconst 1, 1) := by decide +kernel
theorem dX7_runs_12 : decode cX7_runs 12 = .ok (.lconst 0, 1) := by decide +kernel
theorem dX7_runs_13 : decode cX7_runs 13 = .ok (.lastore, 1) := by decide +kernel
theorem dX7_runs_14 : decode cX7_runs 14 = .ok (.aload_n 0, 1) := by decide +kernel
theorem dX7_runs_15 : decode cX7_runs 15 = .ok (.getfield 9, 3) := by decide +kernel
theorem dX7_runs_18 : decode cX7_runs 18 = .ok (.iconst 2, 1) := by decide +kernel
theorem dX7_runs_19 : decode cX7_runs 19 = .ok (.lconst 0, 1) := by decide +kernel
theorem dX7_runs_20 : decode cX7_runs 20 = .ok (.lastore, 1) := by decide +kernel
theorem dX7_runs_21 : decode cX7_runs 21 = .ok (.aload_n 0, 1) := by decide +kernel
theorem dX7_runs_22 : decode cX7_runs 22 = .ok (.iconst 0, 1) := by decide +kernel
theorem dX7_runs_23 : decode cX7_runs 23 = .ok (.invokevirtual 24, 3) := by decide +kernel
theorem dX7_runs_26 : decode cX7_runs 26 = .ok (.iconst 0, 1) := by decide +kernel
theorem dX7_runs_27 : decode cX7_runs 27 = .ok (.istore 4, 2) := by decide +kernel
theorem dX7_runs_29 : decode cX7_runs 29 = .ok (.iload 4, 2) := by decide +kernel
theorem dX7_runs_31 : decode cX7_runs 31 = .ok (.iload_n 3, 1) := by decide +kernel
theorem dX7_runs_32 : decode cX7_runs 32 = .ok (.if_icmp .ge 24, 3) := by decide +kernel
theorem dX7_runs_35 : decode cX7_runs 35 = .ok (.iload 4, 2) := by decide +kernel
theorem dX7_runs_37 : decode cX7_runs 37 = .ok (.bipush 24, 2) := by decide +kernel
theorem dX7_runs_39 : decode cX7_runs 39 = .ok (.if_icmp .ge 17, 3) := by decide +kernel
theorem dX7_runs_42 : decode cX7_runs 42 = .ok (.aload_n 0, 1) := by decide +kernel
theorem dX7_runs_43 : decode cX7_runs 43 = .ok (.aload_n 1, 1) := by decide +kernel
theorem dX7_runs_44 : decode cX7_runs 44 = .ok (.aload_n 2, 1) := by decide +kernel
theorem dX7_runs_45 : decode cX7_runs 45 = .ok (.iload 4, 2) := by decide +kernel
theorem dX7_runs_47 : decode cX7_runs 47 = .ok (.invokevirtual 28, 3) := by decide +kernel
theorem dX7_runs_50 : decode cX7_runs 50 = .ok (.iinc 4 1, 3) := by decide +kernel
theorem dX7_runs_53 : decode cX7_runs 53 = .ok (.goto (-24), 3) := by decide +kernel
theorem dX7_runs_56 : decode cX7_runs 56 = .ok (.lconst 0, 1) := by decide +kernel
theorem dX7_runs_57 : decode cX7_runs 57 = .ok (.lstore 4, 2) := by decide +kernel
theorem dX7_runs_59 : decode cX7_runs 59 = .ok (.iconst 0, 1) := by decide +kernel
theorem dX7_runs_60 : decode cX7_runs 60 = .ok (.istore 6, 2) := by decide +kernel
theorem dX7_runs_62 : decode cX7_runs 62 = .ok (.iload 6, 2) := by decide +kernel
theorem dX7_runs_64 : decode cX7_runs 64 = .ok (.iconst 3, 1) := by decide +kernel
theorem dX7_runs_65 : decode cX7_runs 65 = .ok (.if_icmp .ge 35, 3) := by decide +kernel
theorem dX7_runs_68 : decode cX7_runs 68 = .ok (.iload_n 3, 1) := by decide +kernel
theorem dX7_runs_69 : decode cX7_runs 69 = .ok (.ifCond .lt 31, 3) := by decide +kernel
theorem dX7_runs_72 : decode cX7_runs 72 = .ok (.iload_n 3, 1) := by decide +kernel
theorem dX7_runs_73 : decode cX7_runs 73 = .ok (.bipush 24, 2) := by decide +kernel
theorem dX7_runs_75 : decode cX7_runs 75 = .ok (.if_icmp .gt 25, 3) := by decide +kernel
theorem dX7_runs_78 : decode cX7_runs 78 = .ok (.lload 4, 2) := by decide +kernel
theorem dX7_runs_80 : decode cX7_runs 80 = .ok (.aload_n 0, 1) := by decide +kernel
theorem dX7_runs_81 : decode cX7_runs 81 = .ok (.getfield 9, 3) := by decide +kernel
theorem dX7_runs_84 : decode cX7_runs 84 = .ok (.iconst 3, 1) := by decide +kernel
theorem dX7_runs_85 : decode cX7_runs 85 = .ok (.iload_n 3, 1) := by decide +kernel
theorem dX7_runs_86 : decode cX7_runs 86 = .ok (.imul, 1) := by decide +kernel
theorem dX7_runs_87 : decode cX7_runs 87 = .ok (.iload 6, 2) := by decide +kernel
theorem dX7_runs_89 : decode cX7_runs 89 = .ok (.iadd, 1) := by decide +kernel
theorem dX7_runs_90 : decode cX7_runs 90 = .ok (.laload, 1) := by decide +kernel
theorem dX7_runs_91 : decode cX7_runs 91 = .ok (.ladd, 1) := by decide +kernel
theorem dX7_runs_92 : decode cX7_runs 92 = .ok (.lstore 4, 2) := by decide +kernel
theorem dX7_runs_94 : decode cX7_runs 94 = .ok (.iinc 6 1, 3) := by decide +kernel
theorem dX7_runs_97 : decode cX7_runs 97 = .ok (.goto (-35), 3) := by decide +kernel
theorem dX7_runs_100 : decode cX7_runs 100 = .ok (.lload 4, 2) := by decide +kernel
theorem dX7_runs_102 : decode cX7_runs 102 = .ok (.ldc2_w 32, 3) := by decide +kernel
theorem dX7_runs_105 : decode cX7_runs 105 = .ok (.lrem, 1) := by decide +kernel
theorem dX7_runs_106 : decode cX7_runs 106 = .ok (.l2i, 1) := by decide +kernel
theorem dX7_runs_107 : decode cX7_runs 107 = .ok (.ireturn, 1) := by decide +kernel
set_option maxRecDepth 20000 in
theorem ggX7_step_X6_letterAt : GoodIn wsX7_step wsX6_letterAt := goodIn_r _ [6, 7, 8, 64, 65, 66] (by decide +kernel) (by decide +kernel)
set_option maxRecDepth 20000 in
theorem gX7_step_X6_letterAt : GoodIn wsX7_step (wsV RX7 34 RX6 yX6_letterAt wsX6_letterAt) := goodIn_app (goodIn_of _ (by decide +kernel)) ggX7_step_X6_letterAt
set_option maxRecDepth 20000 in
theorem ggX7_step_X6_openAt : GoodIn wsX7_step wsX6_openAt := goodIn_r _ [12, 13, 14, 15, 5, 16, 7, 17, 18, 3, 4, 6, 8, 19, 20, 21, 22, 64, 65, 66] (by decide +kernel) (by decide +kernel)
set_option maxRecDepth 20000 in
theorem gX7_step_X6_openAt : GoodIn wsX7_step (wsV RX7 40 RX6 yX6_openAt wsX6_openAt) := goodIn_app (goodIn_of _ (by decide +kernel)) ggX7_step_X6_openAt
set_option maxRecDepth 20000 in
theorem ggX7_step_X7_clear : GoodIn wsX7_step wsX7_clear := goodIn_r _ [26] (by decide +kernel) (by decide +kernel)
set_option maxRecDepth 20000 in
theorem gX7_step_X7_clear : GoodIn wsX7_step (va_wsS RX7 43 yX7_clear wsX7_clear) := goodIn_app (goodIn_of _ (by decide +kernel)) ggX7_step_X7_clear
set_option maxRecDepth 20000 in
theorem ggX7_step_X5_opens : GoodIn wsX7_step wsX5_opens := goodIn_r _ [22] (by decide +kernel) (by decide +kernel)
set_option maxRecDepth 20000 in
theorem gX7_step_X5_opens : GoodIn wsX7_step (va_wsS RX7 47 yX5_opens wsX5_opens) := goodIn_app (goodIn_of _ (by decide +kernel)) ggX7_step_X5_opens
set_option maxRecDepth 20000 in
theorem ggX7_step_X5_way : GoodIn wsX7_step wsX5_way := goodIn_r _ [31, 32, 67, 68, 69, 70, 71] (by decide +kernel) (by decide +kernel)
set_option maxRecDepth 20000 in
theorem gX7_step_X5_way : GoodIn wsX7_step (wsV RX7 53 RX5 yX5_way wsX5_way) := goodIn_app (goodIn_of _ (by decide +kernel)) ggX7_step_X5_way
set_option maxRecDepth 20000 in
theorem ggX7_step_X7_addWay : GoodIn wsX7_step wsX7_addWay := goodIn_r _ [36, 1, 60, 61, 62, 63] (by decide +kernel) (by decide +kernel)
set_option maxRecDepth 20000 in
theorem gX7_step_X7_addWay : GoodIn wsX7_step (wsV RX7 57 RX7 yX7_addWay wsX7_addWay) := goodIn_app (goodIn_of _ (by decide +kernel)) ggX7_step_X7_addWay
set_option maxRecDepth 20000 in
theorem ggX7_step_X7_goOn : GoodIn wsX7_step wsX7_goOn := goodIn_r _ [40, 41, 42, 43, 44, 45, 25, 46, 47, 1, 60, 61, 62, 63] (by decide +kernel) (by decide +kernel)
set_option maxRecDepth 20000 in
theorem gX7_step_X7_goOn : GoodIn wsX7_step (wsV RX7 60 RX7 yX7_goOn wsX7_goOn) := goodIn_app (goodIn_of _ (by decide +kernel)) ggX7_step_X7_goOn
set_option maxRecDepth 20000 in
theorem ggX7_step_X7_beginSince : GoodIn wsX7_step wsX7_beginSince := goodIn_r _ [51, 42, 60, 61, 62, 63] (by decide +kernel) (by decide +kernel)
set_option maxRecDepth 20000 in
theorem gX7_step_X7_beginSince : GoodIn wsX7_step (wsV RX7 24 RX7 yX7_beginSince wsX7_beginSince) := goodIn_app (goodIn_of _ (by decide +kernel)) ggX7_step_X7_beginSince
set_option maxRecDepth 20000 in
theorem ggX7_step_X5_isPlain : GoodIn wsX7_step wsX5_isPlain := goodIn_r _ [54] (by decide +kernel) (by decide +kernel)
set_option maxRecDepth 20000 in
theorem gX7_step_X5_isPlain : GoodIn wsX7_step (va_wsS RX7 64 yX5_isPlain wsX5_isPlain) := goodIn_app (goodIn_of _ (by decide +kernel)) ggX7_step_X5_isPlain
set_option maxRecDepth 20000 in
theorem ggX7_step_X7_addWrapped : GoodIn wsX7_step wsX7_addWrapped := goodIn_r _ [58, 59, 42, 1, 47, 23, 24, 25, 26, 60, 61, 62, 63] (by decide +kernel) (by decide +kernel)
set_option maxRecDepth 20000 in
theorem gX7_step_X7_addWrapped : GoodIn wsX7_step (wsV RX7 67 RX7 yX7_addWrapped wsX7_addWrapped) := goodIn_app (goodIn_of _ (by decide +kernel)) ggX7_step_X7_addWrapped
theorem dX7_step_0 : decode cX7_step 0 = .ok (.aload_n 2, 1) := by decide +kernel
theorem dX7_step_1 : decode cX7_step 1 = .ok (.iload_n 3, 1) := by decide +kernel
theorem dX7_step_2 : decode cX7_step 2 = .ok (.invokevirtual 34, 3) := by decide +kernel
theorem dX7_step_5 : decode cX7_step 5 = .ok (.istore 4, 2) := by decide +kernel
theorem dX7_step_7 : decode cX7_step 7 = .ok (.aload_n 2, 1) := by decide +kernel
theorem dX7_step_8 : decode cX7_step 8 = .ok (.iload_n 3, 1) := by decide +kernel
theorem dX7_step_9 : decode cX7_step 9 = .ok (.invokevirtual 40, 3) := by decide +kernel
theorem dX7_step_12 : decode cX7_step 12 = .ok (.istore 5, 2) := by decide +kernel
theorem dX7_step_14 : decode cX7_step 14 = .ok (.aload_n 0, 1) := by decide +kernel
theorem dX7_step_15 : decode cX7_step 15 = .ok (.getfield 18, 3) := by decide +kernel
theorem dX7_step_18 : decode cX7_step 18 = .ok (.invokestatic 43, 3) := by decide +kernel
theorem dX7_step_21 : decode cX7_step 21 = .ok (.iload 4, 2) := by decide +kernel
theorem dX7_step_23 : decode cX7_step 23 = .ok (.invokestatic 47, 3) := by decide +kernel
theorem dX7_step_26 : decode cX7_step 26 = .ok (.ifCond .eq 43, 3) := by decide +kernel
theorem dX7_step_29 : decode cX7_step 29 = .ok (.aload_n 0, 1) := by decide +kernel
theorem dX7_step_30 : decode cX7_step 30 = .ok (.aload_n 1, 1) := by decide +kernel
theorem dX7_step_31 : decode cX7_step 31 = .ok (.iload 4, 2) := by decide +kernel
theorem dX7_step_33 : decode cX7_step 33 = .ok (.iconst 0, 1) := by decide +kernel
theorem dX7_step_34 : decode cX7_step 34 = .ok (.invokevirtual 53, 3) := by decide +kernel
theorem dX7_step_37 : decode cX7_step 37 = .ok (.invokevirtual 57, 3) := by decide +kernel
theorem dX7_step_40 : decode cX7_step 40 = .ok (.aload_n 0, 1) := by decide +kernel
theorem dX7_step_41 : decode cX7_step 41 = .ok (.aload_n 1, 1) := by decide +kernel
theorem dX7_step_42 : decode cX7_step 42 = .ok (.iload 4, 2) := by decide +kernel
theorem dX7_step_44 : decode cX7_step 44 = .ok (.iconst 1, 1) := by decide +kernel
theorem dX7_step_45 : decode cX7_step 45 = .ok (.invokevirtual 53, 3) := by decide +kernel
theorem dX7_step_48 : decode cX7_step 48 = .ok (.invokevirtual 57, 3) := by decide +kernel
theorem dX7_step_51 : decode cX7_step 51 = .ok (.aload_n 0, 1) := by decide +kernel
theorem dX7_step_52 : decode cX7_step 52 = .ok (.iload_n 3, 1) := by decide +kernel
theorem dX7_step_53 : decode cX7_step 53 = .ok (.iload_n 3, 1) := by decide +kernel
theorem dX7_step_54 : decode cX7_step 54 = .ok (.iconst 1, 1) := by decide +kernel
theorem dX7_step_55 : decode cX7_step 55 = .ok (.iadd, 1) := by decide +kernel
theorem dX7_step_56 : decode cX7_step 56 = .ok (.invokevirtual 60, 3) := by decide +kernel
theorem dX7_step_59 : decode cX7_step 59 = .ok (.aload_n 0, 1) := by decide +kernel
theorem dX7_step_60 : decode cX7_step 60 = .ok (.iload_n 3, 1) := by decide +kernel
theorem dX7_step_61 : decode cX7_step 61 = .ok (.iconst 1, 1) := by decide +kernel
theorem dX7_step_62 : decode cX7_step 62 = .ok (.iadd, 1) := by decide +kernel
theorem dX7_step_63 : decode cX7_step 63 = .ok (.invokevirtual 24, 3) := by decide +kernel
theorem dX7_step_66 : decode cX7_step 66 = .ok (.goto 122, 3) := by decide +kernel
theorem dX7_step_69 : decode cX7_step 69 = .ok (.iload 4, 2) := by decide +kernel
theorem dX7_step_71 : decode cX7_step 71 = .ok (.invokestatic 64, 3) := by decide +kernel
theorem dX7_step_74 : decode cX7_step 74 = .ok (.ifCond .eq 25, 3) := by decide +kernel
theorem dX7_step_77 : decode cX7_step 77 = .ok (.aload_n 0, 1) := by decide +kernel
theorem dX7_step_78 : decode cX7_step 78 = .ok (.aload_n 1, 1) := by decide +kernel
theorem dX7_step_79 : decode cX7_step 79 = .ok (.iload 4, 2) := by decide +kernel
theorem dX7_step_81 : decode cX7_step 81 = .ok (.iconst 0, 1) := by decide +kernel
theorem dX7_step_82 : decode cX7_step 82 = .ok (.invokevirtual 53, 3) := by decide +kernel
theorem dX7_step_85 : decode cX7_step 85 = .ok (.invokevirtual 57, 3) := by decide +kernel
theorem dX7_step_88 : decode cX7_step 88 = .ok (.aload_n 0, 1) := by decide +kernel
theorem dX7_step_89 : decode cX7_step 89 = .ok (.iload_n 3, 1) := by decide +kernel
theorem dX7_step_90 : decode cX7_step 90 = .ok (.iload_n 3, 1) := by decide +kernel
theorem dX7_step_91 : decode cX7_step 91 = .ok (.iconst 1, 1) := by decide +kernel
theorem dX7_step_92 : decode cX7_step 92 = .ok (.iadd, 1) := by decide +kernel
theorem dX7_step_93 : decode cX7_step 93 = .ok (.invokevirtual 60, 3) := by decide +kernel
theorem dX7_step_96 : decode cX7_step 96 = .ok (.goto 92, 3) := by decide +kernel
theorem dX7_step_99 : decode cX7_step 99 = .ok (.iload 5, 2) := by decide +kernel
theorem dX7_step_101 : decode cX7_step 101 = .ok (.ifCond .lt 61, 3) := by decide +kernel
theorem dX7_step_104 : decode cX7_step 104 = .ok (.iload 5, 2) := by decide +kernel
theorem dX7_step_106 : decode cX7_step 106 = .ok (.iload_n 3, 1) := by decide +kernel
theorem dX7_step_107 : decode cX7_step 107 = .ok (.if_icmp .ge 55, 3) := by decide +kernel
theorem dX7_step_110 : decode cX7_step 110 = .ok (.iconst 0, 1) := by decide +kernel
theorem dX7_step_111 : decode cX7_step 111 = .ok (.istore 6, 2) := by decide +kernel
theorem dX7_step_113 : decode cX7_step 113 = .ok (.iload 6, 2) := by decide +kernel
theorem dX7_step_115 : decode cX7_step 115 = .ok (.iconst 2, 1) := by decide +kernel
theorem dX7_step_116 : decode cX7_step 116 = .ok (.if_icmp .ge 34, 3) := by decide +kernel
theorem dX7_step_119 : decode cX7_step 119 = .ok (.aload_n 0, 1) := by decide +kernel
theorem dX7_step_120 : decode cX7_step 120 = .ok (.aload_n 1, 1) := by decide +kernel
theorem dX7_step_121 : decode cX7_step 121 = .ok (.aload_n 2, 1) := by decide +kernel
theorem dX7_step_122 : decode cX7_step 122 = .ok (.iload 5, 2) := by decide +kernel
theorem dX7_step_124 : decode cX7_step 124 = .ok (.invokevirtual 34, 3) := by decide +kernel
theorem dX7_step_127 : decode cX7_step 127 = .ok (.iload 6, 2) := by decide +kernel
theorem dX7_step_129 : decode cX7_step 129 = .ok (.invokevirtual 53, 3) := by decide +kernel
theorem dX7_step_132 : decode cX7_step 132 = .ok (.iload_n 3, 1) := by decide +kernel
theorem dX7_step_133 : decode cX7_step 133 = .ok (.aload_n 1, 1) := by decide +kernel
theorem dX7_step_134 : decode cX7_step 134 = .ok (.iload 4, 2) := by decide +kernel
theorem dX7_step_136 : decode cX7_step 136 = .ok (.iload 6, 2) := by decide +kernel
theorem dX7_step_138 : decode cX7_step 138 = .ok (.invokevirtual 53, 3) := by decide +kernel
theorem dX7_step_141 : decode cX7_step 141 = .ok (.invokevirtual 67, 3) := by decide +kernel
theorem dX7_step_144 : decode cX7_step 144 = .ok (.iinc 6 1, 3) := by decide +kernel
theorem dX7_step_147 : decode cX7_step 147 = .ok (.goto (-34), 3) := by decide +kernel
theorem dX7_step_150 : decode cX7_step 150 = .ok (.aload_n 0, 1) := by decide +kernel
theorem dX7_step_151 : decode cX7_step 151 = .ok (.iload 5, 2) := by decide +kernel
theorem dX7_step_153 : decode cX7_step 153 = .ok (.iload_n 3, 1) := by decide +kernel
theorem dX7_step_154 : decode cX7_step 154 = .ok (.iconst 1, 1) := by decide +kernel
theorem dX7_step_155 : decode cX7_step 155 = .ok (.iadd, 1) := by decide +kernel
theorem dX7_step_156 : decode cX7_step 156 = .ok (.invokevirtual 60, 3) := by decide +kernel
theorem dX7_step_159 : decode cX7_step 159 = .ok (.goto 29, 3) := by decide +kernel
theorem dX7_step_162 : decode cX7_step 162 = .ok (.aload_n 0, 1) := by decide +kernel
theorem dX7_step_163 : decode cX7_step 163 = .ok (.aload_n 1, 1) := by decide +kernel
theorem dX7_step_164 : decode cX7_step 164 = .ok (.iload 4, 2) := by decide +kernel
theorem dX7_step_166 : decode cX7_step 166 = .ok (.iconst (-1), 1) := by decide +kernel
theorem dX7_step_167 : decode cX7_step 167 = .ok (.invokevirtual 53, 3) := by decide +kernel
theorem dX7_step_170 : decode cX7_step 170 = .ok (.invokevirtual 57, 3) := by decide +kernel
theorem dX7_step_173 : decode cX7_step 173 = .ok (.aload_n 0, 1) := by decide +kernel
theorem dX7_step_174 : decode cX7_step 174 = .ok (.iload_n 3, 1) := by decide +kernel
theorem dX7_step_175 : decode cX7_step 175 = .ok (.iload_n 3, 1) := by decide +kernel
theorem dX7_step_176 : decode cX7_step 176 = .ok (.iconst 1, 1) := by decide +kernel
theorem dX7_step_177 : decode cX7_step 177 = .ok (.iadd, 1) := by decide +kernel
theorem dX7_step_178 : decode cX7_step 178 = .ok (.invokevirtual 60, 3) := by decide +kernel
theorem dX7_step_181 : decode cX7_step 181 = .ok (.aload_n 0, 1) := by decide +kernel
theorem dX7_step_182 : decode cX7_step 182 = .ok (.iload_n 3, 1) := by decide +kernel
theorem dX7_step_183 : decode cX7_step 183 = .ok (.iconst 1, 1) := by decide +kernel
theorem dX7_step_184 : decode cX7_step 184 = .ok (.iadd, 1) := by decide +kernel
theorem dX7_step_185 : decode cX7_step 185 = .ok (.invokevirtual 24, 3) := by decide +kernel
theorem dX7_step_188 : decode cX7_step 188 = .ok (.return_, 1) := by decide +kernel
theorem dX7_beginSince_0 : decode cX7_beginSince 0 = .ok (.iconst 0, 1) := by decide +kernel
theorem dX7_beginSince_1 : decode cX7_beginSince 1 = .ok (.istore_n 2, 1) := by decide +kernel
theorem dX7_beginSince_2 : decode cX7_beginSince 2 = .ok (.iload_n 2, 1) := by decide +kernel
theorem dX7_beginSince_3 : decode cX7_beginSince 3 = .ok (.bipush 9, 2) := by decide +kernel
theorem dX7_beginSince_5 : decode cX7_beginSince 5 = .ok (.if_icmp .ge 31, 3) := by decide +kernel
theorem dX7_beginSince_8 : decode cX7_beginSince 8 = .ok (.aload_n 0, 1) := by decide +kernel
theorem dX7_beginSince_9 : decode cX7_beginSince 9 = .ok (.getfield 15, 3) := by decide +kernel
theorem dX7_beginSince_12 : decode cX7_beginSince 12 = .ok (.bipush 9, 2) := by decide +kernel
theorem dX7_beginSince_14 : decode cX7_beginSince 14 = .ok (.iload_n 1, 1) := by decide +kernel
theorem dX7_beginSince_15 : decode cX7_beginSince 15 = .ok (.imul, 1) := by decide +kernel
theorem dX7_beginSince_16 : decode cX7_beginSince 16 = .ok (.iload_n 2, 1) := by decide +kernel
theorem dX7_beginSince_17 : decode cX7_beginSince 17 = .ok (.iadd, 1) := by decide +kernel
theorem dX7_beginSince_18 : decode cX7_beginSince 18 = .ok (.iload_n 2, 1) := by decide +kernel
theorem dX7_beginSince_19 : decode cX7_beginSince 19 = .ok (.iconst 4, 1) := by decide +kernel
theorem dX7_beginSince_20 : decode cX7_beginSince 20 = .ok (.irem, 1) := by decide +kernel
theorem dX7_beginSince_21 : decode cX7_beginSince 21 = .ok (.ifCond .ne 7, 3) := by decide +kernel
theorem dX7_beginSince_24 : decode cX7_beginSince 24 = .ok (.lconst 1, 1) := by decide +kernel
theorem dX7_beginSince_25 : decode cX7_beginSince 25 = .ok (.goto 4, 3) := by decide +kernel
theorem dX7_beginSince_28 : decode cX7_beginSince 28 = .ok (.lconst 0, 1) := by decide +kernel
theorem dX7_beginSince_29 : decode cX7_beginSince 29 = .ok (.lastore, 1) := by decide +kernel
theorem dX7_beginSince_30 : decode cX7_beginSince 30 = .ok (.iinc 2 1, 3) := by decide +kernel
theorem dX7_beginSince_33 : decode cX7_beginSince 33 = .ok (.goto (-31), 3) := by decide +kernel
theorem dX7_beginSince_36 : decode cX7_beginSince 36 = .ok (.return_, 1) := by decide +kernel
theorem dX7_addWay_0 : decode cX7_addWay 0 = .ok (.iconst 0, 1) := by decide +kernel
theorem dX7_addWay_1 : decode cX7_addWay 1 = .ok (.istore_n 2, 1) := by decide +kernel
theorem dX7_addWay_2 : decode cX7_addWay 2 = .ok (.iload_n 2, 1) := by decide +kernel
theorem dX7_addWay_3 : decode cX7_addWay 3 = .ok (.bipush 9, 2) := by decide +kernel
theorem dX7_addWay_5 : decode cX7_addWay 5 = .ok (.if_icmp .ge 24, 3) := by decide +kernel
theorem dX7_addWay_8 : decode cX7_addWay 8 = .ok (.aload_n 0, 1) := by decide +kernel
theorem dX7_addWay_9 : decode cX7_addWay 9 = .ok (.getfield 18, 3) := by decide +kernel
theorem dX7_addWay_12 : decode cX7_addWay 12 = .ok (.iload_n 2, 1) := by decide +kernel
theorem dX7_addWay_13 : decode cX7_addWay 13 = .ok (.dup2, 1) := by decide +kernel
theorem dX7_addWay_14 : decode cX7_addWay 14 = .ok (.laload, 1) := by decide +kernel
theorem dX7_addWay_15 : decode cX7_addWay 15 = .ok (.iload_n 1, 1) := by decide +kernel
theorem dX7_addWay_16 : decode cX7_addWay 16 = .ok (.iload_n 2, 1) := by decide +kernel
theorem dX7_addWay_17 : decode cX7_addWay 17 = .ok (.ishr, 1) := by decide +kernel
theorem dX7_addWay_18 : decode cX7_addWay 18 = .ok (.iconst 1, 1) := by decide +kernel
theorem dX7_addWay_19 : decode cX7_addWay 19 = .ok (.iand, 1) := by decide +kernel
theorem dX7_addWay_20 : decode cX7_addWay 20 = .ok (.i2l, 1) := by decide +kernel
theorem dX7_addWay_21 : decode cX7_addWay 21 = .ok (.ladd, 1) := by decide +kernel
theorem dX7_addWay_22 : decode cX7_addWay 22 = .ok (.lastore, 1) := by decide +kernel
theorem dX7_addWay_23 : decode cX7_addWay 23 = .ok (.iinc 2 1, 3) := by decide +kernel
theorem dX7_addWay_26 : decode cX7_addWay 26 = .ok (.goto (-24), 3) := by decide +kernel
theorem dX7_addWay_29 : decode cX7_addWay 29 = .ok (.return_, 1) := by decide +kernel
set_option maxRecDepth 20000 in
theorem ggX7_addWrapped_X7_clear : GoodIn wsX7_addWrapped wsX7_clear := goodIn_r _ [8] (by decide +kernel) (by decide +kernel)
set_option maxRecDepth 20000 in
theorem gX7_addWrapped_X7_clear : GoodIn wsX7_addWrapped (va_wsS RX7 43 yX7_clear wsX7_clear) := goodIn_app (goodIn_of _ (by decide +kernel)) ggX7_addWrapped_X7_clear
theorem dX7_addWrapped_0 : decode cX7_addWrapped 0 = .ok (.iload_n 1, 1) := by decide +kernel
theorem dX7_addWrapped_1 : decode cX7_addWrapped 1 = .ok (.ifCond .eq 7, 3) := by decide +kernel
theorem dX7_addWrapped_4 : decode cX7_addWrapped 4 = .ok (.iload_n 3, 1) := by decide +kernel
theorem dX7_addWrapped_5 : decode cX7_addWrapped 5 = .ok (.ifCond .ne 4, 3) := by decide +kernel
theorem dX7_addWrapped_8 : decode cX7_addWrapped 8 = .ok (.return_, 1) := by decide +kernel
theorem dX7_addWrapped_9 : decode cX7_addWrapped 9 = .ok (.aload_n 0, 1) := by decide +kernel
theorem dX7_addWrapped_10 : decode cX7_addWrapped 10 = .ok (.getfield 21, 3) := by decide +kernel
theorem dX7_addWrapped_13 : decode cX7_addWrapped 13 = .ok (.invokestatic 43, 3) := by decide +kernel
theorem dX7_addWrapped_16 : decode cX7_addWrapped 16 = .ok (.iconst 0, 1) := by decide +kernel
theorem dX7_addWrapped_17 : decode cX7_addWrapped 17 = .ok (.istore 4, 2) := by decide +kernel
theorem dX7_addWrapped_19 : decode cX7_addWrapped 19 = .ok (.iload 4, 2) := by decide +kernel
theorem dX7_addWrapped_21 : decode cX7_addWrapped 21 = .ok (.bipush 27, 2) := by decide +kernel
theorem dX7_addWrapped_23 : decode cX7_addWrapped 23 = .ok (.if_icmp .ge 55, 3) := by decide +kernel
theorem dX7_addWrapped_26 : decode cX7_addWrapped 26 = .ok (.iload_n 1, 1) := by decide +kernel
theorem dX7_addWrapped_27 : decode cX7_addWrapped 27 = .ok (.iload 4, 2) := by decide +kernel
theorem dX7_addWrapped_29 : decode cX7_addWrapped 29 = .ok (.iconst 3, 1) := by decide +kernel
theorem dX7_addWrapped_30 : decode cX7_addWrapped 30 = .ok (.idiv, 1) := by decide +kernel
theorem dX7_addWrapped_31 : decode cX7_addWrapped 31 = .ok (.ishr, 1) := by decide +kernel
theorem dX7_addWrapped_32 : decode cX7_addWrapped 32 = .ok (.iconst 1, 1) := by decide +kernel
theorem dX7_addWrapped_33 : decode cX7_addWrapped 33 = .ok (.iand, 1) := by decide +kernel
theorem dX7_addWrapped_34 : decode cX7_addWrapped 34 = .ok (.ifCond .eq 38, 3) := by decide +kernel
theorem dX7_addWrapped_37 : decode cX7_addWrapped 37 = .ok (.aload_n 0, 1) := by decide +kernel
theorem dX7_addWrapped_38 : decode cX7_addWrapped 38 = .ok (.getfield 21, 3) := by decide +kernel
theorem dX7_addWrapped_41 : decode cX7_addWrapped 41 = .ok (.iload 4, 2) := by decide +kernel
theorem dX7_addWrapped_43 : decode cX7_addWrapped 43 = .ok (.bipush 9, 2) := by decide +kernel
theorem dX7_addWrapped_45 : decode cX7_addWrapped 45 = .ok (.idiv, 1) := by decide +kernel
theorem dX7_addWrapped_46 : decode cX7_addWrapped 46 = .ok (.iconst 3, 1) := by decide +kernel
theorem dX7_addWrapped_47 : decode cX7_addWrapped 47 = .ok (.imul, 1) := by decide +kernel
theorem dX7_addWrapped_48 : decode cX7_addWrapped 48 = .ok (.iload 4, 2) := by decide +kernel
theorem dX7_addWrapped_50 : decode cX7_addWrapped 50 = .ok (.iconst 3, 1) := by decide +kernel
theorem dX7_addWrapped_51 : decode cX7_addWrapped 51 = .ok (.irem, 1) := by decide +kernel
theorem dX7_addWrapped_52 : decode cX7_addWrapped 52 = .ok (.iadd, 1) := by decide +kernel
theorem dX7_addWrapped_53 : decode cX7_addWrapped 53 = .ok (.dup2, 1) := by decide +kernel
theorem dX7_addWrapped_54 : decode cX7_addWrapped 54 = .ok (.laload, 1) := by decide +kernel
theorem dX7_addWrapped_55 : decode cX7_addWrapped 55 = .ok (.aload_n 0, 1) := by decide +kernel
theorem dX7_addWrapped_56 : decode cX7_addWrapped 56 = .ok (.getfield 15, 3) := by decide +kernel
theorem dX7_addWrapped_59 : decode cX7_addWrapped 59 = .ok (.bipush 9, 2) := by decide +kernel
theorem dX7_addWrapped_61 : decode cX7_addWrapped 61 = .ok (.iload_n 2, 1) := by decide +kernel
theorem dX7_addWrapped_62 : decode cX7_addWrapped 62 = .ok (.imul, 1) := by decide +kernel
theorem dX7_addWrapped_63 : decode cX7_addWrapped 63 = .ok (.iload 4, 2) := by decide +kernel
theorem dX7_addWrapped_65 : decode cX7_addWrapped 65 = .ok (.bipush 9, 2) := by decide +kernel
theorem dX7_addWrapped_67 : decode cX7_addWrapped 67 = .ok (.irem, 1) := by decide +kernel
theorem dX7_addWrapped_68 : decode cX7_addWrapped 68 = .ok (.iadd, 1) := by decide +kernel
theorem dX7_addWrapped_69 : decode cX7_addWrapped 69 = .ok (.laload, 1) := by decide +kernel
theorem dX7_addWrapped_70 : decode cX7_addWrapped 70 = .ok (.ladd, 1) := by decide +kernel
theorem dX7_addWrapped_71 : decode cX7_addWrapped 71 = .ok (.lastore, 1) := by decide +kernel
theorem dX7_addWrapped_72 : decode cX7_addWrapped 72 = .ok (.iinc 4 1, 3) := by decide +kernel
theorem dX7_addWrapped_75 : decode cX7_addWrapped 75 = .ok (.goto (-56), 3) := by decide +kernel
theorem dX7_addWrapped_78 : decode cX7_addWrapped 78 = .ok (.iconst 0, 1) := by decide +kernel
theorem dX7_addWrapped_79 : decode cX7_addWrapped 79 = .ok (.istore 4, 2) := by decide +kernel
theorem dX7_addWrapped_81 : decode cX7_addWrapped 81 = .ok (.iload 4, 2) := by decide +kernel
theorem dX7_addWrapped_83 : decode cX7_addWrapped 83 = .ok (.bipush 27, 2) := by decide +kernel
theorem dX7_addWrapped_85 : decode cX7_addWrapped 85 = .ok (.if_icmp .ge 63, 3) := by decide +kernel
theorem dX7_addWrapped_88 : decode cX7_addWrapped 88 = .ok (.iload_n 3, 1) := by decide +kernel
theorem dX7_addWrapped_89 : decode cX7_addWrapped 89 = .ok (.iload 4, 2) := by decide +kernel
theorem dX7_addWrapped_91 : decode cX7_addWrapped 91 = .ok (.bipush 9, 2) := by decide +kernel
theorem dX7_addWrapped_93 : decode cX7_addWrapped 93 = .ok (.irem, 1) := by decide +kernel
theorem dX7_addWrapped_94 : decode cX7_addWrapped 94 = .ok (.ishr, 1) := by decide +kernel
theorem dX7_addWrapped_95 : decode cX7_addWrapped 95 = .ok (.iconst 1, 1) := by decide +kernel
theorem dX7_addWrapped_96 : decode cX7_addWrapped 96 = .ok (.iand, 1) := by decide +kernel
theorem dX7_addWrapped_97 : decode cX7_addWrapped 97 = .ok (.ifCond .eq 45, 3) := by decide +kernel
theorem dX7_addWrapped_100 : decode cX7_addWrapped 100 = .ok (.iload 4, 2) := by decide +kernel
theorem dX7_addWrapped_102 : decode cX7_addWrapped 102 = .ok (.bipush 9, 2) := by decide +kernel
theorem dX7_addWrapped_104 : decode cX7_addWrapped 104 = .ok (.idiv, 1) := by decide +kernel
theorem dX7_addWrapped_105 : decode cX7_addWrapped 105 = .ok (.iconst 3, 1) := by decide +kernel
theorem dX7_addWrapped_106 : decode cX7_addWrapped 106 = .ok (.imul, 1) := by decide +kernel
theorem dX7_addWrapped_107 : decode cX7_addWrapped 107 = .ok (.iload 4, 2) := by decide +kernel
theorem dX7_addWrapped_109 : decode cX7_addWrapped 109 = .ok (.iconst 3, 1) := by decide +kernel
theorem dX7_addWrapped_110 : decode cX7_addWrapped 110 = .ok (.irem, 1) := by decide +kernel
theorem dX7_addWrapped_111 : decode cX7_addWrapped 111 = .ok (.iadd, 1) := by decide +kernel
theorem dX7_addWrapped_112 : decode cX7_addWrapped 112 = .ok (.istore 5, 2) := by decide +kernel
theorem dX7_addWrapped_114 : decode cX7_addWrapped 114 = .ok (.aload_n 0, 1) := by decide +kernel
theorem dX7_addWrapped_115 : decode cX7_addWrapped 115 = .ok (.getfield 18, 3) := by decide +kernel
theorem dX7_addWrapped_118 : decode cX7_addWrapped 118 = .ok (.iload 5, 2) := by decide +kernel
theorem dX7_addWrapped_120 : decode cX7_addWrapped 120 = .ok (.aload_n 0, 1) := by decide +kernel
theorem dX7_addWrapped_121 : decode cX7_addWrapped 121 = .ok (.getfield 18, 3) := by decide +kernel
theorem dX7_addWrapped_124 : decode cX7_addWrapped 124 = .ok (.iload 5, 2) := by decide +kernel
theorem dX7_addWrapped_126 : decode cX7_addWrapped 126 = .ok (.laload, 1) := by decide +kernel
theorem dX7_addWrapped_127 : decode cX7_addWrapped 127 = .ok (.aload_n 0, 1) := by decide +kernel
theorem dX7_addWrapped_128 : decode cX7_addWrapped 128 = .ok (.getfield 21, 3) := by decide +kernel
theorem dX7_addWrapped_131 : decode cX7_addWrapped 131 = .ok (.iload 4, 2) := by decide +kernel
theorem dX7_addWrapped_133 : decode cX7_addWrapped 133 = .ok (.iconst 3, 1) := by decide +kernel
theorem dX7_addWrapped_134 : decode cX7_addWrapped 134 = .ok (.idiv, 1) := by decide +kernel
theorem dX7_addWrapped_135 : decode cX7_addWrapped 135 = .ok (.laload, 1) := by decide +kernel
theorem dX7_addWrapped_136 : decode cX7_addWrapped 136 = .ok (.ladd, 1) := by decide +kernel
theorem dX7_addWrapped_137 : decode cX7_addWrapped 137 = .ok (.ldc2_w 32, 3) := by decide +kernel
theorem dX7_addWrapped_140 : decode cX7_addWrapped 140 = .ok (.lrem, 1) := by decide +kernel
theorem dX7_addWrapped_141 : decode cX7_addWrapped 141 = .ok (.lastore, 1) := by decide +kernel
theorem dX7_addWrapped_142 : decode cX7_addWrapped 142 = .ok (.iinc 4 1, 3) := by decide +kernel
theorem dX7_addWrapped_145 : decode cX7_addWrapped 145 = .ok (.goto (-64), 3) := by decide +kernel
theorem dX7_addWrapped_148 : decode cX7_addWrapped 148 = .ok (.return_, 1) := by decide +kernel
set_option maxRecDepth 20000 in
theorem ggX7_goOn_X7_times : GoodIn wsX7_goOn wsX7_times := goodIn_r _ [7, 8, 9, 10, 11, 12, 13] (by decide +kernel) (by decide +kernel)
set_option maxRecDepth 20000 in
theorem gX7_goOn_X7_times : GoodIn wsX7_goOn (wsV RX7 71 RX7 yX7_times wsX7_times) := goodIn_app (goodIn_of _ (by decide +kernel)) ggX7_goOn_X7_times
theorem dX7_goOn_0 : decode cX7_goOn 0 = .ok (.aload_n 0, 1) := by decide +kernel
theorem dX7_goOn_1 : decode cX7_goOn 1 = .ok (.aload_n 0, 1) := by decide +kernel
theorem dX7_goOn_2 : decode cX7_goOn 2 = .ok (.getfield 9, 3) := by decide +kernel
theorem dX7_goOn_5 : decode cX7_goOn 5 = .ok (.iconst 3, 1) := by decide +kernel
theorem dX7_goOn_6 : decode cX7_goOn 6 = .ok (.iload_n 1, 1) := by decide +kernel
theorem dX7_goOn_7 : decode cX7_goOn 7 = .ok (.imul, 1) := by decide +kernel
theorem dX7_goOn_8 : decode cX7_goOn 8 = .ok (.iconst 3, 1) := by decide +kernel
theorem dX7_goOn_9 : decode cX7_goOn 9 = .ok (.iload_n 2, 1) := by decide +kernel
theorem dX7_goOn_10 : decode cX7_goOn 10 = .ok (.imul, 1) := by decide +kernel
theorem dX7_goOn_11 : decode cX7_goOn 11 = .ok (.iconst 1, 1) := by decide +kernel
theorem dX7_goOn_12 : decode cX7_goOn 12 = .ok (.invokevirtual 71, 3) := by decide +kernel
theorem dX7_goOn_15 : decode cX7_goOn 15 = .ok (.aload_n 0, 1) := by decide +kernel
theorem dX7_goOn_16 : decode cX7_goOn 16 = .ok (.aload_n 0, 1) := by decide +kernel
theorem dX7_goOn_17 : decode cX7_goOn 17 = .ok (.getfield 15, 3) := by decide +kernel
theorem dX7_goOn_20 : decode cX7_goOn 20 = .ok (.bipush 9, 2) := by decide +kernel
theorem dX7_goOn_22 : decode cX7_goOn 22 = .ok (.iload_n 1, 1) := by decide +kernel
theorem dX7_goOn_23 : decode cX7_goOn 23 = .ok (.imul, 1) := by decide +kernel
theorem dX7_goOn_24 : decode cX7_goOn 24 = .ok (.bipush 9, 2) := by decide +kernel
theorem dX7_goOn_26 : decode cX7_goOn 26 = .ok (.iload_n 2, 1) := by decide +kernel
theorem dX7_goOn_27 : decode cX7_goOn 27 = .ok (.imul, 1) := by decide +kernel
theorem dX7_goOn_28 : decode cX7_goOn 28 = .ok (.iconst 3, 1) := by decide +kernel
theorem dX7_goOn_29 : decode cX7_goOn 29 = .ok (.invokevirtual 71, 3) := by decide +kernel
theorem dX7_goOn_32 : decode cX7_goOn 32 = .ok (.return_, 1) := by decide +kernel
theorem dX7_times_0 : decode cX7_times 0 = .ok (.iconst 0, 1) := by decide +kernel
theorem dX7_times_1 : decode cX7_times 1 = .ok (.istore 5, 2) := by decide +kernel
theorem dX7_times_3 : decode cX7_times 3 = .ok (.iload 5, 2) := by decide +kernel
theorem dX7_times_5 : decode cX7_times 5 = .ok (.iconst 3, 1) := by decide +kernel
theorem dX7_times_6 : decode cX7_times 6 = .ok (.iload 4, 2) := by decide +kernel
theorem dX7_times_8 : decode cX7_times 8 = .ok (.imul, 1) := by decide +kernel
theorem dX7_times_9 : decode cX7_times 9 = .ok (.if_icmp .ge 84, 3) := by decide +kernel
theorem dX7_times_12 : decode cX7_times 12 = .ok (.iload 5, 2) := by decide +kernel
theorem dX7_times_14 : decode cX7_times 14 = .ok (.iconst 3, 1) := by decide +kernel
theorem dX7_times_15 : decode cX7_times 15 = .ok (.idiv, 1) := by decide +kernel
theorem dX7_times_16 : decode cX7_times 16 = .ok (.iconst 3, 1) := by decide +kernel
theorem dX7_times_17 : decode cX7_times 17 = .ok (.imul, 1) := by decide +kernel
theorem dX7_times_18 : decode cX7_times 18 = .ok (.istore 6, 2) := by decide +kernel
theorem dX7_times_20 : decode cX7_times 20 = .ok (.lconst 0, 1) := by decide +kernel
theorem dX7_times_21 : decode cX7_times 21 = .ok (.lstore 7, 2) := by decide +kernel
theorem dX7_times_23 : decode cX7_times 23 = .ok (.iconst 0, 1) := by decide +kernel
theorem dX7_times_24 : decode cX7_times 24 = .ok (.istore 9, 2) := by decide +kernel
theorem dX7_times_26 : decode cX7_times 26 = .ok (.iload 9, 2) := by decide +kernel
theorem dX7_times_28 : decode cX7_times 28 = .ok (.iconst 3, 1) := by decide +kernel
theorem dX7_times_29 : decode cX7_times 29 = .ok (.if_icmp .ge 46, 3) := by decide +kernel
theorem dX7_times_32 : decode cX7_times 32 = .ok (.lload 7, 2) := by decide +kernel
theorem dX7_times_34 : decode cX7_times 34 = .ok (.aload_n 1, 1) := by decide +kernel
theorem dX7_times_35 : decode cX7_times 35 = .ok (.iload_n 2, 1) := by decide +kernel
theorem dX7_times_36 : decode cX7_times 36 = .ok (.iload 6, 2) := by decide +kernel
theorem dX7_times_38 : decode cX7_times 38 = .ok (.iadd, 1) := by decide +kernel
theorem dX7_times_39 : decode cX7_times 39 = .ok (.iload 9, 2) := by decide +kernel
theorem dX7_times_41 : decode cX7_times 41 = .ok (.iadd, 1) := by decide +kernel
theorem dX7_times_42 : decode cX7_times 42 = .ok (.laload, 1) := by decide +kernel
theorem dX7_times_43 : decode cX7_times 43 = .ok (.ldc2_w 32, 3) := by decide +kernel
theorem dX7_times_46 : decode cX7_times 46 = .ok (.lrem, 1) := by decide +kernel
theorem dX7_times_47 : decode cX7_times 47 = .ok (.aload_n 0, 1) := by decide +kernel
theorem dX7_times_48 : decode cX7_times 48 = .ok (.getfield 18, 3) := by decide +kernel
theorem dX7_times_51 : decode cX7_times 51 = .ok (.iconst 3, 1) := by decide +kernel
theorem dX7_times_52 : decode cX7_times 52 = .ok (.iload 9, 2) := by decide +kernel
theorem dX7_times_54 : decode cX7_times 54 = .ok (.imul, 1) := by decide +kernel
theorem dX7_times_55 : decode cX7_times 55 = .ok (.iload 5, 2) := by decide +kernel
theorem dX7_times_57 : decode cX7_times 57 = .ok (.iconst 3, 1) := by decide +kernel
theorem dX7_times_58 : decode cX7_times 58 = .ok (.irem, 1) := by decide +kernel
theorem dX7_times_59 : decode cX7_times 59 = .ok (.iadd, 1) := by decide +kernel
theorem dX7_times_60 : decode cX7_times 60 = .ok (.laload, 1) := by decide +kernel
theorem dX7_times_61 : decode cX7_times 61 = .ok (.lmul, 1) := by decide +kernel
theorem dX7_times_62 : decode cX7_times 62 = .ok (.ldc2_w 32, 3) := by decide +kernel
theorem dX7_times_65 : decode cX7_times 65 = .ok (.lrem, 1) := by decide +kernel
theorem dX7_times_66 : decode cX7_times 66 = .ok (.ladd, 1) := by decide +kernel
theorem dX7_times_67 : decode cX7_times 67 = .ok (.lstore 7, 2) := by decide +kernel
theorem dX7_times_69 : decode cX7_times 69 = .ok (.iinc 9 1, 3) := by decide +kernel
theorem dX7_times_72 : decode cX7_times 72 = .ok (.goto (-46), 3) := by decide +kernel
theorem dX7_times_75 : decode cX7_times 75 = .ok (.aload_n 1, 1) := by decide +kernel
theorem dX7_times_76 : decode cX7_times 76 = .ok (.iload_n 3, 1) := by decide +kernel
theorem dX7_times_77 : decode cX7_times 77 = .ok (.iload 5, 2) := by decide +kernel
theorem dX7_times_79 : decode cX7_times 79 = .ok (.iadd, 1) := by decide +kernel
theorem dX7_times_80 : decode cX7_times 80 = .ok (.lload 7, 2) := by decide +kernel
theorem dX7_times_82 : decode cX7_times 82 = .ok (.ldc2_w 32, 3) := by decide +kernel
theorem dX7_times_85 : decode cX7_times 85 = .ok (.lrem, 1) := by decide +kernel
theorem dX7_times_86 : decode cX7_times 86 = .ok (.lastore, 1) := by decide +kernel
theorem dX7_times_87 : decode cX7_times 87 = .ok (.iinc 5 1, 3) := by decide +kernel
theorem dX7_times_90 : decode cX7_times 90 = .ok (.goto (-87), 3) := by decide +kernel
theorem dX7_times_93 : decode cX7_times 93 = .ok (.return_, 1) := by decide +kernel
theorem dX7_clear_0 : decode cX7_clear 0 = .ok (.iconst 0, 1) := by decide +kernel
theorem dX7_clear_1 : decode cX7_clear 1 = .ok (.istore_n 1, 1) := by decide +kernel
theorem dX7_clear_2 : decode cX7_clear 2 = .ok (.iload_n 1, 1) := by decide +kernel
theorem dX7_clear_3 : decode cX7_clear 3 = .ok (.aload_n 0, 1) := by decide +kernel
theorem dX7_clear_4 : decode cX7_clear 4 = .ok (.arraylength, 1) := by decide +kernel
theorem dX7_clear_5 : decode cX7_clear 5 = .ok (.if_icmp .ge 13, 3) := by decide +kernel
theorem dX7_clear_8 : decode cX7_clear 8 = .ok (.aload_n 0, 1) := by decide +kernel
theorem dX7_clear_9 : decode cX7_clear 9 = .ok (.iload_n 1, 1) := by decide +kernel
theorem dX7_clear_10 : decode cX7_clear 10 = .ok (.lconst 0, 1) := by decide +kernel
theorem dX7_clear_11 : decode cX7_clear 11 = .ok (.lastore, 1) := by decide +kernel
theorem dX7_clear_12 : decode cX7_clear 12 = .ok (.iinc 1 1, 3) := by decide +kernel
theorem dX7_clear_15 : decode cX7_clear 15 = .ok (.goto (-13), 3) := by decide +kernel
theorem dX7_clear_18 : decode cX7_clear 18 = .ok (.return_, 1) := by decide +kernel
theorem dX8_init_0 : decode cX8_init 0 = .ok (.aload_n 0, 1) := by decide +kernel
theorem dX8_init_1 : decode cX8_init 1 = .ok (.invokespecial 3, 3) := by decide +kernel
theorem dX8_init_4 : decode cX8_init 4 = .ok (.aload_n 0, 1) := by decide +kernel
theorem dX8_init_5 : decode cX8_init 5 = .ok (.sipush 160, 3) := by decide +kernel
theorem dX8_init_8 : decode cX8_init 8 = .ok (.newarray .int, 2) := by decide +kernel
theorem dX8_init_10 : decode cX8_init 10 = .ok (.putfield 9, 3) := by decide +kernel
theorem dX8_init_13 : decode cX8_init 13 = .ok (.aload_n 0, 1) := by decide +kernel
theorem dX8_init_14 : decode cX8_init 14 = .ok (.iconst 0, 1) := by decide +kernel
theorem dX8_init_15 : decode cX8_init 15 = .ok (.putfield 15, 3) := by decide +kernel
theorem dX8_init_18 : decode cX8_init 18 = .ok (.aload_n 0, 1) := by decide +kernel
theorem dX8_init_19 : decode cX8_init 19 = .ok (.iconst 0, 1) := by decide +kernel
theorem dX8_init_20 : decode cX8_init 20 = .ok (.putfield 19, 3) := by decide +kernel
theorem dX8_init_23 : decode cX8_init 23 = .ok (.aload_n 0, 1) := by decide +kernel
theorem dX8_init_24 : decode cX8_init 24 = .ok (.iconst 0, 1) := by decide +kernel
theorem dX8_init_25 : decode cX8_init 25 = .ok (.putfield 22, 3) := by decide +kernel
theorem dX8_init_28 : decode cX8_init 28 = .ok (.aload_n 0, 1) := by decide +kernel
theorem dX8_init_29 : decode cX8_init 29 = .ok (.iconst 0, 1) := by decide +kernel
theorem dX8_init_30 : decode cX8_init 30 = .ok (.putfield 25, 3) := by decide +kernel
theorem dX8_init_33 : decode cX8_init 33 = .ok (.aload_n 0, 1) := by decide +kernel
theorem dX8_init_34 : decode cX8_init 34 = .ok (.iconst 0, 1) := by decide +kernel
theorem dX8_init_35 : decode cX8_init 35 = .ok (.putfield 28, 3) := by decide +kernel
theorem dX8_init_38 : decode cX8_init 38 = .ok (.aload_n 0, 1) := by decide +kernel
theorem dX8_init_39 : decode cX8_init 39 = .ok (.iconst 0, 1) := by decide +kernel
theorem dX8_init_40 : decode cX8_init 40 = .ok (.putfield 31, 3) := by decide +kernel
theorem dX8_init_43 : decode cX8_init 43 = .ok (.aload_n 0, 1) := by decide +kernel
theorem dX8_init_44 : decode cX8_init 44 = .ok (.iconst 0, 1) := by decide +kernel
theorem dX8_init_45 : decode cX8_init 45 = .ok (.putfield 34, 3) := by decide +kernel
theorem dX8_init_48 : decode cX8_init 48 = .ok (.return_, 1) := by decide +kernel
theorem dX8_size_0 : decode cX8_size 0 = .ok (.aload_n 0, 1) := by decide +kernel
theorem dX8_size_1 : decode cX8_size 1 = .ok (.getfield 15, 3) := by decide +kernel
theorem dX8_size_4 : decode cX8_size 4 = .ok (.ireturn, 1) := by decide +kernel
theorem dX8_empty_0 : decode cX8_empty 0 = .ok (.aload_n 0, 1) := by decide +kernel
theorem dX8_empty_1 : decode cX8_empty 1 = .ok (.iconst 0, 1) := by decide +kernel
theorem dX8_empty_2 : decode cX8_empty 2 = .ok (.putfield 15, 3) := by decide +kernel
theorem dX8_empty_5 : decode cX8_empty 5 = .ok (.return_, 1) := by decide +kernel
theorem dX8_append_0 : decode cX8_append 0 = .ok (.aload_n 0, 1) := by decide +kernel
theorem dX8_append_1 : decode cX8_append 1 = .ok (.getfield 15, 3) := by decide +kernel
theorem dX8_append_4 : decode cX8_append 4 = .ok (.aload_n 0, 1) := by decide +kernel
theorem dX8_append_5 : decode cX8_append 5 = .ok (.getfield 9, 3) := by decide +kernel
theorem dX8_append_8 : decode cX8_append 8 = .ok (.arraylength, 1) := by decide +kernel
theorem dX8_append_9 : decode cX8_append 9 = .ok (.if_icmp .ge 23, 3) := by decide +kernel
theorem dX8_append_12 : decode cX8_append 12 = .ok (.aload_n 0, 1) := by decide +kernel
theorem dX8_append_13 : decode cX8_append 13 = .ok (.getfield 9, 3) := by decide +kernel
theorem dX8_append_16 : decode cX8_append 16 = .ok (.aload_n 0, 1) := by decide +kernel
theorem dX8_append_17 : decode cX8_append 17 = .ok (.getfield 15, 3) := by decide +kernel
theorem dX8_append_20 : decode cX8_append 20 = .ok (.iload_n 1, 1) := by decide +kernel
theorem dX8_append_21 : decode cX8_append 21 = .ok (.iastore, 1) := by decide +kernel
theorem dX8_append_22 : decode cX8_append 22 = .ok (.aload_n 0, 1) := by decide +kernel
theorem dX8_append_23 : decode cX8_append 23 = .ok (.dup, 1) := by decide +kernel
theorem dX8_append_24 : decode cX8_append 24 = .ok (.getfield 15, 3) := by decide +kernel
theorem dX8_append_27 : decode cX8_append 27 = .ok (.iconst 1, 1) := by decide +kernel
theorem dX8_append_28 : decode cX8_append 28 = .ok (.iadd, 1) := by decide +kernel
theorem dX8_append_29 : decode cX8_append 29 = .ok (.putfield 15, 3) := by decide +kernel
theorem dX8_append_32 : decode cX8_append 32 = .ok (.return_, 1) := by decide +kernel
set_option maxRecDepth 20000 in
theorem ggX8_faultFor_X8_step : GoodIn wsX8_faultFor wsX8_step := goodIn_r _ [11, 1, 2, 12, 13, 14, 15, 10, 16, 17, 18, 19, 20, 133, 134, 135, 136, 137, 138, 139, 140] (by decide +kernel) (by decide +kernel)
set_option maxRecDepth 20000 in
theorem gX8_faultFor_X8_step : GoodIn wsX8_faultFor (wsV RX8 37 RX8 yX8_step wsX8_step) := goodIn_app (goodIn_of _ (by decide +kernel)) ggX8_faultFor_X8_step
set_option maxRecDepth 20000 in
theorem ggX8_faultFor_X8_readMove : GoodIn wsX8_faultFor wsX8_readMove := goodIn_r _ [24, 3, 4, 1, 2, 5, 6, 25, 26, 27, 10, 28, 29, 30, 31, 32, 12, 13, 14, 15, 16, 17, 18, 19, 20, 33, 34, 35, 36, 37, 38, 39, 40, 41, 42, 7, 8, 9, 11, 43, 44, 45, 46, 47, 48, 49, 50, 51, 52, 53, 54, 55, 56, 57, 58, 59, 60, 61, 62, 63, 64, 65, 66, 67, 68, 69, 70, 71, 72, 73, 74, 75, 76, 77, 78, 79, 80, 81, 82, 83, 84, 85, 86, 87, 88, 89, 90, 91, 92, 93, 94, 95, 96, 97, 98, 99, 100, 101, 102, 103, 104, 105, 106, 107, 108, 109, 110, 133, 134, 135, 136, 137, 138, 139, 140, 141, 142, 143, 144, 145] (by decide +kernel) (by decide +kernel)
set_option maxRecDepth 20000 in
theorem gX8_faultFor_X8_readMove : GoodIn wsX8_faultFor (wsV RX8 40 RX8 yX8_readMove wsX8_readMove) := goodIn_app (goodIn_of _ (by decide +kernel)) ggX8_faultFor_X8_readMove
set_option maxRecDepth 20000 in
theorem ggX8_faultFor_X5_add : GoodIn wsX8_faultFor wsX5_add := goodIn_r _ [114, 115, 116, 117, 118, 119, 36, 120, 121, 34, 35, 37, 38, 122, 123, 124, 125, 104, 105, 106, 107, 126, 44, 45, 127, 128, 129, 130, 131, 132, 141, 142, 143, 144, 145] (by decide +kernel) (by decide +kernel)
set_option maxRecDepth 20000 in
theorem gX8_faultFor_X5_add : GoodIn wsX8_faultFor (wsV RX8 44 RX5 yX5_add wsX5_add) := goodIn_app (goodIn_of _ (by decide +kernel)) ggX8_faultFor_X5_add
set_option maxRecDepth 20000 in
theorem ggX8_faultFor_X8_head : GoodIn wsX8_faultFor wsX8_head := goodIn_r _ [32, 2, 12, 13, 14, 15, 10, 16, 17, 133, 134, 135, 136, 137, 138, 139, 140] (by decide +kernel) (by decide +kernel)
set_option maxRecDepth 20000 in
theorem gX8_faultFor_X8_head : GoodIn wsX8_faultFor (wsV RX8 50 RX8 yX8_head wsX8_head) := goodIn_app (goodIn_of _ (by decide +kernel)) ggX8_faultFor_X8_head
theorem dX8_faultFor_0 : decode cX8_faultFor 0 = .ok (.aload_n 0, 1) := by decide +kernel
theorem dX8_faultFor_1 : decode cX8_faultFor 1 = .ok (.iconst 0, 1) := by decide +kernel
theorem dX8_faultFor_2 : decode cX8_faultFor 2 = .ok (.putfield 22, 3) := by decide +kernel
theorem dX8_faultFor_5 : decode cX8_faultFor 5 = .ok (.aload_n 0, 1) := by decide +kernel
theorem dX8_faultFor_6 : decode cX8_faultFor 6 = .ok (.invokevirtual 37, 3) := by decide +kernel
theorem dX8_faultFor_9 : decode cX8_faultFor 9 = .ok (.iconst 1, 1) := by decide +kernel
theorem dX8_faultFor_10 : decode cX8_faultFor 10 = .ok (.istore_n 3, 1) := by decide +kernel
theorem dX8_faultFor_11 : decode cX8_faultFor 11 = .ok (.iload_n 3, 1) := by decide +kernel
theorem dX8_faultFor_12 : decode cX8_faultFor 12 = .ok (.bipush 16, 2) := by decide +kernel
theorem dX8_faultFor_14 : decode cX8_faultFor 14 = .ok (.if_icmp .gt 80, 3) := by decide +kernel
theorem dX8_faultFor_17 : decode cX8_faultFor 17 = .ok (.aload_n 0, 1) := by decide +kernel
theorem dX8_faultFor_18 : decode cX8_faultFor 18 = .ok (.aload_n 1, 1) := by decide +kernel
theorem dX8_faultFor_19 : decode cX8_faultFor 19 = .ok (.invokevirtual 40, 3) := by decide +kernel
theorem dX8_faultFor_22 : decode cX8_faultFor 22 = .ok (.ifCond .ne 8, 3) := by decide +kernel
theorem dX8_faultFor_25 : decode cX8_faultFor 25 = .ok (.aload_n 0, 1) := by decide +kernel
theorem dX8_faultFor_26 : decode cX8_faultFor 26 = .ok (.getfield 19, 3) := by decide +kernel
theorem dX8_faultFor_29 : decode cX8_faultFor 29 = .ok (.ireturn, 1) := by decide +kernel
theorem dX8_faultFor_30 : decode cX8_faultFor 30 = .ok (.iload_n 2, 1) := by decide +kernel
theorem dX8_faultFor_31 : decode cX8_faultFor 31 = .ok (.ifCond .eq 23, 3) := by decide +kernel
theorem dX8_faultFor_34 : decode cX8_faultFor 34 = .ok (.aload_n 1, 1) := by decide +kernel
theorem dX8_faultFor_35 : decode cX8_faultFor 35 = .ok (.aload_n 0, 1) := by decide +kernel
theorem dX8_faultFor_36 : decode cX8_faultFor 36 = .ok (.getfield 25, 3) := by decide +kernel
theorem dX8_faultFor_39 : decode cX8_faultFor 39 = .ok (.aload_n 0, 1) := by decide +kernel
theorem dX8_faultFor_40 : decode cX8_faultFor 40 = .ok (.getfield 28, 3) := by decide +kernel
theorem dX8_faultFor_43 : decode cX8_faultFor 43 = .ok (.aload_n 0, 1) := by decide +kernel
theorem dX8_faultFor_44 : decode cX8_faultFor 44 = .ok (.getfield 31, 3) := by decide +kernel
theorem dX8_faultFor_47 : decode cX8_faultFor 47 = .ok (.aload_n 0, 1) := by decide +kernel
theorem dX8_faultFor_48 : decode cX8_faultFor 48 = .ok (.getfield 34, 3) := by decide +kernel
theorem dX8_faultFor_51 : decode cX8_faultFor 51 = .ok (.invokevirtual 44, 3) := by decide +kernel
theorem dX8_faultFor_54 : decode cX8_faultFor 54 = .ok (.aload_n 0, 1) := by decide +kernel
theorem dX8_faultFor_55 : decode cX8_faultFor 55 = .ok (.invokevirtual 50, 3) := by decide +kernel
theorem dX8_faultFor_58 : decode cX8_faultFor 58 = .ok (.iconst (-1), 1) := by decide +kernel
theorem dX8_faultFor_59 : decode cX8_faultFor 59 = .ok (.if_icmp .ne 5, 3) := by decide +kernel
theorem dX8_faultFor_62 : decode cX8_faultFor 62 = .ok (.iconst (-1), 1) := by decide +kernel
theorem dX8_faultFor_63 : decode cX8_faultFor 63 = .ok (.ireturn, 1) := by decide +kernel
theorem dX8_faultFor_64 : decode cX8_faultFor 64 = .ok (.aload_n 0, 1) := by decide +kernel
theorem dX8_faultFor_65 : decode cX8_faultFor 65 = .ok (.invokevirtual 50, 3) := by decide +kernel
theorem dX8_faultFor_68 : decode cX8_faultFor 68 = .ok (.bipush 59, 2) := by decide +kernel
theorem dX8_faultFor_70 : decode cX8_faultFor 70 = .ok (.if_icmp .ne 9, 3) := by decide +kernel
theorem dX8_faultFor_73 : decode cX8_faultFor 73 = .ok (.iload_n 3, 1) := by decide +kernel
theorem dX8_faultFor_74 : decode cX8_faultFor 74 = .ok (.bipush 16, 2) := by decide +kernel
theorem dX8_faultFor_76 : decode cX8_faultFor 76 = .ok (.if_icmp .ne 8, 3) := by decide +kernel
theorem dX8_faultFor_79 : decode cX8_faultFor 79 = .ok (.aload_n 0, 1) := by decide +kernel
theorem dX8_faultFor_80 : decode cX8_faultFor 80 = .ok (.getfield 19, 3) := by decide +kernel
theorem dX8_faultFor_83 : decode cX8_faultFor 83 = .ok (.ireturn, 1) := by decide +kernel
theorem dX8_faultFor_84 : decode cX8_faultFor 84 = .ok (.aload_n 0, 1) := by decide +kernel
theorem dX8_faultFor_85 : decode cX8_faultFor 85 = .ok (.invokevirtual 37, 3) := by decide +kernel
theorem dX8_faultFor_88 : decode cX8_faultFor 88 = .ok (.iinc 3 1, 3) := by decide +kernel
theorem dX8_faultFor_91 : decode cX8_faultFor 91 = .ok (.goto (-80), 3) := by decide +kernel
theorem dX8_faultFor_94 : decode cX8_faultFor 94 = .ok (.aload_n 0, 1) := by decide +kernel
theorem dX8_faultFor_95 : decode cX8_faultFor 95 = .ok (.getfield 19, 3) := by decide +kernel
theorem dX8_faultFor_98 : decode cX8_faultFor 98 = .ok (.ireturn, 1) := by decide +kernel
set_option maxRecDepth 20000 in
theorem ggX8_readMove_X8_digit : GoodIn wsX8_readMove wsX8_digit := goodIn_r _ [11, 3, 4, 12, 13, 14, 10, 15, 16, 17, 18, 19, 20, 21, 22, 23, 24, 107, 108, 109, 110, 111, 112, 113, 114] (by decide +kernel) (by decide +kernel)
set_option maxRecDepth 20000 in
theorem gX8_readMove_X8_digit : GoodIn wsX8_readMove (wsV RX8 54 RX8 yX8_digit wsX8_digit) := goodIn_app (goodIn_of _ (by decide +kernel)) ggX8_readMove_X8_digit
set_option maxRecDepth 20000 in
theorem ggX8_readMove_X5_isState : GoodIn wsX8_readMove wsX5_isState := goodIn_r _ [29, 30, 115, 116, 117, 118, 119] (by decide +kernel) (by decide +kernel)
set_option maxRecDepth 20000 in
theorem gX8_readMove_X5_isState : GoodIn wsX8_readMove (wsV RX8 57 RX5 yX5_isState wsX5_isState) := goodIn_app (goodIn_of _ (by decide +kernel)) ggX8_readMove_X5_isState
set_option maxRecDepth 20000 in
theorem ggX8_readMove_X8_pass : GoodIn wsX8_readMove wsX8_pass := goodIn_r _ [34, 35, 36, 37, 10, 38, 3, 4, 16, 17, 18, 19, 20, 21, 22, 23, 24, 107, 108, 109, 110, 111, 112, 113, 114] (by decide +kernel) (by decide +kernel)
set_option maxRecDepth 20000 in
theorem gX8_readMove_X8_pass : GoodIn wsX8_readMove (wsV RX8 61 RX8 yX8_pass wsX8_pass) := goodIn_app (goodIn_of _ (by decide +kernel)) ggX8_readMove_X8_pass
set_option maxRecDepth 20000 in
theorem ggX8_readMove_X8_head : GoodIn wsX8_readMove wsX8_head := goodIn_r _ [15, 4, 16, 17, 18, 19, 10, 20, 21, 107, 108, 109, 110, 111, 112, 113, 114] (by decide +kernel) (by decide +kernel)
set_option maxRecDepth 20000 in
theorem gX8_readMove_X8_head : GoodIn wsX8_readMove (wsV RX8 50 RX8 yX8_head wsX8_head) := goodIn_app (goodIn_of _ (by decide +kernel)) ggX8_readMove_X8_head
set_option maxRecDepth 20000 in
theorem ggX8_readMove_X5_closes : GoodIn wsX8_readMove wsX5_closes := goodIn_r _ [41] (by decide +kernel) (by decide +kernel)
set_option maxRecDepth 20000 in
theorem gX8_readMove_X5_closes : GoodIn wsX8_readMove (va_wsS RX8 65 yX5_closes wsX5_closes) := goodIn_app (goodIn_of _ (by decide +kernel)) ggX8_readMove_X5_closes
set_option maxRecDepth 20000 in
theorem ggX8_readMove_X8_isWord : GoodIn wsX8_readMove wsX8_isWord := goodIn_r _ [45, 3, 4, 46, 47, 48, 49, 50, 51, 52, 53, 54, 55, 56, 57, 17, 18, 19, 10, 20, 16, 21, 58, 59, 60, 61, 62, 63, 64, 65, 66, 67, 68, 69, 70, 71, 72, 73, 74, 75, 76, 77, 78, 79, 80, 81, 82, 83, 84, 85, 86, 87, 88, 89, 90, 91, 92, 93, 94, 107, 108, 109, 110, 111, 112, 113, 114] (by decide +kernel) (by decide +kernel)
set_option maxRecDepth 20000 in
theorem gX8_readMove_X8_isWord : GoodIn wsX8_readMove (wsV RX8 70 RX8 yX8_isWord wsX8_isWord) := goodIn_app (goodIn_of _ (by decide +kernel)) ggX8_readMove_X8_isWord
set_option maxRecDepth 20000 in
theorem ggX8_readMove_X8_readMark : GoodIn wsX8_readMove wsX8_readMark := goodIn_r _ [98, 5, 42, 43, 44, 10, 45, 3, 4, 46, 47, 48, 49, 50, 51, 52, 53, 54, 55, 56, 57, 17, 18, 19, 20, 16, 21, 58, 59, 60, 61, 62, 63, 64, 65, 66, 67, 68, 69, 70, 71, 72, 73, 74, 75, 76, 77, 78, 79, 80, 81, 82, 83, 84, 85, 86, 87, 88, 89, 90, 91, 92, 93, 94, 31, 32, 33, 34, 35, 36, 37, 38, 22, 23, 24, 7, 8, 9, 11, 12, 13, 14, 15, 99, 100, 101, 28, 102, 103, 107, 108, 109, 110, 111, 112, 113, 114, 115, 116, 117, 118, 119] (by decide +kernel) (by decide +kernel)
set_option maxRecDepth 20000 in
theorem gX8_readMove_X8_readMark : GoodIn wsX8_readMove (wsV RX8 74 RX8 yX8_readMark wsX8_readMark) := goodIn_app (goodIn_of _ (by decide +kernel)) ggX8_readMove_X8_readMark
set_option maxRecDepth 20000 in
theorem ggX8_readMove_X5_opens : GoodIn wsX8_readMove wsX5_opens := goodIn_r _ [106] (by decide +kernel) (by decide +kernel)
set_option maxRecDepth 20000 in
theorem gX8_readMove_X5_opens : GoodIn wsX8_readMove (va_wsS RX8 79 yX5_opens wsX5_opens) := goodIn_app (goodIn_of _ (by decide +kernel)) ggX8_readMove_X5_opens
theorem dX8_readMove_0 : decode cX8_readMove 0 = .ok (.aload_n 0, 1) := by decide +kernel
theorem dX8_readMove_1 : decode cX8_readMove 1 = .ok (.aload_n 0, 1) := by decide +kernel
theorem dX8_readMove_2 : decode cX8_readMove 2 = .ok (.invokevirtual 54, 3) := by decide +kernel
theorem dX8_readMove_5 : decode cX8_readMove 5 = .ok (.putfield 25, 3) := by decide +kernel
theorem dX8_readMove_8 : decode cX8_readMove 8 = .ok (.aload_n 0, 1) := by decide +kernel
theorem dX8_readMove_9 : decode cX8_readMove 9 = .ok (.aload_n 1, 1) := by decide +kernel
theorem dX8_readMove_10 : decode cX8_readMove 10 = .ok (.aload_n 0, 1) := by decide +kernel
theorem dX8_readMove_11 : decode cX8_readMove 11 = .ok (.getfield 25, 3) := by decide +kernel
theorem dX8_readMove_14 : decode cX8_readMove 14 = .ok (.invokevirtual 57, 3) := by decide +kernel
theorem dX8_readMove_17 : decode cX8_readMove 17 = .ok (.invokevirtual 61, 3) := by decide +kernel
theorem dX8_readMove_20 : decode cX8_readMove 20 = .ok (.ifCond .ne 5, 3) := by decide +kernel
theorem dX8_readMove_23 : decode cX8_readMove 23 = .ok (.iconst 0, 1) := by decide +kernel
theorem dX8_readMove_24 : decode cX8_readMove 24 = .ok (.ireturn, 1) := by decide +kernel
theorem dX8_readMove_25 : decode cX8_readMove 25 = .ok (.aload_n 0, 1) := by decide +kernel
theorem dX8_readMove_26 : decode cX8_readMove 26 = .ok (.aload_n 0, 1) := by decide +kernel
theorem dX8_readMove_27 : decode cX8_readMove 27 = .ok (.invokevirtual 50, 3) := by decide +kernel
theorem dX8_readMove_30 : decode cX8_readMove 30 = .ok (.bipush 97, 2) := by decide +kernel
theorem dX8_readMove_32 : decode cX8_readMove 32 = .ok (.isub, 1) := by decide +kernel
theorem dX8_readMove_33 : decode cX8_readMove 33 = .ok (.putfield 28, 3) := by decide +kernel
theorem dX8_readMove_36 : decode cX8_readMove 36 = .ok (.aload_n 0, 1) := by decide +kernel
theorem dX8_readMove_37 : decode cX8_readMove 37 = .ok (.aload_n 0, 1) := by decide +kernel
theorem dX8_readMove_38 : decode cX8_readMove 38 = .ok (.getfield 22, 3) := by decide +kernel
theorem dX8_readMove_41 : decode cX8_readMove 41 = .ok (.aload_n 0, 1) := by decide +kernel
theorem dX8_readMove_42 : decode cX8_readMove 42 = .ok (.getfield 19, 3) := by decide +kernel
theorem dX8_readMove_45 : decode cX8_readMove 45 = .ok (.isub, 1) := by decide +kernel
theorem dX8_readMove_46 : decode cX8_readMove 46 = .ok (.iconst 1, 1) := by decide +kernel
theorem dX8_readMove_47 : decode cX8_readMove 47 = .ok (.if_icmp .ne 23, 3) := by decide +kernel
theorem dX8_readMove_50 : decode cX8_readMove 50 = .ok (.aload_n 0, 1) := by decide +kernel
theorem dX8_readMove_51 : decode cX8_readMove 51 = .ok (.getfield 28, 3) := by decide +kernel
theorem dX8_readMove_54 : decode cX8_readMove 54 = .ok (.ifCond .lt 16, 3) := by decide +kernel
theorem dX8_readMove_57 : decode cX8_readMove 57 = .ok (.aload_n 0, 1) := by decide +kernel
theorem dX8_readMove_58 : decode cX8_readMove 58 = .ok (.getfield 28, 3) := by decide +kernel
theorem dX8_readMove_61 : decode cX8_readMove 61 = .ok (.bipush 6, 2) := by decide +kernel
theorem dX8_readMove_63 : decode cX8_readMove 63 = .ok (.if_icmp .ge 7, 3) := by decide +kernel
theorem dX8_readMove_66 : decode cX8_readMove 66 = .ok (.iconst 1, 1) := by decide +kernel
theorem dX8_readMove_67 : decode cX8_readMove 67 = .ok (.goto 4, 3) := by decide +kernel
theorem dX8_readMove_70 : decode cX8_readMove 70 = .ok (.iconst 0, 1) := by decide +kernel
theorem dX8_readMove_71 : decode cX8_readMove 71 = .ok (.invokevirtual 61, 3) := by decide +kernel
theorem dX8_readMove_74 : decode cX8_readMove 74 = .ok (.ifCond .ne 5, 3) := by decide +kernel
theorem dX8_readMove_77 : decode cX8_readMove 77 = .ok (.iconst 0, 1) := by decide +kernel
theorem dX8_readMove_78 : decode cX8_readMove 78 = .ok (.ireturn, 1) := by decide +kernel
theorem dX8_readMove_79 : decode cX8_readMove 79 = .ok (.aload_n 0, 1) := by decide +kernel
theorem dX8_readMove_80 : decode cX8_readMove 80 = .ok (.iconst 0, 1) := by decide +kernel
theorem dX8_readMove_81 : decode cX8_readMove 81 = .ok (.putfield 31, 3) := by decide +kernel
theorem dX8_readMove_84 : decode cX8_readMove 84 = .ok (.aload_n 0, 1) := by decide +kernel
theorem dX8_readMove_85 : decode cX8_readMove 85 = .ok (.getfield 28, 3) := by decide +kernel
theorem dX8_readMove_88 : decode cX8_readMove 88 = .ok (.invokestatic 65, 3) := by decide +kernel
theorem dX8_readMove_91 : decode cX8_readMove 91 = .ok (.ifCond .eq 27, 3) := by decide +kernel
theorem dX8_readMove_94 : decode cX8_readMove 94 = .ok (.aload_n 0, 1) := by decide +kernel
theorem dX8_readMove_95 : decode cX8_readMove 95 = .ok (.aload_n 0, 1) := by decide +kernel
theorem dX8_readMove_96 : decode cX8_readMove 96 = .ok (.ldc 68, 2) := by decide +kernel
theorem dX8_readMove_98 : decode cX8_readMove 98 = .ok (.invokevirtual 70, 3) := by decide +kernel
theorem dX8_readMove_101 : decode cX8_readMove 101 = .ok (.invokevirtual 61, 3) := by decide +kernel
theorem dX8_readMove_104 : decode cX8_readMove 104 = .ok (.ifCond .eq 12, 3) := by decide +kernel
theorem dX8_readMove_107 : decode cX8_readMove 107 = .ok (.aload_n 0, 1) := by decide +kernel
theorem dX8_readMove_108 : decode cX8_readMove 108 = .ok (.aload_n 1, 1) := by decide +kernel
theorem dX8_readMove_109 : decode cX8_readMove 109 = .ok (.iconst 1, 1) := by decide +kernel
theorem dX8_readMove_110 : decode cX8_readMove 110 = .ok (.invokevirtual 74, 3) := by decide +kernel
theorem dX8_readMove_113 : decode cX8_readMove 113 = .ok (.ifCond .ne 5, 3) := by decide +kernel
theorem dX8_readMove_116 : decode cX8_readMove 116 = .ok (.iconst 0, 1) := by decide +kernel
theorem dX8_readMove_117 : decode cX8_readMove 117 = .ok (.ireturn, 1) := by decide +kernel
theorem dX8_readMove_118 : decode cX8_readMove 118 = .ok (.aload_n 0, 1) := by decide +kernel
theorem dX8_readMove_119 : decode cX8_readMove 119 = .ok (.aload_n 0, 1) := by decide +kernel
theorem dX8_readMove_120 : decode cX8_readMove 120 = .ok (.ldc 78, 2) := by decide +kernel
theorem dX8_readMove_122 : decode cX8_readMove 122 = .ok (.invokevirtual 70, 3) := by decide +kernel
theorem dX8_readMove_125 : decode cX8_readMove 125 = .ok (.invokevirtual 61, 3) := by decide +kernel
theorem dX8_readMove_128 : decode cX8_readMove 128 = .ok (.ifCond .ne 5, 3) := by decide +kernel
theorem dX8_readMove_131 : decode cX8_readMove 131 = .ok (.iconst 0, 1) := by decide +kernel
theorem dX8_readMove_132 : decode cX8_readMove 132 = .ok (.ireturn, 1) := by decide +kernel
theorem dX8_readMove_133 : decode cX8_readMove 133 = .ok (.aload_n 0, 1) := by decide +kernel
theorem dX8_readMove_134 : decode cX8_readMove 134 = .ok (.aload_n 0, 1) := by decide +kernel
theorem dX8_readMove_135 : decode cX8_readMove 135 = .ok (.invokevirtual 54, 3) := by decide +kernel
