theorem dX1_init_0 : decode cX1_init 0 = .ok (.aload_n 0, 1) := by decide +kernel
theorem dX1_init_1 : decode cX1_init 1 = .ok (.invokespecial 3, 3) := by decide +kernel
theorem dX1_init_4 : decode cX1_init 4 = .ok (.aload_n 0, 1) := by decide +kernel
theorem dX1_init_5 : decode cX1_init 5 = .ok (.aload_n 1, 1) := by decide +kernel
theorem dX1_init_6 : decode cX1_init 6 = .ok (.putfield 9, 3) := by decide +kernel
theorem dX1_init_9 : decode cX1_init 9 = .ok (.aload_n 0, 1) := by decide +kernel
theorem dX1_init_10 : decode cX1_init 10 = .ok (.aload_n 2, 1) := by decide +kernel
theorem dX1_init_11 : decode cX1_init 11 = .ok (.putfield 15, 3) := by decide +kernel
theorem dX1_init_14 : decode cX1_init 14 = .ok (.aload_n 0, 1) := by decide +kernel
theorem dX1_init_15 : decode cX1_init 15 = .ok (.iload_n 3, 1) := by decide +kernel
theorem dX1_init_16 : decode cX1_init 16 = .ok (.putfield 18, 3) := by decide +kernel
theorem dX1_init_19 : decode cX1_init 19 = .ok (.return_, 1) := by decide +kernel
theorem dX1_codes_0 : decode cX1_codes 0 = .ok (.aload_n 0, 1) := by decide +kernel
theorem dX1_codes_1 : decode cX1_codes 1 = .ok (.getfield 18, 3) := by decide +kernel
theorem dX1_codes_4 : decode cX1_codes 4 = .ok (.ifCond .eq 8, 3) := by decide +kernel
theorem dX1_codes_7 : decode cX1_codes 7 = .ok (.bipush 64, 2) := by decide +kernel
theorem dX1_codes_9 : decode cX1_codes 9 = .ok (.goto 5, 3) := by decide +kernel
theorem dX1_codes_12 : decode cX1_codes 12 = .ok (.bipush 8, 2) := by decide +kernel
theorem dX1_codes_14 : decode cX1_codes 14 = .ok (.ireturn, 1) := by decide +kernel
theorem ggX1_changes_X5_changes : GoodIn wsX1_changes wsX5_changes := gdC (gd1 m34_21)
theorem gX1_changes_X5_changes : GoodIn wsX1_changes (wsV RX1 22 RX5 yX5_changes wsX5_changes) := gdC (gd4 m34_18 m34_19 m34_20 m1_15 m34_21)
theorem dX1_changes_0 : decode cX1_changes 0 = .ok (.aload_n 0, 1) := by decide +kernel
theorem dX1_changes_1 : decode cX1_changes 1 = .ok (.getfield 9, 3) := by decide +kernel
theorem dX1_changes_4 : decode cX1_changes 4 = .ok (.invokevirtual 22, 3) := by decide +kernel
theorem dX1_changes_7 : decode cX1_changes 7 = .ok (.aload_n 0, 1) := by decide +kernel
theorem dX1_changes_8 : decode cX1_changes 8 = .ok (.getfield 18, 3) := by decide +kernel
theorem dX1_changes_11 : decode cX1_changes 11 = .ok (.ifCond .eq 13, 3) := by decide +kernel
theorem dX1_changes_14 : decode cX1_changes 14 = .ok (.aload_n 0, 1) := by decide +kernel
theorem dX1_changes_15 : decode cX1_changes 15 = .ok (.getfield 15, 3) := by decide +kernel
theorem dX1_changes_18 : decode cX1_changes 18 = .ok (.invokevirtual 22, 3) := by decide +kernel
theorem dX1_changes_21 : decode cX1_changes 21 = .ok (.goto 4, 3) := by decide +kernel
theorem dX1_changes_24 : decode cX1_changes 24 = .ok (.iconst 0, 1) := by decide +kernel
theorem dX1_changes_25 : decode cX1_changes 25 = .ok (.iadd, 1) := by decide +kernel
theorem dX1_changes_26 : decode cX1_changes 26 = .ok (.ireturn, 1) := by decide +kernel
theorem ggX1_beginning_X1_joinedCode : GoodIn wsX1_beginning wsX1_joinedCode := gdC (gd1 m37_5)
theorem gX1_beginning_X1_joinedCode : GoodIn wsX1_beginning (va_wsS RX1 28 yX1_joinedCode wsX1_joinedCode) := gdC (gd3 m37_3 m37_4 m2_15 m37_5)
theorem dX1_beginning_0 : decode cX1_beginning 0 = .ok (.iconst 1, 1) := by decide +kernel
theorem dX1_beginning_1 : decode cX1_beginning 1 = .ok (.aload_n 0, 1) := by decide +kernel
theorem dX1_beginning_2 : decode cX1_beginning 2 = .ok (.getfield 18, 3) := by decide +kernel
theorem dX1_beginning_5 : decode cX1_beginning 5 = .ok (.ifCond .eq 7, 3) := by decide +kernel
theorem dX1_beginning_8 : decode cX1_beginning 8 = .ok (.iconst 1, 1) := by decide +kernel
theorem dX1_beginning_9 : decode cX1_beginning 9 = .ok (.goto 4, 3) := by decide +kernel
theorem dX1_beginning_12 : decode cX1_beginning 12 = .ok (.iconst 0, 1) := by decide +kernel
theorem dX1_beginning_13 : decode cX1_beginning 13 = .ok (.invokestatic 28, 3) := by decide +kernel
theorem dX1_beginning_16 : decode cX1_beginning 16 = .ok (.ireturn, 1) := by decide +kernel
theorem ggX1_identity_X5_identity : GoodIn wsX1_identity wsX5_identity := gdC (gd1 m28_12)
theorem gX1_identity_X5_identity : GoodIn wsX1_identity (wsV RX1 32 RX5 yX5_identity wsX5_identity) := gdC (gd4 m35_6 m28_10 m28_11 m1_15 m28_12)
theorem ggX1_identity_X1_joinedPair : GoodIn wsX1_identity wsX1_joinedPair := gdC (gd1 m35_9)
theorem gX1_identity_X1_joinedPair : GoodIn wsX1_identity (va_wsS RX1 35 yX1_joinedPair wsX1_joinedPair) := gdC (gd3 m35_7 m35_8 m2_15 m35_9)
theorem dX1_identity_0 : decode cX1_identity 0 = .ok (.aload_n 0, 1) := by decide +kernel
theorem dX1_identity_1 : decode cX1_identity 1 = .ok (.getfield 9, 3) := by decide +kernel
theorem dX1_identity_4 : decode cX1_identity 4 = .ok (.invokevirtual 32, 3) := by decide +kernel
theorem dX1_identity_7 : decode cX1_identity 7 = .ok (.aload_n 0, 1) := by decide +kernel
theorem dX1_identity_8 : decode cX1_identity 8 = .ok (.getfield 18, 3) := by decide +kernel
theorem dX1_identity_11 : decode cX1_identity 11 = .ok (.ifCond .eq 13, 3) := by decide +kernel
theorem dX1_identity_14 : decode cX1_identity 14 = .ok (.aload_n 0, 1) := by decide +kernel
theorem dX1_identity_15 : decode cX1_identity 15 = .ok (.getfield 15, 3) := by decide +kernel
theorem dX1_identity_18 : decode cX1_identity 18 = .ok (.invokevirtual 32, 3) := by decide +kernel
theorem dX1_identity_21 : decode cX1_identity 21 = .ok (.goto 4, 3) := by decide +kernel
theorem dX1_identity_24 : decode cX1_identity 24 = .ok (.iconst 0, 1) := by decide +kernel
theorem dX1_identity_25 : decode cX1_identity 25 = .ok (.invokestatic 35, 3) := by decide +kernel
theorem dX1_identity_28 : decode cX1_identity 28 = .ok (.ireturn, 1) := by decide +kernel
theorem ggX1_plain_X1_identity : GoodIn wsX1_plain wsX1_identity := gdC (gd1 m35_5)
theorem gX1_plain_X1_identity : GoodIn wsX1_plain (wsV RX1 38 RX1 yX1_identity wsX1_identity) := gdC (gd4 m35_23 m35_3 m35_4 m2_15 m35_5)
theorem ggX1_plain_X5_way : GoodIn wsX1_plain wsX5_way := gdC (gd1 m22_0)
theorem gX1_plain_X5_way : GoodIn wsX1_plain (wsV RX1 39 RX5 yX5_way wsX5_way) := gdC (gd4 m36_0 m21_22 m21_23 m1_15 m22_0)
theorem ggX1_plain_X1_joinedPair : GoodIn wsX1_plain wsX1_joinedPair := gdC (gd1 m35_9)
theorem gX1_plain_X1_joinedPair : GoodIn wsX1_plain (va_wsS RX1 35 yX1_joinedPair wsX1_joinedPair) := gdC (gd3 m35_7 m35_8 m2_15 m35_9)
theorem ggX1_plain_X1_then : GoodIn wsX1_plain wsX1_then := gdC (gd1 m36_3)
theorem gX1_plain_X1_then : GoodIn wsX1_plain (va_wsS RX1 42 yX1_then wsX1_then) := gdC (gd3 m36_1 m36_2 m2_15 m36_3)
theorem dX1_plain_0 : decode cX1_plain 0 = .ok (.aload_n 0, 1) := by decide +kernel
theorem dX1_plain_1 : decode cX1_plain 1 = .ok (.invokevirtual 38, 3) := by decide +kernel
theorem dX1_plain_4 : decode cX1_plain 4 = .ok (.aload_n 0, 1) := by decide +kernel
theorem dX1_plain_5 : decode cX1_plain 5 = .ok (.getfield 9, 3) := by decide +kernel
theorem dX1_plain_8 : decode cX1_plain 8 = .ok (.iload_n 1, 1) := by decide +kernel
theorem dX1_plain_9 : decode cX1_plain 9 = .ok (.iconst 0, 1) := by decide +kernel
theorem dX1_plain_10 : decode cX1_plain 10 = .ok (.invokevirtual 39, 3) := by decide +kernel
theorem dX1_plain_13 : decode cX1_plain 13 = .ok (.aload_n 0, 1) := by decide +kernel
theorem dX1_plain_14 : decode cX1_plain 14 = .ok (.getfield 15, 3) := by decide +kernel
theorem dX1_plain_17 : decode cX1_plain 17 = .ok (.iload_n 1, 1) := by decide +kernel
theorem dX1_plain_18 : decode cX1_plain 18 = .ok (.iconst 0, 1) := by decide +kernel
theorem dX1_plain_19 : decode cX1_plain 19 = .ok (.invokevirtual 39, 3) := by decide +kernel
theorem dX1_plain_22 : decode cX1_plain 22 = .ok (.invokestatic 35, 3) := by decide +kernel
theorem dX1_plain_25 : decode cX1_plain 25 = .ok (.invokestatic 42, 3) := by decide +kernel
theorem dX1_plain_28 : decode cX1_plain 28 = .ok (.ireturn, 1) := by decide +kernel
theorem ggX1_wrapped_X5_wrapped : GoodIn wsX1_wrapped wsX5_wrapped := gdC (gd1 m29_12)
theorem gX1_wrapped_X5_wrapped : GoodIn wsX1_wrapped (wsV RX1 45 RX5 yX5_wrapped wsX5_wrapped) := gdC (gd4 m36_13 m29_10 m29_11 m1_15 m29_12)
theorem ggX1_wrapped_X1_joinedPair : GoodIn wsX1_wrapped wsX1_joinedPair := gdC (gd1 m35_9)
theorem gX1_wrapped_X1_joinedPair : GoodIn wsX1_wrapped (va_wsS RX1 35 yX1_joinedPair wsX1_joinedPair) := gdC (gd3 m35_7 m35_8 m2_15 m35_9)
theorem dX1_wrapped_0 : decode cX1_wrapped 0 = .ok (.aload_n 0, 1) := by decide +kernel
theorem dX1_wrapped_1 : decode cX1_wrapped 1 = .ok (.getfield 9, 3) := by decide +kernel
theorem dX1_wrapped_4 : decode cX1_wrapped 4 = .ok (.iload_n 1, 1) := by decide +kernel
theorem dX1_wrapped_5 : decode cX1_wrapped 5 = .ok (.iload_n 2, 1) := by decide +kernel
theorem dX1_wrapped_6 : decode cX1_wrapped 6 = .ok (.iload_n 3, 1) := by decide +kernel
theorem dX1_wrapped_7 : decode cX1_wrapped 7 = .ok (.sipush 511, 3) := by decide +kernel
theorem dX1_wrapped_10 : decode cX1_wrapped 10 = .ok (.iand, 1) := by decide +kernel
theorem dX1_wrapped_11 : decode cX1_wrapped 11 = .ok (.invokevirtual 45, 3) := by decide +kernel
theorem dX1_wrapped_14 : decode cX1_wrapped 14 = .ok (.aload_n 0, 1) := by decide +kernel
theorem dX1_wrapped_15 : decode cX1_wrapped 15 = .ok (.getfield 15, 3) := by decide +kernel
theorem dX1_wrapped_18 : decode cX1_wrapped 18 = .ok (.iload_n 1, 1) := by decide +kernel
theorem dX1_wrapped_19 : decode cX1_wrapped 19 = .ok (.iload_n 2, 1) := by decide +kernel
theorem dX1_wrapped_20 : decode cX1_wrapped 20 = .ok (.iload_n 3, 1) := by decide +kernel
theorem dX1_wrapped_21 : decode cX1_wrapped 21 = .ok (.bipush 9, 2) := by decide +kernel
theorem dX1_wrapped_23 : decode cX1_wrapped 23 = .ok (.ishr, 1) := by decide +kernel
theorem dX1_wrapped_24 : decode cX1_wrapped 24 = .ok (.sipush 511, 3) := by decide +kernel
theorem dX1_wrapped_27 : decode cX1_wrapped 27 = .ok (.iand, 1) := by decide +kernel
theorem dX1_wrapped_28 : decode cX1_wrapped 28 = .ok (.invokevirtual 45, 3) := by decide +kernel
theorem dX1_wrapped_31 : decode cX1_wrapped 31 = .ok (.invokestatic 35, 3) := by decide +kernel
theorem dX1_wrapped_34 : decode cX1_wrapped 34 = .ok (.ireturn, 1) := by decide +kernel
theorem ggX1_alone_X5_alone : GoodIn wsX1_alone wsX5_alone := gdC (gd1 m29_17)
theorem gX1_alone_X5_alone : GoodIn wsX1_alone (wsV RX1 49 RX5 yX5_alone wsX5_alone) := gdC (gd4 m38_14 m29_15 m29_16 m1_15 m29_17)
theorem ggX1_alone_X1_joinedPair : GoodIn wsX1_alone wsX1_joinedPair := gdC (gd1 m35_9)
theorem gX1_alone_X1_joinedPair : GoodIn wsX1_alone (va_wsS RX1 35 yX1_joinedPair wsX1_joinedPair) := gdC (gd3 m35_7 m35_8 m2_15 m35_9)
theorem ggX1_alone_X1_image : GoodIn wsX1_alone wsX1_image := gdC (gd1 m38_0)
theorem gX1_alone_X1_image : GoodIn wsX1_alone (va_wsS RX1 53 yX1_image wsX1_image) := gdC (gd3 m38_15 m37_23 m2_15 m38_0)
theorem dX1_alone_0 : decode cX1_alone 0 = .ok (.iload_n 2, 1) := by decide +kernel
theorem dX1_alone_1 : decode cX1_alone 1 = .ok (.aload_n 0, 1) := by decide +kernel
theorem dX1_alone_2 : decode cX1_alone 2 = .ok (.getfield 9, 3) := by decide +kernel
theorem dX1_alone_5 : decode cX1_alone 5 = .ok (.iload_n 1, 1) := by decide +kernel
theorem dX1_alone_6 : decode cX1_alone 6 = .ok (.invokevirtual 49, 3) := by decide +kernel
theorem dX1_alone_9 : decode cX1_alone 9 = .ok (.aload_n 0, 1) := by decide +kernel
theorem dX1_alone_10 : decode cX1_alone 10 = .ok (.getfield 15, 3) := by decide +kernel
theorem dX1_alone_13 : decode cX1_alone 13 = .ok (.iload_n 1, 1) := by decide +kernel
theorem dX1_alone_14 : decode cX1_alone 14 = .ok (.invokevirtual 49, 3) := by decide +kernel
theorem dX1_alone_17 : decode cX1_alone 17 = .ok (.invokestatic 35, 3) := by decide +kernel
theorem dX1_alone_20 : decode cX1_alone 20 = .ok (.invokestatic 53, 3) := by decide +kernel
theorem dX1_alone_23 : decode cX1_alone 23 = .ok (.ireturn, 1) := by decide +kernel
theorem ggX1_takenByOne_X1_codes : GoodIn wsX1_takenByOne wsX1_codes := gdC (gd1 m6_20)
theorem gX1_takenByOne_X1_codes : GoodIn wsX1_takenByOne (wsV RX1 56 RX1 yX1_codes wsX1_codes) := gdC (gd4 m42_0 m6_18 m6_19 m2_15 m6_20)
theorem ggX1_takenByOne_X5_takesAny : GoodIn wsX1_takenByOne wsX5_takesAny := gdC (gd1 m30_1)
theorem gX1_takenByOne_X5_takesAny : GoodIn wsX1_takenByOne (wsV RX1 59 RX5 yX5_takesAny wsX5_takesAny) := gdC (gd4 m42_1 m29_23 m30_0 m1_15 m30_1)
theorem dX1_takenByOne_0 : decode cX1_takenByOne 0 = .ok (.lconst 0, 1) := by decide +kernel
theorem dX1_takenByOne_1 : decode cX1_takenByOne 1 = .ok (.lstore_n 1, 1) := by decide +kernel
theorem dX1_takenByOne_2 : decode cX1_takenByOne 2 = .ok (.iconst 0, 1) := by decide +kernel
theorem dX1_takenByOne_3 : decode cX1_takenByOne 3 = .ok (.istore_n 3, 1) := by decide +kernel
theorem dX1_takenByOne_4 : decode cX1_takenByOne 4 = .ok (.iload_n 3, 1) := by decide +kernel
theorem dX1_takenByOne_5 : decode cX1_takenByOne 5 = .ok (.aload_n 0, 1) := by decide +kernel
theorem dX1_takenByOne_6 : decode cX1_takenByOne 6 = .ok (.invokevirtual 56, 3) := by decide +kernel
theorem dX1_takenByOne_9 : decode cX1_takenByOne 9 = .ok (.if_icmp .ge 33, 3) := by decide +kernel
theorem dX1_takenByOne_12 : decode cX1_takenByOne 12 = .ok (.lload_n 1, 1) := by decide +kernel
theorem dX1_takenByOne_13 : decode cX1_takenByOne 13 = .ok (.aload_n 0, 1) := by decide +kernel
theorem dX1_takenByOne_14 : decode cX1_takenByOne 14 = .ok (.getfield 9, 3) := by decide +kernel
theorem dX1_takenByOne_17 : decode cX1_takenByOne 17 = .ok (.iload_n 3, 1) := by decide +kernel
theorem dX1_takenByOne_18 : decode cX1_takenByOne 18 = .ok (.bipush 7, 2) := by decide +kernel
theorem dX1_takenByOne_20 : decode cX1_takenByOne 20 = .ok (.iand, 1) := by decide +kernel
theorem dX1_takenByOne_21 : decode cX1_takenByOne 21 = .ok (.invokevirtual 59, 3) := by decide +kernel
theorem dX1_takenByOne_24 : decode cX1_takenByOne 24 = .ok (.ifCond .eq 9, 3) := by decide +kernel
theorem dX1_takenByOne_27 : decode cX1_takenByOne 27 = .ok (.lconst 1, 1) := by decide +kernel
theorem dX1_takenByOne_28 : decode cX1_takenByOne 28 = .ok (.iload_n 3, 1) := by decide +kernel
theorem dX1_takenByOne_29 : decode cX1_takenByOne 29 = .ok (.lshl, 1) := by decide +kernel
theorem dX1_takenByOne_30 : decode cX1_takenByOne 30 = .ok (.goto 4, 3) := by decide +kernel
theorem dX1_takenByOne_33 : decode cX1_takenByOne 33 = .ok (.lconst 0, 1) := by decide +kernel
theorem dX1_takenByOne_34 : decode cX1_takenByOne 34 = .ok (.lor, 1) := by decide +kernel
theorem dX1_takenByOne_35 : decode cX1_takenByOne 35 = .ok (.lstore_n 1, 1) := by decide +kernel
theorem dX1_takenByOne_36 : decode cX1_takenByOne 36 = .ok (.iinc 3 1, 3) := by decide +kernel
theorem dX1_takenByOne_39 : decode cX1_takenByOne 39 = .ok (.goto (-35), 3) := by decide +kernel
theorem dX1_takenByOne_42 : decode cX1_takenByOne 42 = .ok (.lload_n 1, 1) := by decide +kernel
theorem dX1_takenByOne_43 : decode cX1_takenByOne 43 = .ok (.lreturn, 1) := by decide +kernel
theorem ggX1_takenByOther_X1_codes : GoodIn wsX1_takenByOther wsX1_codes := gdC (gd1 m6_20)
theorem gX1_takenByOther_X1_codes : GoodIn wsX1_takenByOther (wsV RX1 56 RX1 yX1_codes wsX1_codes) := gdC (gd4 m42_0 m6_18 m6_19 m2_15 m6_20)
theorem ggX1_takenByOther_X5_takesAny : GoodIn wsX1_takenByOther wsX5_takesAny := gdC (gd1 m30_1)
theorem gX1_takenByOther_X5_takesAny : GoodIn wsX1_takenByOther (wsV RX1 59 RX5 yX5_takesAny wsX5_takesAny) := gdC (gd4 m42_1 m29_23 m30_0 m1_15 m30_1)
theorem dX1_takenByOther_0 : decode cX1_takenByOther 0 = .ok (.lconst 0, 1) := by decide +kernel
theorem dX1_takenByOther_1 : decode cX1_takenByOther 1 = .ok (.lstore_n 1, 1) := by decide +kernel
theorem dX1_takenByOther_2 : decode cX1_takenByOther 2 = .ok (.iconst 0, 1) := by decide +kernel
theorem dX1_takenByOther_3 : decode cX1_takenByOther 3 = .ok (.istore_n 3, 1) := by decide +kernel
theorem dX1_takenByOther_4 : decode cX1_takenByOther 4 = .ok (.iload_n 3, 1) := by decide +kernel
theorem dX1_takenByOther_5 : decode cX1_takenByOther 5 = .ok (.aload_n 0, 1) := by decide +kernel
theorem dX1_takenByOther_6 : decode cX1_takenByOther 6 = .ok (.invokevirtual 56, 3) := by decide +kernel
theorem dX1_takenByOther_9 : decode cX1_takenByOther 9 = .ok (.if_icmp .ge 35, 3) := by decide +kernel
theorem dX1_takenByOther_12 : decode cX1_takenByOther 12 = .ok (.lload_n 1, 1) := by decide +kernel
theorem dX1_takenByOther_13 : decode cX1_takenByOther 13 = .ok (.aload_n 0, 1) := by decide +kernel
theorem dX1_takenByOther_14 : decode cX1_takenByOther 14 = .ok (.getfield 15, 3) := by decide +kernel
theorem dX1_takenByOther_17 : decode cX1_takenByOther 17 = .ok (.iload_n 3, 1) := by decide +kernel
theorem dX1_takenByOther_18 : decode cX1_takenByOther 18 = .ok (.iconst 3, 1) := by decide +kernel
theorem dX1_takenByOther_19 : decode cX1_takenByOther 19 = .ok (.ishr, 1) := by decide +kernel
theorem dX1_takenByOther_20 : decode cX1_takenByOther 20 = .ok (.bipush 7, 2) := by decide +kernel
theorem dX1_takenByOther_22 : decode cX1_takenByOther 22 = .ok (.iand, 1) := by decide +kernel
theorem dX1_takenByOther_23 : decode cX1_takenByOther 23 = .ok (.invokevirtual 59, 3) := by decide +kernel
theorem dX1_takenByOther_26 : decode cX1_takenByOther 26 = .ok (.ifCond .eq 9, 3) := by decide +kernel
theorem dX1_takenByOther_29 : decode cX1_takenByOther 29 = .ok (.lconst 1, 1) := by decide +kernel
theorem dX1_takenByOther_30 : decode cX1_takenByOther 30 = .ok (.iload_n 3, 1) := by decide +kernel
theorem dX1_takenByOther_31 : decode cX1_takenByOther 31 = .ok (.lshl, 1) := by decide +kernel
theorem dX1_takenByOther_32 : decode cX1_takenByOther 32 = .ok (.goto 4, 3) := by decide +kernel
theorem dX1_takenByOther_35 : decode cX1_takenByOther 35 = .ok (.lconst 0, 1) := by decide +kernel
theorem dX1_takenByOther_36 : decode cX1_takenByOther 36 = .ok (.lor, 1) := by decide +kernel
theorem dX1_takenByOther_37 : decode cX1_takenByOther 37 = .ok (.lstore_n 1, 1) := by decide +kernel
theorem dX1_takenByOther_38 : decode cX1_takenByOther 38 = .ok (.iinc 3 1, 3) := by decide +kernel
theorem dX1_takenByOther_41 : decode cX1_takenByOther 41 = .ok (.goto (-37), 3) := by decide +kernel
theorem dX1_takenByOther_44 : decode cX1_takenByOther 44 = .ok (.lload_n 1, 1) := by decide +kernel
theorem dX1_takenByOther_45 : decode cX1_takenByOther 45 = .ok (.lreturn, 1) := by decide +kernel
theorem ggX1_image_X5_image : GoodIn wsX1_image wsX5_image := gdC (gd1 m29_3)
theorem gX1_image_X5_image : GoodIn wsX1_image (va_wsS RX1 63 yX5_image wsX5_image) := gdC (gd3 m38_1 m29_2 m1_15 m29_3)
theorem ggX1_image_X1_joinedCode : GoodIn wsX1_image wsX1_joinedCode := gdC (gd1 m37_5)
theorem gX1_image_X1_joinedCode : GoodIn wsX1_image (va_wsS RX1 28 yX1_joinedCode wsX1_joinedCode) := gdC (gd3 m37_3 m37_4 m2_15 m37_5)
theorem dX1_image_0 : decode cX1_image 0 = .ok (.iload_n 0, 1) := by decide +kernel
theorem dX1_image_1 : decode cX1_image 1 = .ok (.bipush 7, 2) := by decide +kernel
theorem dX1_image_3 : decode cX1_image 3 = .ok (.iand, 1) := by decide +kernel
theorem dX1_image_4 : decode cX1_image 4 = .ok (.iload_n 1, 1) := by decide +kernel
theorem dX1_image_5 : decode cX1_image 5 = .ok (.sipush 511, 3) := by decide +kernel
theorem dX1_image_8 : decode cX1_image 8 = .ok (.iand, 1) := by decide +kernel
theorem dX1_image_9 : decode cX1_image 9 = .ok (.invokestatic 63, 3) := by decide +kernel
theorem dX1_image_12 : decode cX1_image 12 = .ok (.iload_n 0, 1) := by decide +kernel
theorem dX1_image_13 : decode cX1_image 13 = .ok (.iconst 3, 1) := by decide +kernel
theorem dX1_image_14 : decode cX1_image 14 = .ok (.ishr, 1) := by decide +kernel
theorem dX1_image_15 : decode cX1_image 15 = .ok (.bipush 7, 2) := by decide +kernel
theorem dX1_image_17 : decode cX1_image 17 = .ok (.iand, 1) := by decide +kernel
theorem dX1_image_18 : decode cX1_image 18 = .ok (.iload_n 1, 1) := by decide +kernel
theorem dX1_image_19 : decode cX1_image 19 = .ok (.bipush 9, 2) := by decide +kernel
theorem dX1_image_21 : decode cX1_image 21 = .ok (.ishr, 1) := by decide +kernel
theorem dX1_image_22 : decode cX1_image 22 = .ok (.sipush 511, 3) := by decide +kernel
theorem dX1_image_25 : decode cX1_image 25 = .ok (.iand, 1) := by decide +kernel
theorem dX1_image_26 : decode cX1_image 26 = .ok (.invokestatic 63, 3) := by decide +kernel
theorem dX1_image_29 : decode cX1_image 29 = .ok (.invokestatic 28, 3) := by decide +kernel
theorem dX1_image_32 : decode cX1_image 32 = .ok (.ireturn, 1) := by decide +kernel
theorem ggX1_then_X5_then : GoodIn wsX1_then wsX5_then := gdC (gd1 m29_6)
theorem gX1_then_X5_then : GoodIn wsX1_then (va_wsS RX1 64 yX5_then wsX5_then) := gdC (gd3 m36_4 m29_5 m1_15 m29_6)
theorem ggX1_then_X1_joinedPair : GoodIn wsX1_then wsX1_joinedPair := gdC (gd1 m35_9)
theorem gX1_then_X1_joinedPair : GoodIn wsX1_then (va_wsS RX1 35 yX1_joinedPair wsX1_joinedPair) := gdC (gd3 m35_7 m35_8 m2_15 m35_9)
theorem dX1_then_0 : decode cX1_then 0 = .ok (.iload_n 0, 1) := by decide +kernel
theorem dX1_then_1 : decode cX1_then 1 = .ok (.sipush 511, 3) := by decide +kernel
theorem dX1_then_4 : decode cX1_then 4 = .ok (.iand, 1) := by decide +kernel
theorem dX1_then_5 : decode cX1_then 5 = .ok (.iload_n 1, 1) := by decide +kernel
theorem dX1_then_6 : decode cX1_then 6 = .ok (.sipush 511, 3) := by decide +kernel
theorem dX1_then_9 : decode cX1_then 9 = .ok (.iand, 1) := by decide +kernel
theorem dX1_then_10 : decode cX1_then 10 = .ok (.invokestatic 64, 3) := by decide +kernel
theorem dX1_then_13 : decode cX1_then 13 = .ok (.iload_n 0, 1) := by decide +kernel
theorem dX1_then_14 : decode cX1_then 14 = .ok (.bipush 9, 2) := by decide +kernel
theorem dX1_then_16 : decode cX1_then 16 = .ok (.ishr, 1) := by decide +kernel
theorem dX1_then_17 : decode cX1_then 17 = .ok (.sipush 511, 3) := by decide +kernel
theorem dX1_then_20 : decode cX1_then 20 = .ok (.iand, 1) := by decide +kernel
theorem dX1_then_21 : decode cX1_then 21 = .ok (.iload_n 1, 1) := by decide +kernel
theorem dX1_then_22 : decode cX1_then 22 = .ok (.bipush 9, 2) := by decide +kernel
theorem dX1_then_24 : decode cX1_then 24 = .ok (.ishr, 1) := by decide +kernel
theorem dX1_then_25 : decode cX1_then 25 = .ok (.sipush 511, 3) := by decide +kernel
theorem dX1_then_28 : decode cX1_then 28 = .ok (.iand, 1) := by decide +kernel
theorem dX1_then_29 : decode cX1_then 29 = .ok (.invokestatic 64, 3) := by decide +kernel
theorem dX1_then_32 : decode cX1_then 32 = .ok (.invokestatic 35, 3) := by decide +kernel
theorem dX1_then_35 : decode cX1_then 35 = .ok (.ireturn, 1) := by decide +kernel
theorem dX1_joinedCode_0 : decode cX1_joinedCode 0 = .ok (.iload_n 0, 1) := by decide +kernel
theorem dX1_joinedCode_1 : decode cX1_joinedCode 1 = .ok (.iload_n 1, 1) := by decide +kernel
theorem dX1_joinedCode_2 : decode cX1_joinedCode 2 = .ok (.iconst 3, 1) := by decide +kernel
theorem dX1_joinedCode_3 : decode cX1_joinedCode 3 = .ok (.ishl, 1) := by decide +kernel
theorem dX1_joinedCode_4 : decode cX1_joinedCode 4 = .ok (.ior, 1) := by decide +kernel
theorem dX1_joinedCode_5 : decode cX1_joinedCode 5 = .ok (.ireturn, 1) := by decide +kernel
theorem dX1_joinedPair_0 : decode cX1_joinedPair 0 = .ok (.iload_n 0, 1) := by decide +kernel
theorem dX1_joinedPair_1 : decode cX1_joinedPair 1 = .ok (.iload_n 1, 1) := by decide +kernel
theorem dX1_joinedPair_2 : decode cX1_joinedPair 2 = .ok (.bipush 9, 2) := by decide +kernel
theorem dX1_joinedPair_4 : decode cX1_joinedPair 4 = .ok (.ishl, 1) := by decide +kernel
theorem dX1_joinedPair_5 : decode cX1_joinedPair 5 = .ok (.ior, 1) := by decide +kernel
theorem dX1_joinedPair_6 : decode cX1_joinedPair 6 = .ok (.ireturn, 1) := by decide +kernel
def wX1_codes (F_both : Int32) (K : Int32 → Prop) : Prop :=
  ((F_both = (0 : Int32) → K (8 : Int32)) ∧ (¬ F_both = (0 : Int32) → K (64 : Int32)))
abbrev rmX1_codes : Room := { frames := 0, cells := 0, slots := 0, locals := 0 }
theorem nd_X1_codes : yX1_codes.cls = RX1 ∧ yX1_codes.cls ≠ "java/lang/invoke/MethodHandle" ∧ yX1_codes.cls ≠ "java/lang/invoke/VarHandle" ∧ (parseMethodDescriptor yX1_codes.desc).map (fun d => d.parameters.length) = some 0 := by decide +kernel
theorem hkX1_codes_X1 : ∀ w ∈ u_ws RX1 TX1 3, w ∈ wsX1_codes := fun w h => List.mem_cons_of_mem _ (inlX1 w h)
theorem hfX1_codes_18 : (Cond.fieldLink RX1 18 "NestReaders$Held" "both" "Z") ∈ wsX1_codes := List.mem_cons_of_mem _ m5_9
set_option maxHeartbeats 4000000 in
set_option maxRecDepth 100000 in
theorem c_X1_codes (l : Launch) (G : va_G) (cI cJ cZ : ClassId) (q_t q_t_one q_t_other : Nat) (F_both : Int32) {K : Int32 → Prop} (hw : wX1_codes F_both K) : Met l yX1_codes wsX1_codes rmX1_codes (ms_P G (ms_T cI cJ cZ) [(q_t, .inr (1, [.ref q_t_one, .ref q_t_other, .int F_both]))] [.ref q_t]) (ms_Qi K) 0 0 ms_N := by
  refine ms_si (cc := cX1_codes) (maxL := 1) (ty := .int) (by decide) rfl (Nat.le_of_ble_eq_true rfl) ?_
  intro p e s m args below meth c Q hx hb hml hown hts hK hP hD hRet ls hl
  have hl : lv_has ls 1 [(0, .ref q_t)] := hl
  have hown : s.vm.findClass RX1 = some m.cls := hown
  refine lv_aload_n hx hb dX1_codes_0 rfl (lv_at hl 0 rfl) ?_
  refine va_get (D := G) (ci := 1) (v := .int F_both) (C := RX1) (T := TX1) (N := 3) hx hb hts hkX1_codes_X1 hown hK hP 0 rfl rfl 2 (by decide) (hts (.fieldLink RX1 18 "NestReaders$Held" "both" "Z") hfX1_codes_18) (fun _ h9 => h9) rfl dX1_codes_1 ?_
  refine lv_if_eq (tgt := 12) hx hb dX1_codes_4 (by decide) (fun c1 => ?_) (fun c1 => ?_)
  · have hw := hw.1 c1
    refine lv_bipush (v := (8)) hx hb dX1_codes_12 (by decide) ?_
    exact hRet (8 : Int32) _ _ hw (vp_nar_int _) dX1_codes_14
  · have hw := hw.2 c1
    refine lv_bipush (v := (64)) hx hb dX1_codes_7 (by decide) ?_
    refine lv_goto (tgt := 14) hx hb dX1_codes_9 (by decide) ?_
    exact hRet (64 : Int32) _ _ hw (vp_nar_int _) dX1_codes_14
def wX1_changes (F_both : Int32) (F_one_changes : Int32) (F_other_changes : Int32) (K : Int32 → Prop) : Prop :=
  (wX5_changes F_one_changes (fun r1 => ((F_both = (0 : Int32) → K (r1 + (0 : Int32))) ∧ (¬ F_both = (0 : Int32) → (wX5_changes F_other_changes (fun r3 => K (r1 + r3)))))))
abbrev rmX1_changes : Room := { frames := 1, cells := 0, slots := 0, locals := 20 }
theorem nd_X1_changes : yX1_changes.cls = RX1 ∧ yX1_changes.cls ≠ "java/lang/invoke/MethodHandle" ∧ yX1_changes.cls ≠ "java/lang/invoke/VarHandle" ∧ (parseMethodDescriptor yX1_changes.desc).map (fun d => d.parameters.length) = some 0 := by decide +kernel
theorem hkX1_changes_X1 : ∀ w ∈ u_ws RX1 TX1 3, w ∈ wsX1_changes := fun w h => List.mem_cons_of_mem _ (inlX1 w h)
theorem hfX1_changes_9 : (Cond.fieldLink RX1 9 "NestReaders$Held" "one" "LNestReaders$Reader;") ∈ wsX1_changes := List.mem_cons_of_mem _ m5_7
theorem hfX1_changes_18 : (Cond.fieldLink RX1 18 "NestReaders$Held" "both" "Z") ∈ wsX1_changes := List.mem_cons_of_mem _ m5_9
theorem hfX1_changes_15 : (Cond.fieldLink RX1 15 "NestReaders$Held" "other" "LNestReaders$Reader;") ∈ wsX1_changes := List.mem_cons_of_mem _ m5_8
set_option maxHeartbeats 4000000 in
set_option maxRecDepth 100000 in
theorem c_X1_changes (l : Launch) (G : va_G) (cI cJ cZ : ClassId) (q_t q_t_one q_t_other q_t_one_ways q_t_other_ways : Nat) (F_both : Int32) (F_one_states : Int32) (F_one_marks : Int32) (F_one_takes : Int32) (F_one_changes : Int32) (F_other_states : Int32) (F_other_marks : Int32) (F_other_takes : Int32) (F_other_changes : Int32) {K : Int32 → Prop} (hw : wX1_changes F_both F_one_changes F_other_changes K) : Met l yX1_changes wsX1_changes rmX1_changes (ms_P G (ms_T cI cJ cZ) [(q_t, .inr (1, [.ref q_t_one, .ref q_t_other, .int F_both])), (q_t_one, .inr (5, [.ref q_t_one_ways, .int F_one_states, .int F_one_marks, .int F_one_takes, .int F_one_changes])), (q_t_other, .inr (5, [.ref q_t_other_ways, .int F_other_states, .int F_other_marks, .int F_other_takes, .int F_other_changes]))] [.ref q_t]) (ms_Qi K) 0 0 ms_N := by
  refine ms_si (cc := cX1_changes) (maxL := 1) (ty := .int) (by decide) rfl (Nat.le_of_ble_eq_true rfl) ?_
  intro p e s m args below meth c Q hx hb hml hown hts hK hP hD hRet ls hl
  have hl : lv_has ls 1 [(0, .ref q_t)] := hl
  have hown : s.vm.findClass RX1 = some m.cls := hown
  refine lv_aload_n hx hb dX1_changes_0 rfl (lv_at hl 0 rfl) ?_
  refine va_get (D := G) (ci := 1) (v := .ref q_t_one) (C := RX1) (T := TX1) (N := 3) hx hb hts hkX1_changes_X1 hown hK hP 0 rfl rfl 0 (by decide) (hts (.fieldLink RX1 9 "NestReaders$Held" "one" "LNestReaders$Reader;") hfX1_changes_9) (fun _ h9 => h9) rfl dX1_changes_1 ?_
  refine ms_cVi ⟨hx, hb, hml, hown, hts⟩ hK hP hD (c_X5_changes l G cI cJ cZ q_t_one q_t_one_ways F_one_states F_one_marks F_one_takes F_one_changes hw) gX1_changes_X5_changes rfl nd_X5_changes (ci := 5) rfl rfl rfl ⟨rfl, rfl⟩ rfl ⟨Nat.le_of_ble_eq_true rfl, Nat.le_of_ble_eq_true rfl⟩ hl.1 (rest := []) rfl (Nat.le_of_ble_eq_true rfl)  [1] rfl rfl dX1_changes_4 (fun r1 hw => ?_)
  refine lv_aload_n hx hb dX1_changes_7 rfl (lv_at hl 0 rfl) ?_
  refine va_get (D := G) (ci := 1) (v := .int F_both) (C := RX1) (T := TX1) (N := 3) hx hb hts hkX1_changes_X1 hown hK hP 0 rfl rfl 2 (by decide) (hts (.fieldLink RX1 18 "NestReaders$Held" "both" "Z") hfX1_changes_18) (fun _ h9 => h9) rfl dX1_changes_8 ?_
  refine lv_if_eq (tgt := 24) hx hb dX1_changes_11 (by decide) (fun c2 => ?_) (fun c2 => ?_)
  · have hw := hw.1 c2
    refine lv_iconst (v := 0) hx hb dX1_changes_24 (by decide) ?_
    refine lv_iadd hx hb dX1_changes_25 ?_
    exact hRet (r1 + (0 : Int32)) _ _ hw (vp_nar_int _) dX1_changes_26
  · have hw := hw.2 c2
    refine lv_aload_n hx hb dX1_changes_14 rfl (lv_at hl 0 rfl) ?_
    refine va_get (D := G) (ci := 1) (v := .ref q_t_other) (C := RX1) (T := TX1) (N := 3) hx hb hts hkX1_changes_X1 hown hK hP 0 rfl rfl 1 (by decide) (hts (.fieldLink RX1 15 "NestReaders$Held" "other" "LNestReaders$Reader;") hfX1_changes_15) (fun _ h9 => h9) rfl dX1_changes_15 ?_
    refine ms_cVi ⟨hx, hb, hml, hown, hts⟩ hK hP hD (c_X5_changes l G cI cJ cZ q_t_other q_t_other_ways F_other_states F_other_marks F_other_takes F_other_changes hw) gX1_changes_X5_changes rfl nd_X5_changes (ci := 5) rfl rfl rfl ⟨rfl, rfl⟩ rfl ⟨Nat.le_of_ble_eq_true rfl, Nat.le_of_ble_eq_true rfl⟩ hl.1 (rest := [.int r1]) rfl (Nat.le_of_ble_eq_true rfl)  [2] rfl rfl dX1_changes_18 (fun r3 hw => ?_)
    refine lv_goto (tgt := 25) hx hb dX1_changes_21 (by decide) ?_
    refine lv_iadd hx hb dX1_changes_25 ?_
    exact hRet (r1 + r3) _ _ hw (vp_nar_int _) dX1_changes_26
set_option maxHeartbeats 4000000 in
set_option maxRecDepth 100000 in
theorem c_X1_changes_S (l : Launch) (G : va_G) (cI cJ cZ : ClassId) (q_t q_t_one q_t_one_ways : Nat) (F_both : Int32) (F_one_states : Int32) (F_one_marks : Int32) (F_one_takes : Int32) (F_one_changes : Int32) {K : Int32 → Prop} (hw : wX1_changes F_both F_one_changes F_one_changes K) : Met l yX1_changes wsX1_changes rmX1_changes (ms_P G (ms_T cI cJ cZ) [(q_t, .inr (1, [.ref q_t_one, .ref q_t_one, .int F_both])), (q_t_one, .inr (5, [.ref q_t_one_ways, .int F_one_states, .int F_one_marks, .int F_one_takes, .int F_one_changes]))] [.ref q_t]) (ms_Qi K) 0 0 ms_N := by
  refine ms_si (cc := cX1_changes) (maxL := 1) (ty := .int) (by decide) rfl (Nat.le_of_ble_eq_true rfl) ?_
  intro p e s m args below meth c Q hx hb hml hown hts hK hP hD hRet ls hl
  have hl : lv_has ls 1 [(0, .ref q_t)] := hl
  have hown : s.vm.findClass RX1 = some m.cls := hown
  refine lv_aload_n hx hb dX1_changes_0 rfl (lv_at hl 0 rfl) ?_
  refine va_get (D := G) (ci := 1) (v := .ref q_t_one) (C := RX1) (T := TX1) (N := 3) hx hb hts hkX1_changes_X1 hown hK hP 0 rfl rfl 0 (by decide) (hts (.fieldLink RX1 9 "NestReaders$Held" "one" "LNestReaders$Reader;") hfX1_changes_9) (fun _ h9 => h9) rfl dX1_changes_1 ?_
  refine ms_cVi ⟨hx, hb, hml, hown, hts⟩ hK hP hD (c_X5_changes l G cI cJ cZ q_t_one q_t_one_ways F_one_states F_one_marks F_one_takes F_one_changes hw) gX1_changes_X5_changes rfl nd_X5_changes (ci := 5) rfl rfl rfl ⟨rfl, rfl⟩ rfl ⟨Nat.le_of_ble_eq_true rfl, Nat.le_of_ble_eq_true rfl⟩ hl.1 (rest := []) rfl (Nat.le_of_ble_eq_true rfl)  [1] rfl rfl dX1_changes_4 (fun r1 hw => ?_)
  refine lv_aload_n hx hb dX1_changes_7 rfl (lv_at hl 0 rfl) ?_
  refine va_get (D := G) (ci := 1) (v := .int F_both) (C := RX1) (T := TX1) (N := 3) hx hb hts hkX1_changes_X1 hown hK hP 0 rfl rfl 2 (by decide) (hts (.fieldLink RX1 18 "NestReaders$Held" "both" "Z") hfX1_changes_18) (fun _ h9 => h9) rfl dX1_changes_8 ?_
  refine lv_if_eq (tgt := 24) hx hb dX1_changes_11 (by decide) (fun c2 => ?_) (fun c2 => ?_)
  · have hw := hw.1 c2
    refine lv_iconst (v := 0) hx hb dX1_changes_24 (by decide) ?_
    refine lv_iadd hx hb dX1_changes_25 ?_
    exact hRet (r1 + (0 : Int32)) _ _ hw (vp_nar_int _) dX1_changes_26
  · have hw := hw.2 c2
    refine lv_aload_n hx hb dX1_changes_14 rfl (lv_at hl 0 rfl) ?_
    refine va_get (D := G) (ci := 1) (v := .ref q_t_one) (C := RX1) (T := TX1) (N := 3) hx hb hts hkX1_changes_X1 hown hK hP 0 rfl rfl 1 (by decide) (hts (.fieldLink RX1 15 "NestReaders$Held" "other" "LNestReaders$Reader;") hfX1_changes_15) (fun _ h9 => h9) rfl dX1_changes_15 ?_
    refine ms_cVi ⟨hx, hb, hml, hown, hts⟩ hK hP hD (c_X5_changes l G cI cJ cZ q_t_one q_t_one_ways F_one_states F_one_marks F_one_takes F_one_changes hw) gX1_changes_X5_changes rfl nd_X5_changes (ci := 5) rfl rfl rfl ⟨rfl, rfl⟩ rfl ⟨Nat.le_of_ble_eq_true rfl, Nat.le_of_ble_eq_true rfl⟩ hl.1 (rest := [.int r1]) rfl (Nat.le_of_ble_eq_true rfl)  [1] rfl rfl dX1_changes_18 (fun r3 hw => ?_)
    refine lv_goto (tgt := 25) hx hb dX1_changes_21 (by decide) ?_
    refine lv_iadd hx hb dX1_changes_25 ?_
    exact hRet (r1 + r3) _ _ hw (vp_nar_int _) dX1_changes_26
def wX1_takenByOne_L4 (F_both : Int32) (F_one_takes : Int32) (E4 : Int64 → Int32 → Prop) (i4_1 : Int64) (i4_3 : Int32) : Prop :=
  ∀ P4 : Int64 → Int32 → Prop, (∀ (i4_1 : Int64) (i4_3 : Int32), (wX1_codes F_both (fun r1 => ((r1 ≤ i4_3 → E4 i4_1 i4_3) ∧ (¬ r1 ≤ i4_3 → (wX5_takesAny (i4_3 &&& (7 : Int32)) F_one_takes (fun r3 => ((r3 = (0 : Int32) → (∀ x5 : Int64, x5 = (i4_1 ||| (0 : Int64)) → (∀ x6 : Int32, x6 = i4_3 + (1 : Int32) → P4 x5 x6))) ∧ (¬ r3 = (0 : Int32) → (∀ x7 : Int64, x7 = (i4_1 ||| ((1 : Int64) <<< ((i4_3).toInt64 &&& 63))) → (∀ x8 : Int32, x8 = i4_3 + (1 : Int32) → P4 x7 x8)))))))))) → P4 i4_1 i4_3) → P4 i4_1 i4_3
def wX1_takenByOne (F_both : Int32) (F_one_takes : Int32) (K : Int64 → Prop) : Prop :=
  (wX1_takenByOne_L4 F_both F_one_takes (fun i4_1 i4_3 => K i4_1) (0 : Int64) (0 : Int32))
abbrev rmX1_takenByOne : Room := { frames := 1, cells := 0, slots := 0, locals := 21 }
theorem nd_X1_takenByOne : yX1_takenByOne.cls = RX1 ∧ yX1_takenByOne.cls ≠ "java/lang/invoke/MethodHandle" ∧ yX1_takenByOne.cls ≠ "java/lang/invoke/VarHandle" ∧ (parseMethodDescriptor yX1_takenByOne.desc).map (fun d => d.parameters.length) = some 0 := by decide +kernel
theorem hkX1_takenByOne_X1 : ∀ w ∈ u_ws RX1 TX1 3, w ∈ wsX1_takenByOne := fun w h => List.mem_cons_of_mem _ (inlX1 w h)
theorem hfX1_takenByOne_9 : (Cond.fieldLink RX1 9 "NestReaders$Held" "one" "LNestReaders$Reader;") ∈ wsX1_takenByOne := List.mem_cons_of_mem _ m5_7
set_option maxHeartbeats 4000000 in
set_option maxRecDepth 100000 in
theorem c_X1_takenByOne (l : Launch) (G : va_G) (cI cJ cZ : ClassId) (q_t q_t_one q_t_other q_t_one_ways : Nat) (F_both : Int32) (F_one_states : Int32) (F_one_marks : Int32) (F_one_takes : Int32) (F_one_changes : Int32) {K : Int64 → Prop} (hw : wX1_takenByOne F_both F_one_takes K) : Met l yX1_takenByOne wsX1_takenByOne rmX1_takenByOne (ms_P G (ms_T cI cJ cZ) [(q_t, .inr (1, [.ref q_t_one, .ref q_t_other, .int F_both])), (q_t_one, .inr (5, [.ref q_t_one_ways, .int F_one_states, .int F_one_marks, .int F_one_takes, .int F_one_changes]))] [.ref q_t]) (ms_Ql K) 0 0 ms_N := by
  refine ms_sl (cc := cX1_takenByOne) (maxL := 4) (by decide) rfl (Nat.le_of_ble_eq_true rfl) ?_
  intro p e s m args below meth c Q hx hb hml hown hts hK hP hD hRet ls hl
  have hl : lv_has ls 4 [(0, .ref q_t)] := hl
  have hown : s.vm.findClass RX1 = some m.cls := hown
  refine lv_lconst (v := 0) hx hb dX1_takenByOne_0 (by decide) ?_
  refine lv_lstore_n (lv' := [(1, .long (0 : Int64)), (0, .ref q_t)]) hx hb dX1_takenByOne_1 rfl hl (by decide) rfl (fun ls hl => ?_)
  refine lv_iconst (v := 0) hx hb dX1_takenByOne_2 (by decide) ?_
  refine lv_istore_n (lv' := [(3, .int (0 : Int32)), (1, .long (0 : Int64)), (0, .ref q_t)]) hx hb dX1_takenByOne_3 rfl hl (by decide) rfl (fun ls hl => ?_)
  refine hw (fun i4_1 i4_3 => ∀ ls : Array Slot, lv_has ls 4 [(0, .ref q_t), (1, .long i4_1), (3, .int i4_3)] → W p l e rmX1_takenByOne s m args below meth c s.heap [] 0 0 Q (F0 m 4 ls [])) (fun i4_1 i4_3 hw ls hl => ?_) ls (lv_sub hl [2, 1, 0] rfl)
  refine lv_iload_n hx hb dX1_takenByOne_4 rfl (lv_at hl 2 rfl) ?_
  refine lv_aload_n hx hb dX1_takenByOne_5 rfl (lv_at hl 0 rfl) ?_
  refine ms_cVi ⟨hx, hb, hml, hown, hts⟩ hK hP hD (c_X1_codes l G cI cJ cZ q_t q_t_one q_t_other F_both hw) gX1_takenByOne_X1_codes rfl nd_X1_codes (ci := 1) rfl rfl rfl ⟨rfl, rfl⟩ rfl ⟨Nat.le_of_ble_eq_true rfl, Nat.le_of_ble_eq_true rfl⟩ hl.1 (rest := [.int i4_3]) rfl (Nat.le_of_ble_eq_true rfl)  [0] rfl rfl dX1_takenByOne_6 (fun r1 hw => ?_)
  refine lv_icmp_ge (tgt := 42) hx hb dX1_takenByOne_9 (by decide) (fun c2 => ?_) (fun c2 => ?_)
  · have hw := hw.1 c2
    refine lv_lload_n hx hb dX1_takenByOne_42 rfl (lv_at hl 1 rfl) ?_
    exact hRet i4_1 _ _ hw dX1_takenByOne_43
  · have hw := hw.2 c2
    refine lv_lload_n hx hb dX1_takenByOne_12 rfl (lv_at hl 1 rfl) ?_
    refine lv_aload_n hx hb dX1_takenByOne_13 rfl (lv_at hl 0 rfl) ?_
    refine va_get (D := G) (ci := 1) (v := .ref q_t_one) (C := RX1) (T := TX1) (N := 3) hx hb hts hkX1_takenByOne_X1 hown hK hP 0 rfl rfl 0 (by decide) (hts (.fieldLink RX1 9 "NestReaders$Held" "one" "LNestReaders$Reader;") hfX1_takenByOne_9) (fun _ h9 => h9) rfl dX1_takenByOne_14 ?_
    refine lv_iload_n hx hb dX1_takenByOne_17 rfl (lv_at hl 2 rfl) ?_
    refine lv_bipush (v := (7)) hx hb dX1_takenByOne_18 (by decide) ?_
    refine lv_iand hx hb dX1_takenByOne_20 ?_
    refine ms_cVi ⟨hx, hb, hml, hown, hts⟩ hK hP hD (c_X5_takesAny l G cI cJ cZ q_t_one q_t_one_ways F_one_states F_one_marks F_one_takes F_one_changes (i4_3 &&& (7 : Int32)) hw) gX1_takenByOne_X5_takesAny rfl nd_X5_takesAny (ci := 5) rfl rfl rfl ⟨rfl, rfl⟩ rfl ⟨Nat.le_of_ble_eq_true rfl, Nat.le_of_ble_eq_true rfl⟩ hl.1 (rest := [.long i4_1]) rfl (Nat.le_of_ble_eq_true rfl)  [1] rfl rfl dX1_takenByOne_21 (fun r3 hw => ?_)
    have zzr3 := hw.1
    have hw := hw.2
    refine lv_if_eq (tgt := 33) hx hb dX1_takenByOne_24 (by decide) (fun c4 => ?_) (fun c4 => ?_)
    · have hw := hw.1 c4
      refine lv_lconst (v := 0) hx hb dX1_takenByOne_33 (by decide) ?_
      refine lv_lor hx hb dX1_takenByOne_34 ?_
      refine lv_topl (fun x5 ex5 => ?_)
      have hw := hw x5 ex5
      refine lv_lstore_n (lv' := [(1, .long x5), (0, .ref q_t), (3, .int i4_3)]) hx hb dX1_takenByOne_35 rfl hl (by decide) rfl (fun ls hl => ?_)
      obtain ⟨x6, ex6⟩ : ∃ y : Int32, y = i4_3 + (1 : Int32) := ⟨_, rfl⟩
      have hw := hw x6 ex6
      refine lv_iinc (v := x6) (lv' := [(3, .int x6), (1, .long x5), (0, .ref q_t)]) hx hb dX1_takenByOne_36 hl (k := 2) rfl (by rw [ex6]; rfl) (by decide) rfl (fun ls hl => ?_)
      refine lv_goto (tgt := 4) hx hb dX1_takenByOne_39 (by decide) ?_
      exact hw ls (lv_sub hl [2, 1, 0] rfl)
    · have hw := hw.2 c4
      refine lv_lconst (v := 1) hx hb dX1_takenByOne_27 (by decide) ?_
      refine lv_iload_n hx hb dX1_takenByOne_28 rfl (lv_at hl 2 rfl) ?_
      refine lv_lshl hx hb dX1_takenByOne_29 rfl ?_
      refine lv_goto (tgt := 34) hx hb dX1_takenByOne_30 (by decide) ?_
      refine lv_lor hx hb dX1_takenByOne_34 ?_
      refine lv_topl (fun x7 ex7 => ?_)
      have hw := hw x7 ex7
      refine lv_lstore_n (lv' := [(1, .long x7), (0, .ref q_t), (3, .int i4_3)]) hx hb dX1_takenByOne_35 rfl hl (by decide) rfl (fun ls hl => ?_)
      obtain ⟨x8, ex8⟩ : ∃ y : Int32, y = i4_3 + (1 : Int32) := ⟨_, rfl⟩
      have hw := hw x8 ex8
      refine lv_iinc (v := x8) (lv' := [(3, .int x8), (1, .long x7), (0, .ref q_t)]) hx hb dX1_takenByOne_36 hl (k := 2) rfl (by rw [ex8]; rfl) (by decide) rfl (fun ls hl => ?_)
      refine lv_goto (tgt := 4) hx hb dX1_takenByOne_39 (by decide) ?_
      exact hw ls (lv_sub hl [2, 1, 0] rfl)
def wX1_takenByOther_L4 (F_both : Int32) (F_other_takes : Int32) (E4 : Int64 → Int32 → Prop) (i4_1 : Int64) (i4_3 : Int32) : Prop :=
  ∀ P4 : Int64 → Int32 → Prop, (∀ (i4_1 : Int64) (i4_3 : Int32), (wX1_codes F_both (fun r1 => ((r1 ≤ i4_3 → E4 i4_1 i4_3) ∧ (¬ r1 ≤ i4_3 → (wX5_takesAny ((i4_3 >>> ((3 : Int32) &&& 31)) &&& (7 : Int32)) F_other_takes (fun r3 => ((r3 = (0 : Int32) → (∀ x5 : Int64, x5 = (i4_1 ||| (0 : Int64)) → (∀ x6 : Int32, x6 = i4_3 + (1 : Int32) → P4 x5 x6))) ∧ (¬ r3 = (0 : Int32) → (∀ x7 : Int64, x7 = (i4_1 ||| ((1 : Int64) <<< ((i4_3).toInt64 &&& 63))) → (∀ x8 : Int32, x8 = i4_3 + (1 : Int32) → P4 x7 x8)))))))))) → P4 i4_1 i4_3) → P4 i4_1 i4_3
def wX1_takenByOther (F_both : Int32) (F_other_takes : Int32) (K : Int64 → Prop) : Prop :=
  (wX1_takenByOther_L4 F_both F_other_takes (fun i4_1 i4_3 => K i4_1) (0 : Int64) (0 : Int32))
abbrev rmX1_takenByOther : Room := { frames := 1, cells := 0, slots := 0, locals := 21 }
theorem nd_X1_takenByOther : yX1_takenByOther.cls = RX1 ∧ yX1_takenByOther.cls ≠ "java/lang/invoke/MethodHandle" ∧ yX1_takenByOther.cls ≠ "java/lang/invoke/VarHandle" ∧ (parseMethodDescriptor yX1_takenByOther.desc).map (fun d => d.parameters.length) = some 0 := by decide +kernel
theorem hkX1_takenByOther_X1 : ∀ w ∈ u_ws RX1 TX1 3, w ∈ wsX1_takenByOther := fun w h => List.mem_cons_of_mem _ (inlX1 w h)
theorem hfX1_takenByOther_15 : (Cond.fieldLink RX1 15 "NestReaders$Held" "other" "LNestReaders$Reader;") ∈ wsX1_takenByOther := List.mem_cons_of_mem _ m5_8
set_option maxHeartbeats 4000000 in
set_option maxRecDepth 100000 in
theorem c_X1_takenByOther (l : Launch) (G : va_G) (cI cJ cZ : ClassId) (q_t q_t_one q_t_other q_t_other_ways : Nat) (F_both : Int32) (F_other_states : Int32) (F_other_marks : Int32) (F_other_takes : Int32) (F_other_changes : Int32) {K : Int64 → Prop} (hw : wX1_takenByOther F_both F_other_takes K) : Met l yX1_takenByOther wsX1_takenByOther rmX1_takenByOther (ms_P G (ms_T cI cJ cZ) [(q_t, .inr (1, [.ref q_t_one, .ref q_t_other, .int F_both])), (q_t_other, .inr (5, [.ref q_t_other_ways, .int F_other_states, .int F_other_marks, .int F_other_takes, .int F_other_changes]))] [.ref q_t]) (ms_Ql K) 0 0 ms_N := by
  refine ms_sl (cc := cX1_takenByOther) (maxL := 4) (by decide) rfl (Nat.le_of_ble_eq_true rfl) ?_
  intro p e s m args below meth c Q hx hb hml hown hts hK hP hD hRet ls hl
  have hl : lv_has ls 4 [(0, .ref q_t)] := hl
  have hown : s.vm.findClass RX1 = some m.cls := hown
  refine lv_lconst (v := 0) hx hb dX1_takenByOther_0 (by decide) ?_
  refine lv_lstore_n (lv' := [(1, .long (0 : Int64)), (0, .ref q_t)]) hx hb dX1_takenByOther_1 rfl hl (by decide) rfl (fun ls hl => ?_)
  refine lv_iconst (v := 0) hx hb dX1_takenByOther_2 (by decide) ?_
  refine lv_istore_n (lv' := [(3, .int (0 : Int32)), (1, .long (0 : Int64)), (0, .ref q_t)]) hx hb dX1_takenByOther_3 rfl hl (by decide) rfl (fun ls hl => ?_)
  refine hw (fun i4_1 i4_3 => ∀ ls : Array Slot, lv_has ls 4 [(0, .ref q_t), (1, .long i4_1), (3, .int i4_3)] → W p l e rmX1_takenByOther s m args below meth c s.heap [] 0 0 Q (F0 m 4 ls [])) (fun i4_1 i4_3 hw ls hl => ?_) ls (lv_sub hl [2, 1, 0] rfl)
  refine lv_iload_n hx hb dX1_takenByOther_4 rfl (lv_at hl 2 rfl) ?_
  refine lv_aload_n hx hb dX1_takenByOther_5 rfl (lv_at hl 0 rfl) ?_
  refine ms_cVi ⟨hx, hb, hml, hown, hts⟩ hK hP hD (c_X1_codes l G cI cJ cZ q_t q_t_one q_t_other F_both hw) gX1_takenByOther_X1_codes rfl nd_X1_codes (ci := 1) rfl rfl rfl ⟨rfl, rfl⟩ rfl ⟨Nat.le_of_ble_eq_true rfl, Nat.le_of_ble_eq_true rfl⟩ hl.1 (rest := [.int i4_3]) rfl (Nat.le_of_ble_eq_true rfl)  [0] rfl rfl dX1_takenByOther_6 (fun r1 hw => ?_)
  refine lv_icmp_ge (tgt := 44) hx hb dX1_takenByOther_9 (by decide) (fun c2 => ?_) (fun c2 => ?_)
  · have hw := hw.1 c2
    refine lv_lload_n hx hb dX1_takenByOther_44 rfl (lv_at hl 1 rfl) ?_
    exact hRet i4_1 _ _ hw dX1_takenByOther_45
  · have hw := hw.2 c2
    refine lv_lload_n hx hb dX1_takenByOther_12 rfl (lv_at hl 1 rfl) ?_
    refine lv_aload_n hx hb dX1_takenByOther_13 rfl (lv_at hl 0 rfl) ?_
    refine va_get (D := G) (ci := 1) (v := .ref q_t_other) (C := RX1) (T := TX1) (N := 3) hx hb hts hkX1_takenByOther_X1 hown hK hP 0 rfl rfl 1 (by decide) (hts (.fieldLink RX1 15 "NestReaders$Held" "other" "LNestReaders$Reader;") hfX1_takenByOther_15) (fun _ h9 => h9) rfl dX1_takenByOther_14 ?_
    refine lv_iload_n hx hb dX1_takenByOther_17 rfl (lv_at hl 2 rfl) ?_
    refine lv_iconst (v := 3) hx hb dX1_takenByOther_18 (by decide) ?_
    refine lv_ishr hx hb dX1_takenByOther_19 ?_
    refine lv_bipush (v := (7)) hx hb dX1_takenByOther_20 (by decide) ?_
    refine lv_iand hx hb dX1_takenByOther_22 ?_
    refine ms_cVi ⟨hx, hb, hml, hown, hts⟩ hK hP hD (c_X5_takesAny l G cI cJ cZ q_t_other q_t_other_ways F_other_states F_other_marks F_other_takes F_other_changes ((i4_3 >>> ((3 : Int32) &&& 31)) &&& (7 : Int32)) hw) gX1_takenByOther_X5_takesAny rfl nd_X5_takesAny (ci := 5) rfl rfl rfl ⟨rfl, rfl⟩ rfl ⟨Nat.le_of_ble_eq_true rfl, Nat.le_of_ble_eq_true rfl⟩ hl.1 (rest := [.long i4_1]) rfl (Nat.le_of_ble_eq_true rfl)  [1] rfl rfl dX1_takenByOther_23 (fun r3 hw => ?_)
    have zzr3 := hw.1
    have hw := hw.2
    refine lv_if_eq (tgt := 35) hx hb dX1_takenByOther_26 (by decide) (fun c4 => ?_) (fun c4 => ?_)
    · have hw := hw.1 c4
      refine lv_lconst (v := 0) hx hb dX1_takenByOther_35 (by decide) ?_
      refine lv_lor hx hb dX1_takenByOther_36 ?_
      refine lv_topl (fun x5 ex5 => ?_)
      have hw := hw x5 ex5
      refine lv_lstore_n (lv' := [(1, .long x5), (0, .ref q_t), (3, .int i4_3)]) hx hb dX1_takenByOther_37 rfl hl (by decide) rfl (fun ls hl => ?_)
      obtain ⟨x6, ex6⟩ : ∃ y : Int32, y = i4_3 + (1 : Int32) := ⟨_, rfl⟩
      have hw := hw x6 ex6
      refine lv_iinc (v := x6) (lv' := [(3, .int x6), (1, .long x5), (0, .ref q_t)]) hx hb dX1_takenByOther_38 hl (k := 2) rfl (by rw [ex6]; rfl) (by decide) rfl (fun ls hl => ?_)
      refine lv_goto (tgt := 4) hx hb dX1_takenByOther_41 (by decide) ?_
      exact hw ls (lv_sub hl [2, 1, 0] rfl)
    · have hw := hw.2 c4
      refine lv_lconst (v := 1) hx hb dX1_takenByOther_29 (by decide) ?_
      refine lv_iload_n hx hb dX1_takenByOther_30 rfl (lv_at hl 2 rfl) ?_
      refine lv_lshl hx hb dX1_takenByOther_31 rfl ?_
      refine lv_goto (tgt := 36) hx hb dX1_takenByOther_32 (by decide) ?_
      refine lv_lor hx hb dX1_takenByOther_36 ?_
      refine lv_topl (fun x7 ex7 => ?_)
      have hw := hw x7 ex7
      refine lv_lstore_n (lv' := [(1, .long x7), (0, .ref q_t), (3, .int i4_3)]) hx hb dX1_takenByOther_37 rfl hl (by decide) rfl (fun ls hl => ?_)
      obtain ⟨x8, ex8⟩ : ∃ y : Int32, y = i4_3 + (1 : Int32) := ⟨_, rfl⟩
      have hw := hw x8 ex8
      refine lv_iinc (v := x8) (lv' := [(3, .int x8), (1, .long x7), (0, .ref q_t)]) hx hb dX1_takenByOther_38 hl (k := 2) rfl (by rw [ex8]; rfl) (by decide) rfl (fun ls hl => ?_)
      refine lv_goto (tgt := 4) hx hb dX1_takenByOther_41 (by decide) ?_
      exact hw ls (lv_sub hl [2, 1, 0] rfl)
def wX1_joinedCode (p0 : Int32) (p1 : Int32) (K : Int32 → Prop) : Prop :=
  K (p0 ||| (p1 <<< ((3 : Int32) &&& 31)))
abbrev rmX1_joinedCode : Room := { frames := 0, cells := 0, slots := 0, locals := 0 }
theorem nd_X1_joinedCode : yX1_joinedCode.cls ≠ "java/lang/invoke/MethodHandle" ∧ yX1_joinedCode.cls ≠ "java/lang/invoke/VarHandle" ∧ (parseMethodDescriptor yX1_joinedCode.desc).map (fun d => d.parameters.length) = some 2 := by decide +kernel
set_option maxHeartbeats 4000000 in
set_option maxRecDepth 100000 in
theorem c_X1_joinedCode (l : Launch) (G : va_G) (cI cJ cZ : ClassId) (p0 : Int32) (p1 : Int32) {K : Int32 → Prop} (hw : wX1_joinedCode p0 p1 K) : Met l yX1_joinedCode wsX1_joinedCode rmX1_joinedCode (ms_P G (ms_T cI cJ cZ) [] [.int p0, .int p1]) (ms_Qi K) 0 0 ms_N := by
  refine ms_si (cc := cX1_joinedCode) (maxL := 2) (ty := .int) (by decide) rfl (Nat.le_of_ble_eq_true rfl) ?_
  intro p e s m args below meth c Q hx hb hml hown hts hK hP hD hRet ls hl
  have hl : lv_has ls 2 [(0, .int p0), (1, .int p1)] := hl
  have hown : s.vm.findClass RX1 = some m.cls := hown
  refine lv_iload_n hx hb dX1_joinedCode_0 rfl (lv_at hl 0 rfl) ?_
  refine lv_iload_n hx hb dX1_joinedCode_1 rfl (lv_at hl 1 rfl) ?_
  refine lv_iconst (v := 3) hx hb dX1_joinedCode_2 (by decide) ?_
  refine lv_ishl hx hb dX1_joinedCode_3 ?_
  refine lv_ior hx hb dX1_joinedCode_4 ?_
  exact hRet (p0 ||| (p1 <<< ((3 : Int32) &&& 31))) _ _ hw (vp_nar_int _) dX1_joinedCode_5
def wX1_joinedPair (p0 : Int32) (p1 : Int32) (K : Int32 → Prop) : Prop :=
  K (p0 ||| (p1 <<< ((9 : Int32) &&& 31)))
abbrev rmX1_joinedPair : Room := { frames := 0, cells := 0, slots := 0, locals := 0 }
theorem nd_X1_joinedPair : yX1_joinedPair.cls ≠ "java/lang/invoke/MethodHandle" ∧ yX1_joinedPair.cls ≠ "java/lang/invoke/VarHandle" ∧ (parseMethodDescriptor yX1_joinedPair.desc).map (fun d => d.parameters.length) = some 2 := by decide +kernel
set_option maxHeartbeats 4000000 in
set_option maxRecDepth 100000 in
theorem c_X1_joinedPair (l : Launch) (G : va_G) (cI cJ cZ : ClassId) (p0 : Int32) (p1 : Int32) {K : Int32 → Prop} (hw : wX1_joinedPair p0 p1 K) : Met l yX1_joinedPair wsX1_joinedPair rmX1_joinedPair (ms_P G (ms_T cI cJ cZ) [] [.int p0, .int p1]) (ms_Qi K) 0 0 ms_N := by
  refine ms_si (cc := cX1_joinedPair) (maxL := 2) (ty := .int) (by decide) rfl (Nat.le_of_ble_eq_true rfl) ?_
  intro p e s m args below meth c Q hx hb hml hown hts hK hP hD hRet ls hl
  have hl : lv_has ls 2 [(0, .int p0), (1, .int p1)] := hl
  have hown : s.vm.findClass RX1 = some m.cls := hown
  refine lv_iload_n hx hb dX1_joinedPair_0 rfl (lv_at hl 0 rfl) ?_
  refine lv_iload_n hx hb dX1_joinedPair_1 rfl (lv_at hl 1 rfl) ?_
  refine lv_bipush (v := (9)) hx hb dX1_joinedPair_2 (by decide) ?_
  refine lv_ishl hx hb dX1_joinedPair_4 ?_
  refine lv_ior hx hb dX1_joinedPair_5 ?_
  exact hRet (p0 ||| (p1 <<< ((9 : Int32) &&& 31))) _ _ hw (vp_nar_int _) dX1_joinedPair_6
def wX1_beginning (F_both : Int32) (K : Int32 → Prop) : Prop :=
  ((F_both = (0 : Int32) → (wX1_joinedCode (1 : Int32) (0 : Int32) (fun r2 => K r2))) ∧ (¬ F_both = (0 : Int32) → (wX1_joinedCode (1 : Int32) (1 : Int32) (fun r3 => K r3))))
abbrev rmX1_beginning : Room := { frames := 1, cells := 0, slots := 0, locals := 21 }
theorem nd_X1_beginning : yX1_beginning.cls = RX1 ∧ yX1_beginning.cls ≠ "java/lang/invoke/MethodHandle" ∧ yX1_beginning.cls ≠ "java/lang/invoke/VarHandle" ∧ (parseMethodDescriptor yX1_beginning.desc).map (fun d => d.parameters.length) = some 0 := by decide +kernel
theorem hkX1_beginning_X1 : ∀ w ∈ u_ws RX1 TX1 3, w ∈ wsX1_beginning := fun w h => List.mem_cons_of_mem _ (inlX1 w h)
theorem hfX1_beginning_18 : (Cond.fieldLink RX1 18 "NestReaders$Held" "both" "Z") ∈ wsX1_beginning := List.mem_cons_of_mem _ m5_9
set_option maxHeartbeats 4000000 in
set_option maxRecDepth 100000 in
theorem c_X1_beginning (l : Launch) (G : va_G) (cI cJ cZ : ClassId) (q_t q_t_one q_t_other : Nat) (F_both : Int32) {K : Int32 → Prop} (hw : wX1_beginning F_both K) : Met l yX1_beginning wsX1_beginning rmX1_beginning (ms_P G (ms_T cI cJ cZ) [(q_t, .inr (1, [.ref q_t_one, .ref q_t_other, .int F_both]))] [.ref q_t]) (ms_Qi K) 0 0 ms_N := by
  refine ms_si (cc := cX1_beginning) (maxL := 1) (ty := .int) (by decide) rfl (Nat.le_of_ble_eq_true rfl) ?_
  intro p e s m args below meth c Q hx hb hml hown hts hK hP hD hRet ls hl
  have hl : lv_has ls 1 [(0, .ref q_t)] := hl
  have hown : s.vm.findClass RX1 = some m.cls := hown
  refine lv_iconst (v := 1) hx hb dX1_beginning_0 (by decide) ?_
  refine lv_aload_n hx hb dX1_beginning_1 rfl (lv_at hl 0 rfl) ?_
  refine va_get (D := G) (ci := 1) (v := .int F_both) (C := RX1) (T := TX1) (N := 3) hx hb hts hkX1_beginning_X1 hown hK hP 0 rfl rfl 2 (by decide) (hts (.fieldLink RX1 18 "NestReaders$Held" "both" "Z") hfX1_beginning_18) (fun _ h9 => h9) rfl dX1_beginning_2 ?_
  refine lv_if_eq (tgt := 12) hx hb dX1_beginning_5 (by decide) (fun c1 => ?_) (fun c1 => ?_)
  · have hw := hw.1 c1
    refine lv_iconst (v := 0) hx hb dX1_beginning_12 (by decide) ?_
    refine ms_cSi ⟨hx, hb, hml, hown, hts⟩ hK hP hD (c_X1_joinedCode l G cI cJ cZ (1 : Int32) (0 : Int32) hw) gX1_beginning_X1_joinedCode rfl nd_X1_joinedCode ⟨rfl, rfl⟩ rfl ⟨Nat.le_of_ble_eq_true rfl, Nat.le_of_ble_eq_true rfl⟩ hl.1 (rest := []) rfl (Nat.le_of_ble_eq_true rfl)  [] rfl rfl dX1_beginning_13 (fun r2 hw => ?_)
    exact hRet r2 _ _ hw (vp_nar_int _) dX1_beginning_16
  · have hw := hw.2 c1
    refine lv_iconst (v := 1) hx hb dX1_beginning_8 (by decide) ?_
    refine lv_goto (tgt := 13) hx hb dX1_beginning_9 (by decide) ?_
    refine ms_cSi ⟨hx, hb, hml, hown, hts⟩ hK hP hD (c_X1_joinedCode l G cI cJ cZ (1 : Int32) (1 : Int32) hw) gX1_beginning_X1_joinedCode rfl nd_X1_joinedCode ⟨rfl, rfl⟩ rfl ⟨Nat.le_of_ble_eq_true rfl, Nat.le_of_ble_eq_true rfl⟩ hl.1 (rest := []) rfl (Nat.le_of_ble_eq_true rfl)  [] rfl rfl dX1_beginning_13 (fun r3 hw => ?_)
    exact hRet r3 _ _ hw (vp_nar_int _) dX1_beginning_16
def wX1_identity (F_both : Int32) (F_one_states : Int32) (F_other_states : Int32) (K : Int32 → Prop) : Prop :=
  (wX5_identity F_one_states (fun r1 => ((F_both = (0 : Int32) → (wX1_joinedPair r1 (0 : Int32) (fun r3 => K r3))) ∧ (¬ F_both = (0 : Int32) → (wX5_identity F_other_states (fun r4 => (wX1_joinedPair r1 r4 (fun r5 => K r5))))))))
abbrev rmX1_identity : Room := { frames := 2, cells := 0, slots := 0, locals := 43 }
theorem nd_X1_identity : yX1_identity.cls = RX1 ∧ yX1_identity.cls ≠ "java/lang/invoke/MethodHandle" ∧ yX1_identity.cls ≠ "java/lang/invoke/VarHandle" ∧ (parseMethodDescriptor yX1_identity.desc).map (fun d => d.parameters.length) = some 0 := by decide +kernel
theorem hkX1_identity_X1 : ∀ w ∈ u_ws RX1 TX1 3, w ∈ wsX1_identity := fun w h => List.mem_cons_of_mem _ (inlX1 w h)
theorem hfX1_identity_9 : (Cond.fieldLink RX1 9 "NestReaders$Held" "one" "LNestReaders$Reader;") ∈ wsX1_identity := List.mem_cons_of_mem _ m5_7
theorem hfX1_identity_18 : (Cond.fieldLink RX1 18 "NestReaders$Held" "both" "Z") ∈ wsX1_identity := List.mem_cons_of_mem _ m5_9
theorem hfX1_identity_15 : (Cond.fieldLink RX1 15 "NestReaders$Held" "other" "LNestReaders$Reader;") ∈ wsX1_identity := List.mem_cons_of_mem _ m5_8
set_option maxHeartbeats 4000000 in
set_option maxRecDepth 100000 in
theorem c_X1_identity (l : Launch) (G : va_G) (cI cJ cZ : ClassId) (q_t q_t_one q_t_other q_t_one_ways q_t_other_ways : Nat) (F_both : Int32) (F_one_states : Int32) (F_one_marks : Int32) (F_one_takes : Int32) (F_one_changes : Int32) (F_other_states : Int32) (F_other_marks : Int32) (F_other_takes : Int32) (F_other_changes : Int32) {K : Int32 → Prop} (hw : wX1_identity F_both F_one_states F_other_states K) : Met l yX1_identity wsX1_identity rmX1_identity (ms_P G (ms_T cI cJ cZ) [(q_t, .inr (1, [.ref q_t_one, .ref q_t_other, .int F_both])), (q_t_one, .inr (5, [.ref q_t_one_ways, .int F_one_states, .int F_one_marks, .int F_one_takes, .int F_one_changes])), (q_t_other, .inr (5, [.ref q_t_other_ways, .int F_other_states, .int F_other_marks, .int F_other_takes, .int F_other_changes]))] [.ref q_t]) (ms_Qi K) 0 0 ms_N := by
  refine ms_si (cc := cX1_identity) (maxL := 1) (ty := .int) (by decide) rfl (Nat.le_of_ble_eq_true rfl) ?_
  intro p e s m args below meth c Q hx hb hml hown hts hK hP hD hRet ls hl
  have hl : lv_has ls 1 [(0, .ref q_t)] := hl
  have hown : s.vm.findClass RX1 = some m.cls := hown
  refine lv_aload_n hx hb dX1_identity_0 rfl (lv_at hl 0 rfl) ?_
  refine va_get (D := G) (ci := 1) (v := .ref q_t_one) (C := RX1) (T := TX1) (N := 3) hx hb hts hkX1_identity_X1 hown hK hP 0 rfl rfl 0 (by decide) (hts (.fieldLink RX1 9 "NestReaders$Held" "one" "LNestReaders$Reader;") hfX1_identity_9) (fun _ h9 => h9) rfl dX1_identity_1 ?_
  refine ms_cVi ⟨hx, hb, hml, hown, hts⟩ hK hP hD (c_X5_identity l G cI cJ cZ q_t_one q_t_one_ways F_one_states F_one_marks F_one_takes F_one_changes hw) gX1_identity_X5_identity rfl nd_X5_identity (ci := 5) rfl rfl rfl ⟨rfl, rfl⟩ rfl ⟨Nat.le_of_ble_eq_true rfl, Nat.le_of_ble_eq_true rfl⟩ hl.1 (rest := []) rfl (Nat.le_of_ble_eq_true rfl)  [1] rfl rfl dX1_identity_4 (fun r1 hw => ?_)
  refine lv_aload_n hx hb dX1_identity_7 rfl (lv_at hl 0 rfl) ?_
  refine va_get (D := G) (ci := 1) (v := .int F_both) (C := RX1) (T := TX1) (N := 3) hx hb hts hkX1_identity_X1 hown hK hP 0 rfl rfl 2 (by decide) (hts (.fieldLink RX1 18 "NestReaders$Held" "both" "Z") hfX1_identity_18) (fun _ h9 => h9) rfl dX1_identity_8 ?_
  refine lv_if_eq (tgt := 24) hx hb dX1_identity_11 (by decide) (fun c2 => ?_) (fun c2 => ?_)
  · have hw := hw.1 c2
    refine lv_iconst (v := 0) hx hb dX1_identity_24 (by decide) ?_
    refine ms_cSi ⟨hx, hb, hml, hown, hts⟩ hK hP hD (c_X1_joinedPair l G cI cJ cZ r1 (0 : Int32) hw) gX1_identity_X1_joinedPair rfl nd_X1_joinedPair ⟨rfl, rfl⟩ rfl ⟨Nat.le_of_ble_eq_true rfl, Nat.le_of_ble_eq_true rfl⟩ hl.1 (rest := []) rfl (Nat.le_of_ble_eq_true rfl)  [] rfl rfl dX1_identity_25 (fun r3 hw => ?_)
    exact hRet r3 _ _ hw (vp_nar_int _) dX1_identity_28
  · have hw := hw.2 c2
    refine lv_aload_n hx hb dX1_identity_14 rfl (lv_at hl 0 rfl) ?_
    refine va_get (D := G) (ci := 1) (v := .ref q_t_other) (C := RX1) (T := TX1) (N := 3) hx hb hts hkX1_identity_X1 hown hK hP 0 rfl rfl 1 (by decide) (hts (.fieldLink RX1 15 "NestReaders$Held" "other" "LNestReaders$Reader;") hfX1_identity_15) (fun _ h9 => h9) rfl dX1_identity_15 ?_
    refine ms_cVi ⟨hx, hb, hml, hown, hts⟩ hK hP hD (c_X5_identity l G cI cJ cZ q_t_other q_t_other_ways F_other_states F_other_marks F_other_takes F_other_changes hw) gX1_identity_X5_identity rfl nd_X5_identity (ci := 5) rfl rfl rfl ⟨rfl, rfl⟩ rfl ⟨Nat.le_of_ble_eq_true rfl, Nat.le_of_ble_eq_true rfl⟩ hl.1 (rest := [.int r1]) rfl (Nat.le_of_ble_eq_true rfl)  [2] rfl rfl dX1_identity_18 (fun r4 hw => ?_)
    refine lv_goto (tgt := 25) hx hb dX1_identity_21 (by decide) ?_
    refine ms_cSi ⟨hx, hb, hml, hown, hts⟩ hK hP hD (c_X1_joinedPair l G cI cJ cZ r1 r4 hw) gX1_identity_X1_joinedPair rfl nd_X1_joinedPair ⟨rfl, rfl⟩ rfl ⟨Nat.le_of_ble_eq_true rfl, Nat.le_of_ble_eq_true rfl⟩ hl.1 (rest := []) rfl (Nat.le_of_ble_eq_true rfl)  [] rfl rfl dX1_identity_25 (fun r5 hw => ?_)
    exact hRet r5 _ _ hw (vp_nar_int _) dX1_identity_28
set_option maxHeartbeats 4000000 in
set_option maxRecDepth 100000 in
theorem c_X1_identity_S (l : Launch) (G : va_G) (cI cJ cZ : ClassId) (q_t q_t_one q_t_one_ways : Nat) (F_both : Int32) (F_one_states : Int32) (F_one_marks : Int32) (F_one_takes : Int32) (F_one_changes : Int32) {K : Int32 → Prop} (hw : wX1_identity F_both F_one_states F_one_states K) : Met l yX1_identity wsX1_identity rmX1_identity (ms_P G (ms_T cI cJ cZ) [(q_t, .inr (1, [.ref q_t_one, .ref q_t_one, .int F_both])), (q_t_one, .inr (5, [.ref q_t_one_ways, .int F_one_states, .int F_one_marks, .int F_one_takes, .int F_one_changes]))] [.ref q_t]) (ms_Qi K) 0 0 ms_N := by
  refine ms_si (cc := cX1_identity) (maxL := 1) (ty := .int) (by decide) rfl (Nat.le_of_ble_eq_true rfl) ?_
  intro p e s m args below meth c Q hx hb hml hown hts hK hP hD hRet ls hl
  have hl : lv_has ls 1 [(0, .ref q_t)] := hl
  have hown : s.vm.findClass RX1 = some m.cls := hown
  refine lv_aload_n hx hb dX1_identity_0 rfl (lv_at hl 0 rfl) ?_
  refine va_get (D := G) (ci := 1) (v := .ref q_t_one) (C := RX1) (T := TX1) (N := 3) hx hb hts hkX1_identity_X1 hown hK hP 0 rfl rfl 0 (by decide) (hts (.fieldLink RX1 9 "NestReaders$Held" "one" "LNestReaders$Reader;") hfX1_identity_9) (fun _ h9 => h9) rfl dX1_identity_1 ?_
  refine ms_cVi ⟨hx, hb, hml, hown, hts⟩ hK hP hD (c_X5_identity l G cI cJ cZ q_t_one q_t_one_ways F_one_states F_one_marks F_one_takes F_one_changes hw) gX1_identity_X5_identity rfl nd_X5_identity (ci := 5) rfl rfl rfl ⟨rfl, rfl⟩ rfl ⟨Nat.le_of_ble_eq_true rfl, Nat.le_of_ble_eq_true rfl⟩ hl.1 (rest := []) rfl (Nat.le_of_ble_eq_true rfl)  [1] rfl rfl dX1_identity_4 (fun r1 hw => ?_)
  refine lv_aload_n hx hb dX1_identity_7 rfl (lv_at hl 0 rfl) ?_
  refine va_get (D := G) (ci := 1) (v := .int F_both) (C := RX1) (T := TX1) (N := 3) hx hb hts hkX1_identity_X1 hown hK hP 0 rfl rfl 2 (by decide) (hts (.fieldLink RX1 18 "NestReaders$Held" "both" "Z") hfX1_identity_18) (fun _ h9 => h9) rfl dX1_identity_8 ?_
  refine lv_if_eq (tgt := 24) hx hb dX1_identity_11 (by decide) (fun c2 => ?_) (fun c2 => ?_)
  · have hw := hw.1 c2
    refine lv_iconst (v := 0) hx hb dX1_identity_24 (by decide) ?_
    refine ms_cSi ⟨hx, hb, hml, hown, hts⟩ hK hP hD (c_X1_joinedPair l G cI cJ cZ r1 (0 : Int32) hw) gX1_identity_X1_joinedPair rfl nd_X1_joinedPair ⟨rfl, rfl⟩ rfl ⟨Nat.le_of_ble_eq_true rfl, Nat.le_of_ble_eq_true rfl⟩ hl.1 (rest := []) rfl (Nat.le_of_ble_eq_true rfl)  [] rfl rfl dX1_identity_25 (fun r3 hw => ?_)
    exact hRet r3 _ _ hw (vp_nar_int _) dX1_identity_28
  · have hw := hw.2 c2
    refine lv_aload_n hx hb dX1_identity_14 rfl (lv_at hl 0 rfl) ?_
    refine va_get (D := G) (ci := 1) (v := .ref q_t_one) (C := RX1) (T := TX1) (N := 3) hx hb hts hkX1_identity_X1 hown hK hP 0 rfl rfl 1 (by decide) (hts (.fieldLink RX1 15 "NestReaders$Held" "other" "LNestReaders$Reader;") hfX1_identity_15) (fun _ h9 => h9) rfl dX1_identity_15 ?_
    refine ms_cVi ⟨hx, hb, hml, hown, hts⟩ hK hP hD (c_X5_identity l G cI cJ cZ q_t_one q_t_one_ways F_one_states F_one_marks F_one_takes F_one_changes hw) gX1_identity_X5_identity rfl nd_X5_identity (ci := 5) rfl rfl rfl ⟨rfl, rfl⟩ rfl ⟨Nat.le_of_ble_eq_true rfl, Nat.le_of_ble_eq_true rfl⟩ hl.1 (rest := [.int r1]) rfl (Nat.le_of_ble_eq_true rfl)  [1] rfl rfl dX1_identity_18 (fun r4 hw => ?_)
    refine lv_goto (tgt := 25) hx hb dX1_identity_21 (by decide) ?_
    refine ms_cSi ⟨hx, hb, hml, hown, hts⟩ hK hP hD (c_X1_joinedPair l G cI cJ cZ r1 r4 hw) gX1_identity_X1_joinedPair rfl nd_X1_joinedPair ⟨rfl, rfl⟩ rfl ⟨Nat.le_of_ble_eq_true rfl, Nat.le_of_ble_eq_true rfl⟩ hl.1 (rest := []) rfl (Nat.le_of_ble_eq_true rfl)  [] rfl rfl dX1_identity_25 (fun r5 hw => ?_)
    exact hRet r5 _ _ hw (vp_nar_int _) dX1_identity_28
def wX1_wrapped (p0 : Int32) (p1 : Int32) (p2 : Int32) (F_one_marks : Int32) (A_one_ways : Nat → Int32) (F_other_marks : Int32) (A_other_ways : Nat → Int32) (K : Int32 → Prop) : Prop :=
  (wX5_wrapped p0 p1 (p2 &&& (511 : Int32)) F_one_marks A_one_ways (fun r1 => (wX5_wrapped p0 p1 ((p2 >>> ((9 : Int32) &&& 31)) &&& (511 : Int32)) F_other_marks A_other_ways (fun r2 => (wX1_joinedPair r1 r2 (fun r3 => K r3))))))
abbrev rmX1_wrapped : Room := { frames := 3, cells := 0, slots := 0, locals := 68 }
theorem nd_X1_wrapped : yX1_wrapped.cls = RX1 ∧ yX1_wrapped.cls ≠ "java/lang/invoke/MethodHandle" ∧ yX1_wrapped.cls ≠ "java/lang/invoke/VarHandle" ∧ (parseMethodDescriptor yX1_wrapped.desc).map (fun d => d.parameters.length) = some 3 := by decide +kernel
theorem hkX1_wrapped_X1 : ∀ w ∈ u_ws RX1 TX1 3, w ∈ wsX1_wrapped := fun w h => List.mem_cons_of_mem _ (inlX1 w h)
theorem hfX1_wrapped_9 : (Cond.fieldLink RX1 9 "NestReaders$Held" "one" "LNestReaders$Reader;") ∈ wsX1_wrapped := List.mem_cons_of_mem _ m5_7
theorem hfX1_wrapped_15 : (Cond.fieldLink RX1 15 "NestReaders$Held" "other" "LNestReaders$Reader;") ∈ wsX1_wrapped := List.mem_cons_of_mem _ m5_8
set_option maxHeartbeats 4000000 in
set_option maxRecDepth 100000 in
theorem c_X1_wrapped (l : Launch) (G : va_G) (cI cJ cZ : ClassId) (q_t q_t_one q_t_other q_t_one_ways q_t_other_ways : Nat) (F_both : Int32) (F_one_states : Int32) (F_one_marks : Int32) (F_one_takes : Int32) (F_one_changes : Int32) (A_one_ways : Nat → Int32) (F_other_states : Int32) (F_other_marks : Int32) (F_other_takes : Int32) (F_other_changes : Int32) (A_other_ways : Nat → Int32) (p0 : Int32) (p1 : Int32) (p2 : Int32) {K : Int32 → Prop} (hw : wX1_wrapped p0 p1 p2 F_one_marks A_one_ways F_other_marks A_other_ways K) : Met l yX1_wrapped wsX1_wrapped rmX1_wrapped (ms_P G (ms_T cI cJ cZ) [(q_t, .inr (1, [.ref q_t_one, .ref q_t_other, .int F_both])), (q_t_one, .inr (5, [.ref q_t_one_ways, .int F_one_states, .int F_one_marks, .int F_one_takes, .int F_one_changes])), (q_t_one_ways, .inl (cI, 18, .inl A_one_ways)), (q_t_other, .inr (5, [.ref q_t_other_ways, .int F_other_states, .int F_other_marks, .int F_other_takes, .int F_other_changes])), (q_t_other_ways, .inl (cI, 18, .inl A_other_ways))] [.ref q_t, .int p0, .int p1, .int p2]) (ms_Qi K) 0 0 ms_N := by
  refine ms_si (cc := cX1_wrapped) (maxL := 4) (ty := .int) (by decide) rfl (Nat.le_of_ble_eq_true rfl) ?_
  intro p e s m args below meth c Q hx hb hml hown hts hK hP hD hRet ls hl
  have hl : lv_has ls 4 [(0, .ref q_t), (1, .int p0), (2, .int p1), (3, .int p2)] := hl
  have hown : s.vm.findClass RX1 = some m.cls := hown
  refine lv_aload_n hx hb dX1_wrapped_0 rfl (lv_at hl 0 rfl) ?_
  refine va_get (D := G) (ci := 1) (v := .ref q_t_one) (C := RX1) (T := TX1) (N := 3) hx hb hts hkX1_wrapped_X1 hown hK hP 0 rfl rfl 0 (by decide) (hts (.fieldLink RX1 9 "NestReaders$Held" "one" "LNestReaders$Reader;") hfX1_wrapped_9) (fun _ h9 => h9) rfl dX1_wrapped_1 ?_
  refine lv_iload_n hx hb dX1_wrapped_4 rfl (lv_at hl 1 rfl) ?_
  refine lv_iload_n hx hb dX1_wrapped_5 rfl (lv_at hl 2 rfl) ?_
  refine lv_iload_n hx hb dX1_wrapped_6 rfl (lv_at hl 3 rfl) ?_
  refine lv_sipush (v := (511)) hx hb dX1_wrapped_7 (by decide) ?_
  refine lv_iand hx hb dX1_wrapped_10 ?_
  refine ms_cVi ⟨hx, hb, hml, hown, hts⟩ hK hP hD (c_X5_wrapped l G cI cJ cZ q_t_one q_t_one_ways F_one_states F_one_marks F_one_takes F_one_changes A_one_ways p0 p1 (p2 &&& (511 : Int32)) hw) gX1_wrapped_X5_wrapped rfl nd_X5_wrapped (ci := 5) rfl rfl rfl ⟨rfl, rfl⟩ rfl ⟨Nat.le_of_ble_eq_true rfl, Nat.le_of_ble_eq_true rfl⟩ hl.1 (rest := []) rfl (Nat.le_of_ble_eq_true rfl)  [1, 2] rfl rfl dX1_wrapped_11 (fun r1 hw => ?_)
  refine lv_aload_n hx hb dX1_wrapped_14 rfl (lv_at hl 0 rfl) ?_
  refine va_get (D := G) (ci := 1) (v := .ref q_t_other) (C := RX1) (T := TX1) (N := 3) hx hb hts hkX1_wrapped_X1 hown hK hP 0 rfl rfl 1 (by decide) (hts (.fieldLink RX1 15 "NestReaders$Held" "other" "LNestReaders$Reader;") hfX1_wrapped_15) (fun _ h9 => h9) rfl dX1_wrapped_15 ?_
  refine lv_iload_n hx hb dX1_wrapped_18 rfl (lv_at hl 1 rfl) ?_
  refine lv_iload_n hx hb dX1_wrapped_19 rfl (lv_at hl 2 rfl) ?_
  refine lv_iload_n hx hb dX1_wrapped_20 rfl (lv_at hl 3 rfl) ?_
  refine lv_bipush (v := (9)) hx hb dX1_wrapped_21 (by decide) ?_
  refine lv_ishr hx hb dX1_wrapped_23 ?_
  refine lv_sipush (v := (511)) hx hb dX1_wrapped_24 (by decide) ?_
  refine lv_iand hx hb dX1_wrapped_27 ?_
  refine ms_cVi ⟨hx, hb, hml, hown, hts⟩ hK hP hD (c_X5_wrapped l G cI cJ cZ q_t_other q_t_other_ways F_other_states F_other_marks F_other_takes F_other_changes A_other_ways p0 p1 ((p2 >>> ((9 : Int32) &&& 31)) &&& (511 : Int32)) hw) gX1_wrapped_X5_wrapped rfl nd_X5_wrapped (ci := 5) rfl rfl rfl ⟨rfl, rfl⟩ rfl ⟨Nat.le_of_ble_eq_true rfl, Nat.le_of_ble_eq_true rfl⟩ hl.1 (rest := [.int r1]) rfl (Nat.le_of_ble_eq_true rfl)  [3, 4] rfl rfl dX1_wrapped_28 (fun r2 hw => ?_)
  refine ms_cSi ⟨hx, hb, hml, hown, hts⟩ hK hP hD (c_X1_joinedPair l G cI cJ cZ r1 r2 hw) gX1_wrapped_X1_joinedPair rfl nd_X1_joinedPair ⟨rfl, rfl⟩ rfl ⟨Nat.le_of_ble_eq_true rfl, Nat.le_of_ble_eq_true rfl⟩ hl.1 (rest := []) rfl (Nat.le_of_ble_eq_true rfl)  [] rfl rfl dX1_wrapped_31 (fun r3 hw => ?_)
  exact hRet r3 _ _ hw (vp_nar_int _) dX1_wrapped_34
set_option maxHeartbeats 4000000 in
set_option maxRecDepth 100000 in
theorem c_X1_wrapped_S (l : Launch) (G : va_G) (cI cJ cZ : ClassId) (q_t q_t_one q_t_one_ways : Nat) (F_both : Int32) (F_one_states : Int32) (F_one_marks : Int32) (F_one_takes : Int32) (F_one_changes : Int32) (A_one_ways : Nat → Int32) (p0 : Int32) (p1 : Int32) (p2 : Int32) {K : Int32 → Prop} (hw : wX1_wrapped p0 p1 p2 F_one_marks A_one_ways F_one_marks A_one_ways K) : Met l yX1_wrapped wsX1_wrapped rmX1_wrapped (ms_P G (ms_T cI cJ cZ) [(q_t, .inr (1, [.ref q_t_one, .ref q_t_one, .int F_both])), (q_t_one, .inr (5, [.ref q_t_one_ways, .int F_one_states, .int F_one_marks, .int F_one_takes, .int F_one_changes])), (q_t_one_ways, .inl (cI, 18, .inl A_one_ways))] [.ref q_t, .int p0, .int p1, .int p2]) (ms_Qi K) 0 0 ms_N := by
  refine ms_si (cc := cX1_wrapped) (maxL := 4) (ty := .int) (by decide) rfl (Nat.le_of_ble_eq_true rfl) ?_
  intro p e s m args below meth c Q hx hb hml hown hts hK hP hD hRet ls hl
  have hl : lv_has ls 4 [(0, .ref q_t), (1, .int p0), (2, .int p1), (3, .int p2)] := hl
  have hown : s.vm.findClass RX1 = some m.cls := hown
  refine lv_aload_n hx hb dX1_wrapped_0 rfl (lv_at hl 0 rfl) ?_
  refine va_get (D := G) (ci := 1) (v := .ref q_t_one) (C := RX1) (T := TX1) (N := 3) hx hb hts hkX1_wrapped_X1 hown hK hP 0 rfl rfl 0 (by decide) (hts (.fieldLink RX1 9 "NestReaders$Held" "one" "LNestReaders$Reader;") hfX1_wrapped_9) (fun _ h9 => h9) rfl dX1_wrapped_1 ?_
  refine lv_iload_n hx hb dX1_wrapped_4 rfl (lv_at hl 1 rfl) ?_
  refine lv_iload_n hx hb dX1_wrapped_5 rfl (lv_at hl 2 rfl) ?_
  refine lv_iload_n hx hb dX1_wrapped_6 rfl (lv_at hl 3 rfl) ?_
  refine lv_sipush (v := (511)) hx hb dX1_wrapped_7 (by decide) ?_
  refine lv_iand hx hb dX1_wrapped_10 ?_
  refine ms_cVi ⟨hx, hb, hml, hown, hts⟩ hK hP hD (c_X5_wrapped l G cI cJ cZ q_t_one q_t_one_ways F_one_states F_one_marks F_one_takes F_one_changes A_one_ways p0 p1 (p2 &&& (511 : Int32)) hw) gX1_wrapped_X5_wrapped rfl nd_X5_wrapped (ci := 5) rfl rfl rfl ⟨rfl, rfl⟩ rfl ⟨Nat.le_of_ble_eq_true rfl, Nat.le_of_ble_eq_true rfl⟩ hl.1 (rest := []) rfl (Nat.le_of_ble_eq_true rfl)  [1, 2] rfl rfl dX1_wrapped_11 (fun r1 hw => ?_)
  refine lv_aload_n hx hb dX1_wrapped_14 rfl (lv_at hl 0 rfl) ?_
  refine va_get (D := G) (ci := 1) (v := .ref q_t_one) (C := RX1) (T := TX1) (N := 3) hx hb hts hkX1_wrapped_X1 hown hK hP 0 rfl rfl 1 (by decide) (hts (.fieldLink RX1 15 "NestReaders$Held" "other" "LNestReaders$Reader;") hfX1_wrapped_15) (fun _ h9 => h9) rfl dX1_wrapped_15 ?_
  refine lv_iload_n hx hb dX1_wrapped_18 rfl (lv_at hl 1 rfl) ?_
  refine lv_iload_n hx hb dX1_wrapped_19 rfl (lv_at hl 2 rfl) ?_
  refine lv_iload_n hx hb dX1_wrapped_20 rfl (lv_at hl 3 rfl) ?_
  refine lv_bipush (v := (9)) hx hb dX1_wrapped_21 (by decide) ?_
  refine lv_ishr hx hb dX1_wrapped_23 ?_
  refine lv_sipush (v := (511)) hx hb dX1_wrapped_24 (by decide) ?_
  refine lv_iand hx hb dX1_wrapped_27 ?_
  refine ms_cVi ⟨hx, hb, hml, hown, hts⟩ hK hP hD (c_X5_wrapped l G cI cJ cZ q_t_one q_t_one_ways F_one_states F_one_marks F_one_takes F_one_changes A_one_ways p0 p1 ((p2 >>> ((9 : Int32) &&& 31)) &&& (511 : Int32)) hw) gX1_wrapped_X5_wrapped rfl nd_X5_wrapped (ci := 5) rfl rfl rfl ⟨rfl, rfl⟩ rfl ⟨Nat.le_of_ble_eq_true rfl, Nat.le_of_ble_eq_true rfl⟩ hl.1 (rest := [.int r1]) rfl (Nat.le_of_ble_eq_true rfl)  [1, 2] rfl rfl dX1_wrapped_28 (fun r2 hw => ?_)
  refine ms_cSi ⟨hx, hb, hml, hown, hts⟩ hK hP hD (c_X1_joinedPair l G cI cJ cZ r1 r2 hw) gX1_wrapped_X1_joinedPair rfl nd_X1_joinedPair ⟨rfl, rfl⟩ rfl ⟨Nat.le_of_ble_eq_true rfl, Nat.le_of_ble_eq_true rfl⟩ hl.1 (rest := []) rfl (Nat.le_of_ble_eq_true rfl)  [] rfl rfl dX1_wrapped_31 (fun r3 hw => ?_)
  exact hRet r3 _ _ hw (vp_nar_int _) dX1_wrapped_34
def wX1_image (p0 : Int32) (p1 : Int32) (K : Int32 → Prop) : Prop :=
  (wX5_image (p0 &&& (7 : Int32)) (p1 &&& (511 : Int32)) (fun r1 => (wX5_image ((p0 >>> ((3 : Int32) &&& 31)) &&& (7 : Int32)) ((p1 >>> ((9 : Int32) &&& 31)) &&& (511 : Int32)) (fun r2 => (wX1_joinedCode r1 r2 (fun r3 => K r3))))))
abbrev rmX1_image : Room := { frames := 1, cells := 0, slots := 0, locals := 22 }
theorem nd_X1_image : yX1_image.cls ≠ "java/lang/invoke/MethodHandle" ∧ yX1_image.cls ≠ "java/lang/invoke/VarHandle" ∧ (parseMethodDescriptor yX1_image.desc).map (fun d => d.parameters.length) = some 2 := by decide +kernel
set_option maxHeartbeats 4000000 in
set_option maxRecDepth 100000 in
theorem c_X1_image (l : Launch) (G : va_G) (cI cJ cZ : ClassId) (p0 : Int32) (p1 : Int32) {K : Int32 → Prop} (hw : wX1_image p0 p1 K) : Met l yX1_image wsX1_image rmX1_image (ms_P G (ms_T cI cJ cZ) [] [.int p0, .int p1]) (ms_Qi K) 0 0 ms_N := by
  refine ms_si (cc := cX1_image) (maxL := 2) (ty := .int) (by decide) rfl (Nat.le_of_ble_eq_true rfl) ?_
  intro p e s m args below meth c Q hx hb hml hown hts hK hP hD hRet ls hl
  have hl : lv_has ls 2 [(0, .int p0), (1, .int p1)] := hl
  have hown : s.vm.findClass RX1 = some m.cls := hown
  refine lv_iload_n hx hb dX1_image_0 rfl (lv_at hl 0 rfl) ?_
  refine lv_bipush (v := (7)) hx hb dX1_image_1 (by decide) ?_
  refine lv_iand hx hb dX1_image_3 ?_
  refine lv_iload_n hx hb dX1_image_4 rfl (lv_at hl 1 rfl) ?_
  refine lv_sipush (v := (511)) hx hb dX1_image_5 (by decide) ?_
  refine lv_iand hx hb dX1_image_8 ?_
  refine ms_cSi ⟨hx, hb, hml, hown, hts⟩ hK hP hD (c_X5_image l G cI cJ cZ (p0 &&& (7 : Int32)) (p1 &&& (511 : Int32)) hw) gX1_image_X5_image rfl nd_X5_image ⟨rfl, rfl⟩ rfl ⟨Nat.le_of_ble_eq_true rfl, Nat.le_of_ble_eq_true rfl⟩ hl.1 (rest := []) rfl (Nat.le_of_ble_eq_true rfl)  [] rfl rfl dX1_image_9 (fun r1 hw => ?_)
  refine lv_iload_n hx hb dX1_image_12 rfl (lv_at hl 0 rfl) ?_
  refine lv_iconst (v := 3) hx hb dX1_image_13 (by decide) ?_
  refine lv_ishr hx hb dX1_image_14 ?_
  refine lv_bipush (v := (7)) hx hb dX1_image_15 (by decide) ?_
  refine lv_iand hx hb dX1_image_17 ?_
  refine lv_iload_n hx hb dX1_image_18 rfl (lv_at hl 1 rfl) ?_
  refine lv_bipush (v := (9)) hx hb dX1_image_19 (by decide) ?_
  refine lv_ishr hx hb dX1_image_21 ?_
  refine lv_sipush (v := (511)) hx hb dX1_image_22 (by decide) ?_
  refine lv_iand hx hb dX1_image_25 ?_
  refine ms_cSi ⟨hx, hb, hml, hown, hts⟩ hK hP hD (c_X5_image l G cI cJ cZ ((p0 >>> ((3 : Int32) &&& 31)) &&& (7 : Int32)) ((p1 >>> ((9 : Int32) &&& 31)) &&& (511 : Int32)) hw) gX1_image_X5_image rfl nd_X5_image ⟨rfl, rfl⟩ rfl ⟨Nat.le_of_ble_eq_true rfl, Nat.le_of_ble_eq_true rfl⟩ hl.1 (rest := [.int r1]) rfl (Nat.le_of_ble_eq_true rfl)  [] rfl rfl dX1_image_26 (fun r2 hw => ?_)
  refine ms_cSi ⟨hx, hb, hml, hown, hts⟩ hK hP hD (c_X1_joinedCode l G cI cJ cZ r1 r2 hw) gX1_image_X1_joinedCode rfl nd_X1_joinedCode ⟨rfl, rfl⟩ rfl ⟨Nat.le_of_ble_eq_true rfl, Nat.le_of_ble_eq_true rfl⟩ hl.1 (rest := []) rfl (Nat.le_of_ble_eq_true rfl)  [] rfl rfl dX1_image_29 (fun r3 hw => ?_)
  exact hRet r3 _ _ hw (vp_nar_int _) dX1_image_32
def wX1_then (p0 : Int32) (p1 : Int32) (K : Int32 → Prop) : Prop :=
  (wX5_then (p0 &&& (511 : Int32)) (p1 &&& (511 : Int32)) (fun r1 => (wX5_then ((p0 >>> ((9 : Int32) &&& 31)) &&& (511 : Int32)) ((p1 >>> ((9 : Int32) &&& 31)) &&& (511 : Int32)) (fun r2 => (wX1_joinedPair r1 r2 (fun r3 => K r3))))))
abbrev rmX1_then : Room := { frames := 2, cells := 0, slots := 0, locals := 43 }
theorem nd_X1_then : yX1_then.cls ≠ "java/lang/invoke/MethodHandle" ∧ yX1_then.cls ≠ "java/lang/invoke/VarHandle" ∧ (parseMethodDescriptor yX1_then.desc).map (fun d => d.parameters.length) = some 2 := by decide +kernel
set_option maxHeartbeats 4000000 in
set_option maxRecDepth 100000 in
theorem c_X1_then (l : Launch) (G : va_G) (cI cJ cZ : ClassId) (p0 : Int32) (p1 : Int32) {K : Int32 → Prop} (hw : wX1_then p0 p1 K) : Met l yX1_then wsX1_then rmX1_then (ms_P G (ms_T cI cJ cZ) [] [.int p0, .int p1]) (ms_Qi K) 0 0 ms_N := by
  refine ms_si (cc := cX1_then) (maxL := 2) (ty := .int) (by decide) rfl (Nat.le_of_ble_eq_true rfl) ?_
  intro p e s m args below meth c Q hx hb hml hown hts hK hP hD hRet ls hl
  have hl : lv_has ls 2 [(0, .int p0), (1, .int p1)] := hl
  have hown : s.vm.findClass RX1 = some m.cls := hown
  refine lv_iload_n hx hb dX1_then_0 rfl (lv_at hl 0 rfl) ?_
  refine lv_sipush (v := (511)) hx hb dX1_then_1 (by decide) ?_
  refine lv_iand hx hb dX1_then_4 ?_
  refine lv_iload_n hx hb dX1_then_5 rfl (lv_at hl 1 rfl) ?_
  refine lv_sipush (v := (511)) hx hb dX1_then_6 (by decide) ?_
  refine lv_iand hx hb dX1_then_9 ?_
  refine ms_cSi ⟨hx, hb, hml, hown, hts⟩ hK hP hD (c_X5_then l G cI cJ cZ (p0 &&& (511 : Int32)) (p1 &&& (511 : Int32)) hw) gX1_then_X5_then rfl nd_X5_then ⟨rfl, rfl⟩ rfl ⟨Nat.le_of_ble_eq_true rfl, Nat.le_of_ble_eq_true rfl⟩ hl.1 (rest := []) rfl (Nat.le_of_ble_eq_true rfl)  [] rfl rfl dX1_then_10 (fun r1 hw => ?_)
  refine lv_iload_n hx hb dX1_then_13 rfl (lv_at hl 0 rfl) ?_
  refine lv_bipush (v := (9)) hx hb dX1_then_14 (by decide) ?_
  refine lv_ishr hx hb dX1_then_16 ?_
  refine lv_sipush (v := (511)) hx hb dX1_then_17 (by decide) ?_
  refine lv_iand hx hb dX1_then_20 ?_
  refine lv_iload_n hx hb dX1_then_21 rfl (lv_at hl 1 rfl) ?_
  refine lv_bipush (v := (9)) hx hb dX1_then_22 (by decide) ?_
  refine lv_ishr hx hb dX1_then_24 ?_
  refine lv_sipush (v := (511)) hx hb dX1_then_25 (by decide) ?_
  refine lv_iand hx hb dX1_then_28 ?_
  refine ms_cSi ⟨hx, hb, hml, hown, hts⟩ hK hP hD (c_X5_then l G cI cJ cZ ((p0 >>> ((9 : Int32) &&& 31)) &&& (511 : Int32)) ((p1 >>> ((9 : Int32) &&& 31)) &&& (511 : Int32)) hw) gX1_then_X5_then rfl nd_X5_then ⟨rfl, rfl⟩ rfl ⟨Nat.le_of_ble_eq_true rfl, Nat.le_of_ble_eq_true rfl⟩ hl.1 (rest := [.int r1]) rfl (Nat.le_of_ble_eq_true rfl)  [] rfl rfl dX1_then_29 (fun r2 hw => ?_)
  refine ms_cSi ⟨hx, hb, hml, hown, hts⟩ hK hP hD (c_X1_joinedPair l G cI cJ cZ r1 r2 hw) gX1_then_X1_joinedPair rfl nd_X1_joinedPair ⟨rfl, rfl⟩ rfl ⟨Nat.le_of_ble_eq_true rfl, Nat.le_of_ble_eq_true rfl⟩ hl.1 (rest := []) rfl (Nat.le_of_ble_eq_true rfl)  [] rfl rfl dX1_then_32 (fun r3 hw => ?_)
  exact hRet r3 _ _ hw (vp_nar_int _) dX1_then_35
def wX1_plain (p0 : Int32) (F_both : Int32) (F_one_states : Int32) (A_one_ways : Nat → Int32) (F_other_states : Int32) (A_other_ways : Nat → Int32) (K : Int32 → Prop) : Prop :=
  (wX1_identity F_both F_one_states F_other_states (fun r1 => (wX5_way p0 (0 : Int32) A_one_ways (fun r2 => (wX5_way p0 (0 : Int32) A_other_ways (fun r3 => (wX1_joinedPair r2 r3 (fun r4 => (wX1_then r1 r4 (fun r5 => K r5))))))))))
abbrev rmX1_plain : Room := { frames := 3, cells := 0, slots := 0, locals := 64 }
theorem nd_X1_plain : yX1_plain.cls = RX1 ∧ yX1_plain.cls ≠ "java/lang/invoke/MethodHandle" ∧ yX1_plain.cls ≠ "java/lang/invoke/VarHandle" ∧ (parseMethodDescriptor yX1_plain.desc).map (fun d => d.parameters.length) = some 1 := by decide +kernel
theorem hkX1_plain_X1 : ∀ w ∈ u_ws RX1 TX1 3, w ∈ wsX1_plain := fun w h => List.mem_cons_of_mem _ (inlX1 w h)
theorem hfX1_plain_9 : (Cond.fieldLink RX1 9 "NestReaders$Held" "one" "LNestReaders$Reader;") ∈ wsX1_plain := List.mem_cons_of_mem _ m5_7
theorem hfX1_plain_15 : (Cond.fieldLink RX1 15 "NestReaders$Held" "other" "LNestReaders$Reader;") ∈ wsX1_plain := List.mem_cons_of_mem _ m5_8
set_option maxHeartbeats 4000000 in
set_option maxRecDepth 100000 in
theorem c_X1_plain (l : Launch) (G : va_G) (cI cJ cZ : ClassId) (q_t q_t_one q_t_other q_t_one_ways q_t_other_ways : Nat) (F_both : Int32) (F_one_states : Int32) (F_one_marks : Int32) (F_one_takes : Int32) (F_one_changes : Int32) (A_one_ways : Nat → Int32) (F_other_states : Int32) (F_other_marks : Int32) (F_other_takes : Int32) (F_other_changes : Int32) (A_other_ways : Nat → Int32) (p0 : Int32) {K : Int32 → Prop} (hw : wX1_plain p0 F_both F_one_states A_one_ways F_other_states A_other_ways K) : Met l yX1_plain wsX1_plain rmX1_plain (ms_P G (ms_T cI cJ cZ) [(q_t, .inr (1, [.ref q_t_one, .ref q_t_other, .int F_both])), (q_t_one, .inr (5, [.ref q_t_one_ways, .int F_one_states, .int F_one_marks, .int F_one_takes, .int F_one_changes])), (q_t_one_ways, .inl (cI, 18, .inl A_one_ways)), (q_t_other, .inr (5, [.ref q_t_other_ways, .int F_other_states, .int F_other_marks, .int F_other_takes, .int F_other_changes])), (q_t_other_ways, .inl (cI, 18, .inl A_other_ways))] [.ref q_t, .int p0]) (ms_Qi K) 0 0 ms_N := by
  refine ms_si (cc := cX1_plain) (maxL := 2) (ty := .int) (by decide) rfl (Nat.le_of_ble_eq_true rfl) ?_
  intro p e s m args below meth c Q hx hb hml hown hts hK hP hD hRet ls hl
  have hl : lv_has ls 2 [(0, .ref q_t), (1, .int p0)] := hl
  have hown : s.vm.findClass RX1 = some m.cls := hown
  refine lv_aload_n hx hb dX1_plain_0 rfl (lv_at hl 0 rfl) ?_
  refine ms_cVi ⟨hx, hb, hml, hown, hts⟩ hK hP hD (c_X1_identity l G cI cJ cZ q_t q_t_one q_t_other q_t_one_ways q_t_other_ways F_both F_one_states F_one_marks F_one_takes F_one_changes F_other_states F_other_marks F_other_takes F_other_changes hw) gX1_plain_X1_identity rfl nd_X1_identity (ci := 1) rfl rfl rfl ⟨rfl, rfl⟩ rfl ⟨Nat.le_of_ble_eq_true rfl, Nat.le_of_ble_eq_true rfl⟩ hl.1 (rest := []) rfl (Nat.le_of_ble_eq_true rfl)  [0, 1, 3] rfl rfl dX1_plain_1 (fun r1 hw => ?_)
  refine lv_aload_n hx hb dX1_plain_4 rfl (lv_at hl 0 rfl) ?_
  refine va_get (D := G) (ci := 1) (v := .ref q_t_one) (C := RX1) (T := TX1) (N := 3) hx hb hts hkX1_plain_X1 hown hK hP 0 rfl rfl 0 (by decide) (hts (.fieldLink RX1 9 "NestReaders$Held" "one" "LNestReaders$Reader;") hfX1_plain_9) (fun _ h9 => h9) rfl dX1_plain_5 ?_
  refine lv_iload_n hx hb dX1_plain_8 rfl (lv_at hl 1 rfl) ?_
  refine lv_iconst (v := 0) hx hb dX1_plain_9 (by decide) ?_
  refine ms_cVi ⟨hx, hb, hml, hown, hts⟩ hK hP hD (c_X5_way l G cI cJ cZ q_t_one q_t_one_ways F_one_states F_one_marks F_one_takes F_one_changes A_one_ways p0 (0 : Int32) hw) gX1_plain_X5_way rfl nd_X5_way (ci := 5) rfl rfl rfl ⟨rfl, rfl⟩ rfl ⟨Nat.le_of_ble_eq_true rfl, Nat.le_of_ble_eq_true rfl⟩ hl.1 (rest := [.int r1]) rfl (Nat.le_of_ble_eq_true rfl)  [1, 2] rfl rfl dX1_plain_10 (fun r2 hw => ?_)
  refine lv_aload_n hx hb dX1_plain_13 rfl (lv_at hl 0 rfl) ?_
  refine va_get (D := G) (ci := 1) (v := .ref q_t_other) (C := RX1) (T := TX1) (N := 3) hx hb hts hkX1_plain_X1 hown hK hP 0 rfl rfl 1 (by decide) (hts (.fieldLink RX1 15 "NestReaders$Held" "other" "LNestReaders$Reader;") hfX1_plain_15) (fun _ h9 => h9) rfl dX1_plain_14 ?_
  refine lv_iload_n hx hb dX1_plain_17 rfl (lv_at hl 1 rfl) ?_
  refine lv_iconst (v := 0) hx hb dX1_plain_18 (by decide) ?_
  refine ms_cVi ⟨hx, hb, hml, hown, hts⟩ hK hP hD (c_X5_way l G cI cJ cZ q_t_other q_t_other_ways F_other_states F_other_marks F_other_takes F_other_changes A_other_ways p0 (0 : Int32) hw) gX1_plain_X5_way rfl nd_X5_way (ci := 5) rfl rfl rfl ⟨rfl, rfl⟩ rfl ⟨Nat.le_of_ble_eq_true rfl, Nat.le_of_ble_eq_true rfl⟩ hl.1 (rest := [.int r2, .int r1]) rfl (Nat.le_of_ble_eq_true rfl)  [3, 4] rfl rfl dX1_plain_19 (fun r3 hw => ?_)
  refine ms_cSi ⟨hx, hb, hml, hown, hts⟩ hK hP hD (c_X1_joinedPair l G cI cJ cZ r2 r3 hw) gX1_plain_X1_joinedPair rfl nd_X1_joinedPair ⟨rfl, rfl⟩ rfl ⟨Nat.le_of_ble_eq_true rfl, Nat.le_of_ble_eq_true rfl⟩ hl.1 (rest := [.int r1]) rfl (Nat.le_of_ble_eq_true rfl)  [] rfl rfl dX1_plain_22 (fun r4 hw => ?_)
  refine ms_cSi ⟨hx, hb, hml, hown, hts⟩ hK hP hD (c_X1_then l G cI cJ cZ r1 r4 hw) gX1_plain_X1_then rfl nd_X1_then ⟨rfl, rfl⟩ rfl ⟨Nat.le_of_ble_eq_true rfl, Nat.le_of_ble_eq_true rfl⟩ hl.1 (rest := []) rfl (Nat.le_of_ble_eq_true rfl)  [] rfl rfl dX1_plain_25 (fun r5 hw => ?_)
  exact hRet r5 _ _ hw (vp_nar_int _) dX1_plain_28
set_option maxHeartbeats 4000000 in
set_option maxRecDepth 100000 in
theorem c_X1_plain_S (l : Launch) (G : va_G) (cI cJ cZ : ClassId) (q_t q_t_one q_t_one_ways : Nat) (F_both : Int32) (F_one_states : Int32) (F_one_marks : Int32) (F_one_takes : Int32) (F_one_changes : Int32) (A_one_ways : Nat → Int32) (p0 : Int32) {K : Int32 → Prop} (hw : wX1_plain p0 F_both F_one_states A_one_ways F_one_states A_one_ways K) : Met l yX1_plain wsX1_plain rmX1_plain (ms_P G (ms_T cI cJ cZ) [(q_t, .inr (1, [.ref q_t_one, .ref q_t_one, .int F_both])), (q_t_one, .inr (5, [.ref q_t_one_ways, .int F_one_states, .int F_one_marks, .int F_one_takes, .int F_one_changes])), (q_t_one_ways, .inl (cI, 18, .inl A_one_ways))] [.ref q_t, .int p0]) (ms_Qi K) 0 0 ms_N := by
  refine ms_si (cc := cX1_plain) (maxL := 2) (ty := .int) (by decide) rfl (Nat.le_of_ble_eq_true rfl) ?_
  intro p e s m args below meth c Q hx hb hml hown hts hK hP hD hRet ls hl
  have hl : lv_has ls 2 [(0, .ref q_t), (1, .int p0)] := hl
  have hown : s.vm.findClass RX1 = some m.cls := hown
  refine lv_aload_n hx hb dX1_plain_0 rfl (lv_at hl 0 rfl) ?_
  refine ms_cVi ⟨hx, hb, hml, hown, hts⟩ hK hP hD (c_X1_identity_S l G cI cJ cZ q_t q_t_one q_t_one_ways F_both F_one_states F_one_marks F_one_takes F_one_changes hw) gX1_plain_X1_identity rfl nd_X1_identity (ci := 1) rfl rfl rfl ⟨rfl, rfl⟩ rfl ⟨Nat.le_of_ble_eq_true rfl, Nat.le_of_ble_eq_true rfl⟩ hl.1 (rest := []) rfl (Nat.le_of_ble_eq_true rfl)  [0, 1] rfl rfl dX1_plain_1 (fun r1 hw => ?_)
  refine lv_aload_n hx hb dX1_plain_4 rfl (lv_at hl 0 rfl) ?_
  refine va_get (D := G) (ci := 1) (v := .ref q_t_one) (C := RX1) (T := TX1) (N := 3) hx hb hts hkX1_plain_X1 hown hK hP 0 rfl rfl 0 (by decide) (hts (.fieldLink RX1 9 "NestReaders$Held" "one" "LNestReaders$Reader;") hfX1_plain_9) (fun _ h9 => h9) rfl dX1_plain_5 ?_
  refine lv_iload_n hx hb dX1_plain_8 rfl (lv_at hl 1 rfl) ?_
  refine lv_iconst (v := 0) hx hb dX1_plain_9 (by decide) ?_
  refine ms_cVi ⟨hx, hb, hml, hown, hts⟩ hK hP hD (c_X5_way l G cI cJ cZ q_t_one q_t_one_ways F_one_states F_one_marks F_one_takes F_one_changes A_one_ways p0 (0 : Int32) hw) gX1_plain_X5_way rfl nd_X5_way (ci := 5) rfl rfl rfl ⟨rfl, rfl⟩ rfl ⟨Nat.le_of_ble_eq_true rfl, Nat.le_of_ble_eq_true rfl⟩ hl.1 (rest := [.int r1]) rfl (Nat.le_of_ble_eq_true rfl)  [1, 2] rfl rfl dX1_plain_10 (fun r2 hw => ?_)
  refine lv_aload_n hx hb dX1_plain_13 rfl (lv_at hl 0 rfl) ?_
  refine va_get (D := G) (ci := 1) (v := .ref q_t_one) (C := RX1) (T := TX1) (N := 3) hx hb hts hkX1_plain_X1 hown hK hP 0 rfl rfl 1 (by decide) (hts (.fieldLink RX1 15 "NestReaders$Held" "other" "LNestReaders$Reader;") hfX1_plain_15) (fun _ h9 => h9) rfl dX1_plain_14 ?_
  refine lv_iload_n hx hb dX1_plain_17 rfl (lv_at hl 1 rfl) ?_
  refine lv_iconst (v := 0) hx hb dX1_plain_18 (by decide) ?_
  refine ms_cVi ⟨hx, hb, hml, hown, hts⟩ hK hP hD (c_X5_way l G cI cJ cZ q_t_one q_t_one_ways F_one_states F_one_marks F_one_takes F_one_changes A_one_ways p0 (0 : Int32) hw) gX1_plain_X5_way rfl nd_X5_way (ci := 5) rfl rfl rfl ⟨rfl, rfl⟩ rfl ⟨Nat.le_of_ble_eq_true rfl, Nat.le_of_ble_eq_true rfl⟩ hl.1 (rest := [.int r2, .int r1]) rfl (Nat.le_of_ble_eq_true rfl)  [1, 2] rfl rfl dX1_plain_19 (fun r3 hw => ?_)
  refine ms_cSi ⟨hx, hb, hml, hown, hts⟩ hK hP hD (c_X1_joinedPair l G cI cJ cZ r2 r3 hw) gX1_plain_X1_joinedPair rfl nd_X1_joinedPair ⟨rfl, rfl⟩ rfl ⟨Nat.le_of_ble_eq_true rfl, Nat.le_of_ble_eq_true rfl⟩ hl.1 (rest := [.int r1]) rfl (Nat.le_of_ble_eq_true rfl)  [] rfl rfl dX1_plain_22 (fun r4 hw => ?_)
  refine ms_cSi ⟨hx, hb, hml, hown, hts⟩ hK hP hD (c_X1_then l G cI cJ cZ r1 r4 hw) gX1_plain_X1_then rfl nd_X1_then ⟨rfl, rfl⟩ rfl ⟨Nat.le_of_ble_eq_true rfl, Nat.le_of_ble_eq_true rfl⟩ hl.1 (rest := []) rfl (Nat.le_of_ble_eq_true rfl)  [] rfl rfl dX1_plain_25 (fun r5 hw => ?_)
  exact hRet r5 _ _ hw (vp_nar_int _) dX1_plain_28
def wX1_alone (p0 : Int32) (p1 : Int32) (A_one_ways : Nat → Int32) (A_other_ways : Nat → Int32) (K : Int32 → Prop) : Prop :=
  (wX5_alone p0 A_one_ways (fun r1 => (wX5_alone p0 A_other_ways (fun r2 => (wX1_joinedPair r1 r2 (fun r3 => (wX1_image p1 r3 (fun r4 => K r4))))))))
abbrev rmX1_alone : Room := { frames := 2, cells := 0, slots := 0, locals := 44 }
theorem nd_X1_alone : yX1_alone.cls = RX1 ∧ yX1_alone.cls ≠ "java/lang/invoke/MethodHandle" ∧ yX1_alone.cls ≠ "java/lang/invoke/VarHandle" ∧ (parseMethodDescriptor yX1_alone.desc).map (fun d => d.parameters.length) = some 2 := by decide +kernel
theorem hkX1_alone_X1 : ∀ w ∈ u_ws RX1 TX1 3, w ∈ wsX1_alone := fun w h => List.mem_cons_of_mem _ (inlX1 w h)
theorem hfX1_alone_9 : (Cond.fieldLink RX1 9 "NestReaders$Held" "one" "LNestReaders$Reader;") ∈ wsX1_alone := List.mem_cons_of_mem _ m5_7
theorem hfX1_alone_15 : (Cond.fieldLink RX1 15 "NestReaders$Held" "other" "LNestReaders$Reader;") ∈ wsX1_alone := List.mem_cons_of_mem _ m5_8
set_option maxHeartbeats 4000000 in
set_option maxRecDepth 100000 in
theorem c_X1_alone (l : Launch) (G : va_G) (cI cJ cZ : ClassId) (q_t q_t_one q_t_other q_t_one_ways q_t_other_ways : Nat) (F_both : Int32) (F_one_states : Int32) (F_one_marks : Int32) (F_one_takes : Int32) (F_one_changes : Int32) (A_one_ways : Nat → Int32) (F_other_states : Int32) (F_other_marks : Int32) (F_other_takes : Int32) (F_other_changes : Int32) (A_other_ways : Nat → Int32) (p0 : Int32) (p1 : Int32) {K : Int32 → Prop} (hw : wX1_alone p0 p1 A_one_ways A_other_ways K) : Met l yX1_alone wsX1_alone rmX1_alone (ms_P G (ms_T cI cJ cZ) [(q_t, .inr (1, [.ref q_t_one, .ref q_t_other, .int F_both])), (q_t_one, .inr (5, [.ref q_t_one_ways, .int F_one_states, .int F_one_marks, .int F_one_takes, .int F_one_changes])), (q_t_one_ways, .inl (cI, 18, .inl A_one_ways)), (q_t_other, .inr (5, [.ref q_t_other_ways, .int F_other_states, .int F_other_marks, .int F_other_takes, .int F_other_changes])), (q_t_other_ways, .inl (cI, 18, .inl A_other_ways))] [.ref q_t, .int p0, .int p1]) (ms_Qi K) 0 0 ms_N := by
  refine ms_si (cc := cX1_alone) (maxL := 3) (ty := .int) (by decide) rfl (Nat.le_of_ble_eq_true rfl) ?_
  intro p e s m args below meth c Q hx hb hml hown hts hK hP hD hRet ls hl
  have hl : lv_has ls 3 [(0, .ref q_t), (1, .int p0), (2, .int p1)] := hl
  have hown : s.vm.findClass RX1 = some m.cls := hown
  refine lv_iload_n hx hb dX1_alone_0 rfl (lv_at hl 2 rfl) ?_
  refine lv_aload_n hx hb dX1_alone_1 rfl (lv_at hl 0 rfl) ?_
  refine va_get (D := G) (ci := 1) (v := .ref q_t_one) (C := RX1) (T := TX1) (N := 3) hx hb hts hkX1_alone_X1 hown hK hP 0 rfl rfl 0 (by decide) (hts (.fieldLink RX1 9 "NestReaders$Held" "one" "LNestReaders$Reader;") hfX1_alone_9) (fun _ h9 => h9) rfl dX1_alone_2 ?_
  refine lv_iload_n hx hb dX1_alone_5 rfl (lv_at hl 1 rfl) ?_
  refine ms_cVi ⟨hx, hb, hml, hown, hts⟩ hK hP hD (c_X5_alone l G cI cJ cZ q_t_one q_t_one_ways F_one_states F_one_marks F_one_takes F_one_changes A_one_ways p0 hw) gX1_alone_X5_alone rfl nd_X5_alone (ci := 5) rfl rfl rfl ⟨rfl, rfl⟩ rfl ⟨Nat.le_of_ble_eq_true rfl, Nat.le_of_ble_eq_true rfl⟩ hl.1 (rest := [.int p1]) rfl (Nat.le_of_ble_eq_true rfl)  [1, 2] rfl rfl dX1_alone_6 (fun r1 hw => ?_)
  refine lv_aload_n hx hb dX1_alone_9 rfl (lv_at hl 0 rfl) ?_
  refine va_get (D := G) (ci := 1) (v := .ref q_t_other) (C := RX1) (T := TX1) (N := 3) hx hb hts hkX1_alone_X1 hown hK hP 0 rfl rfl 1 (by decide) (hts (.fieldLink RX1 15 "NestReaders$Held" "other" "LNestReaders$Reader;") hfX1_alone_15) (fun _ h9 => h9) rfl dX1_alone_10 ?_
  refine lv_iload_n hx hb dX1_alone_13 rfl (lv_at hl 1 rfl) ?_
  refine ms_cVi ⟨hx, hb, hml, hown, hts⟩ hK hP hD (c_X5_alone l G cI cJ cZ q_t_other q_t_other_ways F_other_states F_other_marks F_other_takes F_other_changes A_other_ways p0 hw) gX1_alone_X5_alone rfl nd_X5_alone (ci := 5) rfl rfl rfl ⟨rfl, rfl⟩ rfl ⟨Nat.le_of_ble_eq_true rfl, Nat.le_of_ble_eq_true rfl⟩ hl.1 (rest := [.int r1, .int p1]) rfl (Nat.le_of_ble_eq_true rfl)  [3, 4] rfl rfl dX1_alone_14 (fun r2 hw => ?_)
  refine ms_cSi ⟨hx, hb, hml, hown, hts⟩ hK hP hD (c_X1_joinedPair l G cI cJ cZ r1 r2 hw) gX1_alone_X1_joinedPair rfl nd_X1_joinedPair ⟨rfl, rfl⟩ rfl ⟨Nat.le_of_ble_eq_true rfl, Nat.le_of_ble_eq_true rfl⟩ hl.1 (rest := [.int p1]) rfl (Nat.le_of_ble_eq_true rfl)  [] rfl rfl dX1_alone_17 (fun r3 hw => ?_)
  refine ms_cSi ⟨hx, hb, hml, hown, hts⟩ hK hP hD (c_X1_image l G cI cJ cZ p1 r3 hw) gX1_alone_X1_image rfl nd_X1_image ⟨rfl, rfl⟩ rfl ⟨Nat.le_of_ble_eq_true rfl, Nat.le_of_ble_eq_true rfl⟩ hl.1 (rest := []) rfl (Nat.le_of_ble_eq_true rfl)  [] rfl rfl dX1_alone_20 (fun r4 hw => ?_)
  exact hRet r4 _ _ hw (vp_nar_int _) dX1_alone_23
set_option maxHeartbeats 4000000 in
set_option maxRecDepth 100000 in
theorem c_X1_alone_S (l : Launch) (G : va_G) (cI cJ cZ : ClassId) (q_t q_t_one q_t_one_ways : Nat) (F_both : Int32) (F_one_states : Int32) (F_one_marks : Int32) (F_one_takes : Int32) (F_one_changes : Int32) (A_one_ways : Nat → Int32) (p0 : Int32) (p1 : Int32) {K : Int32 → Prop} (hw : wX1_alone p0 p1 A_one_ways A_one_ways K) : Met l yX1_alone wsX1_alone rmX1_alone (ms_P G (ms_T cI cJ cZ) [(q_t, .inr (1, [.ref q_t_one, .ref q_t_one, .int F_both])), (q_t_one, .inr (5, [.ref q_t_one_ways, .int F_one_states, .int F_one_marks, .int F_one_takes, .int F_one_changes])), (q_t_one_ways, .inl (cI, 18, .inl A_one_ways))] [.ref q_t, .int p0, .int p1]) (ms_Qi K) 0 0 ms_N := by
  refine ms_si (cc := cX1_alone) (maxL := 3) (ty := .int) (by decide) rfl (Nat.le_of_ble_eq_true rfl) ?_
  intro p e s m args below meth c Q hx hb hml hown hts hK hP hD hRet ls hl
  have hl : lv_has ls 3 [(0, .ref q_t), (1, .int p0), (2, .int p1)] := hl
  have hown : s.vm.findClass RX1 = some m.cls := hown
  refine lv_iload_n hx hb dX1_alone_0 rfl (lv_at hl 2 rfl) ?_
  refine lv_aload_n hx hb dX1_alone_1 rfl (lv_at hl 0 rfl) ?_
  refine va_get (D := G) (ci := 1) (v := .ref q_t_one) (C := RX1) (T := TX1) (N := 3) hx hb hts hkX1_alone_X1 hown hK hP 0 rfl rfl 0 (by decide) (hts (.fieldLink RX1 9 "NestReaders$Held" "one" "LNestReaders$Reader;") hfX1_alone_9) (fun _ h9 => h9) rfl dX1_alone_2 ?_
  refine lv_iload_n hx hb dX1_alone_5 rfl (lv_at hl 1 rfl) ?_
  refine ms_cVi ⟨hx, hb, hml, hown, hts⟩ hK hP hD (c_X5_alone l G cI cJ cZ q_t_one q_t_one_ways F_one_states F_one_marks F_one_takes F_one_changes A_one_ways p0 hw) gX1_alone_X5_alone rfl nd_X5_alone (ci := 5) rfl rfl rfl ⟨rfl, rfl⟩ rfl ⟨Nat.le_of_ble_eq_true rfl, Nat.le_of_ble_eq_true rfl⟩ hl.1 (rest := [.int p1]) rfl (Nat.le_of_ble_eq_true rfl)  [1, 2] rfl rfl dX1_alone_6 (fun r1 hw => ?_)
  refine lv_aload_n hx hb dX1_alone_9 rfl (lv_at hl 0 rfl) ?_
  refine va_get (D := G) (ci := 1) (v := .ref q_t_one) (C := RX1) (T := TX1) (N := 3) hx hb hts hkX1_alone_X1 hown hK hP 0 rfl rfl 1 (by decide) (hts (.fieldLink RX1 15 "NestReaders$Held" "other" "LNestReaders$Reader;") hfX1_alone_15) (fun _ h9 => h9) rfl dX1_alone_10 ?_
  refine lv_iload_n hx hb dX1_alone_13 rfl (lv_at hl 1 rfl) ?_
  refine ms_cVi ⟨hx, hb, hml, hown, hts⟩ hK hP hD (c_X5_alone l G cI cJ cZ q_t_one q_t_one_ways F_one_states F_one_marks F_one_takes F_one_changes A_one_ways p0 hw) gX1_alone_X5_alone rfl nd_X5_alone (ci := 5) rfl rfl rfl ⟨rfl, rfl⟩ rfl ⟨Nat.le_of_ble_eq_true rfl, Nat.le_of_ble_eq_true rfl⟩ hl.1 (rest := [.int r1, .int p1]) rfl (Nat.le_of_ble_eq_true rfl)  [1, 2] rfl rfl dX1_alone_14 (fun r2 hw => ?_)
  refine ms_cSi ⟨hx, hb, hml, hown, hts⟩ hK hP hD (c_X1_joinedPair l G cI cJ cZ r1 r2 hw) gX1_alone_X1_joinedPair rfl nd_X1_joinedPair ⟨rfl, rfl⟩ rfl ⟨Nat.le_of_ble_eq_true rfl, Nat.le_of_ble_eq_true rfl⟩ hl.1 (rest := [.int p1]) rfl (Nat.le_of_ble_eq_true rfl)  [] rfl rfl dX1_alone_17 (fun r3 hw => ?_)
  refine ms_cSi ⟨hx, hb, hml, hown, hts⟩ hK hP hD (c_X1_image l G cI cJ cZ p1 r3 hw) gX1_alone_X1_image rfl nd_X1_image ⟨rfl, rfl⟩ rfl ⟨Nat.le_of_ble_eq_true rfl, Nat.le_of_ble_eq_true rfl⟩ hl.1 (rest := []) rfl (Nat.le_of_ble_eq_true rfl)  [] rfl rfl dX1_alone_20 (fun r4 hw => ?_)
  exact hRet r4 _ _ hw (vp_nar_int _) dX1_alone_23
