theorem dX5_init_0 : decode cX5_init 0 = .ok (.aload_n 0, 1) := by decide +kernel
theorem dX5_init_1 : decode cX5_init 1 = .ok (.invokespecial 3, 3) := by decide +kernel
theorem dX5_init_4 : decode cX5_init 4 = .ok (.aload_n 0, 1) := by decide +kernel
theorem dX5_init_5 : decode cX5_init 5 = .ok (.bipush 18, 2) := by decide +kernel
theorem dX5_init_7 : decode cX5_init 7 = .ok (.newarray .int, 2) := by decide +kernel
theorem dX5_init_9 : decode cX5_init 9 = .ok (.putfield 11, 3) := by decide +kernel
theorem dX5_init_12 : decode cX5_init 12 = .ok (.aload_n 0, 1) := by decide +kernel
theorem dX5_init_13 : decode cX5_init 13 = .ok (.iconst 1, 1) := by decide +kernel
theorem dX5_init_14 : decode cX5_init 14 = .ok (.putfield 15, 3) := by decide +kernel
theorem dX5_init_17 : decode cX5_init 17 = .ok (.aload_n 0, 1) := by decide +kernel
theorem dX5_init_18 : decode cX5_init 18 = .ok (.iconst 1, 1) := by decide +kernel
theorem dX5_init_19 : decode cX5_init 19 = .ok (.putfield 19, 3) := by decide +kernel
theorem dX5_init_22 : decode cX5_init 22 = .ok (.aload_n 0, 1) := by decide +kernel
theorem dX5_init_23 : decode cX5_init 23 = .ok (.iconst 0, 1) := by decide +kernel
theorem dX5_init_24 : decode cX5_init 24 = .ok (.putfield 22, 3) := by decide +kernel
theorem dX5_init_27 : decode cX5_init 27 = .ok (.aload_n 0, 1) := by decide +kernel
theorem dX5_init_28 : decode cX5_init 28 = .ok (.iconst 0, 1) := by decide +kernel
theorem dX5_init_29 : decode cX5_init 29 = .ok (.putfield 25, 3) := by decide +kernel
theorem dX5_init_32 : decode cX5_init 32 = .ok (.return_, 1) := by decide +kernel
theorem dX5_become_0 : decode cX5_become 0 = .ok (.aload_n 0, 1) := by decide +kernel
theorem dX5_become_1 : decode cX5_become 1 = .ok (.iload_n 1, 1) := by decide +kernel
theorem dX5_become_2 : decode cX5_become 2 = .ok (.putfield 15, 3) := by decide +kernel
theorem dX5_become_5 : decode cX5_become 5 = .ok (.aload_n 0, 1) := by decide +kernel
theorem dX5_become_6 : decode cX5_become 6 = .ok (.iload_n 2, 1) := by decide +kernel
theorem dX5_become_7 : decode cX5_become 7 = .ok (.putfield 19, 3) := by decide +kernel
theorem dX5_become_10 : decode cX5_become 10 = .ok (.aload_n 0, 1) := by decide +kernel
theorem dX5_become_11 : decode cX5_become 11 = .ok (.iload_n 3, 1) := by decide +kernel
theorem dX5_become_12 : decode cX5_become 12 = .ok (.putfield 22, 3) := by decide +kernel
theorem dX5_become_15 : decode cX5_become 15 = .ok (.iconst 0, 1) := by decide +kernel
theorem dX5_become_16 : decode cX5_become 16 = .ok (.istore 4, 2) := by decide +kernel
theorem dX5_become_18 : decode cX5_become 18 = .ok (.iload 4, 2) := by decide +kernel
theorem dX5_become_20 : decode cX5_become 20 = .ok (.aload_n 0, 1) := by decide +kernel
theorem dX5_become_21 : decode cX5_become 21 = .ok (.getfield 11, 3) := by decide +kernel
theorem dX5_become_24 : decode cX5_become 24 = .ok (.arraylength, 1) := by decide +kernel
theorem dX5_become_25 : decode cX5_become 25 = .ok (.if_icmp .ge 17, 3) := by decide +kernel
theorem dX5_become_28 : decode cX5_become 28 = .ok (.aload_n 0, 1) := by decide +kernel
theorem dX5_become_29 : decode cX5_become 29 = .ok (.getfield 11, 3) := by decide +kernel
theorem dX5_become_32 : decode cX5_become 32 = .ok (.iload 4, 2) := by decide +kernel
theorem dX5_become_34 : decode cX5_become 34 = .ok (.iconst 0, 1) := by decide +kernel
theorem dX5_become_35 : decode cX5_become 35 = .ok (.iastore, 1) := by decide +kernel
theorem dX5_become_36 : decode cX5_become 36 = .ok (.iinc 4 1, 3) := by decide +kernel
theorem dX5_become_39 : decode cX5_become 39 = .ok (.goto (-21), 3) := by decide +kernel
theorem dX5_become_42 : decode cX5_become 42 = .ok (.aload_n 0, 1) := by decide +kernel
theorem dX5_become_43 : decode cX5_become 43 = .ok (.dup, 1) := by decide +kernel
theorem dX5_become_44 : decode cX5_become 44 = .ok (.getfield 25, 3) := by decide +kernel
theorem dX5_become_47 : decode cX5_become 47 = .ok (.iconst 1, 1) := by decide +kernel
theorem dX5_become_48 : decode cX5_become 48 = .ok (.iadd, 1) := by decide +kernel
theorem dX5_become_49 : decode cX5_become 49 = .ok (.putfield 25, 3) := by decide +kernel
theorem dX5_become_52 : decode cX5_become 52 = .ok (.return_, 1) := by decide +kernel
theorem dX5_changes_0 : decode cX5_changes 0 = .ok (.aload_n 0, 1) := by decide +kernel
theorem dX5_changes_1 : decode cX5_changes 1 = .ok (.getfield 25, 3) := by decide +kernel
theorem dX5_changes_4 : decode cX5_changes 4 = .ok (.ireturn, 1) := by decide +kernel
theorem dX5_isState_0 : decode cX5_isState 0 = .ok (.iload_n 1, 1) := by decide +kernel
theorem dX5_isState_1 : decode cX5_isState 1 = .ok (.ifCond .lt 15, 3) := by decide +kernel
theorem dX5_isState_4 : decode cX5_isState 4 = .ok (.iload_n 1, 1) := by decide +kernel
theorem dX5_isState_5 : decode cX5_isState 5 = .ok (.aload_n 0, 1) := by decide +kernel
theorem dX5_isState_6 : decode cX5_isState 6 = .ok (.getfield 15, 3) := by decide +kernel
theorem dX5_isState_9 : decode cX5_isState 9 = .ok (.if_icmp .ge 7, 3) := by decide +kernel
theorem dX5_isState_12 : decode cX5_isState 12 = .ok (.iconst 1, 1) := by decide +kernel
theorem dX5_isState_13 : decode cX5_isState 13 = .ok (.goto 4, 3) := by decide +kernel
theorem dX5_isState_16 : decode cX5_isState 16 = .ok (.iconst 0, 1) := by decide +kernel
theorem dX5_isState_17 : decode cX5_isState 17 = .ok (.ireturn, 1) := by decide +kernel
theorem dX5_isMark_0 : decode cX5_isMark 0 = .ok (.iload_n 1, 1) := by decide +kernel
theorem dX5_isMark_1 : decode cX5_isMark 1 = .ok (.ifCond .lt 15, 3) := by decide +kernel
theorem dX5_isMark_4 : decode cX5_isMark 4 = .ok (.iload_n 1, 1) := by decide +kernel
theorem dX5_isMark_5 : decode cX5_isMark 5 = .ok (.aload_n 0, 1) := by decide +kernel
theorem dX5_isMark_6 : decode cX5_isMark 6 = .ok (.getfield 19, 3) := by decide +kernel
theorem dX5_isMark_9 : decode cX5_isMark 9 = .ok (.if_icmp .ge 7, 3) := by decide +kernel
theorem dX5_isMark_12 : decode cX5_isMark 12 = .ok (.iconst 1, 1) := by decide +kernel
theorem dX5_isMark_13 : decode cX5_isMark 13 = .ok (.goto 4, 3) := by decide +kernel
theorem dX5_isMark_16 : decode cX5_isMark 16 = .ok (.iconst 0, 1) := by decide +kernel
theorem dX5_isMark_17 : decode cX5_isMark 17 = .ok (.ireturn, 1) := by decide +kernel
theorem ggX5_knows_X5_isState : GoodIn wsX5_knows wsX5_isState := gdC (gd1 m13_23)
theorem gX5_knows_X5_isState : GoodIn wsX5_knows (wsV RX5 28 RX5 yX5_isState wsX5_isState) := gdC (gd4 m17_7 m13_21 m13_22 m1_15 m13_23)
theorem ggX5_knows_X5_isPlain : GoodIn wsX5_knows wsX5_isPlain := gdC (gd1 m17_10)
theorem gX5_knows_X5_isPlain : GoodIn wsX5_knows (va_wsS RX5 32 yX5_isPlain wsX5_isPlain) := gdC (gd3 m17_8 m17_9 m1_15 m17_10)
theorem ggX5_knows_X5_isMark : GoodIn wsX5_knows wsX5_isMark := gdC (gd1 m16_19)
theorem gX5_knows_X5_isMark : GoodIn wsX5_knows (wsV RX5 35 RX5 yX5_isMark wsX5_isMark) := gdC (gd4 m17_11 m16_17 m16_18 m1_15 m16_19)
theorem ggX5_knows_X5_closes : GoodIn wsX5_knows wsX5_closes := gdC (gd1 m14_6)
theorem gX5_knows_X5_closes : GoodIn wsX5_knows (va_wsS RX5 38 yX5_closes wsX5_closes) := gdC (gd3 m17_12 m14_5 m1_15 m14_6)
theorem dX5_knows_0 : decode cX5_knows 0 = .ok (.aload_n 0, 1) := by decide +kernel
theorem dX5_knows_1 : decode cX5_knows 1 = .ok (.iload_n 1, 1) := by decide +kernel
theorem dX5_knows_2 : decode cX5_knows 2 = .ok (.invokevirtual 28, 3) := by decide +kernel
theorem dX5_knows_5 : decode cX5_knows 5 = .ok (.ifCond .eq 22, 3) := by decide +kernel
theorem dX5_knows_8 : decode cX5_knows 8 = .ok (.aload_n 0, 1) := by decide +kernel
theorem dX5_knows_9 : decode cX5_knows 9 = .ok (.iload 4, 2) := by decide +kernel
theorem dX5_knows_11 : decode cX5_knows 11 = .ok (.invokevirtual 28, 3) := by decide +kernel
theorem dX5_knows_14 : decode cX5_knows 14 = .ok (.ifCond .eq 13, 3) := by decide +kernel
theorem dX5_knows_17 : decode cX5_knows 17 = .ok (.iload_n 2, 1) := by decide +kernel
theorem dX5_knows_18 : decode cX5_knows 18 = .ok (.ifCond .lt 9, 3) := by decide +kernel
theorem dX5_knows_21 : decode cX5_knows 21 = .ok (.iload_n 2, 1) := by decide +kernel
theorem dX5_knows_22 : decode cX5_knows 22 = .ok (.bipush 6, 2) := by decide +kernel
theorem dX5_knows_24 : decode cX5_knows 24 = .ok (.if_icmp .lt 5, 3) := by decide +kernel
theorem dX5_knows_27 : decode cX5_knows 27 = .ok (.iconst 0, 1) := by decide +kernel
theorem dX5_knows_28 : decode cX5_knows 28 = .ok (.ireturn, 1) := by decide +kernel
theorem dX5_knows_29 : decode cX5_knows 29 = .ok (.iload_n 2, 1) := by decide +kernel
theorem dX5_knows_30 : decode cX5_knows 30 = .ok (.invokestatic 32, 3) := by decide +kernel
theorem dX5_knows_33 : decode cX5_knows 33 = .ok (.ifCond .eq 13, 3) := by decide +kernel
theorem dX5_knows_36 : decode cX5_knows 36 = .ok (.iload_n 3, 1) := by decide +kernel
theorem dX5_knows_37 : decode cX5_knows 37 = .ok (.ifCond .ne 7, 3) := by decide +kernel
theorem dX5_knows_40 : decode cX5_knows 40 = .ok (.iconst 1, 1) := by decide +kernel
theorem dX5_knows_41 : decode cX5_knows 41 = .ok (.goto 4, 3) := by decide +kernel
theorem dX5_knows_44 : decode cX5_knows 44 = .ok (.iconst 0, 1) := by decide +kernel
theorem dX5_knows_45 : decode cX5_knows 45 = .ok (.ireturn, 1) := by decide +kernel
theorem dX5_knows_46 : decode cX5_knows 46 = .ok (.aload_n 0, 1) := by decide +kernel
theorem dX5_knows_47 : decode cX5_knows 47 = .ok (.iload_n 3, 1) := by decide +kernel
theorem dX5_knows_48 : decode cX5_knows 48 = .ok (.invokevirtual 35, 3) := by decide +kernel
theorem dX5_knows_51 : decode cX5_knows 51 = .ok (.ifCond .ne 15, 3) := by decide +kernel
theorem dX5_knows_54 : decode cX5_knows 54 = .ok (.iload_n 2, 1) := by decide +kernel
theorem dX5_knows_55 : decode cX5_knows 55 = .ok (.invokestatic 38, 3) := by decide +kernel
theorem dX5_knows_58 : decode cX5_knows 58 = .ok (.ifCond .eq 12, 3) := by decide +kernel
theorem dX5_knows_61 : decode cX5_knows 61 = .ok (.iload_n 3, 1) := by decide +kernel
theorem dX5_knows_62 : decode cX5_knows 62 = .ok (.iconst (-1), 1) := by decide +kernel
theorem dX5_knows_63 : decode cX5_knows 63 = .ok (.if_icmp .ne 7, 3) := by decide +kernel
theorem dX5_knows_66 : decode cX5_knows 66 = .ok (.iconst 1, 1) := by decide +kernel
theorem dX5_knows_67 : decode cX5_knows 67 = .ok (.goto 4, 3) := by decide +kernel
theorem dX5_knows_70 : decode cX5_knows 70 = .ok (.iconst 0, 1) := by decide +kernel
theorem dX5_knows_71 : decode cX5_knows 71 = .ok (.ireturn, 1) := by decide +kernel
theorem ggX5_holds_X5_way : GoodIn wsX5_holds wsX5_way := gdC (gd1 m22_0)
theorem gX5_holds_X5_way : GoodIn wsX5_holds (wsV RX5 41 RX5 yX5_way wsX5_way) := gdC (gd4 m21_21 m21_22 m21_23 m1_15 m22_0)
theorem ggX5_holds_X5_pair : GoodIn wsX5_holds wsX5_pair := gdC (gd1 m17_18)
theorem gX5_holds_X5_pair : GoodIn wsX5_holds (va_wsS RX5 45 yX5_pair wsX5_pair) := gdC (gd3 m17_16 m17_17 m1_15 m17_18)
theorem dX5_holds_0 : decode cX5_holds 0 = .ok (.aload_n 0, 1) := by decide +kernel
theorem dX5_holds_1 : decode cX5_holds 1 = .ok (.iload_n 2, 1) := by decide +kernel
theorem dX5_holds_2 : decode cX5_holds 2 = .ok (.iload_n 3, 1) := by decide +kernel
theorem dX5_holds_3 : decode cX5_holds 3 = .ok (.invokevirtual 41, 3) := by decide +kernel
theorem dX5_holds_6 : decode cX5_holds 6 = .ok (.iload_n 1, 1) := by decide +kernel
theorem dX5_holds_7 : decode cX5_holds 7 = .ok (.iload 4, 2) := by decide +kernel
theorem dX5_holds_9 : decode cX5_holds 9 = .ok (.invokestatic 45, 3) := by decide +kernel
theorem dX5_holds_12 : decode cX5_holds 12 = .ok (.iand, 1) := by decide +kernel
theorem dX5_holds_13 : decode cX5_holds 13 = .ok (.ifCond .eq 7, 3) := by decide +kernel
theorem dX5_holds_16 : decode cX5_holds 16 = .ok (.iconst 1, 1) := by decide +kernel
theorem dX5_holds_17 : decode cX5_holds 17 = .ok (.goto 4, 3) := by decide +kernel
theorem dX5_holds_20 : decode cX5_holds 20 = .ok (.iconst 0, 1) := by decide +kernel
theorem dX5_holds_21 : decode cX5_holds 21 = .ok (.ireturn, 1) := by decide +kernel
theorem ggX5_add_X5_knows : GoodIn wsX5_add wsX5_knows := gdC (gd1 m17_6)
theorem gX5_add_X5_knows : GoodIn wsX5_add (wsV RX5 48 RX5 yX5_knows wsX5_knows) := gdC (gd4 m17_3 m17_4 m17_5 m1_15 m17_6)
theorem ggX5_add_X5_slot : GoodIn wsX5_add wsX5_slot := gdC (gd1 m17_15)
theorem gX5_add_X5_slot : GoodIn wsX5_add (va_wsS RX5 52 yX5_slot wsX5_slot) := gdC (gd3 m17_13 m17_14 m1_15 m17_15)
theorem ggX5_add_X5_pair : GoodIn wsX5_add wsX5_pair := gdC (gd1 m17_18)
theorem gX5_add_X5_pair : GoodIn wsX5_add (va_wsS RX5 45 yX5_pair wsX5_pair) := gdC (gd3 m17_16 m17_17 m1_15 m17_18)
theorem dX5_add_0 : decode cX5_add 0 = .ok (.aload_n 0, 1) := by decide +kernel
theorem dX5_add_1 : decode cX5_add 1 = .ok (.iload_n 1, 1) := by decide +kernel
theorem dX5_add_2 : decode cX5_add 2 = .ok (.iload_n 2, 1) := by decide +kernel
theorem dX5_add_3 : decode cX5_add 3 = .ok (.iload_n 3, 1) := by decide +kernel
theorem dX5_add_4 : decode cX5_add 4 = .ok (.iload 4, 2) := by decide +kernel
theorem dX5_add_6 : decode cX5_add 6 = .ok (.invokevirtual 48, 3) := by decide +kernel
theorem dX5_add_9 : decode cX5_add 9 = .ok (.ifCond .eq 32, 3) := by decide +kernel
theorem dX5_add_12 : decode cX5_add 12 = .ok (.aload_n 0, 1) := by decide +kernel
theorem dX5_add_13 : decode cX5_add 13 = .ok (.getfield 11, 3) := by decide +kernel
theorem dX5_add_16 : decode cX5_add 16 = .ok (.iload_n 2, 1) := by decide +kernel
theorem dX5_add_17 : decode cX5_add 17 = .ok (.iload_n 3, 1) := by decide +kernel
theorem dX5_add_18 : decode cX5_add 18 = .ok (.invokestatic 52, 3) := by decide +kernel
theorem dX5_add_21 : decode cX5_add 21 = .ok (.dup2, 1) := by decide +kernel
theorem dX5_add_22 : decode cX5_add 22 = .ok (.iaload, 1) := by decide +kernel
theorem dX5_add_23 : decode cX5_add 23 = .ok (.iload_n 1, 1) := by decide +kernel
theorem dX5_add_24 : decode cX5_add 24 = .ok (.iload 4, 2) := by decide +kernel
theorem dX5_add_26 : decode cX5_add 26 = .ok (.invokestatic 45, 3) := by decide +kernel
theorem dX5_add_29 : decode cX5_add 29 = .ok (.ior, 1) := by decide +kernel
theorem dX5_add_30 : decode cX5_add 30 = .ok (.iastore, 1) := by decide +kernel
theorem dX5_add_31 : decode cX5_add 31 = .ok (.aload_n 0, 1) := by decide +kernel
theorem dX5_add_32 : decode cX5_add 32 = .ok (.dup, 1) := by decide +kernel
theorem dX5_add_33 : decode cX5_add 33 = .ok (.getfield 25, 3) := by decide +kernel
theorem dX5_add_36 : decode cX5_add 36 = .ok (.iconst 1, 1) := by decide +kernel
theorem dX5_add_37 : decode cX5_add 37 = .ok (.iadd, 1) := by decide +kernel
theorem dX5_add_38 : decode cX5_add 38 = .ok (.putfield 25, 3) := by decide +kernel
theorem dX5_add_41 : decode cX5_add 41 = .ok (.return_, 1) := by decide +kernel
theorem ggX5_remove_X5_knows : GoodIn wsX5_remove wsX5_knows := gdC (gd1 m17_6)
theorem gX5_remove_X5_knows : GoodIn wsX5_remove (wsV RX5 48 RX5 yX5_knows wsX5_knows) := gdC (gd4 m17_3 m17_4 m17_5 m1_15 m17_6)
theorem ggX5_remove_X5_slot : GoodIn wsX5_remove wsX5_slot := gdC (gd1 m17_15)
theorem gX5_remove_X5_slot : GoodIn wsX5_remove (va_wsS RX5 52 yX5_slot wsX5_slot) := gdC (gd3 m17_13 m17_14 m1_15 m17_15)
theorem ggX5_remove_X5_pair : GoodIn wsX5_remove wsX5_pair := gdC (gd1 m17_18)
theorem gX5_remove_X5_pair : GoodIn wsX5_remove (va_wsS RX5 45 yX5_pair wsX5_pair) := gdC (gd3 m17_16 m17_17 m1_15 m17_18)
theorem dX5_remove_0 : decode cX5_remove 0 = .ok (.aload_n 0, 1) := by decide +kernel
theorem dX5_remove_1 : decode cX5_remove 1 = .ok (.iload_n 1, 1) := by decide +kernel
theorem dX5_remove_2 : decode cX5_remove 2 = .ok (.iload_n 2, 1) := by decide +kernel
theorem dX5_remove_3 : decode cX5_remove 3 = .ok (.iload_n 3, 1) := by decide +kernel
theorem dX5_remove_4 : decode cX5_remove 4 = .ok (.iload 4, 2) := by decide +kernel
theorem dX5_remove_6 : decode cX5_remove 6 = .ok (.invokevirtual 48, 3) := by decide +kernel
theorem dX5_remove_9 : decode cX5_remove 9 = .ok (.ifCond .eq 34, 3) := by decide +kernel
theorem dX5_remove_12 : decode cX5_remove 12 = .ok (.aload_n 0, 1) := by decide +kernel
theorem dX5_remove_13 : decode cX5_remove 13 = .ok (.getfield 11, 3) := by decide +kernel
theorem dX5_remove_16 : decode cX5_remove 16 = .ok (.iload_n 2, 1) := by decide +kernel
theorem dX5_remove_17 : decode cX5_remove 17 = .ok (.iload_n 3, 1) := by decide +kernel
theorem dX5_remove_18 : decode cX5_remove 18 = .ok (.invokestatic 52, 3) := by decide +kernel
theorem dX5_remove_21 : decode cX5_remove 21 = .ok (.dup2, 1) := by decide +kernel
theorem dX5_remove_22 : decode cX5_remove 22 = .ok (.iaload, 1) := by decide +kernel
theorem dX5_remove_23 : decode cX5_remove 23 = .ok (.iload_n 1, 1) := by decide +kernel
theorem dX5_remove_24 : decode cX5_remove 24 = .ok (.iload 4, 2) := by decide +kernel
theorem dX5_remove_26 : decode cX5_remove 26 = .ok (.invokestatic 45, 3) := by decide +kernel
theorem dX5_remove_29 : decode cX5_remove 29 = .ok (.iconst (-1), 1) := by decide +kernel
theorem dX5_remove_30 : decode cX5_remove 30 = .ok (.ixor, 1) := by decide +kernel
theorem dX5_remove_31 : decode cX5_remove 31 = .ok (.iand, 1) := by decide +kernel
theorem dX5_remove_32 : decode cX5_remove 32 = .ok (.iastore, 1) := by decide +kernel
theorem dX5_remove_33 : decode cX5_remove 33 = .ok (.aload_n 0, 1) := by decide +kernel
theorem dX5_remove_34 : decode cX5_remove 34 = .ok (.dup, 1) := by decide +kernel
theorem dX5_remove_35 : decode cX5_remove 35 = .ok (.getfield 25, 3) := by decide +kernel
theorem dX5_remove_38 : decode cX5_remove 38 = .ok (.iconst 1, 1) := by decide +kernel
theorem dX5_remove_39 : decode cX5_remove 39 = .ok (.iadd, 1) := by decide +kernel
theorem dX5_remove_40 : decode cX5_remove 40 = .ok (.putfield 25, 3) := by decide +kernel
theorem dX5_remove_43 : decode cX5_remove 43 = .ok (.return_, 1) := by decide +kernel
theorem ggX5_moveCount_J6_bitCount_0f7a4 : GoodIn wsX5_moveCount wsJ6_bitCount_0f7a4 := gdC (gd1 m20_4)
theorem gX5_moveCount_J6_bitCount_0f7a4 : GoodIn wsX5_moveCount (va_wsS RX5 55 yJ6_bitCount_0f7a4 wsJ6_bitCount_0f7a4) := gdC (gd3 m20_1 m20_2 m20_3 m20_4)
theorem dX5_moveCount_0 : decode cX5_moveCount 0 = .ok (.iconst 0, 1) := by decide +kernel
theorem dX5_moveCount_1 : decode cX5_moveCount 1 = .ok (.istore_n 1, 1) := by decide +kernel
theorem dX5_moveCount_2 : decode cX5_moveCount 2 = .ok (.iconst 0, 1) := by decide +kernel
theorem dX5_moveCount_3 : decode cX5_moveCount 3 = .ok (.istore_n 2, 1) := by decide +kernel
theorem dX5_moveCount_4 : decode cX5_moveCount 4 = .ok (.iload_n 2, 1) := by decide +kernel
theorem dX5_moveCount_5 : decode cX5_moveCount 5 = .ok (.aload_n 0, 1) := by decide +kernel
theorem dX5_moveCount_6 : decode cX5_moveCount 6 = .ok (.getfield 11, 3) := by decide +kernel
theorem dX5_moveCount_9 : decode cX5_moveCount 9 = .ok (.arraylength, 1) := by decide +kernel
theorem dX5_moveCount_10 : decode cX5_moveCount 10 = .ok (.if_icmp .ge 21, 3) := by decide +kernel
theorem dX5_moveCount_13 : decode cX5_moveCount 13 = .ok (.iload_n 1, 1) := by decide +kernel
theorem dX5_moveCount_14 : decode cX5_moveCount 14 = .ok (.aload_n 0, 1) := by decide +kernel
theorem dX5_moveCount_15 : decode cX5_moveCount 15 = .ok (.getfield 11, 3) := by decide +kernel
theorem dX5_moveCount_18 : decode cX5_moveCount 18 = .ok (.iload_n 2, 1) := by decide +kernel
theorem dX5_moveCount_19 : decode cX5_moveCount 19 = .ok (.iaload, 1) := by decide +kernel
theorem dX5_moveCount_20 : decode cX5_moveCount 20 = .ok (.invokestatic 55, 3) := by decide +kernel
theorem dX5_moveCount_23 : decode cX5_moveCount 23 = .ok (.iadd, 1) := by decide +kernel
theorem dX5_moveCount_24 : decode cX5_moveCount 24 = .ok (.istore_n 1, 1) := by decide +kernel
theorem dX5_moveCount_25 : decode cX5_moveCount 25 = .ok (.iinc 2 1, 3) := by decide +kernel
theorem dX5_moveCount_28 : decode cX5_moveCount 28 = .ok (.goto (-24), 3) := by decide +kernel
theorem dX5_moveCount_31 : decode cX5_moveCount 31 = .ok (.iload_n 1, 1) := by decide +kernel
theorem dX5_moveCount_32 : decode cX5_moveCount 32 = .ok (.ireturn, 1) := by decide +kernel
theorem dX5_takesAny_0 : decode cX5_takesAny 0 = .ok (.iload_n 1, 1) := by decide +kernel
theorem dX5_takesAny_1 : decode cX5_takesAny 1 = .ok (.aload_n 0, 1) := by decide +kernel
theorem dX5_takesAny_2 : decode cX5_takesAny 2 = .ok (.getfield 22, 3) := by decide +kernel
theorem dX5_takesAny_5 : decode cX5_takesAny 5 = .ok (.iand, 1) := by decide +kernel
theorem dX5_takesAny_6 : decode cX5_takesAny 6 = .ok (.ifCond .eq 7, 3) := by decide +kernel
theorem dX5_takesAny_9 : decode cX5_takesAny 9 = .ok (.iconst 1, 1) := by decide +kernel
theorem dX5_takesAny_10 : decode cX5_takesAny 10 = .ok (.goto 4, 3) := by decide +kernel
theorem dX5_takesAny_13 : decode cX5_takesAny 13 = .ok (.iconst 0, 1) := by decide +kernel
theorem dX5_takesAny_14 : decode cX5_takesAny 14 = .ok (.ireturn, 1) := by decide +kernel
theorem dX5_way_0 : decode cX5_way 0 = .ok (.iload_n 1, 1) := by decide +kernel
theorem dX5_way_1 : decode cX5_way 1 = .ok (.iconst 3, 1) := by decide +kernel
theorem dX5_way_2 : decode cX5_way 2 = .ok (.imul, 1) := by decide +kernel
theorem dX5_way_3 : decode cX5_way 3 = .ok (.iload_n 2, 1) := by decide +kernel
theorem dX5_way_4 : decode cX5_way 4 = .ok (.iadd, 1) := by decide +kernel
theorem dX5_way_5 : decode cX5_way 5 = .ok (.iconst 1, 1) := by decide +kernel
theorem dX5_way_6 : decode cX5_way 6 = .ok (.iadd, 1) := by decide +kernel
theorem dX5_way_7 : decode cX5_way 7 = .ok (.istore_n 3, 1) := by decide +kernel
theorem dX5_way_8 : decode cX5_way 8 = .ok (.iload_n 3, 1) := by decide +kernel
theorem dX5_way_9 : decode cX5_way 9 = .ok (.ifCond .lt 21, 3) := by decide +kernel
theorem dX5_way_12 : decode cX5_way 12 = .ok (.iload_n 3, 1) := by decide +kernel
theorem dX5_way_13 : decode cX5_way 13 = .ok (.aload_n 0, 1) := by decide +kernel
theorem dX5_way_14 : decode cX5_way 14 = .ok (.getfield 11, 3) := by decide +kernel
theorem dX5_way_17 : decode cX5_way 17 = .ok (.arraylength, 1) := by decide +kernel
theorem dX5_way_18 : decode cX5_way 18 = .ok (.if_icmp .ge 12, 3) := by decide +kernel
theorem dX5_way_21 : decode cX5_way 21 = .ok (.aload_n 0, 1) := by decide +kernel
theorem dX5_way_22 : decode cX5_way 22 = .ok (.getfield 11, 3) := by decide +kernel
theorem dX5_way_25 : decode cX5_way 25 = .ok (.iload_n 3, 1) := by decide +kernel
theorem dX5_way_26 : decode cX5_way 26 = .ok (.iaload, 1) := by decide +kernel
theorem dX5_way_27 : decode cX5_way 27 = .ok (.goto 4, 3) := by decide +kernel
theorem dX5_way_30 : decode cX5_way 30 = .ok (.iconst 0, 1) := by decide +kernel
theorem dX5_way_31 : decode cX5_way 31 = .ok (.ireturn, 1) := by decide +kernel
theorem ggX5_alone_X5_closes : GoodIn wsX5_alone wsX5_closes := gdC (gd1 m14_6)
theorem gX5_alone_X5_closes : GoodIn wsX5_alone (va_wsS RX5 38 yX5_closes wsX5_closes) := gdC (gd3 m17_12 m14_5 m1_15 m14_6)
theorem ggX5_alone_X5_way : GoodIn wsX5_alone wsX5_way := gdC (gd1 m22_0)
theorem gX5_alone_X5_way : GoodIn wsX5_alone (wsV RX5 41 RX5 yX5_way wsX5_way) := gdC (gd4 m21_21 m21_22 m21_23 m1_15 m22_0)
theorem dX5_alone_0 : decode cX5_alone 0 = .ok (.iload_n 1, 1) := by decide +kernel
theorem dX5_alone_1 : decode cX5_alone 1 = .ok (.invokestatic 38, 3) := by decide +kernel
theorem dX5_alone_4 : decode cX5_alone 4 = .ok (.ifCond .eq 12, 3) := by decide +kernel
theorem dX5_alone_7 : decode cX5_alone 7 = .ok (.aload_n 0, 1) := by decide +kernel
theorem dX5_alone_8 : decode cX5_alone 8 = .ok (.iload_n 1, 1) := by decide +kernel
theorem dX5_alone_9 : decode cX5_alone 9 = .ok (.iconst (-1), 1) := by decide +kernel
theorem dX5_alone_10 : decode cX5_alone 10 = .ok (.invokevirtual 41, 3) := by decide +kernel
theorem dX5_alone_13 : decode cX5_alone 13 = .ok (.goto 16, 3) := by decide +kernel
theorem dX5_alone_16 : decode cX5_alone 16 = .ok (.aload_n 0, 1) := by decide +kernel
theorem dX5_alone_17 : decode cX5_alone 17 = .ok (.iload_n 1, 1) := by decide +kernel
theorem dX5_alone_18 : decode cX5_alone 18 = .ok (.iconst 0, 1) := by decide +kernel
theorem dX5_alone_19 : decode cX5_alone 19 = .ok (.invokevirtual 41, 3) := by decide +kernel
theorem dX5_alone_22 : decode cX5_alone 22 = .ok (.aload_n 0, 1) := by decide +kernel
theorem dX5_alone_23 : decode cX5_alone 23 = .ok (.iload_n 1, 1) := by decide +kernel
theorem dX5_alone_24 : decode cX5_alone 24 = .ok (.iconst 1, 1) := by decide +kernel
theorem dX5_alone_25 : decode cX5_alone 25 = .ok (.invokevirtual 41, 3) := by decide +kernel
theorem dX5_alone_28 : decode cX5_alone 28 = .ok (.ior, 1) := by decide +kernel
theorem dX5_alone_29 : decode cX5_alone 29 = .ok (.ireturn, 1) := by decide +kernel
theorem ggX5_identity_X5_pair : GoodIn wsX5_identity wsX5_pair := gdC (gd1 m17_18)
theorem gX5_identity_X5_pair : GoodIn wsX5_identity (va_wsS RX5 45 yX5_pair wsX5_pair) := gdC (gd3 m17_16 m17_17 m1_15 m17_18)
theorem dX5_identity_0 : decode cX5_identity 0 = .ok (.iconst 0, 1) := by decide +kernel
theorem dX5_identity_1 : decode cX5_identity 1 = .ok (.istore_n 1, 1) := by decide +kernel
theorem dX5_identity_2 : decode cX5_identity 2 = .ok (.iconst 0, 1) := by decide +kernel
theorem dX5_identity_3 : decode cX5_identity 3 = .ok (.istore_n 2, 1) := by decide +kernel
theorem dX5_identity_4 : decode cX5_identity 4 = .ok (.iload_n 2, 1) := by decide +kernel
theorem dX5_identity_5 : decode cX5_identity 5 = .ok (.aload_n 0, 1) := by decide +kernel
theorem dX5_identity_6 : decode cX5_identity 6 = .ok (.getfield 15, 3) := by decide +kernel
theorem dX5_identity_9 : decode cX5_identity 9 = .ok (.if_icmp .ge 17, 3) := by decide +kernel
theorem dX5_identity_12 : decode cX5_identity 12 = .ok (.iload_n 1, 1) := by decide +kernel
theorem dX5_identity_13 : decode cX5_identity 13 = .ok (.iload_n 2, 1) := by decide +kernel
theorem dX5_identity_14 : decode cX5_identity 14 = .ok (.iload_n 2, 1) := by decide +kernel
theorem dX5_identity_15 : decode cX5_identity 15 = .ok (.invokestatic 45, 3) := by decide +kernel
theorem dX5_identity_18 : decode cX5_identity 18 = .ok (.ior, 1) := by decide +kernel
theorem dX5_identity_19 : decode cX5_identity 19 = .ok (.istore_n 1, 1) := by decide +kernel
theorem dX5_identity_20 : decode cX5_identity 20 = .ok (.iinc 2 1, 3) := by decide +kernel
theorem dX5_identity_23 : decode cX5_identity 23 = .ok (.goto (-19), 3) := by decide +kernel
theorem dX5_identity_26 : decode cX5_identity 26 = .ok (.iload_n 1, 1) := by decide +kernel
theorem dX5_identity_27 : decode cX5_identity 27 = .ok (.ireturn, 1) := by decide +kernel
theorem ggX5_wrapped_X5_way : GoodIn wsX5_wrapped wsX5_way := gdC (gd1 m22_0)
theorem gX5_wrapped_X5_way : GoodIn wsX5_wrapped (wsV RX5 41 RX5 yX5_way wsX5_way) := gdC (gd4 m21_21 m21_22 m21_23 m1_15 m22_0)
theorem ggX5_wrapped_X5_then : GoodIn wsX5_wrapped wsX5_then := gdC (gd1 m29_6)
theorem gX5_wrapped_X5_then : GoodIn wsX5_wrapped (va_wsS RX5 61 yX5_then wsX5_then) := gdC (gd3 m29_13 m29_5 m1_15 m29_6)
theorem dX5_wrapped_0 : decode cX5_wrapped 0 = .ok (.iconst 0, 1) := by decide +kernel
theorem dX5_wrapped_1 : decode cX5_wrapped 1 = .ok (.istore 4, 2) := by decide +kernel
theorem dX5_wrapped_3 : decode cX5_wrapped 3 = .ok (.iconst 0, 1) := by decide +kernel
theorem dX5_wrapped_4 : decode cX5_wrapped 4 = .ok (.istore 5, 2) := by decide +kernel
theorem dX5_wrapped_6 : decode cX5_wrapped 6 = .ok (.iload 5, 2) := by decide +kernel
theorem dX5_wrapped_8 : decode cX5_wrapped 8 = .ok (.aload_n 0, 1) := by decide +kernel
theorem dX5_wrapped_9 : decode cX5_wrapped 9 = .ok (.getfield 19, 3) := by decide +kernel
theorem dX5_wrapped_12 : decode cX5_wrapped 12 = .ok (.if_icmp .ge 39, 3) := by decide +kernel
theorem dX5_wrapped_15 : decode cX5_wrapped 15 = .ok (.iload_n 3, 1) := by decide +kernel
theorem dX5_wrapped_16 : decode cX5_wrapped 16 = .ok (.ifCond .eq 35, 3) := by decide +kernel
theorem dX5_wrapped_19 : decode cX5_wrapped 19 = .ok (.iload 4, 2) := by decide +kernel
theorem dX5_wrapped_21 : decode cX5_wrapped 21 = .ok (.aload_n 0, 1) := by decide +kernel
theorem dX5_wrapped_22 : decode cX5_wrapped 22 = .ok (.iload_n 1, 1) := by decide +kernel
theorem dX5_wrapped_23 : decode cX5_wrapped 23 = .ok (.iload 5, 2) := by decide +kernel
theorem dX5_wrapped_25 : decode cX5_wrapped 25 = .ok (.invokevirtual 41, 3) := by decide +kernel
theorem dX5_wrapped_28 : decode cX5_wrapped 28 = .ok (.iload_n 3, 1) := by decide +kernel
theorem dX5_wrapped_29 : decode cX5_wrapped 29 = .ok (.invokestatic 61, 3) := by decide +kernel
theorem dX5_wrapped_32 : decode cX5_wrapped 32 = .ok (.aload_n 0, 1) := by decide +kernel
theorem dX5_wrapped_33 : decode cX5_wrapped 33 = .ok (.iload_n 2, 1) := by decide +kernel
theorem dX5_wrapped_34 : decode cX5_wrapped 34 = .ok (.iload 5, 2) := by decide +kernel
theorem dX5_wrapped_36 : decode cX5_wrapped 36 = .ok (.invokevirtual 41, 3) := by decide +kernel
theorem dX5_wrapped_39 : decode cX5_wrapped 39 = .ok (.invokestatic 61, 3) := by decide +kernel
theorem dX5_wrapped_42 : decode cX5_wrapped 42 = .ok (.ior, 1) := by decide +kernel
theorem dX5_wrapped_43 : decode cX5_wrapped 43 = .ok (.istore 4, 2) := by decide +kernel
theorem dX5_wrapped_45 : decode cX5_wrapped 45 = .ok (.iinc 5 1, 3) := by decide +kernel
theorem dX5_wrapped_48 : decode cX5_wrapped 48 = .ok (.goto (-42), 3) := by decide +kernel
theorem dX5_wrapped_51 : decode cX5_wrapped 51 = .ok (.iload 4, 2) := by decide +kernel
theorem dX5_wrapped_53 : decode cX5_wrapped 53 = .ok (.ireturn, 1) := by decide +kernel
theorem dX5_opens_0 : decode cX5_opens 0 = .ok (.iload_n 0, 1) := by decide +kernel
theorem dX5_opens_1 : decode cX5_opens 1 = .ok (.ifCond .eq 8, 3) := by decide +kernel
theorem dX5_opens_4 : decode cX5_opens 4 = .ok (.iload_n 0, 1) := by decide +kernel
theorem dX5_opens_5 : decode cX5_opens 5 = .ok (.iconst 1, 1) := by decide +kernel
theorem dX5_opens_6 : decode cX5_opens 6 = .ok (.if_icmp .ne 7, 3) := by decide +kernel
theorem dX5_opens_9 : decode cX5_opens 9 = .ok (.iconst 1, 1) := by decide +kernel
theorem dX5_opens_10 : decode cX5_opens 10 = .ok (.goto 4, 3) := by decide +kernel
theorem dX5_opens_13 : decode cX5_opens 13 = .ok (.iconst 0, 1) := by decide +kernel
theorem dX5_opens_14 : decode cX5_opens 14 = .ok (.ireturn, 1) := by decide +kernel
theorem dX5_isPlain_0 : decode cX5_isPlain 0 = .ok (.iload_n 0, 1) := by decide +kernel
theorem dX5_isPlain_1 : decode cX5_isPlain 1 = .ok (.iconst 2, 1) := by decide +kernel
theorem dX5_isPlain_2 : decode cX5_isPlain 2 = .ok (.if_icmp .eq 8, 3) := by decide +kernel
theorem dX5_isPlain_5 : decode cX5_isPlain 5 = .ok (.iload_n 0, 1) := by decide +kernel
theorem dX5_isPlain_6 : decode cX5_isPlain 6 = .ok (.iconst 3, 1) := by decide +kernel
theorem dX5_isPlain_7 : decode cX5_isPlain 7 = .ok (.if_icmp .ne 7, 3) := by decide +kernel
theorem dX5_isPlain_10 : decode cX5_isPlain 10 = .ok (.iconst 1, 1) := by decide +kernel
theorem dX5_isPlain_11 : decode cX5_isPlain 11 = .ok (.goto 4, 3) := by decide +kernel
theorem dX5_isPlain_14 : decode cX5_isPlain 14 = .ok (.iconst 0, 1) := by decide +kernel
theorem dX5_isPlain_15 : decode cX5_isPlain 15 = .ok (.ireturn, 1) := by decide +kernel
theorem dX5_closes_0 : decode cX5_closes 0 = .ok (.iload_n 0, 1) := by decide +kernel
theorem dX5_closes_1 : decode cX5_closes 1 = .ok (.iconst 4, 1) := by decide +kernel
theorem dX5_closes_2 : decode cX5_closes 2 = .ok (.if_icmp .eq 8, 3) := by decide +kernel
theorem dX5_closes_5 : decode cX5_closes 5 = .ok (.iload_n 0, 1) := by decide +kernel
theorem dX5_closes_6 : decode cX5_closes 6 = .ok (.iconst 5, 1) := by decide +kernel
theorem dX5_closes_7 : decode cX5_closes 7 = .ok (.if_icmp .ne 7, 3) := by decide +kernel
theorem dX5_closes_10 : decode cX5_closes 10 = .ok (.iconst 1, 1) := by decide +kernel
theorem dX5_closes_11 : decode cX5_closes 11 = .ok (.goto 4, 3) := by decide +kernel
theorem dX5_closes_14 : decode cX5_closes 14 = .ok (.iconst 0, 1) := by decide +kernel
theorem dX5_closes_15 : decode cX5_closes 15 = .ok (.ireturn, 1) := by decide +kernel
theorem dX5_pair_0 : decode cX5_pair 0 = .ok (.iconst 1, 1) := by decide +kernel
theorem dX5_pair_1 : decode cX5_pair 1 = .ok (.iconst 3, 1) := by decide +kernel
theorem dX5_pair_2 : decode cX5_pair 2 = .ok (.iload_n 0, 1) := by decide +kernel
theorem dX5_pair_3 : decode cX5_pair 3 = .ok (.imul, 1) := by decide +kernel
theorem dX5_pair_4 : decode cX5_pair 4 = .ok (.iload_n 1, 1) := by decide +kernel
theorem dX5_pair_5 : decode cX5_pair 5 = .ok (.iadd, 1) := by decide +kernel
theorem dX5_pair_6 : decode cX5_pair 6 = .ok (.ishl, 1) := by decide +kernel
theorem dX5_pair_7 : decode cX5_pair 7 = .ok (.ireturn, 1) := by decide +kernel
theorem dX5_image_0 : decode cX5_image 0 = .ok (.iconst 0, 1) := by decide +kernel
theorem dX5_image_1 : decode cX5_image 1 = .ok (.istore_n 2, 1) := by decide +kernel
theorem dX5_image_2 : decode cX5_image 2 = .ok (.iload_n 0, 1) := by decide +kernel
theorem dX5_image_3 : decode cX5_image 3 = .ok (.iconst 1, 1) := by decide +kernel
theorem dX5_image_4 : decode cX5_image 4 = .ok (.iand, 1) := by decide +kernel
theorem dX5_image_5 : decode cX5_image 5 = .ok (.ifCond .eq 10, 3) := by decide +kernel
theorem dX5_image_8 : decode cX5_image 8 = .ok (.iload_n 2, 1) := by decide +kernel
theorem dX5_image_9 : decode cX5_image 9 = .ok (.iload_n 1, 1) := by decide +kernel
theorem dX5_image_10 : decode cX5_image 10 = .ok (.bipush 7, 2) := by decide +kernel
theorem dX5_image_12 : decode cX5_image 12 = .ok (.iand, 1) := by decide +kernel
theorem dX5_image_13 : decode cX5_image 13 = .ok (.ior, 1) := by decide +kernel
theorem dX5_image_14 : decode cX5_image 14 = .ok (.istore_n 2, 1) := by decide +kernel
theorem dX5_image_15 : decode cX5_image 15 = .ok (.iload_n 0, 1) := by decide +kernel
theorem dX5_image_16 : decode cX5_image 16 = .ok (.iconst 2, 1) := by decide +kernel
theorem dX5_image_17 : decode cX5_image 17 = .ok (.iand, 1) := by decide +kernel
theorem dX5_image_18 : decode cX5_image 18 = .ok (.ifCond .eq 12, 3) := by decide +kernel
theorem dX5_image_21 : decode cX5_image 21 = .ok (.iload_n 2, 1) := by decide +kernel
theorem dX5_image_22 : decode cX5_image 22 = .ok (.iload_n 1, 1) := by decide +kernel
theorem dX5_image_23 : decode cX5_image 23 = .ok (.iconst 3, 1) := by decide +kernel
theorem dX5_image_24 : decode cX5_image 24 = .ok (.ishr, 1) := by decide +kernel
theorem dX5_image_25 : decode cX5_image 25 = .ok (.bipush 7, 2) := by decide +kernel
theorem dX5_image_27 : decode cX5_image 27 = .ok (.iand, 1) := by decide +kernel
theorem dX5_image_28 : decode cX5_image 28 = .ok (.ior, 1) := by decide +kernel
theorem dX5_image_29 : decode cX5_image 29 = .ok (.istore_n 2, 1) := by decide +kernel
theorem dX5_image_30 : decode cX5_image 30 = .ok (.iload_n 0, 1) := by decide +kernel
theorem dX5_image_31 : decode cX5_image 31 = .ok (.iconst 4, 1) := by decide +kernel
theorem dX5_image_32 : decode cX5_image 32 = .ok (.iand, 1) := by decide +kernel
theorem dX5_image_33 : decode cX5_image 33 = .ok (.ifCond .eq 13, 3) := by decide +kernel
theorem dX5_image_36 : decode cX5_image 36 = .ok (.iload_n 2, 1) := by decide +kernel
theorem dX5_image_37 : decode cX5_image 37 = .ok (.iload_n 1, 1) := by decide +kernel
theorem dX5_image_38 : decode cX5_image 38 = .ok (.bipush 6, 2) := by decide +kernel
theorem dX5_image_40 : decode cX5_image 40 = .ok (.ishr, 1) := by decide +kernel
theorem dX5_image_41 : decode cX5_image 41 = .ok (.bipush 7, 2) := by decide +kernel
theorem dX5_image_43 : decode cX5_image 43 = .ok (.iand, 1) := by decide +kernel
theorem dX5_image_44 : decode cX5_image 44 = .ok (.ior, 1) := by decide +kernel
theorem dX5_image_45 : decode cX5_image 45 = .ok (.istore_n 2, 1) := by decide +kernel
theorem dX5_image_46 : decode cX5_image 46 = .ok (.iload_n 2, 1) := by decide +kernel
theorem dX5_image_47 : decode cX5_image 47 = .ok (.ireturn, 1) := by decide +kernel
theorem ggX5_then_X5_image : GoodIn wsX5_then wsX5_image := gdC (gd1 m29_3)
theorem gX5_then_X5_image : GoodIn wsX5_then (va_wsS RX5 64 yX5_image wsX5_image) := gdC (gd3 m29_7 m29_2 m1_15 m29_3)
theorem dX5_then_0 : decode cX5_then 0 = .ok (.iload_n 0, 1) := by decide +kernel
theorem dX5_then_1 : decode cX5_then 1 = .ok (.ifCond .eq 7, 3) := by decide +kernel
theorem dX5_then_4 : decode cX5_then 4 = .ok (.iload_n 1, 1) := by decide +kernel
theorem dX5_then_5 : decode cX5_then 5 = .ok (.ifCond .ne 5, 3) := by decide +kernel
theorem dX5_then_8 : decode cX5_then 8 = .ok (.iconst 0, 1) := by decide +kernel
theorem dX5_then_9 : decode cX5_then 9 = .ok (.ireturn, 1) := by decide +kernel
theorem dX5_then_10 : decode cX5_then 10 = .ok (.iload_n 0, 1) := by decide +kernel
theorem dX5_then_11 : decode cX5_then 11 = .ok (.bipush 7, 2) := by decide +kernel
theorem dX5_then_13 : decode cX5_then 13 = .ok (.iand, 1) := by decide +kernel
theorem dX5_then_14 : decode cX5_then 14 = .ok (.iload_n 1, 1) := by decide +kernel
theorem dX5_then_15 : decode cX5_then 15 = .ok (.invokestatic 64, 3) := by decide +kernel
theorem dX5_then_18 : decode cX5_then 18 = .ok (.iload_n 0, 1) := by decide +kernel
theorem dX5_then_19 : decode cX5_then 19 = .ok (.iconst 3, 1) := by decide +kernel
theorem dX5_then_20 : decode cX5_then 20 = .ok (.ishr, 1) := by decide +kernel
theorem dX5_then_21 : decode cX5_then 21 = .ok (.bipush 7, 2) := by decide +kernel
theorem dX5_then_23 : decode cX5_then 23 = .ok (.iand, 1) := by decide +kernel
theorem dX5_then_24 : decode cX5_then 24 = .ok (.iload_n 1, 1) := by decide +kernel
theorem dX5_then_25 : decode cX5_then 25 = .ok (.invokestatic 64, 3) := by decide +kernel
theorem dX5_then_28 : decode cX5_then 28 = .ok (.iconst 3, 1) := by decide +kernel
theorem dX5_then_29 : decode cX5_then 29 = .ok (.ishl, 1) := by decide +kernel
theorem dX5_then_30 : decode cX5_then 30 = .ok (.ior, 1) := by decide +kernel
theorem dX5_then_31 : decode cX5_then 31 = .ok (.iload_n 0, 1) := by decide +kernel
theorem dX5_then_32 : decode cX5_then 32 = .ok (.bipush 6, 2) := by decide +kernel
theorem dX5_then_34 : decode cX5_then 34 = .ok (.ishr, 1) := by decide +kernel
theorem dX5_then_35 : decode cX5_then 35 = .ok (.bipush 7, 2) := by decide +kernel
theorem dX5_then_37 : decode cX5_then 37 = .ok (.iand, 1) := by decide +kernel
theorem dX5_then_38 : decode cX5_then 38 = .ok (.iload_n 1, 1) := by decide +kernel
theorem dX5_then_39 : decode cX5_then 39 = .ok (.invokestatic 64, 3) := by decide +kernel
theorem dX5_then_42 : decode cX5_then 42 = .ok (.bipush 6, 2) := by decide +kernel
theorem dX5_then_44 : decode cX5_then 44 = .ok (.ishl, 1) := by decide +kernel
theorem dX5_then_45 : decode cX5_then 45 = .ok (.ior, 1) := by decide +kernel
theorem dX5_then_46 : decode cX5_then 46 = .ok (.ireturn, 1) := by decide +kernel
theorem dX5_slot_0 : decode cX5_slot 0 = .ok (.iload_n 0, 1) := by decide +kernel
theorem dX5_slot_1 : decode cX5_slot 1 = .ok (.iconst 3, 1) := by decide +kernel
theorem dX5_slot_2 : decode cX5_slot 2 = .ok (.imul, 1) := by decide +kernel
theorem dX5_slot_3 : decode cX5_slot 3 = .ok (.iload_n 1, 1) := by decide +kernel
theorem dX5_slot_4 : decode cX5_slot 4 = .ok (.iadd, 1) := by decide +kernel
theorem dX5_slot_5 : decode cX5_slot 5 = .ok (.iconst 1, 1) := by decide +kernel
theorem dX5_slot_6 : decode cX5_slot 6 = .ok (.iadd, 1) := by decide +kernel
theorem dX5_slot_7 : decode cX5_slot 7 = .ok (.ireturn, 1) := by decide +kernel
