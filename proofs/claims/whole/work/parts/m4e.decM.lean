theorem dX7_partOf_31 : decode cX7_partOf 31 = .ok (.ireturn, 1) := by decide +kernel
set_option maxRecDepth 20000 in
theorem ggX7_parts_X7_has : GoodIn wsX7_parts wsX7_has := goodIn_r _ [5] (by decide +kernel) (by decide +kernel)
set_option maxRecDepth 20000 in
theorem gX7_parts_X7_has : GoodIn wsX7_parts (va_wsS RX7 44 yX7_has wsX7_has) := goodIn_app (goodIn_of _ (by decide +kernel)) ggX7_parts_X7_has
set_option maxRecDepth 20000 in
theorem ggX7_parts_X7_partOf : GoodIn wsX7_parts wsX7_partOf := goodIn_r _ [9, 10, 11, 12, 4, 13, 1, 14, 15, 16, 17, 2, 3, 5, 18, 19, 20, 21, 22, 23, 24, 25, 26, 27, 28, 29, 30, 31, 32, 33, 34, 35, 36, 37] (by decide +kernel) (by decide +kernel)
set_option maxRecDepth 20000 in
theorem gX7_parts_X7_partOf : GoodIn wsX7_parts (wsV RX7 232 RX7 yX7_partOf wsX7_partOf) := goodIn_app (goodIn_of _ (by decide +kernel)) ggX7_parts_X7_partOf
theorem dX7_parts_0 : decode cX7_parts 0 = .ok (.iconst 0, 1) := by decide +kernel
theorem dX7_parts_1 : decode cX7_parts 1 = .ok (.istore_n 1, 1) := by decide +kernel
theorem dX7_parts_2 : decode cX7_parts 2 = .ok (.iconst 0, 1) := by decide +kernel
theorem dX7_parts_3 : decode cX7_parts 3 = .ok (.istore_n 2, 1) := by decide +kernel
theorem dX7_parts_4 : decode cX7_parts 4 = .ok (.iconst 0, 1) := by decide +kernel
theorem dX7_parts_5 : decode cX7_parts 5 = .ok (.istore_n 3, 1) := by decide +kernel
theorem dX7_parts_6 : decode cX7_parts 6 = .ok (.iload_n 3, 1) := by decide +kernel
theorem dX7_parts_7 : decode cX7_parts 7 = .ok (.aload_n 0, 1) := by decide +kernel
theorem dX7_parts_8 : decode cX7_parts 8 = .ok (.getfield 7, 3) := by decide +kernel
theorem dX7_parts_11 : decode cX7_parts 11 = .ok (.iconst 0, 1) := by decide +kernel
theorem dX7_parts_12 : decode cX7_parts 12 = .ok (.iaload, 1) := by decide +kernel
theorem dX7_parts_13 : decode cX7_parts 13 = .ok (.if_icmp .ge 33, 3) := by decide +kernel
theorem dX7_parts_16 : decode cX7_parts 16 = .ok (.iload_n 1, 1) := by decide +kernel
theorem dX7_parts_17 : decode cX7_parts 17 = .ok (.iload_n 2, 1) := by decide +kernel
theorem dX7_parts_18 : decode cX7_parts 18 = .ok (.iload_n 3, 1) := by decide +kernel
theorem dX7_parts_19 : decode cX7_parts 19 = .ok (.invokestatic 44, 3) := by decide +kernel
theorem dX7_parts_22 : decode cX7_parts 22 = .ok (.ifCond .eq 7, 3) := by decide +kernel
theorem dX7_parts_25 : decode cX7_parts 25 = .ok (.iconst 0, 1) := by decide +kernel
theorem dX7_parts_26 : decode cX7_parts 26 = .ok (.goto 4, 3) := by decide +kernel
theorem dX7_parts_29 : decode cX7_parts 29 = .ok (.iconst 1, 1) := by decide +kernel
theorem dX7_parts_30 : decode cX7_parts 30 = .ok (.iadd, 1) := by decide +kernel
theorem dX7_parts_31 : decode cX7_parts 31 = .ok (.istore_n 1, 1) := by decide +kernel
theorem dX7_parts_32 : decode cX7_parts 32 = .ok (.iload_n 2, 1) := by decide +kernel
theorem dX7_parts_33 : decode cX7_parts 33 = .ok (.aload_n 0, 1) := by decide +kernel
theorem dX7_parts_34 : decode cX7_parts 34 = .ok (.iload_n 3, 1) := by decide +kernel
theorem dX7_parts_35 : decode cX7_parts 35 = .ok (.invokevirtual 232, 3) := by decide +kernel
theorem dX7_parts_38 : decode cX7_parts 38 = .ok (.ior, 1) := by decide +kernel
theorem dX7_parts_39 : decode cX7_parts 39 = .ok (.istore_n 2, 1) := by decide +kernel
theorem dX7_parts_40 : decode cX7_parts 40 = .ok (.iinc 3 1, 3) := by decide +kernel
theorem dX7_parts_43 : decode cX7_parts 43 = .ok (.goto (-37), 3) := by decide +kernel
theorem dX7_parts_46 : decode cX7_parts 46 = .ok (.iload_n 1, 1) := by decide +kernel
theorem dX7_parts_47 : decode cX7_parts 47 = .ok (.ireturn, 1) := by decide +kernel
set_option maxRecDepth 20000 in
theorem ggX7_bridges_X7_round : GoodIn wsX7_bridges wsX7_round := goodIn_r _ [6, 7, 8, 9, 5, 10, 1, 11, 12, 13, 14, 15, 16, 17, 18, 19, 20, 21, 22, 23, 24, 25, 26, 27, 28, 29, 30, 31, 32, 33, 34, 35, 36, 37] (by decide +kernel) (by decide +kernel)
set_option maxRecDepth 20000 in
theorem gX7_bridges_X7_round : GoodIn wsX7_bridges (wsV RX7 229 RX7 yX7_round wsX7_round) := goodIn_app (goodIn_of _ (by decide +kernel)) ggX7_bridges_X7_round
theorem dX7_bridges_0 : decode cX7_bridges 0 = .ok (.iconst 0, 1) := by decide +kernel
theorem dX7_bridges_1 : decode cX7_bridges 1 = .ok (.istore_n 1, 1) := by decide +kernel
theorem dX7_bridges_2 : decode cX7_bridges 2 = .ok (.iconst 0, 1) := by decide +kernel
theorem dX7_bridges_3 : decode cX7_bridges 3 = .ok (.istore_n 2, 1) := by decide +kernel
theorem dX7_bridges_4 : decode cX7_bridges 4 = .ok (.iload_n 2, 1) := by decide +kernel
theorem dX7_bridges_5 : decode cX7_bridges 5 = .ok (.aload_n 0, 1) := by decide +kernel
theorem dX7_bridges_6 : decode cX7_bridges 6 = .ok (.getfield 7, 3) := by decide +kernel
theorem dX7_bridges_9 : decode cX7_bridges 9 = .ok (.iconst 1, 1) := by decide +kernel
theorem dX7_bridges_10 : decode cX7_bridges 10 = .ok (.iaload, 1) := by decide +kernel
theorem dX7_bridges_11 : decode cX7_bridges 11 = .ok (.if_icmp .ge 27, 3) := by decide +kernel
theorem dX7_bridges_14 : decode cX7_bridges 14 = .ok (.iload_n 1, 1) := by decide +kernel
theorem dX7_bridges_15 : decode cX7_bridges 15 = .ok (.aload_n 0, 1) := by decide +kernel
theorem dX7_bridges_16 : decode cX7_bridges 16 = .ok (.iload_n 2, 1) := by decide +kernel
theorem dX7_bridges_17 : decode cX7_bridges 17 = .ok (.invokevirtual 229, 3) := by decide +kernel
theorem dX7_bridges_20 : decode cX7_bridges 20 = .ok (.bipush (-5), 2) := by decide +kernel
theorem dX7_bridges_22 : decode cX7_bridges 22 = .ok (.if_icmp .ne 7, 3) := by decide +kernel
theorem dX7_bridges_25 : decode cX7_bridges 25 = .ok (.iconst 1, 1) := by decide +kernel
theorem dX7_bridges_26 : decode cX7_bridges 26 = .ok (.goto 4, 3) := by decide +kernel
theorem dX7_bridges_29 : decode cX7_bridges 29 = .ok (.iconst 0, 1) := by decide +kernel
theorem dX7_bridges_30 : decode cX7_bridges 30 = .ok (.iadd, 1) := by decide +kernel
theorem dX7_bridges_31 : decode cX7_bridges 31 = .ok (.istore_n 1, 1) := by decide +kernel
theorem dX7_bridges_32 : decode cX7_bridges 32 = .ok (.iinc 2 1, 3) := by decide +kernel
theorem dX7_bridges_35 : decode cX7_bridges 35 = .ok (.goto (-31), 3) := by decide +kernel
theorem dX7_bridges_38 : decode cX7_bridges 38 = .ok (.iload_n 1, 1) := by decide +kernel
theorem dX7_bridges_39 : decode cX7_bridges 39 = .ok (.ireturn, 1) := by decide +kernel
set_option maxRecDepth 20000 in
theorem ggX7_isWrong_X7_isAt : GoodIn wsX7_isWrong wsX7_isAt := goodIn_r _ [6, 7, 8, 9, 5, 10, 1, 14, 15, 16, 17, 18, 19, 20, 21, 22, 23, 24, 25, 26, 27, 28, 29, 30, 31, 32, 33] (by decide +kernel) (by decide +kernel)
set_option maxRecDepth 20000 in
theorem gX7_isWrong_X7_isAt : GoodIn wsX7_isWrong (wsV RX7 60 RX7 yX7_isAt wsX7_isAt) := goodIn_app (goodIn_of _ (by decide +kernel)) ggX7_isWrong_X7_isAt
set_option maxRecDepth 20000 in
theorem ggX7_isWrong_X7_of : GoodIn wsX7_isWrong wsX7_of := goodIn_r _ [10, 1, 14, 15, 16, 17, 18, 19, 20, 21, 22, 23, 24, 25, 26, 27, 28, 29, 30, 31, 32, 33] (by decide +kernel) (by decide +kernel)
set_option maxRecDepth 20000 in
theorem gX7_isWrong_X7_of : GoodIn wsX7_isWrong (wsV RX7 56 RX7 yX7_of wsX7_of) := goodIn_app (goodIn_of _ (by decide +kernel)) ggX7_isWrong_X7_of
set_option maxRecDepth 20000 in
theorem ggX7_isWrong_X7_has : GoodIn wsX7_isWrong wsX7_has := goodIn_r _ [13] (by decide +kernel) (by decide +kernel)
set_option maxRecDepth 20000 in
theorem gX7_isWrong_X7_has : GoodIn wsX7_isWrong (va_wsS RX7 44 yX7_has wsX7_has) := goodIn_app (goodIn_of _ (by decide +kernel)) ggX7_isWrong_X7_has
theorem dX7_isWrong_0 : decode cX7_isWrong 0 = .ok (.iconst 0, 1) := by decide +kernel
theorem dX7_isWrong_1 : decode cX7_isWrong 1 = .ok (.istore_n 2, 1) := by decide +kernel
theorem dX7_isWrong_2 : decode cX7_isWrong 2 = .ok (.iconst 0, 1) := by decide +kernel
theorem dX7_isWrong_3 : decode cX7_isWrong 3 = .ok (.istore_n 3, 1) := by decide +kernel
theorem dX7_isWrong_4 : decode cX7_isWrong 4 = .ok (.iconst 0, 1) := by decide +kernel
theorem dX7_isWrong_5 : decode cX7_isWrong 5 = .ok (.istore 4, 2) := by decide +kernel
theorem dX7_isWrong_7 : decode cX7_isWrong 7 = .ok (.iload 4, 2) := by decide +kernel
theorem dX7_isWrong_9 : decode cX7_isWrong 9 = .ok (.aload_n 0, 1) := by decide +kernel
theorem dX7_isWrong_10 : decode cX7_isWrong 10 = .ok (.getfield 7, 3) := by decide +kernel
theorem dX7_isWrong_13 : decode cX7_isWrong 13 = .ok (.iconst 1, 1) := by decide +kernel
theorem dX7_isWrong_14 : decode cX7_isWrong 14 = .ok (.iaload, 1) := by decide +kernel
theorem dX7_isWrong_15 : decode cX7_isWrong 15 = .ok (.if_icmp .ge 66, 3) := by decide +kernel
theorem dX7_isWrong_18 : decode cX7_isWrong 18 = .ok (.aload_n 0, 1) := by decide +kernel
theorem dX7_isWrong_19 : decode cX7_isWrong 19 = .ok (.iload 4, 2) := by decide +kernel
theorem dX7_isWrong_21 : decode cX7_isWrong 21 = .ok (.iload_n 1, 1) := by decide +kernel
theorem dX7_isWrong_22 : decode cX7_isWrong 22 = .ok (.invokevirtual 60, 3) := by decide +kernel
theorem dX7_isWrong_25 : decode cX7_isWrong 25 = .ok (.ifCond .eq 50, 3) := by decide +kernel
theorem dX7_isWrong_28 : decode cX7_isWrong 28 = .ok (.aload_n 0, 1) := by decide +kernel
theorem dX7_isWrong_29 : decode cX7_isWrong 29 = .ok (.iload 4, 2) := by decide +kernel
theorem dX7_isWrong_31 : decode cX7_isWrong 31 = .ok (.iconst 2, 1) := by decide +kernel
theorem dX7_isWrong_32 : decode cX7_isWrong 32 = .ok (.invokevirtual 56, 3) := by decide +kernel
theorem dX7_isWrong_35 : decode cX7_isWrong 35 = .ok (.iconst 3, 1) := by decide +kernel
theorem dX7_isWrong_36 : decode cX7_isWrong 36 = .ok (.if_icmp .eq 39, 3) := by decide +kernel
theorem dX7_isWrong_39 : decode cX7_isWrong 39 = .ok (.iload_n 3, 1) := by decide +kernel
theorem dX7_isWrong_40 : decode cX7_isWrong 40 = .ok (.ifCond .ne 17, 3) := by decide +kernel
theorem dX7_isWrong_43 : decode cX7_isWrong 43 = .ok (.iload_n 2, 1) := by decide +kernel
theorem dX7_isWrong_44 : decode cX7_isWrong 44 = .ok (.aload_n 0, 1) := by decide +kernel
theorem dX7_isWrong_45 : decode cX7_isWrong 45 = .ok (.iload 4, 2) := by decide +kernel
theorem dX7_isWrong_47 : decode cX7_isWrong 47 = .ok (.iconst 2, 1) := by decide +kernel
theorem dX7_isWrong_48 : decode cX7_isWrong 48 = .ok (.invokevirtual 56, 3) := by decide +kernel
theorem dX7_isWrong_51 : decode cX7_isWrong 51 = .ok (.invokestatic 44, 3) := by decide +kernel
theorem dX7_isWrong_54 : decode cX7_isWrong 54 = .ok (.ifCond .eq 7, 3) := by decide +kernel
theorem dX7_isWrong_57 : decode cX7_isWrong 57 = .ok (.iconst 1, 1) := by decide +kernel
theorem dX7_isWrong_58 : decode cX7_isWrong 58 = .ok (.goto 4, 3) := by decide +kernel
theorem dX7_isWrong_61 : decode cX7_isWrong 61 = .ok (.iconst 0, 1) := by decide +kernel
theorem dX7_isWrong_62 : decode cX7_isWrong 62 = .ok (.istore_n 3, 1) := by decide +kernel
theorem dX7_isWrong_63 : decode cX7_isWrong 63 = .ok (.iload_n 2, 1) := by decide +kernel
theorem dX7_isWrong_64 : decode cX7_isWrong 64 = .ok (.iconst 1, 1) := by decide +kernel
theorem dX7_isWrong_65 : decode cX7_isWrong 65 = .ok (.aload_n 0, 1) := by decide +kernel
theorem dX7_isWrong_66 : decode cX7_isWrong 66 = .ok (.iload 4, 2) := by decide +kernel
theorem dX7_isWrong_68 : decode cX7_isWrong 68 = .ok (.iconst 2, 1) := by decide +kernel
theorem dX7_isWrong_69 : decode cX7_isWrong 69 = .ok (.invokevirtual 56, 3) := by decide +kernel
theorem dX7_isWrong_72 : decode cX7_isWrong 72 = .ok (.ishl, 1) := by decide +kernel
theorem dX7_isWrong_73 : decode cX7_isWrong 73 = .ok (.ior, 1) := by decide +kernel
theorem dX7_isWrong_74 : decode cX7_isWrong 74 = .ok (.istore_n 2, 1) := by decide +kernel
theorem dX7_isWrong_75 : decode cX7_isWrong 75 = .ok (.iinc 4 1, 3) := by decide +kernel
theorem dX7_isWrong_78 : decode cX7_isWrong 78 = .ok (.goto (-71), 3) := by decide +kernel
theorem dX7_isWrong_81 : decode cX7_isWrong 81 = .ok (.iload_n 3, 1) := by decide +kernel
theorem dX7_isWrong_82 : decode cX7_isWrong 82 = .ok (.ireturn, 1) := by decide +kernel
set_option maxRecDepth 20000 in
theorem ggX7_wrongs_X7_isWrong : GoodIn wsX7_wrongs wsX7_isWrong := goodIn_r _ [6, 1, 7, 8, 9, 5, 10, 11, 12, 13, 14, 15, 16, 17, 18, 19, 20, 21, 22, 23, 24, 25, 26, 27, 28, 29, 30, 31, 32, 33, 34, 35, 36, 37] (by decide +kernel) (by decide +kernel)
set_option maxRecDepth 20000 in
theorem gX7_wrongs_X7_isWrong : GoodIn wsX7_wrongs (wsV RX7 235 RX7 yX7_isWrong wsX7_isWrong) := goodIn_app (goodIn_of _ (by decide +kernel)) ggX7_wrongs_X7_isWrong
theorem dX7_wrongs_0 : decode cX7_wrongs 0 = .ok (.iconst 0, 1) := by decide +kernel
theorem dX7_wrongs_1 : decode cX7_wrongs 1 = .ok (.istore_n 1, 1) := by decide +kernel
theorem dX7_wrongs_2 : decode cX7_wrongs 2 = .ok (.iconst 0, 1) := by decide +kernel
theorem dX7_wrongs_3 : decode cX7_wrongs 3 = .ok (.istore_n 2, 1) := by decide +kernel
theorem dX7_wrongs_4 : decode cX7_wrongs 4 = .ok (.iload_n 2, 1) := by decide +kernel
theorem dX7_wrongs_5 : decode cX7_wrongs 5 = .ok (.aload_n 0, 1) := by decide +kernel
theorem dX7_wrongs_6 : decode cX7_wrongs 6 = .ok (.getfield 7, 3) := by decide +kernel
theorem dX7_wrongs_9 : decode cX7_wrongs 9 = .ok (.iconst 0, 1) := by decide +kernel
theorem dX7_wrongs_10 : decode cX7_wrongs 10 = .ok (.iaload, 1) := by decide +kernel
theorem dX7_wrongs_11 : decode cX7_wrongs 11 = .ok (.if_icmp .ge 25, 3) := by decide +kernel
theorem dX7_wrongs_14 : decode cX7_wrongs 14 = .ok (.iload_n 1, 1) := by decide +kernel
theorem dX7_wrongs_15 : decode cX7_wrongs 15 = .ok (.aload_n 0, 1) := by decide +kernel
theorem dX7_wrongs_16 : decode cX7_wrongs 16 = .ok (.iload_n 2, 1) := by decide +kernel
theorem dX7_wrongs_17 : decode cX7_wrongs 17 = .ok (.invokevirtual 235, 3) := by decide +kernel
theorem dX7_wrongs_20 : decode cX7_wrongs 20 = .ok (.ifCond .eq 7, 3) := by decide +kernel
theorem dX7_wrongs_23 : decode cX7_wrongs 23 = .ok (.iconst 1, 1) := by decide +kernel
theorem dX7_wrongs_24 : decode cX7_wrongs 24 = .ok (.goto 4, 3) := by decide +kernel
theorem dX7_wrongs_27 : decode cX7_wrongs 27 = .ok (.iconst 0, 1) := by decide +kernel
theorem dX7_wrongs_28 : decode cX7_wrongs 28 = .ok (.iadd, 1) := by decide +kernel
theorem dX7_wrongs_29 : decode cX7_wrongs 29 = .ok (.istore_n 1, 1) := by decide +kernel
theorem dX7_wrongs_30 : decode cX7_wrongs 30 = .ok (.iinc 2 1, 3) := by decide +kernel
theorem dX7_wrongs_33 : decode cX7_wrongs 33 = .ok (.goto (-29), 3) := by decide +kernel
theorem dX7_wrongs_36 : decode cX7_wrongs 36 = .ok (.iload_n 1, 1) := by decide +kernel
theorem dX7_wrongs_37 : decode cX7_wrongs 37 = .ok (.ireturn, 1) := by decide +kernel
theorem dX7_storesCover_0 : decode cX7_storesCover 0 = .ok (.aload_n 0, 1) := by decide +kernel
theorem dX7_storesCover_1 : decode cX7_storesCover 1 = .ok (.getfield 238, 3) := by decide +kernel
theorem dX7_storesCover_4 : decode cX7_storesCover 4 = .ok (.istore_n 2, 1) := by decide +kernel
theorem dX7_storesCover_5 : decode cX7_storesCover 5 = .ok (.iload_n 2, 1) := by decide +kernel
theorem dX7_storesCover_6 : decode cX7_storesCover 6 = .ok (.ifCond .le 35, 3) := by decide +kernel
theorem dX7_storesCover_9 : decode cX7_storesCover 9 = .ok (.aload_n 0, 1) := by decide +kernel
theorem dX7_storesCover_10 : decode cX7_storesCover 10 = .ok (.getfield 32, 3) := by decide +kernel
theorem dX7_storesCover_13 : decode cX7_storesCover 13 = .ok (.iload_n 2, 1) := by decide +kernel
theorem dX7_storesCover_14 : decode cX7_storesCover 14 = .ok (.iconst 1, 1) := by decide +kernel
theorem dX7_storesCover_15 : decode cX7_storesCover 15 = .ok (.isub, 1) := by decide +kernel
theorem dX7_storesCover_16 : decode cX7_storesCover 16 = .ok (.iaload, 1) := by decide +kernel
theorem dX7_storesCover_17 : decode cX7_storesCover 17 = .ok (.iload_n 1, 1) := by decide +kernel
theorem dX7_storesCover_18 : decode cX7_storesCover 18 = .ok (.if_icmp .le 23, 3) := by decide +kernel
theorem dX7_storesCover_21 : decode cX7_storesCover 21 = .ok (.aload_n 0, 1) := by decide +kernel
theorem dX7_storesCover_22 : decode cX7_storesCover 22 = .ok (.getfield 32, 3) := by decide +kernel
theorem dX7_storesCover_25 : decode cX7_storesCover 25 = .ok (.iload_n 2, 1) := by decide +kernel
theorem dX7_storesCover_26 : decode cX7_storesCover 26 = .ok (.aload_n 0, 1) := by decide +kernel
theorem dX7_storesCover_27 : decode cX7_storesCover 27 = .ok (.getfield 32, 3) := by decide +kernel
theorem dX7_storesCover_30 : decode cX7_storesCover 30 = .ok (.iload_n 2, 1) := by decide +kernel
theorem dX7_storesCover_31 : decode cX7_storesCover 31 = .ok (.iconst 1, 1) := by decide +kernel
theorem dX7_storesCover_32 : decode cX7_storesCover 32 = .ok (.isub, 1) := by decide +kernel
theorem dX7_storesCover_33 : decode cX7_storesCover 33 = .ok (.iaload, 1) := by decide +kernel
theorem dX7_storesCover_34 : decode cX7_storesCover 34 = .ok (.iastore, 1) := by decide +kernel
theorem dX7_storesCover_35 : decode cX7_storesCover 35 = .ok (.iinc 2 (-1), 3) := by decide +kernel
theorem dX7_storesCover_38 : decode cX7_storesCover 38 = .ok (.goto (-33), 3) := by decide +kernel
theorem dX7_storesCover_41 : decode cX7_storesCover 41 = .ok (.aload_n 0, 1) := by decide +kernel
theorem dX7_storesCover_42 : decode cX7_storesCover 42 = .ok (.getfield 32, 3) := by decide +kernel
theorem dX7_storesCover_45 : decode cX7_storesCover 45 = .ok (.iload_n 2, 1) := by decide +kernel
theorem dX7_storesCover_46 : decode cX7_storesCover 46 = .ok (.iload_n 1, 1) := by decide +kernel
theorem dX7_storesCover_47 : decode cX7_storesCover 47 = .ok (.iastore, 1) := by decide +kernel
theorem dX7_storesCover_48 : decode cX7_storesCover 48 = .ok (.aload_n 0, 1) := by decide +kernel
theorem dX7_storesCover_49 : decode cX7_storesCover 49 = .ok (.dup, 1) := by decide +kernel
theorem dX7_storesCover_50 : decode cX7_storesCover 50 = .ok (.getfield 238, 3) := by decide +kernel
theorem dX7_storesCover_53 : decode cX7_storesCover 53 = .ok (.iconst 1, 1) := by decide +kernel
theorem dX7_storesCover_54 : decode cX7_storesCover 54 = .ok (.iadd, 1) := by decide +kernel
theorem dX7_storesCover_55 : decode cX7_storesCover 55 = .ok (.putfield 238, 3) := by decide +kernel
theorem dX7_storesCover_58 : decode cX7_storesCover 58 = .ok (.return_, 1) := by decide +kernel
set_option maxRecDepth 20000 in
theorem ggX7_nextPick_X7_isAt : GoodIn wsX7_nextPick wsX7_isAt := goodIn_r _ [6, 7, 8, 9, 5, 10, 1, 18, 19, 20, 21, 22, 23, 24, 25, 26, 27, 28, 29, 30, 31, 32, 33, 34, 35, 36, 37] (by decide +kernel) (by decide +kernel)
set_option maxRecDepth 20000 in
theorem gX7_nextPick_X7_isAt : GoodIn wsX7_nextPick (wsV RX7 60 RX7 yX7_isAt wsX7_isAt) := goodIn_app (goodIn_of _ (by decide +kernel)) ggX7_nextPick_X7_isAt
set_option maxRecDepth 20000 in
theorem ggX7_nextPick_X7_across : GoodIn wsX7_nextPick wsX7_across := goodIn_r _ [14, 7, 8, 9, 5, 10, 1, 18, 19, 20, 21, 22, 23, 24, 25, 26, 27, 28, 29, 30, 31, 32, 33, 34, 35, 36, 37] (by decide +kernel) (by decide +kernel)
set_option maxRecDepth 20000 in
theorem gX7_nextPick_X7_across : GoodIn wsX7_nextPick (wsV RX7 70 RX7 yX7_across wsX7_across) := goodIn_app (goodIn_of _ (by decide +kernel)) ggX7_nextPick_X7_across
set_option maxRecDepth 20000 in
theorem ggX7_nextPick_X7_has : GoodIn wsX7_nextPick wsX7_has := goodIn_r _ [17] (by decide +kernel) (by decide +kernel)
set_option maxRecDepth 20000 in
theorem gX7_nextPick_X7_has : GoodIn wsX7_nextPick (va_wsS RX7 44 yX7_has wsX7_has) := goodIn_app (goodIn_of _ (by decide +kernel)) ggX7_nextPick_X7_has
theorem dX7_nextPick_0 : decode cX7_nextPick 0 = .ok (.iload_n 1, 1) := by decide +kernel
theorem dX7_nextPick_1 : decode cX7_nextPick 1 = .ok (.iconst 1, 1) := by decide +kernel
theorem dX7_nextPick_2 : decode cX7_nextPick 2 = .ok (.iadd, 1) := by decide +kernel
theorem dX7_nextPick_3 : decode cX7_nextPick 3 = .ok (.istore 4, 2) := by decide +kernel
theorem dX7_nextPick_5 : decode cX7_nextPick 5 = .ok (.iload 4, 2) := by decide +kernel
theorem dX7_nextPick_7 : decode cX7_nextPick 7 = .ok (.aload_n 0, 1) := by decide +kernel
theorem dX7_nextPick_8 : decode cX7_nextPick 8 = .ok (.getfield 7, 3) := by decide +kernel
theorem dX7_nextPick_11 : decode cX7_nextPick 11 = .ok (.iconst 1, 1) := by decide +kernel
theorem dX7_nextPick_12 : decode cX7_nextPick 12 = .ok (.iaload, 1) := by decide +kernel
theorem dX7_nextPick_13 : decode cX7_nextPick 13 = .ok (.if_icmp .ge 33, 3) := by decide +kernel
theorem dX7_nextPick_16 : decode cX7_nextPick 16 = .ok (.aload_n 0, 1) := by decide +kernel
theorem dX7_nextPick_17 : decode cX7_nextPick 17 = .ok (.iload 4, 2) := by decide +kernel
theorem dX7_nextPick_19 : decode cX7_nextPick 19 = .ok (.iload_n 2, 1) := by decide +kernel
theorem dX7_nextPick_20 : decode cX7_nextPick 20 = .ok (.invokevirtual 60, 3) := by decide +kernel
theorem dX7_nextPick_23 : decode cX7_nextPick 23 = .ok (.ifCond .eq 17, 3) := by decide +kernel
theorem dX7_nextPick_26 : decode cX7_nextPick 26 = .ok (.iload_n 3, 1) := by decide +kernel
theorem dX7_nextPick_27 : decode cX7_nextPick 27 = .ok (.aload_n 0, 1) := by decide +kernel
theorem dX7_nextPick_28 : decode cX7_nextPick 28 = .ok (.iload 4, 2) := by decide +kernel
theorem dX7_nextPick_30 : decode cX7_nextPick 30 = .ok (.iload_n 2, 1) := by decide +kernel
theorem dX7_nextPick_31 : decode cX7_nextPick 31 = .ok (.invokevirtual 70, 3) := by decide +kernel
theorem dX7_nextPick_34 : decode cX7_nextPick 34 = .ok (.invokestatic 44, 3) := by decide +kernel
theorem dX7_nextPick_37 : decode cX7_nextPick 37 = .ok (.ifCond .eq 9, 3) := by decide +kernel
theorem dX7_nextPick_40 : decode cX7_nextPick 40 = .ok (.iinc 4 1, 3) := by decide +kernel
theorem dX7_nextPick_43 : decode cX7_nextPick 43 = .ok (.goto (-38), 3) := by decide +kernel
theorem dX7_nextPick_46 : decode cX7_nextPick 46 = .ok (.iload 4, 2) := by decide +kernel
theorem dX7_nextPick_48 : decode cX7_nextPick 48 = .ok (.ireturn, 1) := by decide +kernel
set_option maxRecDepth 20000 in
theorem ggX7_findCovers_X7_storesCover : GoodIn wsX7_findCovers wsX7_storesCover := goodIn_r _ [10, 2, 11, 38, 39, 40, 41, 42, 43, 44, 45, 46, 47, 48, 49, 50, 51, 52, 53, 54, 55, 56, 57] (by decide +kernel) (by decide +kernel)
set_option maxRecDepth 20000 in
theorem gX7_findCovers_X7_storesCover : GoodIn wsX7_findCovers (wsV RX7 241 RX7 yX7_storesCover wsX7_storesCover) := goodIn_app (goodIn_of _ (by decide +kernel)) ggX7_findCovers_X7_storesCover
set_option maxRecDepth 20000 in
theorem ggX7_findCovers_X7_lowest : GoodIn wsX7_findCovers wsX7_lowest := goodIn_r _ [14, 15, 16, 9, 17] (by decide +kernel) (by decide +kernel)
set_option maxRecDepth 20000 in
theorem gX7_findCovers_X7_lowest : GoodIn wsX7_findCovers (va_wsS RX7 136 yX7_lowest wsX7_lowest) := goodIn_app (goodIn_of _ (by decide +kernel)) ggX7_findCovers_X7_lowest
set_option maxRecDepth 20000 in
theorem ggX7_findCovers_X7_nextPick : GoodIn wsX7_findCovers wsX7_nextPick := goodIn_r _ [21, 1, 22, 23, 24, 9, 25, 26, 27, 28, 29, 30, 31, 32, 33, 15, 16, 17, 38, 39, 40, 41, 42, 43, 44, 45, 46, 47, 48, 49, 50, 51, 52, 53, 54, 55, 56, 57] (by decide +kernel) (by decide +kernel)
set_option maxRecDepth 20000 in
theorem gX7_findCovers_X7_nextPick : GoodIn wsX7_findCovers (wsV RX7 244 RX7 yX7_nextPick wsX7_nextPick) := goodIn_app (goodIn_of _ (by decide +kernel)) ggX7_findCovers_X7_nextPick
set_option maxRecDepth 20000 in
theorem ggX7_findCovers_X7_goesDeeper : GoodIn wsX7_findCovers wsX7_goesDeeper := goodIn_r _ [37, 3, 4, 5, 26, 27, 28, 9, 29, 1, 38, 39, 40, 41, 42, 43, 44, 45, 46, 47, 48, 49, 50, 51, 52, 53, 54, 55, 56, 57] (by decide +kernel) (by decide +kernel)
set_option maxRecDepth 20000 in
theorem gX7_findCovers_X7_goesDeeper : GoodIn wsX7_findCovers (wsV RX7 248 RX7 yX7_goesDeeper wsX7_goesDeeper) := goodIn_app (goodIn_of _ (by decide +kernel)) ggX7_findCovers_X7_goesDeeper
theorem dX7_findCovers_0 : decode cX7_findCovers 0 = .ok (.iconst 1, 1) := by decide +kernel
theorem dX7_findCovers_1 : decode cX7_findCovers 1 = .ok (.aload_n 0, 1) := by decide +kernel
theorem dX7_findCovers_2 : decode cX7_findCovers 2 = .ok (.getfield 7, 3) := by decide +kernel
theorem dX7_findCovers_5 : decode cX7_findCovers 5 = .ok (.iconst 0, 1) := by decide +kernel
theorem dX7_findCovers_6 : decode cX7_findCovers 6 = .ok (.iaload, 1) := by decide +kernel
theorem dX7_findCovers_7 : decode cX7_findCovers 7 = .ok (.ishl, 1) := by decide +kernel
theorem dX7_findCovers_8 : decode cX7_findCovers 8 = .ok (.iconst 1, 1) := by decide +kernel
theorem dX7_findCovers_9 : decode cX7_findCovers 9 = .ok (.isub, 1) := by decide +kernel
theorem dX7_findCovers_10 : decode cX7_findCovers 10 = .ok (.istore_n 1, 1) := by decide +kernel
theorem dX7_findCovers_11 : decode cX7_findCovers 11 = .ok (.aload_n 0, 1) := by decide +kernel
theorem dX7_findCovers_12 : decode cX7_findCovers 12 = .ok (.iconst 0, 1) := by decide +kernel
theorem dX7_findCovers_13 : decode cX7_findCovers 13 = .ok (.putfield 238, 3) := by decide +kernel
theorem dX7_findCovers_16 : decode cX7_findCovers 16 = .ok (.iconst 0, 1) := by decide +kernel
theorem dX7_findCovers_17 : decode cX7_findCovers 17 = .ok (.istore_n 2, 1) := by decide +kernel
theorem dX7_findCovers_18 : decode cX7_findCovers 18 = .ok (.aload_n 0, 1) := by decide +kernel
theorem dX7_findCovers_19 : decode cX7_findCovers 19 = .ok (.getfield 35, 3) := by decide +kernel
theorem dX7_findCovers_22 : decode cX7_findCovers 22 = .ok (.iconst 0, 1) := by decide +kernel
theorem dX7_findCovers_23 : decode cX7_findCovers 23 = .ok (.iconst (-1), 1) := by decide +kernel
theorem dX7_findCovers_24 : decode cX7_findCovers 24 = .ok (.iastore, 1) := by decide +kernel
theorem dX7_findCovers_25 : decode cX7_findCovers 25 = .ok (.aload_n 0, 1) := by decide +kernel
theorem dX7_findCovers_26 : decode cX7_findCovers 26 = .ok (.getfield 38, 3) := by decide +kernel
theorem dX7_findCovers_29 : decode cX7_findCovers 29 = .ok (.iconst 0, 1) := by decide +kernel
theorem dX7_findCovers_30 : decode cX7_findCovers 30 = .ok (.iconst 0, 1) := by decide +kernel
theorem dX7_findCovers_31 : decode cX7_findCovers 31 = .ok (.iastore, 1) := by decide +kernel
theorem dX7_findCovers_32 : decode cX7_findCovers 32 = .ok (.aload_n 0, 1) := by decide +kernel
theorem dX7_findCovers_33 : decode cX7_findCovers 33 = .ok (.getfield 41, 3) := by decide +kernel
theorem dX7_findCovers_36 : decode cX7_findCovers 36 = .ok (.iconst 0, 1) := by decide +kernel
theorem dX7_findCovers_37 : decode cX7_findCovers 37 = .ok (.iconst 0, 1) := by decide +kernel
theorem dX7_findCovers_38 : decode cX7_findCovers 38 = .ok (.iastore, 1) := by decide +kernel
theorem dX7_findCovers_39 : decode cX7_findCovers 39 = .ok (.iload_n 2, 1) := by decide +kernel
theorem dX7_findCovers_40 : decode cX7_findCovers 40 = .ok (.ifCond .lt 98, 3) := by decide +kernel
theorem dX7_findCovers_43 : decode cX7_findCovers 43 = .ok (.aload_n 0, 1) := by decide +kernel
theorem dX7_findCovers_44 : decode cX7_findCovers 44 = .ok (.getfield 38, 3) := by decide +kernel
theorem dX7_findCovers_47 : decode cX7_findCovers 47 = .ok (.iload_n 2, 1) := by decide +kernel
theorem dX7_findCovers_48 : decode cX7_findCovers 48 = .ok (.iaload, 1) := by decide +kernel
theorem dX7_findCovers_49 : decode cX7_findCovers 49 = .ok (.iload_n 1, 1) := by decide +kernel
theorem dX7_findCovers_50 : decode cX7_findCovers 50 = .ok (.if_icmp .ne 19, 3) := by decide +kernel
theorem dX7_findCovers_53 : decode cX7_findCovers 53 = .ok (.aload_n 0, 1) := by decide +kernel
theorem dX7_findCovers_54 : decode cX7_findCovers 54 = .ok (.aload_n 0, 1) := by decide +kernel
theorem dX7_findCovers_55 : decode cX7_findCovers 55 = .ok (.getfield 41, 3) := by decide +kernel
theorem dX7_findCovers_58 : decode cX7_findCovers 58 = .ok (.iload_n 2, 1) := by decide +kernel
theorem dX7_findCovers_59 : decode cX7_findCovers 59 = .ok (.iaload, 1) := by decide +kernel
theorem dX7_findCovers_60 : decode cX7_findCovers 60 = .ok (.invokevirtual 241, 3) := by decide +kernel
theorem dX7_findCovers_63 : decode cX7_findCovers 63 = .ok (.iinc 2 (-1), 3) := by decide +kernel
theorem dX7_findCovers_66 : decode cX7_findCovers 66 = .ok (.goto (-27), 3) := by decide +kernel
theorem dX7_findCovers_69 : decode cX7_findCovers 69 = .ok (.iload_n 1, 1) := by decide +kernel
theorem dX7_findCovers_70 : decode cX7_findCovers 70 = .ok (.aload_n 0, 1) := by decide +kernel
theorem dX7_findCovers_71 : decode cX7_findCovers 71 = .ok (.getfield 38, 3) := by decide +kernel
theorem dX7_findCovers_74 : decode cX7_findCovers 74 = .ok (.iload_n 2, 1) := by decide +kernel
theorem dX7_findCovers_75 : decode cX7_findCovers 75 = .ok (.iaload, 1) := by decide +kernel
theorem dX7_findCovers_76 : decode cX7_findCovers 76 = .ok (.iconst (-1), 1) := by decide +kernel
theorem dX7_findCovers_77 : decode cX7_findCovers 77 = .ok (.ixor, 1) := by decide +kernel
theorem dX7_findCovers_78 : decode cX7_findCovers 78 = .ok (.iand, 1) := by decide +kernel
theorem dX7_findCovers_79 : decode cX7_findCovers 79 = .ok (.invokestatic 136, 3) := by decide +kernel
theorem dX7_findCovers_82 : decode cX7_findCovers 82 = .ok (.istore_n 3, 1) := by decide +kernel
theorem dX7_findCovers_83 : decode cX7_findCovers 83 = .ok (.aload_n 0, 1) := by decide +kernel
theorem dX7_findCovers_84 : decode cX7_findCovers 84 = .ok (.aload_n 0, 1) := by decide +kernel
theorem dX7_findCovers_85 : decode cX7_findCovers 85 = .ok (.getfield 35, 3) := by decide +kernel
theorem dX7_findCovers_88 : decode cX7_findCovers 88 = .ok (.iload_n 2, 1) := by decide +kernel
theorem dX7_findCovers_89 : decode cX7_findCovers 89 = .ok (.iaload, 1) := by decide +kernel
theorem dX7_findCovers_90 : decode cX7_findCovers 90 = .ok (.iload_n 3, 1) := by decide +kernel
theorem dX7_findCovers_91 : decode cX7_findCovers 91 = .ok (.aload_n 0, 1) := by decide +kernel
theorem dX7_findCovers_92 : decode cX7_findCovers 92 = .ok (.getfield 38, 3) := by decide +kernel
theorem dX7_findCovers_95 : decode cX7_findCovers 95 = .ok (.iload_n 2, 1) := by decide +kernel
theorem dX7_findCovers_96 : decode cX7_findCovers 96 = .ok (.iaload, 1) := by decide +kernel
theorem dX7_findCovers_97 : decode cX7_findCovers 97 = .ok (.invokevirtual 244, 3) := by decide +kernel
theorem dX7_findCovers_100 : decode cX7_findCovers 100 = .ok (.istore 4, 2) := by decide +kernel
theorem dX7_findCovers_102 : decode cX7_findCovers 102 = .ok (.aload_n 0, 1) := by decide +kernel
theorem dX7_findCovers_103 : decode cX7_findCovers 103 = .ok (.getfield 35, 3) := by decide +kernel
theorem dX7_findCovers_106 : decode cX7_findCovers 106 = .ok (.iload_n 2, 1) := by decide +kernel
theorem dX7_findCovers_107 : decode cX7_findCovers 107 = .ok (.iload 4, 2) := by decide +kernel
theorem dX7_findCovers_109 : decode cX7_findCovers 109 = .ok (.iastore, 1) := by decide +kernel
theorem dX7_findCovers_110 : decode cX7_findCovers 110 = .ok (.iload 4, 2) := by decide +kernel
theorem dX7_findCovers_112 : decode cX7_findCovers 112 = .ok (.aload_n 0, 1) := by decide +kernel
theorem dX7_findCovers_113 : decode cX7_findCovers 113 = .ok (.getfield 7, 3) := by decide +kernel
theorem dX7_findCovers_116 : decode cX7_findCovers 116 = .ok (.iconst 1, 1) := by decide +kernel
theorem dX7_findCovers_117 : decode cX7_findCovers 117 = .ok (.iaload, 1) := by decide +kernel
theorem dX7_findCovers_118 : decode cX7_findCovers 118 = .ok (.if_icmp .ge 13, 3) := by decide +kernel
theorem dX7_findCovers_121 : decode cX7_findCovers 121 = .ok (.aload_n 0, 1) := by decide +kernel
theorem dX7_findCovers_122 : decode cX7_findCovers 122 = .ok (.iload_n 2, 1) := by decide +kernel
theorem dX7_findCovers_123 : decode cX7_findCovers 123 = .ok (.iload 4, 2) := by decide +kernel
theorem dX7_findCovers_125 : decode cX7_findCovers 125 = .ok (.invokevirtual 248, 3) := by decide +kernel
theorem dX7_findCovers_128 : decode cX7_findCovers 128 = .ok (.goto 6, 3) := by decide +kernel
theorem dX7_findCovers_131 : decode cX7_findCovers 131 = .ok (.iload_n 2, 1) := by decide +kernel
theorem dX7_findCovers_132 : decode cX7_findCovers 132 = .ok (.iconst 1, 1) := by decide +kernel
theorem dX7_findCovers_133 : decode cX7_findCovers 133 = .ok (.isub, 1) := by decide +kernel
theorem dX7_findCovers_134 : decode cX7_findCovers 134 = .ok (.istore_n 2, 1) := by decide +kernel
theorem dX7_findCovers_135 : decode cX7_findCovers 135 = .ok (.goto (-96), 3) := by decide +kernel
theorem dX7_findCovers_138 : decode cX7_findCovers 138 = .ok (.return_, 1) := by decide +kernel
set_option maxRecDepth 20000 in
theorem ggX7_goesDeeper_X7_of : GoodIn wsX7_goesDeeper wsX7_of := goodIn_r _ [8, 9, 10, 11, 12, 13, 14, 15, 16, 17, 18, 19, 20, 21, 22, 23, 24, 25, 26, 27, 28, 29] (by decide +kernel) (by decide +kernel)
set_option maxRecDepth 20000 in
theorem gX7_goesDeeper_X7_of : GoodIn wsX7_goesDeeper (wsV RX7 56 RX7 yX7_of wsX7_of) := goodIn_app (goodIn_of _ (by decide +kernel)) ggX7_goesDeeper_X7_of
theorem dX7_goesDeeper_0 : decode cX7_goesDeeper 0 = .ok (.aload_n 0, 1) := by decide +kernel
theorem dX7_goesDeeper_1 : decode cX7_goesDeeper 1 = .ok (.getfield 35, 3) := by decide +kernel
theorem dX7_goesDeeper_4 : decode cX7_goesDeeper 4 = .ok (.iload_n 1, 1) := by decide +kernel
theorem dX7_goesDeeper_5 : decode cX7_goesDeeper 5 = .ok (.iconst 1, 1) := by decide +kernel
theorem dX7_goesDeeper_6 : decode cX7_goesDeeper 6 = .ok (.iadd, 1) := by decide +kernel
theorem dX7_goesDeeper_7 : decode cX7_goesDeeper 7 = .ok (.iconst (-1), 1) := by decide +kernel
theorem dX7_goesDeeper_8 : decode cX7_goesDeeper 8 = .ok (.iastore, 1) := by decide +kernel
theorem dX7_goesDeeper_9 : decode cX7_goesDeeper 9 = .ok (.aload_n 0, 1) := by decide +kernel
theorem dX7_goesDeeper_10 : decode cX7_goesDeeper 10 = .ok (.getfield 38, 3) := by decide +kernel
theorem dX7_goesDeeper_13 : decode cX7_goesDeeper 13 = .ok (.iload_n 1, 1) := by decide +kernel
theorem dX7_goesDeeper_14 : decode cX7_goesDeeper 14 = .ok (.iconst 1, 1) := by decide +kernel
theorem dX7_goesDeeper_15 : decode cX7_goesDeeper 15 = .ok (.iadd, 1) := by decide +kernel
theorem dX7_goesDeeper_16 : decode cX7_goesDeeper 16 = .ok (.aload_n 0, 1) := by decide +kernel
theorem dX7_goesDeeper_17 : decode cX7_goesDeeper 17 = .ok (.getfield 38, 3) := by decide +kernel
theorem dX7_goesDeeper_20 : decode cX7_goesDeeper 20 = .ok (.iload_n 1, 1) := by decide +kernel
theorem dX7_goesDeeper_21 : decode cX7_goesDeeper 21 = .ok (.iaload, 1) := by decide +kernel
theorem dX7_goesDeeper_22 : decode cX7_goesDeeper 22 = .ok (.iconst 1, 1) := by decide +kernel
theorem dX7_goesDeeper_23 : decode cX7_goesDeeper 23 = .ok (.aload_n 0, 1) := by decide +kernel
theorem dX7_goesDeeper_24 : decode cX7_goesDeeper 24 = .ok (.iload_n 2, 1) := by decide +kernel
theorem dX7_goesDeeper_25 : decode cX7_goesDeeper 25 = .ok (.iconst 0, 1) := by decide +kernel
theorem dX7_goesDeeper_26 : decode cX7_goesDeeper 26 = .ok (.invokevirtual 56, 3) := by decide +kernel
theorem dX7_goesDeeper_29 : decode cX7_goesDeeper 29 = .ok (.ishl, 1) := by decide +kernel
theorem dX7_goesDeeper_30 : decode cX7_goesDeeper 30 = .ok (.ior, 1) := by decide +kernel
theorem dX7_goesDeeper_31 : decode cX7_goesDeeper 31 = .ok (.iconst 1, 1) := by decide +kernel
theorem dX7_goesDeeper_32 : decode cX7_goesDeeper 32 = .ok (.aload_n 0, 1) := by decide +kernel
theorem dX7_goesDeeper_33 : decode cX7_goesDeeper 33 = .ok (.iload_n 2, 1) := by decide +kernel
theorem dX7_goesDeeper_34 : decode cX7_goesDeeper 34 = .ok (.iconst 1, 1) := by decide +kernel
theorem dX7_goesDeeper_35 : decode cX7_goesDeeper 35 = .ok (.invokevirtual 56, 3) := by decide +kernel
theorem dX7_goesDeeper_38 : decode cX7_goesDeeper 38 = .ok (.ishl, 1) := by decide +kernel
theorem dX7_goesDeeper_39 : decode cX7_goesDeeper 39 = .ok (.ior, 1) := by decide +kernel
theorem dX7_goesDeeper_40 : decode cX7_goesDeeper 40 = .ok (.iastore, 1) := by decide +kernel
theorem dX7_goesDeeper_41 : decode cX7_goesDeeper 41 = .ok (.aload_n 0, 1) := by decide +kernel
theorem dX7_goesDeeper_42 : decode cX7_goesDeeper 42 = .ok (.getfield 41, 3) := by decide +kernel
theorem dX7_goesDeeper_45 : decode cX7_goesDeeper 45 = .ok (.iload_n 1, 1) := by decide +kernel
theorem dX7_goesDeeper_46 : decode cX7_goesDeeper 46 = .ok (.iconst 1, 1) := by decide +kernel
theorem dX7_goesDeeper_47 : decode cX7_goesDeeper 47 = .ok (.iadd, 1) := by decide +kernel
theorem dX7_goesDeeper_48 : decode cX7_goesDeeper 48 = .ok (.aload_n 0, 1) := by decide +kernel
theorem dX7_goesDeeper_49 : decode cX7_goesDeeper 49 = .ok (.getfield 41, 3) := by decide +kernel
theorem dX7_goesDeeper_52 : decode cX7_goesDeeper 52 = .ok (.iload_n 1, 1) := by decide +kernel
theorem dX7_goesDeeper_53 : decode cX7_goesDeeper 53 = .ok (.iaload, 1) := by decide +kernel
theorem dX7_goesDeeper_54 : decode cX7_goesDeeper 54 = .ok (.iconst 1, 1) := by decide +kernel
theorem dX7_goesDeeper_55 : decode cX7_goesDeeper 55 = .ok (.iload_n 2, 1) := by decide +kernel
theorem dX7_goesDeeper_56 : decode cX7_goesDeeper 56 = .ok (.ishl, 1) := by decide +kernel
theorem dX7_goesDeeper_57 : decode cX7_goesDeeper 57 = .ok (.ior, 1) := by decide +kernel
theorem dX7_goesDeeper_58 : decode cX7_goesDeeper 58 = .ok (.iastore, 1) := by decide +kernel
theorem dX7_goesDeeper_59 : decode cX7_goesDeeper 59 = .ok (.iload_n 1, 1) := by decide +kernel
theorem dX7_goesDeeper_60 : decode cX7_goesDeeper 60 = .ok (.iconst 1, 1) := by decide +kernel
theorem dX7_goesDeeper_61 : decode cX7_goesDeeper 61 = .ok (.iadd, 1) := by decide +kernel
theorem dX7_goesDeeper_62 : decode cX7_goesDeeper 62 = .ok (.ireturn, 1) := by decide +kernel
set_option maxRecDepth 20000 in
theorem ggX7_coversWith_X7_findCovers : GoodIn wsX7_coversWith wsX7_findCovers := goodIn_r _ [7, 8, 1, 9, 10, 11, 12, 13, 14, 6, 15, 2, 16, 17, 18, 19, 20, 21, 22, 23, 24, 25, 26, 27, 28, 29, 30, 31, 32, 33, 34, 35, 36, 37, 38, 39, 40, 41, 42, 43, 44, 45, 46, 47, 48, 49, 50, 51, 52, 53, 54, 55, 56, 57, 58, 59, 60, 61] (by decide +kernel) (by decide +kernel)
set_option maxRecDepth 20000 in
theorem gX7_coversWith_X7_findCovers : GoodIn wsX7_coversWith (wsV RX7 251 RX7 yX7_findCovers wsX7_findCovers) := goodIn_app (goodIn_of _ (by decide +kernel)) ggX7_coversWith_X7_findCovers
set_option maxRecDepth 20000 in
theorem ggX7_coversWith_X7_has : GoodIn wsX7_coversWith wsX7_has := goodIn_r _ [21] (by decide +kernel) (by decide +kernel)
set_option maxRecDepth 20000 in
theorem gX7_coversWith_X7_has : GoodIn wsX7_coversWith (va_wsS RX7 44 yX7_has wsX7_has) := goodIn_app (goodIn_of _ (by decide +kernel)) ggX7_coversWith_X7_has
theorem dX7_coversWith_0 : decode cX7_coversWith 0 = .ok (.aload_n 0, 1) := by decide +kernel
theorem dX7_coversWith_1 : decode cX7_coversWith 1 = .ok (.invokevirtual 251, 3) := by decide +kernel
theorem dX7_coversWith_4 : decode cX7_coversWith 4 = .ok (.iconst 0, 1) := by decide +kernel
theorem dX7_coversWith_5 : decode cX7_coversWith 5 = .ok (.istore_n 2, 1) := by decide +kernel
theorem dX7_coversWith_6 : decode cX7_coversWith 6 = .ok (.iconst 0, 1) := by decide +kernel
theorem dX7_coversWith_7 : decode cX7_coversWith 7 = .ok (.istore_n 3, 1) := by decide +kernel
theorem dX7_coversWith_8 : decode cX7_coversWith 8 = .ok (.iload_n 3, 1) := by decide +kernel
theorem dX7_coversWith_9 : decode cX7_coversWith 9 = .ok (.aload_n 0, 1) := by decide +kernel
theorem dX7_coversWith_10 : decode cX7_coversWith 10 = .ok (.getfield 238, 3) := by decide +kernel
theorem dX7_coversWith_13 : decode cX7_coversWith 13 = .ok (.if_icmp .ge 30, 3) := by decide +kernel
theorem dX7_coversWith_16 : decode cX7_coversWith 16 = .ok (.iload_n 2, 1) := by decide +kernel
theorem dX7_coversWith_17 : decode cX7_coversWith 17 = .ok (.aload_n 0, 1) := by decide +kernel
theorem dX7_coversWith_18 : decode cX7_coversWith 18 = .ok (.getfield 32, 3) := by decide +kernel
theorem dX7_coversWith_21 : decode cX7_coversWith 21 = .ok (.iload_n 3, 1) := by decide +kernel
theorem dX7_coversWith_22 : decode cX7_coversWith 22 = .ok (.iaload, 1) := by decide +kernel
theorem dX7_coversWith_23 : decode cX7_coversWith 23 = .ok (.iload_n 1, 1) := by decide +kernel
theorem dX7_coversWith_24 : decode cX7_coversWith 24 = .ok (.invokestatic 44, 3) := by decide +kernel
theorem dX7_coversWith_27 : decode cX7_coversWith 27 = .ok (.ifCond .eq 7, 3) := by decide +kernel
theorem dX7_coversWith_30 : decode cX7_coversWith 30 = .ok (.iconst 1, 1) := by decide +kernel
theorem dX7_coversWith_31 : decode cX7_coversWith 31 = .ok (.goto 4, 3) := by decide +kernel
theorem dX7_coversWith_34 : decode cX7_coversWith 34 = .ok (.iconst 0, 1) := by decide +kernel
theorem dX7_coversWith_35 : decode cX7_coversWith 35 = .ok (.iadd, 1) := by decide +kernel
theorem dX7_coversWith_36 : decode cX7_coversWith 36 = .ok (.istore_n 2, 1) := by decide +kernel
theorem dX7_coversWith_37 : decode cX7_coversWith 37 = .ok (.iinc 3 1, 3) := by decide +kernel
theorem dX7_coversWith_40 : decode cX7_coversWith 40 = .ok (.goto (-32), 3) := by decide +kernel
theorem dX7_coversWith_43 : decode cX7_coversWith 43 = .ok (.iload_n 2, 1) := by decide +kernel
theorem dX7_coversWith_44 : decode cX7_coversWith 44 = .ok (.ireturn, 1) := by decide +kernel
set_option maxRecDepth 20000 in
theorem ggX7_cover_X7_findCovers : GoodIn wsX7_cover wsX7_findCovers := goodIn_r _ [7, 8, 1, 9, 10, 11, 12, 13, 14, 6, 15, 2, 16, 17, 18, 19, 20, 21, 22, 23, 24, 25, 26, 27, 28, 29, 30, 31, 32, 33, 34, 35, 36, 37, 38, 39, 40, 41, 42, 43, 44, 45, 46, 47, 48, 49, 50, 51, 52, 53, 54, 55, 56, 57, 58, 59, 60, 61] (by decide +kernel) (by decide +kernel)
set_option maxRecDepth 20000 in
theorem gX7_cover_X7_findCovers : GoodIn wsX7_cover (wsV RX7 251 RX7 yX7_findCovers wsX7_findCovers) := goodIn_app (goodIn_of _ (by decide +kernel)) ggX7_cover_X7_findCovers
theorem dX7_cover_0 : decode cX7_cover 0 = .ok (.iload_n 1, 1) := by decide +kernel
theorem dX7_cover_1 : decode cX7_cover 1 = .ok (.ifCond .ge 6, 3) := by decide +kernel
theorem dX7_cover_4 : decode cX7_cover 4 = .ok (.bipush (-2), 2) := by decide +kernel
theorem dX7_cover_6 : decode cX7_cover 6 = .ok (.ireturn, 1) := by decide +kernel
theorem dX7_cover_7 : decode cX7_cover 7 = .ok (.aload_n 0, 1) := by decide +kernel
theorem dX7_cover_8 : decode cX7_cover 8 = .ok (.invokevirtual 251, 3) := by decide +kernel
theorem dX7_cover_11 : decode cX7_cover 11 = .ok (.iload_n 1, 1) := by decide +kernel
theorem dX7_cover_12 : decode cX7_cover 12 = .ok (.aload_n 0, 1) := by decide +kernel
theorem dX7_cover_13 : decode cX7_cover 13 = .ok (.getfield 238, 3) := by decide +kernel
theorem dX7_cover_16 : decode cX7_cover 16 = .ok (.if_icmp .ge 12, 3) := by decide +kernel
theorem dX7_cover_19 : decode cX7_cover 19 = .ok (.aload_n 0, 1) := by decide +kernel
theorem dX7_cover_20 : decode cX7_cover 20 = .ok (.getfield 32, 3) := by decide +kernel
theorem dX7_cover_23 : decode cX7_cover 23 = .ok (.iload_n 1, 1) := by decide +kernel
theorem dX7_cover_24 : decode cX7_cover 24 = .ok (.iaload, 1) := by decide +kernel
theorem dX7_cover_25 : decode cX7_cover 25 = .ok (.goto 5, 3) := by decide +kernel
theorem dX7_cover_28 : decode cX7_cover 28 = .ok (.bipush (-5), 2) := by decide +kernel
theorem dX7_cover_30 : decode cX7_cover 30 = .ok (.ireturn, 1) := by decide +kernel
set_option maxRecDepth 20000 in
theorem ggX7_circleOf_X7_has : GoodIn wsX7_circleOf wsX7_has := goodIn_r _ [5] (by decide +kernel) (by decide +kernel)
set_option maxRecDepth 20000 in
theorem gX7_circleOf_X7_has : GoodIn wsX7_circleOf (va_wsS RX7 44 yX7_has wsX7_has) := goodIn_app (goodIn_of _ (by decide +kernel)) ggX7_circleOf_X7_has
set_option maxRecDepth 20000 in
theorem ggX7_circleOf_X7_of : GoodIn wsX7_circleOf wsX7_of := goodIn_r _ [9, 1, 10, 11, 12, 13, 14, 15, 16, 17, 18, 19, 20, 21, 22, 23, 24, 25, 26, 27, 28, 29] (by decide +kernel) (by decide +kernel)
set_option maxRecDepth 20000 in
theorem gX7_circleOf_X7_of : GoodIn wsX7_circleOf (wsV RX7 56 RX7 yX7_of wsX7_of) := goodIn_app (goodIn_of _ (by decide +kernel)) ggX7_circleOf_X7_of
theorem dX7_circleOf_0 : decode cX7_circleOf 0 = .ok (.iconst 0, 1) := by decide +kernel
theorem dX7_circleOf_1 : decode cX7_circleOf 1 = .ok (.istore_n 3, 1) := by decide +kernel
theorem dX7_circleOf_2 : decode cX7_circleOf 2 = .ok (.iconst 1, 1) := by decide +kernel
theorem dX7_circleOf_3 : decode cX7_circleOf 3 = .ok (.iload_n 1, 1) := by decide +kernel
theorem dX7_circleOf_4 : decode cX7_circleOf 4 = .ok (.ishl, 1) := by decide +kernel
theorem dX7_circleOf_5 : decode cX7_circleOf 5 = .ok (.istore 4, 2) := by decide +kernel
theorem dX7_circleOf_7 : decode cX7_circleOf 7 = .ok (.iload 4, 2) := by decide +kernel
theorem dX7_circleOf_9 : decode cX7_circleOf 9 = .ok (.iload_n 3, 1) := by decide +kernel
theorem dX7_circleOf_10 : decode cX7_circleOf 10 = .ok (.if_icmp .eq 108, 3) := by decide +kernel
theorem dX7_circleOf_13 : decode cX7_circleOf 13 = .ok (.iload 4, 2) := by decide +kernel
theorem dX7_circleOf_15 : decode cX7_circleOf 15 = .ok (.istore_n 3, 1) := by decide +kernel
theorem dX7_circleOf_16 : decode cX7_circleOf 16 = .ok (.iconst 0, 1) := by decide +kernel
theorem dX7_circleOf_17 : decode cX7_circleOf 17 = .ok (.istore 5, 2) := by decide +kernel
theorem dX7_circleOf_19 : decode cX7_circleOf 19 = .ok (.iload 5, 2) := by decide +kernel
theorem dX7_circleOf_21 : decode cX7_circleOf 21 = .ok (.aload_n 0, 1) := by decide +kernel
theorem dX7_circleOf_22 : decode cX7_circleOf 22 = .ok (.getfield 7, 3) := by decide +kernel
theorem dX7_circleOf_25 : decode cX7_circleOf 25 = .ok (.iconst 1, 1) := by decide +kernel
theorem dX7_circleOf_26 : decode cX7_circleOf 26 = .ok (.iaload, 1) := by decide +kernel
theorem dX7_circleOf_27 : decode cX7_circleOf 27 = .ok (.if_icmp .ge 88, 3) := by decide +kernel
theorem dX7_circleOf_30 : decode cX7_circleOf 30 = .ok (.iload_n 2, 1) := by decide +kernel
theorem dX7_circleOf_31 : decode cX7_circleOf 31 = .ok (.iload 5, 2) := by decide +kernel
theorem dX7_circleOf_33 : decode cX7_circleOf 33 = .ok (.invokestatic 44, 3) := by decide +kernel
theorem dX7_circleOf_36 : decode cX7_circleOf 36 = .ok (.ifCond .ne 37, 3) := by decide +kernel
theorem dX7_circleOf_39 : decode cX7_circleOf 39 = .ok (.iload 4, 2) := by decide +kernel
theorem dX7_circleOf_41 : decode cX7_circleOf 41 = .ok (.aload_n 0, 1) := by decide +kernel
theorem dX7_circleOf_42 : decode cX7_circleOf 42 = .ok (.iload 5, 2) := by decide +kernel
theorem dX7_circleOf_44 : decode cX7_circleOf 44 = .ok (.iconst 0, 1) := by decide +kernel
theorem dX7_circleOf_45 : decode cX7_circleOf 45 = .ok (.invokevirtual 56, 3) := by decide +kernel
theorem dX7_circleOf_48 : decode cX7_circleOf 48 = .ok (.invokestatic 44, 3) := by decide +kernel
theorem dX7_circleOf_51 : decode cX7_circleOf 51 = .ok (.ifCond .ne 18, 3) := by decide +kernel
theorem dX7_circleOf_54 : decode cX7_circleOf 54 = .ok (.iload 4, 2) := by decide +kernel
theorem dX7_circleOf_56 : decode cX7_circleOf 56 = .ok (.aload_n 0, 1) := by decide +kernel
theorem dX7_circleOf_57 : decode cX7_circleOf 57 = .ok (.iload 5, 2) := by decide +kernel
theorem dX7_circleOf_59 : decode cX7_circleOf 59 = .ok (.iconst 1, 1) := by decide +kernel
theorem dX7_circleOf_60 : decode cX7_circleOf 60 = .ok (.invokevirtual 56, 3) := by decide +kernel
theorem dX7_circleOf_63 : decode cX7_circleOf 63 = .ok (.invokestatic 44, 3) := by decide +kernel
theorem dX7_circleOf_66 : decode cX7_circleOf 66 = .ok (.ifCond .eq 7, 3) := by decide +kernel
theorem dX7_circleOf_69 : decode cX7_circleOf 69 = .ok (.iconst 1, 1) := by decide +kernel
theorem dX7_circleOf_70 : decode cX7_circleOf 70 = .ok (.goto 4, 3) := by decide +kernel
theorem dX7_circleOf_73 : decode cX7_circleOf 73 = .ok (.iconst 0, 1) := by decide +kernel
theorem dX7_circleOf_74 : decode cX7_circleOf 74 = .ok (.istore 6, 2) := by decide +kernel
theorem dX7_circleOf_76 : decode cX7_circleOf 76 = .ok (.iload 4, 2) := by decide +kernel
theorem dX7_circleOf_78 : decode cX7_circleOf 78 = .ok (.iload 6, 2) := by decide +kernel
theorem dX7_circleOf_80 : decode cX7_circleOf 80 = .ok (.ifCond .eq 25, 3) := by decide +kernel
theorem dX7_circleOf_83 : decode cX7_circleOf 83 = .ok (.iconst 1, 1) := by decide +kernel
theorem dX7_circleOf_84 : decode cX7_circleOf 84 = .ok (.aload_n 0, 1) := by decide +kernel
theorem dX7_circleOf_85 : decode cX7_circleOf 85 = .ok (.iload 5, 2) := by decide +kernel
theorem dX7_circleOf_87 : decode cX7_circleOf 87 = .ok (.iconst 0, 1) := by decide +kernel
theorem dX7_circleOf_88 : decode cX7_circleOf 88 = .ok (.invokevirtual 56, 3) := by decide +kernel
theorem dX7_circleOf_91 : decode cX7_circleOf 91 = .ok (.ishl, 1) := by decide +kernel
theorem dX7_circleOf_92 : decode cX7_circleOf 92 = .ok (.iconst 1, 1) := by decide +kernel
theorem dX7_circleOf_93 : decode cX7_circleOf 93 = .ok (.aload_n 0, 1) := by decide +kernel
theorem dX7_circleOf_94 : decode cX7_circleOf 94 = .ok (.iload 5, 2) := by decide +kernel
theorem dX7_circleOf_96 : decode cX7_circleOf 96 = .ok (.iconst 1, 1) := by decide +kernel
theorem dX7_circleOf_97 : decode cX7_circleOf 97 = .ok (.invokevirtual 56, 3) := by decide +kernel
theorem dX7_circleOf_100 : decode cX7_circleOf 100 = .ok (.ishl, 1) := by decide +kernel
theorem dX7_circleOf_101 : decode cX7_circleOf 101 = .ok (.ior, 1) := by decide +kernel
theorem dX7_circleOf_102 : decode cX7_circleOf 102 = .ok (.goto 4, 3) := by decide +kernel
theorem dX7_circleOf_105 : decode cX7_circleOf 105 = .ok (.iconst 0, 1) := by decide +kernel
theorem dX7_circleOf_106 : decode cX7_circleOf 106 = .ok (.ior, 1) := by decide +kernel
theorem dX7_circleOf_107 : decode cX7_circleOf 107 = .ok (.istore 4, 2) := by decide +kernel
theorem dX7_circleOf_109 : decode cX7_circleOf 109 = .ok (.iinc 5 1, 3) := by decide +kernel
theorem dX7_circleOf_112 : decode cX7_circleOf 112 = .ok (.goto (-93), 3) := by decide +kernel
theorem dX7_circleOf_115 : decode cX7_circleOf 115 = .ok (.goto (-108), 3) := by decide +kernel
theorem dX7_circleOf_118 : decode cX7_circleOf 118 = .ok (.iload_n 3, 1) := by decide +kernel
theorem dX7_circleOf_119 : decode cX7_circleOf 119 = .ok (.ireturn, 1) := by decide +kernel
set_option maxRecDepth 20000 in
theorem ggX7_findCircles_X7_has : GoodIn wsX7_findCircles wsX7_has := goodIn_r _ [8] (by decide +kernel) (by decide +kernel)
set_option maxRecDepth 20000 in
theorem gX7_findCircles_X7_has : GoodIn wsX7_findCircles (va_wsS RX7 44 yX7_has wsX7_has) := goodIn_app (goodIn_of _ (by decide +kernel)) ggX7_findCircles_X7_has
set_option maxRecDepth 20000 in
theorem ggX7_findCircles_X7_circleOf : GoodIn wsX7_findCircles wsX7_circleOf := goodIn_r _ [12, 4, 5, 6, 7, 8, 13, 14, 15, 16, 20, 21, 22, 23, 24, 25, 26, 27, 28, 29, 30, 31, 32, 33, 34, 35, 36, 37, 38, 39] (by decide +kernel) (by decide +kernel)
set_option maxRecDepth 20000 in
theorem gX7_findCircles_X7_circleOf : GoodIn wsX7_findCircles (wsV RX7 263 RX7 yX7_circleOf wsX7_circleOf) := goodIn_app (goodIn_of _ (by decide +kernel)) ggX7_findCircles_X7_circleOf
set_option maxRecDepth 20000 in
theorem ggX7_findCircles_X7_ones : GoodIn wsX7_findCircles wsX7_ones := goodIn_r _ [19] (by decide +kernel) (by decide +kernel)
set_option maxRecDepth 20000 in
theorem gX7_findCircles_X7_ones : GoodIn wsX7_findCircles (va_wsS RX7 67 yX7_ones wsX7_ones) := goodIn_app (goodIn_of _ (by decide +kernel)) ggX7_findCircles_X7_ones
theorem dX7_findCircles_0 : decode cX7_findCircles 0 = .ok (.aload_n 0, 1) := by decide +kernel
theorem dX7_findCircles_1 : decode cX7_findCircles 1 = .ok (.iconst 0, 1) := by decide +kernel
theorem dX7_findCircles_2 : decode cX7_findCircles 2 = .ok (.putfield 254, 3) := by decide +kernel
theorem dX7_findCircles_5 : decode cX7_findCircles 5 = .ok (.aload_n 0, 1) := by decide +kernel
theorem dX7_findCircles_6 : decode cX7_findCircles 6 = .ok (.iconst 0, 1) := by decide +kernel
theorem dX7_findCircles_7 : decode cX7_findCircles 7 = .ok (.putfield 257, 3) := by decide +kernel
theorem dX7_findCircles_10 : decode cX7_findCircles 10 = .ok (.aload_n 0, 1) := by decide +kernel
theorem dX7_findCircles_11 : decode cX7_findCircles 11 = .ok (.iconst 0, 1) := by decide +kernel
theorem dX7_findCircles_12 : decode cX7_findCircles 12 = .ok (.putfield 260, 3) := by decide +kernel
theorem dX7_findCircles_15 : decode cX7_findCircles 15 = .ok (.iconst 0, 1) := by decide +kernel
theorem dX7_findCircles_16 : decode cX7_findCircles 16 = .ok (.istore_n 2, 1) := by decide +kernel
theorem dX7_findCircles_17 : decode cX7_findCircles 17 = .ok (.iconst 0, 1) := by decide +kernel
theorem dX7_findCircles_18 : decode cX7_findCircles 18 = .ok (.istore_n 3, 1) := by decide +kernel
theorem dX7_findCircles_19 : decode cX7_findCircles 19 = .ok (.iload_n 3, 1) := by decide +kernel
theorem dX7_findCircles_20 : decode cX7_findCircles 20 = .ok (.aload_n 0, 1) := by decide +kernel
theorem dX7_findCircles_21 : decode cX7_findCircles 21 = .ok (.getfield 7, 3) := by decide +kernel
theorem dX7_findCircles_24 : decode cX7_findCircles 24 = .ok (.iconst 0, 1) := by decide +kernel
theorem dX7_findCircles_25 : decode cX7_findCircles 25 = .ok (.iaload, 1) := by decide +kernel
theorem dX7_findCircles_26 : decode cX7_findCircles 26 = .ok (.if_icmp .ge 84, 3) := by decide +kernel
theorem dX7_findCircles_29 : decode cX7_findCircles 29 = .ok (.iload_n 2, 1) := by decide +kernel
theorem dX7_findCircles_30 : decode cX7_findCircles 30 = .ok (.iload_n 3, 1) := by decide +kernel
theorem dX7_findCircles_31 : decode cX7_findCircles 31 = .ok (.invokestatic 44, 3) := by decide +kernel
theorem dX7_findCircles_34 : decode cX7_findCircles 34 = .ok (.ifCond .ne 70, 3) := by decide +kernel
theorem dX7_findCircles_37 : decode cX7_findCircles 37 = .ok (.aload_n 0, 1) := by decide +kernel
theorem dX7_findCircles_38 : decode cX7_findCircles 38 = .ok (.iload_n 3, 1) := by decide +kernel
theorem dX7_findCircles_39 : decode cX7_findCircles 39 = .ok (.iload_n 1, 1) := by decide +kernel
theorem dX7_findCircles_40 : decode cX7_findCircles 40 = .ok (.invokevirtual 263, 3) := by decide +kernel
theorem dX7_findCircles_43 : decode cX7_findCircles 43 = .ok (.istore 4, 2) := by decide +kernel
theorem dX7_findCircles_45 : decode cX7_findCircles 45 = .ok (.iload_n 2, 1) := by decide +kernel
theorem dX7_findCircles_46 : decode cX7_findCircles 46 = .ok (.iload 4, 2) := by decide +kernel
theorem dX7_findCircles_48 : decode cX7_findCircles 48 = .ok (.ior, 1) := by decide +kernel
theorem dX7_findCircles_49 : decode cX7_findCircles 49 = .ok (.istore_n 2, 1) := by decide +kernel
theorem dX7_findCircles_50 : decode cX7_findCircles 50 = .ok (.aload_n 0, 1) := by decide +kernel
theorem dX7_findCircles_51 : decode cX7_findCircles 51 = .ok (.dup, 1) := by decide +kernel
theorem dX7_findCircles_52 : decode cX7_findCircles 52 = .ok (.getfield 254, 3) := by decide +kernel
theorem dX7_findCircles_55 : decode cX7_findCircles 55 = .ok (.iconst 1, 1) := by decide +kernel
theorem dX7_findCircles_56 : decode cX7_findCircles 56 = .ok (.iadd, 1) := by decide +kernel
theorem dX7_findCircles_57 : decode cX7_findCircles 57 = .ok (.putfield 254, 3) := by decide +kernel
theorem dX7_findCircles_60 : decode cX7_findCircles 60 = .ok (.aload_n 0, 1) := by decide +kernel
theorem dX7_findCircles_61 : decode cX7_findCircles 61 = .ok (.dup, 1) := by decide +kernel
theorem dX7_findCircles_62 : decode cX7_findCircles 62 = .ok (.getfield 257, 3) := by decide +kernel
theorem dX7_findCircles_65 : decode cX7_findCircles 65 = .ok (.iload 4, 2) := by decide +kernel
theorem dX7_findCircles_67 : decode cX7_findCircles 67 = .ok (.invokestatic 67, 3) := by decide +kernel
theorem dX7_findCircles_70 : decode cX7_findCircles 70 = .ok (.iconst 2, 1) := by decide +kernel
theorem dX7_findCircles_71 : decode cX7_findCircles 71 = .ok (.irem, 1) := by decide +kernel
theorem dX7_findCircles_72 : decode cX7_findCircles 72 = .ok (.iadd, 1) := by decide +kernel
theorem dX7_findCircles_73 : decode cX7_findCircles 73 = .ok (.putfield 257, 3) := by decide +kernel
theorem dX7_findCircles_76 : decode cX7_findCircles 76 = .ok (.aload_n 0, 1) := by decide +kernel
theorem dX7_findCircles_77 : decode cX7_findCircles 77 = .ok (.iload 4, 2) := by decide +kernel
theorem dX7_findCircles_79 : decode cX7_findCircles 79 = .ok (.invokestatic 67, 3) := by decide +kernel
theorem dX7_findCircles_82 : decode cX7_findCircles 82 = .ok (.aload_n 0, 1) := by decide +kernel
theorem dX7_findCircles_83 : decode cX7_findCircles 83 = .ok (.getfield 260, 3) := by decide +kernel
theorem dX7_findCircles_86 : decode cX7_findCircles 86 = .ok (.if_icmp .le 11, 3) := by decide +kernel
theorem dX7_findCircles_89 : decode cX7_findCircles 89 = .ok (.iload 4, 2) := by decide +kernel
theorem dX7_findCircles_91 : decode cX7_findCircles 91 = .ok (.invokestatic 67, 3) := by decide +kernel
theorem dX7_findCircles_94 : decode cX7_findCircles 94 = .ok (.goto 7, 3) := by decide +kernel
theorem dX7_findCircles_97 : decode cX7_findCircles 97 = .ok (.aload_n 0, 1) := by decide +kernel
theorem dX7_findCircles_98 : decode cX7_findCircles 98 = .ok (.getfield 260, 3) := by decide +kernel
theorem dX7_findCircles_101 : decode cX7_findCircles 101 = .ok (.putfield 260, 3) := by decide +kernel
theorem dX7_findCircles_104 : decode cX7_findCircles 104 = .ok (.iinc 3 1, 3) := by decide +kernel
theorem dX7_findCircles_107 : decode cX7_findCircles 107 = .ok (.goto (-88), 3) := by decide +kernel
theorem dX7_findCircles_110 : decode cX7_findCircles 110 = .ok (.return_, 1) := by decide +kernel
set_option maxRecDepth 20000 in
theorem ggX7_circles_X7_isFullNet : GoodIn wsX7_circles wsX7_isFullNet := goodIn_r _ [10, 11, 12, 13, 14, 9, 15, 16, 17, 18, 19, 20, 21, 22, 23, 24, 25, 26, 27, 28, 29, 30, 71, 72, 73, 74, 75, 76, 77, 78, 79, 80, 81, 82, 83, 84, 85, 86, 87, 88, 89, 90] (by decide +kernel) (by decide +kernel)
set_option maxRecDepth 20000 in
theorem gX7_circles_X7_isFullNet : GoodIn wsX7_circles (wsV RX7 266 RX7 yX7_isFullNet wsX7_isFullNet) := goodIn_app (goodIn_of _ (by decide +kernel)) ggX7_circles_X7_isFullNet
set_option maxRecDepth 20000 in
theorem ggX7_circles_X7_in : GoodIn wsX7_circles wsX7_in := goodIn_r _ [33] (by decide +kernel) (by decide +kernel)
set_option maxRecDepth 20000 in
theorem gX7_circles_X7_in : GoodIn wsX7_circles (va_wsS RX7 52 yX7_in wsX7_in) := goodIn_app (goodIn_of _ (by decide +kernel)) ggX7_circles_X7_in
set_option maxRecDepth 20000 in
theorem ggX7_circles_X7_findCovers : GoodIn wsX7_circles wsX7_findCovers := goodIn_r _ [37, 11, 1, 38, 39, 40, 41, 42, 43, 9, 44, 2, 45, 46, 47, 48, 49, 50, 51, 52, 53, 54, 20, 21, 22, 23, 24, 25, 26, 27, 55, 56, 57, 58, 59, 60, 61, 62, 71, 72, 73, 74, 75, 76, 77, 78, 79, 80, 81, 82, 83, 84, 85, 86, 87, 88, 89, 90] (by decide +kernel) (by decide +kernel)
set_option maxRecDepth 20000 in
theorem gX7_circles_X7_findCovers : GoodIn wsX7_circles (wsV RX7 251 RX7 yX7_findCovers wsX7_findCovers) := goodIn_app (goodIn_of _ (by decide +kernel)) ggX7_circles_X7_findCovers
set_option maxRecDepth 20000 in
theorem ggX7_circles_X7_findCircles : GoodIn wsX7_circles wsX7_findCircles := goodIn_r _ [66, 3, 4, 5, 11, 48, 49, 9, 50, 67, 68, 69, 70, 24, 25, 26, 27, 28, 29, 30, 71, 72, 73, 74, 75, 76, 77, 78, 79, 80, 81, 82, 83, 84, 85, 86, 87, 88, 89, 90] (by decide +kernel) (by decide +kernel)
set_option maxRecDepth 20000 in
theorem gX7_circles_X7_findCircles : GoodIn wsX7_circles (wsV RX7 269 RX7 yX7_findCircles wsX7_findCircles) := goodIn_app (goodIn_of _ (by decide +kernel)) ggX7_circles_X7_findCircles
theorem dX7_circles_0 : decode cX7_circles 0 = .ok (.aload_n 0, 1) := by decide +kernel
theorem dX7_circles_1 : decode cX7_circles 1 = .ok (.invokevirtual 266, 3) := by decide +kernel
theorem dX7_circles_4 : decode cX7_circles 4 = .ok (.ifCond .ne 6, 3) := by decide +kernel
theorem dX7_circles_7 : decode cX7_circles 7 = .ok (.bipush (-4), 2) := by decide +kernel
theorem dX7_circles_9 : decode cX7_circles 9 = .ok (.ireturn, 1) := by decide +kernel
theorem dX7_circles_10 : decode cX7_circles 10 = .ok (.iload_n 1, 1) := by decide +kernel
theorem dX7_circles_11 : decode cX7_circles 11 = .ok (.ifCond .lt 12, 3) := by decide +kernel
theorem dX7_circles_14 : decode cX7_circles 14 = .ok (.iload_n 2, 1) := by decide +kernel
theorem dX7_circles_15 : decode cX7_circles 15 = .ok (.iconst 0, 1) := by decide +kernel
theorem dX7_circles_16 : decode cX7_circles 16 = .ok (.iconst 2, 1) := by decide +kernel
theorem dX7_circles_17 : decode cX7_circles 17 = .ok (.invokestatic 52, 3) := by decide +kernel
theorem dX7_circles_20 : decode cX7_circles 20 = .ok (.ifCond .ne 6, 3) := by decide +kernel
theorem dX7_circles_23 : decode cX7_circles 23 = .ok (.bipush (-2), 2) := by decide +kernel
theorem dX7_circles_25 : decode cX7_circles 25 = .ok (.ireturn, 1) := by decide +kernel
theorem dX7_circles_26 : decode cX7_circles 26 = .ok (.aload_n 0, 1) := by decide +kernel
theorem dX7_circles_27 : decode cX7_circles 27 = .ok (.invokevirtual 251, 3) := by decide +kernel
theorem dX7_circles_30 : decode cX7_circles 30 = .ok (.iload_n 1, 1) := by decide +kernel
theorem dX7_circles_31 : decode cX7_circles 31 = .ok (.aload_n 0, 1) := by decide +kernel
theorem dX7_circles_32 : decode cX7_circles 32 = .ok (.getfield 238, 3) := by decide +kernel
theorem dX7_circles_35 : decode cX7_circles 35 = .ok (.if_icmp .lt 6, 3) := by decide +kernel
theorem dX7_circles_38 : decode cX7_circles 38 = .ok (.bipush (-5), 2) := by decide +kernel
theorem dX7_circles_40 : decode cX7_circles 40 = .ok (.ireturn, 1) := by decide +kernel
theorem dX7_circles_41 : decode cX7_circles 41 = .ok (.aload_n 0, 1) := by decide +kernel
theorem dX7_circles_42 : decode cX7_circles 42 = .ok (.aload_n 0, 1) := by decide +kernel
theorem dX7_circles_43 : decode cX7_circles 43 = .ok (.getfield 32, 3) := by decide +kernel
theorem dX7_circles_46 : decode cX7_circles 46 = .ok (.iload_n 1, 1) := by decide +kernel
theorem dX7_circles_47 : decode cX7_circles 47 = .ok (.iaload, 1) := by decide +kernel
theorem dX7_circles_48 : decode cX7_circles 48 = .ok (.invokevirtual 269, 3) := by decide +kernel
theorem dX7_circles_51 : decode cX7_circles 51 = .ok (.iload_n 2, 1) := by decide +kernel
theorem dX7_circles_52 : decode cX7_circles 52 = .ok (.ifCond .ne 10, 3) := by decide +kernel
theorem dX7_circles_55 : decode cX7_circles 55 = .ok (.aload_n 0, 1) := by decide +kernel
theorem dX7_circles_56 : decode cX7_circles 56 = .ok (.getfield 254, 3) := by decide +kernel
theorem dX7_circles_59 : decode cX7_circles 59 = .ok (.goto 19, 3) := by decide +kernel
theorem dX7_circles_62 : decode cX7_circles 62 = .ok (.iload_n 2, 1) := by decide +kernel
theorem dX7_circles_63 : decode cX7_circles 63 = .ok (.iconst 1, 1) := by decide +kernel
theorem dX7_circles_64 : decode cX7_circles 64 = .ok (.if_icmp .ne 10, 3) := by decide +kernel
theorem dX7_circles_67 : decode cX7_circles 67 = .ok (.aload_n 0, 1) := by decide +kernel
theorem dX7_circles_68 : decode cX7_circles 68 = .ok (.getfield 257, 3) := by decide +kernel
theorem dX7_circles_71 : decode cX7_circles 71 = .ok (.goto 7, 3) := by decide +kernel
theorem dX7_circles_74 : decode cX7_circles 74 = .ok (.aload_n 0, 1) := by decide +kernel
theorem dX7_circles_75 : decode cX7_circles 75 = .ok (.getfield 260, 3) := by decide +kernel
theorem dX7_circles_78 : decode cX7_circles 78 = .ok (.ireturn, 1) := by decide +kernel
set_option maxRecDepth 20000 in
theorem ggX7_fewestOdd_X7_isFullNet : GoodIn wsX7_fewestOdd wsX7_isFullNet := goodIn_r _ [8, 9, 10, 11, 12, 7, 13, 14, 15, 16, 17, 18, 19, 20, 21, 22, 23, 24, 25, 26, 27, 28, 68, 69, 70, 71, 72, 73, 74, 75, 76, 77, 78, 79, 80, 81, 82, 83, 84, 85, 86, 87] (by decide +kernel) (by decide +kernel)
set_option maxRecDepth 20000 in
theorem gX7_fewestOdd_X7_isFullNet : GoodIn wsX7_fewestOdd (wsV RX7 266 RX7 yX7_isFullNet wsX7_isFullNet) := goodIn_app (goodIn_of _ (by decide +kernel)) ggX7_fewestOdd_X7_isFullNet
set_option maxRecDepth 20000 in
theorem ggX7_fewestOdd_X7_findCovers : GoodIn wsX7_fewestOdd wsX7_findCovers := goodIn_r _ [32, 9, 1, 33, 34, 35, 36, 37, 38, 7, 39, 2, 40, 41, 42, 43, 44, 45, 46, 47, 48, 49, 18, 19, 20, 21, 22, 23, 24, 25, 50, 51, 52, 53, 54, 55, 56, 57, 68, 69, 70, 71, 72, 73, 74, 75, 76, 77, 78, 79, 80, 81, 82, 83, 84, 85, 86, 87] (by decide +kernel) (by decide +kernel)
set_option maxRecDepth 20000 in
theorem gX7_fewestOdd_X7_findCovers : GoodIn wsX7_fewestOdd (wsV RX7 251 RX7 yX7_findCovers wsX7_findCovers) := goodIn_app (goodIn_of _ (by decide +kernel)) ggX7_fewestOdd_X7_findCovers
set_option maxRecDepth 20000 in
theorem ggX7_fewestOdd_X7_findCircles : GoodIn wsX7_fewestOdd wsX7_findCircles := goodIn_r _ [61, 62, 3, 63, 9, 43, 44, 7, 45, 64, 65, 66, 67, 22, 23, 24, 25, 26, 27, 28, 68, 69, 70, 71, 72, 73, 74, 75, 76, 77, 78, 79, 80, 81, 82, 83, 84, 85, 86, 87] (by decide +kernel) (by decide +kernel)
set_option maxRecDepth 20000 in
theorem gX7_fewestOdd_X7_findCircles : GoodIn wsX7_fewestOdd (wsV RX7 269 RX7 yX7_findCircles wsX7_findCircles) := goodIn_app (goodIn_of _ (by decide +kernel)) ggX7_fewestOdd_X7_findCircles
theorem dX7_fewestOdd_0 : decode cX7_fewestOdd 0 = .ok (.aload_n 0, 1) := by decide +kernel
theorem dX7_fewestOdd_1 : decode cX7_fewestOdd 1 = .ok (.invokevirtual 266, 3) := by decide +kernel
theorem dX7_fewestOdd_4 : decode cX7_fewestOdd 4 = .ok (.ifCond .ne 6, 3) := by decide +kernel
theorem dX7_fewestOdd_7 : decode cX7_fewestOdd 7 = .ok (.bipush (-4), 2) := by decide +kernel
theorem dX7_fewestOdd_9 : decode cX7_fewestOdd 9 = .ok (.ireturn, 1) := by decide +kernel
theorem dX7_fewestOdd_10 : decode cX7_fewestOdd 10 = .ok (.aload_n 0, 1) := by decide +kernel
theorem dX7_fewestOdd_11 : decode cX7_fewestOdd 11 = .ok (.invokevirtual 251, 3) := by decide +kernel
theorem dX7_fewestOdd_14 : decode cX7_fewestOdd 14 = .ok (.bipush (-5), 2) := by decide +kernel
theorem dX7_fewestOdd_16 : decode cX7_fewestOdd 16 = .ok (.istore_n 1, 1) := by decide +kernel
theorem dX7_fewestOdd_17 : decode cX7_fewestOdd 17 = .ok (.iconst 0, 1) := by decide +kernel
theorem dX7_fewestOdd_18 : decode cX7_fewestOdd 18 = .ok (.istore_n 2, 1) := by decide +kernel
theorem dX7_fewestOdd_19 : decode cX7_fewestOdd 19 = .ok (.iload_n 2, 1) := by decide +kernel
theorem dX7_fewestOdd_20 : decode cX7_fewestOdd 20 = .ok (.aload_n 0, 1) := by decide +kernel
theorem dX7_fewestOdd_21 : decode cX7_fewestOdd 21 = .ok (.getfield 238, 3) := by decide +kernel
theorem dX7_fewestOdd_24 : decode cX7_fewestOdd 24 = .ok (.if_icmp .ge 40, 3) := by decide +kernel
