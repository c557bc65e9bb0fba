theorem dX7_init_0 : decode cX7_init 0 = .ok (.aload_n 0, 1) := by decide +kernel
theorem dX7_init_1 : decode cX7_init 1 = .ok (.invokespecial 1, 3) := by decide +kernel
theorem dX7_init_4 : decode cX7_init 4 = .ok (.aload_n 0, 1) := by decide +kernel
theorem dX7_init_5 : decode cX7_init 5 = .ok (.bipush 65, 2) := by decide +kernel
theorem dX7_init_7 : decode cX7_init 7 = .ok (.newarray .int, 2) := by decide +kernel
theorem dX7_init_9 : decode cX7_init 9 = .ok (.putfield 7, 3) := by decide +kernel
theorem dX7_init_12 : decode cX7_init 12 = .ok (.aload_n 0, 1) := by decide +kernel
theorem dX7_init_13 : decode cX7_init 13 = .ok (.sipush 260, 3) := by decide +kernel
theorem dX7_init_16 : decode cX7_init 16 = .ok (.newarray .int, 2) := by decide +kernel
theorem dX7_init_18 : decode cX7_init 18 = .ok (.putfield 13, 3) := by decide +kernel
theorem dX7_init_21 : decode cX7_init 21 = .ok (.aload_n 0, 1) := by decide +kernel
theorem dX7_init_22 : decode cX7_init 22 = .ok (.bipush 65, 2) := by decide +kernel
theorem dX7_init_24 : decode cX7_init 24 = .ok (.newarray .int, 2) := by decide +kernel
theorem dX7_init_26 : decode cX7_init 26 = .ok (.putfield 16, 3) := by decide +kernel
theorem dX7_init_29 : decode cX7_init 29 = .ok (.aload_n 0, 1) := by decide +kernel
theorem dX7_init_30 : decode cX7_init 30 = .ok (.bipush 60, 2) := by decide +kernel
theorem dX7_init_32 : decode cX7_init 32 = .ok (.newarray .char, 2) := by decide +kernel
theorem dX7_init_34 : decode cX7_init 34 = .ok (.putfield 19, 3) := by decide +kernel
theorem dX7_init_37 : decode cX7_init 37 = .ok (.aload_n 0, 1) := by decide +kernel
theorem dX7_init_38 : decode cX7_init 38 = .ok (.bipush 22, 2) := by decide +kernel
theorem dX7_init_40 : decode cX7_init 40 = .ok (.newarray .int, 2) := by decide +kernel
theorem dX7_init_42 : decode cX7_init 42 = .ok (.putfield 23, 3) := by decide +kernel
theorem dX7_init_45 : decode cX7_init 45 = .ok (.aload_n 0, 1) := by decide +kernel
theorem dX7_init_46 : decode cX7_init 46 = .ok (.bipush 21, 2) := by decide +kernel
theorem dX7_init_48 : decode cX7_init 48 = .ok (.newarray .int, 2) := by decide +kernel
theorem dX7_init_50 : decode cX7_init 50 = .ok (.putfield 26, 3) := by decide +kernel
theorem dX7_init_53 : decode cX7_init 53 = .ok (.aload_n 0, 1) := by decide +kernel
theorem dX7_init_54 : decode cX7_init 54 = .ok (.bipush 32, 2) := by decide +kernel
theorem dX7_init_56 : decode cX7_init 56 = .ok (.newarray .int, 2) := by decide +kernel
theorem dX7_init_58 : decode cX7_init 58 = .ok (.putfield 29, 3) := by decide +kernel
theorem dX7_init_61 : decode cX7_init 61 = .ok (.aload_n 0, 1) := by decide +kernel
theorem dX7_init_62 : decode cX7_init 62 = .ok (.sipush 256, 3) := by decide +kernel
theorem dX7_init_65 : decode cX7_init 65 = .ok (.newarray .int, 2) := by decide +kernel
theorem dX7_init_67 : decode cX7_init 67 = .ok (.putfield 32, 3) := by decide +kernel
theorem dX7_init_70 : decode cX7_init 70 = .ok (.aload_n 0, 1) := by decide +kernel
theorem dX7_init_71 : decode cX7_init 71 = .ok (.bipush 8, 2) := by decide +kernel
theorem dX7_init_73 : decode cX7_init 73 = .ok (.newarray .int, 2) := by decide +kernel
theorem dX7_init_75 : decode cX7_init 75 = .ok (.putfield 35, 3) := by decide +kernel
theorem dX7_init_78 : decode cX7_init 78 = .ok (.aload_n 0, 1) := by decide +kernel
theorem dX7_init_79 : decode cX7_init 79 = .ok (.bipush 8, 2) := by decide +kernel
theorem dX7_init_81 : decode cX7_init 81 = .ok (.newarray .int, 2) := by decide +kernel
theorem dX7_init_83 : decode cX7_init 83 = .ok (.putfield 38, 3) := by decide +kernel
theorem dX7_init_86 : decode cX7_init 86 = .ok (.aload_n 0, 1) := by decide +kernel
theorem dX7_init_87 : decode cX7_init 87 = .ok (.bipush 8, 2) := by decide +kernel
theorem dX7_init_89 : decode cX7_init 89 = .ok (.newarray .int, 2) := by decide +kernel
theorem dX7_init_91 : decode cX7_init 91 = .ok (.putfield 41, 3) := by decide +kernel
theorem dX7_init_94 : decode cX7_init 94 = .ok (.return_, 1) := by decide +kernel
theorem dX7_in_0 : decode cX7_in 0 = .ok (.iload_n 0, 1) := by decide +kernel
theorem dX7_in_1 : decode cX7_in 1 = .ok (.iload_n 1, 1) := by decide +kernel
theorem dX7_in_2 : decode cX7_in 2 = .ok (.if_icmp .lt 12, 3) := by decide +kernel
theorem dX7_in_5 : decode cX7_in 5 = .ok (.iload_n 0, 1) := by decide +kernel
theorem dX7_in_6 : decode cX7_in 6 = .ok (.iload_n 2, 1) := by decide +kernel
theorem dX7_in_7 : decode cX7_in 7 = .ok (.if_icmp .gt 7, 3) := by decide +kernel
theorem dX7_in_10 : decode cX7_in 10 = .ok (.iconst 1, 1) := by decide +kernel
theorem dX7_in_11 : decode cX7_in 11 = .ok (.goto 4, 3) := by decide +kernel
theorem dX7_in_14 : decode cX7_in 14 = .ok (.iconst 0, 1) := by decide +kernel
theorem dX7_in_15 : decode cX7_in 15 = .ok (.ireturn, 1) := by decide +kernel
theorem dX7_has_0 : decode cX7_has 0 = .ok (.iload_n 0, 1) := by decide +kernel
theorem dX7_has_1 : decode cX7_has 1 = .ok (.iload_n 1, 1) := by decide +kernel
theorem dX7_has_2 : decode cX7_has 2 = .ok (.ishr, 1) := by decide +kernel
theorem dX7_has_3 : decode cX7_has 3 = .ok (.iconst 1, 1) := by decide +kernel
theorem dX7_has_4 : decode cX7_has 4 = .ok (.iand, 1) := by decide +kernel
theorem dX7_has_5 : decode cX7_has 5 = .ok (.iconst 1, 1) := by decide +kernel
theorem dX7_has_6 : decode cX7_has 6 = .ok (.if_icmp .ne 7, 3) := by decide +kernel
theorem dX7_has_9 : decode cX7_has 9 = .ok (.iconst 1, 1) := by decide +kernel
theorem dX7_has_10 : decode cX7_has 10 = .ok (.goto 4, 3) := by decide +kernel
theorem dX7_has_13 : decode cX7_has 13 = .ok (.iconst 0, 1) := by decide +kernel
theorem dX7_has_14 : decode cX7_has 14 = .ok (.ireturn, 1) := by decide +kernel
theorem dX7_ones_0 : decode cX7_ones 0 = .ok (.iconst 0, 1) := by decide +kernel
theorem dX7_ones_1 : decode cX7_ones 1 = .ok (.istore_n 1, 1) := by decide +kernel
theorem dX7_ones_2 : decode cX7_ones 2 = .ok (.iload_n 0, 1) := by decide +kernel
theorem dX7_ones_3 : decode cX7_ones 3 = .ok (.istore_n 2, 1) := by decide +kernel
theorem dX7_ones_4 : decode cX7_ones 4 = .ok (.iload_n 2, 1) := by decide +kernel
theorem dX7_ones_5 : decode cX7_ones 5 = .ok (.ifCond .eq 15, 3) := by decide +kernel
theorem dX7_ones_8 : decode cX7_ones 8 = .ok (.iinc 1 1, 3) := by decide +kernel
theorem dX7_ones_11 : decode cX7_ones 11 = .ok (.iload_n 2, 1) := by decide +kernel
theorem dX7_ones_12 : decode cX7_ones 12 = .ok (.iload_n 2, 1) := by decide +kernel
theorem dX7_ones_13 : decode cX7_ones 13 = .ok (.iconst 1, 1) := by decide +kernel
theorem dX7_ones_14 : decode cX7_ones 14 = .ok (.isub, 1) := by decide +kernel
theorem dX7_ones_15 : decode cX7_ones 15 = .ok (.iand, 1) := by decide +kernel
theorem dX7_ones_16 : decode cX7_ones 16 = .ok (.istore_n 2, 1) := by decide +kernel
theorem dX7_ones_17 : decode cX7_ones 17 = .ok (.goto (-13), 3) := by decide +kernel
theorem dX7_ones_20 : decode cX7_ones 20 = .ok (.iload_n 1, 1) := by decide +kernel
theorem dX7_ones_21 : decode cX7_ones 21 = .ok (.ireturn, 1) := by decide +kernel
set_option maxRecDepth 20000 in
theorem ggX7_lowest_X7_has : GoodIn wsX7_lowest wsX7_has := goodIn_r _ [4] (by decide +kernel) (by decide +kernel)
set_option maxRecDepth 20000 in
theorem gX7_lowest_X7_has : GoodIn wsX7_lowest (va_wsS RX7 44 yX7_has wsX7_has) := goodIn_app (goodIn_of _ (by decide +kernel)) ggX7_lowest_X7_has
theorem dX7_lowest_0 : decode cX7_lowest 0 = .ok (.iconst 0, 1) := by decide +kernel
theorem dX7_lowest_1 : decode cX7_lowest 1 = .ok (.istore_n 1, 1) := by decide +kernel
theorem dX7_lowest_2 : decode cX7_lowest 2 = .ok (.iload_n 0, 1) := by decide +kernel
theorem dX7_lowest_3 : decode cX7_lowest 3 = .ok (.iload_n 1, 1) := by decide +kernel
theorem dX7_lowest_4 : decode cX7_lowest 4 = .ok (.invokestatic 44, 3) := by decide +kernel
theorem dX7_lowest_7 : decode cX7_lowest 7 = .ok (.ifCond .ne 9, 3) := by decide +kernel
theorem dX7_lowest_10 : decode cX7_lowest 10 = .ok (.iinc 1 1, 3) := by decide +kernel
theorem dX7_lowest_13 : decode cX7_lowest 13 = .ok (.goto (-11), 3) := by decide +kernel
theorem dX7_lowest_16 : decode cX7_lowest 16 = .ok (.iload_n 1, 1) := by decide +kernel
theorem dX7_lowest_17 : decode cX7_lowest 17 = .ok (.ireturn, 1) := by decide +kernel
theorem dX7_of_0 : decode cX7_of 0 = .ok (.aload_n 0, 1) := by decide +kernel
theorem dX7_of_1 : decode cX7_of 1 = .ok (.getfield 7, 3) := by decide +kernel
theorem dX7_of_4 : decode cX7_of 4 = .ok (.iconst 2, 1) := by decide +kernel
theorem dX7_of_5 : decode cX7_of 5 = .ok (.iconst 3, 1) := by decide +kernel
theorem dX7_of_6 : decode cX7_of 6 = .ok (.iload_n 1, 1) := by decide +kernel
theorem dX7_of_7 : decode cX7_of 7 = .ok (.imul, 1) := by decide +kernel
theorem dX7_of_8 : decode cX7_of 8 = .ok (.iadd, 1) := by decide +kernel
theorem dX7_of_9 : decode cX7_of 9 = .ok (.iload_n 2, 1) := by decide +kernel
theorem dX7_of_10 : decode cX7_of 10 = .ok (.iadd, 1) := by decide +kernel
theorem dX7_of_11 : decode cX7_of 11 = .ok (.iaload, 1) := by decide +kernel
theorem dX7_of_12 : decode cX7_of 12 = .ok (.ireturn, 1) := by decide +kernel
theorem dX7_put_0 : decode cX7_put 0 = .ok (.aload_n 0, 1) := by decide +kernel
theorem dX7_put_1 : decode cX7_put 1 = .ok (.getfield 7, 3) := by decide +kernel
theorem dX7_put_4 : decode cX7_put 4 = .ok (.iconst 2, 1) := by decide +kernel
theorem dX7_put_5 : decode cX7_put 5 = .ok (.iconst 3, 1) := by decide +kernel
theorem dX7_put_6 : decode cX7_put 6 = .ok (.iload_n 1, 1) := by decide +kernel
theorem dX7_put_7 : decode cX7_put 7 = .ok (.imul, 1) := by decide +kernel
theorem dX7_put_8 : decode cX7_put 8 = .ok (.iadd, 1) := by decide +kernel
theorem dX7_put_9 : decode cX7_put 9 = .ok (.iconst 0, 1) := by decide +kernel
theorem dX7_put_10 : decode cX7_put 10 = .ok (.iadd, 1) := by decide +kernel
theorem dX7_put_11 : decode cX7_put 11 = .ok (.iload_n 2, 1) := by decide +kernel
theorem dX7_put_12 : decode cX7_put 12 = .ok (.iload_n 3, 1) := by decide +kernel
theorem dX7_put_13 : decode cX7_put 13 = .ok (.if_icmp .ge 7, 3) := by decide +kernel
theorem dX7_put_16 : decode cX7_put 16 = .ok (.iload_n 2, 1) := by decide +kernel
theorem dX7_put_17 : decode cX7_put 17 = .ok (.goto 4, 3) := by decide +kernel
theorem dX7_put_20 : decode cX7_put 20 = .ok (.iload_n 3, 1) := by decide +kernel
theorem dX7_put_21 : decode cX7_put 21 = .ok (.iastore, 1) := by decide +kernel
theorem dX7_put_22 : decode cX7_put 22 = .ok (.aload_n 0, 1) := by decide +kernel
theorem dX7_put_23 : decode cX7_put 23 = .ok (.getfield 7, 3) := by decide +kernel
theorem dX7_put_26 : decode cX7_put 26 = .ok (.iconst 2, 1) := by decide +kernel
theorem dX7_put_27 : decode cX7_put 27 = .ok (.iconst 3, 1) := by decide +kernel
theorem dX7_put_28 : decode cX7_put 28 = .ok (.iload_n 1, 1) := by decide +kernel
theorem dX7_put_29 : decode cX7_put 29 = .ok (.imul, 1) := by decide +kernel
theorem dX7_put_30 : decode cX7_put 30 = .ok (.iadd, 1) := by decide +kernel
theorem dX7_put_31 : decode cX7_put 31 = .ok (.iconst 1, 1) := by decide +kernel
theorem dX7_put_32 : decode cX7_put 32 = .ok (.iadd, 1) := by decide +kernel
theorem dX7_put_33 : decode cX7_put 33 = .ok (.iload_n 2, 1) := by decide +kernel
theorem dX7_put_34 : decode cX7_put 34 = .ok (.iload_n 3, 1) := by decide +kernel
theorem dX7_put_35 : decode cX7_put 35 = .ok (.if_icmp .ge 7, 3) := by decide +kernel
theorem dX7_put_38 : decode cX7_put 38 = .ok (.iload_n 3, 1) := by decide +kernel
theorem dX7_put_39 : decode cX7_put 39 = .ok (.goto 4, 3) := by decide +kernel
theorem dX7_put_42 : decode cX7_put 42 = .ok (.iload_n 2, 1) := by decide +kernel
theorem dX7_put_43 : decode cX7_put 43 = .ok (.iastore, 1) := by decide +kernel
theorem dX7_put_44 : decode cX7_put 44 = .ok (.aload_n 0, 1) := by decide +kernel
theorem dX7_put_45 : decode cX7_put 45 = .ok (.getfield 7, 3) := by decide +kernel
theorem dX7_put_48 : decode cX7_put 48 = .ok (.iconst 2, 1) := by decide +kernel
theorem dX7_put_49 : decode cX7_put 49 = .ok (.iconst 3, 1) := by decide +kernel
theorem dX7_put_50 : decode cX7_put 50 = .ok (.iload_n 1, 1) := by decide +kernel
theorem dX7_put_51 : decode cX7_put 51 = .ok (.imul, 1) := by decide +kernel
theorem dX7_put_52 : decode cX7_put 52 = .ok (.iadd, 1) := by decide +kernel
theorem dX7_put_53 : decode cX7_put 53 = .ok (.iconst 2, 1) := by decide +kernel
theorem dX7_put_54 : decode cX7_put 54 = .ok (.iadd, 1) := by decide +kernel
theorem dX7_put_55 : decode cX7_put 55 = .ok (.iload 4, 2) := by decide +kernel
theorem dX7_put_57 : decode cX7_put 57 = .ok (.iastore, 1) := by decide +kernel
theorem dX7_put_58 : decode cX7_put 58 = .ok (.return_, 1) := by decide +kernel
set_option maxRecDepth 20000 in
theorem ggX7_adds_X7_put : GoodIn wsX7_adds wsX7_put := goodIn_r _ [6, 1, 7, 8, 9, 10, 11, 12, 13, 14, 15, 16, 17, 18, 19, 20, 21, 22, 23, 24, 25, 26] (by decide +kernel) (by decide +kernel)
set_option maxRecDepth 20000 in
theorem gX7_adds_X7_put : GoodIn wsX7_adds (wsV RX7 48 RX7 yX7_put wsX7_put) := goodIn_app (goodIn_of _ (by decide +kernel)) ggX7_adds_X7_put
theorem dX7_adds_0 : decode cX7_adds 0 = .ok (.aload_n 0, 1) := by decide +kernel
theorem dX7_adds_1 : decode cX7_adds 1 = .ok (.aload_n 0, 1) := by decide +kernel
theorem dX7_adds_2 : decode cX7_adds 2 = .ok (.getfield 7, 3) := by decide +kernel
theorem dX7_adds_5 : decode cX7_adds 5 = .ok (.iconst 1, 1) := by decide +kernel
theorem dX7_adds_6 : decode cX7_adds 6 = .ok (.iaload, 1) := by decide +kernel
theorem dX7_adds_7 : decode cX7_adds 7 = .ok (.iload_n 1, 1) := by decide +kernel
theorem dX7_adds_8 : decode cX7_adds 8 = .ok (.iload_n 2, 1) := by decide +kernel
theorem dX7_adds_9 : decode cX7_adds 9 = .ok (.iconst 3, 1) := by decide +kernel
theorem dX7_adds_10 : decode cX7_adds 10 = .ok (.invokevirtual 48, 3) := by decide +kernel
theorem dX7_adds_13 : decode cX7_adds 13 = .ok (.aload_n 0, 1) := by decide +kernel
theorem dX7_adds_14 : decode cX7_adds 14 = .ok (.getfield 7, 3) := by decide +kernel
theorem dX7_adds_17 : decode cX7_adds 17 = .ok (.iconst 1, 1) := by decide +kernel
theorem dX7_adds_18 : decode cX7_adds 18 = .ok (.dup2, 1) := by decide +kernel
theorem dX7_adds_19 : decode cX7_adds 19 = .ok (.iaload, 1) := by decide +kernel
theorem dX7_adds_20 : decode cX7_adds 20 = .ok (.iconst 1, 1) := by decide +kernel
theorem dX7_adds_21 : decode cX7_adds 21 = .ok (.iadd, 1) := by decide +kernel
theorem dX7_adds_22 : decode cX7_adds 22 = .ok (.iastore, 1) := by decide +kernel
theorem dX7_adds_23 : decode cX7_adds 23 = .ok (.return_, 1) := by decide +kernel
set_option maxRecDepth 20000 in
theorem ggX7_isKnot_X7_in : GoodIn wsX7_isKnot wsX7_in := goodIn_r _ [5] (by decide +kernel) (by decide +kernel)
set_option maxRecDepth 20000 in
theorem gX7_isKnot_X7_in : GoodIn wsX7_isKnot (va_wsS RX7 52 yX7_in wsX7_in) := goodIn_app (goodIn_of _ (by decide +kernel)) ggX7_isKnot_X7_in
theorem dX7_isKnot_0 : decode cX7_isKnot 0 = .ok (.iload_n 1, 1) := by decide +kernel
theorem dX7_isKnot_1 : decode cX7_isKnot 1 = .ok (.iconst 0, 1) := by decide +kernel
theorem dX7_isKnot_2 : decode cX7_isKnot 2 = .ok (.aload_n 0, 1) := by decide +kernel
theorem dX7_isKnot_3 : decode cX7_isKnot 3 = .ok (.getfield 7, 3) := by decide +kernel
theorem dX7_isKnot_6 : decode cX7_isKnot 6 = .ok (.iconst 0, 1) := by decide +kernel
theorem dX7_isKnot_7 : decode cX7_isKnot 7 = .ok (.iaload, 1) := by decide +kernel
theorem dX7_isKnot_8 : decode cX7_isKnot 8 = .ok (.iconst 1, 1) := by decide +kernel
theorem dX7_isKnot_9 : decode cX7_isKnot 9 = .ok (.isub, 1) := by decide +kernel
theorem dX7_isKnot_10 : decode cX7_isKnot 10 = .ok (.invokestatic 52, 3) := by decide +kernel
theorem dX7_isKnot_13 : decode cX7_isKnot 13 = .ok (.ireturn, 1) := by decide +kernel
set_option maxRecDepth 20000 in
theorem ggX7_isThread_X7_in : GoodIn wsX7_isThread wsX7_in := goodIn_r _ [5] (by decide +kernel) (by decide +kernel)
set_option maxRecDepth 20000 in
theorem gX7_isThread_X7_in : GoodIn wsX7_isThread (va_wsS RX7 52 yX7_in wsX7_in) := goodIn_app (goodIn_of _ (by decide +kernel)) ggX7_isThread_X7_in
theorem dX7_isThread_0 : decode cX7_isThread 0 = .ok (.iload_n 1, 1) := by decide +kernel
theorem dX7_isThread_1 : decode cX7_isThread 1 = .ok (.iconst 0, 1) := by decide +kernel
theorem dX7_isThread_2 : decode cX7_isThread 2 = .ok (.aload_n 0, 1) := by decide +kernel
theorem dX7_isThread_3 : decode cX7_isThread 3 = .ok (.getfield 7, 3) := by decide +kernel
theorem dX7_isThread_6 : decode cX7_isThread 6 = .ok (.iconst 1, 1) := by decide +kernel
theorem dX7_isThread_7 : decode cX7_isThread 7 = .ok (.iaload, 1) := by decide +kernel
theorem dX7_isThread_8 : decode cX7_isThread 8 = .ok (.iconst 1, 1) := by decide +kernel
theorem dX7_isThread_9 : decode cX7_isThread 9 = .ok (.isub, 1) := by decide +kernel
theorem dX7_isThread_10 : decode cX7_isThread 10 = .ok (.invokestatic 52, 3) := by decide +kernel
theorem dX7_isThread_13 : decode cX7_isThread 13 = .ok (.ireturn, 1) := by decide +kernel
set_option maxRecDepth 20000 in
theorem ggX7_isAt_X7_of : GoodIn wsX7_isAt wsX7_of := goodIn_r _ [5, 6, 7, 8, 9, 10, 11, 12, 13, 14, 15, 16, 17, 18, 19, 20, 21, 22, 23, 24, 25, 26] (by decide +kernel) (by decide +kernel)
set_option maxRecDepth 20000 in
theorem gX7_isAt_X7_of : GoodIn wsX7_isAt (wsV RX7 56 RX7 yX7_of wsX7_of) := goodIn_app (goodIn_of _ (by decide +kernel)) ggX7_isAt_X7_of
theorem dX7_isAt_0 : decode cX7_isAt 0 = .ok (.aload_n 0, 1) := by decide +kernel
theorem dX7_isAt_1 : decode cX7_isAt 1 = .ok (.iload_n 1, 1) := by decide +kernel
theorem dX7_isAt_2 : decode cX7_isAt 2 = .ok (.iconst 0, 1) := by decide +kernel
theorem dX7_isAt_3 : decode cX7_isAt 3 = .ok (.invokevirtual 56, 3) := by decide +kernel
theorem dX7_isAt_6 : decode cX7_isAt 6 = .ok (.iload_n 2, 1) := by decide +kernel
theorem dX7_isAt_7 : decode cX7_isAt 7 = .ok (.if_icmp .eq 13, 3) := by decide +kernel
theorem dX7_isAt_10 : decode cX7_isAt 10 = .ok (.aload_n 0, 1) := by decide +kernel
theorem dX7_isAt_11 : decode cX7_isAt 11 = .ok (.iload_n 1, 1) := by decide +kernel
theorem dX7_isAt_12 : decode cX7_isAt 12 = .ok (.iconst 1, 1) := by decide +kernel
theorem dX7_isAt_13 : decode cX7_isAt 13 = .ok (.invokevirtual 56, 3) := by decide +kernel
theorem dX7_isAt_16 : decode cX7_isAt 16 = .ok (.iload_n 2, 1) := by decide +kernel
theorem dX7_isAt_17 : decode cX7_isAt 17 = .ok (.if_icmp .ne 7, 3) := by decide +kernel
theorem dX7_isAt_20 : decode cX7_isAt 20 = .ok (.iconst 1, 1) := by decide +kernel
theorem dX7_isAt_21 : decode cX7_isAt 21 = .ok (.goto 4, 3) := by decide +kernel
theorem dX7_isAt_24 : decode cX7_isAt 24 = .ok (.iconst 0, 1) := by decide +kernel
theorem dX7_isAt_25 : decode cX7_isAt 25 = .ok (.ireturn, 1) := by decide +kernel
set_option maxRecDepth 20000 in
theorem ggX7_across_X7_of : GoodIn wsX7_across wsX7_of := goodIn_r _ [5, 6, 7, 8, 9, 10, 11, 12, 13, 14, 15, 16, 17, 18, 19, 20, 21, 22, 23, 24, 25, 26] (by decide +kernel) (by decide +kernel)
set_option maxRecDepth 20000 in
theorem gX7_across_X7_of : GoodIn wsX7_across (wsV RX7 56 RX7 yX7_of wsX7_of) := goodIn_app (goodIn_of _ (by decide +kernel)) ggX7_across_X7_of
theorem dX7_across_0 : decode cX7_across 0 = .ok (.aload_n 0, 1) := by decide +kernel
theorem dX7_across_1 : decode cX7_across 1 = .ok (.iload_n 1, 1) := by decide +kernel
theorem dX7_across_2 : decode cX7_across 2 = .ok (.iconst 0, 1) := by decide +kernel
theorem dX7_across_3 : decode cX7_across 3 = .ok (.invokevirtual 56, 3) := by decide +kernel
theorem dX7_across_6 : decode cX7_across 6 = .ok (.iload_n 2, 1) := by decide +kernel
theorem dX7_across_7 : decode cX7_across 7 = .ok (.if_icmp .ne 12, 3) := by decide +kernel
theorem dX7_across_10 : decode cX7_across 10 = .ok (.aload_n 0, 1) := by decide +kernel
theorem dX7_across_11 : decode cX7_across 11 = .ok (.iload_n 1, 1) := by decide +kernel
theorem dX7_across_12 : decode cX7_across 12 = .ok (.iconst 1, 1) := by decide +kernel
theorem dX7_across_13 : decode cX7_across 13 = .ok (.invokevirtual 56, 3) := by decide +kernel
theorem dX7_across_16 : decode cX7_across 16 = .ok (.goto 9, 3) := by decide +kernel
theorem dX7_across_19 : decode cX7_across 19 = .ok (.aload_n 0, 1) := by decide +kernel
theorem dX7_across_20 : decode cX7_across 20 = .ok (.iload_n 1, 1) := by decide +kernel
theorem dX7_across_21 : decode cX7_across 21 = .ok (.iconst 0, 1) := by decide +kernel
theorem dX7_across_22 : decode cX7_across 22 = .ok (.invokevirtual 56, 3) := by decide +kernel
theorem dX7_across_25 : decode cX7_across 25 = .ok (.ireturn, 1) := by decide +kernel
set_option maxRecDepth 20000 in
theorem ggX7_threadsOf_X7_isAt : GoodIn wsX7_threadsOf wsX7_isAt := goodIn_r _ [6, 7, 8, 9, 5, 10, 1, 11, 12, 13, 14, 15, 16, 17, 18, 19, 20, 21, 22, 23, 24, 25, 26, 27, 28, 29, 30] (by decide +kernel) (by decide +kernel)
set_option maxRecDepth 20000 in
theorem gX7_threadsOf_X7_isAt : GoodIn wsX7_threadsOf (wsV RX7 60 RX7 yX7_isAt wsX7_isAt) := goodIn_app (goodIn_of _ (by decide +kernel)) ggX7_threadsOf_X7_isAt
theorem dX7_threadsOf_0 : decode cX7_threadsOf 0 = .ok (.iconst 0, 1) := by decide +kernel
theorem dX7_threadsOf_1 : decode cX7_threadsOf 1 = .ok (.istore_n 2, 1) := by decide +kernel
theorem dX7_threadsOf_2 : decode cX7_threadsOf 2 = .ok (.iconst 0, 1) := by decide +kernel
theorem dX7_threadsOf_3 : decode cX7_threadsOf 3 = .ok (.istore_n 3, 1) := by decide +kernel
theorem dX7_threadsOf_4 : decode cX7_threadsOf 4 = .ok (.iload_n 3, 1) := by decide +kernel
theorem dX7_threadsOf_5 : decode cX7_threadsOf 5 = .ok (.aload_n 0, 1) := by decide +kernel
theorem dX7_threadsOf_6 : decode cX7_threadsOf 6 = .ok (.getfield 7, 3) := by decide +kernel
theorem dX7_threadsOf_9 : decode cX7_threadsOf 9 = .ok (.iconst 1, 1) := by decide +kernel
theorem dX7_threadsOf_10 : decode cX7_threadsOf 10 = .ok (.iaload, 1) := by decide +kernel
theorem dX7_threadsOf_11 : decode cX7_threadsOf 11 = .ok (.if_icmp .ge 28, 3) := by decide +kernel
theorem dX7_threadsOf_14 : decode cX7_threadsOf 14 = .ok (.iload_n 2, 1) := by decide +kernel
theorem dX7_threadsOf_15 : decode cX7_threadsOf 15 = .ok (.aload_n 0, 1) := by decide +kernel
theorem dX7_threadsOf_16 : decode cX7_threadsOf 16 = .ok (.iload_n 3, 1) := by decide +kernel
theorem dX7_threadsOf_17 : decode cX7_threadsOf 17 = .ok (.iload_n 1, 1) := by decide +kernel
theorem dX7_threadsOf_18 : decode cX7_threadsOf 18 = .ok (.invokevirtual 60, 3) := by decide +kernel
theorem dX7_threadsOf_21 : decode cX7_threadsOf 21 = .ok (.ifCond .eq 9, 3) := by decide +kernel
theorem dX7_threadsOf_24 : decode cX7_threadsOf 24 = .ok (.iconst 1, 1) := by decide +kernel
theorem dX7_threadsOf_25 : decode cX7_threadsOf 25 = .ok (.iload_n 3, 1) := by decide +kernel
theorem dX7_threadsOf_26 : decode cX7_threadsOf 26 = .ok (.ishl, 1) := by decide +kernel
theorem dX7_threadsOf_27 : decode cX7_threadsOf 27 = .ok (.goto 4, 3) := by decide +kernel
theorem dX7_threadsOf_30 : decode cX7_threadsOf 30 = .ok (.iconst 0, 1) := by decide +kernel
theorem dX7_threadsOf_31 : decode cX7_threadsOf 31 = .ok (.ior, 1) := by decide +kernel
theorem dX7_threadsOf_32 : decode cX7_threadsOf 32 = .ok (.istore_n 2, 1) := by decide +kernel
theorem dX7_threadsOf_33 : decode cX7_threadsOf 33 = .ok (.iinc 3 1, 3) := by decide +kernel
theorem dX7_threadsOf_36 : decode cX7_threadsOf 36 = .ok (.goto (-32), 3) := by decide +kernel
theorem dX7_threadsOf_39 : decode cX7_threadsOf 39 = .ok (.iload_n 2, 1) := by decide +kernel
theorem dX7_threadsOf_40 : decode cX7_threadsOf 40 = .ok (.ireturn, 1) := by decide +kernel
set_option maxRecDepth 20000 in
theorem ggX7_degree_X7_threadsOf : GoodIn wsX7_degree wsX7_threadsOf := goodIn_r _ [5, 6, 7, 8, 9, 4, 10, 11, 12, 13, 14, 18, 19, 20, 21, 22, 23, 24, 25, 26, 27, 28, 29, 30, 31, 32, 33, 34, 35, 36, 37] (by decide +kernel) (by decide +kernel)
set_option maxRecDepth 20000 in
theorem gX7_degree_X7_threadsOf : GoodIn wsX7_degree (wsV RX7 63 RX7 yX7_threadsOf wsX7_threadsOf) := goodIn_app (goodIn_of _ (by decide +kernel)) ggX7_degree_X7_threadsOf
set_option maxRecDepth 20000 in
theorem ggX7_degree_X7_ones : GoodIn wsX7_degree wsX7_ones := goodIn_r _ [17] (by decide +kernel) (by decide +kernel)
set_option maxRecDepth 20000 in
theorem gX7_degree_X7_ones : GoodIn wsX7_degree (va_wsS RX7 67 yX7_ones wsX7_ones) := goodIn_app (goodIn_of _ (by decide +kernel)) ggX7_degree_X7_ones
theorem dX7_degree_0 : decode cX7_degree 0 = .ok (.aload_n 0, 1) := by decide +kernel
theorem dX7_degree_1 : decode cX7_degree 1 = .ok (.iload_n 1, 1) := by decide +kernel
theorem dX7_degree_2 : decode cX7_degree 2 = .ok (.invokevirtual 63, 3) := by decide +kernel
theorem dX7_degree_5 : decode cX7_degree 5 = .ok (.invokestatic 67, 3) := by decide +kernel
theorem dX7_degree_8 : decode cX7_degree 8 = .ok (.ireturn, 1) := by decide +kernel
set_option maxRecDepth 20000 in
theorem ggX7_neighbours_X7_isAt : GoodIn wsX7_neighbours wsX7_isAt := goodIn_r _ [6, 7, 8, 9, 5, 10, 1, 15, 16, 17, 18, 19, 20, 21, 22, 23, 24, 25, 26, 27, 28, 29, 30, 31, 32, 33, 34] (by decide +kernel) (by decide +kernel)
set_option maxRecDepth 20000 in
theorem gX7_neighbours_X7_isAt : GoodIn wsX7_neighbours (wsV RX7 60 RX7 yX7_isAt wsX7_isAt) := goodIn_app (goodIn_of _ (by decide +kernel)) ggX7_neighbours_X7_isAt
set_option maxRecDepth 20000 in
theorem ggX7_neighbours_X7_across : GoodIn wsX7_neighbours wsX7_across := goodIn_r _ [14, 7, 8, 9, 5, 10, 1, 15, 16, 17, 18, 19, 20, 21, 22, 23, 24, 25, 26, 27, 28, 29, 30, 31, 32, 33, 34] (by decide +kernel) (by decide +kernel)
set_option maxRecDepth 20000 in
theorem gX7_neighbours_X7_across : GoodIn wsX7_neighbours (wsV RX7 70 RX7 yX7_across wsX7_across) := goodIn_app (goodIn_of _ (by decide +kernel)) ggX7_neighbours_X7_across
theorem dX7_neighbours_0 : decode cX7_neighbours 0 = .ok (.iconst 0, 1) := by decide +kernel
theorem dX7_neighbours_1 : decode cX7_neighbours 1 = .ok (.istore_n 2, 1) := by decide +kernel
theorem dX7_neighbours_2 : decode cX7_neighbours 2 = .ok (.iconst 0, 1) := by decide +kernel
theorem dX7_neighbours_3 : decode cX7_neighbours 3 = .ok (.istore_n 3, 1) := by decide +kernel
theorem dX7_neighbours_4 : decode cX7_neighbours 4 = .ok (.iload_n 3, 1) := by decide +kernel
theorem dX7_neighbours_5 : decode cX7_neighbours 5 = .ok (.aload_n 0, 1) := by decide +kernel
theorem dX7_neighbours_6 : decode cX7_neighbours 6 = .ok (.getfield 7, 3) := by decide +kernel
theorem dX7_neighbours_9 : decode cX7_neighbours 9 = .ok (.iconst 1, 1) := by decide +kernel
theorem dX7_neighbours_10 : decode cX7_neighbours 10 = .ok (.iaload, 1) := by decide +kernel
theorem dX7_neighbours_11 : decode cX7_neighbours 11 = .ok (.if_icmp .ge 33, 3) := by decide +kernel
theorem dX7_neighbours_14 : decode cX7_neighbours 14 = .ok (.iload_n 2, 1) := by decide +kernel
theorem dX7_neighbours_15 : decode cX7_neighbours 15 = .ok (.aload_n 0, 1) := by decide +kernel
theorem dX7_neighbours_16 : decode cX7_neighbours 16 = .ok (.iload_n 3, 1) := by decide +kernel
theorem dX7_neighbours_17 : decode cX7_neighbours 17 = .ok (.iload_n 1, 1) := by decide +kernel
theorem dX7_neighbours_18 : decode cX7_neighbours 18 = .ok (.invokevirtual 60, 3) := by decide +kernel
theorem dX7_neighbours_21 : decode cX7_neighbours 21 = .ok (.ifCond .eq 14, 3) := by decide +kernel
theorem dX7_neighbours_24 : decode cX7_neighbours 24 = .ok (.iconst 1, 1) := by decide +kernel
theorem dX7_neighbours_25 : decode cX7_neighbours 25 = .ok (.aload_n 0, 1) := by decide +kernel
theorem dX7_neighbours_26 : decode cX7_neighbours 26 = .ok (.iload_n 3, 1) := by decide +kernel
theorem dX7_neighbours_27 : decode cX7_neighbours 27 = .ok (.iload_n 1, 1) := by decide +kernel
theorem dX7_neighbours_28 : decode cX7_neighbours 28 = .ok (.invokevirtual 70, 3) := by decide +kernel
theorem dX7_neighbours_31 : decode cX7_neighbours 31 = .ok (.ishl, 1) := by decide +kernel
theorem dX7_neighbours_32 : decode cX7_neighbours 32 = .ok (.goto 4, 3) := by decide +kernel
theorem dX7_neighbours_35 : decode cX7_neighbours 35 = .ok (.iconst 0, 1) := by decide +kernel
theorem dX7_neighbours_36 : decode cX7_neighbours 36 = .ok (.ior, 1) := by decide +kernel
theorem dX7_neighbours_37 : decode cX7_neighbours 37 = .ok (.istore_n 2, 1) := by decide +kernel
theorem dX7_neighbours_38 : decode cX7_neighbours 38 = .ok (.iinc 3 1, 3) := by decide +kernel
theorem dX7_neighbours_41 : decode cX7_neighbours 41 = .ok (.goto (-37), 3) := by decide +kernel
theorem dX7_neighbours_44 : decode cX7_neighbours 44 = .ok (.iload_n 2, 1) := by decide +kernel
theorem dX7_neighbours_45 : decode cX7_neighbours 45 = .ok (.ireturn, 1) := by decide +kernel
set_option maxRecDepth 20000 in
theorem ggX7_threadBetween_X7_isAt : GoodIn wsX7_threadBetween wsX7_isAt := goodIn_r _ [6, 7, 8, 9, 5, 10, 1, 11, 12, 13, 14, 15, 16, 17, 18, 19, 20, 21, 22, 23, 24, 25, 26, 27, 28, 29, 30] (by decide +kernel) (by decide +kernel)
set_option maxRecDepth 20000 in
theorem gX7_threadBetween_X7_isAt : GoodIn wsX7_threadBetween (wsV RX7 60 RX7 yX7_isAt wsX7_isAt) := goodIn_app (goodIn_of _ (by decide +kernel)) ggX7_threadBetween_X7_isAt
theorem dX7_threadBetween_0 : decode cX7_threadBetween 0 = .ok (.iconst 0, 1) := by decide +kernel
theorem dX7_threadBetween_1 : decode cX7_threadBetween 1 = .ok (.istore_n 3, 1) := by decide +kernel
theorem dX7_threadBetween_2 : decode cX7_threadBetween 2 = .ok (.iload_n 3, 1) := by decide +kernel
theorem dX7_threadBetween_3 : decode cX7_threadBetween 3 = .ok (.aload_n 0, 1) := by decide +kernel
theorem dX7_threadBetween_4 : decode cX7_threadBetween 4 = .ok (.getfield 7, 3) := by decide +kernel
theorem dX7_threadBetween_7 : decode cX7_threadBetween 7 = .ok (.iconst 1, 1) := by decide +kernel
theorem dX7_threadBetween_8 : decode cX7_threadBetween 8 = .ok (.iaload, 1) := by decide +kernel
theorem dX7_threadBetween_9 : decode cX7_threadBetween 9 = .ok (.if_icmp .ge 34, 3) := by decide +kernel
theorem dX7_threadBetween_12 : decode cX7_threadBetween 12 = .ok (.iload_n 1, 1) := by decide +kernel
theorem dX7_threadBetween_13 : decode cX7_threadBetween 13 = .ok (.iload_n 2, 1) := by decide +kernel
theorem dX7_threadBetween_14 : decode cX7_threadBetween 14 = .ok (.if_icmp .eq 23, 3) := by decide +kernel
theorem dX7_threadBetween_17 : decode cX7_threadBetween 17 = .ok (.aload_n 0, 1) := by decide +kernel
theorem dX7_threadBetween_18 : decode cX7_threadBetween 18 = .ok (.iload_n 3, 1) := by decide +kernel
theorem dX7_threadBetween_19 : decode cX7_threadBetween 19 = .ok (.iload_n 1, 1) := by decide +kernel
theorem dX7_threadBetween_20 : decode cX7_threadBetween 20 = .ok (.invokevirtual 60, 3) := by decide +kernel
theorem dX7_threadBetween_23 : decode cX7_threadBetween 23 = .ok (.ifCond .eq 14, 3) := by decide +kernel
theorem dX7_threadBetween_26 : decode cX7_threadBetween 26 = .ok (.aload_n 0, 1) := by decide +kernel
theorem dX7_threadBetween_27 : decode cX7_threadBetween 27 = .ok (.iload_n 3, 1) := by decide +kernel
theorem dX7_threadBetween_28 : decode cX7_threadBetween 28 = .ok (.iload_n 2, 1) := by decide +kernel
theorem dX7_threadBetween_29 : decode cX7_threadBetween 29 = .ok (.invokevirtual 60, 3) := by decide +kernel
theorem dX7_threadBetween_32 : decode cX7_threadBetween 32 = .ok (.ifCond .eq 5, 3) := by decide +kernel
theorem dX7_threadBetween_35 : decode cX7_threadBetween 35 = .ok (.iload_n 3, 1) := by decide +kernel
theorem dX7_threadBetween_36 : decode cX7_threadBetween 36 = .ok (.ireturn, 1) := by decide +kernel
theorem dX7_threadBetween_37 : decode cX7_threadBetween 37 = .ok (.iinc 3 1, 3) := by decide +kernel
theorem dX7_threadBetween_40 : decode cX7_threadBetween 40 = .ok (.goto (-38), 3) := by decide +kernel
theorem dX7_threadBetween_43 : decode cX7_threadBetween 43 = .ok (.bipush (-5), 2) := by decide +kernel
theorem dX7_threadBetween_45 : decode cX7_threadBetween 45 = .ok (.ireturn, 1) := by decide +kernel
theorem dX7_dropThread_0 : decode cX7_dropThread 0 = .ok (.aload_n 0, 1) := by decide +kernel
theorem dX7_dropThread_1 : decode cX7_dropThread 1 = .ok (.getfield 7, 3) := by decide +kernel
theorem dX7_dropThread_4 : decode cX7_dropThread 4 = .ok (.iconst 1, 1) := by decide +kernel
theorem dX7_dropThread_5 : decode cX7_dropThread 5 = .ok (.dup2, 1) := by decide +kernel
theorem dX7_dropThread_6 : decode cX7_dropThread 6 = .ok (.iaload, 1) := by decide +kernel
theorem dX7_dropThread_7 : decode cX7_dropThread 7 = .ok (.iconst 1, 1) := by decide +kernel
theorem dX7_dropThread_8 : decode cX7_dropThread 8 = .ok (.isub, 1) := by decide +kernel
theorem dX7_dropThread_9 : decode cX7_dropThread 9 = .ok (.iastore, 1) := by decide +kernel
theorem dX7_dropThread_10 : decode cX7_dropThread 10 = .ok (.iconst 2, 1) := by decide +kernel
theorem dX7_dropThread_11 : decode cX7_dropThread 11 = .ok (.iconst 3, 1) := by decide +kernel
theorem dX7_dropThread_12 : decode cX7_dropThread 12 = .ok (.iload_n 1, 1) := by decide +kernel
theorem dX7_dropThread_13 : decode cX7_dropThread 13 = .ok (.imul, 1) := by decide +kernel
theorem dX7_dropThread_14 : decode cX7_dropThread 14 = .ok (.iadd, 1) := by decide +kernel
theorem dX7_dropThread_15 : decode cX7_dropThread 15 = .ok (.istore_n 2, 1) := by decide +kernel
theorem dX7_dropThread_16 : decode cX7_dropThread 16 = .ok (.iload_n 2, 1) := by decide +kernel
theorem dX7_dropThread_17 : decode cX7_dropThread 17 = .ok (.iconst 2, 1) := by decide +kernel
theorem dX7_dropThread_18 : decode cX7_dropThread 18 = .ok (.iconst 3, 1) := by decide +kernel
theorem dX7_dropThread_19 : decode cX7_dropThread 19 = .ok (.aload_n 0, 1) := by decide +kernel
theorem dX7_dropThread_20 : decode cX7_dropThread 20 = .ok (.getfield 7, 3) := by decide +kernel
theorem dX7_dropThread_23 : decode cX7_dropThread 23 = .ok (.iconst 1, 1) := by decide +kernel
theorem dX7_dropThread_24 : decode cX7_dropThread 24 = .ok (.iaload, 1) := by decide +kernel
theorem dX7_dropThread_25 : decode cX7_dropThread 25 = .ok (.imul, 1) := by decide +kernel
theorem dX7_dropThread_26 : decode cX7_dropThread 26 = .ok (.iadd, 1) := by decide +kernel
theorem dX7_dropThread_27 : decode cX7_dropThread 27 = .ok (.if_icmp .ge 23, 3) := by decide +kernel
theorem dX7_dropThread_30 : decode cX7_dropThread 30 = .ok (.aload_n 0, 1) := by decide +kernel
theorem dX7_dropThread_31 : decode cX7_dropThread 31 = .ok (.getfield 7, 3) := by decide +kernel
theorem dX7_dropThread_34 : decode cX7_dropThread 34 = .ok (.iload_n 2, 1) := by decide +kernel
theorem dX7_dropThread_35 : decode cX7_dropThread 35 = .ok (.aload_n 0, 1) := by decide +kernel
theorem dX7_dropThread_36 : decode cX7_dropThread 36 = .ok (.getfield 7, 3) := by decide +kernel
theorem dX7_dropThread_39 : decode cX7_dropThread 39 = .ok (.iload_n 2, 1) := by decide +kernel
theorem dX7_dropThread_40 : decode cX7_dropThread 40 = .ok (.iconst 3, 1) := by decide +kernel
theorem dX7_dropThread_41 : decode cX7_dropThread 41 = .ok (.iadd, 1) := by decide +kernel
theorem dX7_dropThread_42 : decode cX7_dropThread 42 = .ok (.iaload, 1) := by decide +kernel
theorem dX7_dropThread_43 : decode cX7_dropThread 43 = .ok (.iastore, 1) := by decide +kernel
theorem dX7_dropThread_44 : decode cX7_dropThread 44 = .ok (.iinc 2 1, 3) := by decide +kernel
theorem dX7_dropThread_47 : decode cX7_dropThread 47 = .ok (.goto (-31), 3) := by decide +kernel
theorem dX7_dropThread_50 : decode cX7_dropThread 50 = .ok (.return_, 1) := by decide +kernel
set_option maxRecDepth 20000 in
theorem ggX7_dropKnot_X7_of : GoodIn wsX7_dropKnot wsX7_of := goodIn_r _ [6, 1, 11, 12, 13, 14, 15, 16, 17, 18, 19, 20, 21, 22, 23, 24, 25, 26, 27, 28, 29, 30] (by decide +kernel) (by decide +kernel)
set_option maxRecDepth 20000 in
theorem gX7_dropKnot_X7_of : GoodIn wsX7_dropKnot (wsV RX7 56 RX7 yX7_of wsX7_of) := goodIn_app (goodIn_of _ (by decide +kernel)) ggX7_dropKnot_X7_of
set_option maxRecDepth 20000 in
theorem ggX7_dropKnot_X7_put : GoodIn wsX7_dropKnot wsX7_put := goodIn_r _ [10, 1, 11, 12, 13, 14, 15, 16, 17, 18, 19, 20, 21, 22, 23, 24, 25, 26, 27, 28, 29, 30] (by decide +kernel) (by decide +kernel)
set_option maxRecDepth 20000 in
theorem gX7_dropKnot_X7_put : GoodIn wsX7_dropKnot (wsV RX7 48 RX7 yX7_put wsX7_put) := goodIn_app (goodIn_of _ (by decide +kernel)) ggX7_dropKnot_X7_put
theorem dX7_dropKnot_0 : decode cX7_dropKnot 0 = .ok (.aload_n 0, 1) := by decide +kernel
theorem dX7_dropKnot_1 : decode cX7_dropKnot 1 = .ok (.getfield 7, 3) := by decide +kernel
theorem dX7_dropKnot_4 : decode cX7_dropKnot 4 = .ok (.iconst 0, 1) := by decide +kernel
theorem dX7_dropKnot_5 : decode cX7_dropKnot 5 = .ok (.dup2, 1) := by decide +kernel
theorem dX7_dropKnot_6 : decode cX7_dropKnot 6 = .ok (.iaload, 1) := by decide +kernel
theorem dX7_dropKnot_7 : decode cX7_dropKnot 7 = .ok (.iconst 1, 1) := by decide +kernel
theorem dX7_dropKnot_8 : decode cX7_dropKnot 8 = .ok (.isub, 1) := by decide +kernel
theorem dX7_dropKnot_9 : decode cX7_dropKnot 9 = .ok (.iastore, 1) := by decide +kernel
theorem dX7_dropKnot_10 : decode cX7_dropKnot 10 = .ok (.iconst 0, 1) := by decide +kernel
theorem dX7_dropKnot_11 : decode cX7_dropKnot 11 = .ok (.istore_n 2, 1) := by decide +kernel
theorem dX7_dropKnot_12 : decode cX7_dropKnot 12 = .ok (.iload_n 2, 1) := by decide +kernel
theorem dX7_dropKnot_13 : decode cX7_dropKnot 13 = .ok (.aload_n 0, 1) := by decide +kernel
theorem dX7_dropKnot_14 : decode cX7_dropKnot 14 = .ok (.getfield 7, 3) := by decide +kernel
theorem dX7_dropKnot_17 : decode cX7_dropKnot 17 = .ok (.iconst 1, 1) := by decide +kernel
theorem dX7_dropKnot_18 : decode cX7_dropKnot 18 = .ok (.iaload, 1) := by decide +kernel
theorem dX7_dropKnot_19 : decode cX7_dropKnot 19 = .ok (.if_icmp .ge 62, 3) := by decide +kernel
theorem dX7_dropKnot_22 : decode cX7_dropKnot 22 = .ok (.aload_n 0, 1) := by decide +kernel
theorem dX7_dropKnot_23 : decode cX7_dropKnot 23 = .ok (.iload_n 2, 1) := by decide +kernel
theorem dX7_dropKnot_24 : decode cX7_dropKnot 24 = .ok (.iconst 0, 1) := by decide +kernel
theorem dX7_dropKnot_25 : decode cX7_dropKnot 25 = .ok (.invokevirtual 56, 3) := by decide +kernel
theorem dX7_dropKnot_28 : decode cX7_dropKnot 28 = .ok (.istore_n 3, 1) := by decide +kernel
theorem dX7_dropKnot_29 : decode cX7_dropKnot 29 = .ok (.aload_n 0, 1) := by decide +kernel
theorem dX7_dropKnot_30 : decode cX7_dropKnot 30 = .ok (.iload_n 2, 1) := by decide +kernel
theorem dX7_dropKnot_31 : decode cX7_dropKnot 31 = .ok (.iconst 1, 1) := by decide +kernel
theorem dX7_dropKnot_32 : decode cX7_dropKnot 32 = .ok (.invokevirtual 56, 3) := by decide +kernel
theorem dX7_dropKnot_35 : decode cX7_dropKnot 35 = .ok (.istore 4, 2) := by decide +kernel
theorem dX7_dropKnot_37 : decode cX7_dropKnot 37 = .ok (.aload_n 0, 1) := by decide +kernel
theorem dX7_dropKnot_38 : decode cX7_dropKnot 38 = .ok (.iload_n 2, 1) := by decide +kernel
theorem dX7_dropKnot_39 : decode cX7_dropKnot 39 = .ok (.iload_n 3, 1) := by decide +kernel
theorem dX7_dropKnot_40 : decode cX7_dropKnot 40 = .ok (.iload_n 1, 1) := by decide +kernel
theorem dX7_dropKnot_41 : decode cX7_dropKnot 41 = .ok (.if_icmp .le 9, 3) := by decide +kernel
theorem dX7_dropKnot_44 : decode cX7_dropKnot 44 = .ok (.iload_n 3, 1) := by decide +kernel
theorem dX7_dropKnot_45 : decode cX7_dropKnot 45 = .ok (.iconst 1, 1) := by decide +kernel
theorem dX7_dropKnot_46 : decode cX7_dropKnot 46 = .ok (.isub, 1) := by decide +kernel
theorem dX7_dropKnot_47 : decode cX7_dropKnot 47 = .ok (.goto 4, 3) := by decide +kernel
theorem dX7_dropKnot_50 : decode cX7_dropKnot 50 = .ok (.iload_n 3, 1) := by decide +kernel
theorem dX7_dropKnot_51 : decode cX7_dropKnot 51 = .ok (.iload 4, 2) := by decide +kernel
theorem dX7_dropKnot_53 : decode cX7_dropKnot 53 = .ok (.iload_n 1, 1) := by decide +kernel
theorem dX7_dropKnot_54 : decode cX7_dropKnot 54 = .ok (.if_icmp .le 10, 3) := by decide +kernel
theorem dX7_dropKnot_57 : decode cX7_dropKnot 57 = .ok (.iload 4, 2) := by decide +kernel
theorem dX7_dropKnot_59 : decode cX7_dropKnot 59 = .ok (.iconst 1, 1) := by decide +kernel
theorem dX7_dropKnot_60 : decode cX7_dropKnot 60 = .ok (.isub, 1) := by decide +kernel
theorem dX7_dropKnot_61 : decode cX7_dropKnot 61 = .ok (.goto 5, 3) := by decide +kernel
theorem dX7_dropKnot_64 : decode cX7_dropKnot 64 = .ok (.iload 4, 2) := by decide +kernel
theorem dX7_dropKnot_66 : decode cX7_dropKnot 66 = .ok (.aload_n 0, 1) := by decide +kernel
theorem dX7_dropKnot_67 : decode cX7_dropKnot 67 = .ok (.iload_n 2, 1) := by decide +kernel
theorem dX7_dropKnot_68 : decode cX7_dropKnot 68 = .ok (.iconst 2, 1) := by decide +kernel
theorem dX7_dropKnot_69 : decode cX7_dropKnot 69 = .ok (.invokevirtual 56, 3) := by decide +kernel
theorem dX7_dropKnot_72 : decode cX7_dropKnot 72 = .ok (.invokevirtual 48, 3) := by decide +kernel
theorem dX7_dropKnot_75 : decode cX7_dropKnot 75 = .ok (.iinc 2 1, 3) := by decide +kernel
theorem dX7_dropKnot_78 : decode cX7_dropKnot 78 = .ok (.goto (-66), 3) := by decide +kernel
theorem dX7_dropKnot_81 : decode cX7_dropKnot 81 = .ok (.return_, 1) := by decide +kernel
set_option maxRecDepth 20000 in
theorem ggX7_isFullNet_X7_degree : GoodIn wsX7_isFullNet wsX7_degree := goodIn_r _ [6, 7, 8, 9, 5, 10, 1, 11, 12, 13, 14, 15, 16, 17, 18, 19, 20, 21, 22, 23, 24, 25, 26, 27, 28, 29, 30, 31, 32, 33, 34, 35, 36, 37, 38, 39, 40, 41] (by decide +kernel) (by decide +kernel)
set_option maxRecDepth 20000 in
theorem gX7_isFullNet_X7_degree : GoodIn wsX7_isFullNet (wsV RX7 73 RX7 yX7_degree wsX7_degree) := goodIn_app (goodIn_of _ (by decide +kernel)) ggX7_isFullNet_X7_degree
theorem dX7_isFullNet_0 : decode cX7_isFullNet 0 = .ok (.aload_n 0, 1) := by decide +kernel
theorem dX7_isFullNet_1 : decode cX7_isFullNet 1 = .ok (.getfield 7, 3) := by decide +kernel
theorem dX7_isFullNet_4 : decode cX7_isFullNet 4 = .ok (.iconst 0, 1) := by decide +kernel
theorem dX7_isFullNet_5 : decode cX7_isFullNet 5 = .ok (.iaload, 1) := by decide +kernel
theorem dX7_isFullNet_6 : decode cX7_isFullNet 6 = .ok (.ifCond .le 7, 3) := by decide +kernel
theorem dX7_isFullNet_9 : decode cX7_isFullNet 9 = .ok (.iconst 1, 1) := by decide +kernel
theorem dX7_isFullNet_10 : decode cX7_isFullNet 10 = .ok (.goto 4, 3) := by decide +kernel
theorem dX7_isFullNet_13 : decode cX7_isFullNet 13 = .ok (.iconst 0, 1) := by decide +kernel
theorem dX7_isFullNet_14 : decode cX7_isFullNet 14 = .ok (.istore_n 1, 1) := by decide +kernel
theorem dX7_isFullNet_15 : decode cX7_isFullNet 15 = .ok (.iconst 0, 1) := by decide +kernel
theorem dX7_isFullNet_16 : decode cX7_isFullNet 16 = .ok (.istore_n 2, 1) := by decide +kernel
theorem dX7_isFullNet_17 : decode cX7_isFullNet 17 = .ok (.iload_n 2, 1) := by decide +kernel
theorem dX7_isFullNet_18 : decode cX7_isFullNet 18 = .ok (.aload_n 0, 1) := by decide +kernel
theorem dX7_isFullNet_19 : decode cX7_isFullNet 19 = .ok (.getfield 7, 3) := by decide +kernel
theorem dX7_isFullNet_22 : decode cX7_isFullNet 22 = .ok (.iconst 0, 1) := by decide +kernel
theorem dX7_isFullNet_23 : decode cX7_isFullNet 23 = .ok (.iaload, 1) := by decide +kernel
theorem dX7_isFullNet_24 : decode cX7_isFullNet 24 = .ok (.if_icmp .ge 28, 3) := by decide +kernel
theorem dX7_isFullNet_27 : decode cX7_isFullNet 27 = .ok (.iload_n 1, 1) := by decide +kernel
theorem dX7_isFullNet_28 : decode cX7_isFullNet 28 = .ok (.ifCond .eq 16, 3) := by decide +kernel
theorem dX7_isFullNet_31 : decode cX7_isFullNet 31 = .ok (.aload_n 0, 1) := by decide +kernel
theorem dX7_isFullNet_32 : decode cX7_isFullNet 32 = .ok (.iload_n 2, 1) := by decide +kernel
theorem dX7_isFullNet_33 : decode cX7_isFullNet 33 = .ok (.invokevirtual 73, 3) := by decide +kernel
theorem dX7_isFullNet_36 : decode cX7_isFullNet 36 = .ok (.iconst 3, 1) := by decide +kernel
theorem dX7_isFullNet_37 : decode cX7_isFullNet 37 = .ok (.if_icmp .ne 7, 3) := by decide +kernel
theorem dX7_isFullNet_40 : decode cX7_isFullNet 40 = .ok (.iconst 1, 1) := by decide +kernel
theorem dX7_isFullNet_41 : decode cX7_isFullNet 41 = .ok (.goto 4, 3) := by decide +kernel
theorem dX7_isFullNet_44 : decode cX7_isFullNet 44 = .ok (.iconst 0, 1) := by decide +kernel
theorem dX7_isFullNet_45 : decode cX7_isFullNet 45 = .ok (.istore_n 1, 1) := by decide +kernel
theorem dX7_isFullNet_46 : decode cX7_isFullNet 46 = .ok (.iinc 2 1, 3) := by decide +kernel
theorem dX7_isFullNet_49 : decode cX7_isFullNet 49 = .ok (.goto (-32), 3) := by decide +kernel
theorem dX7_isFullNet_52 : decode cX7_isFullNet 52 = .ok (.iload_n 1, 1) := by decide +kernel
theorem dX7_isFullNet_53 : decode cX7_isFullNet 53 = .ok (.ireturn, 1) := by decide +kernel
theorem dX7_records_0 : decode cX7_records 0 = .ok (.aload_n 0, 1) := by decide +kernel
theorem dX7_records_1 : decode cX7_records 1 = .ok (.getfield 76, 3) := by decide +kernel
theorem dX7_records_4 : decode cX7_records 4 = .ok (.iconst 4, 1) := by decide +kernel
theorem dX7_records_5 : decode cX7_records 5 = .ok (.if_icmp .ne 43, 3) := by decide +kernel
theorem dX7_records_8 : decode cX7_records 8 = .ok (.iconst 0, 1) := by decide +kernel
theorem dX7_records_9 : decode cX7_records 9 = .ok (.istore_n 1, 1) := by decide +kernel
theorem dX7_records_10 : decode cX7_records 10 = .ok (.iload_n 1, 1) := by decide +kernel
theorem dX7_records_11 : decode cX7_records 11 = .ok (.sipush 195, 3) := by decide +kernel
theorem dX7_records_14 : decode cX7_records 14 = .ok (.if_icmp .ge 24, 3) := by decide +kernel
theorem dX7_records_17 : decode cX7_records 17 = .ok (.aload_n 0, 1) := by decide +kernel
theorem dX7_records_18 : decode cX7_records 18 = .ok (.getfield 13, 3) := by decide +kernel
theorem dX7_records_21 : decode cX7_records 21 = .ok (.iload_n 1, 1) := by decide +kernel
theorem dX7_records_22 : decode cX7_records 22 = .ok (.aload_n 0, 1) := by decide +kernel
theorem dX7_records_23 : decode cX7_records 23 = .ok (.getfield 13, 3) := by decide +kernel
theorem dX7_records_26 : decode cX7_records 26 = .ok (.iload_n 1, 1) := by decide +kernel
theorem dX7_records_27 : decode cX7_records 27 = .ok (.bipush 65, 2) := by decide +kernel
theorem dX7_records_29 : decode cX7_records 29 = .ok (.iadd, 1) := by decide +kernel
theorem dX7_records_30 : decode cX7_records 30 = .ok (.iaload, 1) := by decide +kernel
theorem dX7_records_31 : decode cX7_records 31 = .ok (.iastore, 1) := by decide +kernel
theorem dX7_records_32 : decode cX7_records 32 = .ok (.iinc 1 1, 3) := by decide +kernel
theorem dX7_records_35 : decode cX7_records 35 = .ok (.goto (-25), 3) := by decide +kernel
theorem dX7_records_38 : decode cX7_records 38 = .ok (.aload_n 0, 1) := by decide +kernel
theorem dX7_records_39 : decode cX7_records 39 = .ok (.dup, 1) := by decide +kernel
theorem dX7_records_40 : decode cX7_records 40 = .ok (.getfield 76, 3) := by decide +kernel
theorem dX7_records_43 : decode cX7_records 43 = .ok (.iconst 1, 1) := by decide +kernel
theorem dX7_records_44 : decode cX7_records 44 = .ok (.isub, 1) := by decide +kernel
theorem dX7_records_45 : decode cX7_records 45 = .ok (.putfield 76, 3) := by decide +kernel
theorem dX7_records_48 : decode cX7_records 48 = .ok (.iconst 0, 1) := by decide +kernel
theorem dX7_records_49 : decode cX7_records 49 = .ok (.istore_n 1, 1) := by decide +kernel
theorem dX7_records_50 : decode cX7_records 50 = .ok (.iload_n 1, 1) := by decide +kernel
theorem dX7_records_51 : decode cX7_records 51 = .ok (.bipush 65, 2) := by decide +kernel
theorem dX7_records_53 : decode cX7_records 53 = .ok (.if_icmp .ge 29, 3) := by decide +kernel
theorem dX7_records_56 : decode cX7_records 56 = .ok (.aload_n 0, 1) := by decide +kernel
theorem dX7_records_57 : decode cX7_records 57 = .ok (.getfield 13, 3) := by decide +kernel
theorem dX7_records_60 : decode cX7_records 60 = .ok (.bipush 65, 2) := by decide +kernel
theorem dX7_records_62 : decode cX7_records 62 = .ok (.aload_n 0, 1) := by decide +kernel
theorem dX7_records_63 : decode cX7_records 63 = .ok (.getfield 76, 3) := by decide +kernel
theorem dX7_records_66 : decode cX7_records 66 = .ok (.imul, 1) := by decide +kernel
theorem dX7_records_67 : decode cX7_records 67 = .ok (.iload_n 1, 1) := by decide +kernel
theorem dX7_records_68 : decode cX7_records 68 = .ok (.iadd, 1) := by decide +kernel
theorem dX7_records_69 : decode cX7_records 69 = .ok (.aload_n 0, 1) := by decide +kernel
theorem dX7_records_70 : decode cX7_records 70 = .ok (.getfield 7, 3) := by decide +kernel
theorem dX7_records_73 : decode cX7_records 73 = .ok (.iload_n 1, 1) := by decide +kernel
theorem dX7_records_74 : decode cX7_records 74 = .ok (.iaload, 1) := by decide +kernel
theorem dX7_records_75 : decode cX7_records 75 = .ok (.iastore, 1) := by decide +kernel
theorem dX7_records_76 : decode cX7_records 76 = .ok (.iinc 1 1, 3) := by decide +kernel
theorem dX7_records_79 : decode cX7_records 79 = .ok (.goto (-29), 3) := by decide +kernel
theorem dX7_records_82 : decode cX7_records 82 = .ok (.aload_n 0, 1) := by decide +kernel
theorem dX7_records_83 : decode cX7_records 83 = .ok (.dup, 1) := by decide +kernel
theorem dX7_records_84 : decode cX7_records 84 = .ok (.getfield 76, 3) := by decide +kernel
theorem dX7_records_87 : decode cX7_records 87 = .ok (.iconst 1, 1) := by decide +kernel
theorem dX7_records_88 : decode cX7_records 88 = .ok (.iadd, 1) := by decide +kernel
theorem dX7_records_89 : decode cX7_records 89 = .ok (.putfield 76, 3) := by decide +kernel
theorem dX7_records_92 : decode cX7_records 92 = .ok (.return_, 1) := by decide +kernel
theorem dX7_undo_0 : decode cX7_undo 0 = .ok (.aload_n 0, 1) := by decide +kernel
theorem dX7_undo_1 : decode cX7_undo 1 = .ok (.getfield 76, 3) := by decide +kernel
theorem dX7_undo_4 : decode cX7_undo 4 = .ok (.ifCond .ne 6, 3) := by decide +kernel
theorem dX7_undo_7 : decode cX7_undo 7 = .ok (.bipush (-5), 2) := by decide +kernel
theorem dX7_undo_9 : decode cX7_undo 9 = .ok (.ireturn, 1) := by decide +kernel
theorem dX7_undo_10 : decode cX7_undo 10 = .ok (.aload_n 0, 1) := by decide +kernel
theorem dX7_undo_11 : decode cX7_undo 11 = .ok (.dup, 1) := by decide +kernel
theorem dX7_undo_12 : decode cX7_undo 12 = .ok (.getfield 76, 3) := by decide +kernel
theorem dX7_undo_15 : decode cX7_undo 15 = .ok (.iconst 1, 1) := by decide +kernel
theorem dX7_undo_16 : decode cX7_undo 16 = .ok (.isub, 1) := by decide +kernel
theorem dX7_undo_17 : decode cX7_undo 17 = .ok (.putfield 76, 3) := by decide +kernel
theorem dX7_undo_20 : decode cX7_undo 20 = .ok (.iconst 0, 1) := by decide +kernel
theorem dX7_undo_21 : decode cX7_undo 21 = .ok (.istore_n 1, 1) := by decide +kernel
theorem dX7_undo_22 : decode cX7_undo 22 = .ok (.iload_n 1, 1) := by decide +kernel
theorem dX7_undo_23 : decode cX7_undo 23 = .ok (.bipush 65, 2) := by decide +kernel
theorem dX7_undo_25 : decode cX7_undo 25 = .ok (.if_icmp .ge 29, 3) := by decide +kernel
theorem dX7_undo_28 : decode cX7_undo 28 = .ok (.aload_n 0, 1) := by decide +kernel
theorem dX7_undo_29 : decode cX7_undo 29 = .ok (.getfield 7, 3) := by decide +kernel
theorem dX7_undo_32 : decode cX7_undo 32 = .ok (.iload_n 1, 1) := by decide +kernel
theorem dX7_undo_33 : decode cX7_undo 33 = .ok (.aload_n 0, 1) := by decide +kernel
theorem dX7_undo_34 : decode cX7_undo 34 = .ok (.getfield 13, 3) := by decide +kernel
theorem dX7_undo_37 : decode cX7_undo 37 = .ok (.bipush 65, 2) := by decide +kernel
theorem dX7_undo_39 : decode cX7_undo 39 = .ok (.aload_n 0, 1) := by decide +kernel
theorem dX7_undo_40 : decode cX7_undo 40 = .ok (.getfield 76, 3) := by decide +kernel
theorem dX7_undo_43 : decode cX7_undo 43 = .ok (.imul, 1) := by decide +kernel
theorem dX7_undo_44 : decode cX7_undo 44 = .ok (.iload_n 1, 1) := by decide +kernel
theorem dX7_undo_45 : decode cX7_undo 45 = .ok (.iadd, 1) := by decide +kernel
theorem dX7_undo_46 : decode cX7_undo 46 = .ok (.iaload, 1) := by decide +kernel
theorem dX7_undo_47 : decode cX7_undo 47 = .ok (.iastore, 1) := by decide +kernel
theorem dX7_undo_48 : decode cX7_undo 48 = .ok (.iinc 1 1, 3) := by decide +kernel
theorem dX7_undo_51 : decode cX7_undo 51 = .ok (.goto (-29), 3) := by decide +kernel
theorem dX7_undo_54 : decode cX7_undo 54 = .ok (.aload_n 0, 1) := by decide +kernel
theorem dX7_undo_55 : decode cX7_undo 55 = .ok (.getfield 76, 3) := by decide +kernel
theorem dX7_undo_58 : decode cX7_undo 58 = .ok (.ireturn, 1) := by decide +kernel
theorem dX7_keep_0 : decode cX7_keep 0 = .ok (.iconst 0, 1) := by decide +kernel
theorem dX7_keep_1 : decode cX7_keep 1 = .ok (.istore_n 1, 1) := by decide +kernel
theorem dX7_keep_2 : decode cX7_keep 2 = .ok (.iload_n 1, 1) := by decide +kernel
theorem dX7_keep_3 : decode cX7_keep 3 = .ok (.bipush 65, 2) := by decide +kernel
theorem dX7_keep_5 : decode cX7_keep 5 = .ok (.if_icmp .ge 21, 3) := by decide +kernel
theorem dX7_keep_8 : decode cX7_keep 8 = .ok (.aload_n 0, 1) := by decide +kernel
theorem dX7_keep_9 : decode cX7_keep 9 = .ok (.getfield 16, 3) := by decide +kernel
theorem dX7_keep_12 : decode cX7_keep 12 = .ok (.iload_n 1, 1) := by decide +kernel
theorem dX7_keep_13 : decode cX7_keep 13 = .ok (.aload_n 0, 1) := by decide +kernel
theorem dX7_keep_14 : decode cX7_keep 14 = .ok (.getfield 7, 3) := by decide +kernel
theorem dX7_keep_17 : decode cX7_keep 17 = .ok (.iload_n 1, 1) := by decide +kernel
theorem dX7_keep_18 : decode cX7_keep 18 = .ok (.iaload, 1) := by decide +kernel
theorem dX7_keep_19 : decode cX7_keep 19 = .ok (.iastore, 1) := by decide +kernel
theorem dX7_keep_20 : decode cX7_keep 20 = .ok (.iinc 1 1, 3) := by decide +kernel
theorem dX7_keep_23 : decode cX7_keep 23 = .ok (.goto (-21), 3) := by decide +kernel
theorem dX7_keep_26 : decode cX7_keep 26 = .ok (.aload_n 0, 1) := by decide +kernel
theorem dX7_keep_27 : decode cX7_keep 27 = .ok (.iconst 1, 1) := by decide +kernel
theorem dX7_keep_28 : decode cX7_keep 28 = .ok (.putfield 80, 3) := by decide +kernel
theorem dX7_keep_31 : decode cX7_keep 31 = .ok (.aload_n 0, 1) := by decide +kernel
theorem dX7_keep_32 : decode cX7_keep 32 = .ok (.getfield 7, 3) := by decide +kernel
theorem dX7_keep_35 : decode cX7_keep 35 = .ok (.iconst 1, 1) := by decide +kernel
theorem dX7_keep_36 : decode cX7_keep 36 = .ok (.iaload, 1) := by decide +kernel
theorem dX7_keep_37 : decode cX7_keep 37 = .ok (.ireturn, 1) := by decide +kernel
set_option maxRecDepth 20000 in
theorem ggX7_restore_X7_records : GoodIn wsX7_restore wsX7_records := goodIn_r _ [8, 9, 10, 2, 11, 12, 13, 14, 15, 16, 17, 18, 19, 20, 21, 22, 23, 24, 25, 26, 27, 28, 29, 30] (by decide +kernel) (by decide +kernel)
set_option maxRecDepth 20000 in
theorem gX7_restore_X7_records : GoodIn wsX7_restore (wsV RX7 84 RX7 yX7_records wsX7_records) := goodIn_app (goodIn_of _ (by decide +kernel)) ggX7_restore_X7_records
theorem dX7_restore_0 : decode cX7_restore 0 = .ok (.aload_n 0, 1) := by decide +kernel
theorem dX7_restore_1 : decode cX7_restore 1 = .ok (.getfield 80, 3) := by decide +kernel
theorem dX7_restore_4 : decode cX7_restore 4 = .ok (.ifCond .ne 6, 3) := by decide +kernel
theorem dX7_restore_7 : decode cX7_restore 7 = .ok (.bipush (-5), 2) := by decide +kernel
theorem dX7_restore_9 : decode cX7_restore 9 = .ok (.ireturn, 1) := by decide +kernel
theorem dX7_restore_10 : decode cX7_restore 10 = .ok (.aload_n 0, 1) := by decide +kernel
theorem dX7_restore_11 : decode cX7_restore 11 = .ok (.invokevirtual 84, 3) := by decide +kernel
theorem dX7_restore_14 : decode cX7_restore 14 = .ok (.iconst 0, 1) := by decide +kernel
theorem dX7_restore_15 : decode cX7_restore 15 = .ok (.istore_n 1, 1) := by decide +kernel
theorem dX7_restore_16 : decode cX7_restore 16 = .ok (.iload_n 1, 1) := by decide +kernel
theorem dX7_restore_17 : decode cX7_restore 17 = .ok (.bipush 65, 2) := by decide +kernel
theorem dX7_restore_19 : decode cX7_restore 19 = .ok (.if_icmp .ge 21, 3) := by decide +kernel
theorem dX7_restore_22 : decode cX7_restore 22 = .ok (.aload_n 0, 1) := by decide +kernel
theorem dX7_restore_23 : decode cX7_restore 23 = .ok (.getfield 7, 3) := by decide +kernel
theorem dX7_restore_26 : decode cX7_restore 26 = .ok (.iload_n 1, 1) := by decide +kernel
theorem dX7_restore_27 : decode cX7_restore 27 = .ok (.aload_n 0, 1) := by decide +kernel
theorem dX7_restore_28 : decode cX7_restore 28 = .ok (.getfield 16, 3) := by decide +kernel
theorem dX7_restore_31 : decode cX7_restore 31 = .ok (.iload_n 1, 1) := by decide +kernel
theorem dX7_restore_32 : decode cX7_restore 32 = .ok (.iaload, 1) := by decide +kernel
theorem dX7_restore_33 : decode cX7_restore 33 = .ok (.iastore, 1) := by decide +kernel
theorem dX7_restore_34 : decode cX7_restore 34 = .ok (.iinc 1 1, 3) := by decide +kernel
theorem dX7_restore_37 : decode cX7_restore 37 = .ok (.goto (-21), 3) := by decide +kernel
theorem dX7_restore_40 : decode cX7_restore 40 = .ok (.aload_n 0, 1) := by decide +kernel
theorem dX7_restore_41 : decode cX7_restore 41 = .ok (.getfield 7, 3) := by decide +kernel
theorem dX7_restore_44 : decode cX7_restore 44 = .ok (.iconst 1, 1) := by decide +kernel
theorem dX7_restore_45 : decode cX7_restore 45 = .ok (.iaload, 1) := by decide +kernel
theorem dX7_restore_46 : decode cX7_restore 46 = .ok (.ireturn, 1) := by decide +kernel
theorem dX7_early_0 : decode cX7_early 0 = .ok (.iload_n 0, 1) := by decide +kernel
theorem dX7_early_1 : decode cX7_early 1 = .ok (.tableswitch 47 0 3 #[31, 35, 39, 43], 31) := by decide +kernel
theorem dX7_early_32 : decode cX7_early 32 = .ok (.ldc2_w 87, 3) := by decide +kernel
theorem dX7_early_35 : decode cX7_early 35 = .ok (.lreturn, 1) := by decide +kernel
theorem dX7_early_36 : decode cX7_early 36 = .ok (.ldc2_w 89, 3) := by decide +kernel
theorem dX7_early_39 : decode cX7_early 39 = .ok (.lreturn, 1) := by decide +kernel
theorem dX7_early_40 : decode cX7_early 40 = .ok (.ldc2_w 91, 3) := by decide +kernel
theorem dX7_early_43 : decode cX7_early 43 = .ok (.lreturn, 1) := by decide +kernel
theorem dX7_early_44 : decode cX7_early 44 = .ok (.ldc2_w 93, 3) := by decide +kernel
theorem dX7_early_47 : decode cX7_early 47 = .ok (.lreturn, 1) := by decide +kernel
theorem dX7_early_48 : decode cX7_early 48 = .ok (.ldc2_w 95, 3) := by decide +kernel
theorem dX7_early_51 : decode cX7_early 51 = .ok (.lreturn, 1) := by decide +kernel
theorem dX7_late_0 : decode cX7_late 0 = .ok (.iload_n 0, 1) := by decide +kernel
theorem dX7_late_1 : decode cX7_late 1 = .ok (.lookupswitch 35 #[(2, 27), (4, 31)], 27) := by decide +kernel
theorem dX7_late_28 : decode cX7_late 28 = .ok (.ldc2_w 97, 3) := by decide +kernel
theorem dX7_late_31 : decode cX7_late 31 = .ok (.lreturn, 1) := by decide +kernel
theorem dX7_late_32 : decode cX7_late 32 = .ok (.ldc2_w 99, 3) := by decide +kernel
theorem dX7_late_35 : decode cX7_late 35 = .ok (.lreturn, 1) := by decide +kernel
theorem dX7_late_36 : decode cX7_late 36 = .ok (.ldc2_w 101, 3) := by decide +kernel
theorem dX7_late_39 : decode cX7_late 39 = .ok (.lreturn, 1) := by decide +kernel
theorem dX7_knotsIn_0 : decode cX7_knotsIn 0 = .ok (.iload_n 0, 1) := by decide +kernel
theorem dX7_knotsIn_1 : decode cX7_knotsIn 1 = .ok (.ifCond .ne 7, 3) := by decide +kernel
theorem dX7_knotsIn_4 : decode cX7_knotsIn 4 = .ok (.iconst 4, 1) := by decide +kernel
theorem dX7_knotsIn_5 : decode cX7_knotsIn 5 = .ok (.goto 17, 3) := by decide +kernel
theorem dX7_knotsIn_8 : decode cX7_knotsIn 8 = .ok (.iload_n 0, 1) := by decide +kernel
theorem dX7_knotsIn_9 : decode cX7_knotsIn 9 = .ok (.iconst 2, 1) := by decide +kernel
theorem dX7_knotsIn_10 : decode cX7_knotsIn 10 = .ok (.irem, 1) := by decide +kernel
theorem dX7_knotsIn_11 : decode cX7_knotsIn 11 = .ok (.iconst 1, 1) := by decide +kernel
theorem dX7_knotsIn_12 : decode cX7_knotsIn 12 = .ok (.if_icmp .ne 8, 3) := by decide +kernel
theorem dX7_knotsIn_15 : decode cX7_knotsIn 15 = .ok (.bipush 6, 2) := by decide +kernel
theorem dX7_knotsIn_17 : decode cX7_knotsIn 17 = .ok (.goto 5, 3) := by decide +kernel
theorem dX7_knotsIn_20 : decode cX7_knotsIn 20 = .ok (.bipush 10, 2) := by decide +kernel
theorem dX7_knotsIn_22 : decode cX7_knotsIn 22 = .ok (.ireturn, 1) := by decide +kernel
set_option maxRecDepth 20000 in
theorem ggX7_take_X7_in : GoodIn wsX7_take wsX7_in := goodIn_r _ [6] (by decide +kernel) (by decide +kernel)
set_option maxRecDepth 20000 in
theorem gX7_take_X7_in : GoodIn wsX7_take (va_wsS RX7 52 yX7_in wsX7_in) := goodIn_app (goodIn_of _ (by decide +kernel)) ggX7_take_X7_in
set_option maxRecDepth 20000 in
theorem ggX7_take_X7_records : GoodIn wsX7_take wsX7_records := goodIn_r _ [10, 11, 12, 1, 38, 39, 40, 41, 42, 43, 44, 45, 46, 47, 48, 49, 50, 51, 52, 53, 54, 55, 56, 57] (by decide +kernel) (by decide +kernel)
set_option maxRecDepth 20000 in
theorem gX7_take_X7_records : GoodIn wsX7_take (wsV RX7 84 RX7 yX7_records wsX7_records) := goodIn_app (goodIn_of _ (by decide +kernel)) ggX7_take_X7_records
set_option maxRecDepth 20000 in
theorem ggX7_take_X7_knotsIn : GoodIn wsX7_take wsX7_knotsIn := goodIn_r _ [15] (by decide +kernel) (by decide +kernel)
set_option maxRecDepth 20000 in
theorem gX7_take_X7_knotsIn : GoodIn wsX7_take (va_wsS RX7 103 yX7_knotsIn wsX7_knotsIn) := goodIn_app (goodIn_of _ (by decide +kernel)) ggX7_take_X7_knotsIn
set_option maxRecDepth 20000 in
theorem ggX7_take_X7_early : GoodIn wsX7_take wsX7_early := goodIn_r _ [18, 19, 20, 21, 22, 23] (by decide +kernel) (by decide +kernel)
set_option maxRecDepth 20000 in
theorem gX7_take_X7_early : GoodIn wsX7_take (va_wsS RX7 106 yX7_early wsX7_early) := goodIn_app (goodIn_of _ (by decide +kernel)) ggX7_take_X7_early
set_option maxRecDepth 20000 in
theorem ggX7_take_X7_late : GoodIn wsX7_take wsX7_late := goodIn_r _ [26, 27, 28, 29] (by decide +kernel) (by decide +kernel)
set_option maxRecDepth 20000 in
theorem gX7_take_X7_late : GoodIn wsX7_take (va_wsS RX7 110 yX7_late wsX7_late) := goodIn_app (goodIn_of _ (by decide +kernel)) ggX7_take_X7_late
set_option maxRecDepth 20000 in
theorem ggX7_take_X7_adds : GoodIn wsX7_take wsX7_adds := goodIn_r _ [33, 1, 34, 35, 36, 5, 37, 38, 39, 40, 41, 42, 43, 44, 45, 46, 47, 48, 49, 50, 51, 52, 53, 54, 55, 56, 57] (by decide +kernel) (by decide +kernel)
set_option maxRecDepth 20000 in
theorem gX7_take_X7_adds : GoodIn wsX7_take (wsV RX7 115 RX7 yX7_adds wsX7_adds) := goodIn_app (goodIn_of _ (by decide +kernel)) ggX7_take_X7_adds
theorem dX7_take_0 : decode cX7_take 0 = .ok (.iload_n 1, 1) := by decide +kernel
theorem dX7_take_1 : decode cX7_take 1 = .ok (.iconst 0, 1) := by decide +kernel
theorem dX7_take_2 : decode cX7_take 2 = .ok (.iconst 4, 1) := by decide +kernel
theorem dX7_take_3 : decode cX7_take 3 = .ok (.invokestatic 52, 3) := by decide +kernel
theorem dX7_take_6 : decode cX7_take 6 = .ok (.ifCond .ne 6, 3) := by decide +kernel
theorem dX7_take_9 : decode cX7_take 9 = .ok (.bipush (-2), 2) := by decide +kernel
theorem dX7_take_11 : decode cX7_take 11 = .ok (.ireturn, 1) := by decide +kernel
theorem dX7_take_12 : decode cX7_take 12 = .ok (.aload_n 0, 1) := by decide +kernel
theorem dX7_take_13 : decode cX7_take 13 = .ok (.invokevirtual 84, 3) := by decide +kernel
theorem dX7_take_16 : decode cX7_take 16 = .ok (.aload_n 0, 1) := by decide +kernel
theorem dX7_take_17 : decode cX7_take 17 = .ok (.getfield 7, 3) := by decide +kernel
theorem dX7_take_20 : decode cX7_take 20 = .ok (.iconst 0, 1) := by decide +kernel
theorem dX7_take_21 : decode cX7_take 21 = .ok (.iload_n 1, 1) := by decide +kernel
theorem dX7_take_22 : decode cX7_take 22 = .ok (.invokestatic 103, 3) := by decide +kernel
theorem dX7_take_25 : decode cX7_take 25 = .ok (.iastore, 1) := by decide +kernel
theorem dX7_take_26 : decode cX7_take 26 = .ok (.aload_n 0, 1) := by decide +kernel
theorem dX7_take_27 : decode cX7_take 27 = .ok (.getfield 7, 3) := by decide +kernel
theorem dX7_take_30 : decode cX7_take 30 = .ok (.iconst 1, 1) := by decide +kernel
theorem dX7_take_31 : decode cX7_take 31 = .ok (.iconst 0, 1) := by decide +kernel
theorem dX7_take_32 : decode cX7_take 32 = .ok (.iastore, 1) := by decide +kernel
theorem dX7_take_33 : decode cX7_take 33 = .ok (.iconst 0, 1) := by decide +kernel
theorem dX7_take_34 : decode cX7_take 34 = .ok (.istore_n 2, 1) := by decide +kernel
theorem dX7_take_35 : decode cX7_take 35 = .ok (.iload_n 2, 1) := by decide +kernel
theorem dX7_take_36 : decode cX7_take 36 = .ok (.iconst 3, 1) := by decide +kernel
theorem dX7_take_37 : decode cX7_take 37 = .ok (.aload_n 0, 1) := by decide +kernel
theorem dX7_take_38 : decode cX7_take 38 = .ok (.getfield 7, 3) := by decide +kernel
theorem dX7_take_41 : decode cX7_take 41 = .ok (.iconst 0, 1) := by decide +kernel
theorem dX7_take_42 : decode cX7_take 42 = .ok (.iaload, 1) := by decide +kernel
theorem dX7_take_43 : decode cX7_take 43 = .ok (.imul, 1) := by decide +kernel
theorem dX7_take_44 : decode cX7_take 44 = .ok (.iconst 2, 1) := by decide +kernel
theorem dX7_take_45 : decode cX7_take 45 = .ok (.idiv, 1) := by decide +kernel
theorem dX7_take_46 : decode cX7_take 46 = .ok (.if_icmp .ge 60, 3) := by decide +kernel
theorem dX7_take_49 : decode cX7_take 49 = .ok (.iload_n 2, 1) := by decide +kernel
theorem dX7_take_50 : decode cX7_take 50 = .ok (.bipush 8, 2) := by decide +kernel
theorem dX7_take_52 : decode cX7_take 52 = .ok (.if_icmp .ge 10, 3) := by decide +kernel
theorem dX7_take_55 : decode cX7_take 55 = .ok (.iload_n 1, 1) := by decide +kernel
theorem dX7_take_56 : decode cX7_take 56 = .ok (.invokestatic 106, 3) := by decide +kernel
theorem dX7_take_59 : decode cX7_take 59 = .ok (.goto 7, 3) := by decide +kernel
theorem dX7_take_62 : decode cX7_take 62 = .ok (.iload_n 1, 1) := by decide +kernel
theorem dX7_take_63 : decode cX7_take 63 = .ok (.invokestatic 110, 3) := by decide +kernel
theorem dX7_take_66 : decode cX7_take 66 = .ok (.lstore_n 3, 1) := by decide +kernel
theorem dX7_take_67 : decode cX7_take 67 = .ok (.lload_n 3, 1) := by decide +kernel
theorem dX7_take_68 : decode cX7_take 68 = .ok (.bipush 56, 2) := by decide +kernel
theorem dX7_take_70 : decode cX7_take 70 = .ok (.bipush 8, 2) := by decide +kernel
theorem dX7_take_72 : decode cX7_take 72 = .ok (.iload_n 2, 1) := by decide +kernel
theorem dX7_take_73 : decode cX7_take 73 = .ok (.bipush 8, 2) := by decide +kernel
theorem dX7_take_75 : decode cX7_take 75 = .ok (.irem, 1) := by decide +kernel
theorem dX7_take_76 : decode cX7_take 76 = .ok (.imul, 1) := by decide +kernel
theorem dX7_take_77 : decode cX7_take 77 = .ok (.isub, 1) := by decide +kernel
theorem dX7_take_78 : decode cX7_take 78 = .ok (.lshr, 1) := by decide +kernel
theorem dX7_take_79 : decode cX7_take 79 = .ok (.ldc2_w 113, 3) := by decide +kernel
theorem dX7_take_82 : decode cX7_take 82 = .ok (.land, 1) := by decide +kernel
theorem dX7_take_83 : decode cX7_take 83 = .ok (.l2i, 1) := by decide +kernel
theorem dX7_take_84 : decode cX7_take 84 = .ok (.istore 5, 2) := by decide +kernel
theorem dX7_take_86 : decode cX7_take 86 = .ok (.aload_n 0, 1) := by decide +kernel
theorem dX7_take_87 : decode cX7_take 87 = .ok (.iload 5, 2) := by decide +kernel
theorem dX7_take_89 : decode cX7_take 89 = .ok (.bipush 16, 2) := by decide +kernel
theorem dX7_take_91 : decode cX7_take 91 = .ok (.idiv, 1) := by decide +kernel
theorem dX7_take_92 : decode cX7_take 92 = .ok (.iload 5, 2) := by decide +kernel
theorem dX7_take_94 : decode cX7_take 94 = .ok (.bipush 16, 2) := by decide +kernel
theorem dX7_take_96 : decode cX7_take 96 = .ok (.irem, 1) := by decide +kernel
theorem dX7_take_97 : decode cX7_take 97 = .ok (.invokevirtual 115, 3) := by decide +kernel
theorem dX7_take_100 : decode cX7_take 100 = .ok (.iinc 2 1, 3) := by decide +kernel
theorem dX7_take_103 : decode cX7_take 103 = .ok (.goto (-68), 3) := by decide +kernel
theorem dX7_take_106 : decode cX7_take 106 = .ok (.aload_n 0, 1) := by decide +kernel
theorem dX7_take_107 : decode cX7_take 107 = .ok (.getfield 7, 3) := by decide +kernel
theorem dX7_take_110 : decode cX7_take 110 = .ok (.iconst 0, 1) := by decide +kernel
theorem dX7_take_111 : decode cX7_take 111 = .ok (.iaload, 1) := by decide +kernel
theorem dX7_take_112 : decode cX7_take 112 = .ok (.ireturn, 1) := by decide +kernel
set_option maxRecDepth 20000 in
theorem ggX7_addKnot_X7_records : GoodIn wsX7_addKnot wsX7_records := goodIn_r _ [6, 7, 8, 1, 9, 10, 11, 12, 13, 14, 15, 16, 17, 18, 19, 20, 21, 22, 23, 24, 25, 26, 27, 28] (by decide +kernel) (by decide +kernel)
set_option maxRecDepth 20000 in
theorem gX7_addKnot_X7_records : GoodIn wsX7_addKnot (wsV RX7 84 RX7 yX7_records wsX7_records) := goodIn_app (goodIn_of _ (by decide +kernel)) ggX7_addKnot_X7_records
theorem dX7_addKnot_0 : decode cX7_addKnot 0 = .ok (.aload_n 0, 1) := by decide +kernel
theorem dX7_addKnot_1 : decode cX7_addKnot 1 = .ok (.getfield 7, 3) := by decide +kernel
theorem dX7_addKnot_4 : decode cX7_addKnot 4 = .ok (.iconst 0, 1) := by decide +kernel
theorem dX7_addKnot_5 : decode cX7_addKnot 5 = .ok (.iaload, 1) := by decide +kernel
theorem dX7_addKnot_6 : decode cX7_addKnot 6 = .ok (.bipush 14, 2) := by decide +kernel
theorem dX7_addKnot_8 : decode cX7_addKnot 8 = .ok (.if_icmp .ne 6, 3) := by decide +kernel
theorem dX7_addKnot_11 : decode cX7_addKnot 11 = .ok (.bipush (-3), 2) := by decide +kernel
theorem dX7_addKnot_13 : decode cX7_addKnot 13 = .ok (.ireturn, 1) := by decide +kernel
theorem dX7_addKnot_14 : decode cX7_addKnot 14 = .ok (.aload_n 0, 1) := by decide +kernel
theorem dX7_addKnot_15 : decode cX7_addKnot 15 = .ok (.invokevirtual 84, 3) := by decide +kernel
theorem dX7_addKnot_18 : decode cX7_addKnot 18 = .ok (.aload_n 0, 1) := by decide +kernel
theorem dX7_addKnot_19 : decode cX7_addKnot 19 = .ok (.getfield 7, 3) := by decide +kernel
theorem dX7_addKnot_22 : decode cX7_addKnot 22 = .ok (.iconst 0, 1) := by decide +kernel
theorem dX7_addKnot_23 : decode cX7_addKnot 23 = .ok (.dup2, 1) := by decide +kernel
theorem dX7_addKnot_24 : decode cX7_addKnot 24 = .ok (.iaload, 1) := by decide +kernel
theorem dX7_addKnot_25 : decode cX7_addKnot 25 = .ok (.iconst 1, 1) := by decide +kernel
theorem dX7_addKnot_26 : decode cX7_addKnot 26 = .ok (.iadd, 1) := by decide +kernel
theorem dX7_addKnot_27 : decode cX7_addKnot 27 = .ok (.iastore, 1) := by decide +kernel
theorem dX7_addKnot_28 : decode cX7_addKnot 28 = .ok (.aload_n 0, 1) := by decide +kernel
theorem dX7_addKnot_29 : decode cX7_addKnot 29 = .ok (.getfield 7, 3) := by decide +kernel
theorem dX7_addKnot_32 : decode cX7_addKnot 32 = .ok (.iconst 0, 1) := by decide +kernel
theorem dX7_addKnot_33 : decode cX7_addKnot 33 = .ok (.iaload, 1) := by decide +kernel
theorem dX7_addKnot_34 : decode cX7_addKnot 34 = .ok (.iconst 1, 1) := by decide +kernel
theorem dX7_addKnot_35 : decode cX7_addKnot 35 = .ok (.isub, 1) := by decide +kernel
theorem dX7_addKnot_36 : decode cX7_addKnot 36 = .ok (.ireturn, 1) := by decide +kernel
set_option maxRecDepth 20000 in
theorem ggX7_removeKnot_X7_isKnot : GoodIn wsX7_removeKnot wsX7_isKnot := goodIn_r _ [6, 1, 7, 8, 5, 9, 36, 37, 38, 39, 40, 41, 42, 43, 44, 45, 46, 47, 48, 49, 50, 51, 52, 53, 54, 55] (by decide +kernel) (by decide +kernel)
set_option maxRecDepth 20000 in
theorem gX7_removeKnot_X7_isKnot : GoodIn wsX7_removeKnot (wsV RX7 119 RX7 yX7_isKnot wsX7_isKnot) := goodIn_app (goodIn_of _ (by decide +kernel)) ggX7_removeKnot_X7_isKnot
set_option maxRecDepth 20000 in
theorem ggX7_removeKnot_X7_records : GoodIn wsX7_removeKnot wsX7_records := goodIn_r _ [13, 14, 15, 1, 36, 37, 38, 39, 40, 41, 42, 43, 44, 45, 46, 47, 48, 49, 50, 51, 52, 53, 54, 55] (by decide +kernel) (by decide +kernel)
set_option maxRecDepth 20000 in
theorem gX7_removeKnot_X7_records : GoodIn wsX7_removeKnot (wsV RX7 84 RX7 yX7_records wsX7_records) := goodIn_app (goodIn_of _ (by decide +kernel)) ggX7_removeKnot_X7_records
set_option maxRecDepth 20000 in
theorem ggX7_removeKnot_X7_isAt : GoodIn wsX7_removeKnot wsX7_isAt := goodIn_r _ [19, 20, 21, 22, 5, 23, 1, 36, 37, 38, 39, 40, 41, 42, 43, 44, 45, 46, 47, 48, 49, 50, 51, 52, 53, 54, 55] (by decide +kernel) (by decide +kernel)
set_option maxRecDepth 20000 in
theorem gX7_removeKnot_X7_isAt : GoodIn wsX7_removeKnot (wsV RX7 60 RX7 yX7_isAt wsX7_isAt) := goodIn_app (goodIn_of _ (by decide +kernel)) ggX7_removeKnot_X7_isAt
set_option maxRecDepth 20000 in
theorem ggX7_removeKnot_X7_dropThread : GoodIn wsX7_removeKnot wsX7_dropThread := goodIn_r _ [27, 1, 36, 37, 38, 39, 40, 41, 42, 43, 44, 45, 46, 47, 48, 49, 50, 51, 52, 53, 54, 55] (by decide +kernel) (by decide +kernel)
set_option maxRecDepth 20000 in
theorem gX7_removeKnot_X7_dropThread : GoodIn wsX7_removeKnot (wsV RX7 123 RX7 yX7_dropThread wsX7_dropThread) := goodIn_app (goodIn_of _ (by decide +kernel)) ggX7_removeKnot_X7_dropThread
set_option maxRecDepth 20000 in
theorem ggX7_removeKnot_X7_dropKnot : GoodIn wsX7_removeKnot wsX7_dropKnot := goodIn_r _ [31, 1, 20, 21, 22, 5, 23, 32, 33, 34, 35, 36, 37, 38, 39, 40, 41, 42, 43, 44, 45, 46, 47, 48, 49, 50, 51, 52, 53, 54, 55] (by decide +kernel) (by decide +kernel)
set_option maxRecDepth 20000 in
theorem gX7_removeKnot_X7_dropKnot : GoodIn wsX7_removeKnot (wsV RX7 127 RX7 yX7_dropKnot wsX7_dropKnot) := goodIn_app (goodIn_of _ (by decide +kernel)) ggX7_removeKnot_X7_dropKnot
theorem dX7_removeKnot_0 : decode cX7_removeKnot 0 = .ok (.aload_n 0, 1) := by decide +kernel
theorem dX7_removeKnot_1 : decode cX7_removeKnot 1 = .ok (.iload_n 1, 1) := by decide +kernel
theorem dX7_removeKnot_2 : decode cX7_removeKnot 2 = .ok (.invokevirtual 119, 3) := by decide +kernel
theorem dX7_removeKnot_5 : decode cX7_removeKnot 5 = .ok (.ifCond .ne 5, 3) := by decide +kernel
theorem dX7_removeKnot_8 : decode cX7_removeKnot 8 = .ok (.iconst (-1), 1) := by decide +kernel
theorem dX7_removeKnot_9 : decode cX7_removeKnot 9 = .ok (.ireturn, 1) := by decide +kernel
theorem dX7_removeKnot_10 : decode cX7_removeKnot 10 = .ok (.aload_n 0, 1) := by decide +kernel
theorem dX7_removeKnot_11 : decode cX7_removeKnot 11 = .ok (.invokevirtual 84, 3) := by decide +kernel
theorem dX7_removeKnot_14 : decode cX7_removeKnot 14 = .ok (.aload_n 0, 1) := by decide +kernel
theorem dX7_removeKnot_15 : decode cX7_removeKnot 15 = .ok (.getfield 7, 3) := by decide +kernel
theorem dX7_removeKnot_18 : decode cX7_removeKnot 18 = .ok (.iconst 1, 1) := by decide +kernel
theorem dX7_removeKnot_19 : decode cX7_removeKnot 19 = .ok (.iaload, 1) := by decide +kernel
theorem dX7_removeKnot_20 : decode cX7_removeKnot 20 = .ok (.iconst 1, 1) := by decide +kernel
theorem dX7_removeKnot_21 : decode cX7_removeKnot 21 = .ok (.isub, 1) := by decide +kernel
theorem dX7_removeKnot_22 : decode cX7_removeKnot 22 = .ok (.istore_n 2, 1) := by decide +kernel
theorem dX7_removeKnot_23 : decode cX7_removeKnot 23 = .ok (.iload_n 2, 1) := by decide +kernel
theorem dX7_removeKnot_24 : decode cX7_removeKnot 24 = .ok (.ifCond .lt 23, 3) := by decide +kernel
theorem dX7_removeKnot_27 : decode cX7_removeKnot 27 = .ok (.aload_n 0, 1) := by decide +kernel
theorem dX7_removeKnot_28 : decode cX7_removeKnot 28 = .ok (.iload_n 2, 1) := by decide +kernel
theorem dX7_removeKnot_29 : decode cX7_removeKnot 29 = .ok (.iload_n 1, 1) := by decide +kernel
theorem dX7_removeKnot_30 : decode cX7_removeKnot 30 = .ok (.invokevirtual 60, 3) := by decide +kernel
theorem dX7_removeKnot_33 : decode cX7_removeKnot 33 = .ok (.ifCond .eq 8, 3) := by decide +kernel
theorem dX7_removeKnot_36 : decode cX7_removeKnot 36 = .ok (.aload_n 0, 1) := by decide +kernel
theorem dX7_removeKnot_37 : decode cX7_removeKnot 37 = .ok (.iload_n 2, 1) := by decide +kernel
theorem dX7_removeKnot_38 : decode cX7_removeKnot 38 = .ok (.invokevirtual 123, 3) := by decide +kernel
theorem dX7_removeKnot_41 : decode cX7_removeKnot 41 = .ok (.iinc 2 (-1), 3) := by decide +kernel
theorem dX7_removeKnot_44 : decode cX7_removeKnot 44 = .ok (.goto (-21), 3) := by decide +kernel
theorem dX7_removeKnot_47 : decode cX7_removeKnot 47 = .ok (.aload_n 0, 1) := by decide +kernel
theorem dX7_removeKnot_48 : decode cX7_removeKnot 48 = .ok (.iload_n 1, 1) := by decide +kernel
theorem dX7_removeKnot_49 : decode cX7_removeKnot 49 = .ok (.invokevirtual 127, 3) := by decide +kernel
theorem dX7_removeKnot_52 : decode cX7_removeKnot 52 = .ok (.aload_n 0, 1) := by decide +kernel
theorem dX7_removeKnot_53 : decode cX7_removeKnot 53 = .ok (.getfield 7, 3) := by decide +kernel
theorem dX7_removeKnot_56 : decode cX7_removeKnot 56 = .ok (.iconst 1, 1) := by decide +kernel
theorem dX7_removeKnot_57 : decode cX7_removeKnot 57 = .ok (.iaload, 1) := by decide +kernel
theorem dX7_removeKnot_58 : decode cX7_removeKnot 58 = .ok (.ireturn, 1) := by decide +kernel
set_option maxRecDepth 20000 in
theorem ggX7_addThread_X7_isKnot : GoodIn wsX7_addThread wsX7_isKnot := goodIn_r _ [6, 1, 7, 8, 5, 9, 47, 48, 49, 50, 51, 52, 53, 54, 55, 56, 57, 58, 59, 60, 61, 62, 63, 64, 65, 66] (by decide +kernel) (by decide +kernel)
set_option maxRecDepth 20000 in
theorem gX7_addThread_X7_isKnot : GoodIn wsX7_addThread (wsV RX7 119 RX7 yX7_isKnot wsX7_isKnot) := goodIn_app (goodIn_of _ (by decide +kernel)) ggX7_addThread_X7_isKnot
set_option maxRecDepth 20000 in
theorem ggX7_addThread_X7_threadBetween : GoodIn wsX7_addThread wsX7_threadBetween := goodIn_r _ [13, 1, 14, 15, 16, 5, 17, 18, 19, 20, 21, 47, 48, 49, 50, 51, 52, 53, 54, 55, 56, 57, 58, 59, 60, 61, 62, 63, 64, 65, 66] (by decide +kernel) (by decide +kernel)
set_option maxRecDepth 20000 in
theorem gX7_addThread_X7_threadBetween : GoodIn wsX7_addThread (wsV RX7 130 RX7 yX7_threadBetween wsX7_threadBetween) := goodIn_app (goodIn_of _ (by decide +kernel)) ggX7_addThread_X7_threadBetween
set_option maxRecDepth 20000 in
theorem ggX7_addThread_X7_degree : GoodIn wsX7_addThread wsX7_degree := goodIn_r _ [25, 26, 27, 28, 5, 29, 1, 14, 15, 16, 17, 18, 19, 20, 21, 30, 31, 32, 47, 48, 49, 50, 51, 52, 53, 54, 55, 56, 57, 58, 59, 60, 61, 62, 63, 64, 65, 66] (by decide +kernel) (by decide +kernel)
set_option maxRecDepth 20000 in
theorem gX7_addThread_X7_degree : GoodIn wsX7_addThread (wsV RX7 73 RX7 yX7_degree wsX7_degree) := goodIn_app (goodIn_of _ (by decide +kernel)) ggX7_addThread_X7_degree
set_option maxRecDepth 20000 in
theorem ggX7_addThread_X7_records : GoodIn wsX7_addThread wsX7_records := goodIn_r _ [36, 37, 38, 1, 47, 48, 49, 50, 51, 52, 53, 54, 55, 56, 57, 58, 59, 60, 61, 62, 63, 64, 65, 66] (by decide +kernel) (by decide +kernel)
set_option maxRecDepth 20000 in
theorem gX7_addThread_X7_records : GoodIn wsX7_addThread (wsV RX7 84 RX7 yX7_records wsX7_records) := goodIn_app (goodIn_of _ (by decide +kernel)) ggX7_addThread_X7_records
set_option maxRecDepth 20000 in
theorem ggX7_addThread_X7_adds : GoodIn wsX7_addThread wsX7_adds := goodIn_r _ [42, 1, 43, 44, 45, 5, 46, 47, 48, 49, 50, 51, 52, 53, 54, 55, 56, 57, 58, 59, 60, 61, 62, 63, 64, 65, 66] (by decide +kernel) (by decide +kernel)
set_option maxRecDepth 20000 in
theorem gX7_addThread_X7_adds : GoodIn wsX7_addThread (wsV RX7 115 RX7 yX7_adds wsX7_adds) := goodIn_app (goodIn_of _ (by decide +kernel)) ggX7_addThread_X7_adds
theorem dX7_addThread_0 : decode cX7_addThread 0 = .ok (.aload_n 0, 1) := by decide +kernel
theorem dX7_addThread_1 : decode cX7_addThread 1 = .ok (.iload_n 1, 1) := by decide +kernel
theorem dX7_addThread_2 : decode cX7_addThread 2 = .ok (.invokevirtual 119, 3) := by decide +kernel
theorem dX7_addThread_5 : decode cX7_addThread 5 = .ok (.ifCond .eq 11, 3) := by decide +kernel
theorem dX7_addThread_8 : decode cX7_addThread 8 = .ok (.aload_n 0, 1) := by decide +kernel
theorem dX7_addThread_9 : decode cX7_addThread 9 = .ok (.iload_n 2, 1) := by decide +kernel
theorem dX7_addThread_10 : decode cX7_addThread 10 = .ok (.invokevirtual 119, 3) := by decide +kernel
theorem dX7_addThread_13 : decode cX7_addThread 13 = .ok (.ifCond .ne 5, 3) := by decide +kernel
theorem dX7_addThread_16 : decode cX7_addThread 16 = .ok (.iconst (-1), 1) := by decide +kernel
theorem dX7_addThread_17 : decode cX7_addThread 17 = .ok (.ireturn, 1) := by decide +kernel
theorem dX7_addThread_18 : decode cX7_addThread 18 = .ok (.iload_n 1, 1) := by decide +kernel
theorem dX7_addThread_19 : decode cX7_addThread 19 = .ok (.iload_n 2, 1) := by decide +kernel
theorem dX7_addThread_20 : decode cX7_addThread 20 = .ok (.if_icmp .ne 6, 3) := by decide +kernel
theorem dX7_addThread_23 : decode cX7_addThread 23 = .ok (.bipush (-2), 2) := by decide +kernel
theorem dX7_addThread_25 : decode cX7_addThread 25 = .ok (.ireturn, 1) := by decide +kernel
theorem dX7_addThread_26 : decode cX7_addThread 26 = .ok (.aload_n 0, 1) := by decide +kernel
theorem dX7_addThread_27 : decode cX7_addThread 27 = .ok (.iload_n 1, 1) := by decide +kernel
theorem dX7_addThread_28 : decode cX7_addThread 28 = .ok (.iload_n 2, 1) := by decide +kernel
theorem dX7_addThread_29 : decode cX7_addThread 29 = .ok (.invokevirtual 130, 3) := by decide +kernel
theorem dX7_addThread_32 : decode cX7_addThread 32 = .ok (.ifCond .ge 21, 3) := by decide +kernel
theorem dX7_addThread_35 : decode cX7_addThread 35 = .ok (.aload_n 0, 1) := by decide +kernel
theorem dX7_addThread_36 : decode cX7_addThread 36 = .ok (.iload_n 1, 1) := by decide +kernel
theorem dX7_addThread_37 : decode cX7_addThread 37 = .ok (.invokevirtual 73, 3) := by decide +kernel
theorem dX7_addThread_40 : decode cX7_addThread 40 = .ok (.iconst 3, 1) := by decide +kernel
theorem dX7_addThread_41 : decode cX7_addThread 41 = .ok (.if_icmp .eq 12, 3) := by decide +kernel
theorem dX7_addThread_44 : decode cX7_addThread 44 = .ok (.aload_n 0, 1) := by decide +kernel
theorem dX7_addThread_45 : decode cX7_addThread 45 = .ok (.iload_n 2, 1) := by decide +kernel
theorem dX7_addThread_46 : decode cX7_addThread 46 = .ok (.invokevirtual 73, 3) := by decide +kernel
theorem dX7_addThread_49 : decode cX7_addThread 49 = .ok (.iconst 3, 1) := by decide +kernel
theorem dX7_addThread_50 : decode cX7_addThread 50 = .ok (.if_icmp .ne 6, 3) := by decide +kernel
theorem dX7_addThread_53 : decode cX7_addThread 53 = .ok (.bipush (-4), 2) := by decide +kernel
theorem dX7_addThread_55 : decode cX7_addThread 55 = .ok (.ireturn, 1) := by decide +kernel
theorem dX7_addThread_56 : decode cX7_addThread 56 = .ok (.aload_n 0, 1) := by decide +kernel
theorem dX7_addThread_57 : decode cX7_addThread 57 = .ok (.invokevirtual 84, 3) := by decide +kernel
theorem dX7_addThread_60 : decode cX7_addThread 60 = .ok (.aload_n 0, 1) := by decide +kernel
theorem dX7_addThread_61 : decode cX7_addThread 61 = .ok (.iload_n 1, 1) := by decide +kernel
theorem dX7_addThread_62 : decode cX7_addThread 62 = .ok (.iload_n 2, 1) := by decide +kernel
theorem dX7_addThread_63 : decode cX7_addThread 63 = .ok (.invokevirtual 115, 3) := by decide +kernel
theorem dX7_addThread_66 : decode cX7_addThread 66 = .ok (.aload_n 0, 1) := by decide +kernel
theorem dX7_addThread_67 : decode cX7_addThread 67 = .ok (.getfield 7, 3) := by decide +kernel
theorem dX7_addThread_70 : decode cX7_addThread 70 = .ok (.iconst 1, 1) := by decide +kernel
theorem dX7_addThread_71 : decode cX7_addThread 71 = .ok (.iaload, 1) := by decide +kernel
theorem dX7_addThread_72 : decode cX7_addThread 72 = .ok (.iconst 1, 1) := by decide +kernel
theorem dX7_addThread_73 : decode cX7_addThread 73 = .ok (.isub, 1) := by decide +kernel
theorem dX7_addThread_74 : decode cX7_addThread 74 = .ok (.ireturn, 1) := by decide +kernel
set_option maxRecDepth 20000 in
theorem ggX7_removeThread_X7_isThread : GoodIn wsX7_removeThread wsX7_isThread := goodIn_r _ [6, 1, 7, 8, 5, 9, 20, 21, 22, 23, 24, 25, 26, 27, 28, 29, 30, 31, 32, 33, 34, 35, 36, 37, 38, 39] (by decide +kernel) (by decide +kernel)
set_option maxRecDepth 20000 in
theorem gX7_removeThread_X7_isThread : GoodIn wsX7_removeThread (wsV RX7 133 RX7 yX7_isThread wsX7_isThread) := goodIn_app (goodIn_of _ (by decide +kernel)) ggX7_removeThread_X7_isThread
set_option maxRecDepth 20000 in
theorem ggX7_removeThread_X7_records : GoodIn wsX7_removeThread wsX7_records := goodIn_r _ [13, 14, 15, 1, 20, 21, 22, 23, 24, 25, 26, 27, 28, 29, 30, 31, 32, 33, 34, 35, 36, 37, 38, 39] (by decide +kernel) (by decide +kernel)
set_option maxRecDepth 20000 in
theorem gX7_removeThread_X7_records : GoodIn wsX7_removeThread (wsV RX7 84 RX7 yX7_records wsX7_records) := goodIn_app (goodIn_of _ (by decide +kernel)) ggX7_removeThread_X7_records
set_option maxRecDepth 20000 in
theorem ggX7_removeThread_X7_dropThread : GoodIn wsX7_removeThread wsX7_dropThread := goodIn_r _ [19, 1, 20, 21, 22, 23, 24, 25, 26, 27, 28, 29, 30, 31, 32, 33, 34, 35, 36, 37, 38, 39] (by decide +kernel) (by decide +kernel)
set_option maxRecDepth 20000 in
theorem gX7_removeThread_X7_dropThread : GoodIn wsX7_removeThread (wsV RX7 123 RX7 yX7_dropThread wsX7_dropThread) := goodIn_app (goodIn_of _ (by decide +kernel)) ggX7_removeThread_X7_dropThread
theorem dX7_removeThread_0 : decode cX7_removeThread 0 = .ok (.aload_n 0, 1) := by decide +kernel
theorem dX7_removeThread_1 : decode cX7_removeThread 1 = .ok (.iload_n 1, 1) := by decide +kernel
theorem dX7_removeThread_2 : decode cX7_removeThread 2 = .ok (.invokevirtual 133, 3) := by decide +kernel
theorem dX7_removeThread_5 : decode cX7_removeThread 5 = .ok (.ifCond .ne 5, 3) := by decide +kernel
theorem dX7_removeThread_8 : decode cX7_removeThread 8 = .ok (.iconst (-1), 1) := by decide +kernel
theorem dX7_removeThread_9 : decode cX7_removeThread 9 = .ok (.ireturn, 1) := by decide +kernel
theorem dX7_removeThread_10 : decode cX7_removeThread 10 = .ok (.aload_n 0, 1) := by decide +kernel
theorem dX7_removeThread_11 : decode cX7_removeThread 11 = .ok (.invokevirtual 84, 3) := by decide +kernel
theorem dX7_removeThread_14 : decode cX7_removeThread 14 = .ok (.aload_n 0, 1) := by decide +kernel
theorem dX7_removeThread_15 : decode cX7_removeThread 15 = .ok (.iload_n 1, 1) := by decide +kernel
theorem dX7_removeThread_16 : decode cX7_removeThread 16 = .ok (.invokevirtual 123, 3) := by decide +kernel
theorem dX7_removeThread_19 : decode cX7_removeThread 19 = .ok (.aload_n 0, 1) := by decide +kernel
theorem dX7_removeThread_20 : decode cX7_removeThread 20 = .ok (.getfield 7, 3) := by decide +kernel
theorem dX7_removeThread_23 : decode cX7_removeThread 23 = .ok (.iconst 1, 1) := by decide +kernel
theorem dX7_removeThread_24 : decode cX7_removeThread 24 = .ok (.iaload, 1) := by decide +kernel
theorem dX7_removeThread_25 : decode cX7_removeThread 25 = .ok (.ireturn, 1) := by decide +kernel
set_option maxRecDepth 20000 in
theorem ggX7_threadAt_X7_threadsOf : GoodIn wsX7_threadAt wsX7_threadsOf := goodIn_r _ [5, 6, 7, 8, 9, 4, 10, 11, 12, 13, 14, 21, 22, 23, 24, 25, 26, 27, 28, 29, 30, 31, 32, 33, 34, 35, 36, 37, 38, 39, 40] (by decide +kernel) (by decide +kernel)
set_option maxRecDepth 20000 in
theorem gX7_threadAt_X7_threadsOf : GoodIn wsX7_threadAt (wsV RX7 63 RX7 yX7_threadsOf wsX7_threadsOf) := goodIn_app (goodIn_of _ (by decide +kernel)) ggX7_threadAt_X7_threadsOf
set_option maxRecDepth 20000 in
theorem ggX7_threadAt_X7_lowest : GoodIn wsX7_threadAt wsX7_lowest := goodIn_r _ [17, 18, 19, 4, 20] (by decide +kernel) (by decide +kernel)
set_option maxRecDepth 20000 in
theorem gX7_threadAt_X7_lowest : GoodIn wsX7_threadAt (va_wsS RX7 136 yX7_lowest wsX7_lowest) := goodIn_app (goodIn_of _ (by decide +kernel)) ggX7_threadAt_X7_lowest
theorem dX7_threadAt_0 : decode cX7_threadAt 0 = .ok (.aload_n 0, 1) := by decide +kernel
theorem dX7_threadAt_1 : decode cX7_threadAt 1 = .ok (.iload_n 1, 1) := by decide +kernel
theorem dX7_threadAt_2 : decode cX7_threadAt 2 = .ok (.invokevirtual 63, 3) := by decide +kernel
theorem dX7_threadAt_5 : decode cX7_threadAt 5 = .ok (.istore_n 3, 1) := by decide +kernel
theorem dX7_threadAt_6 : decode cX7_threadAt 6 = .ok (.iconst 0, 1) := by decide +kernel
theorem dX7_threadAt_7 : decode cX7_threadAt 7 = .ok (.istore 4, 2) := by decide +kernel
theorem dX7_threadAt_9 : decode cX7_threadAt 9 = .ok (.iload 4, 2) := by decide +kernel
theorem dX7_threadAt_11 : decode cX7_threadAt 11 = .ok (.iload_n 2, 1) := by decide +kernel
theorem dX7_threadAt_12 : decode cX7_threadAt 12 = .ok (.if_icmp .ge 15, 3) := by decide +kernel
theorem dX7_threadAt_15 : decode cX7_threadAt 15 = .ok (.iload_n 3, 1) := by decide +kernel
theorem dX7_threadAt_16 : decode cX7_threadAt 16 = .ok (.iload_n 3, 1) := by decide +kernel
theorem dX7_threadAt_17 : decode cX7_threadAt 17 = .ok (.iconst 1, 1) := by decide +kernel
theorem dX7_threadAt_18 : decode cX7_threadAt 18 = .ok (.isub, 1) := by decide +kernel
theorem dX7_threadAt_19 : decode cX7_threadAt 19 = .ok (.iand, 1) := by decide +kernel
theorem dX7_threadAt_20 : decode cX7_threadAt 20 = .ok (.istore_n 3, 1) := by decide +kernel
theorem dX7_threadAt_21 : decode cX7_threadAt 21 = .ok (.iinc 4 1, 3) := by decide +kernel
theorem dX7_threadAt_24 : decode cX7_threadAt 24 = .ok (.goto (-15), 3) := by decide +kernel
theorem dX7_threadAt_27 : decode cX7_threadAt 27 = .ok (.iload_n 3, 1) := by decide +kernel
theorem dX7_threadAt_28 : decode cX7_threadAt 28 = .ok (.invokestatic 136, 3) := by decide +kernel
theorem dX7_threadAt_31 : decode cX7_threadAt 31 = .ok (.ireturn, 1) := by decide +kernel
set_option maxRecDepth 20000 in
theorem ggX7_grow_X7_isKnot : GoodIn wsX7_grow wsX7_isKnot := goodIn_r _ [6, 1, 7, 8, 5, 9, 57, 58, 59, 60, 61, 62, 63, 64, 65, 66, 67, 68, 69, 70, 71, 72, 73, 74, 75, 76] (by decide +kernel) (by decide +kernel)
set_option maxRecDepth 20000 in
theorem gX7_grow_X7_isKnot : GoodIn wsX7_grow (wsV RX7 119 RX7 yX7_isKnot wsX7_isKnot) := goodIn_app (goodIn_of _ (by decide +kernel)) ggX7_grow_X7_isKnot
set_option maxRecDepth 20000 in
theorem ggX7_grow_X7_degree : GoodIn wsX7_grow wsX7_degree := goodIn_r _ [13, 14, 15, 16, 5, 17, 1, 18, 19, 20, 21, 22, 23, 24, 25, 26, 27, 28, 57, 58, 59, 60, 61, 62, 63, 64, 65, 66, 67, 68, 69, 70, 71, 72, 73, 74, 75, 76] (by decide +kernel) (by decide +kernel)
set_option maxRecDepth 20000 in
theorem gX7_grow_X7_degree : GoodIn wsX7_grow (wsV RX7 73 RX7 yX7_degree wsX7_degree) := goodIn_app (goodIn_of _ (by decide +kernel)) ggX7_grow_X7_degree
set_option maxRecDepth 20000 in
theorem ggX7_grow_X7_records : GoodIn wsX7_grow wsX7_records := goodIn_r _ [32, 33, 34, 1, 57, 58, 59, 60, 61, 62, 63, 64, 65, 66, 67, 68, 69, 70, 71, 72, 73, 74, 75, 76] (by decide +kernel) (by decide +kernel)
set_option maxRecDepth 20000 in
theorem gX7_grow_X7_records : GoodIn wsX7_grow (wsV RX7 84 RX7 yX7_records wsX7_records) := goodIn_app (goodIn_of _ (by decide +kernel)) ggX7_grow_X7_records
set_option maxRecDepth 20000 in
theorem ggX7_grow_X7_threadAt : GoodIn wsX7_grow wsX7_threadAt := goodIn_r _ [38, 14, 15, 16, 5, 17, 1, 18, 19, 20, 21, 22, 23, 24, 25, 39, 40, 41, 42, 43, 44, 57, 58, 59, 60, 61, 62, 63, 64, 65, 66, 67, 68, 69, 70, 71, 72, 73, 74, 75, 76] (by decide +kernel) (by decide +kernel)
set_option maxRecDepth 20000 in
theorem gX7_grow_X7_threadAt : GoodIn wsX7_grow (wsV RX7 139 RX7 yX7_threadAt wsX7_threadAt) := goodIn_app (goodIn_of _ (by decide +kernel)) ggX7_grow_X7_threadAt
set_option maxRecDepth 20000 in
theorem ggX7_grow_X7_across : GoodIn wsX7_grow wsX7_across := goodIn_r _ [48, 22, 23, 24, 5, 25, 1, 57, 58, 59, 60, 61, 62, 63, 64, 65, 66, 67, 68, 69, 70, 71, 72, 73, 74, 75, 76] (by decide +kernel) (by decide +kernel)
set_option maxRecDepth 20000 in
theorem gX7_grow_X7_across : GoodIn wsX7_grow (wsV RX7 70 RX7 yX7_across wsX7_across) := goodIn_app (goodIn_of _ (by decide +kernel)) ggX7_grow_X7_across
set_option maxRecDepth 20000 in
theorem ggX7_grow_X7_of : GoodIn wsX7_grow wsX7_of := goodIn_r _ [25, 1, 57, 58, 59, 60, 61, 62, 63, 64, 65, 66, 67, 68, 69, 70, 71, 72, 73, 74, 75, 76] (by decide +kernel) (by decide +kernel)
set_option maxRecDepth 20000 in
theorem gX7_grow_X7_of : GoodIn wsX7_grow (wsV RX7 56 RX7 yX7_of wsX7_of) := goodIn_app (goodIn_of _ (by decide +kernel)) ggX7_grow_X7_of
set_option maxRecDepth 20000 in
theorem ggX7_grow_X7_put : GoodIn wsX7_grow wsX7_put := goodIn_r _ [52, 1, 57, 58, 59, 60, 61, 62, 63, 64, 65, 66, 67, 68, 69, 70, 71, 72, 73, 74, 75, 76] (by decide +kernel) (by decide +kernel)
set_option maxRecDepth 20000 in
theorem gX7_grow_X7_put : GoodIn wsX7_grow (wsV RX7 48 RX7 yX7_put wsX7_put) := goodIn_app (goodIn_of _ (by decide +kernel)) ggX7_grow_X7_put
set_option maxRecDepth 20000 in
theorem ggX7_grow_X7_adds : GoodIn wsX7_grow wsX7_adds := goodIn_r _ [56, 1, 49, 50, 51, 5, 52, 57, 58, 59, 60, 61, 62, 63, 64, 65, 66, 67, 68, 69, 70, 71, 72, 73, 74, 75, 76] (by decide +kernel) (by decide +kernel)
set_option maxRecDepth 20000 in
theorem gX7_grow_X7_adds : GoodIn wsX7_grow (wsV RX7 115 RX7 yX7_adds wsX7_adds) := goodIn_app (goodIn_of _ (by decide +kernel)) ggX7_grow_X7_adds
theorem dX7_grow_0 : decode cX7_grow 0 = .ok (.aload_n 0, 1) := by decide +kernel
theorem dX7_grow_1 : decode cX7_grow 1 = .ok (.iload_n 1, 1) := by decide +kernel
theorem dX7_grow_2 : decode cX7_grow 2 = .ok (.invokevirtual 119, 3) := by decide +kernel
theorem dX7_grow_5 : decode cX7_grow 5 = .ok (.ifCond .ne 5, 3) := by decide +kernel
theorem dX7_grow_8 : decode cX7_grow 8 = .ok (.iconst (-1), 1) := by decide +kernel
theorem dX7_grow_9 : decode cX7_grow 9 = .ok (.ireturn, 1) := by decide +kernel
theorem dX7_grow_10 : decode cX7_grow 10 = .ok (.aload_n 0, 1) := by decide +kernel
theorem dX7_grow_11 : decode cX7_grow 11 = .ok (.iload_n 1, 1) := by decide +kernel
theorem dX7_grow_12 : decode cX7_grow 12 = .ok (.invokevirtual 73, 3) := by decide +kernel
theorem dX7_grow_15 : decode cX7_grow 15 = .ok (.iconst 3, 1) := by decide +kernel
theorem dX7_grow_16 : decode cX7_grow 16 = .ok (.if_icmp .eq 6, 3) := by decide +kernel
theorem dX7_grow_19 : decode cX7_grow 19 = .ok (.bipush (-4), 2) := by decide +kernel
theorem dX7_grow_21 : decode cX7_grow 21 = .ok (.ireturn, 1) := by decide +kernel
theorem dX7_grow_22 : decode cX7_grow 22 = .ok (.aload_n 0, 1) := by decide +kernel
theorem dX7_grow_23 : decode cX7_grow 23 = .ok (.getfield 7, 3) := by decide +kernel
theorem dX7_grow_26 : decode cX7_grow 26 = .ok (.iconst 0, 1) := by decide +kernel
theorem dX7_grow_27 : decode cX7_grow 27 = .ok (.iaload, 1) := by decide +kernel
theorem dX7_grow_28 : decode cX7_grow 28 = .ok (.istore_n 2, 1) := by decide +kernel
theorem dX7_grow_29 : decode cX7_grow 29 = .ok (.iload_n 2, 1) := by decide +kernel
theorem dX7_grow_30 : decode cX7_grow 30 = .ok (.iconst 2, 1) := by decide +kernel
theorem dX7_grow_31 : decode cX7_grow 31 = .ok (.iadd, 1) := by decide +kernel
theorem dX7_grow_32 : decode cX7_grow 32 = .ok (.bipush 14, 2) := by decide +kernel
theorem dX7_grow_34 : decode cX7_grow 34 = .ok (.if_icmp .le 6, 3) := by decide +kernel
theorem dX7_grow_37 : decode cX7_grow 37 = .ok (.bipush (-3), 2) := by decide +kernel
theorem dX7_grow_39 : decode cX7_grow 39 = .ok (.ireturn, 1) := by decide +kernel
theorem dX7_grow_40 : decode cX7_grow 40 = .ok (.aload_n 0, 1) := by decide +kernel
theorem dX7_grow_41 : decode cX7_grow 41 = .ok (.invokevirtual 84, 3) := by decide +kernel
theorem dX7_grow_44 : decode cX7_grow 44 = .ok (.aload_n 0, 1) := by decide +kernel
theorem dX7_grow_45 : decode cX7_grow 45 = .ok (.iload_n 1, 1) := by decide +kernel
theorem dX7_grow_46 : decode cX7_grow 46 = .ok (.iconst 1, 1) := by decide +kernel
theorem dX7_grow_47 : decode cX7_grow 47 = .ok (.invokevirtual 139, 3) := by decide +kernel
theorem dX7_grow_50 : decode cX7_grow 50 = .ok (.istore_n 3, 1) := by decide +kernel
theorem dX7_grow_51 : decode cX7_grow 51 = .ok (.aload_n 0, 1) := by decide +kernel
theorem dX7_grow_52 : decode cX7_grow 52 = .ok (.iload_n 1, 1) := by decide +kernel
theorem dX7_grow_53 : decode cX7_grow 53 = .ok (.iconst 2, 1) := by decide +kernel
theorem dX7_grow_54 : decode cX7_grow 54 = .ok (.invokevirtual 139, 3) := by decide +kernel
theorem dX7_grow_57 : decode cX7_grow 57 = .ok (.istore 4, 2) := by decide +kernel
theorem dX7_grow_59 : decode cX7_grow 59 = .ok (.aload_n 0, 1) := by decide +kernel
theorem dX7_grow_60 : decode cX7_grow 60 = .ok (.iload_n 3, 1) := by decide +kernel
theorem dX7_grow_61 : decode cX7_grow 61 = .ok (.aload_n 0, 1) := by decide +kernel
theorem dX7_grow_62 : decode cX7_grow 62 = .ok (.iload_n 3, 1) := by decide +kernel
theorem dX7_grow_63 : decode cX7_grow 63 = .ok (.iload_n 1, 1) := by decide +kernel
theorem dX7_grow_64 : decode cX7_grow 64 = .ok (.invokevirtual 70, 3) := by decide +kernel
theorem dX7_grow_67 : decode cX7_grow 67 = .ok (.iload_n 2, 1) := by decide +kernel
theorem dX7_grow_68 : decode cX7_grow 68 = .ok (.aload_n 0, 1) := by decide +kernel
theorem dX7_grow_69 : decode cX7_grow 69 = .ok (.iload_n 3, 1) := by decide +kernel
theorem dX7_grow_70 : decode cX7_grow 70 = .ok (.iconst 2, 1) := by decide +kernel
theorem dX7_grow_71 : decode cX7_grow 71 = .ok (.invokevirtual 56, 3) := by decide +kernel
theorem dX7_grow_74 : decode cX7_grow 74 = .ok (.invokevirtual 48, 3) := by decide +kernel
theorem dX7_grow_77 : decode cX7_grow 77 = .ok (.aload_n 0, 1) := by decide +kernel
theorem dX7_grow_78 : decode cX7_grow 78 = .ok (.iload 4, 2) := by decide +kernel
theorem dX7_grow_80 : decode cX7_grow 80 = .ok (.aload_n 0, 1) := by decide +kernel
theorem dX7_grow_81 : decode cX7_grow 81 = .ok (.iload 4, 2) := by decide +kernel
theorem dX7_grow_83 : decode cX7_grow 83 = .ok (.iload_n 1, 1) := by decide +kernel
theorem dX7_grow_84 : decode cX7_grow 84 = .ok (.invokevirtual 70, 3) := by decide +kernel
theorem dX7_grow_87 : decode cX7_grow 87 = .ok (.iload_n 2, 1) := by decide +kernel
theorem dX7_grow_88 : decode cX7_grow 88 = .ok (.iconst 1, 1) := by decide +kernel
theorem dX7_grow_89 : decode cX7_grow 89 = .ok (.iadd, 1) := by decide +kernel
theorem dX7_grow_90 : decode cX7_grow 90 = .ok (.aload_n 0, 1) := by decide +kernel
theorem dX7_grow_91 : decode cX7_grow 91 = .ok (.iload 4, 2) := by decide +kernel
theorem dX7_grow_93 : decode cX7_grow 93 = .ok (.iconst 2, 1) := by decide +kernel
theorem dX7_grow_94 : decode cX7_grow 94 = .ok (.invokevirtual 56, 3) := by decide +kernel
theorem dX7_grow_97 : decode cX7_grow 97 = .ok (.invokevirtual 48, 3) := by decide +kernel
theorem dX7_grow_100 : decode cX7_grow 100 = .ok (.aload_n 0, 1) := by decide +kernel
theorem dX7_grow_101 : decode cX7_grow 101 = .ok (.getfield 7, 3) := by decide +kernel
theorem dX7_grow_104 : decode cX7_grow 104 = .ok (.iconst 0, 1) := by decide +kernel
theorem dX7_grow_105 : decode cX7_grow 105 = .ok (.dup2, 1) := by decide +kernel
theorem dX7_grow_106 : decode cX7_grow 106 = .ok (.iaload, 1) := by decide +kernel
theorem dX7_grow_107 : decode cX7_grow 107 = .ok (.iconst 2, 1) := by decide +kernel
theorem dX7_grow_108 : decode cX7_grow 108 = .ok (.iadd, 1) := by decide +kernel
theorem dX7_grow_109 : decode cX7_grow 109 = .ok (.iastore, 1) := by decide +kernel
theorem dX7_grow_110 : decode cX7_grow 110 = .ok (.aload_n 0, 1) := by decide +kernel
theorem dX7_grow_111 : decode cX7_grow 111 = .ok (.iload_n 1, 1) := by decide +kernel
theorem dX7_grow_112 : decode cX7_grow 112 = .ok (.iload_n 2, 1) := by decide +kernel
theorem dX7_grow_113 : decode cX7_grow 113 = .ok (.invokevirtual 115, 3) := by decide +kernel
theorem dX7_grow_116 : decode cX7_grow 116 = .ok (.aload_n 0, 1) := by decide +kernel
theorem dX7_grow_117 : decode cX7_grow 117 = .ok (.iload_n 1, 1) := by decide +kernel
theorem dX7_grow_118 : decode cX7_grow 118 = .ok (.iload_n 2, 1) := by decide +kernel
theorem dX7_grow_119 : decode cX7_grow 119 = .ok (.iconst 1, 1) := by decide +kernel
theorem dX7_grow_120 : decode cX7_grow 120 = .ok (.iadd, 1) := by decide +kernel
theorem dX7_grow_121 : decode cX7_grow 121 = .ok (.invokevirtual 115, 3) := by decide +kernel
theorem dX7_grow_124 : decode cX7_grow 124 = .ok (.aload_n 0, 1) := by decide +kernel
theorem dX7_grow_125 : decode cX7_grow 125 = .ok (.iload_n 2, 1) := by decide +kernel
theorem dX7_grow_126 : decode cX7_grow 126 = .ok (.iload_n 2, 1) := by decide +kernel
theorem dX7_grow_127 : decode cX7_grow 127 = .ok (.iconst 1, 1) := by decide +kernel
theorem dX7_grow_128 : decode cX7_grow 128 = .ok (.iadd, 1) := by decide +kernel
theorem dX7_grow_129 : decode cX7_grow 129 = .ok (.invokevirtual 115, 3) := by decide +kernel
theorem dX7_grow_132 : decode cX7_grow 132 = .ok (.iload_n 2, 1) := by decide +kernel
theorem dX7_grow_133 : decode cX7_grow 133 = .ok (.ireturn, 1) := by decide +kernel
set_option maxRecDepth 20000 in
theorem ggX7_corners_X7_neighbours : GoodIn wsX7_corners wsX7_neighbours := goodIn_r _ [6, 1, 7, 8, 9, 5, 10, 11, 12, 13, 14, 15, 16, 17, 18, 37, 38, 39, 40, 41, 42, 43, 44, 45, 46, 47, 48, 49, 50, 51, 52, 53, 54, 55, 56] (by decide +kernel) (by decide +kernel)
set_option maxRecDepth 20000 in
theorem gX7_corners_X7_neighbours : GoodIn wsX7_corners (wsV RX7 142 RX7 yX7_neighbours wsX7_neighbours) := goodIn_app (goodIn_of _ (by decide +kernel)) ggX7_corners_X7_neighbours
set_option maxRecDepth 20000 in
theorem ggX7_corners_X7_degree : GoodIn wsX7_corners wsX7_degree := goodIn_r _ [22, 23, 24, 25, 5, 26, 1, 7, 8, 9, 10, 11, 12, 13, 14, 27, 28, 29, 37, 38, 39, 40, 41, 42, 43, 44, 45, 46, 47, 48, 49, 50, 51, 52, 53, 54, 55, 56] (by decide +kernel) (by decide +kernel)
set_option maxRecDepth 20000 in
theorem gX7_corners_X7_degree : GoodIn wsX7_corners (wsV RX7 73 RX7 yX7_degree wsX7_degree) := goodIn_app (goodIn_of _ (by decide +kernel)) ggX7_corners_X7_degree
set_option maxRecDepth 20000 in
theorem ggX7_corners_X7_has : GoodIn wsX7_corners wsX7_has := goodIn_r _ [32] (by decide +kernel) (by decide +kernel)
set_option maxRecDepth 20000 in
theorem gX7_corners_X7_has : GoodIn wsX7_corners (va_wsS RX7 44 yX7_has wsX7_has) := goodIn_app (goodIn_of _ (by decide +kernel)) ggX7_corners_X7_has
set_option maxRecDepth 20000 in
theorem ggX7_corners_X7_threadBetween : GoodIn wsX7_corners wsX7_threadBetween := goodIn_r _ [36, 1, 7, 8, 9, 5, 10, 11, 12, 13, 14, 37, 38, 39, 40, 41, 42, 43, 44, 45, 46, 47, 48, 49, 50, 51, 52, 53, 54, 55, 56] (by decide +kernel) (by decide +kernel)
set_option maxRecDepth 20000 in
theorem gX7_corners_X7_threadBetween : GoodIn wsX7_corners (wsV RX7 130 RX7 yX7_threadBetween wsX7_threadBetween) := goodIn_app (goodIn_of _ (by decide +kernel)) ggX7_corners_X7_threadBetween
theorem dX7_corners_0 : decode cX7_corners 0 = .ok (.aload_n 0, 1) := by decide +kernel
theorem dX7_corners_1 : decode cX7_corners 1 = .ok (.iload_n 1, 1) := by decide +kernel
theorem dX7_corners_2 : decode cX7_corners 2 = .ok (.invokevirtual 142, 3) := by decide +kernel
theorem dX7_corners_5 : decode cX7_corners 5 = .ok (.istore_n 2, 1) := by decide +kernel
theorem dX7_corners_6 : decode cX7_corners 6 = .ok (.iconst 0, 1) := by decide +kernel
theorem dX7_corners_7 : decode cX7_corners 7 = .ok (.istore_n 3, 1) := by decide +kernel
theorem dX7_corners_8 : decode cX7_corners 8 = .ok (.iload_n 3, 1) := by decide +kernel
theorem dX7_corners_9 : decode cX7_corners 9 = .ok (.aload_n 0, 1) := by decide +kernel
theorem dX7_corners_10 : decode cX7_corners 10 = .ok (.getfield 7, 3) := by decide +kernel
theorem dX7_corners_13 : decode cX7_corners 13 = .ok (.iconst 0, 1) := by decide +kernel
theorem dX7_corners_14 : decode cX7_corners 14 = .ok (.iaload, 1) := by decide +kernel
theorem dX7_corners_15 : decode cX7_corners 15 = .ok (.if_icmp .ge 107, 3) := by decide +kernel
theorem dX7_corners_18 : decode cX7_corners 18 = .ok (.aload_n 0, 1) := by decide +kernel
theorem dX7_corners_19 : decode cX7_corners 19 = .ok (.iload_n 1, 1) := by decide +kernel
theorem dX7_corners_20 : decode cX7_corners 20 = .ok (.invokevirtual 73, 3) := by decide +kernel
theorem dX7_corners_23 : decode cX7_corners 23 = .ok (.iconst 3, 1) := by decide +kernel
theorem dX7_corners_24 : decode cX7_corners 24 = .ok (.if_icmp .ne 98, 3) := by decide +kernel
theorem dX7_corners_27 : decode cX7_corners 27 = .ok (.iload_n 3, 1) := by decide +kernel
theorem dX7_corners_28 : decode cX7_corners 28 = .ok (.iconst 1, 1) := by decide +kernel
theorem dX7_corners_29 : decode cX7_corners 29 = .ok (.iadd, 1) := by decide +kernel
theorem dX7_corners_30 : decode cX7_corners 30 = .ok (.istore 4, 2) := by decide +kernel
theorem dX7_corners_32 : decode cX7_corners 32 = .ok (.iload 4, 2) := by decide +kernel
theorem dX7_corners_34 : decode cX7_corners 34 = .ok (.aload_n 0, 1) := by decide +kernel
theorem dX7_corners_35 : decode cX7_corners 35 = .ok (.getfield 7, 3) := by decide +kernel
theorem dX7_corners_38 : decode cX7_corners 38 = .ok (.iconst 0, 1) := by decide +kernel
theorem dX7_corners_39 : decode cX7_corners 39 = .ok (.iaload, 1) := by decide +kernel
theorem dX7_corners_40 : decode cX7_corners 40 = .ok (.if_icmp .ge 76, 3) := by decide +kernel
theorem dX7_corners_43 : decode cX7_corners 43 = .ok (.iload_n 2, 1) := by decide +kernel
theorem dX7_corners_44 : decode cX7_corners 44 = .ok (.iload_n 3, 1) := by decide +kernel
theorem dX7_corners_45 : decode cX7_corners 45 = .ok (.invokestatic 44, 3) := by decide +kernel
theorem dX7_corners_48 : decode cX7_corners 48 = .ok (.ifCond .eq 26, 3) := by decide +kernel
theorem dX7_corners_51 : decode cX7_corners 51 = .ok (.iload_n 2, 1) := by decide +kernel
theorem dX7_corners_52 : decode cX7_corners 52 = .ok (.iload 4, 2) := by decide +kernel
theorem dX7_corners_54 : decode cX7_corners 54 = .ok (.invokestatic 44, 3) := by decide +kernel
theorem dX7_corners_57 : decode cX7_corners 57 = .ok (.ifCond .eq 17, 3) := by decide +kernel
theorem dX7_corners_60 : decode cX7_corners 60 = .ok (.aload_n 0, 1) := by decide +kernel
theorem dX7_corners_61 : decode cX7_corners 61 = .ok (.iload_n 3, 1) := by decide +kernel
theorem dX7_corners_62 : decode cX7_corners 62 = .ok (.iload 4, 2) := by decide +kernel
theorem dX7_corners_64 : decode cX7_corners 64 = .ok (.invokevirtual 130, 3) := by decide +kernel
theorem dX7_corners_67 : decode cX7_corners 67 = .ok (.ifCond .lt 7, 3) := by decide +kernel
theorem dX7_corners_70 : decode cX7_corners 70 = .ok (.iconst 1, 1) := by decide +kernel
theorem dX7_corners_71 : decode cX7_corners 71 = .ok (.goto 4, 3) := by decide +kernel
theorem dX7_corners_74 : decode cX7_corners 74 = .ok (.iconst 0, 1) := by decide +kernel
theorem dX7_corners_75 : decode cX7_corners 75 = .ok (.istore 5, 2) := by decide +kernel
theorem dX7_corners_77 : decode cX7_corners 77 = .ok (.iload 5, 2) := by decide +kernel
theorem dX7_corners_79 : decode cX7_corners 79 = .ok (.ifCond .eq 31, 3) := by decide +kernel
theorem dX7_corners_82 : decode cX7_corners 82 = .ok (.aload_n 0, 1) := by decide +kernel
theorem dX7_corners_83 : decode cX7_corners 83 = .ok (.iload_n 3, 1) := by decide +kernel
theorem dX7_corners_84 : decode cX7_corners 84 = .ok (.invokevirtual 73, 3) := by decide +kernel
theorem dX7_corners_87 : decode cX7_corners 87 = .ok (.iconst 3, 1) := by decide +kernel
theorem dX7_corners_88 : decode cX7_corners 88 = .ok (.if_icmp .ne 22, 3) := by decide +kernel
theorem dX7_corners_91 : decode cX7_corners 91 = .ok (.aload_n 0, 1) := by decide +kernel
theorem dX7_corners_92 : decode cX7_corners 92 = .ok (.iload 4, 2) := by decide +kernel
theorem dX7_corners_94 : decode cX7_corners 94 = .ok (.invokevirtual 73, 3) := by decide +kernel
theorem dX7_corners_97 : decode cX7_corners 97 = .ok (.iconst 3, 1) := by decide +kernel
theorem dX7_corners_98 : decode cX7_corners 98 = .ok (.if_icmp .ne 12, 3) := by decide +kernel
theorem dX7_corners_101 : decode cX7_corners 101 = .ok (.iconst 1, 1) := by decide +kernel
theorem dX7_corners_102 : decode cX7_corners 102 = .ok (.iload_n 3, 1) := by decide +kernel
theorem dX7_corners_103 : decode cX7_corners 103 = .ok (.ishl, 1) := by decide +kernel
theorem dX7_corners_104 : decode cX7_corners 104 = .ok (.iconst 1, 1) := by decide +kernel
theorem dX7_corners_105 : decode cX7_corners 105 = .ok (.iload 4, 2) := by decide +kernel
theorem dX7_corners_107 : decode cX7_corners 107 = .ok (.ishl, 1) := by decide +kernel
theorem dX7_corners_108 : decode cX7_corners 108 = .ok (.ior, 1) := by decide +kernel
theorem dX7_corners_109 : decode cX7_corners 109 = .ok (.ireturn, 1) := by decide +kernel
theorem dX7_corners_110 : decode cX7_corners 110 = .ok (.iinc 4 1, 3) := by decide +kernel
theorem dX7_corners_113 : decode cX7_corners 113 = .ok (.goto (-81), 3) := by decide +kernel
theorem dX7_corners_116 : decode cX7_corners 116 = .ok (.iinc 3 1, 3) := by decide +kernel
theorem dX7_corners_119 : decode cX7_corners 119 = .ok (.goto (-111), 3) := by decide +kernel
theorem dX7_corners_122 : decode cX7_corners 122 = .ok (.iconst 0, 1) := by decide +kernel
theorem dX7_corners_123 : decode cX7_corners 123 = .ok (.ireturn, 1) := by decide +kernel
set_option maxRecDepth 20000 in
theorem ggX7_beyond_X7_neighbours : GoodIn wsX7_beyond wsX7_neighbours := goodIn_r _ [5, 6, 7, 8, 9, 4, 10, 11, 12, 13, 14, 15, 16, 17, 18, 25, 26, 27, 28, 29, 30, 31, 32, 33, 34, 35, 36, 37, 38, 39, 40, 41, 42, 43, 44] (by decide +kernel) (by decide +kernel)
set_option maxRecDepth 20000 in
theorem gX7_beyond_X7_neighbours : GoodIn wsX7_beyond (wsV RX7 142 RX7 yX7_neighbours wsX7_neighbours) := goodIn_app (goodIn_of _ (by decide +kernel)) ggX7_beyond_X7_neighbours
set_option maxRecDepth 20000 in
theorem ggX7_beyond_X7_lowest : GoodIn wsX7_beyond wsX7_lowest := goodIn_r _ [21, 22, 23, 4, 24] (by decide +kernel) (by decide +kernel)
set_option maxRecDepth 20000 in
theorem gX7_beyond_X7_lowest : GoodIn wsX7_beyond (va_wsS RX7 136 yX7_lowest wsX7_lowest) := goodIn_app (goodIn_of _ (by decide +kernel)) ggX7_beyond_X7_lowest
theorem dX7_beyond_0 : decode cX7_beyond 0 = .ok (.aload_n 0, 1) := by decide +kernel
theorem dX7_beyond_1 : decode cX7_beyond 1 = .ok (.iload_n 1, 1) := by decide +kernel
theorem dX7_beyond_2 : decode cX7_beyond 2 = .ok (.invokevirtual 142, 3) := by decide +kernel
theorem dX7_beyond_5 : decode cX7_beyond 5 = .ok (.iload_n 2, 1) := by decide +kernel
theorem dX7_beyond_6 : decode cX7_beyond 6 = .ok (.iconst (-1), 1) := by decide +kernel
theorem dX7_beyond_7 : decode cX7_beyond 7 = .ok (.ixor, 1) := by decide +kernel
theorem dX7_beyond_8 : decode cX7_beyond 8 = .ok (.iand, 1) := by decide +kernel
theorem dX7_beyond_9 : decode cX7_beyond 9 = .ok (.invokestatic 136, 3) := by decide +kernel
theorem dX7_beyond_12 : decode cX7_beyond 12 = .ok (.ireturn, 1) := by decide +kernel
set_option maxRecDepth 20000 in
theorem ggX7_leadsTo_X7_threadBetween : GoodIn wsX7_leadsTo wsX7_threadBetween := goodIn_r _ [5, 6, 7, 8, 9, 4, 10, 11, 12, 13, 14, 19, 20, 21, 22, 23, 24, 25, 26, 27, 28, 29, 30, 31, 32, 33, 34, 35, 36, 37, 38] (by decide +kernel) (by decide +kernel)
set_option maxRecDepth 20000 in
theorem gX7_leadsTo_X7_threadBetween : GoodIn wsX7_leadsTo (wsV RX7 130 RX7 yX7_threadBetween wsX7_threadBetween) := goodIn_app (goodIn_of _ (by decide +kernel)) ggX7_leadsTo_X7_threadBetween
set_option maxRecDepth 20000 in
theorem ggX7_leadsTo_X7_of : GoodIn wsX7_leadsTo wsX7_of := goodIn_r _ [14, 6, 19, 20, 21, 22, 23, 24, 25, 26, 27, 28, 29, 30, 31, 32, 33, 34, 35, 36, 37, 38] (by decide +kernel) (by decide +kernel)
set_option maxRecDepth 20000 in
theorem gX7_leadsTo_X7_of : GoodIn wsX7_leadsTo (wsV RX7 56 RX7 yX7_of wsX7_of) := goodIn_app (goodIn_of _ (by decide +kernel)) ggX7_leadsTo_X7_of
set_option maxRecDepth 20000 in
theorem ggX7_leadsTo_X7_put : GoodIn wsX7_leadsTo wsX7_put := goodIn_r _ [18, 6, 19, 20, 21, 22, 23, 24, 25, 26, 27, 28, 29, 30, 31, 32, 33, 34, 35, 36, 37, 38] (by decide +kernel) (by decide +kernel)
set_option maxRecDepth 20000 in
theorem gX7_leadsTo_X7_put : GoodIn wsX7_leadsTo (wsV RX7 48 RX7 yX7_put wsX7_put) := goodIn_app (goodIn_of _ (by decide +kernel)) ggX7_leadsTo_X7_put
theorem dX7_leadsTo_0 : decode cX7_leadsTo 0 = .ok (.aload_n 0, 1) := by decide +kernel
theorem dX7_leadsTo_1 : decode cX7_leadsTo 1 = .ok (.iload_n 1, 1) := by decide +kernel
theorem dX7_leadsTo_2 : decode cX7_leadsTo 2 = .ok (.iload_n 2, 1) := by decide +kernel
theorem dX7_leadsTo_3 : decode cX7_leadsTo 3 = .ok (.invokevirtual 130, 3) := by decide +kernel
theorem dX7_leadsTo_6 : decode cX7_leadsTo 6 = .ok (.istore 4, 2) := by decide +kernel
theorem dX7_leadsTo_8 : decode cX7_leadsTo 8 = .ok (.aload_n 0, 1) := by decide +kernel
theorem dX7_leadsTo_9 : decode cX7_leadsTo 9 = .ok (.iload 4, 2) := by decide +kernel
theorem dX7_leadsTo_11 : decode cX7_leadsTo 11 = .ok (.iload_n 2, 1) := by decide +kernel
theorem dX7_leadsTo_12 : decode cX7_leadsTo 12 = .ok (.iload_n 3, 1) := by decide +kernel
theorem dX7_leadsTo_13 : decode cX7_leadsTo 13 = .ok (.aload_n 0, 1) := by decide +kernel
theorem dX7_leadsTo_14 : decode cX7_leadsTo 14 = .ok (.iload 4, 2) := by decide +kernel
theorem dX7_leadsTo_16 : decode cX7_leadsTo 16 = .ok (.iconst 2, 1) := by decide +kernel
theorem dX7_leadsTo_17 : decode cX7_leadsTo 17 = .ok (.invokevirtual 56, 3) := by decide +kernel
theorem dX7_leadsTo_20 : decode cX7_leadsTo 20 = .ok (.invokevirtual 48, 3) := by decide +kernel
theorem dX7_leadsTo_23 : decode cX7_leadsTo 23 = .ok (.return_, 1) := by decide +kernel
set_option maxRecDepth 20000 in
theorem ggX7_shrink_X7_isKnot : GoodIn wsX7_shrink wsX7_isKnot := goodIn_r _ [6, 1, 7, 8, 5, 9, 77, 78, 79, 80, 81, 82, 83, 84, 85, 86, 87, 88, 89, 90, 91, 92, 93, 94, 95, 96] (by decide +kernel) (by decide +kernel)
set_option maxRecDepth 20000 in
theorem gX7_shrink_X7_isKnot : GoodIn wsX7_shrink (wsV RX7 119 RX7 yX7_isKnot wsX7_isKnot) := goodIn_app (goodIn_of _ (by decide +kernel)) ggX7_shrink_X7_isKnot
set_option maxRecDepth 20000 in
theorem ggX7_shrink_X7_corners : GoodIn wsX7_shrink wsX7_corners := goodIn_r _ [13, 1, 14, 15, 16, 5, 17, 18, 19, 20, 21, 22, 23, 24, 25, 26, 27, 28, 29, 30, 31, 32, 33, 34, 35, 36, 37, 38, 39, 40, 41, 42, 43, 44, 45, 46, 47, 77, 78, 79, 80, 81, 82, 83, 84, 85, 86, 87, 88, 89, 90, 91, 92, 93, 94, 95, 96] (by decide +kernel) (by decide +kernel)
set_option maxRecDepth 20000 in
theorem gX7_shrink_X7_corners : GoodIn wsX7_shrink (wsV RX7 145 RX7 yX7_corners wsX7_corners) := goodIn_app (goodIn_of _ (by decide +kernel)) ggX7_shrink_X7_corners
set_option maxRecDepth 20000 in
theorem ggX7_shrink_X7_lowest : GoodIn wsX7_shrink wsX7_lowest := goodIn_r _ [50, 41, 42, 5, 43] (by decide +kernel) (by decide +kernel)
set_option maxRecDepth 20000 in
theorem gX7_shrink_X7_lowest : GoodIn wsX7_shrink (va_wsS RX7 136 yX7_lowest wsX7_lowest) := goodIn_app (goodIn_of _ (by decide +kernel)) ggX7_shrink_X7_lowest
set_option maxRecDepth 20000 in
theorem ggX7_shrink_X7_beyond : GoodIn wsX7_shrink wsX7_beyond := goodIn_r _ [54, 14, 15, 16, 5, 17, 1, 18, 19, 20, 21, 22, 23, 24, 25, 26, 27, 28, 29, 48, 49, 50, 41, 42, 43, 77, 78, 79, 80, 81, 82, 83, 84, 85, 86, 87, 88, 89, 90, 91, 92, 93, 94, 95, 96] (by decide +kernel) (by decide +kernel)
set_option maxRecDepth 20000 in
theorem gX7_shrink_X7_beyond : GoodIn wsX7_shrink (wsV RX7 148 RX7 yX7_beyond wsX7_beyond) := goodIn_app (goodIn_of _ (by decide +kernel)) ggX7_shrink_X7_beyond
set_option maxRecDepth 20000 in
theorem ggX7_shrink_X7_records : GoodIn wsX7_shrink wsX7_records := goodIn_r _ [58, 59, 60, 1, 77, 78, 79, 80, 81, 82, 83, 84, 85, 86, 87, 88, 89, 90, 91, 92, 93, 94, 95, 96] (by decide +kernel) (by decide +kernel)
set_option maxRecDepth 20000 in
theorem gX7_shrink_X7_records : GoodIn wsX7_shrink (wsV RX7 84 RX7 yX7_records wsX7_records) := goodIn_app (goodIn_of _ (by decide +kernel)) ggX7_shrink_X7_records
set_option maxRecDepth 20000 in
theorem ggX7_shrink_X7_leadsTo : GoodIn wsX7_shrink wsX7_leadsTo := goodIn_r _ [64, 44, 45, 46, 5, 47, 1, 18, 19, 20, 21, 22, 23, 24, 25, 65, 66, 67, 68, 77, 78, 79, 80, 81, 82, 83, 84, 85, 86, 87, 88, 89, 90, 91, 92, 93, 94, 95, 96] (by decide +kernel) (by decide +kernel)
set_option maxRecDepth 20000 in
theorem gX7_shrink_X7_leadsTo : GoodIn wsX7_shrink (wsV RX7 151 RX7 yX7_leadsTo wsX7_leadsTo) := goodIn_app (goodIn_of _ (by decide +kernel)) ggX7_shrink_X7_leadsTo
set_option maxRecDepth 20000 in
theorem ggX7_shrink_X7_threadBetween : GoodIn wsX7_shrink wsX7_threadBetween := goodIn_r _ [47, 1, 18, 19, 20, 5, 21, 22, 23, 24, 25, 77, 78, 79, 80, 81, 82, 83, 84, 85, 86, 87, 88, 89, 90, 91, 92, 93, 94, 95, 96] (by decide +kernel) (by decide +kernel)
set_option maxRecDepth 20000 in
theorem gX7_shrink_X7_threadBetween : GoodIn wsX7_shrink (wsV RX7 130 RX7 yX7_threadBetween wsX7_threadBetween) := goodIn_app (goodIn_of _ (by decide +kernel)) ggX7_shrink_X7_threadBetween
set_option maxRecDepth 20000 in
theorem ggX7_shrink_X7_dropThread : GoodIn wsX7_shrink wsX7_dropThread := goodIn_r _ [72, 1, 77, 78, 79, 80, 81, 82, 83, 84, 85, 86, 87, 88, 89, 90, 91, 92, 93, 94, 95, 96] (by decide +kernel) (by decide +kernel)
set_option maxRecDepth 20000 in
theorem gX7_shrink_X7_dropThread : GoodIn wsX7_shrink (wsV RX7 123 RX7 yX7_dropThread wsX7_dropThread) := goodIn_app (goodIn_of _ (by decide +kernel)) ggX7_shrink_X7_dropThread
set_option maxRecDepth 20000 in
theorem ggX7_shrink_X7_dropKnot : GoodIn wsX7_shrink wsX7_dropKnot := goodIn_r _ [76, 1, 22, 23, 24, 5, 25, 65, 66, 67, 68, 77, 78, 79, 80, 81, 82, 83, 84, 85, 86, 87, 88, 89, 90, 91, 92, 93, 94, 95, 96] (by decide +kernel) (by decide +kernel)
set_option maxRecDepth 20000 in
theorem gX7_shrink_X7_dropKnot : GoodIn wsX7_shrink (wsV RX7 127 RX7 yX7_dropKnot wsX7_dropKnot) := goodIn_app (goodIn_of _ (by decide +kernel)) ggX7_shrink_X7_dropKnot
theorem dX7_shrink_0 : decode cX7_shrink 0 = .ok (.aload_n 0, 1) := by decide +kernel
theorem dX7_shrink_1 : decode cX7_shrink 1 = .ok (.iload_n 1, 1) := by decide +kernel
theorem dX7_shrink_2 : decode cX7_shrink 2 = .ok (.invokevirtual 119, 3) := by decide +kernel
theorem dX7_shrink_5 : decode cX7_shrink 5 = .ok (.ifCond .ne 5, 3) := by decide +kernel
theorem dX7_shrink_8 : decode cX7_shrink 8 = .ok (.iconst (-1), 1) := by decide +kernel
theorem dX7_shrink_9 : decode cX7_shrink 9 = .ok (.ireturn, 1) := by decide +kernel
theorem dX7_shrink_10 : decode cX7_shrink 10 = .ok (.aload_n 0, 1) := by decide +kernel
theorem dX7_shrink_11 : decode cX7_shrink 11 = .ok (.iload_n 1, 1) := by decide +kernel
theorem dX7_shrink_12 : decode cX7_shrink 12 = .ok (.invokevirtual 145, 3) := by decide +kernel
theorem dX7_shrink_15 : decode cX7_shrink 15 = .ok (.istore_n 2, 1) := by decide +kernel
theorem dX7_shrink_16 : decode cX7_shrink 16 = .ok (.iload_n 2, 1) := by decide +kernel
theorem dX7_shrink_17 : decode cX7_shrink 17 = .ok (.ifCond .ne 6, 3) := by decide +kernel
theorem dX7_shrink_20 : decode cX7_shrink 20 = .ok (.bipush (-4), 2) := by decide +kernel
theorem dX7_shrink_22 : decode cX7_shrink 22 = .ok (.ireturn, 1) := by decide +kernel
theorem dX7_shrink_23 : decode cX7_shrink 23 = .ok (.iload_n 2, 1) := by decide +kernel
theorem dX7_shrink_24 : decode cX7_shrink 24 = .ok (.iconst 1, 1) := by decide +kernel
theorem dX7_shrink_25 : decode cX7_shrink 25 = .ok (.iload_n 1, 1) := by decide +kernel
theorem dX7_shrink_26 : decode cX7_shrink 26 = .ok (.ishl, 1) := by decide +kernel
theorem dX7_shrink_27 : decode cX7_shrink 27 = .ok (.ior, 1) := by decide +kernel
theorem dX7_shrink_28 : decode cX7_shrink 28 = .ok (.istore_n 3, 1) := by decide +kernel
theorem dX7_shrink_29 : decode cX7_shrink 29 = .ok (.iload_n 2, 1) := by decide +kernel
theorem dX7_shrink_30 : decode cX7_shrink 30 = .ok (.invokestatic 136, 3) := by decide +kernel
theorem dX7_shrink_33 : decode cX7_shrink 33 = .ok (.istore 4, 2) := by decide +kernel
theorem dX7_shrink_35 : decode cX7_shrink 35 = .ok (.iload_n 2, 1) := by decide +kernel
theorem dX7_shrink_36 : decode cX7_shrink 36 = .ok (.iload_n 2, 1) := by decide +kernel
theorem dX7_shrink_37 : decode cX7_shrink 37 = .ok (.iconst 1, 1) := by decide +kernel
theorem dX7_shrink_38 : decode cX7_shrink 38 = .ok (.isub, 1) := by decide +kernel
theorem dX7_shrink_39 : decode cX7_shrink 39 = .ok (.iand, 1) := by decide +kernel
theorem dX7_shrink_40 : decode cX7_shrink 40 = .ok (.invokestatic 136, 3) := by decide +kernel
theorem dX7_shrink_43 : decode cX7_shrink 43 = .ok (.istore 5, 2) := by decide +kernel
theorem dX7_shrink_45 : decode cX7_shrink 45 = .ok (.aload_n 0, 1) := by decide +kernel
theorem dX7_shrink_46 : decode cX7_shrink 46 = .ok (.iload 4, 2) := by decide +kernel
theorem dX7_shrink_48 : decode cX7_shrink 48 = .ok (.iload_n 3, 1) := by decide +kernel
theorem dX7_shrink_49 : decode cX7_shrink 49 = .ok (.invokevirtual 148, 3) := by decide +kernel
theorem dX7_shrink_52 : decode cX7_shrink 52 = .ok (.istore 6, 2) := by decide +kernel
theorem dX7_shrink_54 : decode cX7_shrink 54 = .ok (.aload_n 0, 1) := by decide +kernel
theorem dX7_shrink_55 : decode cX7_shrink 55 = .ok (.iload 5, 2) := by decide +kernel
theorem dX7_shrink_57 : decode cX7_shrink 57 = .ok (.iload_n 3, 1) := by decide +kernel
theorem dX7_shrink_58 : decode cX7_shrink 58 = .ok (.invokevirtual 148, 3) := by decide +kernel
theorem dX7_shrink_61 : decode cX7_shrink 61 = .ok (.istore 7, 2) := by decide +kernel
theorem dX7_shrink_63 : decode cX7_shrink 63 = .ok (.aload_n 0, 1) := by decide +kernel
theorem dX7_shrink_64 : decode cX7_shrink 64 = .ok (.iload_n 1, 1) := by decide +kernel
theorem dX7_shrink_65 : decode cX7_shrink 65 = .ok (.iload_n 3, 1) := by decide +kernel
theorem dX7_shrink_66 : decode cX7_shrink 66 = .ok (.invokevirtual 148, 3) := by decide +kernel
theorem dX7_shrink_69 : decode cX7_shrink 69 = .ok (.istore 8, 2) := by decide +kernel
theorem dX7_shrink_71 : decode cX7_shrink 71 = .ok (.iload 6, 2) := by decide +kernel
theorem dX7_shrink_73 : decode cX7_shrink 73 = .ok (.iload 7, 2) := by decide +kernel
theorem dX7_shrink_75 : decode cX7_shrink 75 = .ok (.if_icmp .eq 17, 3) := by decide +kernel
theorem dX7_shrink_78 : decode cX7_shrink 78 = .ok (.iload 6, 2) := by decide +kernel
theorem dX7_shrink_80 : decode cX7_shrink 80 = .ok (.iload 8, 2) := by decide +kernel
theorem dX7_shrink_82 : decode cX7_shrink 82 = .ok (.if_icmp .eq 10, 3) := by decide +kernel
theorem dX7_shrink_85 : decode cX7_shrink 85 = .ok (.iload 7, 2) := by decide +kernel
theorem dX7_shrink_87 : decode cX7_shrink 87 = .ok (.iload 8, 2) := by decide +kernel
theorem dX7_shrink_89 : decode cX7_shrink 89 = .ok (.if_icmp .ne 6, 3) := by decide +kernel
theorem dX7_shrink_92 : decode cX7_shrink 92 = .ok (.bipush (-4), 2) := by decide +kernel
theorem dX7_shrink_94 : decode cX7_shrink 94 = .ok (.ireturn, 1) := by decide +kernel
theorem dX7_shrink_95 : decode cX7_shrink 95 = .ok (.aload_n 0, 1) := by decide +kernel
theorem dX7_shrink_96 : decode cX7_shrink 96 = .ok (.invokevirtual 84, 3) := by decide +kernel
theorem dX7_shrink_99 : decode cX7_shrink 99 = .ok (.aload_n 0, 1) := by decide +kernel
theorem dX7_shrink_100 : decode cX7_shrink 100 = .ok (.iload 4, 2) := by decide +kernel
theorem dX7_shrink_102 : decode cX7_shrink 102 = .ok (.iload 6, 2) := by decide +kernel
theorem dX7_shrink_104 : decode cX7_shrink 104 = .ok (.iload_n 1, 1) := by decide +kernel
theorem dX7_shrink_105 : decode cX7_shrink 105 = .ok (.invokevirtual 151, 3) := by decide +kernel
theorem dX7_shrink_108 : decode cX7_shrink 108 = .ok (.aload_n 0, 1) := by decide +kernel
theorem dX7_shrink_109 : decode cX7_shrink 109 = .ok (.iload 5, 2) := by decide +kernel
theorem dX7_shrink_111 : decode cX7_shrink 111 = .ok (.iload 7, 2) := by decide +kernel
theorem dX7_shrink_113 : decode cX7_shrink 113 = .ok (.iload_n 1, 1) := by decide +kernel
theorem dX7_shrink_114 : decode cX7_shrink 114 = .ok (.invokevirtual 151, 3) := by decide +kernel
theorem dX7_shrink_117 : decode cX7_shrink 117 = .ok (.aload_n 0, 1) := by decide +kernel
theorem dX7_shrink_118 : decode cX7_shrink 118 = .ok (.aload_n 0, 1) := by decide +kernel
theorem dX7_shrink_119 : decode cX7_shrink 119 = .ok (.iload_n 1, 1) := by decide +kernel
theorem dX7_shrink_120 : decode cX7_shrink 120 = .ok (.iload 4, 2) := by decide +kernel
theorem dX7_shrink_122 : decode cX7_shrink 122 = .ok (.invokevirtual 130, 3) := by decide +kernel
theorem dX7_shrink_125 : decode cX7_shrink 125 = .ok (.invokevirtual 123, 3) := by decide +kernel
theorem dX7_shrink_128 : decode cX7_shrink 128 = .ok (.aload_n 0, 1) := by decide +kernel
theorem dX7_shrink_129 : decode cX7_shrink 129 = .ok (.aload_n 0, 1) := by decide +kernel
theorem dX7_shrink_130 : decode cX7_shrink 130 = .ok (.iload_n 1, 1) := by decide +kernel
theorem dX7_shrink_131 : decode cX7_shrink 131 = .ok (.iload 5, 2) := by decide +kernel
theorem dX7_shrink_133 : decode cX7_shrink 133 = .ok (.invokevirtual 130, 3) := by decide +kernel
theorem dX7_shrink_136 : decode cX7_shrink 136 = .ok (.invokevirtual 123, 3) := by decide +kernel
theorem dX7_shrink_139 : decode cX7_shrink 139 = .ok (.aload_n 0, 1) := by decide +kernel
theorem dX7_shrink_140 : decode cX7_shrink 140 = .ok (.aload_n 0, 1) := by decide +kernel
theorem dX7_shrink_141 : decode cX7_shrink 141 = .ok (.iload 4, 2) := by decide +kernel
theorem dX7_shrink_143 : decode cX7_shrink 143 = .ok (.iload 5, 2) := by decide +kernel
theorem dX7_shrink_145 : decode cX7_shrink 145 = .ok (.invokevirtual 130, 3) := by decide +kernel
theorem dX7_shrink_148 : decode cX7_shrink 148 = .ok (.invokevirtual 123, 3) := by decide +kernel
theorem dX7_shrink_151 : decode cX7_shrink 151 = .ok (.aload_n 0, 1) := by decide +kernel
theorem dX7_shrink_152 : decode cX7_shrink 152 = .ok (.iload 5, 2) := by decide +kernel
theorem dX7_shrink_154 : decode cX7_shrink 154 = .ok (.invokevirtual 127, 3) := by decide +kernel
theorem dX7_shrink_157 : decode cX7_shrink 157 = .ok (.aload_n 0, 1) := by decide +kernel
theorem dX7_shrink_158 : decode cX7_shrink 158 = .ok (.iload 4, 2) := by decide +kernel
theorem dX7_shrink_160 : decode cX7_shrink 160 = .ok (.invokevirtual 127, 3) := by decide +kernel
theorem dX7_shrink_163 : decode cX7_shrink 163 = .ok (.aload_n 0, 1) := by decide +kernel
theorem dX7_shrink_164 : decode cX7_shrink 164 = .ok (.getfield 7, 3) := by decide +kernel
theorem dX7_shrink_167 : decode cX7_shrink 167 = .ok (.iconst 0, 1) := by decide +kernel
theorem dX7_shrink_168 : decode cX7_shrink 168 = .ok (.iaload, 1) := by decide +kernel
theorem dX7_shrink_169 : decode cX7_shrink 169 = .ok (.ireturn, 1) := by decide +kernel
set_option maxRecDepth 20000 in
theorem ggX7_join_X7_isThread : GoodIn wsX7_join wsX7_isThread := goodIn_r _ [6, 1, 7, 8, 5, 9, 28, 29, 30, 31, 32, 33, 34, 35, 36, 37, 38, 39, 40, 41, 42, 43, 44, 45, 46, 47] (by decide +kernel) (by decide +kernel)
set_option maxRecDepth 20000 in
theorem gX7_join_X7_isThread : GoodIn wsX7_join (wsV RX7 133 RX7 yX7_isThread wsX7_isThread) := goodIn_app (goodIn_of _ (by decide +kernel)) ggX7_join_X7_isThread
set_option maxRecDepth 20000 in
theorem ggX7_join_X7_records : GoodIn wsX7_join wsX7_records := goodIn_r _ [13, 14, 15, 1, 28, 29, 30, 31, 32, 33, 34, 35, 36, 37, 38, 39, 40, 41, 42, 43, 44, 45, 46, 47] (by decide +kernel) (by decide +kernel)
set_option maxRecDepth 20000 in
theorem gX7_join_X7_records : GoodIn wsX7_join (wsV RX7 84 RX7 yX7_records wsX7_records) := goodIn_app (goodIn_of _ (by decide +kernel)) ggX7_join_X7_records
set_option maxRecDepth 20000 in
theorem ggX7_join_X7_of : GoodIn wsX7_join wsX7_of := goodIn_r _ [19, 1, 28, 29, 30, 31, 32, 33, 34, 35, 36, 37, 38, 39, 40, 41, 42, 43, 44, 45, 46, 47] (by decide +kernel) (by decide +kernel)
set_option maxRecDepth 20000 in
theorem gX7_join_X7_of : GoodIn wsX7_join (wsV RX7 56 RX7 yX7_of wsX7_of) := goodIn_app (goodIn_of _ (by decide +kernel)) ggX7_join_X7_of
set_option maxRecDepth 20000 in
theorem ggX7_join_X7_put : GoodIn wsX7_join wsX7_put := goodIn_r _ [23, 1, 28, 29, 30, 31, 32, 33, 34, 35, 36, 37, 38, 39, 40, 41, 42, 43, 44, 45, 46, 47] (by decide +kernel) (by decide +kernel)
set_option maxRecDepth 20000 in
theorem gX7_join_X7_put : GoodIn wsX7_join (wsV RX7 48 RX7 yX7_put wsX7_put) := goodIn_app (goodIn_of _ (by decide +kernel)) ggX7_join_X7_put
set_option maxRecDepth 20000 in
theorem ggX7_join_X7_adds : GoodIn wsX7_join wsX7_adds := goodIn_r _ [27, 1, 20, 21, 22, 5, 23, 28, 29, 30, 31, 32, 33, 34, 35, 36, 37, 38, 39, 40, 41, 42, 43, 44, 45, 46, 47] (by decide +kernel) (by decide +kernel)
set_option maxRecDepth 20000 in
theorem gX7_join_X7_adds : GoodIn wsX7_join (wsV RX7 115 RX7 yX7_adds wsX7_adds) := goodIn_app (goodIn_of _ (by decide +kernel)) ggX7_join_X7_adds
theorem dX7_join_0 : decode cX7_join 0 = .ok (.aload_n 0, 1) := by decide +kernel
theorem dX7_join_1 : decode cX7_join 1 = .ok (.iload_n 1, 1) := by decide +kernel
theorem dX7_join_2 : decode cX7_join 2 = .ok (.invokevirtual 133, 3) := by decide +kernel
theorem dX7_join_5 : decode cX7_join 5 = .ok (.ifCond .eq 11, 3) := by decide +kernel
theorem dX7_join_8 : decode cX7_join 8 = .ok (.aload_n 0, 1) := by decide +kernel
theorem dX7_join_9 : decode cX7_join 9 = .ok (.iload_n 2, 1) := by decide +kernel
theorem dX7_join_10 : decode cX7_join 10 = .ok (.invokevirtual 133, 3) := by decide +kernel
theorem dX7_join_13 : decode cX7_join 13 = .ok (.ifCond .ne 5, 3) := by decide +kernel
theorem dX7_join_16 : decode cX7_join 16 = .ok (.iconst (-1), 1) := by decide +kernel
theorem dX7_join_17 : decode cX7_join 17 = .ok (.ireturn, 1) := by decide +kernel
theorem dX7_join_18 : decode cX7_join 18 = .ok (.iload_n 1, 1) := by decide +kernel
theorem dX7_join_19 : decode cX7_join 19 = .ok (.iload_n 2, 1) := by decide +kernel
theorem dX7_join_20 : decode cX7_join 20 = .ok (.if_icmp .ne 6, 3) := by decide +kernel
theorem dX7_join_23 : decode cX7_join 23 = .ok (.bipush (-2), 2) := by decide +kernel
theorem dX7_join_25 : decode cX7_join 25 = .ok (.ireturn, 1) := by decide +kernel
theorem dX7_join_26 : decode cX7_join 26 = .ok (.aload_n 0, 1) := by decide +kernel
theorem dX7_join_27 : decode cX7_join 27 = .ok (.getfield 7, 3) := by decide +kernel
theorem dX7_join_30 : decode cX7_join 30 = .ok (.iconst 0, 1) := by decide +kernel
theorem dX7_join_31 : decode cX7_join 31 = .ok (.iaload, 1) := by decide +kernel
theorem dX7_join_32 : decode cX7_join 32 = .ok (.istore_n 3, 1) := by decide +kernel
theorem dX7_join_33 : decode cX7_join 33 = .ok (.iload_n 3, 1) := by decide +kernel
theorem dX7_join_34 : decode cX7_join 34 = .ok (.iconst 2, 1) := by decide +kernel
theorem dX7_join_35 : decode cX7_join 35 = .ok (.iadd, 1) := by decide +kernel
theorem dX7_join_36 : decode cX7_join 36 = .ok (.bipush 14, 2) := by decide +kernel
theorem dX7_join_38 : decode cX7_join 38 = .ok (.if_icmp .le 6, 3) := by decide +kernel
theorem dX7_join_41 : decode cX7_join 41 = .ok (.bipush (-3), 2) := by decide +kernel
theorem dX7_join_43 : decode cX7_join 43 = .ok (.ireturn, 1) := by decide +kernel
theorem dX7_join_44 : decode cX7_join 44 = .ok (.aload_n 0, 1) := by decide +kernel
theorem dX7_join_45 : decode cX7_join 45 = .ok (.invokevirtual 84, 3) := by decide +kernel
theorem dX7_join_48 : decode cX7_join 48 = .ok (.aload_n 0, 1) := by decide +kernel
theorem dX7_join_49 : decode cX7_join 49 = .ok (.iload_n 1, 1) := by decide +kernel
theorem dX7_join_50 : decode cX7_join 50 = .ok (.iconst 1, 1) := by decide +kernel
theorem dX7_join_51 : decode cX7_join 51 = .ok (.invokevirtual 56, 3) := by decide +kernel
theorem dX7_join_54 : decode cX7_join 54 = .ok (.istore 4, 2) := by decide +kernel
theorem dX7_join_56 : decode cX7_join 56 = .ok (.aload_n 0, 1) := by decide +kernel
theorem dX7_join_57 : decode cX7_join 57 = .ok (.iload_n 2, 1) := by decide +kernel
theorem dX7_join_58 : decode cX7_join 58 = .ok (.iconst 1, 1) := by decide +kernel
theorem dX7_join_59 : decode cX7_join 59 = .ok (.invokevirtual 56, 3) := by decide +kernel
theorem dX7_join_62 : decode cX7_join 62 = .ok (.istore 5, 2) := by decide +kernel
theorem dX7_join_64 : decode cX7_join 64 = .ok (.aload_n 0, 1) := by decide +kernel
theorem dX7_join_65 : decode cX7_join 65 = .ok (.iload_n 1, 1) := by decide +kernel
theorem dX7_join_66 : decode cX7_join 66 = .ok (.aload_n 0, 1) := by decide +kernel
theorem dX7_join_67 : decode cX7_join 67 = .ok (.iload_n 1, 1) := by decide +kernel
theorem dX7_join_68 : decode cX7_join 68 = .ok (.iconst 0, 1) := by decide +kernel
theorem dX7_join_69 : decode cX7_join 69 = .ok (.invokevirtual 56, 3) := by decide +kernel
theorem dX7_join_72 : decode cX7_join 72 = .ok (.iload_n 3, 1) := by decide +kernel
theorem dX7_join_73 : decode cX7_join 73 = .ok (.aload_n 0, 1) := by decide +kernel
theorem dX7_join_74 : decode cX7_join 74 = .ok (.iload_n 1, 1) := by decide +kernel
theorem dX7_join_75 : decode cX7_join 75 = .ok (.iconst 2, 1) := by decide +kernel
theorem dX7_join_76 : decode cX7_join 76 = .ok (.invokevirtual 56, 3) := by decide +kernel
theorem dX7_join_79 : decode cX7_join 79 = .ok (.invokevirtual 48, 3) := by decide +kernel
theorem dX7_join_82 : decode cX7_join 82 = .ok (.aload_n 0, 1) := by decide +kernel
theorem dX7_join_83 : decode cX7_join 83 = .ok (.iload_n 2, 1) := by decide +kernel
theorem dX7_join_84 : decode cX7_join 84 = .ok (.aload_n 0, 1) := by decide +kernel
theorem dX7_join_85 : decode cX7_join 85 = .ok (.iload_n 2, 1) := by decide +kernel
theorem dX7_join_86 : decode cX7_join 86 = .ok (.iconst 0, 1) := by decide +kernel
theorem dX7_join_87 : decode cX7_join 87 = .ok (.invokevirtual 56, 3) := by decide +kernel
theorem dX7_join_90 : decode cX7_join 90 = .ok (.iload_n 3, 1) := by decide +kernel
theorem dX7_join_91 : decode cX7_join 91 = .ok (.iconst 1, 1) := by decide +kernel
theorem dX7_join_92 : decode cX7_join 92 = .ok (.iadd, 1) := by decide +kernel
theorem dX7_join_93 : decode cX7_join 93 = .ok (.aload_n 0, 1) := by decide +kernel
theorem dX7_join_94 : decode cX7_join 94 = .ok (.iload_n 2, 1) := by decide +kernel
theorem dX7_join_95 : decode cX7_join 95 = .ok (.iconst 2, 1) := by decide +kernel
theorem dX7_join_96 : decode cX7_join 96 = .ok (.invokevirtual 56, 3) := by decide +kernel
theorem dX7_join_99 : decode cX7_join 99 = .ok (.invokevirtual 48, 3) := by decide +kernel
theorem dX7_join_102 : decode cX7_join 102 = .ok (.aload_n 0, 1) := by decide +kernel
theorem dX7_join_103 : decode cX7_join 103 = .ok (.getfield 7, 3) := by decide +kernel
theorem dX7_join_106 : decode cX7_join 106 = .ok (.iconst 0, 1) := by decide +kernel
theorem dX7_join_107 : decode cX7_join 107 = .ok (.dup2, 1) := by decide +kernel
theorem dX7_join_108 : decode cX7_join 108 = .ok (.iaload, 1) := by decide +kernel
theorem dX7_join_109 : decode cX7_join 109 = .ok (.iconst 2, 1) := by decide +kernel
theorem dX7_join_110 : decode cX7_join 110 = .ok (.iadd, 1) := by decide +kernel
theorem dX7_join_111 : decode cX7_join 111 = .ok (.iastore, 1) := by decide +kernel
theorem dX7_join_112 : decode cX7_join 112 = .ok (.aload_n 0, 1) := by decide +kernel
theorem dX7_join_113 : decode cX7_join 113 = .ok (.iload_n 3, 1) := by decide +kernel
theorem dX7_join_114 : decode cX7_join 114 = .ok (.iload 4, 2) := by decide +kernel
theorem dX7_join_116 : decode cX7_join 116 = .ok (.invokevirtual 115, 3) := by decide +kernel
theorem dX7_join_119 : decode cX7_join 119 = .ok (.aload_n 0, 1) := by decide +kernel
theorem dX7_join_120 : decode cX7_join 120 = .ok (.iload_n 3, 1) := by decide +kernel
theorem dX7_join_121 : decode cX7_join 121 = .ok (.iconst 1, 1) := by decide +kernel
theorem dX7_join_122 : decode cX7_join 122 = .ok (.iadd, 1) := by decide +kernel
theorem dX7_join_123 : decode cX7_join 123 = .ok (.iload 5, 2) := by decide +kernel
theorem dX7_join_125 : decode cX7_join 125 = .ok (.invokevirtual 115, 3) := by decide +kernel
theorem dX7_join_128 : decode cX7_join 128 = .ok (.aload_n 0, 1) := by decide +kernel
theorem dX7_join_129 : decode cX7_join 129 = .ok (.iload_n 3, 1) := by decide +kernel
theorem dX7_join_130 : decode cX7_join 130 = .ok (.iload_n 3, 1) := by decide +kernel
theorem dX7_join_131 : decode cX7_join 131 = .ok (.iconst 1, 1) := by decide +kernel
theorem dX7_join_132 : decode cX7_join 132 = .ok (.iadd, 1) := by decide +kernel
theorem dX7_join_133 : decode cX7_join 133 = .ok (.invokevirtual 115, 3) := by decide +kernel
theorem dX7_join_136 : decode cX7_join 136 = .ok (.aload_n 0, 1) := by decide +kernel
theorem dX7_join_137 : decode cX7_join 137 = .ok (.getfield 7, 3) := by decide +kernel
theorem dX7_join_140 : decode cX7_join 140 = .ok (.iconst 1, 1) := by decide +kernel
theorem dX7_join_141 : decode cX7_join 141 = .ok (.iaload, 1) := by decide +kernel
theorem dX7_join_142 : decode cX7_join 142 = .ok (.iconst 1, 1) := by decide +kernel
theorem dX7_join_143 : decode cX7_join 143 = .ok (.isub, 1) := by decide +kernel
theorem dX7_join_144 : decode cX7_join 144 = .ok (.ireturn, 1) := by decide +kernel
set_option maxRecDepth 20000 in
theorem ggX7_touch_X7_of : GoodIn wsX7_touch wsX7_of := goodIn_r _ [5, 6, 11, 12, 13, 14, 15, 16, 17, 18, 19, 20, 21, 22, 23, 24, 25, 26, 27, 28, 29, 30] (by decide +kernel) (by decide +kernel)
set_option maxRecDepth 20000 in
theorem gX7_touch_X7_of : GoodIn wsX7_touch (wsV RX7 56 RX7 yX7_of wsX7_of) := goodIn_app (goodIn_of _ (by decide +kernel)) ggX7_touch_X7_of
set_option maxRecDepth 20000 in
theorem ggX7_touch_X7_isAt : GoodIn wsX7_touch wsX7_isAt := goodIn_r _ [10, 1, 2, 3, 4, 5, 6, 11, 12, 13, 14, 15, 16, 17, 18, 19, 20, 21, 22, 23, 24, 25, 26, 27, 28, 29, 30] (by decide +kernel) (by decide +kernel)
set_option maxRecDepth 20000 in
theorem gX7_touch_X7_isAt : GoodIn wsX7_touch (wsV RX7 60 RX7 yX7_isAt wsX7_isAt) := goodIn_app (goodIn_of _ (by decide +kernel)) ggX7_touch_X7_isAt
theorem dX7_touch_0 : decode cX7_touch 0 = .ok (.aload_n 0, 1) := by decide +kernel
theorem dX7_touch_1 : decode cX7_touch 1 = .ok (.iload_n 1, 1) := by decide +kernel
theorem dX7_touch_2 : decode cX7_touch 2 = .ok (.aload_n 0, 1) := by decide +kernel
theorem dX7_touch_3 : decode cX7_touch 3 = .ok (.iload_n 2, 1) := by decide +kernel
theorem dX7_touch_4 : decode cX7_touch 4 = .ok (.iconst 0, 1) := by decide +kernel
theorem dX7_touch_5 : decode cX7_touch 5 = .ok (.invokevirtual 56, 3) := by decide +kernel
theorem dX7_touch_8 : decode cX7_touch 8 = .ok (.invokevirtual 60, 3) := by decide +kernel
theorem dX7_touch_11 : decode cX7_touch 11 = .ok (.ifCond .ne 17, 3) := by decide +kernel
theorem dX7_touch_14 : decode cX7_touch 14 = .ok (.aload_n 0, 1) := by decide +kernel
theorem dX7_touch_15 : decode cX7_touch 15 = .ok (.iload_n 1, 1) := by decide +kernel
theorem dX7_touch_16 : decode cX7_touch 16 = .ok (.aload_n 0, 1) := by decide +kernel
theorem dX7_touch_17 : decode cX7_touch 17 = .ok (.iload_n 2, 1) := by decide +kernel
theorem dX7_touch_18 : decode cX7_touch 18 = .ok (.iconst 1, 1) := by decide +kernel
theorem dX7_touch_19 : decode cX7_touch 19 = .ok (.invokevirtual 56, 3) := by decide +kernel
theorem dX7_touch_22 : decode cX7_touch 22 = .ok (.invokevirtual 60, 3) := by decide +kernel
theorem dX7_touch_25 : decode cX7_touch 25 = .ok (.ifCond .eq 7, 3) := by decide +kernel
theorem dX7_touch_28 : decode cX7_touch 28 = .ok (.iconst 1, 1) := by decide +kernel
theorem dX7_touch_29 : decode cX7_touch 29 = .ok (.goto 4, 3) := by decide +kernel
theorem dX7_touch_32 : decode cX7_touch 32 = .ok (.iconst 0, 1) := by decide +kernel
theorem dX7_touch_33 : decode cX7_touch 33 = .ok (.ireturn, 1) := by decide +kernel
set_option maxRecDepth 20000 in
theorem ggX7_may_X7_touch : GoodIn wsX7_may wsX7_touch := goodIn_r _ [6, 7, 8, 9, 5, 10, 11, 12, 13, 14, 15, 16, 17, 18, 19, 20, 21, 22, 23, 24, 25, 26, 27, 28, 29, 30, 31, 32, 33, 34, 35] (by decide +kernel) (by decide +kernel)
set_option maxRecDepth 20000 in
theorem gX7_may_X7_touch : GoodIn wsX7_may (wsV RX7 155 RX7 yX7_touch wsX7_touch) := goodIn_app (goodIn_of _ (by decide +kernel)) ggX7_may_X7_touch
theorem dX7_may_0 : decode cX7_may 0 = .ok (.iconst 0, 1) := by decide +kernel
theorem dX7_may_1 : decode cX7_may 1 = .ok (.istore_n 3, 1) := by decide +kernel
theorem dX7_may_2 : decode cX7_may 2 = .ok (.iload_n 3, 1) := by decide +kernel
theorem dX7_may_3 : decode cX7_may 3 = .ok (.iload_n 1, 1) := by decide +kernel
theorem dX7_may_4 : decode cX7_may 4 = .ok (.if_icmp .ge 30, 3) := by decide +kernel
theorem dX7_may_7 : decode cX7_may 7 = .ok (.aload_n 0, 1) := by decide +kernel
theorem dX7_may_8 : decode cX7_may 8 = .ok (.getfield 23, 3) := by decide +kernel
theorem dX7_may_11 : decode cX7_may 11 = .ok (.iload_n 3, 1) := by decide +kernel
theorem dX7_may_12 : decode cX7_may 12 = .ok (.iaload, 1) := by decide +kernel
theorem dX7_may_13 : decode cX7_may 13 = .ok (.iload_n 2, 1) := by decide +kernel
theorem dX7_may_14 : decode cX7_may 14 = .ok (.if_icmp .ne 14, 3) := by decide +kernel
theorem dX7_may_17 : decode cX7_may 17 = .ok (.aload_n 0, 1) := by decide +kernel
theorem dX7_may_18 : decode cX7_may 18 = .ok (.iload_n 3, 1) := by decide +kernel
theorem dX7_may_19 : decode cX7_may 19 = .ok (.iload_n 1, 1) := by decide +kernel
theorem dX7_may_20 : decode cX7_may 20 = .ok (.invokevirtual 155, 3) := by decide +kernel
theorem dX7_may_23 : decode cX7_may 23 = .ok (.ifCond .eq 5, 3) := by decide +kernel
theorem dX7_may_26 : decode cX7_may 26 = .ok (.iconst 0, 1) := by decide +kernel
theorem dX7_may_27 : decode cX7_may 27 = .ok (.ireturn, 1) := by decide +kernel
theorem dX7_may_28 : decode cX7_may 28 = .ok (.iinc 3 1, 3) := by decide +kernel
theorem dX7_may_31 : decode cX7_may 31 = .ok (.goto (-29), 3) := by decide +kernel
theorem dX7_may_34 : decode cX7_may 34 = .ok (.iconst 1, 1) := by decide +kernel
theorem dX7_may_35 : decode cX7_may 35 = .ok (.ireturn, 1) := by decide +kernel
set_option maxRecDepth 20000 in
theorem ggX7_nextAt_X7_has : GoodIn wsX7_nextAt wsX7_has := goodIn_r _ [5] (by decide +kernel) (by decide +kernel)
set_option maxRecDepth 20000 in
theorem gX7_nextAt_X7_has : GoodIn wsX7_nextAt (va_wsS RX7 44 yX7_has wsX7_has) := goodIn_app (goodIn_of _ (by decide +kernel)) ggX7_nextAt_X7_has
set_option maxRecDepth 20000 in
theorem ggX7_nextAt_X7_of : GoodIn wsX7_nextAt wsX7_of := goodIn_r _ [9, 10, 23, 24, 25, 26, 27, 28, 29, 30, 31, 32, 33, 34, 35, 36, 37, 38, 39, 40, 41, 42] (by decide +kernel) (by decide +kernel)
set_option maxRecDepth 20000 in
theorem gX7_nextAt_X7_of : GoodIn wsX7_nextAt (wsV RX7 56 RX7 yX7_of wsX7_of) := goodIn_app (goodIn_of _ (by decide +kernel)) ggX7_nextAt_X7_of
set_option maxRecDepth 20000 in
theorem ggX7_nextAt_X7_may : GoodIn wsX7_nextAt wsX7_may := goodIn_r _ [14, 1, 15, 16, 17, 4, 18, 6, 7, 8, 9, 10, 19, 20, 21, 22, 23, 24, 25, 26, 27, 28, 29, 30, 31, 32, 33, 34, 35, 36, 37, 38, 39, 40, 41, 42] (by decide +kernel) (by decide +kernel)
set_option maxRecDepth 20000 in
theorem gX7_nextAt_X7_may : GoodIn wsX7_nextAt (wsV RX7 158 RX7 yX7_may wsX7_may) := goodIn_app (goodIn_of _ (by decide +kernel)) ggX7_nextAt_X7_may
theorem dX7_nextAt_0 : decode cX7_nextAt 0 = .ok (.iload_n 3, 1) := by decide +kernel
theorem dX7_nextAt_1 : decode cX7_nextAt 1 = .ok (.iload_n 1, 1) := by decide +kernel
theorem dX7_nextAt_2 : decode cX7_nextAt 2 = .ok (.invokestatic 44, 3) := by decide +kernel
theorem dX7_nextAt_5 : decode cX7_nextAt 5 = .ok (.ifCond .eq 18, 3) := by decide +kernel
theorem dX7_nextAt_8 : decode cX7_nextAt 8 = .ok (.aload_n 0, 1) := by decide +kernel
theorem dX7_nextAt_9 : decode cX7_nextAt 9 = .ok (.getfield 23, 3) := by decide +kernel
theorem dX7_nextAt_12 : decode cX7_nextAt 12 = .ok (.iload_n 1, 1) := by decide +kernel
theorem dX7_nextAt_13 : decode cX7_nextAt 13 = .ok (.iaload, 1) := by decide +kernel
theorem dX7_nextAt_14 : decode cX7_nextAt 14 = .ok (.ifCond .ge 7, 3) := by decide +kernel
theorem dX7_nextAt_17 : decode cX7_nextAt 17 = .ok (.iconst 4, 1) := by decide +kernel
theorem dX7_nextAt_18 : decode cX7_nextAt 18 = .ok (.goto 4, 3) := by decide +kernel
theorem dX7_nextAt_21 : decode cX7_nextAt 21 = .ok (.iconst 3, 1) := by decide +kernel
theorem dX7_nextAt_22 : decode cX7_nextAt 22 = .ok (.ireturn, 1) := by decide +kernel
theorem dX7_nextAt_23 : decode cX7_nextAt 23 = .ok (.iload_n 2, 1) := by decide +kernel
theorem dX7_nextAt_24 : decode cX7_nextAt 24 = .ok (.ifCond .eq 12, 3) := by decide +kernel
theorem dX7_nextAt_27 : decode cX7_nextAt 27 = .ok (.aload_n 0, 1) := by decide +kernel
theorem dX7_nextAt_28 : decode cX7_nextAt 28 = .ok (.iload_n 1, 1) := by decide +kernel
theorem dX7_nextAt_29 : decode cX7_nextAt 29 = .ok (.iconst 2, 1) := by decide +kernel
theorem dX7_nextAt_30 : decode cX7_nextAt 30 = .ok (.invokevirtual 56, 3) := by decide +kernel
theorem dX7_nextAt_33 : decode cX7_nextAt 33 = .ok (.goto 4, 3) := by decide +kernel
theorem dX7_nextAt_36 : decode cX7_nextAt 36 = .ok (.iconst 3, 1) := by decide +kernel
theorem dX7_nextAt_37 : decode cX7_nextAt 37 = .ok (.istore 4, 2) := by decide +kernel
theorem dX7_nextAt_39 : decode cX7_nextAt 39 = .ok (.aload_n 0, 1) := by decide +kernel
theorem dX7_nextAt_40 : decode cX7_nextAt 40 = .ok (.getfield 23, 3) := by decide +kernel
theorem dX7_nextAt_43 : decode cX7_nextAt 43 = .ok (.iload_n 1, 1) := by decide +kernel
theorem dX7_nextAt_44 : decode cX7_nextAt 44 = .ok (.iaload, 1) := by decide +kernel
theorem dX7_nextAt_45 : decode cX7_nextAt 45 = .ok (.iconst 1, 1) := by decide +kernel
theorem dX7_nextAt_46 : decode cX7_nextAt 46 = .ok (.iadd, 1) := by decide +kernel
theorem dX7_nextAt_47 : decode cX7_nextAt 47 = .ok (.istore 5, 2) := by decide +kernel
theorem dX7_nextAt_49 : decode cX7_nextAt 49 = .ok (.iload 5, 2) := by decide +kernel
theorem dX7_nextAt_51 : decode cX7_nextAt 51 = .ok (.iconst 3, 1) := by decide +kernel
theorem dX7_nextAt_52 : decode cX7_nextAt 52 = .ok (.if_icmp .ge 32, 3) := by decide +kernel
theorem dX7_nextAt_55 : decode cX7_nextAt 55 = .ok (.aload_n 0, 1) := by decide +kernel
theorem dX7_nextAt_56 : decode cX7_nextAt 56 = .ok (.iload_n 1, 1) := by decide +kernel
theorem dX7_nextAt_57 : decode cX7_nextAt 57 = .ok (.iload 5, 2) := by decide +kernel
theorem dX7_nextAt_59 : decode cX7_nextAt 59 = .ok (.invokevirtual 158, 3) := by decide +kernel
theorem dX7_nextAt_62 : decode cX7_nextAt 62 = .ok (.ifCond .eq 16, 3) := by decide +kernel
theorem dX7_nextAt_65 : decode cX7_nextAt 65 = .ok (.iload 4, 2) := by decide +kernel
theorem dX7_nextAt_67 : decode cX7_nextAt 67 = .ok (.iconst 3, 1) := by decide +kernel
theorem dX7_nextAt_68 : decode cX7_nextAt 68 = .ok (.if_icmp .eq 16, 3) := by decide +kernel
theorem dX7_nextAt_71 : decode cX7_nextAt 71 = .ok (.iload 4, 2) := by decide +kernel
theorem dX7_nextAt_73 : decode cX7_nextAt 73 = .ok (.iload 5, 2) := by decide +kernel
theorem dX7_nextAt_75 : decode cX7_nextAt 75 = .ok (.if_icmp .eq 9, 3) := by decide +kernel
theorem dX7_nextAt_78 : decode cX7_nextAt 78 = .ok (.iinc 5 1, 3) := by decide +kernel
theorem dX7_nextAt_81 : decode cX7_nextAt 81 = .ok (.goto (-32), 3) := by decide +kernel
theorem dX7_nextAt_84 : decode cX7_nextAt 84 = .ok (.iload 5, 2) := by decide +kernel
theorem dX7_nextAt_86 : decode cX7_nextAt 86 = .ok (.ireturn, 1) := by decide +kernel
set_option maxRecDepth 20000 in
theorem ggX7_paints_X7_laysAside : GoodIn wsX7_paints wsX7_laysAside := goodIn_r _ [7, 2, 8, 1, 32, 33, 34, 35, 36, 37, 38, 39, 40, 41, 42, 43, 44, 45, 46, 47, 48, 49, 50, 51] (by decide +kernel) (by decide +kernel)
set_option maxRecDepth 20000 in
theorem gX7_paints_X7_laysAside : GoodIn wsX7_paints (wsV RX7 161 RX7 yX7_laysAside wsX7_laysAside) := goodIn_app (goodIn_of _ (by decide +kernel)) ggX7_paints_X7_laysAside
set_option maxRecDepth 20000 in
theorem ggX7_paints_X7_nextAt : GoodIn wsX7_paints wsX7_nextAt := goodIn_r _ [12, 1, 13, 14, 6, 15, 16, 17, 18, 19, 2, 20, 21, 22, 23, 24, 25, 26, 27, 28, 29, 30, 31, 32, 33, 34, 35, 36, 37, 38, 39, 40, 41, 42, 43, 44, 45, 46, 47, 48, 49, 50, 51] (by decide +kernel) (by decide +kernel)
set_option maxRecDepth 20000 in
theorem gX7_paints_X7_nextAt : GoodIn wsX7_paints (wsV RX7 165 RX7 yX7_nextAt wsX7_nextAt) := goodIn_app (goodIn_of _ (by decide +kernel)) ggX7_paints_X7_nextAt
theorem dX7_paints_0 : decode cX7_paints 0 = .ok (.iconst 0, 1) := by decide +kernel
theorem dX7_paints_1 : decode cX7_paints 1 = .ok (.istore 4, 2) := by decide +kernel
theorem dX7_paints_3 : decode cX7_paints 3 = .ok (.iconst 0, 1) := by decide +kernel
theorem dX7_paints_4 : decode cX7_paints 4 = .ok (.istore 5, 2) := by decide +kernel
theorem dX7_paints_6 : decode cX7_paints 6 = .ok (.aload_n 0, 1) := by decide +kernel
theorem dX7_paints_7 : decode cX7_paints 7 = .ok (.getfield 23, 3) := by decide +kernel
theorem dX7_paints_10 : decode cX7_paints 10 = .ok (.iconst 0, 1) := by decide +kernel
theorem dX7_paints_11 : decode cX7_paints 11 = .ok (.iconst (-1), 1) := by decide +kernel
theorem dX7_paints_12 : decode cX7_paints 12 = .ok (.iastore, 1) := by decide +kernel
theorem dX7_paints_13 : decode cX7_paints 13 = .ok (.iload 5, 2) := by decide +kernel
theorem dX7_paints_15 : decode cX7_paints 15 = .ok (.ifCond .lt 92, 3) := by decide +kernel
theorem dX7_paints_18 : decode cX7_paints 18 = .ok (.iload_n 3, 1) := by decide +kernel
theorem dX7_paints_19 : decode cX7_paints 19 = .ok (.ifCond .eq 8, 3) := by decide +kernel
theorem dX7_paints_22 : decode cX7_paints 22 = .ok (.iload 4, 2) := by decide +kernel
theorem dX7_paints_24 : decode cX7_paints 24 = .ok (.ifCond .gt 83, 3) := by decide +kernel
theorem dX7_paints_27 : decode cX7_paints 27 = .ok (.iload 5, 2) := by decide +kernel
theorem dX7_paints_29 : decode cX7_paints 29 = .ok (.aload_n 0, 1) := by decide +kernel
theorem dX7_paints_30 : decode cX7_paints 30 = .ok (.getfield 7, 3) := by decide +kernel
theorem dX7_paints_33 : decode cX7_paints 33 = .ok (.iconst 1, 1) := by decide +kernel
theorem dX7_paints_34 : decode cX7_paints 34 = .ok (.iaload, 1) := by decide +kernel
theorem dX7_paints_35 : decode cX7_paints 35 = .ok (.if_icmp .ne 26, 3) := by decide +kernel
theorem dX7_paints_38 : decode cX7_paints 38 = .ok (.aload_n 0, 1) := by decide +kernel
theorem dX7_paints_39 : decode cX7_paints 39 = .ok (.iload 4, 2) := by decide +kernel
theorem dX7_paints_41 : decode cX7_paints 41 = .ok (.ifCond .ne 7, 3) := by decide +kernel
theorem dX7_paints_44 : decode cX7_paints 44 = .ok (.iconst 1, 1) := by decide +kernel
theorem dX7_paints_45 : decode cX7_paints 45 = .ok (.goto 4, 3) := by decide +kernel
theorem dX7_paints_48 : decode cX7_paints 48 = .ok (.iconst 0, 1) := by decide +kernel
theorem dX7_paints_49 : decode cX7_paints 49 = .ok (.invokevirtual 161, 3) := by decide +kernel
theorem dX7_paints_52 : decode cX7_paints 52 = .ok (.iinc 4 1, 3) := by decide +kernel
theorem dX7_paints_55 : decode cX7_paints 55 = .ok (.iinc 5 (-1), 3) := by decide +kernel
theorem dX7_paints_58 : decode cX7_paints 58 = .ok (.goto (-45), 3) := by decide +kernel
theorem dX7_paints_61 : decode cX7_paints 61 = .ok (.aload_n 0, 1) := by decide +kernel
theorem dX7_paints_62 : decode cX7_paints 62 = .ok (.getfield 23, 3) := by decide +kernel
theorem dX7_paints_65 : decode cX7_paints 65 = .ok (.iload 5, 2) := by decide +kernel
theorem dX7_paints_67 : decode cX7_paints 67 = .ok (.aload_n 0, 1) := by decide +kernel
theorem dX7_paints_68 : decode cX7_paints 68 = .ok (.iload 5, 2) := by decide +kernel
theorem dX7_paints_70 : decode cX7_paints 70 = .ok (.iload_n 1, 1) := by decide +kernel
theorem dX7_paints_71 : decode cX7_paints 71 = .ok (.iload_n 2, 1) := by decide +kernel
theorem dX7_paints_72 : decode cX7_paints 72 = .ok (.invokevirtual 165, 3) := by decide +kernel
theorem dX7_paints_75 : decode cX7_paints 75 = .ok (.iastore, 1) := by decide +kernel
theorem dX7_paints_76 : decode cX7_paints 76 = .ok (.aload_n 0, 1) := by decide +kernel
theorem dX7_paints_77 : decode cX7_paints 77 = .ok (.getfield 23, 3) := by decide +kernel
theorem dX7_paints_80 : decode cX7_paints 80 = .ok (.iload 5, 2) := by decide +kernel
theorem dX7_paints_82 : decode cX7_paints 82 = .ok (.iaload, 1) := by decide +kernel
theorem dX7_paints_83 : decode cX7_paints 83 = .ok (.iconst 3, 1) := by decide +kernel
theorem dX7_paints_84 : decode cX7_paints 84 = .ok (.if_icmp .ne 9, 3) := by decide +kernel
theorem dX7_paints_87 : decode cX7_paints 87 = .ok (.iinc 5 (-1), 3) := by decide +kernel
theorem dX7_paints_90 : decode cX7_paints 90 = .ok (.goto (-77), 3) := by decide +kernel
theorem dX7_paints_93 : decode cX7_paints 93 = .ok (.iinc 5 1, 3) := by decide +kernel
theorem dX7_paints_96 : decode cX7_paints 96 = .ok (.aload_n 0, 1) := by decide +kernel
theorem dX7_paints_97 : decode cX7_paints 97 = .ok (.getfield 23, 3) := by decide +kernel
theorem dX7_paints_100 : decode cX7_paints 100 = .ok (.iload 5, 2) := by decide +kernel
theorem dX7_paints_102 : decode cX7_paints 102 = .ok (.iconst (-1), 1) := by decide +kernel
theorem dX7_paints_103 : decode cX7_paints 103 = .ok (.iastore, 1) := by decide +kernel
theorem dX7_paints_104 : decode cX7_paints 104 = .ok (.goto (-91), 3) := by decide +kernel
theorem dX7_paints_107 : decode cX7_paints 107 = .ok (.iload 4, 2) := by decide +kernel
theorem dX7_paints_109 : decode cX7_paints 109 = .ok (.ireturn, 1) := by decide +kernel
theorem dX7_laysAside_0 : decode cX7_laysAside 0 = .ok (.iconst 0, 1) := by decide +kernel
theorem dX7_laysAside_1 : decode cX7_laysAside 1 = .ok (.istore_n 2, 1) := by decide +kernel
theorem dX7_laysAside_2 : decode cX7_laysAside 2 = .ok (.iload_n 2, 1) := by decide +kernel
theorem dX7_laysAside_3 : decode cX7_laysAside 3 = .ok (.aload_n 0, 1) := by decide +kernel
theorem dX7_laysAside_4 : decode cX7_laysAside 4 = .ok (.getfield 7, 3) := by decide +kernel
theorem dX7_laysAside_7 : decode cX7_laysAside 7 = .ok (.iconst 1, 1) := by decide +kernel
theorem dX7_laysAside_8 : decode cX7_laysAside 8 = .ok (.iaload, 1) := by decide +kernel
theorem dX7_laysAside_9 : decode cX7_laysAside 9 = .ok (.if_icmp .ge 25, 3) := by decide +kernel
theorem dX7_laysAside_12 : decode cX7_laysAside 12 = .ok (.iload_n 1, 1) := by decide +kernel
theorem dX7_laysAside_13 : decode cX7_laysAside 13 = .ok (.ifCond .eq 21, 3) := by decide +kernel
theorem dX7_laysAside_16 : decode cX7_laysAside 16 = .ok (.aload_n 0, 1) := by decide +kernel
theorem dX7_laysAside_17 : decode cX7_laysAside 17 = .ok (.getfield 26, 3) := by decide +kernel
theorem dX7_laysAside_20 : decode cX7_laysAside 20 = .ok (.iload_n 2, 1) := by decide +kernel
theorem dX7_laysAside_21 : decode cX7_laysAside 21 = .ok (.aload_n 0, 1) := by decide +kernel
theorem dX7_laysAside_22 : decode cX7_laysAside 22 = .ok (.getfield 23, 3) := by decide +kernel
theorem dX7_laysAside_25 : decode cX7_laysAside 25 = .ok (.iload_n 2, 1) := by decide +kernel
theorem dX7_laysAside_26 : decode cX7_laysAside 26 = .ok (.iaload, 1) := by decide +kernel
theorem dX7_laysAside_27 : decode cX7_laysAside 27 = .ok (.iastore, 1) := by decide +kernel
theorem dX7_laysAside_28 : decode cX7_laysAside 28 = .ok (.iinc 2 1, 3) := by decide +kernel
theorem dX7_laysAside_31 : decode cX7_laysAside 31 = .ok (.goto (-29), 3) := by decide +kernel
theorem dX7_laysAside_34 : decode cX7_laysAside 34 = .ok (.return_, 1) := by decide +kernel
set_option maxRecDepth 20000 in
theorem ggX7_paintings_X7_in : GoodIn wsX7_paintings wsX7_in := goodIn_r _ [4] (by decide +kernel) (by decide +kernel)
set_option maxRecDepth 20000 in
theorem gX7_paintings_X7_in : GoodIn wsX7_paintings (va_wsS RX7 52 yX7_in wsX7_in) := goodIn_app (goodIn_of _ (by decide +kernel)) ggX7_paintings_X7_in
set_option maxRecDepth 20000 in
theorem ggX7_paintings_X7_paints : GoodIn wsX7_paintings wsX7_paints := goodIn_r _ [8, 9, 10, 11, 12, 13, 3, 14, 15, 16, 17, 18, 19, 20, 21, 22, 23, 24, 25, 26, 27, 28, 29, 30, 31, 32, 33, 34, 35, 36, 37, 38, 39, 40, 41, 42, 43, 44, 45, 46, 47, 48, 49, 50, 51, 52, 53, 54, 55, 56, 57, 58] (by decide +kernel) (by decide +kernel)
set_option maxRecDepth 20000 in
theorem gX7_paintings_X7_paints : GoodIn wsX7_paintings (wsV RX7 169 RX7 yX7_paints wsX7_paints) := goodIn_app (goodIn_of _ (by decide +kernel)) ggX7_paintings_X7_paints
theorem dX7_paintings_0 : decode cX7_paintings 0 = .ok (.iload_n 1, 1) := by decide +kernel
theorem dX7_paintings_1 : decode cX7_paintings 1 = .ok (.iconst 0, 1) := by decide +kernel
theorem dX7_paintings_2 : decode cX7_paintings 2 = .ok (.iconst 2, 1) := by decide +kernel
theorem dX7_paintings_3 : decode cX7_paintings 3 = .ok (.invokestatic 52, 3) := by decide +kernel
theorem dX7_paintings_6 : decode cX7_paintings 6 = .ok (.ifCond .ne 6, 3) := by decide +kernel
theorem dX7_paintings_9 : decode cX7_paintings 9 = .ok (.bipush (-2), 2) := by decide +kernel
theorem dX7_paintings_11 : decode cX7_paintings 11 = .ok (.ireturn, 1) := by decide +kernel
theorem dX7_paintings_12 : decode cX7_paintings 12 = .ok (.aload_n 0, 1) := by decide +kernel
theorem dX7_paintings_13 : decode cX7_paintings 13 = .ok (.iload_n 1, 1) := by decide +kernel
theorem dX7_paintings_14 : decode cX7_paintings 14 = .ok (.iconst 1, 1) := by decide +kernel
theorem dX7_paintings_15 : decode cX7_paintings 15 = .ok (.if_icmp .ne 7, 3) := by decide +kernel
theorem dX7_paintings_18 : decode cX7_paintings 18 = .ok (.iconst 1, 1) := by decide +kernel
theorem dX7_paintings_19 : decode cX7_paintings 19 = .ok (.goto 4, 3) := by decide +kernel
theorem dX7_paintings_22 : decode cX7_paintings 22 = .ok (.iconst 0, 1) := by decide +kernel
theorem dX7_paintings_23 : decode cX7_paintings 23 = .ok (.iconst 0, 1) := by decide +kernel
theorem dX7_paintings_24 : decode cX7_paintings 24 = .ok (.iload_n 1, 1) := by decide +kernel
theorem dX7_paintings_25 : decode cX7_paintings 25 = .ok (.ifCond .ne 7, 3) := by decide +kernel
theorem dX7_paintings_28 : decode cX7_paintings 28 = .ok (.iconst 1, 1) := by decide +kernel
theorem dX7_paintings_29 : decode cX7_paintings 29 = .ok (.goto 4, 3) := by decide +kernel
theorem dX7_paintings_32 : decode cX7_paintings 32 = .ok (.iconst 0, 1) := by decide +kernel
theorem dX7_paintings_33 : decode cX7_paintings 33 = .ok (.invokevirtual 169, 3) := by decide +kernel
theorem dX7_paintings_36 : decode cX7_paintings 36 = .ok (.ireturn, 1) := by decide +kernel
set_option maxRecDepth 20000 in
theorem ggX7_firstPainting_X7_isThread : GoodIn wsX7_firstPainting wsX7_isThread := goodIn_r _ [6, 7, 8, 9, 5, 10, 43, 44, 45, 46, 47, 48, 49, 50, 51, 52, 53, 54, 55, 56, 57, 58, 59, 60, 61, 62] (by decide +kernel) (by decide +kernel)
set_option maxRecDepth 20000 in
theorem gX7_firstPainting_X7_isThread : GoodIn wsX7_firstPainting (wsV RX7 133 RX7 yX7_isThread wsX7_isThread) := goodIn_app (goodIn_of _ (by decide +kernel)) ggX7_firstPainting_X7_isThread
set_option maxRecDepth 20000 in
theorem ggX7_firstPainting_X7_paints : GoodIn wsX7_firstPainting wsX7_paints := goodIn_r _ [14, 15, 7, 16, 17, 18, 5, 19, 1, 20, 21, 22, 23, 24, 25, 26, 27, 28, 29, 30, 31, 32, 33, 34, 35, 36, 37, 38, 39, 40, 41, 42, 43, 44, 45, 46, 47, 48, 49, 50, 51, 52, 53, 54, 55, 56, 57, 58, 59, 60, 61, 62] (by decide +kernel) (by decide +kernel)
set_option maxRecDepth 20000 in
theorem gX7_firstPainting_X7_paints : GoodIn wsX7_firstPainting (wsV RX7 169 RX7 yX7_paints wsX7_paints) := goodIn_app (goodIn_of _ (by decide +kernel)) ggX7_firstPainting_X7_paints
theorem dX7_firstPainting_0 : decode cX7_firstPainting 0 = .ok (.aload_n 0, 1) := by decide +kernel
theorem dX7_firstPainting_1 : decode cX7_firstPainting 1 = .ok (.iload_n 1, 1) := by decide +kernel
theorem dX7_firstPainting_2 : decode cX7_firstPainting 2 = .ok (.invokevirtual 133, 3) := by decide +kernel
theorem dX7_firstPainting_5 : decode cX7_firstPainting 5 = .ok (.ifCond .ne 5, 3) := by decide +kernel
theorem dX7_firstPainting_8 : decode cX7_firstPainting 8 = .ok (.iconst (-1), 1) := by decide +kernel
theorem dX7_firstPainting_9 : decode cX7_firstPainting 9 = .ok (.ireturn, 1) := by decide +kernel
theorem dX7_firstPainting_10 : decode cX7_firstPainting 10 = .ok (.aload_n 0, 1) := by decide +kernel
theorem dX7_firstPainting_11 : decode cX7_firstPainting 11 = .ok (.iconst 0, 1) := by decide +kernel
theorem dX7_firstPainting_12 : decode cX7_firstPainting 12 = .ok (.iconst 0, 1) := by decide +kernel
theorem dX7_firstPainting_13 : decode cX7_firstPainting 13 = .ok (.iconst 1, 1) := by decide +kernel
theorem dX7_firstPainting_14 : decode cX7_firstPainting 14 = .ok (.invokevirtual 169, 3) := by decide +kernel
theorem dX7_firstPainting_17 : decode cX7_firstPainting 17 = .ok (.ifCond .ne 8, 3) := by decide +kernel
theorem dX7_firstPainting_20 : decode cX7_firstPainting 20 = .ok (.bipush (-5), 2) := by decide +kernel
theorem dX7_firstPainting_22 : decode cX7_firstPainting 22 = .ok (.goto 9, 3) := by decide +kernel
theorem dX7_firstPainting_25 : decode cX7_firstPainting 25 = .ok (.aload_n 0, 1) := by decide +kernel
theorem dX7_firstPainting_26 : decode cX7_firstPainting 26 = .ok (.getfield 26, 3) := by decide +kernel
theorem dX7_firstPainting_29 : decode cX7_firstPainting 29 = .ok (.iload_n 1, 1) := by decide +kernel
theorem dX7_firstPainting_30 : decode cX7_firstPainting 30 = .ok (.iaload, 1) := by decide +kernel
theorem dX7_firstPainting_31 : decode cX7_firstPainting 31 = .ok (.ireturn, 1) := by decide +kernel
set_option maxRecDepth 20000 in
theorem ggX7_plainOnes_X7_of : GoodIn wsX7_plainOnes wsX7_of := goodIn_r _ [6, 1, 7, 8, 9, 10, 11, 12, 13, 14, 15, 16, 17, 18, 19, 20, 21, 22, 23, 24, 25, 26] (by decide +kernel) (by decide +kernel)
set_option maxRecDepth 20000 in
theorem gX7_plainOnes_X7_of : GoodIn wsX7_plainOnes (wsV RX7 56 RX7 yX7_of wsX7_of) := goodIn_app (goodIn_of _ (by decide +kernel)) ggX7_plainOnes_X7_of
theorem dX7_plainOnes_0 : decode cX7_plainOnes 0 = .ok (.iconst 0, 1) := by decide +kernel
theorem dX7_plainOnes_1 : decode cX7_plainOnes 1 = .ok (.istore_n 1, 1) := by decide +kernel
theorem dX7_plainOnes_2 : decode cX7_plainOnes 2 = .ok (.iconst 0, 1) := by decide +kernel
theorem dX7_plainOnes_3 : decode cX7_plainOnes 3 = .ok (.istore_n 2, 1) := by decide +kernel
theorem dX7_plainOnes_4 : decode cX7_plainOnes 4 = .ok (.iload_n 2, 1) := by decide +kernel
theorem dX7_plainOnes_5 : decode cX7_plainOnes 5 = .ok (.aload_n 0, 1) := by decide +kernel
theorem dX7_plainOnes_6 : decode cX7_plainOnes 6 = .ok (.getfield 7, 3) := by decide +kernel
theorem dX7_plainOnes_9 : decode cX7_plainOnes 9 = .ok (.iconst 1, 1) := by decide +kernel
theorem dX7_plainOnes_10 : decode cX7_plainOnes 10 = .ok (.iaload, 1) := by decide +kernel
theorem dX7_plainOnes_11 : decode cX7_plainOnes 11 = .ok (.if_icmp .ge 27, 3) := by decide +kernel
theorem dX7_plainOnes_14 : decode cX7_plainOnes 14 = .ok (.iload_n 1, 1) := by decide +kernel
theorem dX7_plainOnes_15 : decode cX7_plainOnes 15 = .ok (.aload_n 0, 1) := by decide +kernel
theorem dX7_plainOnes_16 : decode cX7_plainOnes 16 = .ok (.iload_n 2, 1) := by decide +kernel
theorem dX7_plainOnes_17 : decode cX7_plainOnes 17 = .ok (.iconst 2, 1) := by decide +kernel
theorem dX7_plainOnes_18 : decode cX7_plainOnes 18 = .ok (.invokevirtual 56, 3) := by decide +kernel
theorem dX7_plainOnes_21 : decode cX7_plainOnes 21 = .ok (.iconst 3, 1) := by decide +kernel
theorem dX7_plainOnes_22 : decode cX7_plainOnes 22 = .ok (.if_icmp .ne 7, 3) := by decide +kernel
theorem dX7_plainOnes_25 : decode cX7_plainOnes 25 = .ok (.iconst 1, 1) := by decide +kernel
theorem dX7_plainOnes_26 : decode cX7_plainOnes 26 = .ok (.goto 4, 3) := by decide +kernel
theorem dX7_plainOnes_29 : decode cX7_plainOnes 29 = .ok (.iconst 0, 1) := by decide +kernel
theorem dX7_plainOnes_30 : decode cX7_plainOnes 30 = .ok (.iadd, 1) := by decide +kernel
theorem dX7_plainOnes_31 : decode cX7_plainOnes 31 = .ok (.istore_n 1, 1) := by decide +kernel
theorem dX7_plainOnes_32 : decode cX7_plainOnes 32 = .ok (.iinc 2 1, 3) := by decide +kernel
theorem dX7_plainOnes_35 : decode cX7_plainOnes 35 = .ok (.goto (-31), 3) := by decide +kernel
theorem dX7_plainOnes_38 : decode cX7_plainOnes 38 = .ok (.iload_n 1, 1) := by decide +kernel
theorem dX7_plainOnes_39 : decode cX7_plainOnes 39 = .ok (.ireturn, 1) := by decide +kernel
set_option maxRecDepth 20000 in
theorem ggX7_complete_X7_paints : GoodIn wsX7_complete wsX7_paints := goodIn_r _ [7, 8, 1, 9, 10, 11, 6, 12, 2, 13, 14, 15, 16, 17, 18, 19, 20, 21, 22, 23, 24, 25, 26, 27, 28, 29, 30, 31, 32, 33, 34, 35, 46, 47, 48, 49, 50, 51, 52, 53, 54, 55, 56, 57, 58, 59, 60, 61, 62, 63, 64, 65] (by decide +kernel) (by decide +kernel)
set_option maxRecDepth 20000 in
theorem gX7_complete_X7_paints : GoodIn wsX7_complete (wsV RX7 169 RX7 yX7_paints wsX7_paints) := goodIn_app (goodIn_of _ (by decide +kernel)) ggX7_complete_X7_paints
set_option maxRecDepth 20000 in
theorem ggX7_complete_X7_plainOnes : GoodIn wsX7_complete wsX7_plainOnes := goodIn_r _ [39, 1, 20, 21, 22, 6, 23, 46, 47, 48, 49, 50, 51, 52, 53, 54, 55, 56, 57, 58, 59, 60, 61, 62, 63, 64, 65] (by decide +kernel) (by decide +kernel)
set_option maxRecDepth 20000 in
theorem gX7_complete_X7_plainOnes : GoodIn wsX7_complete (wsV RX7 173 RX7 yX7_plainOnes wsX7_plainOnes) := goodIn_app (goodIn_of _ (by decide +kernel)) ggX7_complete_X7_plainOnes
set_option maxRecDepth 20000 in
theorem ggX7_complete_X7_records : GoodIn wsX7_complete wsX7_records := goodIn_r _ [43, 44, 45, 1, 46, 47, 48, 49, 50, 51, 52, 53, 54, 55, 56, 57, 58, 59, 60, 61, 62, 63, 64, 65] (by decide +kernel) (by decide +kernel)
set_option maxRecDepth 20000 in
theorem gX7_complete_X7_records : GoodIn wsX7_complete (wsV RX7 84 RX7 yX7_records wsX7_records) := goodIn_app (goodIn_of _ (by decide +kernel)) ggX7_complete_X7_records
theorem dX7_complete_0 : decode cX7_complete 0 = .ok (.aload_n 0, 1) := by decide +kernel
theorem dX7_complete_1 : decode cX7_complete 1 = .ok (.iconst 1, 1) := by decide +kernel
theorem dX7_complete_2 : decode cX7_complete 2 = .ok (.iconst 0, 1) := by decide +kernel
theorem dX7_complete_3 : decode cX7_complete 3 = .ok (.iconst 1, 1) := by decide +kernel
theorem dX7_complete_4 : decode cX7_complete 4 = .ok (.invokevirtual 169, 3) := by decide +kernel
theorem dX7_complete_7 : decode cX7_complete 7 = .ok (.ifCond .ne 6, 3) := by decide +kernel
theorem dX7_complete_10 : decode cX7_complete 10 = .ok (.bipush (-4), 2) := by decide +kernel
theorem dX7_complete_12 : decode cX7_complete 12 = .ok (.ireturn, 1) := by decide +kernel
theorem dX7_complete_13 : decode cX7_complete 13 = .ok (.aload_n 0, 1) := by decide +kernel
theorem dX7_complete_14 : decode cX7_complete 14 = .ok (.invokevirtual 173, 3) := by decide +kernel
theorem dX7_complete_17 : decode cX7_complete 17 = .ok (.istore_n 1, 1) := by decide +kernel
theorem dX7_complete_18 : decode cX7_complete 18 = .ok (.iload_n 1, 1) := by decide +kernel
theorem dX7_complete_19 : decode cX7_complete 19 = .ok (.ifCond .ne 6, 3) := by decide +kernel
theorem dX7_complete_22 : decode cX7_complete 22 = .ok (.bipush (-5), 2) := by decide +kernel
theorem dX7_complete_24 : decode cX7_complete 24 = .ok (.ireturn, 1) := by decide +kernel
theorem dX7_complete_25 : decode cX7_complete 25 = .ok (.aload_n 0, 1) := by decide +kernel
theorem dX7_complete_26 : decode cX7_complete 26 = .ok (.invokevirtual 84, 3) := by decide +kernel
theorem dX7_complete_29 : decode cX7_complete 29 = .ok (.iconst 0, 1) := by decide +kernel
theorem dX7_complete_30 : decode cX7_complete 30 = .ok (.istore_n 2, 1) := by decide +kernel
theorem dX7_complete_31 : decode cX7_complete 31 = .ok (.iload_n 2, 1) := by decide +kernel
theorem dX7_complete_32 : decode cX7_complete 32 = .ok (.aload_n 0, 1) := by decide +kernel
theorem dX7_complete_33 : decode cX7_complete 33 = .ok (.getfield 7, 3) := by decide +kernel
theorem dX7_complete_36 : decode cX7_complete 36 = .ok (.iconst 1, 1) := by decide +kernel
theorem dX7_complete_37 : decode cX7_complete 37 = .ok (.iaload, 1) := by decide +kernel
theorem dX7_complete_38 : decode cX7_complete 38 = .ok (.if_icmp .ge 27, 3) := by decide +kernel
theorem dX7_complete_41 : decode cX7_complete 41 = .ok (.aload_n 0, 1) := by decide +kernel
theorem dX7_complete_42 : decode cX7_complete 42 = .ok (.getfield 7, 3) := by decide +kernel
theorem dX7_complete_45 : decode cX7_complete 45 = .ok (.iconst 2, 1) := by decide +kernel
theorem dX7_complete_46 : decode cX7_complete 46 = .ok (.iconst 3, 1) := by decide +kernel
theorem dX7_complete_47 : decode cX7_complete 47 = .ok (.iload_n 2, 1) := by decide +kernel
theorem dX7_complete_48 : decode cX7_complete 48 = .ok (.imul, 1) := by decide +kernel
theorem dX7_complete_49 : decode cX7_complete 49 = .ok (.iadd, 1) := by decide +kernel
theorem dX7_complete_50 : decode cX7_complete 50 = .ok (.iconst 2, 1) := by decide +kernel
theorem dX7_complete_51 : decode cX7_complete 51 = .ok (.iadd, 1) := by decide +kernel
theorem dX7_complete_52 : decode cX7_complete 52 = .ok (.aload_n 0, 1) := by decide +kernel
theorem dX7_complete_53 : decode cX7_complete 53 = .ok (.getfield 26, 3) := by decide +kernel
theorem dX7_complete_56 : decode cX7_complete 56 = .ok (.iload_n 2, 1) := by decide +kernel
theorem dX7_complete_57 : decode cX7_complete 57 = .ok (.iaload, 1) := by decide +kernel
theorem dX7_complete_58 : decode cX7_complete 58 = .ok (.iastore, 1) := by decide +kernel
theorem dX7_complete_59 : decode cX7_complete 59 = .ok (.iinc 2 1, 3) := by decide +kernel
theorem dX7_complete_62 : decode cX7_complete 62 = .ok (.goto (-31), 3) := by decide +kernel
theorem dX7_complete_65 : decode cX7_complete 65 = .ok (.iload_n 1, 1) := by decide +kernel
theorem dX7_complete_66 : decode cX7_complete 66 = .ok (.ireturn, 1) := by decide +kernel
set_option maxRecDepth 20000 in
theorem ggX7_enough_X7_paints : GoodIn wsX7_enough wsX7_paints := goodIn_r _ [6, 7, 1, 8, 9, 10, 5, 11, 12, 13, 14, 15, 16, 17, 18, 19, 20, 21, 22, 23, 24, 25, 26, 27, 28, 29, 30, 31, 32, 33, 34, 35, 36, 37, 38, 39, 40, 41, 42, 43, 44, 45, 46, 47, 48, 49, 50, 51, 52, 53, 54, 55] (by decide +kernel) (by decide +kernel)
set_option maxRecDepth 20000 in
theorem gX7_enough_X7_paints : GoodIn wsX7_enough (wsV RX7 169 RX7 yX7_paints wsX7_paints) := goodIn_app (goodIn_of _ (by decide +kernel)) ggX7_enough_X7_paints
theorem dX7_enough_0 : decode cX7_enough 0 = .ok (.iconst 1, 1) := by decide +kernel
theorem dX7_enough_1 : decode cX7_enough 1 = .ok (.iload_n 1, 1) := by decide +kernel
theorem dX7_enough_2 : decode cX7_enough 2 = .ok (.ishl, 1) := by decide +kernel
theorem dX7_enough_3 : decode cX7_enough 3 = .ok (.iconst 1, 1) := by decide +kernel
theorem dX7_enough_4 : decode cX7_enough 4 = .ok (.isub, 1) := by decide +kernel
theorem dX7_enough_5 : decode cX7_enough 5 = .ok (.istore_n 2, 1) := by decide +kernel
theorem dX7_enough_6 : decode cX7_enough 6 = .ok (.iload_n 2, 1) := by decide +kernel
theorem dX7_enough_7 : decode cX7_enough 7 = .ok (.iconst 1, 1) := by decide +kernel
theorem dX7_enough_8 : decode cX7_enough 8 = .ok (.aload_n 0, 1) := by decide +kernel
theorem dX7_enough_9 : decode cX7_enough 9 = .ok (.getfield 7, 3) := by decide +kernel
theorem dX7_enough_12 : decode cX7_enough 12 = .ok (.iconst 1, 1) := by decide +kernel
theorem dX7_enough_13 : decode cX7_enough 13 = .ok (.iaload, 1) := by decide +kernel
theorem dX7_enough_14 : decode cX7_enough 14 = .ok (.ishl, 1) := by decide +kernel
theorem dX7_enough_15 : decode cX7_enough 15 = .ok (.if_icmp .ge 40, 3) := by decide +kernel
theorem dX7_enough_18 : decode cX7_enough 18 = .ok (.aload_n 0, 1) := by decide +kernel
theorem dX7_enough_19 : decode cX7_enough 19 = .ok (.iconst 0, 1) := by decide +kernel
theorem dX7_enough_20 : decode cX7_enough 20 = .ok (.iload_n 2, 1) := by decide +kernel
theorem dX7_enough_21 : decode cX7_enough 21 = .ok (.iconst 1, 1) := by decide +kernel
theorem dX7_enough_22 : decode cX7_enough 22 = .ok (.invokevirtual 169, 3) := by decide +kernel
theorem dX7_enough_25 : decode cX7_enough 25 = .ok (.ifCond .le 5, 3) := by decide +kernel
theorem dX7_enough_28 : decode cX7_enough 28 = .ok (.iload_n 2, 1) := by decide +kernel
theorem dX7_enough_29 : decode cX7_enough 29 = .ok (.ireturn, 1) := by decide +kernel
theorem dX7_enough_30 : decode cX7_enough 30 = .ok (.iload_n 2, 1) := by decide +kernel
theorem dX7_enough_31 : decode cX7_enough 31 = .ok (.iload_n 2, 1) := by decide +kernel
theorem dX7_enough_32 : decode cX7_enough 32 = .ok (.ineg, 1) := by decide +kernel
theorem dX7_enough_33 : decode cX7_enough 33 = .ok (.iand, 1) := by decide +kernel
theorem dX7_enough_34 : decode cX7_enough 34 = .ok (.istore_n 3, 1) := by decide +kernel
theorem dX7_enough_35 : decode cX7_enough 35 = .ok (.iload_n 2, 1) := by decide +kernel
theorem dX7_enough_36 : decode cX7_enough 36 = .ok (.iload_n 3, 1) := by decide +kernel
theorem dX7_enough_37 : decode cX7_enough 37 = .ok (.iadd, 1) := by decide +kernel
theorem dX7_enough_38 : decode cX7_enough 38 = .ok (.istore 4, 2) := by decide +kernel
theorem dX7_enough_40 : decode cX7_enough 40 = .ok (.iload 4, 2) := by decide +kernel
theorem dX7_enough_42 : decode cX7_enough 42 = .ok (.iload_n 2, 1) := by decide +kernel
theorem dX7_enough_43 : decode cX7_enough 43 = .ok (.iload 4, 2) := by decide +kernel
theorem dX7_enough_45 : decode cX7_enough 45 = .ok (.ixor, 1) := by decide +kernel
theorem dX7_enough_46 : decode cX7_enough 46 = .ok (.iload_n 3, 1) := by decide +kernel
theorem dX7_enough_47 : decode cX7_enough 47 = .ok (.idiv, 1) := by decide +kernel
theorem dX7_enough_48 : decode cX7_enough 48 = .ok (.iconst 2, 1) := by decide +kernel
theorem dX7_enough_49 : decode cX7_enough 49 = .ok (.ishr, 1) := by decide +kernel
theorem dX7_enough_50 : decode cX7_enough 50 = .ok (.ior, 1) := by decide +kernel
theorem dX7_enough_51 : decode cX7_enough 51 = .ok (.istore_n 2, 1) := by decide +kernel
theorem dX7_enough_52 : decode cX7_enough 52 = .ok (.goto (-46), 3) := by decide +kernel
theorem dX7_enough_55 : decode cX7_enough 55 = .ok (.bipush (-5), 2) := by decide +kernel
theorem dX7_enough_57 : decode cX7_enough 57 = .ok (.ireturn, 1) := by decide +kernel
set_option maxRecDepth 20000 in
theorem ggX7_leastSet_X7_paints : GoodIn wsX7_leastSet wsX7_paints := goodIn_r _ [5, 6, 7, 8, 9, 10, 4, 11, 12, 13, 14, 15, 16, 17, 18, 19, 20, 21, 22, 23, 24, 25, 26, 27, 28, 29, 30, 31, 32, 33, 34, 35, 40, 41, 42, 43, 44, 45, 46, 47, 48, 49, 50, 51, 52, 53, 54, 55, 56, 57, 58, 59] (by decide +kernel) (by decide +kernel)
set_option maxRecDepth 20000 in
theorem gX7_leastSet_X7_paints : GoodIn wsX7_leastSet (wsV RX7 169 RX7 yX7_paints wsX7_paints) := goodIn_app (goodIn_of _ (by decide +kernel)) ggX7_leastSet_X7_paints
set_option maxRecDepth 20000 in
theorem ggX7_leastSet_X7_enough : GoodIn wsX7_leastSet wsX7_enough := goodIn_r _ [39, 7, 1, 2, 3, 4, 5, 6, 8, 9, 10, 11, 12, 13, 14, 15, 16, 17, 18, 19, 20, 21, 22, 23, 24, 25, 26, 27, 28, 29, 30, 31, 32, 33, 34, 35, 40, 41, 42, 43, 44, 45, 46, 47, 48, 49, 50, 51, 52, 53, 54, 55, 56, 57, 58, 59] (by decide +kernel) (by decide +kernel)
set_option maxRecDepth 20000 in
theorem gX7_leastSet_X7_enough : GoodIn wsX7_leastSet (wsV RX7 177 RX7 yX7_enough wsX7_enough) := goodIn_app (goodIn_of _ (by decide +kernel)) ggX7_leastSet_X7_enough
theorem dX7_leastSet_0 : decode cX7_leastSet 0 = .ok (.aload_n 0, 1) := by decide +kernel
theorem dX7_leastSet_1 : decode cX7_leastSet 1 = .ok (.iconst 0, 1) := by decide +kernel
theorem dX7_leastSet_2 : decode cX7_leastSet 2 = .ok (.iconst 0, 1) := by decide +kernel
theorem dX7_leastSet_3 : decode cX7_leastSet 3 = .ok (.iconst 1, 1) := by decide +kernel
theorem dX7_leastSet_4 : decode cX7_leastSet 4 = .ok (.invokevirtual 169, 3) := by decide +kernel
theorem dX7_leastSet_7 : decode cX7_leastSet 7 = .ok (.ifCond .le 7, 3) := by decide +kernel
theorem dX7_leastSet_10 : decode cX7_leastSet 10 = .ok (.iconst 0, 1) := by decide +kernel
theorem dX7_leastSet_11 : decode cX7_leastSet 11 = .ok (.goto 5, 3) := by decide +kernel
theorem dX7_leastSet_14 : decode cX7_leastSet 14 = .ok (.bipush (-5), 2) := by decide +kernel
theorem dX7_leastSet_16 : decode cX7_leastSet 16 = .ok (.istore_n 1, 1) := by decide +kernel
theorem dX7_leastSet_17 : decode cX7_leastSet 17 = .ok (.iconst 1, 1) := by decide +kernel
theorem dX7_leastSet_18 : decode cX7_leastSet 18 = .ok (.istore_n 2, 1) := by decide +kernel
theorem dX7_leastSet_19 : decode cX7_leastSet 19 = .ok (.iload_n 1, 1) := by decide +kernel
theorem dX7_leastSet_20 : decode cX7_leastSet 20 = .ok (.ifCond .ge 15, 3) := by decide +kernel
theorem dX7_leastSet_23 : decode cX7_leastSet 23 = .ok (.aload_n 0, 1) := by decide +kernel
theorem dX7_leastSet_24 : decode cX7_leastSet 24 = .ok (.iload_n 2, 1) := by decide +kernel
theorem dX7_leastSet_25 : decode cX7_leastSet 25 = .ok (.invokevirtual 177, 3) := by decide +kernel
theorem dX7_leastSet_28 : decode cX7_leastSet 28 = .ok (.istore_n 1, 1) := by decide +kernel
theorem dX7_leastSet_29 : decode cX7_leastSet 29 = .ok (.iinc 2 1, 3) := by decide +kernel
theorem dX7_leastSet_32 : decode cX7_leastSet 32 = .ok (.goto (-13), 3) := by decide +kernel
theorem dX7_leastSet_35 : decode cX7_leastSet 35 = .ok (.iload_n 1, 1) := by decide +kernel
theorem dX7_leastSet_36 : decode cX7_leastSet 36 = .ok (.ireturn, 1) := by decide +kernel
set_option maxRecDepth 20000 in
theorem ggX7_takingOut_X7_in : GoodIn wsX7_takingOut wsX7_in := goodIn_r _ [4] (by decide +kernel) (by decide +kernel)
set_option maxRecDepth 20000 in
theorem gX7_takingOut_X7_in : GoodIn wsX7_takingOut (va_wsS RX7 52 yX7_in wsX7_in) := goodIn_app (goodIn_of _ (by decide +kernel)) ggX7_takingOut_X7_in
set_option maxRecDepth 20000 in
theorem ggX7_takingOut_X7_leastSet : GoodIn wsX7_takingOut wsX7_leastSet := goodIn_r _ [8, 9, 10, 11, 3, 12, 13, 14, 15, 16, 17, 18, 19, 20, 21, 22, 23, 24, 25, 26, 27, 28, 29, 30, 31, 32, 33, 34, 35, 36, 37, 38, 39, 40, 41, 42, 43, 44, 45, 46, 50, 51, 52, 53, 54, 55, 56, 57, 58, 59, 60, 61, 62, 63, 64, 65, 66, 67, 68, 69] (by decide +kernel) (by decide +kernel)
set_option maxRecDepth 20000 in
theorem gX7_takingOut_X7_leastSet : GoodIn wsX7_takingOut (wsV RX7 180 RX7 yX7_leastSet wsX7_leastSet) := goodIn_app (goodIn_of _ (by decide +kernel)) ggX7_takingOut_X7_leastSet
set_option maxRecDepth 20000 in
theorem ggX7_takingOut_X7_ones : GoodIn wsX7_takingOut wsX7_ones := goodIn_r _ [49] (by decide +kernel) (by decide +kernel)
set_option maxRecDepth 20000 in
theorem gX7_takingOut_X7_ones : GoodIn wsX7_takingOut (va_wsS RX7 67 yX7_ones wsX7_ones) := goodIn_app (goodIn_of _ (by decide +kernel)) ggX7_takingOut_X7_ones
theorem dX7_takingOut_0 : decode cX7_takingOut 0 = .ok (.iload_n 1, 1) := by decide +kernel
theorem dX7_takingOut_1 : decode cX7_takingOut 1 = .ok (.iconst 0, 1) := by decide +kernel
theorem dX7_takingOut_2 : decode cX7_takingOut 2 = .ok (.iconst 1, 1) := by decide +kernel
theorem dX7_takingOut_3 : decode cX7_takingOut 3 = .ok (.invokestatic 52, 3) := by decide +kernel
theorem dX7_takingOut_6 : decode cX7_takingOut 6 = .ok (.ifCond .ne 6, 3) := by decide +kernel
theorem dX7_takingOut_9 : decode cX7_takingOut 9 = .ok (.bipush (-2), 2) := by decide +kernel
theorem dX7_takingOut_11 : decode cX7_takingOut 11 = .ok (.ireturn, 1) := by decide +kernel
theorem dX7_takingOut_12 : decode cX7_takingOut 12 = .ok (.aload_n 0, 1) := by decide +kernel
theorem dX7_takingOut_13 : decode cX7_takingOut 13 = .ok (.invokevirtual 180, 3) := by decide +kernel
theorem dX7_takingOut_16 : decode cX7_takingOut 16 = .ok (.istore_n 2, 1) := by decide +kernel
theorem dX7_takingOut_17 : decode cX7_takingOut 17 = .ok (.iload_n 1, 1) := by decide +kernel
theorem dX7_takingOut_18 : decode cX7_takingOut 18 = .ok (.ifCond .ne 10, 3) := by decide +kernel
theorem dX7_takingOut_21 : decode cX7_takingOut 21 = .ok (.iload_n 2, 1) := by decide +kernel
theorem dX7_takingOut_22 : decode cX7_takingOut 22 = .ok (.invokestatic 67, 3) := by decide +kernel
theorem dX7_takingOut_25 : decode cX7_takingOut 25 = .ok (.goto 4, 3) := by decide +kernel
theorem dX7_takingOut_28 : decode cX7_takingOut 28 = .ok (.iload_n 2, 1) := by decide +kernel
theorem dX7_takingOut_29 : decode cX7_takingOut 29 = .ok (.ireturn, 1) := by decide +kernel
set_option maxRecDepth 20000 in
theorem ggX7_paint_X7_isThread : GoodIn wsX7_paint wsX7_isThread := goodIn_r _ [6, 1, 7, 8, 5, 9, 20, 21, 22, 23, 24, 25, 26, 27, 28, 29, 30, 31, 32, 33, 34, 35, 36, 37, 38, 39] (by decide +kernel) (by decide +kernel)
set_option maxRecDepth 20000 in
theorem gX7_paint_X7_isThread : GoodIn wsX7_paint (wsV RX7 133 RX7 yX7_isThread wsX7_isThread) := goodIn_app (goodIn_of _ (by decide +kernel)) ggX7_paint_X7_isThread
set_option maxRecDepth 20000 in
theorem ggX7_paint_X7_in : GoodIn wsX7_paint wsX7_in := goodIn_r _ [9] (by decide +kernel) (by decide +kernel)
set_option maxRecDepth 20000 in
theorem gX7_paint_X7_in : GoodIn wsX7_paint (va_wsS RX7 52 yX7_in wsX7_in) := goodIn_app (goodIn_of _ (by decide +kernel)) ggX7_paint_X7_in
set_option maxRecDepth 20000 in
theorem ggX7_paint_X7_of : GoodIn wsX7_paint wsX7_of := goodIn_r _ [13, 1, 20, 21, 22, 23, 24, 25, 26, 27, 28, 29, 30, 31, 32, 33, 34, 35, 36, 37, 38, 39] (by decide +kernel) (by decide +kernel)
set_option maxRecDepth 20000 in
theorem gX7_paint_X7_of : GoodIn wsX7_paint (wsV RX7 56 RX7 yX7_of wsX7_of) := goodIn_app (goodIn_of _ (by decide +kernel)) ggX7_paint_X7_of
set_option maxRecDepth 20000 in
theorem ggX7_paint_X7_records : GoodIn wsX7_paint wsX7_records := goodIn_r _ [17, 18, 19, 1, 20, 21, 22, 23, 24, 25, 26, 27, 28, 29, 30, 31, 32, 33, 34, 35, 36, 37, 38, 39] (by decide +kernel) (by decide +kernel)
set_option maxRecDepth 20000 in
theorem gX7_paint_X7_records : GoodIn wsX7_paint (wsV RX7 84 RX7 yX7_records wsX7_records) := goodIn_app (goodIn_of _ (by decide +kernel)) ggX7_paint_X7_records
theorem dX7_paint_0 : decode cX7_paint 0 = .ok (.aload_n 0, 1) := by decide +kernel
theorem dX7_paint_1 : decode cX7_paint 1 = .ok (.iload_n 1, 1) := by decide +kernel
theorem dX7_paint_2 : decode cX7_paint 2 = .ok (.invokevirtual 133, 3) := by decide +kernel
theorem dX7_paint_5 : decode cX7_paint 5 = .ok (.ifCond .ne 5, 3) := by decide +kernel
theorem dX7_paint_8 : decode cX7_paint 8 = .ok (.iconst (-1), 1) := by decide +kernel
theorem dX7_paint_9 : decode cX7_paint 9 = .ok (.ireturn, 1) := by decide +kernel
theorem dX7_paint_10 : decode cX7_paint 10 = .ok (.iload_n 2, 1) := by decide +kernel
theorem dX7_paint_11 : decode cX7_paint 11 = .ok (.iconst 0, 1) := by decide +kernel
theorem dX7_paint_12 : decode cX7_paint 12 = .ok (.iconst 3, 1) := by decide +kernel
theorem dX7_paint_13 : decode cX7_paint 13 = .ok (.invokestatic 52, 3) := by decide +kernel
theorem dX7_paint_16 : decode cX7_paint 16 = .ok (.ifCond .ne 6, 3) := by decide +kernel
theorem dX7_paint_19 : decode cX7_paint 19 = .ok (.bipush (-2), 2) := by decide +kernel
theorem dX7_paint_21 : decode cX7_paint 21 = .ok (.ireturn, 1) := by decide +kernel
theorem dX7_paint_22 : decode cX7_paint 22 = .ok (.aload_n 0, 1) := by decide +kernel
theorem dX7_paint_23 : decode cX7_paint 23 = .ok (.iload_n 1, 1) := by decide +kernel
theorem dX7_paint_24 : decode cX7_paint 24 = .ok (.iconst 2, 1) := by decide +kernel
theorem dX7_paint_25 : decode cX7_paint 25 = .ok (.invokevirtual 56, 3) := by decide +kernel
theorem dX7_paint_28 : decode cX7_paint 28 = .ok (.istore_n 3, 1) := by decide +kernel
theorem dX7_paint_29 : decode cX7_paint 29 = .ok (.iload_n 3, 1) := by decide +kernel
theorem dX7_paint_30 : decode cX7_paint 30 = .ok (.iload_n 2, 1) := by decide +kernel
theorem dX7_paint_31 : decode cX7_paint 31 = .ok (.if_icmp .ne 6, 3) := by decide +kernel
theorem dX7_paint_34 : decode cX7_paint 34 = .ok (.bipush (-5), 2) := by decide +kernel
theorem dX7_paint_36 : decode cX7_paint 36 = .ok (.ireturn, 1) := by decide +kernel
theorem dX7_paint_37 : decode cX7_paint 37 = .ok (.aload_n 0, 1) := by decide +kernel
theorem dX7_paint_38 : decode cX7_paint 38 = .ok (.invokevirtual 84, 3) := by decide +kernel
theorem dX7_paint_41 : decode cX7_paint 41 = .ok (.aload_n 0, 1) := by decide +kernel
theorem dX7_paint_42 : decode cX7_paint 42 = .ok (.getfield 7, 3) := by decide +kernel
theorem dX7_paint_45 : decode cX7_paint 45 = .ok (.iconst 2, 1) := by decide +kernel
theorem dX7_paint_46 : decode cX7_paint 46 = .ok (.iconst 3, 1) := by decide +kernel
theorem dX7_paint_47 : decode cX7_paint 47 = .ok (.iload_n 1, 1) := by decide +kernel
theorem dX7_paint_48 : decode cX7_paint 48 = .ok (.imul, 1) := by decide +kernel
theorem dX7_paint_49 : decode cX7_paint 49 = .ok (.iadd, 1) := by decide +kernel
theorem dX7_paint_50 : decode cX7_paint 50 = .ok (.iconst 2, 1) := by decide +kernel
theorem dX7_paint_51 : decode cX7_paint 51 = .ok (.iadd, 1) := by decide +kernel
theorem dX7_paint_52 : decode cX7_paint 52 = .ok (.iload_n 2, 1) := by decide +kernel
theorem dX7_paint_53 : decode cX7_paint 53 = .ok (.iastore, 1) := by decide +kernel
theorem dX7_paint_54 : decode cX7_paint 54 = .ok (.iload_n 3, 1) := by decide +kernel
theorem dX7_paint_55 : decode cX7_paint 55 = .ok (.ireturn, 1) := by decide +kernel
set_option maxRecDepth 20000 in
theorem ggX7_whyNoChain_X7_isThread : GoodIn wsX7_whyNoChain wsX7_isThread := goodIn_r _ [5, 6, 7, 8, 4, 9, 14, 15, 16, 17, 18, 19, 20, 21, 22, 23, 24, 25, 26, 27, 28, 29, 30, 31, 32, 33] (by decide +kernel) (by decide +kernel)
set_option maxRecDepth 20000 in
theorem gX7_whyNoChain_X7_isThread : GoodIn wsX7_whyNoChain (wsV RX7 133 RX7 yX7_isThread wsX7_isThread) := goodIn_app (goodIn_of _ (by decide +kernel)) ggX7_whyNoChain_X7_isThread
set_option maxRecDepth 20000 in
theorem ggX7_whyNoChain_X7_of : GoodIn wsX7_whyNoChain wsX7_of := goodIn_r _ [13, 6, 14, 15, 16, 17, 18, 19, 20, 21, 22, 23, 24, 25, 26, 27, 28, 29, 30, 31, 32, 33] (by decide +kernel) (by decide +kernel)
set_option maxRecDepth 20000 in
theorem gX7_whyNoChain_X7_of : GoodIn wsX7_whyNoChain (wsV RX7 56 RX7 yX7_of wsX7_of) := goodIn_app (goodIn_of _ (by decide +kernel)) ggX7_whyNoChain_X7_of
set_option maxRecDepth 20000 in
theorem ggX7_whyNoChain_X7_in : GoodIn wsX7_whyNoChain wsX7_in := goodIn_r _ [9] (by decide +kernel) (by decide +kernel)
set_option maxRecDepth 20000 in
theorem gX7_whyNoChain_X7_in : GoodIn wsX7_whyNoChain (va_wsS RX7 52 yX7_in wsX7_in) := goodIn_app (goodIn_of _ (by decide +kernel)) ggX7_whyNoChain_X7_in
theorem dX7_whyNoChain_0 : decode cX7_whyNoChain 0 = .ok (.aload_n 0, 1) := by decide +kernel
theorem dX7_whyNoChain_1 : decode cX7_whyNoChain 1 = .ok (.iload_n 1, 1) := by decide +kernel
theorem dX7_whyNoChain_2 : decode cX7_whyNoChain 2 = .ok (.invokevirtual 133, 3) := by decide +kernel
theorem dX7_whyNoChain_5 : decode cX7_whyNoChain 5 = .ok (.ifCond .ne 5, 3) := by decide +kernel
theorem dX7_whyNoChain_8 : decode cX7_whyNoChain 8 = .ok (.iconst (-1), 1) := by decide +kernel
theorem dX7_whyNoChain_9 : decode cX7_whyNoChain 9 = .ok (.ireturn, 1) := by decide +kernel
theorem dX7_whyNoChain_10 : decode cX7_whyNoChain 10 = .ok (.aload_n 0, 1) := by decide +kernel
theorem dX7_whyNoChain_11 : decode cX7_whyNoChain 11 = .ok (.iload_n 1, 1) := by decide +kernel
theorem dX7_whyNoChain_12 : decode cX7_whyNoChain 12 = .ok (.iconst 2, 1) := by decide +kernel
theorem dX7_whyNoChain_13 : decode cX7_whyNoChain 13 = .ok (.invokevirtual 56, 3) := by decide +kernel
theorem dX7_whyNoChain_16 : decode cX7_whyNoChain 16 = .ok (.istore_n 3, 1) := by decide +kernel
theorem dX7_whyNoChain_17 : decode cX7_whyNoChain 17 = .ok (.iload_n 2, 1) := by decide +kernel
theorem dX7_whyNoChain_18 : decode cX7_whyNoChain 18 = .ok (.iconst 0, 1) := by decide +kernel
theorem dX7_whyNoChain_19 : decode cX7_whyNoChain 19 = .ok (.iconst 2, 1) := by decide +kernel
theorem dX7_whyNoChain_20 : decode cX7_whyNoChain 20 = .ok (.invokestatic 52, 3) := by decide +kernel
theorem dX7_whyNoChain_23 : decode cX7_whyNoChain 23 = .ok (.ifCond .eq 8, 3) := by decide +kernel
theorem dX7_whyNoChain_26 : decode cX7_whyNoChain 26 = .ok (.iload_n 2, 1) := by decide +kernel
theorem dX7_whyNoChain_27 : decode cX7_whyNoChain 27 = .ok (.iload_n 3, 1) := by decide +kernel
theorem dX7_whyNoChain_28 : decode cX7_whyNoChain 28 = .ok (.if_icmp .ne 8, 3) := by decide +kernel
theorem dX7_whyNoChain_31 : decode cX7_whyNoChain 31 = .ok (.bipush (-2), 2) := by decide +kernel
theorem dX7_whyNoChain_33 : decode cX7_whyNoChain 33 = .ok (.goto 14, 3) := by decide +kernel
theorem dX7_whyNoChain_36 : decode cX7_whyNoChain 36 = .ok (.iload_n 3, 1) := by decide +kernel
theorem dX7_whyNoChain_37 : decode cX7_whyNoChain 37 = .ok (.iconst 3, 1) := by decide +kernel
theorem dX7_whyNoChain_38 : decode cX7_whyNoChain 38 = .ok (.if_icmp .ne 8, 3) := by decide +kernel
theorem dX7_whyNoChain_41 : decode cX7_whyNoChain 41 = .ok (.bipush (-4), 2) := by decide +kernel
theorem dX7_whyNoChain_43 : decode cX7_whyNoChain 43 = .ok (.goto 4, 3) := by decide +kernel
theorem dX7_whyNoChain_46 : decode cX7_whyNoChain 46 = .ok (.iconst 0, 1) := by decide +kernel
theorem dX7_whyNoChain_47 : decode cX7_whyNoChain 47 = .ok (.ireturn, 1) := by decide +kernel
set_option maxRecDepth 20000 in
theorem ggX7_touchesAny_X7_has : GoodIn wsX7_touchesAny wsX7_has := goodIn_r _ [5] (by decide +kernel) (by decide +kernel)
set_option maxRecDepth 20000 in
theorem gX7_touchesAny_X7_has : GoodIn wsX7_touchesAny (va_wsS RX7 44 yX7_has wsX7_has) := goodIn_app (goodIn_of _ (by decide +kernel)) ggX7_touchesAny_X7_has
set_option maxRecDepth 20000 in
theorem ggX7_touchesAny_X7_touch : GoodIn wsX7_touchesAny wsX7_touch := goodIn_r _ [9, 10, 11, 12, 4, 13, 1, 14, 15, 16, 17, 18, 19, 20, 21, 22, 23, 24, 25, 26, 27, 28, 29, 30, 31, 32, 33, 34, 35, 36, 37] (by decide +kernel) (by decide +kernel)
set_option maxRecDepth 20000 in
theorem gX7_touchesAny_X7_touch : GoodIn wsX7_touchesAny (wsV RX7 155 RX7 yX7_touch wsX7_touch) := goodIn_app (goodIn_of _ (by decide +kernel)) ggX7_touchesAny_X7_touch
theorem dX7_touchesAny_0 : decode cX7_touchesAny 0 = .ok (.iconst 0, 1) := by decide +kernel
theorem dX7_touchesAny_1 : decode cX7_touchesAny 1 = .ok (.istore_n 3, 1) := by decide +kernel
theorem dX7_touchesAny_2 : decode cX7_touchesAny 2 = .ok (.iconst 0, 1) := by decide +kernel
theorem dX7_touchesAny_3 : decode cX7_touchesAny 3 = .ok (.istore 4, 2) := by decide +kernel
theorem dX7_touchesAny_5 : decode cX7_touchesAny 5 = .ok (.iload 4, 2) := by decide +kernel
theorem dX7_touchesAny_7 : decode cX7_touchesAny 7 = .ok (.aload_n 0, 1) := by decide +kernel
theorem dX7_touchesAny_8 : decode cX7_touchesAny 8 = .ok (.getfield 7, 3) := by decide +kernel
theorem dX7_touchesAny_11 : decode cX7_touchesAny 11 = .ok (.iconst 1, 1) := by decide +kernel
theorem dX7_touchesAny_12 : decode cX7_touchesAny 12 = .ok (.iaload, 1) := by decide +kernel
theorem dX7_touchesAny_13 : decode cX7_touchesAny 13 = .ok (.if_icmp .ge 38, 3) := by decide +kernel
theorem dX7_touchesAny_16 : decode cX7_touchesAny 16 = .ok (.iload_n 3, 1) := by decide +kernel
theorem dX7_touchesAny_17 : decode cX7_touchesAny 17 = .ok (.ifCond .ne 22, 3) := by decide +kernel
theorem dX7_touchesAny_20 : decode cX7_touchesAny 20 = .ok (.iload_n 2, 1) := by decide +kernel
theorem dX7_touchesAny_21 : decode cX7_touchesAny 21 = .ok (.iload 4, 2) := by decide +kernel
theorem dX7_touchesAny_23 : decode cX7_touchesAny 23 = .ok (.invokestatic 44, 3) := by decide +kernel
theorem dX7_touchesAny_26 : decode cX7_touchesAny 26 = .ok (.ifCond .eq 17, 3) := by decide +kernel
theorem dX7_touchesAny_29 : decode cX7_touchesAny 29 = .ok (.aload_n 0, 1) := by decide +kernel
theorem dX7_touchesAny_30 : decode cX7_touchesAny 30 = .ok (.iload 4, 2) := by decide +kernel
theorem dX7_touchesAny_32 : decode cX7_touchesAny 32 = .ok (.iload_n 1, 1) := by decide +kernel
theorem dX7_touchesAny_33 : decode cX7_touchesAny 33 = .ok (.invokevirtual 155, 3) := by decide +kernel
theorem dX7_touchesAny_36 : decode cX7_touchesAny 36 = .ok (.ifCond .eq 7, 3) := by decide +kernel
theorem dX7_touchesAny_39 : decode cX7_touchesAny 39 = .ok (.iconst 1, 1) := by decide +kernel
theorem dX7_touchesAny_40 : decode cX7_touchesAny 40 = .ok (.goto 4, 3) := by decide +kernel
theorem dX7_touchesAny_43 : decode cX7_touchesAny 43 = .ok (.iconst 0, 1) := by decide +kernel
theorem dX7_touchesAny_44 : decode cX7_touchesAny 44 = .ok (.istore_n 3, 1) := by decide +kernel
theorem dX7_touchesAny_45 : decode cX7_touchesAny 45 = .ok (.iinc 4 1, 3) := by decide +kernel
theorem dX7_touchesAny_48 : decode cX7_touchesAny 48 = .ok (.goto (-43), 3) := by decide +kernel
theorem dX7_touchesAny_51 : decode cX7_touchesAny 51 = .ok (.iload_n 3, 1) := by decide +kernel
theorem dX7_touchesAny_52 : decode cX7_touchesAny 52 = .ok (.ireturn, 1) := by decide +kernel
set_option maxRecDepth 20000 in
theorem ggX7_chainOf_X7_of : GoodIn wsX7_chainOf wsX7_of := goodIn_r _ [6, 1, 22, 23, 24, 25, 26, 27, 28, 29, 30, 31, 32, 33, 34, 35, 36, 37, 38, 39, 40, 41] (by decide +kernel) (by decide +kernel)
set_option maxRecDepth 20000 in
theorem gX7_chainOf_X7_of : GoodIn wsX7_chainOf (wsV RX7 56 RX7 yX7_of wsX7_of) := goodIn_app (goodIn_of _ (by decide +kernel)) ggX7_chainOf_X7_of
set_option maxRecDepth 20000 in
theorem ggX7_chainOf_X7_touchesAny : GoodIn wsX7_chainOf wsX7_touchesAny := goodIn_r _ [10, 1, 11, 12, 5, 13, 14, 15, 16, 17, 2, 3, 4, 6, 18, 19, 20, 21, 22, 23, 24, 25, 26, 27, 28, 29, 30, 31, 32, 33, 34, 35, 36, 37, 38, 39, 40, 41] (by decide +kernel) (by decide +kernel)
set_option maxRecDepth 20000 in
theorem gX7_chainOf_X7_touchesAny : GoodIn wsX7_chainOf (wsV RX7 183 RX7 yX7_touchesAny wsX7_touchesAny) := goodIn_app (goodIn_of _ (by decide +kernel)) ggX7_chainOf_X7_touchesAny
theorem dX7_chainOf_0 : decode cX7_chainOf 0 = .ok (.aload_n 0, 1) := by decide +kernel
theorem dX7_chainOf_1 : decode cX7_chainOf 1 = .ok (.iload_n 1, 1) := by decide +kernel
theorem dX7_chainOf_2 : decode cX7_chainOf 2 = .ok (.iconst 2, 1) := by decide +kernel
theorem dX7_chainOf_3 : decode cX7_chainOf 3 = .ok (.invokevirtual 56, 3) := by decide +kernel
theorem dX7_chainOf_6 : decode cX7_chainOf 6 = .ok (.istore_n 3, 1) := by decide +kernel
theorem dX7_chainOf_7 : decode cX7_chainOf 7 = .ok (.iconst 0, 1) := by decide +kernel
theorem dX7_chainOf_8 : decode cX7_chainOf 8 = .ok (.istore 4, 2) := by decide +kernel
theorem dX7_chainOf_10 : decode cX7_chainOf 10 = .ok (.iconst 1, 1) := by decide +kernel
theorem dX7_chainOf_11 : decode cX7_chainOf 11 = .ok (.iload_n 1, 1) := by decide +kernel
theorem dX7_chainOf_12 : decode cX7_chainOf 12 = .ok (.ishl, 1) := by decide +kernel
theorem dX7_chainOf_13 : decode cX7_chainOf 13 = .ok (.istore 5, 2) := by decide +kernel
theorem dX7_chainOf_15 : decode cX7_chainOf 15 = .ok (.iload 5, 2) := by decide +kernel
theorem dX7_chainOf_17 : decode cX7_chainOf 17 = .ok (.iload 4, 2) := by decide +kernel
theorem dX7_chainOf_19 : decode cX7_chainOf 19 = .ok (.if_icmp .eq 88, 3) := by decide +kernel
theorem dX7_chainOf_22 : decode cX7_chainOf 22 = .ok (.iload 5, 2) := by decide +kernel
theorem dX7_chainOf_24 : decode cX7_chainOf 24 = .ok (.istore 4, 2) := by decide +kernel
theorem dX7_chainOf_26 : decode cX7_chainOf 26 = .ok (.iconst 0, 1) := by decide +kernel
theorem dX7_chainOf_27 : decode cX7_chainOf 27 = .ok (.istore 6, 2) := by decide +kernel
theorem dX7_chainOf_29 : decode cX7_chainOf 29 = .ok (.iload 6, 2) := by decide +kernel
theorem dX7_chainOf_31 : decode cX7_chainOf 31 = .ok (.aload_n 0, 1) := by decide +kernel
theorem dX7_chainOf_32 : decode cX7_chainOf 32 = .ok (.getfield 7, 3) := by decide +kernel
theorem dX7_chainOf_35 : decode cX7_chainOf 35 = .ok (.iconst 1, 1) := by decide +kernel
theorem dX7_chainOf_36 : decode cX7_chainOf 36 = .ok (.iaload, 1) := by decide +kernel
theorem dX7_chainOf_37 : decode cX7_chainOf 37 = .ok (.if_icmp .ge 67, 3) := by decide +kernel
theorem dX7_chainOf_40 : decode cX7_chainOf 40 = .ok (.aload_n 0, 1) := by decide +kernel
theorem dX7_chainOf_41 : decode cX7_chainOf 41 = .ok (.iload 6, 2) := by decide +kernel
theorem dX7_chainOf_43 : decode cX7_chainOf 43 = .ok (.iconst 2, 1) := by decide +kernel
theorem dX7_chainOf_44 : decode cX7_chainOf 44 = .ok (.invokevirtual 56, 3) := by decide +kernel
theorem dX7_chainOf_47 : decode cX7_chainOf 47 = .ok (.iload_n 3, 1) := by decide +kernel
theorem dX7_chainOf_48 : decode cX7_chainOf 48 = .ok (.if_icmp .eq 14, 3) := by decide +kernel
theorem dX7_chainOf_51 : decode cX7_chainOf 51 = .ok (.aload_n 0, 1) := by decide +kernel
theorem dX7_chainOf_52 : decode cX7_chainOf 52 = .ok (.iload 6, 2) := by decide +kernel
theorem dX7_chainOf_54 : decode cX7_chainOf 54 = .ok (.iconst 2, 1) := by decide +kernel
theorem dX7_chainOf_55 : decode cX7_chainOf 55 = .ok (.invokevirtual 56, 3) := by decide +kernel
theorem dX7_chainOf_58 : decode cX7_chainOf 58 = .ok (.iload_n 2, 1) := by decide +kernel
theorem dX7_chainOf_59 : decode cX7_chainOf 59 = .ok (.if_icmp .ne 7, 3) := by decide +kernel
theorem dX7_chainOf_62 : decode cX7_chainOf 62 = .ok (.iconst 1, 1) := by decide +kernel
theorem dX7_chainOf_63 : decode cX7_chainOf 63 = .ok (.goto 4, 3) := by decide +kernel
theorem dX7_chainOf_66 : decode cX7_chainOf 66 = .ok (.iconst 0, 1) := by decide +kernel
theorem dX7_chainOf_67 : decode cX7_chainOf 67 = .ok (.istore 7, 2) := by decide +kernel
theorem dX7_chainOf_69 : decode cX7_chainOf 69 = .ok (.iload 5, 2) := by decide +kernel
theorem dX7_chainOf_71 : decode cX7_chainOf 71 = .ok (.iload 7, 2) := by decide +kernel
theorem dX7_chainOf_73 : decode cX7_chainOf 73 = .ok (.ifCond .eq 21, 3) := by decide +kernel
theorem dX7_chainOf_76 : decode cX7_chainOf 76 = .ok (.aload_n 0, 1) := by decide +kernel
theorem dX7_chainOf_77 : decode cX7_chainOf 77 = .ok (.iload 6, 2) := by decide +kernel
theorem dX7_chainOf_79 : decode cX7_chainOf 79 = .ok (.iload 5, 2) := by decide +kernel
theorem dX7_chainOf_81 : decode cX7_chainOf 81 = .ok (.invokevirtual 183, 3) := by decide +kernel
theorem dX7_chainOf_84 : decode cX7_chainOf 84 = .ok (.ifCond .eq 10, 3) := by decide +kernel
theorem dX7_chainOf_87 : decode cX7_chainOf 87 = .ok (.iconst 1, 1) := by decide +kernel
theorem dX7_chainOf_88 : decode cX7_chainOf 88 = .ok (.iload 6, 2) := by decide +kernel
theorem dX7_chainOf_90 : decode cX7_chainOf 90 = .ok (.ishl, 1) := by decide +kernel
theorem dX7_chainOf_91 : decode cX7_chainOf 91 = .ok (.goto 4, 3) := by decide +kernel
theorem dX7_chainOf_94 : decode cX7_chainOf 94 = .ok (.iconst 0, 1) := by decide +kernel
theorem dX7_chainOf_95 : decode cX7_chainOf 95 = .ok (.ior, 1) := by decide +kernel
theorem dX7_chainOf_96 : decode cX7_chainOf 96 = .ok (.istore 5, 2) := by decide +kernel
theorem dX7_chainOf_98 : decode cX7_chainOf 98 = .ok (.iinc 6 1, 3) := by decide +kernel
theorem dX7_chainOf_101 : decode cX7_chainOf 101 = .ok (.goto (-72), 3) := by decide +kernel
theorem dX7_chainOf_104 : decode cX7_chainOf 104 = .ok (.goto (-89), 3) := by decide +kernel
theorem dX7_chainOf_107 : decode cX7_chainOf 107 = .ok (.iload 4, 2) := by decide +kernel
theorem dX7_chainOf_109 : decode cX7_chainOf 109 = .ok (.ireturn, 1) := by decide +kernel
set_option maxRecDepth 20000 in
theorem ggX7_chain_X7_whyNoChain : GoodIn wsX7_chain wsX7_whyNoChain := goodIn_r _ [5, 6, 7, 8, 4, 9, 10, 11, 12, 13, 14, 15, 16, 17, 37, 38, 39, 40, 41, 42, 43, 44, 45, 46, 47, 48, 49, 50, 51, 52, 53, 54, 55, 56] (by decide +kernel) (by decide +kernel)
set_option maxRecDepth 20000 in
theorem gX7_chain_X7_whyNoChain : GoodIn wsX7_chain (wsV RX7 186 RX7 yX7_whyNoChain wsX7_whyNoChain) := goodIn_app (goodIn_of _ (by decide +kernel)) ggX7_chain_X7_whyNoChain
set_option maxRecDepth 20000 in
theorem ggX7_chain_X7_chainOf : GoodIn wsX7_chain wsX7_chainOf := goodIn_r _ [21, 10, 14, 15, 16, 4, 17, 22, 23, 24, 25, 26, 27, 28, 29, 30, 31, 32, 33, 34, 35, 36, 37, 38, 39, 40, 41, 42, 43, 44, 45, 46, 47, 48, 49, 50, 51, 52, 53, 54, 55, 56] (by decide +kernel) (by decide +kernel)
set_option maxRecDepth 20000 in
theorem gX7_chain_X7_chainOf : GoodIn wsX7_chain (wsV RX7 189 RX7 yX7_chainOf wsX7_chainOf) := goodIn_app (goodIn_of _ (by decide +kernel)) ggX7_chain_X7_chainOf
theorem dX7_chain_0 : decode cX7_chain 0 = .ok (.aload_n 0, 1) := by decide +kernel
theorem dX7_chain_1 : decode cX7_chain 1 = .ok (.iload_n 1, 1) := by decide +kernel
theorem dX7_chain_2 : decode cX7_chain 2 = .ok (.iload_n 2, 1) := by decide +kernel
theorem dX7_chain_3 : decode cX7_chain 3 = .ok (.invokevirtual 186, 3) := by decide +kernel
theorem dX7_chain_6 : decode cX7_chain 6 = .ok (.istore_n 3, 1) := by decide +kernel
theorem dX7_chain_7 : decode cX7_chain 7 = .ok (.iload_n 3, 1) := by decide +kernel
theorem dX7_chain_8 : decode cX7_chain 8 = .ok (.ifCond .ge 7, 3) := by decide +kernel
theorem dX7_chain_11 : decode cX7_chain 11 = .ok (.iload_n 3, 1) := by decide +kernel
theorem dX7_chain_12 : decode cX7_chain 12 = .ok (.goto 9, 3) := by decide +kernel
theorem dX7_chain_15 : decode cX7_chain 15 = .ok (.aload_n 0, 1) := by decide +kernel
theorem dX7_chain_16 : decode cX7_chain 16 = .ok (.iload_n 1, 1) := by decide +kernel
theorem dX7_chain_17 : decode cX7_chain 17 = .ok (.iload_n 2, 1) := by decide +kernel
theorem dX7_chain_18 : decode cX7_chain 18 = .ok (.invokevirtual 189, 3) := by decide +kernel
theorem dX7_chain_21 : decode cX7_chain 21 = .ok (.ireturn, 1) := by decide +kernel
set_option maxRecDepth 20000 in
theorem ggX7_exchange_X7_whyNoChain : GoodIn wsX7_exchange wsX7_whyNoChain := goodIn_r _ [6, 7, 8, 9, 5, 10, 1, 11, 12, 13, 14, 15, 16, 17, 46, 47, 48, 49, 50, 51, 52, 53, 54, 55, 56, 57, 58, 59, 60, 61, 62, 63, 64, 65] (by decide +kernel) (by decide +kernel)
set_option maxRecDepth 20000 in
theorem gX7_exchange_X7_whyNoChain : GoodIn wsX7_exchange (wsV RX7 186 RX7 yX7_whyNoChain wsX7_whyNoChain) := goodIn_app (goodIn_of _ (by decide +kernel)) ggX7_exchange_X7_whyNoChain
set_option maxRecDepth 20000 in
theorem ggX7_exchange_X7_records : GoodIn wsX7_exchange wsX7_records := goodIn_r _ [21, 22, 23, 1, 46, 47, 48, 49, 50, 51, 52, 53, 54, 55, 56, 57, 58, 59, 60, 61, 62, 63, 64, 65] (by decide +kernel) (by decide +kernel)
set_option maxRecDepth 20000 in
theorem gX7_exchange_X7_records : GoodIn wsX7_exchange (wsV RX7 84 RX7 yX7_records wsX7_records) := goodIn_app (goodIn_of _ (by decide +kernel)) ggX7_exchange_X7_records
set_option maxRecDepth 20000 in
theorem ggX7_exchange_X7_of : GoodIn wsX7_exchange wsX7_of := goodIn_r _ [17, 1, 46, 47, 48, 49, 50, 51, 52, 53, 54, 55, 56, 57, 58, 59, 60, 61, 62, 63, 64, 65] (by decide +kernel) (by decide +kernel)
set_option maxRecDepth 20000 in
theorem gX7_exchange_X7_of : GoodIn wsX7_exchange (wsV RX7 56 RX7 yX7_of wsX7_of) := goodIn_app (goodIn_of _ (by decide +kernel)) ggX7_exchange_X7_of
set_option maxRecDepth 20000 in
theorem ggX7_exchange_X7_chainOf : GoodIn wsX7_exchange wsX7_chainOf := goodIn_r _ [27, 1, 14, 15, 16, 5, 17, 28, 29, 30, 31, 32, 33, 34, 35, 36, 37, 38, 39, 40, 41, 42, 46, 47, 48, 49, 50, 51, 52, 53, 54, 55, 56, 57, 58, 59, 60, 61, 62, 63, 64, 65] (by decide +kernel) (by decide +kernel)
set_option maxRecDepth 20000 in
theorem gX7_exchange_X7_chainOf : GoodIn wsX7_exchange (wsV RX7 189 RX7 yX7_chainOf wsX7_chainOf) := goodIn_app (goodIn_of _ (by decide +kernel)) ggX7_exchange_X7_chainOf
set_option maxRecDepth 20000 in
theorem ggX7_exchange_X7_has : GoodIn wsX7_exchange wsX7_has := goodIn_r _ [34] (by decide +kernel) (by decide +kernel)
set_option maxRecDepth 20000 in
theorem gX7_exchange_X7_has : GoodIn wsX7_exchange (va_wsS RX7 44 yX7_has wsX7_has) := goodIn_app (goodIn_of _ (by decide +kernel)) ggX7_exchange_X7_has
set_option maxRecDepth 20000 in
theorem ggX7_exchange_X7_ones : GoodIn wsX7_exchange wsX7_ones := goodIn_r _ [45] (by decide +kernel) (by decide +kernel)
set_option maxRecDepth 20000 in
theorem gX7_exchange_X7_ones : GoodIn wsX7_exchange (va_wsS RX7 67 yX7_ones wsX7_ones) := goodIn_app (goodIn_of _ (by decide +kernel)) ggX7_exchange_X7_ones
theorem dX7_exchange_0 : decode cX7_exchange 0 = .ok (.aload_n 0, 1) := by decide +kernel
theorem dX7_exchange_1 : decode cX7_exchange 1 = .ok (.iload_n 1, 1) := by decide +kernel
theorem dX7_exchange_2 : decode cX7_exchange 2 = .ok (.iload_n 2, 1) := by decide +kernel
theorem dX7_exchange_3 : decode cX7_exchange 3 = .ok (.invokevirtual 186, 3) := by decide +kernel
theorem dX7_exchange_6 : decode cX7_exchange 6 = .ok (.istore_n 3, 1) := by decide +kernel
theorem dX7_exchange_7 : decode cX7_exchange 7 = .ok (.iload_n 3, 1) := by decide +kernel
theorem dX7_exchange_8 : decode cX7_exchange 8 = .ok (.ifCond .ge 5, 3) := by decide +kernel
theorem dX7_exchange_11 : decode cX7_exchange 11 = .ok (.iload_n 3, 1) := by decide +kernel
theorem dX7_exchange_12 : decode cX7_exchange 12 = .ok (.ireturn, 1) := by decide +kernel
theorem dX7_exchange_13 : decode cX7_exchange 13 = .ok (.aload_n 0, 1) := by decide +kernel
theorem dX7_exchange_14 : decode cX7_exchange 14 = .ok (.invokevirtual 84, 3) := by decide +kernel
theorem dX7_exchange_17 : decode cX7_exchange 17 = .ok (.aload_n 0, 1) := by decide +kernel
theorem dX7_exchange_18 : decode cX7_exchange 18 = .ok (.iload_n 1, 1) := by decide +kernel
theorem dX7_exchange_19 : decode cX7_exchange 19 = .ok (.iconst 2, 1) := by decide +kernel
theorem dX7_exchange_20 : decode cX7_exchange 20 = .ok (.invokevirtual 56, 3) := by decide +kernel
theorem dX7_exchange_23 : decode cX7_exchange 23 = .ok (.istore 4, 2) := by decide +kernel
theorem dX7_exchange_25 : decode cX7_exchange 25 = .ok (.aload_n 0, 1) := by decide +kernel
theorem dX7_exchange_26 : decode cX7_exchange 26 = .ok (.iload_n 1, 1) := by decide +kernel
theorem dX7_exchange_27 : decode cX7_exchange 27 = .ok (.iload_n 2, 1) := by decide +kernel
theorem dX7_exchange_28 : decode cX7_exchange 28 = .ok (.invokevirtual 189, 3) := by decide +kernel
theorem dX7_exchange_31 : decode cX7_exchange 31 = .ok (.istore 5, 2) := by decide +kernel
theorem dX7_exchange_33 : decode cX7_exchange 33 = .ok (.iconst 0, 1) := by decide +kernel
theorem dX7_exchange_34 : decode cX7_exchange 34 = .ok (.istore 6, 2) := by decide +kernel
theorem dX7_exchange_36 : decode cX7_exchange 36 = .ok (.iload 6, 2) := by decide +kernel
theorem dX7_exchange_38 : decode cX7_exchange 38 = .ok (.aload_n 0, 1) := by decide +kernel
theorem dX7_exchange_39 : decode cX7_exchange 39 = .ok (.getfield 7, 3) := by decide +kernel
theorem dX7_exchange_42 : decode cX7_exchange 42 = .ok (.iconst 1, 1) := by decide +kernel
theorem dX7_exchange_43 : decode cX7_exchange 43 = .ok (.iaload, 1) := by decide +kernel
theorem dX7_exchange_44 : decode cX7_exchange 44 = .ok (.if_icmp .ge 50, 3) := by decide +kernel
theorem dX7_exchange_47 : decode cX7_exchange 47 = .ok (.iload 5, 2) := by decide +kernel
theorem dX7_exchange_49 : decode cX7_exchange 49 = .ok (.iload 6, 2) := by decide +kernel
theorem dX7_exchange_51 : decode cX7_exchange 51 = .ok (.invokestatic 44, 3) := by decide +kernel
theorem dX7_exchange_54 : decode cX7_exchange 54 = .ok (.ifCond .eq 34, 3) := by decide +kernel
theorem dX7_exchange_57 : decode cX7_exchange 57 = .ok (.aload_n 0, 1) := by decide +kernel
theorem dX7_exchange_58 : decode cX7_exchange 58 = .ok (.getfield 7, 3) := by decide +kernel
theorem dX7_exchange_61 : decode cX7_exchange 61 = .ok (.iconst 2, 1) := by decide +kernel
theorem dX7_exchange_62 : decode cX7_exchange 62 = .ok (.iconst 3, 1) := by decide +kernel
theorem dX7_exchange_63 : decode cX7_exchange 63 = .ok (.iload 6, 2) := by decide +kernel
theorem dX7_exchange_65 : decode cX7_exchange 65 = .ok (.imul, 1) := by decide +kernel
theorem dX7_exchange_66 : decode cX7_exchange 66 = .ok (.iadd, 1) := by decide +kernel
theorem dX7_exchange_67 : decode cX7_exchange 67 = .ok (.iconst 2, 1) := by decide +kernel
theorem dX7_exchange_68 : decode cX7_exchange 68 = .ok (.iadd, 1) := by decide +kernel
theorem dX7_exchange_69 : decode cX7_exchange 69 = .ok (.aload_n 0, 1) := by decide +kernel
theorem dX7_exchange_70 : decode cX7_exchange 70 = .ok (.iload 6, 2) := by decide +kernel
theorem dX7_exchange_72 : decode cX7_exchange 72 = .ok (.iconst 2, 1) := by decide +kernel
theorem dX7_exchange_73 : decode cX7_exchange 73 = .ok (.invokevirtual 56, 3) := by decide +kernel
theorem dX7_exchange_76 : decode cX7_exchange 76 = .ok (.iload 4, 2) := by decide +kernel
theorem dX7_exchange_78 : decode cX7_exchange 78 = .ok (.if_icmp .ne 7, 3) := by decide +kernel
theorem dX7_exchange_81 : decode cX7_exchange 81 = .ok (.iload_n 2, 1) := by decide +kernel
theorem dX7_exchange_82 : decode cX7_exchange 82 = .ok (.goto 5, 3) := by decide +kernel
theorem dX7_exchange_85 : decode cX7_exchange 85 = .ok (.iload 4, 2) := by decide +kernel
theorem dX7_exchange_87 : decode cX7_exchange 87 = .ok (.iastore, 1) := by decide +kernel
theorem dX7_exchange_88 : decode cX7_exchange 88 = .ok (.iinc 6 1, 3) := by decide +kernel
theorem dX7_exchange_91 : decode cX7_exchange 91 = .ok (.goto (-55), 3) := by decide +kernel
theorem dX7_exchange_94 : decode cX7_exchange 94 = .ok (.iload 5, 2) := by decide +kernel
theorem dX7_exchange_96 : decode cX7_exchange 96 = .ok (.invokestatic 67, 3) := by decide +kernel
theorem dX7_exchange_99 : decode cX7_exchange 99 = .ok (.ireturn, 1) := by decide +kernel
theorem dX7_type_0 : decode cX7_type 0 = .ok (.aload_n 0, 1) := by decide +kernel
theorem dX7_type_1 : decode cX7_type 1 = .ok (.getfield 192, 3) := by decide +kernel
theorem dX7_type_4 : decode cX7_type 4 = .ok (.bipush 60, 2) := by decide +kernel
theorem dX7_type_6 : decode cX7_type 6 = .ok (.if_icmp .ne 6, 3) := by decide +kernel
theorem dX7_type_9 : decode cX7_type 9 = .ok (.bipush (-3), 2) := by decide +kernel
theorem dX7_type_11 : decode cX7_type 11 = .ok (.ireturn, 1) := by decide +kernel
theorem dX7_type_12 : decode cX7_type 12 = .ok (.aload_n 0, 1) := by decide +kernel
theorem dX7_type_13 : decode cX7_type 13 = .ok (.getfield 19, 3) := by decide +kernel
theorem dX7_type_16 : decode cX7_type 16 = .ok (.aload_n 0, 1) := by decide +kernel
theorem dX7_type_17 : decode cX7_type 17 = .ok (.getfield 192, 3) := by decide +kernel
theorem dX7_type_20 : decode cX7_type 20 = .ok (.iload_n 1, 1) := by decide +kernel
theorem dX7_type_21 : decode cX7_type 21 = .ok (.castore, 1) := by decide +kernel
theorem dX7_type_22 : decode cX7_type 22 = .ok (.aload_n 0, 1) := by decide +kernel
theorem dX7_type_23 : decode cX7_type 23 = .ok (.dup, 1) := by decide +kernel
theorem dX7_type_24 : decode cX7_type 24 = .ok (.getfield 192, 3) := by decide +kernel
theorem dX7_type_27 : decode cX7_type 27 = .ok (.iconst 1, 1) := by decide +kernel
theorem dX7_type_28 : decode cX7_type 28 = .ok (.iadd, 1) := by decide +kernel
theorem dX7_type_29 : decode cX7_type 29 = .ok (.putfield 192, 3) := by decide +kernel
theorem dX7_type_32 : decode cX7_type 32 = .ok (.aload_n 0, 1) := by decide +kernel
theorem dX7_type_33 : decode cX7_type 33 = .ok (.getfield 192, 3) := by decide +kernel
theorem dX7_type_36 : decode cX7_type 36 = .ok (.ireturn, 1) := by decide +kernel
theorem dX7_clearText_0 : decode cX7_clearText 0 = .ok (.aload_n 0, 1) := by decide +kernel
theorem dX7_clearText_1 : decode cX7_clearText 1 = .ok (.getfield 192, 3) := by decide +kernel
theorem dX7_clearText_4 : decode cX7_clearText 4 = .ok (.istore_n 1, 1) := by decide +kernel
theorem dX7_clearText_5 : decode cX7_clearText 5 = .ok (.aload_n 0, 1) := by decide +kernel
theorem dX7_clearText_6 : decode cX7_clearText 6 = .ok (.iconst 0, 1) := by decide +kernel
theorem dX7_clearText_7 : decode cX7_clearText 7 = .ok (.putfield 192, 3) := by decide +kernel
theorem dX7_clearText_10 : decode cX7_clearText 10 = .ok (.iload_n 1, 1) := by decide +kernel
theorem dX7_clearText_11 : decode cX7_clearText 11 = .ok (.ireturn, 1) := by decide +kernel
set_option maxRecDepth 20000 in
theorem ggX7_sees_X7_in : GoodIn wsX7_sees wsX7_in := goodIn_r _ [7] (by decide +kernel) (by decide +kernel)
set_option maxRecDepth 20000 in
theorem gX7_sees_X7_in : GoodIn wsX7_sees (va_wsS RX7 52 yX7_in wsX7_in) := goodIn_app (goodIn_of _ (by decide +kernel)) ggX7_sees_X7_in
theorem dX7_sees_0 : decode cX7_sees 0 = .ok (.aload_n 0, 1) := by decide +kernel
theorem dX7_sees_1 : decode cX7_sees 1 = .ok (.getfield 195, 3) := by decide +kernel
theorem dX7_sees_4 : decode cX7_sees 4 = .ok (.aload_n 0, 1) := by decide +kernel
theorem dX7_sees_5 : decode cX7_sees 5 = .ok (.getfield 192, 3) := by decide +kernel
theorem dX7_sees_8 : decode cX7_sees 8 = .ok (.if_icmp .ge 24, 3) := by decide +kernel
theorem dX7_sees_11 : decode cX7_sees 11 = .ok (.aload_n 0, 1) := by decide +kernel
theorem dX7_sees_12 : decode cX7_sees 12 = .ok (.getfield 19, 3) := by decide +kernel
theorem dX7_sees_15 : decode cX7_sees 15 = .ok (.aload_n 0, 1) := by decide +kernel
theorem dX7_sees_16 : decode cX7_sees 16 = .ok (.getfield 195, 3) := by decide +kernel
theorem dX7_sees_19 : decode cX7_sees 19 = .ok (.caload, 1) := by decide +kernel
theorem dX7_sees_20 : decode cX7_sees 20 = .ok (.iload_n 1, 1) := by decide +kernel
theorem dX7_sees_21 : decode cX7_sees 21 = .ok (.iload_n 2, 1) := by decide +kernel
theorem dX7_sees_22 : decode cX7_sees 22 = .ok (.invokestatic 52, 3) := by decide +kernel
theorem dX7_sees_25 : decode cX7_sees 25 = .ok (.ifCond .eq 7, 3) := by decide +kernel
theorem dX7_sees_28 : decode cX7_sees 28 = .ok (.iconst 1, 1) := by decide +kernel
theorem dX7_sees_29 : decode cX7_sees 29 = .ok (.goto 4, 3) := by decide +kernel
theorem dX7_sees_32 : decode cX7_sees 32 = .ok (.iconst 0, 1) := by decide +kernel
theorem dX7_sees_33 : decode cX7_sees 33 = .ok (.ireturn, 1) := by decide +kernel
set_option maxRecDepth 20000 in
theorem ggX7_takes_X7_sees : GoodIn wsX7_takes wsX7_sees := goodIn_r _ [6, 1, 7, 8, 9, 10, 5, 11, 12, 13, 14, 15, 16, 17, 18, 19, 20, 21, 22, 23, 24, 25, 26, 27, 28, 29, 30, 31] (by decide +kernel) (by decide +kernel)
set_option maxRecDepth 20000 in
theorem gX7_takes_X7_sees : GoodIn wsX7_takes (wsV RX7 198 RX7 yX7_sees wsX7_sees) := goodIn_app (goodIn_of _ (by decide +kernel)) ggX7_takes_X7_sees
theorem dX7_takes_0 : decode cX7_takes 0 = .ok (.aload_n 0, 1) := by decide +kernel
theorem dX7_takes_1 : decode cX7_takes 1 = .ok (.iload_n 1, 1) := by decide +kernel
theorem dX7_takes_2 : decode cX7_takes 2 = .ok (.iload_n 1, 1) := by decide +kernel
theorem dX7_takes_3 : decode cX7_takes 3 = .ok (.invokevirtual 198, 3) := by decide +kernel
theorem dX7_takes_6 : decode cX7_takes 6 = .ok (.istore_n 2, 1) := by decide +kernel
theorem dX7_takes_7 : decode cX7_takes 7 = .ok (.aload_n 0, 1) := by decide +kernel
theorem dX7_takes_8 : decode cX7_takes 8 = .ok (.dup, 1) := by decide +kernel
theorem dX7_takes_9 : decode cX7_takes 9 = .ok (.getfield 195, 3) := by decide +kernel
theorem dX7_takes_12 : decode cX7_takes 12 = .ok (.iload_n 2, 1) := by decide +kernel
theorem dX7_takes_13 : decode cX7_takes 13 = .ok (.ifCond .eq 7, 3) := by decide +kernel
theorem dX7_takes_16 : decode cX7_takes 16 = .ok (.iconst 1, 1) := by decide +kernel
theorem dX7_takes_17 : decode cX7_takes 17 = .ok (.goto 4, 3) := by decide +kernel
theorem dX7_takes_20 : decode cX7_takes 20 = .ok (.iconst 0, 1) := by decide +kernel
theorem dX7_takes_21 : decode cX7_takes 21 = .ok (.iadd, 1) := by decide +kernel
theorem dX7_takes_22 : decode cX7_takes 22 = .ok (.putfield 195, 3) := by decide +kernel
theorem dX7_takes_25 : decode cX7_takes 25 = .ok (.iload_n 2, 1) := by decide +kernel
theorem dX7_takes_26 : decode cX7_takes 26 = .ok (.ireturn, 1) := by decide +kernel
set_option maxRecDepth 20000 in
theorem ggX7_takesKnot_X7_sees : GoodIn wsX7_takesKnot wsX7_sees := goodIn_r _ [9, 2, 10, 1, 11, 12, 8, 13, 14, 15, 16, 17, 18, 19, 20, 21, 22, 23, 24, 25, 26, 27, 28, 29, 30, 31, 32, 33] (by decide +kernel) (by decide +kernel)
set_option maxRecDepth 20000 in
theorem gX7_takesKnot_X7_sees : GoodIn wsX7_takesKnot (wsV RX7 198 RX7 yX7_sees wsX7_sees) := goodIn_app (goodIn_of _ (by decide +kernel)) ggX7_takesKnot_X7_sees
theorem dX7_takesKnot_0 : decode cX7_takesKnot 0 = .ok (.aload_n 0, 1) := by decide +kernel
theorem dX7_takesKnot_1 : decode cX7_takesKnot 1 = .ok (.bipush 48, 2) := by decide +kernel
theorem dX7_takesKnot_3 : decode cX7_takesKnot 3 = .ok (.bipush 57, 2) := by decide +kernel
theorem dX7_takesKnot_5 : decode cX7_takesKnot 5 = .ok (.invokevirtual 198, 3) := by decide +kernel
theorem dX7_takesKnot_8 : decode cX7_takesKnot 8 = .ok (.ifCond .ne 5, 3) := by decide +kernel
theorem dX7_takesKnot_11 : decode cX7_takesKnot 11 = .ok (.iconst 0, 1) := by decide +kernel
theorem dX7_takesKnot_12 : decode cX7_takesKnot 12 = .ok (.ireturn, 1) := by decide +kernel
theorem dX7_takesKnot_13 : decode cX7_takesKnot 13 = .ok (.aload_n 0, 1) := by decide +kernel
theorem dX7_takesKnot_14 : decode cX7_takesKnot 14 = .ok (.getfield 19, 3) := by decide +kernel
theorem dX7_takesKnot_17 : decode cX7_takesKnot 17 = .ok (.aload_n 0, 1) := by decide +kernel
theorem dX7_takesKnot_18 : decode cX7_takesKnot 18 = .ok (.getfield 195, 3) := by decide +kernel
theorem dX7_takesKnot_21 : decode cX7_takesKnot 21 = .ok (.caload, 1) := by decide +kernel
theorem dX7_takesKnot_22 : decode cX7_takesKnot 22 = .ok (.bipush 48, 2) := by decide +kernel
theorem dX7_takesKnot_24 : decode cX7_takesKnot 24 = .ok (.isub, 1) := by decide +kernel
theorem dX7_takesKnot_25 : decode cX7_takesKnot 25 = .ok (.istore_n 1, 1) := by decide +kernel
theorem dX7_takesKnot_26 : decode cX7_takesKnot 26 = .ok (.aload_n 0, 1) := by decide +kernel
theorem dX7_takesKnot_27 : decode cX7_takesKnot 27 = .ok (.dup, 1) := by decide +kernel
theorem dX7_takesKnot_28 : decode cX7_takesKnot 28 = .ok (.getfield 195, 3) := by decide +kernel
theorem dX7_takesKnot_31 : decode cX7_takesKnot 31 = .ok (.iconst 1, 1) := by decide +kernel
theorem dX7_takesKnot_32 : decode cX7_takesKnot 32 = .ok (.iadd, 1) := by decide +kernel
theorem dX7_takesKnot_33 : decode cX7_takesKnot 33 = .ok (.putfield 195, 3) := by decide +kernel
theorem dX7_takesKnot_36 : decode cX7_takesKnot 36 = .ok (.iload_n 1, 1) := by decide +kernel
theorem dX7_takesKnot_37 : decode cX7_takesKnot 37 = .ok (.iconst 1, 1) := by decide +kernel
theorem dX7_takesKnot_38 : decode cX7_takesKnot 38 = .ok (.if_icmp .ne 40, 3) := by decide +kernel
theorem dX7_takesKnot_41 : decode cX7_takesKnot 41 = .ok (.aload_n 0, 1) := by decide +kernel
theorem dX7_takesKnot_42 : decode cX7_takesKnot 42 = .ok (.bipush 48, 2) := by decide +kernel
theorem dX7_takesKnot_44 : decode cX7_takesKnot 44 = .ok (.bipush 51, 2) := by decide +kernel
theorem dX7_takesKnot_46 : decode cX7_takesKnot 46 = .ok (.invokevirtual 198, 3) := by decide +kernel
theorem dX7_takesKnot_49 : decode cX7_takesKnot 49 = .ok (.ifCond .eq 29, 3) := by decide +kernel
theorem dX7_takesKnot_52 : decode cX7_takesKnot 52 = .ok (.bipush 10, 2) := by decide +kernel
theorem dX7_takesKnot_54 : decode cX7_takesKnot 54 = .ok (.aload_n 0, 1) := by decide +kernel
theorem dX7_takesKnot_55 : decode cX7_takesKnot 55 = .ok (.getfield 19, 3) := by decide +kernel
theorem dX7_takesKnot_58 : decode cX7_takesKnot 58 = .ok (.aload_n 0, 1) := by decide +kernel
theorem dX7_takesKnot_59 : decode cX7_takesKnot 59 = .ok (.getfield 195, 3) := by decide +kernel
theorem dX7_takesKnot_62 : decode cX7_takesKnot 62 = .ok (.caload, 1) := by decide +kernel
theorem dX7_takesKnot_63 : decode cX7_takesKnot 63 = .ok (.iadd, 1) := by decide +kernel
theorem dX7_takesKnot_64 : decode cX7_takesKnot 64 = .ok (.bipush 48, 2) := by decide +kernel
theorem dX7_takesKnot_66 : decode cX7_takesKnot 66 = .ok (.isub, 1) := by decide +kernel
theorem dX7_takesKnot_67 : decode cX7_takesKnot 67 = .ok (.istore_n 1, 1) := by decide +kernel
theorem dX7_takesKnot_68 : decode cX7_takesKnot 68 = .ok (.aload_n 0, 1) := by decide +kernel
theorem dX7_takesKnot_69 : decode cX7_takesKnot 69 = .ok (.dup, 1) := by decide +kernel
theorem dX7_takesKnot_70 : decode cX7_takesKnot 70 = .ok (.getfield 195, 3) := by decide +kernel
theorem dX7_takesKnot_73 : decode cX7_takesKnot 73 = .ok (.iconst 1, 1) := by decide +kernel
theorem dX7_takesKnot_74 : decode cX7_takesKnot 74 = .ok (.iadd, 1) := by decide +kernel
theorem dX7_takesKnot_75 : decode cX7_takesKnot 75 = .ok (.putfield 195, 3) := by decide +kernel
theorem dX7_takesKnot_78 : decode cX7_takesKnot 78 = .ok (.aload_n 0, 1) := by decide +kernel
theorem dX7_takesKnot_79 : decode cX7_takesKnot 79 = .ok (.getfield 29, 3) := by decide +kernel
theorem dX7_takesKnot_82 : decode cX7_takesKnot 82 = .ok (.aload_n 0, 1) := by decide +kernel
theorem dX7_takesKnot_83 : decode cX7_takesKnot 83 = .ok (.getfield 201, 3) := by decide +kernel
theorem dX7_takesKnot_86 : decode cX7_takesKnot 86 = .ok (.iload_n 1, 1) := by decide +kernel
theorem dX7_takesKnot_87 : decode cX7_takesKnot 87 = .ok (.iastore, 1) := by decide +kernel
theorem dX7_takesKnot_88 : decode cX7_takesKnot 88 = .ok (.aload_n 0, 1) := by decide +kernel
theorem dX7_takesKnot_89 : decode cX7_takesKnot 89 = .ok (.dup, 1) := by decide +kernel
theorem dX7_takesKnot_90 : decode cX7_takesKnot 90 = .ok (.getfield 201, 3) := by decide +kernel
theorem dX7_takesKnot_93 : decode cX7_takesKnot 93 = .ok (.iconst 1, 1) := by decide +kernel
theorem dX7_takesKnot_94 : decode cX7_takesKnot 94 = .ok (.iadd, 1) := by decide +kernel
theorem dX7_takesKnot_95 : decode cX7_takesKnot 95 = .ok (.putfield 201, 3) := by decide +kernel
theorem dX7_takesKnot_98 : decode cX7_takesKnot 98 = .ok (.iconst 1, 1) := by decide +kernel
theorem dX7_takesKnot_99 : decode cX7_takesKnot 99 = .ok (.ireturn, 1) := by decide +kernel
set_option maxRecDepth 20000 in
theorem ggX7_readsThreads_X7_takesKnot : GoodIn wsX7_readsThreads wsX7_takesKnot := goodIn_r _ [8, 9, 1, 10, 2, 11, 12, 13, 7, 14, 3, 15, 16, 17, 22, 23, 24, 25, 26, 27, 28, 29, 30, 31, 32, 33, 34, 35, 36, 37, 38, 39, 40, 41] (by decide +kernel) (by decide +kernel)
set_option maxRecDepth 20000 in
theorem gX7_readsThreads_X7_takesKnot : GoodIn wsX7_readsThreads (wsV RX7 204 RX7 yX7_takesKnot wsX7_takesKnot) := goodIn_app (goodIn_of _ (by decide +kernel)) ggX7_readsThreads_X7_takesKnot
set_option maxRecDepth 20000 in
theorem ggX7_readsThreads_X7_takes : GoodIn wsX7_readsThreads wsX7_takes := goodIn_r _ [21, 1, 11, 12, 13, 7, 14, 3, 9, 15, 16, 17, 22, 23, 24, 25, 26, 27, 28, 29, 30, 31, 32, 33, 34, 35, 36, 37, 38, 39, 40, 41] (by decide +kernel) (by decide +kernel)
set_option maxRecDepth 20000 in
theorem gX7_readsThreads_X7_takes : GoodIn wsX7_readsThreads (wsV RX7 208 RX7 yX7_takes wsX7_takes) := goodIn_app (goodIn_of _ (by decide +kernel)) ggX7_readsThreads_X7_takes
theorem dX7_readsThreads_0 : decode cX7_readsThreads 0 = .ok (.aload_n 0, 1) := by decide +kernel
theorem dX7_readsThreads_1 : decode cX7_readsThreads 1 = .ok (.iconst 0, 1) := by decide +kernel
theorem dX7_readsThreads_2 : decode cX7_readsThreads 2 = .ok (.putfield 195, 3) := by decide +kernel
theorem dX7_readsThreads_5 : decode cX7_readsThreads 5 = .ok (.aload_n 0, 1) := by decide +kernel
theorem dX7_readsThreads_6 : decode cX7_readsThreads 6 = .ok (.iconst 0, 1) := by decide +kernel
theorem dX7_readsThreads_7 : decode cX7_readsThreads 7 = .ok (.putfield 201, 3) := by decide +kernel
theorem dX7_readsThreads_10 : decode cX7_readsThreads 10 = .ok (.iconst 1, 1) := by decide +kernel
theorem dX7_readsThreads_11 : decode cX7_readsThreads 11 = .ok (.istore_n 1, 1) := by decide +kernel
theorem dX7_readsThreads_12 : decode cX7_readsThreads 12 = .ok (.iload_n 1, 1) := by decide +kernel
theorem dX7_readsThreads_13 : decode cX7_readsThreads 13 = .ok (.ifCond .eq 38, 3) := by decide +kernel
theorem dX7_readsThreads_16 : decode cX7_readsThreads 16 = .ok (.aload_n 0, 1) := by decide +kernel
theorem dX7_readsThreads_17 : decode cX7_readsThreads 17 = .ok (.invokevirtual 204, 3) := by decide +kernel
theorem dX7_readsThreads_20 : decode cX7_readsThreads 20 = .ok (.ifCond .eq 19, 3) := by decide +kernel
theorem dX7_readsThreads_23 : decode cX7_readsThreads 23 = .ok (.aload_n 0, 1) := by decide +kernel
theorem dX7_readsThreads_24 : decode cX7_readsThreads 24 = .ok (.bipush 45, 2) := by decide +kernel
theorem dX7_readsThreads_26 : decode cX7_readsThreads 26 = .ok (.invokevirtual 208, 3) := by decide +kernel
theorem dX7_readsThreads_29 : decode cX7_readsThreads 29 = .ok (.ifCond .eq 10, 3) := by decide +kernel
theorem dX7_readsThreads_32 : decode cX7_readsThreads 32 = .ok (.aload_n 0, 1) := by decide +kernel
theorem dX7_readsThreads_33 : decode cX7_readsThreads 33 = .ok (.invokevirtual 204, 3) := by decide +kernel
theorem dX7_readsThreads_36 : decode cX7_readsThreads 36 = .ok (.ifCond .ne 5, 3) := by decide +kernel
theorem dX7_readsThreads_39 : decode cX7_readsThreads 39 = .ok (.iconst 0, 1) := by decide +kernel
theorem dX7_readsThreads_40 : decode cX7_readsThreads 40 = .ok (.ireturn, 1) := by decide +kernel
theorem dX7_readsThreads_41 : decode cX7_readsThreads 41 = .ok (.aload_n 0, 1) := by decide +kernel
theorem dX7_readsThreads_42 : decode cX7_readsThreads 42 = .ok (.bipush 44, 2) := by decide +kernel
theorem dX7_readsThreads_44 : decode cX7_readsThreads 44 = .ok (.invokevirtual 208, 3) := by decide +kernel
theorem dX7_readsThreads_47 : decode cX7_readsThreads 47 = .ok (.istore_n 1, 1) := by decide +kernel
theorem dX7_readsThreads_48 : decode cX7_readsThreads 48 = .ok (.goto (-36), 3) := by decide +kernel
theorem dX7_readsThreads_51 : decode cX7_readsThreads 51 = .ok (.aload_n 0, 1) := by decide +kernel
theorem dX7_readsThreads_52 : decode cX7_readsThreads 52 = .ok (.getfield 195, 3) := by decide +kernel
theorem dX7_readsThreads_55 : decode cX7_readsThreads 55 = .ok (.aload_n 0, 1) := by decide +kernel
theorem dX7_readsThreads_56 : decode cX7_readsThreads 56 = .ok (.getfield 192, 3) := by decide +kernel
theorem dX7_readsThreads_59 : decode cX7_readsThreads 59 = .ok (.if_icmp .ne 7, 3) := by decide +kernel
theorem dX7_readsThreads_62 : decode cX7_readsThreads 62 = .ok (.iconst 1, 1) := by decide +kernel
theorem dX7_readsThreads_63 : decode cX7_readsThreads 63 = .ok (.goto 4, 3) := by decide +kernel
theorem dX7_readsThreads_66 : decode cX7_readsThreads 66 = .ok (.iconst 0, 1) := by decide +kernel
theorem dX7_readsThreads_67 : decode cX7_readsThreads 67 = .ok (.ireturn, 1) := by decide +kernel
theorem dX7_isLoop_0 : decode cX7_isLoop 0 = .ok (.iconst 0, 1) := by decide +kernel
theorem dX7_isLoop_1 : decode cX7_isLoop 1 = .ok (.istore_n 1, 1) := by decide +kernel
theorem dX7_isLoop_2 : decode cX7_isLoop 2 = .ok (.iconst 0, 1) := by decide +kernel
theorem dX7_isLoop_3 : decode cX7_isLoop 3 = .ok (.istore_n 2, 1) := by decide +kernel
theorem dX7_isLoop_4 : decode cX7_isLoop 4 = .ok (.iload_n 2, 1) := by decide +kernel
theorem dX7_isLoop_5 : decode cX7_isLoop 5 = .ok (.aload_n 0, 1) := by decide +kernel
theorem dX7_isLoop_6 : decode cX7_isLoop 6 = .ok (.getfield 201, 3) := by decide +kernel
theorem dX7_isLoop_9 : decode cX7_isLoop 9 = .ok (.if_icmp .ge 36, 3) := by decide +kernel
theorem dX7_isLoop_12 : decode cX7_isLoop 12 = .ok (.iload_n 1, 1) := by decide +kernel
theorem dX7_isLoop_13 : decode cX7_isLoop 13 = .ok (.ifCond .ne 20, 3) := by decide +kernel
theorem dX7_isLoop_16 : decode cX7_isLoop 16 = .ok (.aload_n 0, 1) := by decide +kernel
theorem dX7_isLoop_17 : decode cX7_isLoop 17 = .ok (.getfield 29, 3) := by decide +kernel
theorem dX7_isLoop_20 : decode cX7_isLoop 20 = .ok (.iload_n 2, 1) := by decide +kernel
theorem dX7_isLoop_21 : decode cX7_isLoop 21 = .ok (.iaload, 1) := by decide +kernel
theorem dX7_isLoop_22 : decode cX7_isLoop 22 = .ok (.aload_n 0, 1) := by decide +kernel
theorem dX7_isLoop_23 : decode cX7_isLoop 23 = .ok (.getfield 29, 3) := by decide +kernel
theorem dX7_isLoop_26 : decode cX7_isLoop 26 = .ok (.iload_n 2, 1) := by decide +kernel
theorem dX7_isLoop_27 : decode cX7_isLoop 27 = .ok (.iconst 1, 1) := by decide +kernel
theorem dX7_isLoop_28 : decode cX7_isLoop 28 = .ok (.iadd, 1) := by decide +kernel
theorem dX7_isLoop_29 : decode cX7_isLoop 29 = .ok (.iaload, 1) := by decide +kernel
theorem dX7_isLoop_30 : decode cX7_isLoop 30 = .ok (.if_icmp .ne 7, 3) := by decide +kernel
theorem dX7_isLoop_33 : decode cX7_isLoop 33 = .ok (.iconst 1, 1) := by decide +kernel
theorem dX7_isLoop_34 : decode cX7_isLoop 34 = .ok (.goto 4, 3) := by decide +kernel
theorem dX7_isLoop_37 : decode cX7_isLoop 37 = .ok (.iconst 0, 1) := by decide +kernel
theorem dX7_isLoop_38 : decode cX7_isLoop 38 = .ok (.istore_n 1, 1) := by decide +kernel
theorem dX7_isLoop_39 : decode cX7_isLoop 39 = .ok (.iinc 2 2, 3) := by decide +kernel
theorem dX7_isLoop_42 : decode cX7_isLoop 42 = .ok (.goto (-38), 3) := by decide +kernel
theorem dX7_isLoop_45 : decode cX7_isLoop 45 = .ok (.iload_n 1, 1) := by decide +kernel
theorem dX7_isLoop_46 : decode cX7_isLoop 46 = .ok (.ireturn, 1) := by decide +kernel
theorem dX7_isTwice_0 : decode cX7_isTwice 0 = .ok (.iconst 0, 1) := by decide +kernel
theorem dX7_isTwice_1 : decode cX7_isTwice 1 = .ok (.istore_n 1, 1) := by decide +kernel
theorem dX7_isTwice_2 : decode cX7_isTwice 2 = .ok (.iconst 0, 1) := by decide +kernel
theorem dX7_isTwice_3 : decode cX7_isTwice 3 = .ok (.istore_n 2, 1) := by decide +kernel
theorem dX7_isTwice_4 : decode cX7_isTwice 4 = .ok (.iload_n 2, 1) := by decide +kernel
theorem dX7_isTwice_5 : decode cX7_isTwice 5 = .ok (.aload_n 0, 1) := by decide +kernel
theorem dX7_isTwice_6 : decode cX7_isTwice 6 = .ok (.getfield 201, 3) := by decide +kernel
theorem dX7_isTwice_9 : decode cX7_isTwice 9 = .ok (.if_icmp .ge 100, 3) := by decide +kernel
theorem dX7_isTwice_12 : decode cX7_isTwice 12 = .ok (.iconst 0, 1) := by decide +kernel
theorem dX7_isTwice_13 : decode cX7_isTwice 13 = .ok (.istore_n 3, 1) := by decide +kernel
theorem dX7_isTwice_14 : decode cX7_isTwice 14 = .ok (.iload_n 3, 1) := by decide +kernel
theorem dX7_isTwice_15 : decode cX7_isTwice 15 = .ok (.iload_n 2, 1) := by decide +kernel
theorem dX7_isTwice_16 : decode cX7_isTwice 16 = .ok (.if_icmp .ge 87, 3) := by decide +kernel
theorem dX7_isTwice_19 : decode cX7_isTwice 19 = .ok (.iload_n 1, 1) := by decide +kernel
theorem dX7_isTwice_20 : decode cX7_isTwice 20 = .ok (.ifCond .ne 71, 3) := by decide +kernel
theorem dX7_isTwice_23 : decode cX7_isTwice 23 = .ok (.aload_n 0, 1) := by decide +kernel
theorem dX7_isTwice_24 : decode cX7_isTwice 24 = .ok (.getfield 29, 3) := by decide +kernel
theorem dX7_isTwice_27 : decode cX7_isTwice 27 = .ok (.iload_n 2, 1) := by decide +kernel
theorem dX7_isTwice_28 : decode cX7_isTwice 28 = .ok (.iaload, 1) := by decide +kernel
theorem dX7_isTwice_29 : decode cX7_isTwice 29 = .ok (.aload_n 0, 1) := by decide +kernel
theorem dX7_isTwice_30 : decode cX7_isTwice 30 = .ok (.getfield 29, 3) := by decide +kernel
theorem dX7_isTwice_33 : decode cX7_isTwice 33 = .ok (.iload_n 3, 1) := by decide +kernel
theorem dX7_isTwice_34 : decode cX7_isTwice 34 = .ok (.iaload, 1) := by decide +kernel
theorem dX7_isTwice_35 : decode cX7_isTwice 35 = .ok (.if_icmp .ne 22, 3) := by decide +kernel
theorem dX7_isTwice_38 : decode cX7_isTwice 38 = .ok (.aload_n 0, 1) := by decide +kernel
theorem dX7_isTwice_39 : decode cX7_isTwice 39 = .ok (.getfield 29, 3) := by decide +kernel
theorem dX7_isTwice_42 : decode cX7_isTwice 42 = .ok (.iload_n 2, 1) := by decide +kernel
theorem dX7_isTwice_43 : decode cX7_isTwice 43 = .ok (.iconst 1, 1) := by decide +kernel
theorem dX7_isTwice_44 : decode cX7_isTwice 44 = .ok (.iadd, 1) := by decide +kernel
theorem dX7_isTwice_45 : decode cX7_isTwice 45 = .ok (.iaload, 1) := by decide +kernel
theorem dX7_isTwice_46 : decode cX7_isTwice 46 = .ok (.aload_n 0, 1) := by decide +kernel
theorem dX7_isTwice_47 : decode cX7_isTwice 47 = .ok (.getfield 29, 3) := by decide +kernel
theorem dX7_isTwice_50 : decode cX7_isTwice 50 = .ok (.iload_n 3, 1) := by decide +kernel
theorem dX7_isTwice_51 : decode cX7_isTwice 51 = .ok (.iconst 1, 1) := by decide +kernel
theorem dX7_isTwice_52 : decode cX7_isTwice 52 = .ok (.iadd, 1) := by decide +kernel
theorem dX7_isTwice_53 : decode cX7_isTwice 53 = .ok (.iaload, 1) := by decide +kernel
theorem dX7_isTwice_54 : decode cX7_isTwice 54 = .ok (.if_icmp .eq 37, 3) := by decide +kernel
theorem dX7_isTwice_57 : decode cX7_isTwice 57 = .ok (.aload_n 0, 1) := by decide +kernel
theorem dX7_isTwice_58 : decode cX7_isTwice 58 = .ok (.getfield 29, 3) := by decide +kernel
theorem dX7_isTwice_61 : decode cX7_isTwice 61 = .ok (.iload_n 2, 1) := by decide +kernel
theorem dX7_isTwice_62 : decode cX7_isTwice 62 = .ok (.iaload, 1) := by decide +kernel
theorem dX7_isTwice_63 : decode cX7_isTwice 63 = .ok (.aload_n 0, 1) := by decide +kernel
theorem dX7_isTwice_64 : decode cX7_isTwice 64 = .ok (.getfield 29, 3) := by decide +kernel
theorem dX7_isTwice_67 : decode cX7_isTwice 67 = .ok (.iload_n 3, 1) := by decide +kernel
theorem dX7_isTwice_68 : decode cX7_isTwice 68 = .ok (.iconst 1, 1) := by decide +kernel
theorem dX7_isTwice_69 : decode cX7_isTwice 69 = .ok (.iadd, 1) := by decide +kernel
theorem dX7_isTwice_70 : decode cX7_isTwice 70 = .ok (.iaload, 1) := by decide +kernel
theorem dX7_isTwice_71 : decode cX7_isTwice 71 = .ok (.if_icmp .ne 24, 3) := by decide +kernel
theorem dX7_isTwice_74 : decode cX7_isTwice 74 = .ok (.aload_n 0, 1) := by decide +kernel
theorem dX7_isTwice_75 : decode cX7_isTwice 75 = .ok (.getfield 29, 3) := by decide +kernel
theorem dX7_isTwice_78 : decode cX7_isTwice 78 = .ok (.iload_n 2, 1) := by decide +kernel
theorem dX7_isTwice_79 : decode cX7_isTwice 79 = .ok (.iconst 1, 1) := by decide +kernel
theorem dX7_isTwice_80 : decode cX7_isTwice 80 = .ok (.iadd, 1) := by decide +kernel
theorem dX7_isTwice_81 : decode cX7_isTwice 81 = .ok (.iaload, 1) := by decide +kernel
theorem dX7_isTwice_82 : decode cX7_isTwice 82 = .ok (.aload_n 0, 1) := by decide +kernel
theorem dX7_isTwice_83 : decode cX7_isTwice 83 = .ok (.getfield 29, 3) := by decide +kernel
theorem dX7_isTwice_86 : decode cX7_isTwice 86 = .ok (.iload_n 3, 1) := by decide +kernel
theorem dX7_isTwice_87 : decode cX7_isTwice 87 = .ok (.iaload, 1) := by decide +kernel
theorem dX7_isTwice_88 : decode cX7_isTwice 88 = .ok (.if_icmp .ne 7, 3) := by decide +kernel
theorem dX7_isTwice_91 : decode cX7_isTwice 91 = .ok (.iconst 1, 1) := by decide +kernel
theorem dX7_isTwice_92 : decode cX7_isTwice 92 = .ok (.goto 4, 3) := by decide +kernel
theorem dX7_isTwice_95 : decode cX7_isTwice 95 = .ok (.iconst 0, 1) := by decide +kernel
theorem dX7_isTwice_96 : decode cX7_isTwice 96 = .ok (.istore_n 1, 1) := by decide +kernel
theorem dX7_isTwice_97 : decode cX7_isTwice 97 = .ok (.iinc 3 2, 3) := by decide +kernel
theorem dX7_isTwice_100 : decode cX7_isTwice 100 = .ok (.goto (-86), 3) := by decide +kernel
theorem dX7_isTwice_103 : decode cX7_isTwice 103 = .ok (.iinc 2 2, 3) := by decide +kernel
theorem dX7_isTwice_106 : decode cX7_isTwice 106 = .ok (.goto (-102), 3) := by decide +kernel
theorem dX7_isTwice_109 : decode cX7_isTwice 109 = .ok (.iload_n 1, 1) := by decide +kernel
theorem dX7_isTwice_110 : decode cX7_isTwice 110 = .ok (.ireturn, 1) := by decide +kernel
theorem dX7_timesRead_0 : decode cX7_timesRead 0 = .ok (.iconst 0, 1) := by decide +kernel
theorem dX7_timesRead_1 : decode cX7_timesRead 1 = .ok (.istore_n 2, 1) := by decide +kernel
theorem dX7_timesRead_2 : decode cX7_timesRead 2 = .ok (.iconst 0, 1) := by decide +kernel
theorem dX7_timesRead_3 : decode cX7_timesRead 3 = .ok (.istore_n 3, 1) := by decide +kernel
theorem dX7_timesRead_4 : decode cX7_timesRead 4 = .ok (.iload_n 3, 1) := by decide +kernel
theorem dX7_timesRead_5 : decode cX7_timesRead 5 = .ok (.aload_n 0, 1) := by decide +kernel
theorem dX7_timesRead_6 : decode cX7_timesRead 6 = .ok (.getfield 201, 3) := by decide +kernel
theorem dX7_timesRead_9 : decode cX7_timesRead 9 = .ok (.if_icmp .ge 27, 3) := by decide +kernel
theorem dX7_timesRead_12 : decode cX7_timesRead 12 = .ok (.iload_n 2, 1) := by decide +kernel
theorem dX7_timesRead_13 : decode cX7_timesRead 13 = .ok (.aload_n 0, 1) := by decide +kernel
theorem dX7_timesRead_14 : decode cX7_timesRead 14 = .ok (.getfield 29, 3) := by decide +kernel
theorem dX7_timesRead_17 : decode cX7_timesRead 17 = .ok (.iload_n 3, 1) := by decide +kernel
theorem dX7_timesRead_18 : decode cX7_timesRead 18 = .ok (.iaload, 1) := by decide +kernel
theorem dX7_timesRead_19 : decode cX7_timesRead 19 = .ok (.iload_n 1, 1) := by decide +kernel
theorem dX7_timesRead_20 : decode cX7_timesRead 20 = .ok (.if_icmp .ne 7, 3) := by decide +kernel
theorem dX7_timesRead_23 : decode cX7_timesRead 23 = .ok (.iconst 1, 1) := by decide +kernel
theorem dX7_timesRead_24 : decode cX7_timesRead 24 = .ok (.goto 4, 3) := by decide +kernel
theorem dX7_timesRead_27 : decode cX7_timesRead 27 = .ok (.iconst 0, 1) := by decide +kernel
theorem dX7_timesRead_28 : decode cX7_timesRead 28 = .ok (.iadd, 1) := by decide +kernel
theorem dX7_timesRead_29 : decode cX7_timesRead 29 = .ok (.istore_n 2, 1) := by decide +kernel
theorem dX7_timesRead_30 : decode cX7_timesRead 30 = .ok (.iinc 3 1, 3) := by decide +kernel
theorem dX7_timesRead_33 : decode cX7_timesRead 33 = .ok (.goto (-29), 3) := by decide +kernel
theorem dX7_timesRead_36 : decode cX7_timesRead 36 = .ok (.iload_n 2, 1) := by decide +kernel
theorem dX7_timesRead_37 : decode cX7_timesRead 37 = .ok (.ireturn, 1) := by decide +kernel
set_option maxRecDepth 20000 in
theorem ggX7_isTooMuch_X7_timesRead : GoodIn wsX7_isTooMuch wsX7_timesRead := goodIn_r _ [5, 6, 7, 8, 9, 10, 11, 12, 13, 14, 15, 16, 17, 18, 19, 20, 21, 22, 23, 24, 25, 26, 27] (by decide +kernel) (by decide +kernel)
set_option maxRecDepth 20000 in
theorem gX7_isTooMuch_X7_timesRead : GoodIn wsX7_isTooMuch (wsV RX7 211 RX7 yX7_timesRead wsX7_timesRead) := goodIn_app (goodIn_of _ (by decide +kernel)) ggX7_isTooMuch_X7_timesRead
theorem dX7_isTooMuch_0 : decode cX7_isTooMuch 0 = .ok (.iconst 0, 1) := by decide +kernel
theorem dX7_isTooMuch_1 : decode cX7_isTooMuch 1 = .ok (.istore_n 1, 1) := by decide +kernel
theorem dX7_isTooMuch_2 : decode cX7_isTooMuch 2 = .ok (.iconst 0, 1) := by decide +kernel
theorem dX7_isTooMuch_3 : decode cX7_isTooMuch 3 = .ok (.istore_n 2, 1) := by decide +kernel
theorem dX7_isTooMuch_4 : decode cX7_isTooMuch 4 = .ok (.iload_n 2, 1) := by decide +kernel
theorem dX7_isTooMuch_5 : decode cX7_isTooMuch 5 = .ok (.bipush 14, 2) := by decide +kernel
theorem dX7_isTooMuch_7 : decode cX7_isTooMuch 7 = .ok (.if_icmp .ge 28, 3) := by decide +kernel
theorem dX7_isTooMuch_10 : decode cX7_isTooMuch 10 = .ok (.iload_n 1, 1) := by decide +kernel
theorem dX7_isTooMuch_11 : decode cX7_isTooMuch 11 = .ok (.ifCond .ne 12, 3) := by decide +kernel
theorem dX7_isTooMuch_14 : decode cX7_isTooMuch 14 = .ok (.aload_n 0, 1) := by decide +kernel
theorem dX7_isTooMuch_15 : decode cX7_isTooMuch 15 = .ok (.iload_n 2, 1) := by decide +kernel
theorem dX7_isTooMuch_16 : decode cX7_isTooMuch 16 = .ok (.invokevirtual 211, 3) := by decide +kernel
theorem dX7_isTooMuch_19 : decode cX7_isTooMuch 19 = .ok (.iconst 3, 1) := by decide +kernel
theorem dX7_isTooMuch_20 : decode cX7_isTooMuch 20 = .ok (.if_icmp .le 7, 3) := by decide +kernel
theorem dX7_isTooMuch_23 : decode cX7_isTooMuch 23 = .ok (.iconst 1, 1) := by decide +kernel
theorem dX7_isTooMuch_24 : decode cX7_isTooMuch 24 = .ok (.goto 4, 3) := by decide +kernel
theorem dX7_isTooMuch_27 : decode cX7_isTooMuch 27 = .ok (.iconst 0, 1) := by decide +kernel
theorem dX7_isTooMuch_28 : decode cX7_isTooMuch 28 = .ok (.istore_n 1, 1) := by decide +kernel
theorem dX7_isTooMuch_29 : decode cX7_isTooMuch 29 = .ok (.iinc 2 1, 3) := by decide +kernel
theorem dX7_isTooMuch_32 : decode cX7_isTooMuch 32 = .ok (.goto (-28), 3) := by decide +kernel
theorem dX7_isTooMuch_35 : decode cX7_isTooMuch 35 = .ok (.iload_n 1, 1) := by decide +kernel
theorem dX7_isTooMuch_36 : decode cX7_isTooMuch 36 = .ok (.ireturn, 1) := by decide +kernel
set_option maxRecDepth 20000 in
theorem ggX7_readNet_X7_readsThreads : GoodIn wsX7_readNet wsX7_readsThreads := goodIn_r _ [9, 1, 3, 10, 11, 12, 13, 8, 14, 15, 4, 16, 17, 18, 19, 20, 21, 22, 23, 24, 25, 26, 61, 62, 63, 64, 65, 66, 67, 68, 69, 70, 71, 72, 73, 74, 75, 76, 77, 78, 79, 80] (by decide +kernel) (by decide +kernel)
set_option maxRecDepth 20000 in
theorem gX7_readNet_X7_readsThreads : GoodIn wsX7_readNet (wsV RX7 214 RX7 yX7_readsThreads wsX7_readsThreads) := goodIn_app (goodIn_of _ (by decide +kernel)) ggX7_readNet_X7_readsThreads
set_option maxRecDepth 20000 in
theorem ggX7_readNet_X7_isLoop : GoodIn wsX7_readNet wsX7_isLoop := goodIn_r _ [30, 3, 4, 61, 62, 63, 64, 65, 66, 67, 68, 69, 70, 71, 72, 73, 74, 75, 76, 77, 78, 79, 80] (by decide +kernel) (by decide +kernel)
set_option maxRecDepth 20000 in
theorem gX7_readNet_X7_isLoop : GoodIn wsX7_readNet (wsV RX7 217 RX7 yX7_isLoop wsX7_isLoop) := goodIn_app (goodIn_of _ (by decide +kernel)) ggX7_readNet_X7_isLoop
set_option maxRecDepth 20000 in
theorem ggX7_readNet_X7_isTwice : GoodIn wsX7_readNet wsX7_isTwice := goodIn_r _ [34, 3, 4, 61, 62, 63, 64, 65, 66, 67, 68, 69, 70, 71, 72, 73, 74, 75, 76, 77, 78, 79, 80] (by decide +kernel) (by decide +kernel)
set_option maxRecDepth 20000 in
theorem gX7_readNet_X7_isTwice : GoodIn wsX7_readNet (wsV RX7 220 RX7 yX7_isTwice wsX7_isTwice) := goodIn_app (goodIn_of _ (by decide +kernel)) ggX7_readNet_X7_isTwice
set_option maxRecDepth 20000 in
theorem ggX7_readNet_X7_isTooMuch : GoodIn wsX7_readNet wsX7_isTooMuch := goodIn_r _ [38, 39, 40, 41, 8, 42, 3, 4, 61, 62, 63, 64, 65, 66, 67, 68, 69, 70, 71, 72, 73, 74, 75, 76, 77, 78, 79, 80] (by decide +kernel) (by decide +kernel)
set_option maxRecDepth 20000 in
theorem gX7_readNet_X7_isTooMuch : GoodIn wsX7_readNet (wsV RX7 223 RX7 yX7_isTooMuch wsX7_isTooMuch) := goodIn_app (goodIn_of _ (by decide +kernel)) ggX7_readNet_X7_isTooMuch
set_option maxRecDepth 20000 in
theorem ggX7_readNet_X7_records : GoodIn wsX7_readNet wsX7_records := goodIn_r _ [46, 47, 48, 2, 61, 62, 63, 64, 65, 66, 67, 68, 69, 70, 71, 72, 73, 74, 75, 76, 77, 78, 79, 80] (by decide +kernel) (by decide +kernel)
set_option maxRecDepth 20000 in
theorem gX7_readNet_X7_records : GoodIn wsX7_readNet (wsV RX7 84 RX7 yX7_records wsX7_records) := goodIn_app (goodIn_of _ (by decide +kernel)) ggX7_readNet_X7_records
set_option maxRecDepth 20000 in
theorem ggX7_readNet_X7_adds : GoodIn wsX7_readNet wsX7_adds := goodIn_r _ [52, 2, 53, 54, 55, 8, 56, 61, 62, 63, 64, 65, 66, 67, 68, 69, 70, 71, 72, 73, 74, 75, 76, 77, 78, 79, 80] (by decide +kernel) (by decide +kernel)
set_option maxRecDepth 20000 in
theorem gX7_readNet_X7_adds : GoodIn wsX7_readNet (wsV RX7 115 RX7 yX7_adds wsX7_adds) := goodIn_app (goodIn_of _ (by decide +kernel)) ggX7_readNet_X7_adds
set_option maxRecDepth 20000 in
theorem ggX7_readNet_X7_of : GoodIn wsX7_readNet wsX7_of := goodIn_r _ [60, 2, 61, 62, 63, 64, 65, 66, 67, 68, 69, 70, 71, 72, 73, 74, 75, 76, 77, 78, 79, 80] (by decide +kernel) (by decide +kernel)
set_option maxRecDepth 20000 in
theorem gX7_readNet_X7_of : GoodIn wsX7_readNet (wsV RX7 56 RX7 yX7_of wsX7_of) := goodIn_app (goodIn_of _ (by decide +kernel)) ggX7_readNet_X7_of
theorem dX7_readNet_0 : decode cX7_readNet 0 = .ok (.aload_n 0, 1) := by decide +kernel
theorem dX7_readNet_1 : decode cX7_readNet 1 = .ok (.invokevirtual 214, 3) := by decide +kernel
theorem dX7_readNet_4 : decode cX7_readNet 4 = .ok (.ifCond .ne 11, 3) := by decide +kernel
theorem dX7_readNet_7 : decode cX7_readNet 7 = .ok (.bipush (-100), 2) := by decide +kernel
theorem dX7_readNet_9 : decode cX7_readNet 9 = .ok (.aload_n 0, 1) := by decide +kernel
theorem dX7_readNet_10 : decode cX7_readNet 10 = .ok (.getfield 195, 3) := by decide +kernel
theorem dX7_readNet_13 : decode cX7_readNet 13 = .ok (.isub, 1) := by decide +kernel
theorem dX7_readNet_14 : decode cX7_readNet 14 = .ok (.ireturn, 1) := by decide +kernel
theorem dX7_readNet_15 : decode cX7_readNet 15 = .ok (.aload_n 0, 1) := by decide +kernel
theorem dX7_readNet_16 : decode cX7_readNet 16 = .ok (.invokevirtual 217, 3) := by decide +kernel
theorem dX7_readNet_19 : decode cX7_readNet 19 = .ok (.ifCond .eq 6, 3) := by decide +kernel
theorem dX7_readNet_22 : decode cX7_readNet 22 = .ok (.bipush (-2), 2) := by decide +kernel
theorem dX7_readNet_24 : decode cX7_readNet 24 = .ok (.ireturn, 1) := by decide +kernel
theorem dX7_readNet_25 : decode cX7_readNet 25 = .ok (.aload_n 0, 1) := by decide +kernel
theorem dX7_readNet_26 : decode cX7_readNet 26 = .ok (.invokevirtual 220, 3) := by decide +kernel
theorem dX7_readNet_29 : decode cX7_readNet 29 = .ok (.ifCond .ne 10, 3) := by decide +kernel
theorem dX7_readNet_32 : decode cX7_readNet 32 = .ok (.aload_n 0, 1) := by decide +kernel
theorem dX7_readNet_33 : decode cX7_readNet 33 = .ok (.invokevirtual 223, 3) := by decide +kernel
theorem dX7_readNet_36 : decode cX7_readNet 36 = .ok (.ifCond .eq 6, 3) := by decide +kernel
theorem dX7_readNet_39 : decode cX7_readNet 39 = .ok (.bipush (-4), 2) := by decide +kernel
theorem dX7_readNet_41 : decode cX7_readNet 41 = .ok (.ireturn, 1) := by decide +kernel
theorem dX7_readNet_42 : decode cX7_readNet 42 = .ok (.aload_n 0, 1) := by decide +kernel
theorem dX7_readNet_43 : decode cX7_readNet 43 = .ok (.invokevirtual 84, 3) := by decide +kernel
theorem dX7_readNet_46 : decode cX7_readNet 46 = .ok (.aload_n 0, 1) := by decide +kernel
theorem dX7_readNet_47 : decode cX7_readNet 47 = .ok (.getfield 7, 3) := by decide +kernel
theorem dX7_readNet_50 : decode cX7_readNet 50 = .ok (.iconst 0, 1) := by decide +kernel
theorem dX7_readNet_51 : decode cX7_readNet 51 = .ok (.iconst 0, 1) := by decide +kernel
theorem dX7_readNet_52 : decode cX7_readNet 52 = .ok (.iastore, 1) := by decide +kernel
theorem dX7_readNet_53 : decode cX7_readNet 53 = .ok (.aload_n 0, 1) := by decide +kernel
theorem dX7_readNet_54 : decode cX7_readNet 54 = .ok (.getfield 7, 3) := by decide +kernel
theorem dX7_readNet_57 : decode cX7_readNet 57 = .ok (.iconst 1, 1) := by decide +kernel
theorem dX7_readNet_58 : decode cX7_readNet 58 = .ok (.iconst 0, 1) := by decide +kernel
theorem dX7_readNet_59 : decode cX7_readNet 59 = .ok (.iastore, 1) := by decide +kernel
theorem dX7_readNet_60 : decode cX7_readNet 60 = .ok (.iconst 0, 1) := by decide +kernel
theorem dX7_readNet_61 : decode cX7_readNet 61 = .ok (.istore_n 1, 1) := by decide +kernel
theorem dX7_readNet_62 : decode cX7_readNet 62 = .ok (.iload_n 1, 1) := by decide +kernel
theorem dX7_readNet_63 : decode cX7_readNet 63 = .ok (.aload_n 0, 1) := by decide +kernel
theorem dX7_readNet_64 : decode cX7_readNet 64 = .ok (.getfield 201, 3) := by decide +kernel
theorem dX7_readNet_67 : decode cX7_readNet 67 = .ok (.if_icmp .ge 69, 3) := by decide +kernel
theorem dX7_readNet_70 : decode cX7_readNet 70 = .ok (.aload_n 0, 1) := by decide +kernel
theorem dX7_readNet_71 : decode cX7_readNet 71 = .ok (.aload_n 0, 1) := by decide +kernel
theorem dX7_readNet_72 : decode cX7_readNet 72 = .ok (.getfield 29, 3) := by decide +kernel
theorem dX7_readNet_75 : decode cX7_readNet 75 = .ok (.iload_n 1, 1) := by decide +kernel
theorem dX7_readNet_76 : decode cX7_readNet 76 = .ok (.iaload, 1) := by decide +kernel
theorem dX7_readNet_77 : decode cX7_readNet 77 = .ok (.aload_n 0, 1) := by decide +kernel
theorem dX7_readNet_78 : decode cX7_readNet 78 = .ok (.getfield 29, 3) := by decide +kernel
theorem dX7_readNet_81 : decode cX7_readNet 81 = .ok (.iload_n 1, 1) := by decide +kernel
theorem dX7_readNet_82 : decode cX7_readNet 82 = .ok (.iconst 1, 1) := by decide +kernel
theorem dX7_readNet_83 : decode cX7_readNet 83 = .ok (.iadd, 1) := by decide +kernel
theorem dX7_readNet_84 : decode cX7_readNet 84 = .ok (.iaload, 1) := by decide +kernel
theorem dX7_readNet_85 : decode cX7_readNet 85 = .ok (.invokevirtual 115, 3) := by decide +kernel
theorem dX7_readNet_88 : decode cX7_readNet 88 = .ok (.aload_n 0, 1) := by decide +kernel
theorem dX7_readNet_89 : decode cX7_readNet 89 = .ok (.aload_n 0, 1) := by decide +kernel
theorem dX7_readNet_90 : decode cX7_readNet 90 = .ok (.getfield 7, 3) := by decide +kernel
theorem dX7_readNet_93 : decode cX7_readNet 93 = .ok (.iconst 1, 1) := by decide +kernel
theorem dX7_readNet_94 : decode cX7_readNet 94 = .ok (.iaload, 1) := by decide +kernel
theorem dX7_readNet_95 : decode cX7_readNet 95 = .ok (.iconst 1, 1) := by decide +kernel
theorem dX7_readNet_96 : decode cX7_readNet 96 = .ok (.isub, 1) := by decide +kernel
theorem dX7_readNet_97 : decode cX7_readNet 97 = .ok (.iconst 1, 1) := by decide +kernel
theorem dX7_readNet_98 : decode cX7_readNet 98 = .ok (.invokevirtual 56, 3) := by decide +kernel
theorem dX7_readNet_101 : decode cX7_readNet 101 = .ok (.istore_n 2, 1) := by decide +kernel
theorem dX7_readNet_102 : decode cX7_readNet 102 = .ok (.aload_n 0, 1) := by decide +kernel
theorem dX7_readNet_103 : decode cX7_readNet 103 = .ok (.getfield 7, 3) := by decide +kernel
theorem dX7_readNet_106 : decode cX7_readNet 106 = .ok (.iconst 0, 1) := by decide +kernel
theorem dX7_readNet_107 : decode cX7_readNet 107 = .ok (.iload_n 2, 1) := by decide +kernel
theorem dX7_readNet_108 : decode cX7_readNet 108 = .ok (.aload_n 0, 1) := by decide +kernel
theorem dX7_readNet_109 : decode cX7_readNet 109 = .ok (.getfield 7, 3) := by decide +kernel
theorem dX7_readNet_112 : decode cX7_readNet 112 = .ok (.iconst 0, 1) := by decide +kernel
theorem dX7_readNet_113 : decode cX7_readNet 113 = .ok (.iaload, 1) := by decide +kernel
theorem dX7_readNet_114 : decode cX7_readNet 114 = .ok (.if_icmp .lt 9, 3) := by decide +kernel
theorem dX7_readNet_117 : decode cX7_readNet 117 = .ok (.iload_n 2, 1) := by decide +kernel
theorem dX7_readNet_118 : decode cX7_readNet 118 = .ok (.iconst 1, 1) := by decide +kernel
theorem dX7_readNet_119 : decode cX7_readNet 119 = .ok (.iadd, 1) := by decide +kernel
theorem dX7_readNet_120 : decode cX7_readNet 120 = .ok (.goto 9, 3) := by decide +kernel
theorem dX7_readNet_123 : decode cX7_readNet 123 = .ok (.aload_n 0, 1) := by decide +kernel
theorem dX7_readNet_124 : decode cX7_readNet 124 = .ok (.getfield 7, 3) := by decide +kernel
theorem dX7_readNet_127 : decode cX7_readNet 127 = .ok (.iconst 0, 1) := by decide +kernel
theorem dX7_readNet_128 : decode cX7_readNet 128 = .ok (.iaload, 1) := by decide +kernel
theorem dX7_readNet_129 : decode cX7_readNet 129 = .ok (.iastore, 1) := by decide +kernel
theorem dX7_readNet_130 : decode cX7_readNet 130 = .ok (.iinc 1 2, 3) := by decide +kernel
theorem dX7_readNet_133 : decode cX7_readNet 133 = .ok (.goto (-71), 3) := by decide +kernel
theorem dX7_readNet_136 : decode cX7_readNet 136 = .ok (.aload_n 0, 1) := by decide +kernel
theorem dX7_readNet_137 : decode cX7_readNet 137 = .ok (.getfield 7, 3) := by decide +kernel
theorem dX7_readNet_140 : decode cX7_readNet 140 = .ok (.iconst 0, 1) := by decide +kernel
theorem dX7_readNet_141 : decode cX7_readNet 141 = .ok (.iaload, 1) := by decide +kernel
theorem dX7_readNet_142 : decode cX7_readNet 142 = .ok (.ireturn, 1) := by decide +kernel
set_option maxRecDepth 20000 in
theorem ggX7_reach_X7_of : GoodIn wsX7_reach wsX7_of := goodIn_r _ [6, 1, 10, 11, 12, 13, 14, 15, 16, 17, 18, 19, 20, 21, 22, 23, 24, 25, 26, 27, 28, 29] (by decide +kernel) (by decide +kernel)
set_option maxRecDepth 20000 in
theorem gX7_reach_X7_of : GoodIn wsX7_reach (wsV RX7 56 RX7 yX7_of wsX7_of) := goodIn_app (goodIn_of _ (by decide +kernel)) ggX7_reach_X7_of
set_option maxRecDepth 20000 in
theorem ggX7_reach_X7_has : GoodIn wsX7_reach wsX7_has := goodIn_r _ [9] (by decide +kernel) (by decide +kernel)
set_option maxRecDepth 20000 in
theorem gX7_reach_X7_has : GoodIn wsX7_reach (va_wsS RX7 44 yX7_has wsX7_has) := goodIn_app (goodIn_of _ (by decide +kernel)) ggX7_reach_X7_has
theorem dX7_reach_0 : decode cX7_reach 0 = .ok (.iload_n 1, 1) := by decide +kernel
theorem dX7_reach_1 : decode cX7_reach 1 = .ok (.istore_n 3, 1) := by decide +kernel
theorem dX7_reach_2 : decode cX7_reach 2 = .ok (.iconst 0, 1) := by decide +kernel
theorem dX7_reach_3 : decode cX7_reach 3 = .ok (.istore 4, 2) := by decide +kernel
theorem dX7_reach_5 : decode cX7_reach 5 = .ok (.iload 4, 2) := by decide +kernel
theorem dX7_reach_7 : decode cX7_reach 7 = .ok (.aload_n 0, 1) := by decide +kernel
theorem dX7_reach_8 : decode cX7_reach 8 = .ok (.getfield 7, 3) := by decide +kernel
theorem dX7_reach_11 : decode cX7_reach 11 = .ok (.iconst 1, 1) := by decide +kernel
theorem dX7_reach_12 : decode cX7_reach 12 = .ok (.iaload, 1) := by decide +kernel
theorem dX7_reach_13 : decode cX7_reach 13 = .ok (.if_icmp .ge 81, 3) := by decide +kernel
theorem dX7_reach_16 : decode cX7_reach 16 = .ok (.iload 4, 2) := by decide +kernel
theorem dX7_reach_18 : decode cX7_reach 18 = .ok (.iload_n 2, 1) := by decide +kernel
theorem dX7_reach_19 : decode cX7_reach 19 = .ok (.if_icmp .eq 35, 3) := by decide +kernel
theorem dX7_reach_22 : decode cX7_reach 22 = .ok (.iload_n 1, 1) := by decide +kernel
theorem dX7_reach_23 : decode cX7_reach 23 = .ok (.aload_n 0, 1) := by decide +kernel
theorem dX7_reach_24 : decode cX7_reach 24 = .ok (.iload 4, 2) := by decide +kernel
theorem dX7_reach_26 : decode cX7_reach 26 = .ok (.iconst 0, 1) := by decide +kernel
theorem dX7_reach_27 : decode cX7_reach 27 = .ok (.invokevirtual 56, 3) := by decide +kernel
theorem dX7_reach_30 : decode cX7_reach 30 = .ok (.invokestatic 44, 3) := by decide +kernel
theorem dX7_reach_33 : decode cX7_reach 33 = .ok (.ifCond .ne 17, 3) := by decide +kernel
theorem dX7_reach_36 : decode cX7_reach 36 = .ok (.iload_n 1, 1) := by decide +kernel
theorem dX7_reach_37 : decode cX7_reach 37 = .ok (.aload_n 0, 1) := by decide +kernel
theorem dX7_reach_38 : decode cX7_reach 38 = .ok (.iload 4, 2) := by decide +kernel
theorem dX7_reach_40 : decode cX7_reach 40 = .ok (.iconst 1, 1) := by decide +kernel
theorem dX7_reach_41 : decode cX7_reach 41 = .ok (.invokevirtual 56, 3) := by decide +kernel
theorem dX7_reach_44 : decode cX7_reach 44 = .ok (.invokestatic 44, 3) := by decide +kernel
theorem dX7_reach_47 : decode cX7_reach 47 = .ok (.ifCond .eq 7, 3) := by decide +kernel
theorem dX7_reach_50 : decode cX7_reach 50 = .ok (.iconst 1, 1) := by decide +kernel
theorem dX7_reach_51 : decode cX7_reach 51 = .ok (.goto 4, 3) := by decide +kernel
theorem dX7_reach_54 : decode cX7_reach 54 = .ok (.iconst 0, 1) := by decide +kernel
theorem dX7_reach_55 : decode cX7_reach 55 = .ok (.istore 5, 2) := by decide +kernel
theorem dX7_reach_57 : decode cX7_reach 57 = .ok (.iload_n 3, 1) := by decide +kernel
theorem dX7_reach_58 : decode cX7_reach 58 = .ok (.iload 5, 2) := by decide +kernel
theorem dX7_reach_60 : decode cX7_reach 60 = .ok (.ifCond .eq 25, 3) := by decide +kernel
theorem dX7_reach_63 : decode cX7_reach 63 = .ok (.iconst 1, 1) := by decide +kernel
theorem dX7_reach_64 : decode cX7_reach 64 = .ok (.aload_n 0, 1) := by decide +kernel
theorem dX7_reach_65 : decode cX7_reach 65 = .ok (.iload 4, 2) := by decide +kernel
theorem dX7_reach_67 : decode cX7_reach 67 = .ok (.iconst 0, 1) := by decide +kernel
theorem dX7_reach_68 : decode cX7_reach 68 = .ok (.invokevirtual 56, 3) := by decide +kernel
theorem dX7_reach_71 : decode cX7_reach 71 = .ok (.ishl, 1) := by decide +kernel
theorem dX7_reach_72 : decode cX7_reach 72 = .ok (.iconst 1, 1) := by decide +kernel
theorem dX7_reach_73 : decode cX7_reach 73 = .ok (.aload_n 0, 1) := by decide +kernel
theorem dX7_reach_74 : decode cX7_reach 74 = .ok (.iload 4, 2) := by decide +kernel
theorem dX7_reach_76 : decode cX7_reach 76 = .ok (.iconst 1, 1) := by decide +kernel
theorem dX7_reach_77 : decode cX7_reach 77 = .ok (.invokevirtual 56, 3) := by decide +kernel
theorem dX7_reach_80 : decode cX7_reach 80 = .ok (.ishl, 1) := by decide +kernel
theorem dX7_reach_81 : decode cX7_reach 81 = .ok (.ior, 1) := by decide +kernel
theorem dX7_reach_82 : decode cX7_reach 82 = .ok (.goto 4, 3) := by decide +kernel
theorem dX7_reach_85 : decode cX7_reach 85 = .ok (.iconst 0, 1) := by decide +kernel
theorem dX7_reach_86 : decode cX7_reach 86 = .ok (.ior, 1) := by decide +kernel
theorem dX7_reach_87 : decode cX7_reach 87 = .ok (.istore_n 3, 1) := by decide +kernel
theorem dX7_reach_88 : decode cX7_reach 88 = .ok (.iinc 4 1, 3) := by decide +kernel
theorem dX7_reach_91 : decode cX7_reach 91 = .ok (.goto (-86), 3) := by decide +kernel
theorem dX7_reach_94 : decode cX7_reach 94 = .ok (.iload_n 3, 1) := by decide +kernel
theorem dX7_reach_95 : decode cX7_reach 95 = .ok (.ireturn, 1) := by decide +kernel
set_option maxRecDepth 20000 in
theorem ggX7_round_X7_of : GoodIn wsX7_round wsX7_of := goodIn_r _ [5, 6, 14, 15, 16, 17, 18, 19, 20, 21, 22, 23, 24, 25, 26, 27, 28, 29, 30, 31, 32, 33] (by decide +kernel) (by decide +kernel)
set_option maxRecDepth 20000 in
theorem gX7_round_X7_of : GoodIn wsX7_round (wsV RX7 56 RX7 yX7_of wsX7_of) := goodIn_app (goodIn_of _ (by decide +kernel)) ggX7_round_X7_of
set_option maxRecDepth 20000 in
theorem ggX7_round_X7_has : GoodIn wsX7_round wsX7_has := goodIn_r _ [9] (by decide +kernel) (by decide +kernel)
set_option maxRecDepth 20000 in
theorem gX7_round_X7_has : GoodIn wsX7_round (va_wsS RX7 44 yX7_has wsX7_has) := goodIn_app (goodIn_of _ (by decide +kernel)) ggX7_round_X7_has
set_option maxRecDepth 20000 in
theorem ggX7_round_X7_reach : GoodIn wsX7_round wsX7_reach := goodIn_r _ [13, 6, 1, 2, 3, 4, 5, 7, 8, 9, 14, 15, 16, 17, 18, 19, 20, 21, 22, 23, 24, 25, 26, 27, 28, 29, 30, 31, 32, 33] (by decide +kernel) (by decide +kernel)
set_option maxRecDepth 20000 in
theorem gX7_round_X7_reach : GoodIn wsX7_round (wsV RX7 226 RX7 yX7_reach wsX7_reach) := goodIn_app (goodIn_of _ (by decide +kernel)) ggX7_round_X7_reach
theorem dX7_round_0 : decode cX7_round 0 = .ok (.iconst 1, 1) := by decide +kernel
theorem dX7_round_1 : decode cX7_round 1 = .ok (.aload_n 0, 1) := by decide +kernel
theorem dX7_round_2 : decode cX7_round 2 = .ok (.iload_n 1, 1) := by decide +kernel
theorem dX7_round_3 : decode cX7_round 3 = .ok (.iconst 0, 1) := by decide +kernel
theorem dX7_round_4 : decode cX7_round 4 = .ok (.invokevirtual 56, 3) := by decide +kernel
theorem dX7_round_7 : decode cX7_round 7 = .ok (.ishl, 1) := by decide +kernel
theorem dX7_round_8 : decode cX7_round 8 = .ok (.istore_n 2, 1) := by decide +kernel
theorem dX7_round_9 : decode cX7_round 9 = .ok (.iconst 1, 1) := by decide +kernel
theorem dX7_round_10 : decode cX7_round 10 = .ok (.istore_n 3, 1) := by decide +kernel
theorem dX7_round_11 : decode cX7_round 11 = .ok (.iload_n 2, 1) := by decide +kernel
theorem dX7_round_12 : decode cX7_round 12 = .ok (.aload_n 0, 1) := by decide +kernel
theorem dX7_round_13 : decode cX7_round 13 = .ok (.iload_n 1, 1) := by decide +kernel
theorem dX7_round_14 : decode cX7_round 14 = .ok (.iconst 1, 1) := by decide +kernel
theorem dX7_round_15 : decode cX7_round 15 = .ok (.invokevirtual 56, 3) := by decide +kernel
theorem dX7_round_18 : decode cX7_round 18 = .ok (.invokestatic 44, 3) := by decide +kernel
theorem dX7_round_21 : decode cX7_round 21 = .ok (.ifCond .ne 29, 3) := by decide +kernel
theorem dX7_round_24 : decode cX7_round 24 = .ok (.aload_n 0, 1) := by decide +kernel
theorem dX7_round_25 : decode cX7_round 25 = .ok (.iload_n 2, 1) := by decide +kernel
theorem dX7_round_26 : decode cX7_round 26 = .ok (.iload_n 1, 1) := by decide +kernel
theorem dX7_round_27 : decode cX7_round 27 = .ok (.invokevirtual 226, 3) := by decide +kernel
theorem dX7_round_30 : decode cX7_round 30 = .ok (.istore 4, 2) := by decide +kernel
theorem dX7_round_32 : decode cX7_round 32 = .ok (.iload 4, 2) := by decide +kernel
theorem dX7_round_34 : decode cX7_round 34 = .ok (.iload_n 2, 1) := by decide +kernel
theorem dX7_round_35 : decode cX7_round 35 = .ok (.if_icmp .ne 6, 3) := by decide +kernel
theorem dX7_round_38 : decode cX7_round 38 = .ok (.bipush (-5), 2) := by decide +kernel
theorem dX7_round_40 : decode cX7_round 40 = .ok (.ireturn, 1) := by decide +kernel
theorem dX7_round_41 : decode cX7_round 41 = .ok (.iload 4, 2) := by decide +kernel
theorem dX7_round_43 : decode cX7_round 43 = .ok (.istore_n 2, 1) := by decide +kernel
theorem dX7_round_44 : decode cX7_round 44 = .ok (.iinc 3 1, 3) := by decide +kernel
theorem dX7_round_47 : decode cX7_round 47 = .ok (.goto (-36), 3) := by decide +kernel
theorem dX7_round_50 : decode cX7_round 50 = .ok (.iload_n 3, 1) := by decide +kernel
theorem dX7_round_51 : decode cX7_round 51 = .ok (.ireturn, 1) := by decide +kernel
set_option maxRecDepth 20000 in
theorem ggX7_shortest_X7_has : GoodIn wsX7_shortest wsX7_has := goodIn_r _ [5] (by decide +kernel) (by decide +kernel)
set_option maxRecDepth 20000 in
theorem gX7_shortest_X7_has : GoodIn wsX7_shortest (va_wsS RX7 44 yX7_has wsX7_has) := goodIn_app (goodIn_of _ (by decide +kernel)) ggX7_shortest_X7_has
set_option maxRecDepth 20000 in
theorem ggX7_shortest_X7_round : GoodIn wsX7_shortest wsX7_round := goodIn_r _ [9, 10, 11, 12, 4, 13, 1, 2, 3, 5, 14, 15, 16, 17, 18, 19, 20, 21, 22, 23, 24, 25, 26, 27, 28, 29, 30, 31, 32, 33, 34, 35, 36, 37] (by decide +kernel) (by decide +kernel)
set_option maxRecDepth 20000 in
theorem gX7_shortest_X7_round : GoodIn wsX7_shortest (wsV RX7 229 RX7 yX7_round wsX7_round) := goodIn_app (goodIn_of _ (by decide +kernel)) ggX7_shortest_X7_round
theorem dX7_shortest_0 : decode cX7_shortest 0 = .ok (.bipush (-5), 2) := by decide +kernel
theorem dX7_shortest_2 : decode cX7_shortest 2 = .ok (.istore_n 2, 1) := by decide +kernel
theorem dX7_shortest_3 : decode cX7_shortest 3 = .ok (.iconst 0, 1) := by decide +kernel
theorem dX7_shortest_4 : decode cX7_shortest 4 = .ok (.istore_n 3, 1) := by decide +kernel
theorem dX7_shortest_5 : decode cX7_shortest 5 = .ok (.iload_n 3, 1) := by decide +kernel
theorem dX7_shortest_6 : decode cX7_shortest 6 = .ok (.aload_n 0, 1) := by decide +kernel
theorem dX7_shortest_7 : decode cX7_shortest 7 = .ok (.getfield 7, 3) := by decide +kernel
theorem dX7_shortest_10 : decode cX7_shortest 10 = .ok (.iconst 1, 1) := by decide +kernel
theorem dX7_shortest_11 : decode cX7_shortest 11 = .ok (.iaload, 1) := by decide +kernel
theorem dX7_shortest_12 : decode cX7_shortest 12 = .ok (.if_icmp .ge 51, 3) := by decide +kernel
theorem dX7_shortest_15 : decode cX7_shortest 15 = .ok (.iload_n 1, 1) := by decide +kernel
theorem dX7_shortest_16 : decode cX7_shortest 16 = .ok (.iload_n 3, 1) := by decide +kernel
theorem dX7_shortest_17 : decode cX7_shortest 17 = .ok (.invokestatic 44, 3) := by decide +kernel
theorem dX7_shortest_20 : decode cX7_shortest 20 = .ok (.ifCond .eq 11, 3) := by decide +kernel
theorem dX7_shortest_23 : decode cX7_shortest 23 = .ok (.aload_n 0, 1) := by decide +kernel
theorem dX7_shortest_24 : decode cX7_shortest 24 = .ok (.iload_n 3, 1) := by decide +kernel
theorem dX7_shortest_25 : decode cX7_shortest 25 = .ok (.invokevirtual 229, 3) := by decide +kernel
theorem dX7_shortest_28 : decode cX7_shortest 28 = .ok (.goto 5, 3) := by decide +kernel
theorem dX7_shortest_31 : decode cX7_shortest 31 = .ok (.bipush (-5), 2) := by decide +kernel
theorem dX7_shortest_33 : decode cX7_shortest 33 = .ok (.istore 4, 2) := by decide +kernel
theorem dX7_shortest_35 : decode cX7_shortest 35 = .ok (.iload 4, 2) := by decide +kernel
theorem dX7_shortest_37 : decode cX7_shortest 37 = .ok (.ifCond .le 18, 3) := by decide +kernel
theorem dX7_shortest_40 : decode cX7_shortest 40 = .ok (.iload_n 2, 1) := by decide +kernel
theorem dX7_shortest_41 : decode cX7_shortest 41 = .ok (.ifCond .lt 9, 3) := by decide +kernel
theorem dX7_shortest_44 : decode cX7_shortest 44 = .ok (.iload 4, 2) := by decide +kernel
theorem dX7_shortest_46 : decode cX7_shortest 46 = .ok (.iload_n 2, 1) := by decide +kernel
theorem dX7_shortest_47 : decode cX7_shortest 47 = .ok (.if_icmp .ge 8, 3) := by decide +kernel
theorem dX7_shortest_50 : decode cX7_shortest 50 = .ok (.iload 4, 2) := by decide +kernel
theorem dX7_shortest_52 : decode cX7_shortest 52 = .ok (.goto 4, 3) := by decide +kernel
theorem dX7_shortest_55 : decode cX7_shortest 55 = .ok (.iload_n 2, 1) := by decide +kernel
theorem dX7_shortest_56 : decode cX7_shortest 56 = .ok (.istore_n 2, 1) := by decide +kernel
theorem dX7_shortest_57 : decode cX7_shortest 57 = .ok (.iinc 3 1, 3) := by decide +kernel
theorem dX7_shortest_60 : decode cX7_shortest 60 = .ok (.goto (-55), 3) := by decide +kernel
theorem dX7_shortest_63 : decode cX7_shortest 63 = .ok (.iload_n 2, 1) := by decide +kernel
theorem dX7_shortest_64 : decode cX7_shortest 64 = .ok (.ireturn, 1) := by decide +kernel
set_option maxRecDepth 20000 in
theorem ggX7_partOf_X7_reach : GoodIn wsX7_partOf wsX7_reach := goodIn_r _ [5, 6, 7, 8, 9, 4, 10, 11, 12, 13, 14, 15, 16, 17, 18, 19, 20, 21, 22, 23, 24, 25, 26, 27, 28, 29, 30, 31, 32, 33] (by decide +kernel) (by decide +kernel)
set_option maxRecDepth 20000 in
theorem gX7_partOf_X7_reach : GoodIn wsX7_partOf (wsV RX7 226 RX7 yX7_reach wsX7_reach) := goodIn_app (goodIn_of _ (by decide +kernel)) ggX7_partOf_X7_reach
theorem dX7_partOf_0 : decode cX7_partOf 0 = .ok (.iconst 1, 1) := by decide +kernel
theorem dX7_partOf_1 : decode cX7_partOf 1 = .ok (.iload_n 1, 1) := by decide +kernel
theorem dX7_partOf_2 : decode cX7_partOf 2 = .ok (.ishl, 1) := by decide +kernel
theorem dX7_partOf_3 : decode cX7_partOf 3 = .ok (.istore_n 2, 1) := by decide +kernel
theorem dX7_partOf_4 : decode cX7_partOf 4 = .ok (.aload_n 0, 1) := by decide +kernel
theorem dX7_partOf_5 : decode cX7_partOf 5 = .ok (.iload_n 2, 1) := by decide +kernel
theorem dX7_partOf_6 : decode cX7_partOf 6 = .ok (.bipush (-5), 2) := by decide +kernel
theorem dX7_partOf_8 : decode cX7_partOf 8 = .ok (.invokevirtual 226, 3) := by decide +kernel
theorem dX7_partOf_11 : decode cX7_partOf 11 = .ok (.istore_n 3, 1) := by decide +kernel
theorem dX7_partOf_12 : decode cX7_partOf 12 = .ok (.iload_n 3, 1) := by decide +kernel
theorem dX7_partOf_13 : decode cX7_partOf 13 = .ok (.iload_n 2, 1) := by decide +kernel
theorem dX7_partOf_14 : decode cX7_partOf 14 = .ok (.if_icmp .eq 16, 3) := by decide +kernel
theorem dX7_partOf_17 : decode cX7_partOf 17 = .ok (.iload_n 3, 1) := by decide +kernel
theorem dX7_partOf_18 : decode cX7_partOf 18 = .ok (.istore_n 2, 1) := by decide +kernel
theorem dX7_partOf_19 : decode cX7_partOf 19 = .ok (.aload_n 0, 1) := by decide +kernel
theorem dX7_partOf_20 : decode cX7_partOf 20 = .ok (.iload_n 2, 1) := by decide +kernel
theorem dX7_partOf_21 : decode cX7_partOf 21 = .ok (.bipush (-5), 2) := by decide +kernel
theorem dX7_partOf_23 : decode cX7_partOf 23 = .ok (.invokevirtual 226, 3) := by decide +kernel
theorem dX7_partOf_26 : decode cX7_partOf 26 = .ok (.istore_n 3, 1) := by decide +kernel
theorem dX7_partOf_27 : decode cX7_partOf 27 = .ok (.goto (-15), 3) := by decide +kernel
theorem dX7_partOf_30 : decode cX7_partOf 30 = .ok (.iload_n 2, 1) := by decide +kernel
theorem dX7_partOf_31 : decode cX7_partOf 31 = .ok (.ireturn, 1) := by decide +kernel
set_option maxRecDepth 20000 in
theorem ggX7_parts_X7_has : GoodIn wsX7_parts wsX7_has := goodIn_r _ [5] (by decide +kernel) (by decide +kernel)
set_option maxRecDepth 20000 in
theorem gX7_parts_X7_has : GoodIn wsX7_parts (va_wsS RX7 44 yX7_has wsX7_has) := goodIn_app (goodIn_of _ (by decide +kernel)) ggX7_parts_X7_has
set_option maxRecDepth 20000 in
theorem ggX7_parts_X7_partOf : GoodIn wsX7_parts wsX7_partOf := goodIn_r _ [9, 10, 11, 12, 4, 13, 1, 14, 15, 16, 17, 2, 3, 5, 18, 19, 20, 21, 22, 23, 24, 25, 26, 27, 28, 29, 30, 31, 32, 33, 34, 35, 36, 37] (by decide +kernel) (by decide +kernel)
set_option maxRecDepth 20000 in
theorem gX7_parts_X7_partOf : GoodIn wsX7_parts (wsV RX7 232 RX7 yX7_partOf wsX7_partOf) := goodIn_app (goodIn_of _ (by decide +kernel)) ggX7_parts_X7_partOf
theorem dX7_parts_0 : decode cX7_parts 0 = .ok (.iconst 0, 1) := by decide +kernel
theorem dX7_parts_1 : decode cX7_parts 1 = .ok (.istore_n 1, 1) := by decide +kernel
theorem dX7_parts_2 : decode cX7_parts 2 = .ok (.iconst 0, 1) := by decide +kernel
theorem dX7_parts_3 : decode cX7_parts 3 = .ok (.istore_n 2, 1) := by decide +kernel
theorem dX7_parts_4 : decode cX7_parts 4 = .ok (.iconst 0, 1) := by decide +kernel
theorem dX7_parts_5 : decode cX7_parts 5 = .ok (.istore_n 3, 1) := by decide +kernel
theorem dX7_parts_6 : decode cX7_parts 6 = .ok (.iload_n 3, 1) := by decide +kernel
theorem dX7_parts_7 : decode cX7_parts 7 = .ok (.aload_n 0, 1) := by decide +kernel
theorem dX7_parts_8 : decode cX7_parts 8 = .ok (.getfield 7, 3) := by decide +kernel
theorem dX7_parts_11 : decode cX7_parts 11 = .ok (.iconst 0, 1) := by decide +kernel
theorem dX7_parts_12 : decode cX7_parts 12 = .ok (.iaload, 1) := by decide +kernel
theorem dX7_parts_13 : decode cX7_parts 13 = .ok (.if_icmp .ge 33, 3) := by decide +kernel
theorem dX7_parts_16 : decode cX7_parts 16 = .ok (.iload_n 1, 1) := by decide +kernel
theorem dX7_parts_17 : decode cX7_parts 17 = .ok (.iload_n 2, 1) := by decide +kernel
theorem dX7_parts_18 : decode cX7_parts 18 = .ok (.iload_n 3, 1) := by decide +kernel
theorem dX7_parts_19 : decode cX7_parts 19 = .ok (.invokestatic 44, 3) := by decide +kernel
theorem dX7_parts_22 : decode cX7_parts 22 = .ok (.ifCond .eq 7, 3) := by decide +kernel
theorem dX7_parts_25 : decode cX7_parts 25 = .ok (.iconst 0, 1) := by decide +kernel
theorem dX7_parts_26 : decode cX7_parts 26 = .ok (.goto 4, 3) := by decide +kernel
theorem dX7_parts_29 : decode cX7_parts 29 = .ok (.iconst 1, 1) := by decide +kernel
theorem dX7_parts_30 : decode cX7_parts 30 = .ok (.iadd, 1) := by decide +kernel
theorem dX7_parts_31 : decode cX7_parts 31 = .ok (.istore_n 1, 1) := by decide +kernel
theorem dX7_parts_32 : decode cX7_parts 32 = .ok (.iload_n 2, 1) := by decide +kernel
theorem dX7_parts_33 : decode cX7_parts 33 = .ok (.aload_n 0, 1) := by decide +kernel
theorem dX7_parts_34 : decode cX7_parts 34 = .ok (.iload_n 3, 1) := by decide +kernel
theorem dX7_parts_35 : decode cX7_parts 35 = .ok (.invokevirtual 232, 3) := by decide +kernel
theorem dX7_parts_38 : decode cX7_parts 38 = .ok (.ior, 1) := by decide +kernel
theorem dX7_parts_39 : decode cX7_parts 39 = .ok (.istore_n 2, 1) := by decide +kernel
theorem dX7_parts_40 : decode cX7_parts 40 = .ok (.iinc 3 1, 3) := by decide +kernel
theorem dX7_parts_43 : decode cX7_parts 43 = .ok (.goto (-37), 3) := by decide +kernel
theorem dX7_parts_46 : decode cX7_parts 46 = .ok (.iload_n 1, 1) := by decide +kernel
theorem dX7_parts_47 : decode cX7_parts 47 = .ok (.ireturn, 1) := by decide +kernel
set_option maxRecDepth 20000 in
theorem ggX7_bridges_X7_round : GoodIn wsX7_bridges wsX7_round := goodIn_r _ [6, 7, 8, 9, 5, 10, 1, 11, 12, 13, 14, 15, 16, 17, 18, 19, 20, 21, 22, 23, 24, 25, 26, 27, 28, 29, 30, 31, 32, 33, 34, 35, 36, 37] (by decide +kernel) (by decide +kernel)
set_option maxRecDepth 20000 in
theorem gX7_bridges_X7_round : GoodIn wsX7_bridges (wsV RX7 229 RX7 yX7_round wsX7_round) := goodIn_app (goodIn_of _ (by decide +kernel)) ggX7_bridges_X7_round
theorem dX7_bridges_0 : decode cX7_bridges 0 = .ok (.iconst 0, 1) := by decide +kernel
theorem dX7_bridges_1 : decode cX7_bridges 1 = .ok (.istore_n 1, 1) := by decide +kernel
theorem dX7_bridges_2 : decode cX7_bridges 2 = .ok (.iconst 0, 1) := by decide +kernel
theorem dX7_bridges_3 : decode cX7_bridges 3 = .ok (.istore_n 2, 1) := by decide +kernel
theorem dX7_bridges_4 : decode cX7_bridges 4 = .ok (.iload_n 2, 1) := by decide +kernel
theorem dX7_bridges_5 : decode cX7_bridges 5 = .ok (.aload_n 0, 1) := by decide +kernel
theorem dX7_bridges_6 : decode cX7_bridges 6 = .ok (.getfield 7, 3) := by decide +kernel
theorem dX7_bridges_9 : decode cX7_bridges 9 = .ok (.iconst 1, 1) := by decide +kernel
theorem dX7_bridges_10 : decode cX7_bridges 10 = .ok (.iaload, 1) := by decide +kernel
theorem dX7_bridges_11 : decode cX7_bridges 11 = .ok (.if_icmp .ge 27, 3) := by decide +kernel
theorem dX7_bridges_14 : decode cX7_bridges 14 = .ok (.iload_n 1, 1) := by decide +kernel
theorem dX7_bridges_15 : decode cX7_bridges 15 = .ok (.aload_n 0, 1) := by decide +kernel
theorem dX7_bridges_16 : decode cX7_bridges 16 = .ok (.iload_n 2, 1) := by decide +kernel
theorem dX7_bridges_17 : decode cX7_bridges 17 = .ok (.invokevirtual 229, 3) := by decide +kernel
theorem dX7_bridges_20 : decode cX7_bridges 20 = .ok (.bipush (-5), 2) := by decide +kernel
theorem dX7_bridges_22 : decode cX7_bridges 22 = .ok (.if_icmp .ne 7, 3) := by decide +kernel
theorem dX7_bridges_25 : decode cX7_bridges 25 = .ok (.iconst 1, 1) := by decide +kernel
theorem dX7_bridges_26 : decode cX7_bridges 26 = .ok (.goto 4, 3) := by decide +kernel
theorem dX7_bridges_29 : decode cX7_bridges 29 = .ok (.iconst 0, 1) := by decide +kernel
theorem dX7_bridges_30 : decode cX7_bridges 30 = .ok (.iadd, 1) := by decide +kernel
theorem dX7_bridges_31 : decode cX7_bridges 31 = .ok (.istore_n 1, 1) := by decide +kernel
theorem dX7_bridges_32 : decode cX7_bridges 32 = .ok (.iinc 2 1, 3) := by decide +kernel
theorem dX7_bridges_35 : decode cX7_bridges 35 = .ok (.goto (-31), 3) := by decide +kernel
theorem dX7_bridges_38 : decode cX7_bridges 38 = .ok (.iload_n 1, 1) := by decide +kernel
theorem dX7_bridges_39 : decode cX7_bridges 39 = .ok (.ireturn, 1) := by decide +kernel
set_option maxRecDepth 20000 in
theorem ggX7_isWrong_X7_isAt : GoodIn wsX7_isWrong wsX7_isAt := goodIn_r _ [6, 7, 8, 9, 5, 10, 1, 14, 15, 16, 17, 18, 19, 20, 21, 22, 23, 24, 25, 26, 27, 28, 29, 30, 31, 32, 33] (by decide +kernel) (by decide +kernel)
set_option maxRecDepth 20000 in
theorem gX7_isWrong_X7_isAt : GoodIn wsX7_isWrong (wsV RX7 60 RX7 yX7_isAt wsX7_isAt) := goodIn_app (goodIn_of _ (by decide +kernel)) ggX7_isWrong_X7_isAt
set_option maxRecDepth 20000 in
theorem ggX7_isWrong_X7_of : GoodIn wsX7_isWrong wsX7_of := goodIn_r _ [10, 1, 14, 15, 16, 17, 18, 19, 20, 21, 22, 23, 24, 25, 26, 27, 28, 29, 30, 31, 32, 33] (by decide +kernel) (by decide +kernel)
set_option maxRecDepth 20000 in
theorem gX7_isWrong_X7_of : GoodIn wsX7_isWrong (wsV RX7 56 RX7 yX7_of wsX7_of) := goodIn_app (goodIn_of _ (by decide +kernel)) ggX7_isWrong_X7_of
set_option maxRecDepth 20000 in
theorem ggX7_isWrong_X7_has : GoodIn wsX7_isWrong wsX7_has := goodIn_r _ [13] (by decide +kernel) (by decide +kernel)
set_option maxRecDepth 20000 in
theorem gX7_isWrong_X7_has : GoodIn wsX7_isWrong (va_wsS RX7 44 yX7_has wsX7_has) := goodIn_app (goodIn_of _ (by decide +kernel)) ggX7_isWrong_X7_has
theorem dX7_isWrong_0 : decode cX7_isWrong 0 = .ok (.iconst 0, 1) := by decide +kernel
theorem dX7_isWrong_1 : decode cX7_isWrong 1 = .ok (.istore_n 2, 1) := by decide +kernel
theorem dX7_isWrong_2 : decode cX7_isWrong 2 = .ok (.iconst 0, 1) := by decide +kernel
theorem dX7_isWrong_3 : decode cX7_isWrong 3 = .ok (.istore_n 3, 1) := by decide +kernel
theorem dX7_isWrong_4 : decode cX7_isWrong 4 = .ok (.iconst 0, 1) := by decide +kernel
theorem dX7_isWrong_5 : decode cX7_isWrong 5 = .ok (.istore 4, 2) := by decide +kernel
theorem dX7_isWrong_7 : decode cX7_isWrong 7 = .ok (.iload 4, 2) := by decide +kernel
theorem dX7_isWrong_9 : decode cX7_isWrong 9 = .ok (.aload_n 0, 1) := by decide +kernel
theorem dX7_isWrong_10 : decode cX7_isWrong 10 = .ok (.getfield 7, 3) := by decide +kernel
theorem dX7_isWrong_13 : decode cX7_isWrong 13 = .ok (.iconst 1, 1) := by decide +kernel
theorem dX7_isWrong_14 : decode cX7_isWrong 14 = .ok (.iaload, 1) := by decide +kernel
theorem dX7_isWrong_15 : decode cX7_isWrong 15 = .ok (.if_icmp .ge 66, 3) := by decide +kernel
theorem dX7_isWrong_18 : decode cX7_isWrong 18 = .ok (.aload_n 0, 1) := by decide +kernel
theorem dX7_isWrong_19 : decode cX7_isWrong 19 = .ok (.iload 4, 2) := by decide +kernel
theorem dX7_isWrong_21 : decode cX7_isWrong 21 = .ok (.iload_n 1, 1) := by decide +kernel
theorem dX7_isWrong_22 : decode cX7_isWrong 22 = .ok (.invokevirtual 60, 3) := by decide +kernel
theorem dX7_isWrong_25 : decode cX7_isWrong 25 = .ok (.ifCond .eq 50, 3) := by decide +kernel
theorem dX7_isWrong_28 : decode cX7_isWrong 28 = .ok (.aload_n 0, 1) := by decide +kernel
theorem dX7_isWrong_29 : decode cX7_isWrong 29 = .ok (.iload 4, 2) := by decide +kernel
theorem dX7_isWrong_31 : decode cX7_isWrong 31 = .ok (.iconst 2, 1) := by decide +kernel
theorem dX7_isWrong_32 : decode cX7_isWrong 32 = .ok (.invokevirtual 56, 3) := by decide +kernel
theorem dX7_isWrong_35 : decode cX7_isWrong 35 = .ok (.iconst 3, 1) := by decide +kernel
theorem dX7_isWrong_36 : decode cX7_isWrong 36 = .ok (.if_icmp .eq 39, 3) := by decide +kernel
theorem dX7_isWrong_39 : decode cX7_isWrong 39 = .ok (.iload_n 3, 1) := by decide +kernel
theorem dX7_isWrong_40 : decode cX7_isWrong 40 = .ok (.ifCond .ne 17, 3) := by decide +kernel
theorem dX7_isWrong_43 : decode cX7_isWrong 43 = .ok (.iload_n 2, 1) := by decide +kernel
theorem dX7_isWrong_44 : decode cX7_isWrong 44 = .ok (.aload_n 0, 1) := by decide +kernel
theorem dX7_isWrong_45 : decode cX7_isWrong 45 = .ok (.iload 4, 2) := by decide +kernel
theorem dX7_isWrong_47 : decode cX7_isWrong 47 = .ok (.iconst 2, 1) := by decide +kernel
theorem dX7_isWrong_48 : decode cX7_isWrong 48 = .ok (.invokevirtual 56, 3) := by decide +kernel
theorem dX7_isWrong_51 : decode cX7_isWrong 51 = .ok (.invokestatic 44, 3) := by decide +kernel
theorem dX7_isWrong_54 : decode cX7_isWrong 54 = .ok (.ifCond .eq 7, 3) := by decide +kernel
theorem dX7_isWrong_57 : decode cX7_isWrong 57 = .ok (.iconst 1, 1) := by decide +kernel
theorem dX7_isWrong_58 : decode cX7_isWrong 58 = .ok (.goto 4, 3) := by decide +kernel
theorem dX7_isWrong_61 : decode cX7_isWrong 61 = .ok (.iconst 0, 1) := by decide +kernel
theorem dX7_isWrong_62 : decode cX7_isWrong 62 = .ok (.istore_n 3, 1) := by decide +kernel
theorem dX7_isWrong_63 : decode cX7_isWrong 63 = .ok (.iload_n 2, 1) := by decide +kernel
theorem dX7_isWrong_64 : decode cX7_isWrong 64 = .ok (.iconst 1, 1) := by decide +kernel
theorem dX7_isWrong_65 : decode cX7_isWrong 65 = .ok (.aload_n 0, 1) := by decide +kernel
theorem dX7_isWrong_66 : decode cX7_isWrong 66 = .ok (.iload 4, 2) := by decide +kernel
theorem dX7_isWrong_68 : decode cX7_isWrong 68 = .ok (.iconst 2, 1) := by decide +kernel
theorem dX7_isWrong_69 : decode cX7_isWrong 69 = .ok (.invokevirtual 56, 3) := by decide +kernel
theorem dX7_isWrong_72 : decode cX7_isWrong 72 = .ok (.ishl, 1) := by decide +kernel
theorem dX7_isWrong_73 : decode cX7_isWrong 73 = .ok (.ior, 1) := by decide +kernel
theorem dX7_isWrong_74 : decode cX7_isWrong 74 = .ok (.istore_n 2, 1) := by decide +kernel
theorem dX7_isWrong_75 : decode cX7_isWrong 75 = .ok (.iinc 4 1, 3) := by decide +kernel
theorem dX7_isWrong_78 : decode cX7_isWrong 78 = .ok (.goto (-71), 3) := by decide +kernel
theorem dX7_isWrong_81 : decode cX7_isWrong 81 = .ok (.iload_n 3, 1) := by decide +kernel
theorem dX7_isWrong_82 : decode cX7_isWrong 82 = .ok (.ireturn, 1) := by decide +kernel
set_option maxRecDepth 20000 in
theorem ggX7_wrongs_X7_isWrong : GoodIn wsX7_wrongs wsX7_isWrong := goodIn_r _ [6, 1, 7, 8, 9, 5, 10, 11, 12, 13, 14, 15, 16, 17, 18, 19, 20, 21, 22, 23, 24, 25, 26, 27, 28, 29, 30, 31, 32, 33, 34, 35, 36, 37] (by decide +kernel) (by decide +kernel)
set_option maxRecDepth 20000 in
theorem gX7_wrongs_X7_isWrong : GoodIn wsX7_wrongs (wsV RX7 235 RX7 yX7_isWrong wsX7_isWrong) := goodIn_app (goodIn_of _ (by decide +kernel)) ggX7_wrongs_X7_isWrong
theorem dX7_wrongs_0 : decode cX7_wrongs 0 = .ok (.iconst 0, 1) := by decide +kernel
theorem dX7_wrongs_1 : decode cX7_wrongs 1 = .ok (.istore_n 1, 1) := by decide +kernel
theorem dX7_wrongs_2 : decode cX7_wrongs 2 = .ok (.iconst 0, 1) := by decide +kernel
theorem dX7_wrongs_3 : decode cX7_wrongs 3 = .ok (.istore_n 2, 1) := by decide +kernel
theorem dX7_wrongs_4 : decode cX7_wrongs 4 = .ok (.iload_n 2, 1) := by decide +kernel
theorem dX7_wrongs_5 : decode cX7_wrongs 5 = .ok (.aload_n 0, 1) := by decide +kernel
theorem dX7_wrongs_6 : decode cX7_wrongs 6 = .ok (.getfield 7, 3) := by decide +kernel
theorem dX7_wrongs_9 : decode cX7_wrongs 9 = .ok (.iconst 0, 1) := by decide +kernel
theorem dX7_wrongs_10 : decode cX7_wrongs 10 = .ok (.iaload, 1) := by decide +kernel
theorem dX7_wrongs_11 : decode cX7_wrongs 11 = .ok (.if_icmp .ge 25, 3) := by decide +kernel
theorem dX7_wrongs_14 : decode cX7_wrongs 14 = .ok (.iload_n 1, 1) := by decide +kernel
theorem dX7_wrongs_15 : decode cX7_wrongs 15 = .ok (.aload_n 0, 1) := by decide +kernel
theorem dX7_wrongs_16 : decode cX7_wrongs 16 = .ok (.iload_n 2, 1) := by decide +kernel
theorem dX7_wrongs_17 : decode cX7_wrongs 17 = .ok (.invokevirtual 235, 3) := by decide +kernel
theorem dX7_wrongs_20 : decode cX7_wrongs 20 = .ok (.ifCond .eq 7, 3) := by decide +kernel
theorem dX7_wrongs_23 : decode cX7_wrongs 23 = .ok (.iconst 1, 1) := by decide +kernel
theorem dX7_wrongs_24 : decode cX7_wrongs 24 = .ok (.goto 4, 3) := by decide +kernel
theorem dX7_wrongs_27 : decode cX7_wrongs 27 = .ok (.iconst 0, 1) := by decide +kernel
theorem dX7_wrongs_28 : decode cX7_wrongs 28 = .ok (.iadd, 1) := by decide +kernel
theorem dX7_wrongs_29 : decode cX7_wrongs 29 = .ok (.istore_n 1, 1) := by decide +kernel
theorem dX7_wrongs_30 : decode cX7_wrongs 30 = .ok (.iinc 2 1, 3) := by decide +kernel
theorem dX7_wrongs_33 : decode cX7_wrongs 33 = .ok (.goto (-29), 3) := by decide +kernel
theorem dX7_wrongs_36 : decode cX7_wrongs 36 = .ok (.iload_n 1, 1) := by decide +kernel
theorem dX7_wrongs_37 : decode cX7_wrongs 37 = .ok (.ireturn, 1) := by decide +kernel
theorem dX7_storesCover_0 : decode cX7_storesCover 0 = .ok (.aload_n 0, 1) := by decide +kernel
theorem dX7_storesCover_1 : decode cX7_storesCover 1 = .ok (.getfield 238, 3) := by decide +kernel
theorem dX7_storesCover_4 : decode cX7_storesCover 4 = .ok (.istore_n 2, 1) := by decide +kernel
theorem dX7_storesCover_5 : decode cX7_storesCover 5 = .ok (.iload_n 2, 1) := by decide +kernel
theorem dX7_storesCover_6 : decode cX7_storesCover 6 = .ok (.ifCond .le 35, 3) := by decide +kernel
theorem dX7_storesCover_9 : decode cX7_storesCover 9 = .ok (.aload_n 0, 1) := by decide +kernel
theorem dX7_storesCover_10 : decode cX7_storesCover 10 = .ok (.getfield 32, 3) := by decide +kernel
theorem dX7_storesCover_13 : decode cX7_storesCover 13 = .ok (.iload_n 2, 1) := by decide +kernel
theorem dX7_storesCover_14 : decode cX7_storesCover 14 = .ok (.iconst 1, 1) := by decide +kernel
theorem dX7_storesCover_15 : decode cX7_storesCover 15 = .ok (.isub, 1) := by decide +kernel
theorem dX7_storesCover_16 : decode cX7_storesCover 16 = .ok (.iaload, 1) := by decide +kernel
theorem dX7_storesCover_17 : decode cX7_storesCover 17 = .ok (.iload_n 1, 1) := by decide +kernel
theorem dX7_storesCover_18 : decode cX7_storesCover 18 = .ok (.if_icmp .le 23, 3) := by decide +kernel
theorem dX7_storesCover_21 : decode cX7_storesCover 21 = .ok (.aload_n 0, 1) := by decide +kernel
theorem dX7_storesCover_22 : decode cX7_storesCover 22 = .ok (.getfield 32, 3) := by decide +kernel
theorem dX7_storesCover_25 : decode cX7_storesCover 25 = .ok (.iload_n 2, 1) := by decide +kernel
theorem dX7_storesCover_26 : decode cX7_storesCover 26 = .ok (.aload_n 0, 1) := by decide +kernel
theorem dX7_storesCover_27 : decode cX7_storesCover 27 = .ok (.getfield 32, 3) := by decide +kernel
theorem dX7_storesCover_30 : decode cX7_storesCover 30 = .ok (.iload_n 2, 1) := by decide +kernel
theorem dX7_storesCover_31 : decode cX7_storesCover 31 = .ok (.iconst 1, 1) := by decide +kernel
theorem dX7_storesCover_32 : decode cX7_storesCover 32 = .ok (.isub, 1) := by decide +kernel
theorem dX7_storesCover_33 : decode cX7_storesCover 33 = .ok (.iaload, 1) := by decide +kernel
theorem dX7_storesCover_34 : decode cX7_storesCover 34 = .ok (.iastore, 1) := by decide +kernel
theorem dX7_storesCover_35 : decode cX7_storesCover 35 = .ok (.iinc 2 (-1), 3) := by decide +kernel
theorem dX7_storesCover_38 : decode cX7_storesCover 38 = .ok (.goto (-33), 3) := by decide +kernel
theorem dX7_storesCover_41 : decode cX7_storesCover 41 = .ok (.aload_n 0, 1) := by decide +kernel
theorem dX7_storesCover_42 : decode cX7_storesCover 42 = .ok (.getfield 32, 3) := by decide +kernel
theorem dX7_storesCover_45 : decode cX7_storesCover 45 = .ok (.iload_n 2, 1) := by decide +kernel
theorem dX7_storesCover_46 : decode cX7_storesCover 46 = .ok (.iload_n 1, 1) := by decide +kernel
theorem dX7_storesCover_47 : decode cX7_storesCover 47 = .ok (.iastore, 1) := by decide +kernel
theorem dX7_storesCover_48 : decode cX7_storesCover 48 = .ok (.aload_n 0, 1) := by decide +kernel
theorem dX7_storesCover_49 : decode cX7_storesCover 49 = .ok (.dup, 1) := by decide +kernel
theorem dX7_storesCover_50 : decode cX7_storesCover 50 = .ok (.getfield 238, 3) := by decide +kernel
theorem dX7_storesCover_53 : decode cX7_storesCover 53 = .ok (.iconst 1, 1) := by decide +kernel
theorem dX7_storesCover_54 : decode cX7_storesCover 54 = .ok (.iadd, 1) := by decide +kernel
theorem dX7_storesCover_55 : decode cX7_storesCover 55 = .ok (.putfield 238, 3) := by decide +kernel
theorem dX7_storesCover_58 : decode cX7_storesCover 58 = .ok (.return_, 1) := by decide +kernel
set_option maxRecDepth 20000 in
theorem ggX7_nextPick_X7_isAt : GoodIn wsX7_nextPick wsX7_isAt := goodIn_r _ [6, 7, 8, 9, 5, 10, 1, 18, 19, 20, 21, 22, 23, 24, 25, 26, 27, 28, 29, 30, 31, 32, 33, 34, 35, 36, 37] (by decide +kernel) (by decide +kernel)
set_option maxRecDepth 20000 in
theorem gX7_nextPick_X7_isAt : GoodIn wsX7_nextPick (wsV RX7 60 RX7 yX7_isAt wsX7_isAt) := goodIn_app (goodIn_of _ (by decide +kernel)) ggX7_nextPick_X7_isAt
set_option maxRecDepth 20000 in
theorem ggX7_nextPick_X7_across : GoodIn wsX7_nextPick wsX7_across := goodIn_r _ [14, 7, 8, 9, 5, 10, 1, 18, 19, 20, 21, 22, 23, 24, 25, 26, 27, 28, 29, 30, 31, 32, 33, 34, 35, 36, 37] (by decide +kernel) (by decide +kernel)
set_option maxRecDepth 20000 in
theorem gX7_nextPick_X7_across : GoodIn wsX7_nextPick (wsV RX7 70 RX7 yX7_across wsX7_across) := goodIn_app (goodIn_of _ (by decide +kernel)) ggX7_nextPick_X7_across
set_option maxRecDepth 20000 in
theorem ggX7_nextPick_X7_has : GoodIn wsX7_nextPick wsX7_has := goodIn_r _ [17] (by decide +kernel) (by decide +kernel)
set_option maxRecDepth 20000 in
theorem gX7_nextPick_X7_has : GoodIn wsX7_nextPick (va_wsS RX7 44 yX7_has wsX7_has) := goodIn_app (goodIn_of _ (by decide +kernel)) ggX7_nextPick_X7_has
theorem dX7_nextPick_0 : decode cX7_nextPick 0 = .ok (.iload_n 1, 1) := by decide +kernel
theorem dX7_nextPick_1 : decode cX7_nextPick 1 = .ok (.iconst 1, 1) := by decide +kernel
theorem dX7_nextPick_2 : decode cX7_nextPick 2 = .ok (.iadd, 1) := by decide +kernel
theorem dX7_nextPick_3 : decode cX7_nextPick 3 = .ok (.istore 4, 2) := by decide +kernel
theorem dX7_nextPick_5 : decode cX7_nextPick 5 = .ok (.iload 4, 2) := by decide +kernel
theorem dX7_nextPick_7 : decode cX7_nextPick 7 = .ok (.aload_n 0, 1) := by decide +kernel
theorem dX7_nextPick_8 : decode cX7_nextPick 8 = .ok (.getfield 7, 3) := by decide +kernel
theorem dX7_nextPick_11 : decode cX7_nextPick 11 = .ok (.iconst 1, 1) := by decide +kernel
theorem dX7_nextPick_12 : decode cX7_nextPick 12 = .ok (.iaload, 1) := by decide +kernel
theorem dX7_nextPick_13 : decode cX7_nextPick 13 = .ok (.if_icmp .ge 33, 3) := by decide +kernel
theorem dX7_nextPick_16 : decode cX7_nextPick 16 = .ok (.aload_n 0, 1) := by decide +kernel
theorem dX7_nextPick_17 : decode cX7_nextPick 17 = .ok (.iload 4, 2) := by decide +kernel
theorem dX7_nextPick_19 : decode cX7_nextPick 19 = .ok (.iload_n 2, 1) := by decide +kernel
theorem dX7_nextPick_20 : decode cX7_nextPick 20 = .ok (.invokevirtual 60, 3) := by decide +kernel
theorem dX7_nextPick_23 : decode cX7_nextPick 23 = .ok (.ifCond .eq 17, 3) := by decide +kernel
theorem dX7_nextPick_26 : decode cX7_nextPick 26 = .ok (.iload_n 3, 1) := by decide +kernel
theorem dX7_nextPick_27 : decode cX7_nextPick 27 = .ok (.aload_n 0, 1) := by decide +kernel
theorem dX7_nextPick_28 : decode cX7_nextPick 28 = .ok (.iload 4, 2) := by decide +kernel
theorem dX7_nextPick_30 : decode cX7_nextPick 30 = .ok (.iload_n 2, 1) := by decide +kernel
theorem dX7_nextPick_31 : decode cX7_nextPick 31 = .ok (.invokevirtual 70, 3) := by decide +kernel
theorem dX7_nextPick_34 : decode cX7_nextPick 34 = .ok (.invokestatic 44, 3) := by decide +kernel
theorem dX7_nextPick_37 : decode cX7_nextPick 37 = .ok (.ifCond .eq 9, 3) := by decide +kernel
theorem dX7_nextPick_40 : decode cX7_nextPick 40 = .ok (.iinc 4 1, 3) := by decide +kernel
theorem dX7_nextPick_43 : decode cX7_nextPick 43 = .ok (.goto (-38), 3) := by decide +kernel
theorem dX7_nextPick_46 : decode cX7_nextPick 46 = .ok (.iload 4, 2) := by decide +kernel
theorem dX7_nextPick_48 : decode cX7_nextPick 48 = .ok (.ireturn, 1) := by decide +kernel
set_option maxRecDepth 20000 in
theorem ggX7_findCovers_X7_storesCover : GoodIn wsX7_findCovers wsX7_storesCover := goodIn_r _ [10, 2, 11, 38, 39, 40, 41, 42, 43, 44, 45, 46, 47, 48, 49, 50, 51, 52, 53, 54, 55, 56, 57] (by decide +kernel) (by decide +kernel)
set_option maxRecDepth 20000 in
theorem gX7_findCovers_X7_storesCover : GoodIn wsX7_findCovers (wsV RX7 241 RX7 yX7_storesCover wsX7_storesCover) := goodIn_app (goodIn_of _ (by decide +kernel)) ggX7_findCovers_X7_storesCover
set_option maxRecDepth 20000 in
theorem ggX7_findCovers_X7_lowest : GoodIn wsX7_findCovers wsX7_lowest := goodIn_r _ [14, 15, 16, 9, 17] (by decide +kernel) (by decide +kernel)
set_option maxRecDepth 20000 in
theorem gX7_findCovers_X7_lowest : GoodIn wsX7_findCovers (va_wsS RX7 136 yX7_lowest wsX7_lowest) := goodIn_app (goodIn_of _ (by decide +kernel)) ggX7_findCovers_X7_lowest
set_option maxRecDepth 20000 in
theorem ggX7_findCovers_X7_nextPick : GoodIn wsX7_findCovers wsX7_nextPick := goodIn_r _ [21, 1, 22, 23, 24, 9, 25, 26, 27, 28, 29, 30, 31, 32, 33, 15, 16, 17, 38, 39, 40, 41, 42, 43, 44, 45, 46, 47, 48, 49, 50, 51, 52, 53, 54, 55, 56, 57] (by decide +kernel) (by decide +kernel)
set_option maxRecDepth 20000 in
theorem gX7_findCovers_X7_nextPick : GoodIn wsX7_findCovers (wsV RX7 244 RX7 yX7_nextPick wsX7_nextPick) := goodIn_app (goodIn_of _ (by decide +kernel)) ggX7_findCovers_X7_nextPick
set_option maxRecDepth 20000 in
theorem ggX7_findCovers_X7_goesDeeper : GoodIn wsX7_findCovers wsX7_goesDeeper := goodIn_r _ [37, 3, 4, 5, 26, 27, 28, 9, 29, 1, 38, 39, 40, 41, 42, 43, 44, 45, 46, 47, 48, 49, 50, 51, 52, 53, 54, 55, 56, 57] (by decide +kernel) (by decide +kernel)
set_option maxRecDepth 20000 in
theorem gX7_findCovers_X7_goesDeeper : GoodIn wsX7_findCovers (wsV RX7 248 RX7 yX7_goesDeeper wsX7_goesDeeper) := goodIn_app (goodIn_of _ (by decide +kernel)) ggX7_findCovers_X7_goesDeeper
theorem dX7_findCovers_0 : decode cX7_findCovers 0 = .ok (.iconst 1, 1) := by decide +kernel
theorem dX7_findCovers_1 : decode cX7_findCovers 1 = .ok (.aload_n 0, 1) := by decide +kernel
theorem dX7_findCovers_2 : decode cX7_findCovers 2 = .ok (.getfield 7, 3) := by decide +kernel
theorem dX7_findCovers_5 : decode cX7_findCovers 5 = .ok (.iconst 0, 1) := by decide +kernel
theorem dX7_findCovers_6 : decode cX7_findCovers 6 = .ok (.iaload, 1) := by decide +kernel
theorem dX7_findCovers_7 : decode cX7_findCovers 7 = .ok (.ishl, 1) := by decide +kernel
theorem dX7_findCovers_8 : decode cX7_findCovers 8 = .ok (.iconst 1, 1) := by decide +kernel
theorem dX7_findCovers_9 : decode cX7_findCovers 9 = .ok (.isub, 1) := by decide +kernel
theorem dX7_findCovers_10 : decode cX7_findCovers 10 = .ok (.istore_n 1, 1) := by decide +kernel
theorem dX7_findCovers_11 : decode cX7_findCovers 11 = .ok (.aload_n 0, 1) := by decide +kernel
theorem dX7_findCovers_12 : decode cX7_findCovers 12 = .ok (.iconst 0, 1) := by decide +kernel
theorem dX7_findCovers_13 : decode cX7_findCovers 13 = .ok (.putfield 238, 3) := by decide +kernel
theorem dX7_findCovers_16 : decode cX7_findCovers 16 = .ok (.iconst 0, 1) := by decide +kernel
theorem dX7_findCovers_17 : decode cX7_findCovers 17 = .ok (.istore_n 2, 1) := by decide +kernel
theorem dX7_findCovers_18 : decode cX7_findCovers 18 = .ok (.aload_n 0, 1) := by decide +kernel
theorem dX7_findCovers_19 : decode cX7_findCovers 19 = .ok (.getfield 35, 3) := by decide +kernel
theorem dX7_findCovers_22 : decode cX7_findCovers 22 = .ok (.iconst 0, 1) := by decide +kernel
theorem dX7_findCovers_23 : decode cX7_findCovers 23 = .ok (.iconst (-1), 1) := by decide +kernel
theorem dX7_findCovers_24 : decode cX7_findCovers 24 = .ok (.iastore, 1) := by decide +kernel
theorem dX7_findCovers_25 : decode cX7_findCovers 25 = .ok (.aload_n 0, 1) := by decide +kernel
theorem dX7_findCovers_26 : decode cX7_findCovers 26 = .ok (.getfield 38, 3) := by decide +kernel
theorem dX7_findCovers_29 : decode cX7_findCovers 29 = .ok (.iconst 0, 1) := by decide +kernel
theorem dX7_findCovers_30 : decode cX7_findCovers 30 = .ok (.iconst 0, 1) := by decide +kernel
theorem dX7_findCovers_31 : decode cX7_findCovers 31 = .ok (.iastore, 1) := by decide +kernel
theorem dX7_findCovers_32 : decode cX7_findCovers 32 = .ok (.aload_n 0, 1) := by decide +kernel
theorem dX7_findCovers_33 : decode cX7_findCovers 33 = .ok (.getfield 41, 3) := by decide +kernel
theorem dX7_findCovers_36 : decode cX7_findCovers 36 = .ok (.iconst 0, 1) := by decide +kernel
theorem dX7_findCovers_37 : decode cX7_findCovers 37 = .ok (.iconst 0, 1) := by decide +kernel
theorem dX7_findCovers_38 : decode cX7_findCovers 38 = .ok (.iastore, 1) := by decide +kernel
theorem dX7_findCovers_39 : decode cX7_findCovers 39 = .ok (.iload_n 2, 1) := by decide +kernel
theorem dX7_findCovers_40 : decode cX7_findCovers 40 = .ok (.ifCond .lt 98, 3) := by decide +kernel
theorem dX7_findCovers_43 : decode cX7_findCovers 43 = .ok (.aload_n 0, 1) := by decide +kernel
theorem dX7_findCovers_44 : decode cX7_findCovers 44 = .ok (.getfield 38, 3) := by decide +kernel
theorem dX7_findCovers_47 : decode cX7_findCovers 47 = .ok (.iload_n 2, 1) := by decide +kernel
theorem dX7_findCovers_48 : decode cX7_findCovers 48 = .ok (.iaload, 1) := by decide +kernel
theorem dX7_findCovers_49 : decode cX7_findCovers 49 = .ok (.iload_n 1, 1) := by decide +kernel
theorem dX7_findCovers_50 : decode cX7_findCovers 50 = .ok (.if_icmp .ne 19, 3) := by decide +kernel
theorem dX7_findCovers_53 : decode cX7_findCovers 53 = .ok (.aload_n 0, 1) := by decide +kernel
theorem dX7_findCovers_54 : decode cX7_findCovers 54 = .ok (.aload_n 0, 1) := by decide +kernel
theorem dX7_findCovers_55 : decode cX7_findCovers 55 = .ok (.getfield 41, 3) := by decide +kernel
theorem dX7_findCovers_58 : decode cX7_findCovers 58 = .ok (.iload_n 2, 1) := by decide +kernel
theorem dX7_findCovers_59 : decode cX7_findCovers 59 = .ok (.iaload, 1) := by decide +kernel
theorem dX7_findCovers_60 : decode cX7_findCovers 60 = .ok (.invokevirtual 241, 3) := by decide +kernel
theorem dX7_findCovers_63 : decode cX7_findCovers 63 = .ok (.iinc 2 (-1), 3) := by decide +kernel
theorem dX7_findCovers_66 : decode cX7_findCovers 66 = .ok (.goto (-27), 3) := by decide +kernel
theorem dX7_findCovers_69 : decode cX7_findCovers 69 = .ok (.iload_n 1, 1) := by decide +kernel
theorem dX7_findCovers_70 : decode cX7_findCovers 70 = .ok (.aload_n 0, 1) := by decide +kernel
theorem dX7_findCovers_71 : decode cX7_findCovers 71 = .ok (.getfield 38, 3) := by decide +kernel
theorem dX7_findCovers_74 : decode cX7_findCovers 74 = .ok (.iload_n 2, 1) := by decide +kernel
theorem dX7_findCovers_75 : decode cX7_findCovers 75 = .ok (.iaload, 1) := by decide +kernel
theorem dX7_findCovers_76 : decode cX7_findCovers 76 = .ok (.iconst (-1), 1) := by decide +kernel
theorem dX7_findCovers_77 : decode cX7_findCovers 77 = .ok (.ixor, 1) := by decide +kernel
theorem dX7_findCovers_78 : decode cX7_findCovers 78 = .ok (.iand, 1) := by decide +kernel
theorem dX7_findCovers_79 : decode cX7_findCovers 79 = .ok (.invokestatic 136, 3) := by decide +kernel
theorem dX7_findCovers_82 : decode cX7_findCovers 82 = .ok (.istore_n 3, 1) := by decide +kernel
theorem dX7_findCovers_83 : decode cX7_findCovers 83 = .ok (.aload_n 0, 1) := by decide +kernel
theorem dX7_findCovers_84 : decode cX7_findCovers 84 = .ok (.aload_n 0, 1) := by decide +kernel
theorem dX7_findCovers_85 : decode cX7_findCovers 85 = .ok (.getfield 35, 3) := by decide +kernel
theorem dX7_findCovers_88 : decode cX7_findCovers 88 = .ok (.iload_n 2, 1) := by decide +kernel
theorem dX7_findCovers_89 : decode cX7_findCovers 89 = .ok (.iaload, 1) := by decide +kernel
theorem dX7_findCovers_90 : decode cX7_findCovers 90 = .ok (.iload_n 3, 1) := by decide +kernel
theorem dX7_findCovers_91 : decode cX7_findCovers 91 = .ok (.aload_n 0, 1) := by decide +kernel
theorem dX7_findCovers_92 : decode cX7_findCovers 92 = .ok (.getfield 38, 3) := by decide +kernel
theorem dX7_findCovers_95 : decode cX7_findCovers 95 = .ok (.iload_n 2, 1) := by decide +kernel
theorem dX7_findCovers_96 : decode cX7_findCovers 96 = .ok (.iaload, 1) := by decide +kernel
theorem dX7_findCovers_97 : decode cX7_findCovers 97 = .ok (.invokevirtual 244, 3) := by decide +kernel
theorem dX7_findCovers_100 : decode cX7_findCovers 100 = .ok (.istore 4, 2) := by decide +kernel
theorem dX7_findCovers_102 : decode cX7_findCovers 102 = .ok (.aload_n 0, 1) := by decide +kernel
theorem dX7_findCovers_103 : decode cX7_findCovers 103 = .ok (.getfield 35, 3) := by decide +kernel
theorem dX7_findCovers_106 : decode cX7_findCovers 106 = .ok (.iload_n 2, 1) := by decide +kernel
theorem dX7_findCovers_107 : decode cX7_findCovers 107 = .ok (.iload 4, 2) := by decide +kernel
theorem dX7_findCovers_109 : decode cX7_findCovers 109 = .ok (.iastore, 1) := by decide +kernel
theorem dX7_findCovers_110 : decode cX7_findCovers 110 = .ok (.iload 4, 2) := by decide +kernel
theorem dX7_findCovers_112 : decode cX7_findCovers 112 = .ok (.aload_n 0, 1) := by decide +kernel
theorem dX7_findCovers_113 : decode cX7_findCovers 113 = .ok (.getfield 7, 3) := by decide +kernel
theorem dX7_findCovers_116 : decode cX7_findCovers 116 = .ok (.iconst 1, 1) := by decide +kernel
theorem dX7_findCovers_117 : decode cX7_findCovers 117 = .ok (.iaload, 1) := by decide +kernel
theorem dX7_findCovers_118 : decode cX7_findCovers 118 = .ok (.if_icmp .ge 13, 3) := by decide +kernel
theorem dX7_findCovers_121 : decode cX7_findCovers 121 = .ok (.aload_n 0, 1) := by decide +kernel
theorem dX7_findCovers_122 : decode cX7_findCovers 122 = .ok (.iload_n 2, 1) := by decide +kernel
theorem dX7_findCovers_123 : decode cX7_findCovers 123 = .ok (.iload 4, 2) := by decide +kernel
theorem dX7_findCovers_125 : decode cX7_findCovers 125 = .ok (.invokevirtual 248, 3) := by decide +kernel
theorem dX7_findCovers_128 : decode cX7_findCovers 128 = .ok (.goto 6, 3) := by decide +kernel
theorem dX7_findCovers_131 : decode cX7_findCovers 131 = .ok (.iload_n 2, 1) := by decide +kernel
theorem dX7_findCovers_132 : decode cX7_findCovers 132 = .ok (.iconst 1, 1) := by decide +kernel
theorem dX7_findCovers_133 : decode cX7_findCovers 133 = .ok (.isub, 1) := by decide +kernel
theorem dX7_findCovers_134 : decode cX7_findCovers 134 = .ok (.istore_n 2, 1) := by decide +kernel
theorem dX7_findCovers_135 : decode cX7_findCovers 135 = .ok (.goto (-96), 3) := by decide +kernel
theorem dX7_findCovers_138 : decode cX7_findCovers 138 = .ok (.return_, 1) := by decide +kernel
set_option maxRecDepth 20000 in
theorem ggX7_goesDeeper_X7_of : GoodIn wsX7_goesDeeper wsX7_of := goodIn_r _ [8, 9, 10, 11, 12, 13, 14, 15, 16, 17, 18, 19, 20, 21, 22, 23, 24, 25, 26, 27, 28, 29] (by decide +kernel) (by decide +kernel)
set_option maxRecDepth 20000 in
theorem gX7_goesDeeper_X7_of : GoodIn wsX7_goesDeeper (wsV RX7 56 RX7 yX7_of wsX7_of) := goodIn_app (goodIn_of _ (by decide +kernel)) ggX7_goesDeeper_X7_of
theorem dX7_goesDeeper_0 : decode cX7_goesDeeper 0 = .ok (.aload_n 0, 1) := by decide +kernel
theorem dX7_goesDeeper_1 : decode cX7_goesDeeper 1 = .ok (.getfield 35, 3) := by decide +kernel
theorem dX7_goesDeeper_4 : decode cX7_goesDeeper 4 = .ok (.iload_n 1, 1) := by decide +kernel
theorem dX7_goesDeeper_5 : decode cX7_goesDeeper 5 = .ok (.iconst 1, 1) := by decide +kernel
theorem dX7_goesDeeper_6 : decode cX7_goesDeeper 6 = .ok (.iadd, 1) := by decide +kernel
theorem dX7_goesDeeper_7 : decode cX7_goesDeeper 7 = .ok (.iconst (-1), 1) := by decide +kernel
theorem dX7_goesDeeper_8 : decode cX7_goesDeeper 8 = .ok (.iastore, 1) := by decide +kernel
theorem dX7_goesDeeper_9 : decode cX7_goesDeeper 9 = .ok (.aload_n 0, 1) := by decide +kernel
theorem dX7_goesDeeper_10 : decode cX7_goesDeeper 10 = .ok (.getfield 38, 3) := by decide +kernel
theorem dX7_goesDeeper_13 : decode cX7_goesDeeper 13 = .ok (.iload_n 1, 1) := by decide +kernel
theorem dX7_goesDeeper_14 : decode cX7_goesDeeper 14 = .ok (.iconst 1, 1) := by decide +kernel
theorem dX7_goesDeeper_15 : decode cX7_goesDeeper 15 = .ok (.iadd, 1) := by decide +kernel
theorem dX7_goesDeeper_16 : decode cX7_goesDeeper 16 = .ok (.aload_n 0, 1) := by decide +kernel
theorem dX7_goesDeeper_17 : decode cX7_goesDeeper 17 = .ok (.getfield 38, 3) := by decide +kernel
theorem dX7_goesDeeper_20 : decode cX7_goesDeeper 20 = .ok (.iload_n 1, 1) := by decide +kernel
theorem dX7_goesDeeper_21 : decode cX7_goesDeeper 21 = .ok (.iaload, 1) := by decide +kernel
theorem dX7_goesDeeper_22 : decode cX7_goesDeeper 22 = .ok (.iconst 1, 1) := by decide +kernel
theorem dX7_goesDeeper_23 : decode cX7_goesDeeper 23 = .ok (.aload_n 0, 1) := by decide +kernel
theorem dX7_goesDeeper_24 : decode cX7_goesDeeper 24 = .ok (.iload_n 2, 1) := by decide +kernel
theorem dX7_goesDeeper_25 : decode cX7_goesDeeper 25 = .ok (.iconst 0, 1) := by decide +kernel
theorem dX7_goesDeeper_26 : decode cX7_goesDeeper 26 = .ok (.invokevirtual 56, 3) := by decide +kernel
theorem dX7_goesDeeper_29 : decode cX7_goesDeeper 29 = .ok (.ishl, 1) := by decide +kernel
theorem dX7_goesDeeper_30 : decode cX7_goesDeeper 30 = .ok (.ior, 1) := by decide +kernel
theorem dX7_goesDeeper_31 : decode cX7_goesDeeper 31 = .ok (.iconst 1, 1) := by decide +kernel
theorem dX7_goesDeeper_32 : decode cX7_goesDeeper 32 = .ok (.aload_n 0, 1) := by decide +kernel
theorem dX7_goesDeeper_33 : decode cX7_goesDeeper 33 = .ok (.iload_n 2, 1) := by decide +kernel
theorem dX7_goesDeeper_34 : decode cX7_goesDeeper 34 = .ok (.iconst 1, 1) := by decide +kernel
theorem dX7_goesDeeper_35 : decode cX7_goesDeeper 35 = .ok (.invokevirtual 56, 3) := by decide +kernel
theorem dX7_goesDeeper_38 : decode cX7_goesDeeper 38 = .ok (.ishl, 1) := by decide +kernel
theorem dX7_goesDeeper_39 : decode cX7_goesDeeper 39 = .ok (.ior, 1) := by decide +kernel
theorem dX7_goesDeeper_40 : decode cX7_goesDeeper 40 = .ok (.iastore, 1) := by decide +kernel
theorem dX7_goesDeeper_41 : decode cX7_goesDeeper 41 = .ok (.aload_n 0, 1) := by decide +kernel
theorem dX7_goesDeeper_42 : decode cX7_goesDeeper 42 = .ok (.getfield 41, 3) := by decide +kernel
theorem dX7_goesDeeper_45 : decode cX7_goesDeeper 45 = .ok (.iload_n 1, 1) := by decide +kernel
theorem dX7_goesDeeper_46 : decode cX7_goesDeeper 46 = .ok (.iconst 1, 1) := by decide +kernel
theorem dX7_goesDeeper_47 : decode cX7_goesDeeper 47 = .ok (.iadd, 1) := by decide +kernel
theorem dX7_goesDeeper_48 : decode cX7_goesDeeper 48 = .ok (.aload_n 0, 1) := by decide +kernel
theorem dX7_goesDeeper_49 : decode cX7_goesDeeper 49 = .ok (.getfield 41, 3) := by decide +kernel
theorem dX7_goesDeeper_52 : decode cX7_goesDeeper 52 = .ok (.iload_n 1, 1) := by decide +kernel
theorem dX7_goesDeeper_53 : decode cX7_goesDeeper 53 = .ok (.iaload, 1) := by decide +kernel
theorem dX7_goesDeeper_54 : decode cX7_goesDeeper 54 = .ok (.iconst 1, 1) := by decide +kernel
theorem dX7_goesDeeper_55 : decode cX7_goesDeeper 55 = .ok (.iload_n 2, 1) := by decide +kernel
theorem dX7_goesDeeper_56 : decode cX7_goesDeeper 56 = .ok (.ishl, 1) := by decide +kernel
theorem dX7_goesDeeper_57 : decode cX7_goesDeeper 57 = .ok (.ior, 1) := by decide +kernel
theorem dX7_goesDeeper_58 : decode cX7_goesDeeper 58 = .ok (.iastore, 1) := by decide +kernel
theorem dX7_goesDeeper_59 : decode cX7_goesDeeper 59 = .ok (.iload_n 1, 1) := by decide +kernel
theorem dX7_goesDeeper_60 : decode cX7_goesDeeper 60 = .ok (.iconst 1, 1) := by decide +kernel
theorem dX7_goesDeeper_61 : decode cX7_goesDeeper 61 = .ok (.iadd, 1) := by decide +kernel
theorem dX7_goesDeeper_62 : decode cX7_goesDeeper 62 = .ok (.ireturn, 1) := by decide +kernel
set_option maxRecDepth 20000 in
theorem ggX7_coversWith_X7_findCovers : GoodIn wsX7_coversWith wsX7_findCovers := goodIn_r _ [7, 8, 1, 9, 10, 11, 12, 13, 14, 6, 15, 2, 16, 17, 18, 19, 20, 21, 22, 23, 24, 25, 26, 27, 28, 29, 30, 31, 32, 33, 34, 35, 36, 37, 38, 39, 40, 41, 42, 43, 44, 45, 46, 47, 48, 49, 50, 51, 52, 53, 54, 55, 56, 57, 58, 59, 60, 61] (by decide +kernel) (by decide +kernel)
set_option maxRecDepth 20000 in
theorem gX7_coversWith_X7_findCovers : GoodIn wsX7_coversWith (wsV RX7 251 RX7 yX7_findCovers wsX7_findCovers) := goodIn_app (goodIn_of _ (by decide +kernel)) ggX7_coversWith_X7_findCovers
set_option maxRecDepth 20000 in
theorem ggX7_coversWith_X7_has : GoodIn wsX7_coversWith wsX7_has := goodIn_r _ [21] (by decide +kernel) (by decide +kernel)
set_option maxRecDepth 20000 in
theorem gX7_coversWith_X7_has : GoodIn wsX7_coversWith (va_wsS RX7 44 yX7_has wsX7_has) := goodIn_app (goodIn_of _ (by decide +kernel)) ggX7_coversWith_X7_has
theorem dX7_coversWith_0 : decode cX7_coversWith 0 = .ok (.aload_n 0, 1) := by decide +kernel
theorem dX7_coversWith_1 : decode cX7_coversWith 1 = .ok (.invokevirtual 251, 3) := by decide +kernel
theorem dX7_coversWith_4 : decode cX7_coversWith 4 = .ok (.iconst 0, 1) := by decide +kernel
theorem dX7_coversWith_5 : decode cX7_coversWith 5 = .ok (.istore_n 2, 1) := by decide +kernel
theorem dX7_coversWith_6 : decode cX7_coversWith 6 = .ok (.iconst 0, 1) := by decide +kernel
theorem dX7_coversWith_7 : decode cX7_coversWith 7 = .ok (.istore_n 3, 1) := by decide +kernel
theorem dX7_coversWith_8 : decode cX7_coversWith 8 = .ok (.iload_n 3, 1) := by decide +kernel
theorem dX7_coversWith_9 : decode cX7_coversWith 9 = .ok (.aload_n 0, 1) := by decide +kernel
theorem dX7_coversWith_10 : decode cX7_coversWith 10 = .ok (.getfield 238, 3) := by decide +kernel
theorem dX7_coversWith_13 : decode cX7_coversWith 13 = .ok (.if_icmp .ge 30, 3) := by decide +kernel
theorem dX7_coversWith_16 : decode cX7_coversWith 16 = .ok (.iload_n 2, 1) := by decide +kernel
theorem dX7_coversWith_17 : decode cX7_coversWith 17 = .ok (.aload_n 0, 1) := by decide +kernel
theorem dX7_coversWith_18 : decode cX7_coversWith 18 = .ok (.getfield 32, 3) := by decide +kernel
theorem dX7_coversWith_21 : decode cX7_coversWith 21 = .ok (.iload_n 3, 1) := by decide +kernel
theorem dX7_coversWith_22 : decode cX7_coversWith 22 = .ok (.iaload, 1) := by decide +kernel
theorem dX7_coversWith_23 : decode cX7_coversWith 23 = .ok (.iload_n 1, 1) := by decide +kernel
theorem dX7_coversWith_24 : decode cX7_coversWith 24 = .ok (.invokestatic 44, 3) := by decide +kernel
theorem dX7_coversWith_27 : decode cX7_coversWith 27 = .ok (.ifCond .eq 7, 3) := by decide +kernel
theorem dX7_coversWith_30 : decode cX7_coversWith 30 = .ok (.iconst 1, 1) := by decide +kernel
theorem dX7_coversWith_31 : decode cX7_coversWith 31 = .ok (.goto 4, 3) := by decide +kernel
theorem dX7_coversWith_34 : decode cX7_coversWith 34 = .ok (.iconst 0, 1) := by decide +kernel
theorem dX7_coversWith_35 : decode cX7_coversWith 35 = .ok (.iadd, 1) := by decide +kernel
theorem dX7_coversWith_36 : decode cX7_coversWith 36 = .ok (.istore_n 2, 1) := by decide +kernel
theorem dX7_coversWith_37 : decode cX7_coversWith 37 = .ok (.iinc 3 1, 3) := by decide +kernel
theorem dX7_coversWith_40 : decode cX7_coversWith 40 = .ok (.goto (-32), 3) := by decide +kernel
theorem dX7_coversWith_43 : decode cX7_coversWith 43 = .ok (.iload_n 2, 1) := by decide +kernel
theorem dX7_coversWith_44 : decode cX7_coversWith 44 = .ok (.ireturn, 1) := by decide +kernel
set_option maxRecDepth 20000 in
theorem ggX7_cover_X7_findCovers : GoodIn wsX7_cover wsX7_findCovers := goodIn_r _ [7, 8, 1, 9, 10, 11, 12, 13, 14, 6, 15, 2, 16, 17, 18, 19, 20, 21, 22, 23, 24, 25, 26, 27, 28, 29, 30, 31, 32, 33, 34, 35, 36, 37, 38, 39, 40, 41, 42, 43, 44, 45, 46, 47, 48, 49, 50, 51, 52, 53, 54, 55, 56, 57, 58, 59, 60, 61] (by decide +kernel) (by decide +kernel)
set_option maxRecDepth 20000 in
theorem gX7_cover_X7_findCovers : GoodIn wsX7_cover (wsV RX7 251 RX7 yX7_findCovers wsX7_findCovers) := goodIn_app (goodIn_of _ (by decide +kernel)) ggX7_cover_X7_findCovers
theorem dX7_cover_0 : decode cX7_cover 0 = .ok (.iload_n 1, 1) := by decide +kernel
theorem dX7_cover_1 : decode cX7_cover 1 = .ok (.ifCond .ge 6, 3) := by decide +kernel
theorem dX7_cover_4 : decode cX7_cover 4 = .ok (.bipush (-2), 2) := by decide +kernel
theorem dX7_cover_6 : decode cX7_cover 6 = .ok (.ireturn, 1) := by decide +kernel
theorem dX7_cover_7 : decode cX7_cover 7 = .ok (.aload_n 0, 1) := by decide +kernel
theorem dX7_cover_8 : decode cX7_cover 8 = .ok (.invokevirtual 251, 3) := by decide +kernel
theorem dX7_cover_11 : decode cX7_cover 11 = .ok (.iload_n 1, 1) := by decide +kernel
theorem dX7_cover_12 : decode cX7_cover 12 = .ok (.aload_n 0, 1) := by decide +kernel
theorem dX7_cover_13 : decode cX7_cover 13 = .ok (.getfield 238, 3) := by decide +kernel
theorem dX7_cover_16 : decode cX7_cover 16 = .ok (.if_icmp .ge 12, 3) := by decide +kernel
theorem dX7_cover_19 : decode cX7_cover 19 = .ok (.aload_n 0, 1) := by decide +kernel
theorem dX7_cover_20 : decode cX7_cover 20 = .ok (.getfield 32, 3) := by decide +kernel
theorem dX7_cover_23 : decode cX7_cover 23 = .ok (.iload_n 1, 1) := by decide +kernel
theorem dX7_cover_24 : decode cX7_cover 24 = .ok (.iaload, 1) := by decide +kernel
theorem dX7_cover_25 : decode cX7_cover 25 = .ok (.goto 5, 3) := by decide +kernel
theorem dX7_cover_28 : decode cX7_cover 28 = .ok (.bipush (-5), 2) := by decide +kernel
theorem dX7_cover_30 : decode cX7_cover 30 = .ok (.ireturn, 1) := by decide +kernel
set_option maxRecDepth 20000 in
theorem ggX7_circleOf_X7_has : GoodIn wsX7_circleOf wsX7_has := goodIn_r _ [5] (by decide +kernel) (by decide +kernel)
set_option maxRecDepth 20000 in
theorem gX7_circleOf_X7_has : GoodIn wsX7_circleOf (va_wsS RX7 44 yX7_has wsX7_has) := goodIn_app (goodIn_of _ (by decide +kernel)) ggX7_circleOf_X7_has
set_option maxRecDepth 20000 in
theorem ggX7_circleOf_X7_of : GoodIn wsX7_circleOf wsX7_of := goodIn_r _ [9, 1, 10, 11, 12, 13, 14, 15, 16, 17, 18, 19, 20, 21, 22, 23, 24, 25, 26, 27, 28, 29] (by decide +kernel) (by decide +kernel)
set_option maxRecDepth 20000 in
theorem gX7_circleOf_X7_of : GoodIn wsX7_circleOf (wsV RX7 56 RX7 yX7_of wsX7_of) := goodIn_app (goodIn_of _ (by decide +kernel)) ggX7_circleOf_X7_of
theorem dX7_circleOf_0 : decode cX7_circleOf 0 = .ok (.iconst 0, 1) := by decide +kernel
theorem dX7_circleOf_1 : decode cX7_circleOf 1 = .ok (.istore_n 3, 1) := by decide +kernel
theorem dX7_circleOf_2 : decode cX7_circleOf 2 = .ok (.iconst 1, 1) := by decide +kernel
theorem dX7_circleOf_3 : decode cX7_circleOf 3 = .ok (.iload_n 1, 1) := by decide +kernel
theorem dX7_circleOf_4 : decode cX7_circleOf 4 = .ok (.ishl, 1) := by decide +kernel
theorem dX7_circleOf_5 : decode cX7_circleOf 5 = .ok (.istore 4, 2) := by decide +kernel
theorem dX7_circleOf_7 : decode cX7_circleOf 7 = .ok (.iload 4, 2) := by decide +kernel
theorem dX7_circleOf_9 : decode cX7_circleOf 9 = .ok (.iload_n 3, 1) := by decide +kernel
theorem dX7_circleOf_10 : decode cX7_circleOf 10 = .ok (.if_icmp .eq 108, 3) := by decide +kernel
theorem dX7_circleOf_13 : decode cX7_circleOf 13 = .ok (.iload 4, 2) := by decide +kernel
theorem dX7_circleOf_15 : decode cX7_circleOf 15 = .ok (.istore_n 3, 1) := by decide +kernel
theorem dX7_circleOf_16 : decode cX7_circleOf 16 = .ok (.iconst 0, 1) := by decide +kernel
theorem dX7_circleOf_17 : decode cX7_circleOf 17 = .ok (.istore 5, 2) := by decide +kernel
theorem dX7_circleOf_19 : decode cX7_circleOf 19 = .ok (.iload 5, 2) := by decide +kernel
theorem dX7_circleOf_21 : decode cX7_circleOf 21 = .ok (.aload_n 0, 1) := by decide +kernel
theorem dX7_circleOf_22 : decode cX7_circleOf 22 = .ok (.getfield 7, 3) := by decide +kernel
theorem dX7_circleOf_25 : decode cX7_circleOf 25 = .ok (.iconst 1, 1) := by decide +kernel
theorem dX7_circleOf_26 : decode cX7_circleOf 26 = .ok (.iaload, 1) := by decide +kernel
theorem dX7_circleOf_27 : decode cX7_circleOf 27 = .ok (.if_icmp .ge 88, 3) := by decide +kernel
theorem dX7_circleOf_30 : decode cX7_circleOf 30 = .ok (.iload_n 2, 1) := by decide +kernel
theorem dX7_circleOf_31 : decode cX7_circleOf 31 = .ok (.iload 5, 2) := by decide +kernel
theorem dX7_circleOf_33 : decode cX7_circleOf 33 = .ok (.invokestatic 44, 3) := by decide +kernel
theorem dX7_circleOf_36 : decode cX7_circleOf 36 = .ok (.ifCond .ne 37, 3) := by decide +kernel
theorem dX7_circleOf_39 : decode cX7_circleOf 39 = .ok (.iload 4, 2) := by decide +kernel
theorem dX7_circleOf_41 : decode cX7_circleOf 41 = .ok (.aload_n 0, 1) := by decide +kernel
theorem dX7_circleOf_42 : decode cX7_circleOf 42 = .ok (.iload 5, 2) := by decide +kernel
theorem dX7_circleOf_44 : decode cX7_circleOf 44 = .ok (.iconst 0, 1) := by decide +kernel
theorem dX7_circleOf_45 : decode cX7_circleOf 45 = .ok (.invokevirtual 56, 3) := by decide +kernel
theorem dX7_circleOf_48 : decode cX7_circleOf 48 = .ok (.invokestatic 44, 3) := by decide +kernel
theorem dX7_circleOf_51 : decode cX7_circleOf 51 = .ok (.ifCond .ne 18, 3) := by decide +kernel
theorem dX7_circleOf_54 : decode cX7_circleOf 54 = .ok (.iload 4, 2) := by decide +kernel
theorem dX7_circleOf_56 : decode cX7_circleOf 56 = .ok (.aload_n 0, 1) := by decide +kernel
theorem dX7_circleOf_57 : decode cX7_circleOf 57 = .ok (.iload 5, 2) := by decide +kernel
theorem dX7_circleOf_59 : decode cX7_circleOf 59 = .ok (.iconst 1, 1) := by decide +kernel
theorem dX7_circleOf_60 : decode cX7_circleOf 60 = .ok (.invokevirtual 56, 3) := by decide +kernel
theorem dX7_circleOf_63 : decode cX7_circleOf 63 = .ok (.invokestatic 44, 3) := by decide +kernel
theorem dX7_circleOf_66 : decode cX7_circleOf 66 = .ok (.ifCond .eq 7, 3) := by decide +kernel
theorem dX7_circleOf_69 : decode cX7_circleOf 69 = .ok (.iconst 1, 1) := by decide +kernel
theorem dX7_circleOf_70 : decode cX7_circleOf 70 = .ok (.goto 4, 3) := by decide +kernel
theorem dX7_circleOf_73 : decode cX7_circleOf 73 = .ok (.iconst 0, 1) := by decide +kernel
theorem dX7_circleOf_74 : decode cX7_circleOf 74 = .ok (.istore 6, 2) := by decide +kernel
theorem dX7_circleOf_76 : decode cX7_circleOf 76 = .ok (.iload 4, 2) := by decide +kernel
theorem dX7_circleOf_78 : decode cX7_circleOf 78 = .ok (.iload 6, 2) := by decide +kernel
theorem dX7_circleOf_80 : decode cX7_circleOf 80 = .ok (.ifCond .eq 25, 3) := by decide +kernel
theorem dX7_circleOf_83 : decode cX7_circleOf 83 = .ok (.iconst 1, 1) := by decide +kernel
theorem dX7_circleOf_84 : decode cX7_circleOf 84 = .ok (.aload_n 0, 1) := by decide +kernel
theorem dX7_circleOf_85 : decode cX7_circleOf 85 = .ok (.iload 5, 2) := by decide +kernel
theorem dX7_circleOf_87 : decode cX7_circleOf 87 = .ok (.iconst 0, 1) := by decide +kernel
theorem dX7_circleOf_88 : decode cX7_circleOf 88 = .ok (.invokevirtual 56, 3) := by decide +kernel
theorem dX7_circleOf_91 : decode cX7_circleOf 91 = .ok (.ishl, 1) := by decide +kernel
theorem dX7_circleOf_92 : decode cX7_circleOf 92 = .ok (.iconst 1, 1) := by decide +kernel
theorem dX7_circleOf_93 : decode cX7_circleOf 93 = .ok (.aload_n 0, 1) := by decide +kernel
theorem dX7_circleOf_94 : decode cX7_circleOf 94 = .ok (.iload 5, 2) := by decide +kernel
theorem dX7_circleOf_96 : decode cX7_circleOf 96 = .ok (.iconst 1, 1) := by decide +kernel
theorem dX7_circleOf_97 : decode cX7_circleOf 97 = .ok (.invokevirtual 56, 3) := by decide +kernel
theorem dX7_circleOf_100 : decode cX7_circleOf 100 = .ok (.ishl, 1) := by decide +kernel
theorem dX7_circleOf_101 : decode cX7_circleOf 101 = .ok (.ior, 1) := by decide +kernel
theorem dX7_circleOf_102 : decode cX7_circleOf 102 = .ok (.goto 4, 3) := by decide +kernel
theorem dX7_circleOf_105 : decode cX7_circleOf 105 = .ok (.iconst 0, 1) := by decide +kernel
theorem dX7_circleOf_106 : decode cX7_circleOf 106 = .ok (.ior, 1) := by decide +kernel
theorem dX7_circleOf_107 : decode cX7_circleOf 107 = .ok (.istore 4, 2) := by decide +kernel
theorem dX7_circleOf_109 : decode cX7_circleOf 109 = .ok (.iinc 5 1, 3) := by decide +kernel
theorem dX7_circleOf_112 : decode cX7_circleOf 112 = .ok (.goto (-93), 3) := by decide +kernel
theorem dX7_circleOf_115 : decode cX7_circleOf 115 = .ok (.goto (-108), 3) := by decide +kernel
theorem dX7_circleOf_118 : decode cX7_circleOf 118 = .ok (.iload_n 3, 1) := by decide +kernel
theorem dX7_circleOf_119 : decode cX7_circleOf 119 = .ok (.ireturn, 1) := by decide +kernel
set_option maxRecDepth 20000 in
theorem ggX7_findCircles_X7_has : GoodIn wsX7_findCircles wsX7_has := goodIn_r _ [8] (by decide +kernel) (by decide +kernel)
set_option maxRecDepth 20000 in
theorem gX7_findCircles_X7_has : GoodIn wsX7_findCircles (va_wsS RX7 44 yX7_has wsX7_has) := goodIn_app (goodIn_of _ (by decide +kernel)) ggX7_findCircles_X7_has
set_option maxRecDepth 20000 in
theorem ggX7_findCircles_X7_circleOf : GoodIn wsX7_findCircles wsX7_circleOf := goodIn_r _ [12, 4, 5, 6, 7, 8, 13, 14, 15, 16, 20, 21, 22, 23, 24, 25, 26, 27, 28, 29, 30, 31, 32, 33, 34, 35, 36, 37, 38, 39] (by decide +kernel) (by decide +kernel)
set_option maxRecDepth 20000 in
theorem gX7_findCircles_X7_circleOf : GoodIn wsX7_findCircles (wsV RX7 263 RX7 yX7_circleOf wsX7_circleOf) := goodIn_app (goodIn_of _ (by decide +kernel)) ggX7_findCircles_X7_circleOf
set_option maxRecDepth 20000 in
theorem ggX7_findCircles_X7_ones : GoodIn wsX7_findCircles wsX7_ones := goodIn_r _ [19] (by decide +kernel) (by decide +kernel)
set_option maxRecDepth 20000 in
theorem gX7_findCircles_X7_ones : GoodIn wsX7_findCircles (va_wsS RX7 67 yX7_ones wsX7_ones) := goodIn_app (goodIn_of _ (by decide +kernel)) ggX7_findCircles_X7_ones
theorem dX7_findCircles_0 : decode cX7_findCircles 0 = .ok (.aload_n 0, 1) := by decide +kernel
theorem dX7_findCircles_1 : decode cX7_findCircles 1 = .ok (.iconst 0, 1) := by decide +kernel
theorem dX7_findCircles_2 : decode cX7_findCircles 2 = .ok (.putfield 254, 3) := by decide +kernel
theorem dX7_findCircles_5 : decode cX7_findCircles 5 = .ok (.aload_n 0, 1) := by decide +kernel
theorem dX7_findCircles_6 : decode cX7_findCircles 6 = .ok (.iconst 0, 1) := by decide +kernel
theorem dX7_findCircles_7 : decode cX7_findCircles 7 = .ok (.putfield 257, 3) := by decide +kernel
theorem dX7_findCircles_10 : decode cX7_findCircles 10 = .ok (.aload_n 0, 1) := by decide +kernel
theorem dX7_findCircles_11 : decode cX7_findCircles 11 = .ok (.iconst 0, 1) := by decide +kernel
theorem dX7_findCircles_12 : decode cX7_findCircles 12 = .ok (.putfield 260, 3) := by decide +kernel
theorem dX7_findCircles_15 : decode cX7_findCircles 15 = .ok (.iconst 0, 1) := by decide +kernel
theorem dX7_findCircles_16 : decode cX7_findCircles 16 = .ok (.istore_n 2, 1) := by decide +kernel
theorem dX7_findCircles_17 : decode cX7_findCircles 17 = .ok (.iconst 0, 1) := by decide +kernel
theorem dX7_findCircles_18 : decode cX7_findCircles 18 = .ok (.istore_n 3, 1) := by decide +kernel
theorem dX7_findCircles_19 : decode cX7_findCircles 19 = .ok (.iload_n 3, 1) := by decide +kernel
theorem dX7_findCircles_20 : decode cX7_findCircles 20 = .ok (.aload_n 0, 1) := by decide +kernel
theorem dX7_findCircles_21 : decode cX7_findCircles 21 = .ok (.getfield 7, 3) := by decide +kernel
theorem dX7_findCircles_24 : decode cX7_findCircles 24 = .ok (.iconst 0, 1) := by decide +kernel
theorem dX7_findCircles_25 : decode cX7_findCircles 25 = .ok (.iaload, 1) := by decide +kernel
theorem dX7_findCircles_26 : decode cX7_findCircles 26 = .ok (.if_icmp .ge 84, 3) := by decide +kernel
theorem dX7_findCircles_29 : decode cX7_findCircles 29 = .ok (.iload_n 2, 1) := by decide +kernel
theorem dX7_findCircles_30 : decode cX7_findCircles 30 = .ok (.iload_n 3, 1) := by decide +kernel
theorem dX7_findCircles_31 : decode cX7_findCircles 31 = .ok (.invokestatic 44, 3) := by decide +kernel
theorem dX7_findCircles_34 : decode cX7_findCircles 34 = .ok (.ifCond .ne 70, 3) := by decide +kernel
theorem dX7_findCircles_37 : decode cX7_findCircles 37 = .ok (.aload_n 0, 1) := by decide +kernel
theorem dX7_findCircles_38 : decode cX7_findCircles 38 = .ok (.iload_n 3, 1) := by decide +kernel
theorem dX7_findCircles_39 : decode cX7_findCircles 39 = .ok (.iload_n 1, 1) := by decide +kernel
theorem dX7_findCircles_40 : decode cX7_findCircles 40 = .ok (.invokevirtual 263, 3) := by decide +kernel
theorem dX7_findCircles_43 : decode cX7_findCircles 43 = .ok (.istore 4, 2) := by decide +kernel
theorem dX7_findCircles_45 : decode cX7_findCircles 45 = .ok (.iload_n 2, 1) := by decide +kernel
theorem dX7_findCircles_46 : decode cX7_findCircles 46 = .ok (.iload 4, 2) := by decide +kernel
theorem dX7_findCircles_48 : decode cX7_findCircles 48 = .ok (.ior, 1) := by decide +kernel
theorem dX7_findCircles_49 : decode cX7_findCircles 49 = .ok (.istore_n 2, 1) := by decide +kernel
theorem dX7_findCircles_50 : decode cX7_findCircles 50 = .ok (.aload_n 0, 1) := by decide +kernel
theorem dX7_findCircles_51 : decode cX7_findCircles 51 = .ok (.dup, 1) := by decide +kernel
theorem dX7_findCircles_52 : decode cX7_findCircles 52 = .ok (.getfield 254, 3) := by decide +kernel
theorem dX7_findCircles_55 : decode cX7_findCircles 55 = .ok (.iconst 1, 1) := by decide +kernel
theorem dX7_findCircles_56 : decode cX7_findCircles 56 = .ok (.iadd, 1) := by decide +kernel
theorem dX7_findCircles_57 : decode cX7_findCircles 57 = .ok (.putfield 254, 3) := by decide +kernel
theorem dX7_findCircles_60 : decode cX7_findCircles 60 = .ok (.aload_n 0, 1) := by decide +kernel
theorem dX7_findCircles_61 : decode cX7_findCircles 61 = .ok (.dup, 1) := by decide +kernel
theorem dX7_findCircles_62 : decode cX7_findCircles 62 = .ok (.getfield 257, 3) := by decide +kernel
theorem dX7_findCircles_65 : decode cX7_findCircles 65 = .ok (.iload 4, 2) := by decide +kernel
theorem dX7_findCircles_67 : decode cX7_findCircles 67 = .ok (.invokestatic 67, 3) := by decide +kernel
theorem dX7_findCircles_70 : decode cX7_findCircles 70 = .ok (.iconst 2, 1) := by decide +kernel
theorem dX7_findCircles_71 : decode cX7_findCircles 71 = .ok (.irem, 1) := by decide +kernel
theorem dX7_findCircles_72 : decode cX7_findCircles 72 = .ok (.iadd, 1) := by decide +kernel
theorem dX7_findCircles_73 : decode cX7_findCircles 73 = .ok (.putfield 257, 3) := by decide +kernel
theorem dX7_findCircles_76 : decode cX7_findCircles 76 = .ok (.aload_n 0, 1) := by decide +kernel
theorem dX7_findCircles_77 : decode cX7_findCircles 77 = .ok (.iload 4, 2) := by decide +kernel
theorem dX7_findCircles_79 : decode cX7_findCircles 79 = .ok (.invokestatic 67, 3) := by decide +kernel
theorem dX7_findCircles_82 : decode cX7_findCircles 82 = .ok (.aload_n 0, 1) := by decide +kernel
theorem dX7_findCircles_83 : decode cX7_findCircles 83 = .ok (.getfield 260, 3) := by decide +kernel
theorem dX7_findCircles_86 : decode cX7_findCircles 86 = .ok (.if_icmp .le 11, 3) := by decide +kernel
theorem dX7_findCircles_89 : decode cX7_findCircles 89 = .ok (.iload 4, 2) := by decide +kernel
theorem dX7_findCircles_91 : decode cX7_findCircles 91 = .ok (.invokestatic 67, 3) := by decide +kernel
theorem dX7_findCircles_94 : decode cX7_findCircles 94 = .ok (.goto 7, 3) := by decide +kernel
theorem dX7_findCircles_97 : decode cX7_findCircles 97 = .ok (.aload_n 0, 1) := by decide +kernel
theorem dX7_findCircles_98 : decode cX7_findCircles 98 = .ok (.getfield 260, 3) := by decide +kernel
theorem dX7_findCircles_101 : decode cX7_findCircles 101 = .ok (.putfield 260, 3) := by decide +kernel
theorem dX7_findCircles_104 : decode cX7_findCircles 104 = .ok (.iinc 3 1, 3) := by decide +kernel
theorem dX7_findCircles_107 : decode cX7_findCircles 107 = .ok (.goto (-88), 3) := by decide +kernel
theorem dX7_findCircles_110 : decode cX7_findCircles 110 = .ok (.return_, 1) := by decide +kernel
set_option maxRecDepth 20000 in
theorem ggX7_circles_X7_isFullNet : GoodIn wsX7_circles wsX7_isFullNet := goodIn_r _ [10, 11, 12, 13, 14, 9, 15, 16, 17, 18, 19, 20, 21, 22, 23, 24, 25, 26, 27, 28, 29, 30, 71, 72, 73, 74, 75, 76, 77, 78, 79, 80, 81, 82, 83, 84, 85, 86, 87, 88, 89, 90] (by decide +kernel) (by decide +kernel)
set_option maxRecDepth 20000 in
theorem gX7_circles_X7_isFullNet : GoodIn wsX7_circles (wsV RX7 266 RX7 yX7_isFullNet wsX7_isFullNet) := goodIn_app (goodIn_of _ (by decide +kernel)) ggX7_circles_X7_isFullNet
set_option maxRecDepth 20000 in
theorem ggX7_circles_X7_in : GoodIn wsX7_circles wsX7_in := goodIn_r _ [33] (by decide +kernel) (by decide +kernel)
set_option maxRecDepth 20000 in
theorem gX7_circles_X7_in : GoodIn wsX7_circles (va_wsS RX7 52 yX7_in wsX7_in) := goodIn_app (goodIn_of _ (by decide +kernel)) ggX7_circles_X7_in
set_option maxRecDepth 20000 in
theorem ggX7_circles_X7_findCovers : GoodIn wsX7_circles wsX7_findCovers := goodIn_r _ [37, 11, 1, 38, 39, 40, 41, 42, 43, 9, 44, 2, 45, 46, 47, 48, 49, 50, 51, 52, 53, 54, 20, 21, 22, 23, 24, 25, 26, 27, 55, 56, 57, 58, 59, 60, 61, 62, 71, 72, 73, 74, 75, 76, 77, 78, 79, 80, 81, 82, 83, 84, 85, 86, 87, 88, 89, 90] (by decide +kernel) (by decide +kernel)
set_option maxRecDepth 20000 in
theorem gX7_circles_X7_findCovers : GoodIn wsX7_circles (wsV RX7 251 RX7 yX7_findCovers wsX7_findCovers) := goodIn_app (goodIn_of _ (by decide +kernel)) ggX7_circles_X7_findCovers
set_option maxRecDepth 20000 in
theorem ggX7_circles_X7_findCircles : GoodIn wsX7_circles wsX7_findCircles := goodIn_r _ [66, 3, 4, 5, 11, 48, 49, 9, 50, 67, 68, 69, 70, 24, 25, 26, 27, 28, 29, 30, 71, 72, 73, 74, 75, 76, 77, 78, 79, 80, 81, 82, 83, 84, 85, 86, 87, 88, 89, 90] (by decide +kernel) (by decide +kernel)
set_option maxRecDepth 20000 in
theorem gX7_circles_X7_findCircles : GoodIn wsX7_circles (wsV RX7 269 RX7 yX7_findCircles wsX7_findCircles) := goodIn_app (goodIn_of _ (by decide +kernel)) ggX7_circles_X7_findCircles
theorem dX7_circles_0 : decode cX7_circles 0 = .ok (.aload_n 0, 1) := by decide +kernel
theorem dX7_circles_1 : decode cX7_circles 1 = .ok (.invokevirtual 266, 3) := by decide +kernel
theorem dX7_circles_4 : decode cX7_circles 4 = .ok (.ifCond .ne 6, 3) := by decide +kernel
theorem dX7_circles_7 : decode cX7_circles 7 = .ok (.bipush (-4), 2) := by decide +kernel
theorem dX7_circles_9 : decode cX7_circles 9 = .ok (.ireturn, 1) := by decide +kernel
theorem dX7_circles_10 : decode cX7_circles 10 = .ok (.iload_n 1, 1) := by decide +kernel
theorem dX7_circles_11 : decode cX7_circles 11 = .ok (.ifCond .lt 12, 3) := by decide +kernel
theorem dX7_circles_14 : decode cX7_circles 14 = .ok (.iload_n 2, 1) := by decide +kernel
theorem dX7_circles_15 : decode cX7_circles 15 = .ok (.iconst 0, 1) := by decide +kernel
theorem dX7_circles_16 : decode cX7_circles 16 = .ok (.iconst 2, 1) := by decide +kernel
theorem dX7_circles_17 : decode cX7_circles 17 = .ok (.invokestatic 52, 3) := by decide +kernel
theorem dX7_circles_20 : decode cX7_circles 20 = .ok (.ifCond .ne 6, 3) := by decide +kernel
theorem dX7_circles_23 : decode cX7_circles 23 = .ok (.bipush (-2), 2) := by decide +kernel
theorem dX7_circles_25 : decode cX7_circles 25 = .ok (.ireturn, 1) := by decide +kernel
theorem dX7_circles_26 : decode cX7_circles 26 = .ok (.aload_n 0, 1) := by decide +kernel
theorem dX7_circles_27 : decode cX7_circles 27 = .ok (.invokevirtual 251, 3) := by decide +kernel
theorem dX7_circles_30 : decode cX7_circles 30 = .ok (.iload_n 1, 1) := by decide +kernel
theorem dX7_circles_31 : decode cX7_circles 31 = .ok (.aload_n 0, 1) := by decide +kernel
theorem dX7_circles_32 : decode cX7_circles 32 = .ok (.getfield 238, 3) := by decide +kernel
theorem dX7_circles_35 : decode cX7_circles 35 = .ok (.if_icmp .lt 6, 3) := by decide +kernel
theorem dX7_circles_38 : decode cX7_circles 38 = .ok (.bipush (-5), 2) := by decide +kernel
theorem dX7_circles_40 : decode cX7_circles 40 = .ok (.ireturn, 1) := by decide +kernel
theorem dX7_circles_41 : decode cX7_circles 41 = .ok (.aload_n 0, 1) := by decide +kernel
theorem dX7_circles_42 : decode cX7_circles 42 = .ok (.aload_n 0, 1) := by decide +kernel
theorem dX7_circles_43 : decode cX7_circles 43 = .ok (.getfield 32, 3) := by decide +kernel
theorem dX7_circles_46 : decode cX7_circles 46 = .ok (.iload_n 1, 1) := by decide +kernel
theorem dX7_circles_47 : decode cX7_circles 47 = .ok (.iaload, 1) := by decide +kernel
theorem dX7_circles_48 : decode cX7_circles 48 = .ok (.invokevirtual 269, 3) := by decide +kernel
theorem dX7_circles_51 : decode cX7_circles 51 = .ok (.iload_n 2, 1) := by decide +kernel
theorem dX7_circles_52 : decode cX7_circles 52 = .ok (.ifCond .ne 10, 3) := by decide +kernel
theorem dX7_circles_55 : decode cX7_circles 55 = .ok (.aload_n 0, 1) := by decide +kernel
theorem dX7_circles_56 : decode cX7_circles 56 = .ok (.getfield 254, 3) := by decide +kernel
theorem dX7_circles_59 : decode cX7_circles 59 = .ok (.goto 19, 3) := by decide +kernel
theorem dX7_circles_62 : decode cX7_circles 62 = .ok (.iload_n 2, 1) := by decide +kernel
theorem dX7_circles_63 : decode cX7_circles 63 = .ok (.iconst 1, 1) := by decide +kernel
theorem dX7_circles_64 : decode cX7_circles 64 = .ok (.if_icmp .ne 10, 3) := by decide +kernel
theorem dX7_circles_67 : decode cX7_circles 67 = .ok (.aload_n 0, 1) := by decide +kernel
theorem dX7_circles_68 : decode cX7_circles 68 = .ok (.getfield 257, 3) := by decide +kernel
theorem dX7_circles_71 : decode cX7_circles 71 = .ok (.goto 7, 3) := by decide +kernel
theorem dX7_circles_74 : decode cX7_circles 74 = .ok (.aload_n 0, 1) := by decide +kernel
theorem dX7_circles_75 : decode cX7_circles 75 = .ok (.getfield 260, 3) := by decide +kernel
theorem dX7_circles_78 : decode cX7_circles 78 = .ok (.ireturn, 1) := by decide +kernel
set_option maxRecDepth 20000 in
theorem ggX7_fewestOdd_X7_isFullNet : GoodIn wsX7_fewestOdd wsX7_isFullNet := goodIn_r _ [8, 9, 10, 11, 12, 7, 13, 14, 15, 16, 17, 18, 19, 20, 21, 22, 23, 24, 25, 26, 27, 28, 68, 69, 70, 71, 72, 73, 74, 75, 76, 77, 78, 79, 80, 81, 82, 83, 84, 85, 86, 87] (by decide +kernel) (by decide +kernel)
set_option maxRecDepth 20000 in
theorem gX7_fewestOdd_X7_isFullNet : GoodIn wsX7_fewestOdd (wsV RX7 266 RX7 yX7_isFullNet wsX7_isFullNet) := goodIn_app (goodIn_of _ (by decide +kernel)) ggX7_fewestOdd_X7_isFullNet
set_option maxRecDepth 20000 in
theorem ggX7_fewestOdd_X7_findCovers : GoodIn wsX7_fewestOdd wsX7_findCovers := goodIn_r _ [32, 9, 1, 33, 34, 35, 36, 37, 38, 7, 39, 2, 40, 41, 42, 43, 44, 45, 46, 47, 48, 49, 18, 19, 20, 21, 22, 23, 24, 25, 50, 51, 52, 53, 54, 55, 56, 57, 68, 69, 70, 71, 72, 73, 74, 75, 76, 77, 78, 79, 80, 81, 82, 83, 84, 85, 86, 87] (by decide +kernel) (by decide +kernel)
set_option maxRecDepth 20000 in
theorem gX7_fewestOdd_X7_findCovers : GoodIn wsX7_fewestOdd (wsV RX7 251 RX7 yX7_findCovers wsX7_findCovers) := goodIn_app (goodIn_of _ (by decide +kernel)) ggX7_fewestOdd_X7_findCovers
set_option maxRecDepth 20000 in
theorem ggX7_fewestOdd_X7_findCircles : GoodIn wsX7_fewestOdd wsX7_findCircles := goodIn_r _ [61, 62, 3, 63, 9, 43, 44, 7, 45, 64, 65, 66, 67, 22, 23, 24, 25, 26, 27, 28, 68, 69, 70, 71, 72, 73, 74, 75, 76, 77, 78, 79, 80, 81, 82, 83, 84, 85, 86, 87] (by decide +kernel) (by decide +kernel)
set_option maxRecDepth 20000 in
theorem gX7_fewestOdd_X7_findCircles : GoodIn wsX7_fewestOdd (wsV RX7 269 RX7 yX7_findCircles wsX7_findCircles) := goodIn_app (goodIn_of _ (by decide +kernel)) ggX7_fewestOdd_X7_findCircles
theorem dX7_fewestOdd_0 : decode cX7_fewestOdd 0 = .ok (.aload_n 0, 1) := by decide +kernel
theorem dX7_fewestOdd_1 : decode cX7_fewestOdd 1 = .ok (.invokevirtual 266, 3) := by decide +kernel
theorem dX7_fewestOdd_4 : decode cX7_fewestOdd 4 = .ok (.ifCond .ne 6, 3) := by decide +kernel
theorem dX7_fewestOdd_7 : decode cX7_fewestOdd 7 = .ok (.bipush (-4), 2) := by decide +kernel
theorem dX7_fewestOdd_9 : decode cX7_fewestOdd 9 = .ok (.ireturn, 1) := by decide +kernel
theorem dX7_fewestOdd_10 : decode cX7_fewestOdd 10 = .ok (.aload_n 0, 1) := by decide +kernel
theorem dX7_fewestOdd_11 : decode cX7_fewestOdd 11 = .ok (.invokevirtual 251, 3) := by decide +kernel
theorem dX7_fewestOdd_14 : decode cX7_fewestOdd 14 = .ok (.bipush (-5), 2) := by decide +kernel
theorem dX7_fewestOdd_16 : decode cX7_fewestOdd 16 = .ok (.istore_n 1, 1) := by decide +kernel
theorem dX7_fewestOdd_17 : decode cX7_fewestOdd 17 = .ok (.iconst 0, 1) := by decide +kernel
theorem dX7_fewestOdd_18 : decode cX7_fewestOdd 18 = .ok (.istore_n 2, 1) := by decide +kernel
theorem dX7_fewestOdd_19 : decode cX7_fewestOdd 19 = .ok (.iload_n 2, 1) := by decide +kernel
theorem dX7_fewestOdd_20 : decode cX7_fewestOdd 20 = .ok (.aload_n 0, 1) := by decide +kernel
theorem dX7_fewestOdd_21 : decode cX7_fewestOdd 21 = .ok (.getfield 238, 3) := by decide +kernel
theorem dX7_fewestOdd_24 : decode cX7_fewestOdd 24 = .ok (.if_icmp .ge 40, 3) := by decide +kernel
theorem dX7_fewestOdd_27 : decode cX7_fewestOdd 27 = .ok (.aload_n 0, 1) := by decide +kernel
theorem dX7_fewestOdd_28 : decode cX7_fewestOdd 28 = .ok (.aload_n 0, 1) := by decide +kernel
theorem dX7_fewestOdd_29 : decode cX7_fewestOdd 29 = .ok (.getfield 32, 3) := by decide +kernel
theorem dX7_fewestOdd_32 : decode cX7_fewestOdd 32 = .ok (.iload_n 2, 1) := by decide +kernel
theorem dX7_fewestOdd_33 : decode cX7_fewestOdd 33 = .ok (.iaload, 1) := by decide +kernel
theorem dX7_fewestOdd_34 : decode cX7_fewestOdd 34 = .ok (.invokevirtual 269, 3) := by decide +kernel
theorem dX7_fewestOdd_37 : decode cX7_fewestOdd 37 = .ok (.iload_n 1, 1) := by decide +kernel
theorem dX7_fewestOdd_38 : decode cX7_fewestOdd 38 = .ok (.ifCond .lt 11, 3) := by decide +kernel
theorem dX7_fewestOdd_41 : decode cX7_fewestOdd 41 = .ok (.aload_n 0, 1) := by decide +kernel
theorem dX7_fewestOdd_42 : decode cX7_fewestOdd 42 = .ok (.getfield 257, 3) := by decide +kernel
theorem dX7_fewestOdd_45 : decode cX7_fewestOdd 45 = .ok (.iload_n 1, 1) := by decide +kernel
theorem dX7_fewestOdd_46 : decode cX7_fewestOdd 46 = .ok (.if_icmp .ge 10, 3) := by decide +kernel
theorem dX7_fewestOdd_49 : decode cX7_fewestOdd 49 = .ok (.aload_n 0, 1) := by decide +kernel
theorem dX7_fewestOdd_50 : decode cX7_fewestOdd 50 = .ok (.getfield 257, 3) := by decide +kernel
theorem dX7_fewestOdd_53 : decode cX7_fewestOdd 53 = .ok (.goto 4, 3) := by decide +kernel
theorem dX7_fewestOdd_56 : decode cX7_fewestOdd 56 = .ok (.iload_n 1, 1) := by decide +kernel
theorem dX7_fewestOdd_57 : decode cX7_fewestOdd 57 = .ok (.istore_n 1, 1) := by decide +kernel
theorem dX7_fewestOdd_58 : decode cX7_fewestOdd 58 = .ok (.iinc 2 1, 3) := by decide +kernel
theorem dX7_fewestOdd_61 : decode cX7_fewestOdd 61 = .ok (.goto (-42), 3) := by decide +kernel
theorem dX7_fewestOdd_64 : decode cX7_fewestOdd 64 = .ok (.iload_n 1, 1) := by decide +kernel
theorem dX7_fewestOdd_65 : decode cX7_fewestOdd 65 = .ok (.ireturn, 1) := by decide +kernel
set_option maxRecDepth 20000 in
theorem ggX7_knot_X7_isKnot : GoodIn wsX7_knot wsX7_isKnot := goodIn_r _ [5, 6, 7, 8, 4, 9, 53, 54, 55, 56, 57, 58, 59, 60, 61, 62, 63, 64, 65, 66, 67, 68, 69, 70, 71, 72] (by decide +kernel) (by decide +kernel)
set_option maxRecDepth 20000 in
theorem gX7_knot_X7_isKnot : GoodIn wsX7_knot (wsV RX7 119 RX7 yX7_isKnot wsX7_isKnot) := goodIn_app (goodIn_of _ (by decide +kernel)) ggX7_knot_X7_isKnot
set_option maxRecDepth 20000 in
theorem ggX7_knot_X7_threadsOf : GoodIn wsX7_knot wsX7_threadsOf := goodIn_r _ [13, 6, 14, 15, 16, 4, 17, 18, 19, 20, 21, 53, 54, 55, 56, 57, 58, 59, 60, 61, 62, 63, 64, 65, 66, 67, 68, 69, 70, 71, 72] (by decide +kernel) (by decide +kernel)
set_option maxRecDepth 20000 in
theorem gX7_knot_X7_threadsOf : GoodIn wsX7_knot (wsV RX7 63 RX7 yX7_threadsOf wsX7_threadsOf) := goodIn_app (goodIn_of _ (by decide +kernel)) ggX7_knot_X7_threadsOf
set_option maxRecDepth 20000 in
theorem ggX7_knot_X7_neighbours : GoodIn wsX7_knot wsX7_neighbours := goodIn_r _ [25, 6, 14, 15, 16, 4, 17, 18, 19, 20, 21, 26, 27, 28, 29, 53, 54, 55, 56, 57, 58, 59, 60, 61, 62, 63, 64, 65, 66, 67, 68, 69, 70, 71, 72] (by decide +kernel) (by decide +kernel)
set_option maxRecDepth 20000 in
theorem gX7_knot_X7_neighbours : GoodIn wsX7_knot (wsV RX7 142 RX7 yX7_neighbours wsX7_neighbours) := goodIn_app (goodIn_of _ (by decide +kernel)) ggX7_knot_X7_neighbours
set_option maxRecDepth 20000 in
theorem ggX7_knot_X7_isWrong : GoodIn wsX7_knot wsX7_isWrong := goodIn_r _ [33, 6, 14, 15, 16, 4, 17, 18, 19, 20, 21, 34, 35, 36, 53, 54, 55, 56, 57, 58, 59, 60, 61, 62, 63, 64, 65, 66, 67, 68, 69, 70, 71, 72] (by decide +kernel) (by decide +kernel)
set_option maxRecDepth 20000 in
theorem gX7_knot_X7_isWrong : GoodIn wsX7_knot (wsV RX7 235 RX7 yX7_isWrong wsX7_isWrong) := goodIn_app (goodIn_of _ (by decide +kernel)) ggX7_knot_X7_isWrong
set_option maxRecDepth 20000 in
theorem ggX7_knot_X7_partOf : GoodIn wsX7_knot wsX7_partOf := goodIn_r _ [40, 41, 42, 43, 4, 44, 6, 18, 19, 20, 21, 34, 35, 36, 53, 54, 55, 56, 57, 58, 59, 60, 61, 62, 63, 64, 65, 66, 67, 68, 69, 70, 71, 72] (by decide +kernel) (by decide +kernel)
set_option maxRecDepth 20000 in
theorem gX7_knot_X7_partOf : GoodIn wsX7_knot (wsV RX7 232 RX7 yX7_partOf wsX7_partOf) := goodIn_app (goodIn_of _ (by decide +kernel)) ggX7_knot_X7_partOf
set_option maxRecDepth 20000 in
theorem ggX7_knot_X7_shortest : GoodIn wsX7_knot wsX7_shortest := goodIn_r _ [48, 6, 34, 35, 4, 36, 49, 50, 51, 52, 18, 19, 20, 21, 41, 42, 43, 44, 53, 54, 55, 56, 57, 58, 59, 60, 61, 62, 63, 64, 65, 66, 67, 68, 69, 70, 71, 72] (by decide +kernel) (by decide +kernel)
set_option maxRecDepth 20000 in
theorem gX7_knot_X7_shortest : GoodIn wsX7_knot (wsV RX7 272 RX7 yX7_shortest wsX7_shortest) := goodIn_app (goodIn_of _ (by decide +kernel)) ggX7_knot_X7_shortest
theorem dX7_knot_0 : decode cX7_knot 0 = .ok (.aload_n 0, 1) := by decide +kernel
theorem dX7_knot_1 : decode cX7_knot 1 = .ok (.iload_n 1, 1) := by decide +kernel
theorem dX7_knot_2 : decode cX7_knot 2 = .ok (.invokevirtual 119, 3) := by decide +kernel
theorem dX7_knot_5 : decode cX7_knot 5 = .ok (.ifCond .ne 5, 3) := by decide +kernel
theorem dX7_knot_8 : decode cX7_knot 8 = .ok (.iconst (-1), 1) := by decide +kernel
theorem dX7_knot_9 : decode cX7_knot 9 = .ok (.ireturn, 1) := by decide +kernel
theorem dX7_knot_10 : decode cX7_knot 10 = .ok (.iload_n 2, 1) := by decide +kernel
theorem dX7_knot_11 : decode cX7_knot 11 = .ok (.tableswitch 75 0 4 #[33, 39, 45, 59, 65], 33) := by decide +kernel
theorem dX7_knot_44 : decode cX7_knot 44 = .ok (.aload_n 0, 1) := by decide +kernel
theorem dX7_knot_45 : decode cX7_knot 45 = .ok (.iload_n 1, 1) := by decide +kernel
theorem dX7_knot_46 : decode cX7_knot 46 = .ok (.invokevirtual 63, 3) := by decide +kernel
theorem dX7_knot_49 : decode cX7_knot 49 = .ok (.ireturn, 1) := by decide +kernel
theorem dX7_knot_50 : decode cX7_knot 50 = .ok (.aload_n 0, 1) := by decide +kernel
theorem dX7_knot_51 : decode cX7_knot 51 = .ok (.iload_n 1, 1) := by decide +kernel
theorem dX7_knot_52 : decode cX7_knot 52 = .ok (.invokevirtual 142, 3) := by decide +kernel
theorem dX7_knot_55 : decode cX7_knot 55 = .ok (.ireturn, 1) := by decide +kernel
theorem dX7_knot_56 : decode cX7_knot 56 = .ok (.aload_n 0, 1) := by decide +kernel
theorem dX7_knot_57 : decode cX7_knot 57 = .ok (.iload_n 1, 1) := by decide +kernel
theorem dX7_knot_58 : decode cX7_knot 58 = .ok (.invokevirtual 235, 3) := by decide +kernel
theorem dX7_knot_61 : decode cX7_knot 61 = .ok (.ifCond .eq 7, 3) := by decide +kernel
theorem dX7_knot_64 : decode cX7_knot 64 = .ok (.iconst 1, 1) := by decide +kernel
theorem dX7_knot_65 : decode cX7_knot 65 = .ok (.goto 4, 3) := by decide +kernel
theorem dX7_knot_68 : decode cX7_knot 68 = .ok (.iconst 0, 1) := by decide +kernel
theorem dX7_knot_69 : decode cX7_knot 69 = .ok (.ireturn, 1) := by decide +kernel
theorem dX7_knot_70 : decode cX7_knot 70 = .ok (.aload_n 0, 1) := by decide +kernel
theorem dX7_knot_71 : decode cX7_knot 71 = .ok (.iload_n 1, 1) := by decide +kernel
theorem dX7_knot_72 : decode cX7_knot 72 = .ok (.invokevirtual 232, 3) := by decide +kernel
theorem dX7_knot_75 : decode cX7_knot 75 = .ok (.ireturn, 1) := by decide +kernel
theorem dX7_knot_76 : decode cX7_knot 76 = .ok (.aload_n 0, 1) := by decide +kernel
theorem dX7_knot_77 : decode cX7_knot 77 = .ok (.aload_n 0, 1) := by decide +kernel
theorem dX7_knot_78 : decode cX7_knot 78 = .ok (.iload_n 1, 1) := by decide +kernel
theorem dX7_knot_79 : decode cX7_knot 79 = .ok (.invokevirtual 63, 3) := by decide +kernel
theorem dX7_knot_82 : decode cX7_knot 82 = .ok (.invokevirtual 272, 3) := by decide +kernel
theorem dX7_knot_85 : decode cX7_knot 85 = .ok (.ireturn, 1) := by decide +kernel
theorem dX7_knot_86 : decode cX7_knot 86 = .ok (.bipush (-2), 2) := by decide +kernel
theorem dX7_knot_88 : decode cX7_knot 88 = .ok (.ireturn, 1) := by decide +kernel
set_option maxRecDepth 20000 in
theorem ggX7_thread_X7_isThread : GoodIn wsX7_thread wsX7_isThread := goodIn_r _ [5, 6, 7, 8, 4, 9, 61, 62, 63, 64, 65, 66, 67, 68, 69, 70, 71, 72, 73, 74, 75, 76, 77, 78, 79, 80] (by decide +kernel) (by decide +kernel)
set_option maxRecDepth 20000 in
theorem gX7_thread_X7_isThread : GoodIn wsX7_thread (wsV RX7 133 RX7 yX7_isThread wsX7_isThread) := goodIn_app (goodIn_of _ (by decide +kernel)) ggX7_thread_X7_isThread
set_option maxRecDepth 20000 in
theorem ggX7_thread_X7_of : GoodIn wsX7_thread wsX7_of := goodIn_r _ [13, 6, 61, 62, 63, 64, 65, 66, 67, 68, 69, 70, 71, 72, 73, 74, 75, 76, 77, 78, 79, 80] (by decide +kernel) (by decide +kernel)
set_option maxRecDepth 20000 in
theorem gX7_thread_X7_of : GoodIn wsX7_thread (wsV RX7 56 RX7 yX7_of wsX7_of) := goodIn_app (goodIn_of _ (by decide +kernel)) ggX7_thread_X7_of
set_option maxRecDepth 20000 in
theorem ggX7_thread_X7_round : GoodIn wsX7_thread wsX7_round := goodIn_r _ [17, 10, 11, 12, 4, 13, 6, 18, 19, 20, 21, 22, 23, 24, 61, 62, 63, 64, 65, 66, 67, 68, 69, 70, 71, 72, 73, 74, 75, 76, 77, 78, 79, 80] (by decide +kernel) (by decide +kernel)
set_option maxRecDepth 20000 in
theorem gX7_thread_X7_round : GoodIn wsX7_thread (wsV RX7 229 RX7 yX7_round wsX7_round) := goodIn_app (goodIn_of _ (by decide +kernel)) ggX7_thread_X7_round
set_option maxRecDepth 20000 in
theorem ggX7_thread_X7_coversWith : GoodIn wsX7_thread wsX7_coversWith := goodIn_r _ [28, 29, 30, 31, 32, 33, 4, 34, 6, 35, 36, 37, 38, 39, 40, 41, 42, 43, 44, 18, 19, 20, 45, 46, 47, 48, 49, 50, 51, 52, 10, 11, 12, 13, 53, 54, 55, 56, 57, 58, 59, 60, 61, 62, 63, 64, 65, 66, 67, 68, 69, 70, 71, 72, 73, 74, 75, 76, 77, 78, 79, 80] (by decide +kernel) (by decide +kernel)
set_option maxRecDepth 20000 in
theorem gX7_thread_X7_coversWith : GoodIn wsX7_thread (wsV RX7 275 RX7 yX7_coversWith wsX7_coversWith) := goodIn_app (goodIn_of _ (by decide +kernel)) ggX7_thread_X7_coversWith
theorem dX7_thread_0 : decode cX7_thread 0 = .ok (.aload_n 0, 1) := by decide +kernel
theorem dX7_thread_1 : decode cX7_thread 1 = .ok (.iload_n 1, 1) := by decide +kernel
theorem dX7_thread_2 : decode cX7_thread 2 = .ok (.invokevirtual 133, 3) := by decide +kernel
theorem dX7_thread_5 : decode cX7_thread 5 = .ok (.ifCond .ne 5, 3) := by decide +kernel
theorem dX7_thread_8 : decode cX7_thread 8 = .ok (.iconst (-1), 1) := by decide +kernel
theorem dX7_thread_9 : decode cX7_thread 9 = .ok (.ireturn, 1) := by decide +kernel
theorem dX7_thread_10 : decode cX7_thread 10 = .ok (.iload_n 2, 1) := by decide +kernel
theorem dX7_thread_11 : decode cX7_thread 11 = .ok (.tableswitch 101 0 5 #[37, 44, 51, 73, 89, 95], 37) := by decide +kernel
theorem dX7_thread_48 : decode cX7_thread 48 = .ok (.aload_n 0, 1) := by decide +kernel
theorem dX7_thread_49 : decode cX7_thread 49 = .ok (.iload_n 1, 1) := by decide +kernel
theorem dX7_thread_50 : decode cX7_thread 50 = .ok (.iconst 0, 1) := by decide +kernel
theorem dX7_thread_51 : decode cX7_thread 51 = .ok (.invokevirtual 56, 3) := by decide +kernel
theorem dX7_thread_54 : decode cX7_thread 54 = .ok (.ireturn, 1) := by decide +kernel
theorem dX7_thread_55 : decode cX7_thread 55 = .ok (.aload_n 0, 1) := by decide +kernel
theorem dX7_thread_56 : decode cX7_thread 56 = .ok (.iload_n 1, 1) := by decide +kernel
theorem dX7_thread_57 : decode cX7_thread 57 = .ok (.iconst 1, 1) := by decide +kernel
theorem dX7_thread_58 : decode cX7_thread 58 = .ok (.invokevirtual 56, 3) := by decide +kernel
theorem dX7_thread_61 : decode cX7_thread 61 = .ok (.ireturn, 1) := by decide +kernel
theorem dX7_thread_62 : decode cX7_thread 62 = .ok (.aload_n 0, 1) := by decide +kernel
theorem dX7_thread_63 : decode cX7_thread 63 = .ok (.iload_n 1, 1) := by decide +kernel
theorem dX7_thread_64 : decode cX7_thread 64 = .ok (.iconst 2, 1) := by decide +kernel
theorem dX7_thread_65 : decode cX7_thread 65 = .ok (.invokevirtual 56, 3) := by decide +kernel
theorem dX7_thread_68 : decode cX7_thread 68 = .ok (.iconst 3, 1) := by decide +kernel
theorem dX7_thread_69 : decode cX7_thread 69 = .ok (.if_icmp .ne 8, 3) := by decide +kernel
theorem dX7_thread_72 : decode cX7_thread 72 = .ok (.bipush (-5), 2) := by decide +kernel
theorem dX7_thread_74 : decode cX7_thread 74 = .ok (.goto 9, 3) := by decide +kernel
theorem dX7_thread_77 : decode cX7_thread 77 = .ok (.aload_n 0, 1) := by decide +kernel
theorem dX7_thread_78 : decode cX7_thread 78 = .ok (.iload_n 1, 1) := by decide +kernel
theorem dX7_thread_79 : decode cX7_thread 79 = .ok (.iconst 2, 1) := by decide +kernel
theorem dX7_thread_80 : decode cX7_thread 80 = .ok (.invokevirtual 56, 3) := by decide +kernel
theorem dX7_thread_83 : decode cX7_thread 83 = .ok (.ireturn, 1) := by decide +kernel
theorem dX7_thread_84 : decode cX7_thread 84 = .ok (.aload_n 0, 1) := by decide +kernel
theorem dX7_thread_85 : decode cX7_thread 85 = .ok (.iload_n 1, 1) := by decide +kernel
theorem dX7_thread_86 : decode cX7_thread 86 = .ok (.invokevirtual 229, 3) := by decide +kernel
theorem dX7_thread_89 : decode cX7_thread 89 = .ok (.bipush (-5), 2) := by decide +kernel
theorem dX7_thread_91 : decode cX7_thread 91 = .ok (.if_icmp .ne 7, 3) := by decide +kernel
theorem dX7_thread_94 : decode cX7_thread 94 = .ok (.iconst 1, 1) := by decide +kernel
theorem dX7_thread_95 : decode cX7_thread 95 = .ok (.goto 4, 3) := by decide +kernel
theorem dX7_thread_98 : decode cX7_thread 98 = .ok (.iconst 0, 1) := by decide +kernel
theorem dX7_thread_99 : decode cX7_thread 99 = .ok (.ireturn, 1) := by decide +kernel
theorem dX7_thread_100 : decode cX7_thread 100 = .ok (.aload_n 0, 1) := by decide +kernel
theorem dX7_thread_101 : decode cX7_thread 101 = .ok (.iload_n 1, 1) := by decide +kernel
theorem dX7_thread_102 : decode cX7_thread 102 = .ok (.invokevirtual 229, 3) := by decide +kernel
theorem dX7_thread_105 : decode cX7_thread 105 = .ok (.ireturn, 1) := by decide +kernel
theorem dX7_thread_106 : decode cX7_thread 106 = .ok (.aload_n 0, 1) := by decide +kernel
theorem dX7_thread_107 : decode cX7_thread 107 = .ok (.iload_n 1, 1) := by decide +kernel
theorem dX7_thread_108 : decode cX7_thread 108 = .ok (.invokevirtual 275, 3) := by decide +kernel
theorem dX7_thread_111 : decode cX7_thread 111 = .ok (.ireturn, 1) := by decide +kernel
theorem dX7_thread_112 : decode cX7_thread 112 = .ok (.bipush (-2), 2) := by decide +kernel
theorem dX7_thread_114 : decode cX7_thread 114 = .ok (.ireturn, 1) := by decide +kernel
set_option maxRecDepth 20000 in
theorem ggX7_between_X7_isKnot : GoodIn wsX7_between wsX7_isKnot := goodIn_r _ [5, 6, 7, 8, 4, 9, 22, 23, 24, 25, 26, 27, 28, 29, 30, 31, 32, 33, 34, 35, 36, 37, 38, 39, 40, 41] (by decide +kernel) (by decide +kernel)
set_option maxRecDepth 20000 in
theorem gX7_between_X7_isKnot : GoodIn wsX7_between (wsV RX7 119 RX7 yX7_isKnot wsX7_isKnot) := goodIn_app (goodIn_of _ (by decide +kernel)) ggX7_between_X7_isKnot
set_option maxRecDepth 20000 in
theorem ggX7_between_X7_threadBetween : GoodIn wsX7_between wsX7_threadBetween := goodIn_r _ [13, 6, 14, 15, 16, 4, 17, 18, 19, 20, 21, 22, 23, 24, 25, 26, 27, 28, 29, 30, 31, 32, 33, 34, 35, 36, 37, 38, 39, 40, 41] (by decide +kernel) (by decide +kernel)
set_option maxRecDepth 20000 in
theorem gX7_between_X7_threadBetween : GoodIn wsX7_between (wsV RX7 130 RX7 yX7_threadBetween wsX7_threadBetween) := goodIn_app (goodIn_of _ (by decide +kernel)) ggX7_between_X7_threadBetween
theorem dX7_between_0 : decode cX7_between 0 = .ok (.aload_n 0, 1) := by decide +kernel
theorem dX7_between_1 : decode cX7_between 1 = .ok (.iload_n 1, 1) := by decide +kernel
theorem dX7_between_2 : decode cX7_between 2 = .ok (.invokevirtual 119, 3) := by decide +kernel
theorem dX7_between_5 : decode cX7_between 5 = .ok (.ifCond .eq 20, 3) := by decide +kernel
theorem dX7_between_8 : decode cX7_between 8 = .ok (.aload_n 0, 1) := by decide +kernel
theorem dX7_between_9 : decode cX7_between 9 = .ok (.iload_n 2, 1) := by decide +kernel
theorem dX7_between_10 : decode cX7_between 10 = .ok (.invokevirtual 119, 3) := by decide +kernel
theorem dX7_between_13 : decode cX7_between 13 = .ok (.ifCond .eq 12, 3) := by decide +kernel
theorem dX7_between_16 : decode cX7_between 16 = .ok (.aload_n 0, 1) := by decide +kernel
theorem dX7_between_17 : decode cX7_between 17 = .ok (.iload_n 1, 1) := by decide +kernel
theorem dX7_between_18 : decode cX7_between 18 = .ok (.iload_n 2, 1) := by decide +kernel
theorem dX7_between_19 : decode cX7_between 19 = .ok (.invokevirtual 130, 3) := by decide +kernel
theorem dX7_between_22 : decode cX7_between 22 = .ok (.goto 4, 3) := by decide +kernel
theorem dX7_between_25 : decode cX7_between 25 = .ok (.iconst (-1), 1) := by decide +kernel
theorem dX7_between_26 : decode cX7_between 26 = .ok (.ireturn, 1) := by decide +kernel
set_option maxRecDepth 20000 in
theorem ggX7_covers_X7_findCovers : GoodIn wsX7_covers wsX7_findCovers := goodIn_r _ [6, 7, 1, 8, 9, 10, 11, 12, 13, 5, 14, 15, 16, 17, 18, 19, 20, 21, 22, 23, 24, 25, 26, 27, 28, 29, 30, 31, 32, 33, 34, 35, 36, 37, 38, 39, 40, 41, 42, 43, 44, 45, 46, 47, 48, 49, 50, 51, 52, 53, 54, 55, 56, 57, 58, 59, 60, 61] (by decide +kernel) (by decide +kernel)
set_option maxRecDepth 20000 in
theorem gX7_covers_X7_findCovers : GoodIn wsX7_covers (wsV RX7 251 RX7 yX7_findCovers wsX7_findCovers) := goodIn_app (goodIn_of _ (by decide +kernel)) ggX7_covers_X7_findCovers
theorem dX7_covers_0 : decode cX7_covers 0 = .ok (.aload_n 0, 1) := by decide +kernel
theorem dX7_covers_1 : decode cX7_covers 1 = .ok (.invokevirtual 251, 3) := by decide +kernel
theorem dX7_covers_4 : decode cX7_covers 4 = .ok (.aload_n 0, 1) := by decide +kernel
theorem dX7_covers_5 : decode cX7_covers 5 = .ok (.getfield 238, 3) := by decide +kernel
theorem dX7_covers_8 : decode cX7_covers 8 = .ok (.ireturn, 1) := by decide +kernel
set_option maxRecDepth 20000 in
theorem ggX7_count_X7_isFullNet : GoodIn wsX7_count wsX7_isFullNet := goodIn_r _ [8, 1, 9, 10, 11, 7, 12, 13, 14, 15, 16, 17, 18, 19, 20, 21, 22, 23, 24, 25, 26, 27, 99, 100, 101, 102, 103, 104, 105, 106, 107, 108, 109, 110, 111, 112, 113, 114, 115, 116, 117, 118] (by decide +kernel) (by decide +kernel)
set_option maxRecDepth 20000 in
theorem gX7_count_X7_isFullNet : GoodIn wsX7_count (wsV RX7 266 RX7 yX7_isFullNet wsX7_isFullNet) := goodIn_app (goodIn_of _ (by decide +kernel)) ggX7_count_X7_isFullNet
set_option maxRecDepth 20000 in
theorem ggX7_count_X7_parts : GoodIn wsX7_count wsX7_parts := goodIn_r _ [31, 1, 32, 33, 7, 34, 35, 36, 37, 38, 39, 40, 41, 42, 21, 22, 23, 24, 99, 100, 101, 102, 103, 104, 105, 106, 107, 108, 109, 110, 111, 112, 113, 114, 115, 116, 117, 118] (by decide +kernel) (by decide +kernel)
set_option maxRecDepth 20000 in
theorem gX7_count_X7_parts : GoodIn wsX7_count (wsV RX7 278 RX7 yX7_parts wsX7_parts) := goodIn_app (goodIn_of _ (by decide +kernel)) ggX7_count_X7_parts
set_option maxRecDepth 20000 in
theorem ggX7_count_X7_bridges : GoodIn wsX7_count wsX7_bridges := goodIn_r _ [46, 1, 47, 48, 49, 7, 50, 21, 22, 23, 24, 32, 33, 34, 39, 40, 41, 42, 99, 100, 101, 102, 103, 104, 105, 106, 107, 108, 109, 110, 111, 112, 113, 114, 115, 116, 117, 118] (by decide +kernel) (by decide +kernel)
set_option maxRecDepth 20000 in
theorem gX7_count_X7_bridges : GoodIn wsX7_count (wsV RX7 281 RX7 yX7_bridges wsX7_bridges) := goodIn_app (goodIn_of _ (by decide +kernel)) ggX7_count_X7_bridges
set_option maxRecDepth 20000 in
theorem ggX7_count_X7_shortest : GoodIn wsX7_count wsX7_shortest := goodIn_r _ [54, 1, 32, 33, 7, 34, 47, 48, 49, 50, 21, 22, 23, 24, 39, 40, 41, 42, 99, 100, 101, 102, 103, 104, 105, 106, 107, 108, 109, 110, 111, 112, 113, 114, 115, 116, 117, 118] (by decide +kernel) (by decide +kernel)
set_option maxRecDepth 20000 in
theorem gX7_count_X7_shortest : GoodIn wsX7_count (wsV RX7 272 RX7 yX7_shortest wsX7_shortest) := goodIn_app (goodIn_of _ (by decide +kernel)) ggX7_count_X7_shortest
set_option maxRecDepth 20000 in
theorem ggX7_count_X7_covers : GoodIn wsX7_count wsX7_covers := goodIn_r _ [58, 59, 60, 61, 62, 7, 63, 1, 64, 65, 66, 67, 68, 69, 70, 71, 72, 73, 74, 32, 33, 34, 75, 76, 77, 78, 17, 18, 19, 20, 21, 22, 23, 24, 79, 80, 81, 82, 83, 84, 85, 86, 99, 100, 101, 102, 103, 104, 105, 106, 107, 108, 109, 110, 111, 112, 113, 114, 115, 116, 117, 118] (by decide +kernel) (by decide +kernel)
set_option maxRecDepth 20000 in
theorem gX7_count_X7_covers : GoodIn wsX7_count (wsV RX7 284 RX7 yX7_covers wsX7_covers) := goodIn_app (goodIn_of _ (by decide +kernel)) ggX7_count_X7_covers
set_option maxRecDepth 20000 in
theorem ggX7_count_X7_wrongs : GoodIn wsX7_count wsX7_wrongs := goodIn_r _ [90, 1, 91, 92, 93, 7, 94, 17, 18, 19, 20, 21, 22, 23, 24, 32, 33, 34, 99, 100, 101, 102, 103, 104, 105, 106, 107, 108, 109, 110, 111, 112, 113, 114, 115, 116, 117, 118] (by decide +kernel) (by decide +kernel)
set_option maxRecDepth 20000 in
theorem gX7_count_X7_wrongs : GoodIn wsX7_count (wsV RX7 287 RX7 yX7_wrongs wsX7_wrongs) := goodIn_app (goodIn_of _ (by decide +kernel)) ggX7_count_X7_wrongs
set_option maxRecDepth 20000 in
theorem ggX7_count_X7_plainOnes : GoodIn wsX7_count wsX7_plainOnes := goodIn_r _ [98, 1, 21, 22, 23, 7, 24, 99, 100, 101, 102, 103, 104, 105, 106, 107, 108, 109, 110, 111, 112, 113, 114, 115, 116, 117, 118] (by decide +kernel) (by decide +kernel)
set_option maxRecDepth 20000 in
theorem gX7_count_X7_plainOnes : GoodIn wsX7_count (wsV RX7 173 RX7 yX7_plainOnes wsX7_plainOnes) := goodIn_app (goodIn_of _ (by decide +kernel)) ggX7_count_X7_plainOnes
theorem dX7_count_0 : decode cX7_count 0 = .ok (.iload_n 1, 1) := by decide +kernel
theorem dX7_count_1 : decode cX7_count 1 = .ok (.tableswitch 136 0 10 #[59, 66, 73, 86, 91, 96, 111, 116, 121, 126, 131], 59) := by decide +kernel
theorem dX7_count_60 : decode cX7_count 60 = .ok (.aload_n 0, 1) := by decide +kernel
theorem dX7_count_61 : decode cX7_count 61 = .ok (.getfield 7, 3) := by decide +kernel
theorem dX7_count_64 : decode cX7_count 64 = .ok (.iconst 0, 1) := by decide +kernel
theorem dX7_count_65 : decode cX7_count 65 = .ok (.iaload, 1) := by decide +kernel
theorem dX7_count_66 : decode cX7_count 66 = .ok (.ireturn, 1) := by decide +kernel
theorem dX7_count_67 : decode cX7_count 67 = .ok (.aload_n 0, 1) := by decide +kernel
theorem dX7_count_68 : decode cX7_count 68 = .ok (.getfield 7, 3) := by decide +kernel
theorem dX7_count_71 : decode cX7_count 71 = .ok (.iconst 1, 1) := by decide +kernel
theorem dX7_count_72 : decode cX7_count 72 = .ok (.iaload, 1) := by decide +kernel
theorem dX7_count_73 : decode cX7_count 73 = .ok (.ireturn, 1) := by decide +kernel
theorem dX7_count_74 : decode cX7_count 74 = .ok (.aload_n 0, 1) := by decide +kernel
theorem dX7_count_75 : decode cX7_count 75 = .ok (.invokevirtual 266, 3) := by decide +kernel
theorem dX7_count_78 : decode cX7_count 78 = .ok (.ifCond .eq 7, 3) := by decide +kernel
theorem dX7_count_81 : decode cX7_count 81 = .ok (.iconst 1, 1) := by decide +kernel
theorem dX7_count_82 : decode cX7_count 82 = .ok (.goto 4, 3) := by decide +kernel
theorem dX7_count_85 : decode cX7_count 85 = .ok (.iconst 0, 1) := by decide +kernel
theorem dX7_count_86 : decode cX7_count 86 = .ok (.ireturn, 1) := by decide +kernel
theorem dX7_count_87 : decode cX7_count 87 = .ok (.aload_n 0, 1) := by decide +kernel
theorem dX7_count_88 : decode cX7_count 88 = .ok (.invokevirtual 278, 3) := by decide +kernel
theorem dX7_count_91 : decode cX7_count 91 = .ok (.ireturn, 1) := by decide +kernel
theorem dX7_count_92 : decode cX7_count 92 = .ok (.aload_n 0, 1) := by decide +kernel
theorem dX7_count_93 : decode cX7_count 93 = .ok (.invokevirtual 281, 3) := by decide +kernel
theorem dX7_count_96 : decode cX7_count 96 = .ok (.ireturn, 1) := by decide +kernel
theorem dX7_count_97 : decode cX7_count 97 = .ok (.aload_n 0, 1) := by decide +kernel
theorem dX7_count_98 : decode cX7_count 98 = .ok (.iconst 1, 1) := by decide +kernel
theorem dX7_count_99 : decode cX7_count 99 = .ok (.aload_n 0, 1) := by decide +kernel
theorem dX7_count_100 : decode cX7_count 100 = .ok (.getfield 7, 3) := by decide +kernel
theorem dX7_count_103 : decode cX7_count 103 = .ok (.iconst 1, 1) := by decide +kernel
theorem dX7_count_104 : decode cX7_count 104 = .ok (.iaload, 1) := by decide +kernel
theorem dX7_count_105 : decode cX7_count 105 = .ok (.ishl, 1) := by decide +kernel
theorem dX7_count_106 : decode cX7_count 106 = .ok (.iconst 1, 1) := by decide +kernel
theorem dX7_count_107 : decode cX7_count 107 = .ok (.isub, 1) := by decide +kernel
theorem dX7_count_108 : decode cX7_count 108 = .ok (.invokevirtual 272, 3) := by decide +kernel
theorem dX7_count_111 : decode cX7_count 111 = .ok (.ireturn, 1) := by decide +kernel
theorem dX7_count_112 : decode cX7_count 112 = .ok (.aload_n 0, 1) := by decide +kernel
theorem dX7_count_113 : decode cX7_count 113 = .ok (.invokevirtual 284, 3) := by decide +kernel
theorem dX7_count_116 : decode cX7_count 116 = .ok (.ireturn, 1) := by decide +kernel
theorem dX7_count_117 : decode cX7_count 117 = .ok (.aload_n 0, 1) := by decide +kernel
theorem dX7_count_118 : decode cX7_count 118 = .ok (.invokevirtual 287, 3) := by decide +kernel
theorem dX7_count_121 : decode cX7_count 121 = .ok (.ireturn, 1) := by decide +kernel
theorem dX7_count_122 : decode cX7_count 122 = .ok (.aload_n 0, 1) := by decide +kernel
theorem dX7_count_123 : decode cX7_count 123 = .ok (.invokevirtual 173, 3) := by decide +kernel
theorem dX7_count_126 : decode cX7_count 126 = .ok (.ireturn, 1) := by decide +kernel
theorem dX7_count_127 : decode cX7_count 127 = .ok (.aload_n 0, 1) := by decide +kernel
theorem dX7_count_128 : decode cX7_count 128 = .ok (.getfield 76, 3) := by decide +kernel
theorem dX7_count_131 : decode cX7_count 131 = .ok (.ireturn, 1) := by decide +kernel
theorem dX7_count_132 : decode cX7_count 132 = .ok (.aload_n 0, 1) := by decide +kernel
theorem dX7_count_133 : decode cX7_count 133 = .ok (.getfield 192, 3) := by decide +kernel
theorem dX7_count_136 : decode cX7_count 136 = .ok (.ireturn, 1) := by decide +kernel
theorem dX7_count_137 : decode cX7_count 137 = .ok (.bipush (-2), 2) := by decide +kernel
theorem dX7_count_139 : decode cX7_count 139 = .ok (.ireturn, 1) := by decide +kernel
