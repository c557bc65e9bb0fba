theorem dX7_init_0 : decode cX7_init 0 = .ok (.aload_n 0, 1) := by decide +kernel
theorem dX7_init_1 : decode cX7_init 1 = .ok (.invokespecial 1, 3) := by decide +kernel
theorem dX7_init_4 : decode cX7_init 4 = .ok (.aload_n 0, 1) := by decide +kernel
theorem dX7_init_5 : decode cX7_init 5 = .ok (.bipush 65, 2) := by decide +kernel
theorem dX7_init_7 : decode cX7_init 7 = .ok (.newarray .int, 2) := by decide +kernel
theorem dX7_init_9 : decode cX7_init 9 = .ok (.putfield 7, 3) := by decide +kernel
theorem dX7_init_12 : decode cX7_init 12 = .ok (.aload_n 0, 1) := by decide +kernel
theorem dX7_init_13 : decode cX7_init 13 = .ok (.sipush 260, 3) := by decide +kernel
theorem dX7_init_16 : decode cX7_init 16 = .ok (.newarray .int, 2) := by decide +kernel
theorem dX7_init_18 : decode cX7_init 18 = .ok (.putfield 13, 3) := by decide +kernel
theorem dX7_init_21 : decode cX7_init 21 = .ok (.aload_n 0, 1) := by decide +kernel
theorem dX7_init_22 : decode cX7_init 22 = .ok (.bipush 65, 2) := by decide +kernel
theorem dX7_init_24 : decode cX7_init 24 = .ok (.newarray .int, 2) := by decide +kernel
theorem dX7_init_26 : decode cX7_init 26 = .ok (.putfield 16, 3) := by decide +kernel
theorem dX7_init_29 : decode cX7_init 29 = .ok (.aload_n 0, 1) := by decide +kernel
theorem dX7_init_30 : decode cX7_init 30 = .ok (.bipush 60, 2) := by decide +kernel
theorem dX7_init_32 : decode cX7_init 32 = .ok (.newarray .char, 2) := by decide +kernel
theorem dX7_init_34 : decode cX7_init 34 = .ok (.putfield 19, 3) := by decide +kernel
theorem dX7_init_37 : decode cX7_init 37 = .ok (.aload_n 0, 1) := by decide +kernel
theorem dX7_init_38 : decode cX7_init 38 = .ok (.bipush 22, 2) := by decide +kernel
theorem dX7_init_40 : decode cX7_init 40 = .ok (.newarray .int, 2) := by decide +kernel
theorem dX7_init_42 : decode cX7_init 42 = .ok (.putfield 23, 3) := by decide +kernel
theorem dX7_init_45 : decode cX7_init 45 = .ok (.aload_n 0, 1) := by decide +kernel
theorem dX7_init_46 : decode cX7_init 46 = .ok (.bipush 21, 2) := by decide +kernel
theorem dX7_init_48 : decode cX7_init 48 = .ok (.newarray .int, 2) := by decide +kernel
theorem dX7_init_50 : decode cX7_init 50 = .ok (.putfield 26, 3) := by decide +kernel
theorem dX7_init_53 : decode cX7_init 53 = .ok (.aload_n 0, 1) := by decide +kernel
theorem dX7_init_54 : decode cX7_init 54 = .ok (.bipush 32, 2) := by decide +kernel
theorem dX7_init_56 : decode cX7_init 56 = .ok (.newarray .int, 2) := by decide +kernel
theorem dX7_init_58 : decode cX7_init 58 = .ok (.putfield 29, 3) := by decide +kernel
theorem dX7_init_61 : decode cX7_init 61 = .ok (.aload_n 0, 1) := by decide +kernel
theorem dX7_init_62 : decode cX7_init 62 = .ok (.sipush 256, 3) := by decide +kernel
theorem dX7_init_65 : decode cX7_init 65 = .ok (.newarray .int, 2) := by decide +kernel
theorem dX7_init_67 : decode cX7_init 67 = .ok (.putfield 32, 3) := by decide +kernel
theorem dX7_init_70 : decode cX7_init 70 = .ok (.aload_n 0, 1) := by decide +kernel
theorem dX7_init_71 : decode cX7_init 71 = .ok (.bipush 8, 2) := by decide +kernel
theorem dX7_init_73 : decode cX7_init 73 = .ok (.newarray .int, 2) := by decide +kernel
theorem dX7_init_75 : decode cX7_init 75 = .ok (.putfield 35, 3) := by decide +kernel
theorem dX7_init_78 : decode cX7_init 78 = .ok (.aload_n 0, 1) := by decide +kernel
theorem dX7_init_79 : decode cX7_init 79 = .ok (.bipush 8, 2) := by decide +kernel
theorem dX7_init_81 : decode cX7_init 81 = .ok (.newarray .int, 2) := by decide +kernel
theorem dX7_init_83 : decode cX7_init 83 = .ok (.putfield 38, 3) := by decide +kernel
theorem dX7_init_86 : decode cX7_init 86 = .ok (.aload_n 0, 1) := by decide +kernel
theorem dX7_init_87 : decode cX7_init 87 = .ok (.bipush 8, 2) := by decide +kernel
theorem dX7_init_89 : decode cX7_init 89 = .ok (.newarray .int, 2) := by decide +kernel
theorem dX7_init_91 : decode cX7_init 91 = .ok (.putfield 41, 3) := by decide +kernel
theorem dX7_init_94 : decode cX7_init 94 = .ok (.return_, 1) := by decide +kernel
theorem dX7_in_0 : decode cX7_in 0 = .ok (.iload_n 0, 1) := by decide +kernel
theorem dX7_in_1 : decode cX7_in 1 = .ok (.iload_n 1, 1) := by decide +kernel
theorem dX7_in_2 : decode cX7_in 2 = .ok (.if_icmp .lt 12, 3) := by decide +kernel
theorem dX7_in_5 : decode cX7_in 5 = .ok (.iload_n 0, 1) := by decide +kernel
theorem dX7_in_6 : decode cX7_in 6 = .ok (.iload_n 2, 1) := by decide +kernel
theorem dX7_in_7 : decode cX7_in 7 = .ok (.if_icmp .gt 7, 3) := by decide +kernel
theorem dX7_in_10 : decode cX7_in 10 = .ok (.iconst 1, 1) := by decide +kernel
theorem dX7_in_11 : decode cX7_in 11 = .ok (.goto 4, 3) := by decide +kernel
theorem dX7_in_14 : decode cX7_in 14 = .ok (.iconst 0, 1) := by decide +kernel
theorem dX7_in_15 : decode cX7_in 15 = .ok (.ireturn, 1) := by decide +kernel
theorem dX7_has_0 : decode cX7_has 0 = .ok (.iload_n 0, 1) := by decide +kernel
theorem dX7_has_1 : decode cX7_has 1 = .ok (.iload_n 1, 1) := by decide +kernel
theorem dX7_has_2 : decode cX7_has 2 = .ok (.ishr, 1) := by decide +kernel
theorem dX7_has_3 : decode cX7_has 3 = .ok (.iconst 1, 1) := by decide +kernel
theorem dX7_has_4 : decode cX7_has 4 = .ok (.iand, 1) := by decide +kernel
theorem dX7_has_5 : decode cX7_has 5 = .ok (.iconst 1, 1) := by decide +kernel
theorem dX7_has_6 : decode cX7_has 6 = .ok (.if_icmp .ne 7, 3) := by decide +kernel
theorem dX7_has_9 : decode cX7_has 9 = .ok (.iconst 1, 1) := by decide +kernel
theorem dX7_has_10 : decode cX7_has 10 = .ok (.goto 4, 3) := by decide +kernel
theorem dX7_has_13 : decode cX7_has 13 = .ok (.iconst 0, 1) := by decide +kernel
theorem dX7_has_14 : decode cX7_has 14 = .ok (.ireturn, 1) := by decide +kernel
theorem dX7_ones_0 : decode cX7_ones 0 = .ok (.iconst 0, 1) := by decide +kernel
theorem dX7_ones_1 : decode cX7_ones 1 = .ok (.istore_n 1, 1) := by decide +kernel
theorem dX7_ones_2 : decode cX7_ones 2 = .ok (.iload_n 0, 1) := by decide +kernel
theorem dX7_ones_3 : decode cX7_ones 3 = .ok (.istore_n 2, 1) := by decide +kernel
theorem dX7_ones_4 : decode cX7_ones 4 = .ok (.iload_n 2, 1) := by decide +kernel
theorem dX7_ones_5 : decode cX7_ones 5 = .ok (.ifCond .eq 15, 3) := by decide +kernel
theorem dX7_ones_8 : decode cX7_ones 8 = .ok (.iinc 1 1, 3) := by decide +kernel
theorem dX7_ones_11 : decode cX7_ones 11 = .ok (.iload_n 2, 1) := by decide +kernel
theorem dX7_ones_12 : decode cX7_ones 12 = .ok (.iload_n 2, 1) := by decide +kernel
theorem dX7_ones_13 : decode cX7_ones 13 = .ok (.iconst 1, 1) := by decide +kernel
theorem dX7_ones_14 : decode cX7_ones 14 = .ok (.isub, 1) := by decide +kernel
theorem dX7_ones_15 : decode cX7_ones 15 = .ok (.iand, 1) := by decide +kernel
theorem dX7_ones_16 : decode cX7_ones 16 = .ok (.istore_n 2, 1) := by decide +kernel
theorem dX7_ones_17 : decode cX7_ones 17 = .ok (.goto (-13), 3) := by decide +kernel
theorem dX7_ones_20 : decode cX7_ones 20 = .ok (.iload_n 1, 1) := by decide +kernel
theorem dX7_ones_21 : decode cX7_ones 21 = .ok (.ireturn, 1) := by decide +kernel
set_option maxRecDepth 20000 in
theorem ggX7_lowest_X7_has : GoodIn wsX7_lowest wsX7_has := goodIn_r _ [4] (by decide +kernel) (by decide +kernel)
set_option maxRecDepth 20000 in
theorem gX7_lowest_X7_has : GoodIn wsX7_lowest (va_wsS RX7 44 yX7_has wsX7_has) := goodIn_app (goodIn_of _ (by decide +kernel)) ggX7_lowest_X7_has
theorem dX7_lowest_0 : decode cX7_lowest 0 = .ok (.iconst 0, 1) := by decide +kernel
theorem dX7_lowest_1 : decode cX7_lowest 1 = .ok (.istore_n 1, 1) := by decide +kernel
theorem dX7_lowest_2 : decode cX7_lowest 2 = .ok (.iload_n 0, 1) := by decide +kernel
theorem dX7_lowest_3 : decode cX7_lowest 3 = .ok (.iload_n 1, 1) := by decide +kernel
theorem dX7_lowest_4 : decode cX7_lowest 4 = .ok (.invokestatic 44, 3) := by decide +kernel
theorem dX7_lowest_7 : decode cX7_lowest 7 = .ok (.ifCond .ne 9, 3) := by decide +kernel
theorem dX7_lowest_10 : decode cX7_lowest 10 = .ok (.iinc 1 1, 3) := by decide +kernel
theorem dX7_lowest_13 : decode cX7_lowest 13 = .ok (.goto (-11), 3) := by decide +kernel
theorem dX7_lowest_16 : decode cX7_lowest 16 = .ok (.iload_n 1, 1) := by decide +kernel
theorem dX7_lowest_17 : decode cX7_lowest 17 = .ok (.ireturn, 1) := by decide +kernel
theorem dX7_of_0 : decode cX7_of 0 = .ok (.aload_n 0, 1) := by decide +kernel
theorem dX7_of_1 : decode cX7_of 1 = .ok (.getfield 7, 3) := by decide +kernel
theorem dX7_of_4 : decode cX7_of 4 = .ok (.iconst 2, 1) := by decide +kernel
theorem dX7_of_5 : decode cX7_of 5 = .ok (.iconst 3, 1) := by decide +kernel
theorem dX7_of_6 : decode cX7_of 6 = .ok (.iload_n 1, 1) := by decide +kernel
theorem dX7_of_7 : decode cX7_of 7 = .ok (.imul, 1) := by decide +kernel
theorem dX7_of_8 : decode cX7_of 8 = .ok (.iadd, 1) := by decide +kernel
theorem dX7_of_9 : decode cX7_of 9 = .ok (.iload_n 2, 1) := by decide +kernel
theorem dX7_of_10 : decode cX7_of 10 = .ok (.iadd, 1) := by decide +kernel
theorem dX7_of_11 : decode cX7_of 11 = .ok (.iaload, 1) := by decide +kernel
theorem dX7_of_12 : decode cX7_of 12 = .ok (.ireturn, 1) := by decide +kernel
theorem dX7_put_0 : decode cX7_put 0 = .ok (.aload_n 0, 1) := by decide +kernel
theorem dX7_put_1 : decode cX7_put 1 = .ok (.getfield 7, 3) := by decide +kernel
theorem dX7_put_4 : decode cX7_put 4 = .ok (.iconst 2, 1) := by decide +kernel
theorem dX7_put_5 : decode cX7_put 5 = .ok (.iconst 3, 1) := by decide +kernel
theorem dX7_put_6 : decode cX7_put 6 = .ok (.iload_n 1, 1) := by decide +kernel
theorem dX7_put_7 : decode cX7_put 7 = .ok (.imul, 1) := by decide +kernel
theorem dX7_put_8 : decode cX7_put 8 = .ok (.iadd, 1) := by decide +kernel
theorem dX7_put_9 : decode cX7_put 9 = .ok (.iconst 0, 1) := by decide +kernel
theorem dX7_put_10 : decode cX7_put 10 = .ok (.iadd, 1) := by decide +kernel
theorem dX7_put_11 : decode cX7_put 11 = .ok (.iload_n 2, 1) := by decide +kernel
theorem dX7_put_12 : decode cX7_put 12 = .ok (.iload_n 3, 1) := by decide +kernel
theorem dX7_put_13 : decode cX7_put 13 = .ok (.if_icmp .ge 7, 3) := by decide +kernel
theorem dX7_put_16 : decode cX7_put 16 = .ok (.iload_n 2, 1) := by decide +kernel
theorem dX7_put_17 : decode cX7_put 17 = .ok (.goto 4, 3) := by decide +kernel
theorem dX7_put_20 : decode cX7_put 20 = .ok (.iload_n 3, 1) := by decide +kernel
theorem dX7_put_21 : decode cX7_put 21 = .ok (.iastore, 1) := by decide +kernel
theorem dX7_put_22 : decode cX7_put 22 = .ok (.aload_n 0, 1) := by decide +kernel
theorem dX7_put_23 : decode cX7_put 23 = .ok (.getfield 7, 3) := by decide +kernel
theorem dX7_put_26 : decode cX7_put 26 = .ok (.iconst 2, 1) := by decide +kernel
theorem dX7_put_27 : decode cX7_put 27 = .ok (.iconst 3, 1) := by decide +kernel
theorem dX7_put_28 : decode cX7_put 28 = .ok (.iload_n 1, 1) := by decide +kernel
theorem dX7_put_29 : decode cX7_put 29 = .ok (.imul, 1) := by decide +kernel
theorem dX7_put_30 : decode cX7_put 30 = .ok (.iadd, 1) := by decide +kernel
theorem dX7_put_31 : decode cX7_put 31 = .ok (.iconst 1, 1) := by decide +kernel
theorem dX7_put_32 : decode cX7_put 32 = .ok (.iadd, 1) := by decide +kernel
theorem dX7_put_33 : decode cX7_put 33 = .ok (.iload_n 2, 1) := by decide +kernel
theorem dX7_put_34 : decode cX7_put 34 = .ok (.iload_n 3, 1) := by decide +kernel
theorem dX7_put_35 : decode cX7_put 35 = .ok (.if_icmp .ge 7, 3) := by decide +kernel
theorem dX7_put_38 : decode cX7_put 38 = .ok (.iload_n 3, 1) := by decide +kernel
theorem dX7_put_39 : decode cX7_put 39 = .ok (.goto 4, 3) := by decide +kernel
theorem dX7_put_42 : decode cX7_put 42 = .ok (.iload_n 2, 1) := by decide +kernel
theorem dX7_put_43 : decode cX7_put 43 = .ok (.iastore, 1) := by decide +kernel
theorem dX7_put_44 : decode cX7_put 44 = .ok (.aload_n 0, 1) := by decide +kernel
theorem dX7_put_45 : decode cX7_put 45 = .ok (.getfield 7, 3) := by decide +kernel
theorem dX7_put_48 : decode cX7_put 48 = .ok (.iconst 2, 1) := by decide +kernel
theorem dX7_put_49 : decode cX7_put 49 = .ok (.iconst 3, 1) := by decide +kernel
theorem dX7_put_50 : decode cX7_put 50 = .ok (.iload_n 1, 1) := by decide +kernel
theorem dX7_put_51 : decode cX7_put 51 = .ok (.imul, 1) := by decide +kernel
theorem dX7_put_52 : decode cX7_put 52 = .ok (.iadd, 1) := by decide +kernel
theorem dX7_put_53 : decode cX7_put 53 = .ok (.iconst 2, 1) := by decide +kernel
theorem dX7_put_54 : decode cX7_put 54 = .ok (.iadd, 1) := by decide +kernel
theorem dX7_put_55 : decode cX7_put 55 = .ok (.iload 4, 2) := by decide +kernel
theorem dX7_put_57 : decode cX7_put 57 = .ok (.iastore, 1) := by decide +kernel
theorem dX7_put_58 : decode cX7_put 58 = .ok (.return_, 1) := by decide +kernel
set_option maxRecDepth 20000 in
theorem ggX7_adds_X7_put : GoodIn wsX7_adds wsX7_put := goodIn_r _ [6, 1, 7, 8, 9, 10, 11, 12, 13, 14, 15, 16, 17, 18, 19, 20, 21, 22, 23, 24, 25, 26] (by decide +kernel) (by decide +kernel)
set_option maxRecDepth 20000 in
theorem gX7_adds_X7_put : GoodIn wsX7_adds (wsV RX7 48 RX7 yX7_put wsX7_put) := goodIn_app (goodIn_of _ (by decide +kernel)) ggX7_adds_X7_put
theorem dX7_adds_0 : decode cX7_adds 0 = .ok (.aload_n 0, 1) := by decide +kernel
theorem dX7_adds_1 : decode cX7_adds 1 = .ok (.aload_n 0, 1) := by decide +kernel
theorem dX7_adds_2 : decode cX7_adds 2 = .ok (.getfield 7, 3) := by decide +kernel
theorem dX7_adds_5 : decode cX7_adds 5 = .ok (.iconst 1, 1) := by decide +kernel
theorem dX7_adds_6 : decode cX7_adds 6 = .ok (.iaload, 1) := by decide +kernel
theorem dX7_adds_7 : decode cX7_adds 7 = .ok (.iload_n 1, 1) := by decide +kernel
theorem dX7_adds_8 : decode cX7_adds 8 = .ok (.iload_n 2, 1) := by decide +kernel
theorem dX7_adds_9 : decode cX7_adds 9 = .ok (.iconst 3, 1) := by decide +kernel
theorem dX7_adds_10 : decode cX7_adds 10 = .ok (.invokevirtual 48, 3) := by decide +kernel
theorem dX7_adds_13 : decode cX7_adds 13 = .ok (.aload_n 0, 1) := by decide +kernel
theorem dX7_adds_14 : decode cX7_adds 14 = .ok (.getfield 7, 3) := by decide +kernel
theorem dX7_adds_17 : decode cX7_adds 17 = .ok (.iconst 1, 1) := by decide +kernel
theorem dX7_adds_18 : decode cX7_adds 18 = .ok (.dup2, 1) := by decide +kernel
theorem dX7_adds_19 : decode cX7_adds 19 = .ok (.iaload, 1) := by decide +kernel
theorem dX7_adds_20 : decode cX7_adds 20 = .ok (.iconst 1, 1) := by decide +kernel
theorem dX7_adds_21 : decode cX7_adds 21 = .ok (.iadd, 1) := by decide +kernel
theorem dX7_adds_22 : decode cX7_adds 22 = .ok (.iastore, 1) := by decide +kernel
theorem dX7_adds_23 : decode cX7_adds 23 = .ok (.return_, 1) := by decide +kernel
set_option maxRecDepth 20000 in
theorem ggX7_isKnot_X7_in : GoodIn wsX7_isKnot wsX7_in := goodIn_r _ [5] (by decide +kernel) (by decide +kernel)
set_option maxRecDepth 20000 in
theorem gX7_isKnot_X7_in : GoodIn wsX7_isKnot (va_wsS RX7 52 yX7_in wsX7_in) := goodIn_app (goodIn_of _ (by decide +kernel)) ggX7_isKnot_X7_in
theorem dX7_isKnot_0 : decode cX7_isKnot 0 = .ok (.iload_n 1, 1) := by decide +kernel
theorem dX7_isKnot_1 : decode cX7_isKnot 1 = .ok (.iconst 0, 1) := by decide +kernel
theorem dX7_isKnot_2 : decode cX7_isKnot 2 = .ok (.aload_n 0, 1) := by decide +kernel
theorem dX7_isKnot_3 : decode cX7_isKnot 3 = .ok (.getfield 7, 3) := by decide +kernel
theorem dX7_isKnot_6 : decode cX7_isKnot 6 = .ok (.iconst 0, 1) := by decide +kernel
theorem dX7_isKnot_7 : decode cX7_isKnot 7 = .ok (.iaload, 1) := by decide +kernel
theorem dX7_isKnot_8 : decode cX7_isKnot 8 = .ok (.iconst 1, 1) := by decide +kernel
theorem dX7_isKnot_9 : decode cX7_isKnot 9 = .ok (.isub, 1) := by decide +kernel
theorem dX7_isKnot_10 : decode cX7_isKnot 10 = .ok (.invokestatic 52, 3) := by decide +kernel
theorem dX7_isKnot_13 : decode cX7_isKnot 13 = .ok (.ireturn, 1) := by decide +kernel
set_option maxRecDepth 20000 in
theorem ggX7_isThread_X7_in : GoodIn wsX7_isThread wsX7_in := goodIn_r _ [5] (by decide +kernel) (by decide +kernel)
set_option maxRecDepth 20000 in
theorem gX7_isThread_X7_in : GoodIn wsX7_isThread (va_wsS RX7 52 yX7_in wsX7_in) := goodIn_app (goodIn_of _ (by decide +kernel)) ggX7_isThread_X7_in
theorem dX7_isThread_0 : decode cX7_isThread 0 = .ok (.iload_n 1, 1) := by decide +kernel
theorem dX7_isThread_1 : decode cX7_isThread 1 = .ok (.iconst 0, 1) := by decide +kernel
theorem dX7_isThread_2 : decode cX7_isThread 2 = .ok (.aload_n 0, 1) := by decide +kernel
theorem dX7_isThread_3 : decode cX7_isThread 3 = .ok (.getfield 7, 3) := by decide +kernel
theorem dX7_isThread_6 : decode cX7_isThread 6 = .ok (.iconst 1, 1) := by decide +kernel
theorem dX7_isThread_7 : decode cX7_isThread 7 = .ok (.iaload, 1) := by decide +kernel
theorem dX7_isThread_8 : decode cX7_isThread 8 = .ok (.iconst 1, 1) := by decide +kernel
theorem dX7_isThread_9 : decode cX7_isThread 9 = .ok (.isub, 1) := by decide +kernel
theorem dX7_isThread_10 : decode cX7_isThread 10 = .ok (.invokestatic 52, 3) := by decide +kernel
theorem dX7_isThread_13 : decode cX7_isThread 13 = .ok (.ireturn, 1) := by decide +kernel
set_option maxRecDepth 20000 in
theorem ggX7_isAt_X7_of : GoodIn wsX7_isAt wsX7_of := goodIn_r _ [5, 6, 7, 8, 9, 10, 11, 12, 13, 14, 15, 16, 17, 18, 19, 20, 21, 22, 23, 24, 25, 26] (by decide +kernel) (by decide +kernel)
set_option maxRecDepth 20000 in
theorem gX7_isAt_X7_of : GoodIn wsX7_isAt (wsV RX7 56 RX7 yX7_of wsX7_of) := goodIn_app (goodIn_of _ (by decide +kernel)) ggX7_isAt_X7_of
theorem dX7_isAt_0 : decode cX7_isAt 0 = .ok (.aload_n 0, 1) := by decide +kernel
theorem dX7_isAt_1 : decode cX7_isAt 1 = .ok (.iload_n 1, 1) := by decide +kernel
theorem dX7_isAt_2 : decode cX7_isAt 2 = .ok (.iconst 0, 1) := by decide +kernel
theorem dX7_isAt_3 : decode cX7_isAt 3 = .ok (.invokevirtual 56, 3) := by decide +kernel
theorem dX7_isAt_6 : decode cX7_isAt 6 = .ok (.iload_n 2, 1) := by decide +kernel
theorem dX7_isAt_7 : decode cX7_isAt 7 = .ok (.if_icmp .eq 13, 3) := by decide +kernel
theorem dX7_isAt_10 : decode cX7_isAt 10 = .ok (.aload_n 0, 1) := by decide +kernel
theorem dX7_isAt_11 : decode cX7_isAt 11 = .ok (.iload_n 1, 1) := by decide +kernel
theorem dX7_isAt_12 : decode cX7_isAt 12 = .ok (.iconst 1, 1) := by decide +kernel
theorem dX7_isAt_13 : decode cX7_isAt 13 = .ok (.invokevirtual 56, 3) := by decide +kernel
theorem dX7_isAt_16 : decode cX7_isAt 16 = .ok (.iload_n 2, 1) := by decide +kernel
theorem dX7_isAt_17 : decode cX7_isAt 17 = .ok (.if_icmp .ne 7, 3) := by decide +kernel
theorem dX7_isAt_20 : decode cX7_isAt 20 = .ok (.iconst 1, 1) := by decide +kernel
theorem dX7_isAt_21 : decode cX7_isAt 21 = .ok (.goto 4, 3) := by decide +kernel
theorem dX7_isAt_24 : decode cX7_isAt 24 = .ok (.iconst 0, 1) := by decide +kernel
theorem dX7_isAt_25 : decode cX7_isAt 25 = .ok (.ireturn, 1) := by decide +kernel
set_option maxRecDepth 20000 in
theorem ggX7_across_X7_of : GoodIn wsX7_across wsX7_of := goodIn_r _ [5, 6, 7, 8, 9, 10, 11, 12, 13, 14, 15, 16, 17, 18, 19, 20, 21, 22, 23, 24, 25, 26] (by decide +kernel) (by decide +kernel)
set_option maxRecDepth 20000 in
theorem gX7_across_X7_of : GoodIn wsX7_across (wsV RX7 56 RX7 yX7_of wsX7_of) := goodIn_app (goodIn_of _ (by decide +kernel)) ggX7_across_X7_of
theorem dX7_across_0 : decode cX7_across 0 = .ok (.aload_n 0, 1) := by decide +kernel
theorem dX7_across_1 : decode cX7_across 1 = .ok (.iload_n 1, 1) := by decide +kernel
theorem dX7_across_2 : decode cX7_across 2 = .ok (.iconst 0, 1) := by decide +kernel
theorem dX7_across_3 : decode cX7_across 3 = .ok (.invokevirtual 56, 3) := by decide +kernel
theorem dX7_across_6 : decode cX7_across 6 = .ok (.iload_n 2, 1) := by decide +kernel
theorem dX7_across_7 : decode cX7_across 7 = .ok (.if_icmp .ne 12, 3) := by decide +kernel
theorem dX7_across_10 : decode cX7_across 10 = .ok (.aload_n 0, 1) := by decide +kernel
theorem dX7_across_11 : decode cX7_across 11 = .ok (.iload_n 1, 1) := by decide +kernel
theorem dX7_across_12 : decode cX7_across 12 = .ok (.iconst 1, 1) := by decide +kernel
theorem dX7_across_13 : decode cX7_across 13 = .ok (.invokevirtual 56, 3) := by decide +kernel
theorem dX7_across_16 : decode cX7_across 16 = .ok (.goto 9, 3) := by decide +kernel
theorem dX7_across_19 : decode cX7_across 19 = .ok (.aload_n 0, 1) := by decide +kernel
theorem dX7_across_20 : decode cX7_across 20 = .ok (.iload_n 1, 1) := by decide +kernel
theorem dX7_across_21 : decode cX7_across 21 = .ok (.iconst 0, 1) := by decide +kernel
theorem dX7_across_22 : decode cX7_across 22 = .ok (.invokevirtual 56, 3) := by decide +kernel
theorem dX7_across_25 : decode cX7_across 25 = .ok (.ireturn, 1) := by decide +kernel
set_option maxRecDepth 20000 in
theorem ggX7_threadsOf_X7_isAt : GoodIn wsX7_threadsOf wsX7_isAt := goodIn_r _ [6, 7, 8, 9, 5, 10, 1, 11, 12, 13, 14, 15, 16, 17, 18, 19, 20, 21, 22, 23, 24, 25, 26, 27, 28, 29, 30] (by decide +kernel) (by decide +kernel)
set_option maxRecDepth 20000 in
theorem gX7_threadsOf_X7_isAt : GoodIn wsX7_threadsOf (wsV RX7 60 RX7 yX7_isAt wsX7_isAt) := goodIn_app (goodIn_of _ (by decide +kernel)) ggX7_threadsOf_X7_isAt
theorem dX7_threadsOf_0 : decode cX7_threadsOf 0 = .ok (.iconst 0, 1) := by decide +kernel
theorem dX7_threadsOf_1 : decode cX7_threadsOf 1 = .ok (.istore_n 2, 1) := by decide +kernel
theorem dX7_threadsOf_2 : decode cX7_threadsOf 2 = .ok (.iconst 0, 1) := by decide +kernel
theorem dX7_threadsOf_3 : decode cX7_threadsOf 3 = .ok (.istore_n 3, 1) := by decide +kernel
theorem dX7_threadsOf_4 : decode cX7_threadsOf 4 = .ok (.iload_n 3, 1) := by decide +kernel
theorem dX7_threadsOf_5 : decode cX7_threadsOf 5 = .ok (.aload_n 0, 1) := by decide +kernel
theorem dX7_threadsOf_6 : decode cX7_threadsOf 6 = .ok (.getfield 7, 3) := by decide +kernel
theorem dX7_threadsOf_9 : decode cX7_threadsOf 9 = .ok (.iconst 1, 1) := by decide +kernel
theorem dX7_threadsOf_10 : decode cX7_threadsOf 10 = .ok (.iaload, 1) := by decide +kernel
theorem dX7_threadsOf_11 : decode cX7_threadsOf 11 = .ok (.if_icmp .ge 28, 3) := by decide +kernel
theorem dX7_threadsOf_14 : decode cX7_threadsOf 14 = .ok (.iload_n 2, 1) := by decide +kernel
theorem dX7_threadsOf_15 : decode cX7_threadsOf 15 = .ok (.aload_n 0, 1) := by decide +kernel
theorem dX7_threadsOf_16 : decode cX7_threadsOf 16 = .ok (.iload_n 3, 1) := by decide +kernel
theorem dX7_threadsOf_17 : decode cX7_threadsOf 17 = .ok (.iload_n 1, 1) := by decide +kernel
theorem dX7_threadsOf_18 : decode cX7_threadsOf 18 = .ok (.invokevirtual 60, 3) := by decide +kernel
theorem dX7_threadsOf_21 : decode cX7_threadsOf 21 = .ok (.ifCond .eq 9, 3) := by decide +kernel
theorem dX7_threadsOf_24 : decode cX7_threadsOf 24 = .ok (.iconst 1, 1) := by decide +kernel
theorem dX7_threadsOf_25 : decode cX7_threadsOf 25 = .ok (.iload_n 3, 1) := by decide +kernel
theorem dX7_threadsOf_26 : decode cX7_threadsOf 26 = .ok (.ishl, 1) := by decide +kernel
theorem dX7_threadsOf_27 : decode cX7_threadsOf 27 = .ok (.goto 4, 3) := by decide +kernel
theorem dX7_threadsOf_30 : decode cX7_threadsOf 30 = .ok (.iconst 0, 1) := by decide +kernel
theorem dX7_threadsOf_31 : decode cX7_threadsOf 31 = .ok (.ior, 1) := by decide +kernel
theorem dX7_threadsOf_32 : decode cX7_threadsOf 32 = .ok (.istore_n 2, 1) := by decide +kernel
theorem dX7_threadsOf_33 : decode cX7_threadsOf 33 = .ok (.iinc 3 1, 3) := by decide +kernel
theorem dX7_threadsOf_36 : decode cX7_threadsOf 36 = .ok (.goto (-32), 3) := by decide +kernel
theorem dX7_threadsOf_39 : decode cX7_threadsOf 39 = .ok (.iload_n 2, 1) := by decide +kernel
theorem dX7_threadsOf_40 : decode cX7_threadsOf 40 = .ok (.ireturn, 1) := by decide +kernel
set_option maxRecDepth 20000 in
theorem ggX7_degree_X7_threadsOf : GoodIn wsX7_degree wsX7_threadsOf := goodIn_r _ [5, 6, 7, 8, 9, 4, 10, 11, 12, 13, 14, 18, 19, 20, 21, 22, 23, 24, 25, 26, 27, 28, 29, 30, 31, 32, 33, 34, 35, 36, 37] (by decide +kernel) (by decide +kernel)
set_option maxRecDepth 20000 in
theorem gX7_degree_X7_threadsOf : GoodIn wsX7_degree (wsV RX7 63 RX7 yX7_threadsOf wsX7_threadsOf) := goodIn_app (goodIn_of _ (by decide +kernel)) ggX7_degree_X7_threadsOf
set_option maxRecDepth 20000 in
theorem ggX7_degree_X7_ones : GoodIn wsX7_degree wsX7_ones := goodIn_r _ [17] (by decide +kernel) (by decide +kernel)
set_option maxRecDepth 20000 in
theorem gX7_degree_X7_ones : GoodIn wsX7_degree (va_wsS RX7 67 yX7_ones wsX7_ones) := goodIn_app (goodIn_of _ (by decide +kernel)) ggX7_degree_X7_ones
theorem dX7_degree_0 : decode cX7_degree 0 = .ok (.aload_n 0, 1) := by decide +kernel
theorem dX7_degree_1 : decode cX7_degree 1 = .ok (.iload_n 1, 1) := by decide +kernel
theorem dX7_degree_2 : decode cX7_degree 2 = .ok (.invokevirtual 63, 3) := by decide +kernel
theorem dX7_degree_5 : decode cX7_degree 5 = .ok (.invokestatic 67, 3) := by decide +kernel
theorem dX7_degree_8 : decode cX7_degree 8 = .ok (.ireturn, 1) := by decide +kernel
set_option maxRecDepth 20000 in
theorem ggX7_neighbours_X7_isAt : GoodIn wsX7_neighbours wsX7_isAt := goodIn_r _ [6, 7, 8, 9, 5, 10, 1, 15, 16, 17, 18, 19, 20, 21, 22, 23, 24, 25, 26, 27, 28, 29, 30, 31, 32, 33, 34] (by decide +kernel) (by decide +kernel)
set_option maxRecDepth 20000 in
theorem gX7_neighbours_X7_isAt : GoodIn wsX7_neighbours (wsV RX7 60 RX7 yX7_isAt wsX7_isAt) := goodIn_app (goodIn_of _ (by decide +kernel)) ggX7_neighbours_X7_isAt
set_option maxRecDepth 20000 in
theorem ggX7_neighbours_X7_across : GoodIn wsX7_neighbours wsX7_across := goodIn_r _ [14, 7, 8, 9, 5, 10, 1, 15, 16, 17, 18, 19, 20, 21, 22, 23, 24, 25, 26, 27, 28, 29, 30, 31, 32, 33, 34] (by decide +kernel) (by decide +kernel)
set_option maxRecDepth 20000 in
theorem gX7_neighbours_X7_across : GoodIn wsX7_neighbours (wsV RX7 70 RX7 yX7_across wsX7_across) := goodIn_app (goodIn_of _ (by decide +kernel)) ggX7_neighbours_X7_across
theorem dX7_neighbours_0 : decode cX7_neighbours 0 = .ok (.iconst 0, 1) := by decide +kernel
theorem dX7_neighbours_1 : decode cX7_neighbours 1 = .ok (.istore_n 2, 1) := by decide +kernel
theorem dX7_neighbours_2 : decode cX7_neighbours 2 = .ok (.iconst 0, 1) := by decide +kernel
theorem dX7_neighbours_3 : decode cX7_neighbours 3 = .ok (.istore_n 3, 1) := by decide +kernel
theorem dX7_neighbours_4 : decode cX7_neighbours 4 = .ok (.iload_n 3, 1) := by decide +kernel
theorem dX7_neighbours_5 : decode cX7_neighbours 5 = .ok (.aload_n 0, 1) := by decide +kernel
theorem dX7_neighbours_6 : decode cX7_neighbours 6 = .ok (.getfield 7, 3) := by decide +kernel
theorem dX7_neighbours_9 : decode cX7_neighbours 9 = .ok (.iconst 1, 1) := by decide +kernel
theorem dX7_neighbours_10 : decode cX7_neighbours 10 = .ok (.iaload, 1) := by decide +kernel
theorem dX7_neighbours_11 : decode cX7_neighbours 11 = .ok (.if_icmp .ge 33, 3) := by decide +kernel
theorem dX7_neighbours_14 : decode cX7_neighbours 14 = .ok (.iload_n 2, 1) := by decide +kernel
theorem dX7_neighbours_15 : decode cX7_neighbours 15 = .ok (.aload_n 0, 1) := by decide +kernel
theorem dX7_neighbours_16 : decode cX7_neighbours 16 = .ok (.iload_n 3, 1) := by decide +kernel
theorem dX7_neighbours_17 : decode cX7_neighbours 17 = .ok (.iload_n 1, 1) := by decide +kernel
theorem dX7_neighbours_18 : decode cX7_neighbours 18 = .ok (.invokevirtual 60, 3) := by decide +kernel
theorem dX7_neighbours_21 : decode cX7_neighbours 21 = .ok (.ifCond .eq 14, 3) := by decide +kernel
theorem dX7_neighbours_24 : decode cX7_neighbours 24 = .ok (.iconst 1, 1) := by decide +kernel
theorem dX7_neighbours_25 : decode cX7_neighbours 25 = .ok (.aload_n 0, 1) := by decide +kernel
theorem dX7_neighbours_26 : decode cX7_neighbours 26 = .ok (.iload_n 3, 1) := by decide +kernel
theorem dX7_neighbours_27 : decode cX7_neighbours 27 = .ok (.iload_n 1, 1) := by decide +kernel
theorem dX7_neighbours_28 : decode cX7_neighbours 28 = .ok (.invokevirtual 70, 3) := by decide +kernel
theorem dX7_neighbours_31 : decode cX7_neighbours 31 = .ok (.ishl, 1) := by decide +kernel
theorem dX7_neighbours_32 : decode cX7_neighbours 32 = .ok (.goto 4, 3) := by decide +kernel
theorem dX7_neighbours_35 : decode cX7_neighbours 35 = .ok (.iconst 0, 1) := by decide +kernel
theorem dX7_neighbours_36 : decode cX7_neighbours 36 = .ok (.ior, 1) := by decide +kernel
theorem dX7_neighbours_37 : decode cX7_neighbours 37 = .ok (.istore_n 2, 1) := by decide +kernel
theorem dX7_neighbours_38 : decode cX7_neighbours 38 = .ok (.iinc 3 1, 3) := by decide +kernel
theorem dX7_neighbours_41 : decode cX7_neighbours 41 = .ok (.goto (-37), 3) := by decide +kernel
theorem dX7_neighbours_44 : decode cX7_neighbours 44 = .ok (.iload_n 2, 1) := by decide +kernel
theorem dX7_neighbours_45 : decode cX7_neighbours 45 = .ok (.ireturn, 1) := by decide +kernel
set_option maxRecDepth 20000 in
theorem ggX7_threadBetween_X7_isAt : GoodIn wsX7_threadBetween wsX7_isAt := goodIn_r _ [6, 7, 8, 9, 5, 10, 1, 11, 12, 13, 14, 15, 16, 17, 18, 19, 20, 21, 22, 23, 24, 25, 26, 27, 28, 29, 30] (by decide +kernel) (by decide +kernel)
set_option maxRecDepth 20000 in
theorem gX7_threadBetween_X7_isAt : GoodIn wsX7_threadBetween (wsV RX7 60 RX7 yX7_isAt wsX7_isAt) := goodIn_app (goodIn_of _ (by decide +kernel)) ggX7_threadBetween_X7_isAt
theorem dX7_threadBetween_0 : decode cX7_threadBetween 0 = .ok (.iconst 0, 1) := by decide +kernel
theorem dX7_threadBetween_1 : decode cX7_threadBetween 1 = .ok (.istore_n 3, 1) := by decide +kernel
theorem dX7_threadBetween_2 : decode cX7_threadBetween 2 = .ok (.iload_n 3, 1) := by decide +kernel
theorem dX7_threadBetween_3 : decode cX7_threadBetween 3 = .ok (.aload_n 0, 1) := by decide +kernel
theorem dX7_threadBetween_4 : decode cX7_threadBetween 4 = .ok (.getfield 7, 3) := by decide +kernel
theorem dX7_threadBetween_7 : decode cX7_threadBetween 7 = .ok (.iconst 1, 1) := by decide +kernel
theorem dX7_threadBetween_8 : decode cX7_threadBetween 8 = .ok (.iaload, 1) := by decide +kernel
theorem dX7_threadBetween_9 : decode cX7_threadBetween 9 = .ok (.if_icmp .ge 34, 3) := by decide +kernel
theorem dX7_threadBetween_12 : decode cX7_threadBetween 12 = .ok (.iload_n 1, 1) := by decide +kernel
theorem dX7_threadBetween_13 : decode cX7_threadBetween 13 = .ok (.iload_n 2, 1) := by decide +kernel
theorem dX7_threadBetween_14 : decode cX7_threadBetween 14 = .ok (.if_icmp .eq 23, 3) := by decide +kernel
theorem dX7_threadBetween_17 : decode cX7_threadBetween 17 = .ok (.aload_n 0, 1) := by decide +kernel
theorem dX7_threadBetween_18 : decode cX7_threadBetween 18 = .ok (.iload_n 3, 1) := by decide +kernel
theorem dX7_threadBetween_19 : decode cX7_threadBetween 19 = .ok (.iload_n 1, 1) := by decide +kernel
theorem dX7_threadBetween_20 : decode cX7_threadBetween 20 = .ok (.invokevirtual 60, 3) := by decide +kernel
theorem dX7_threadBetween_23 : decode cX7_threadBetween 23 = .ok (.ifCond .eq 14, 3) := by decide +kernel
theorem dX7_threadBetween_26 : decode cX7_threadBetween 26 = .ok (.aload_n 0, 1) := by decide +kernel
theorem dX7_threadBetween_27 : decode cX7_threadBetween 27 = .ok (.iload_n 3, 1) := by decide +kernel
theorem dX7_threadBetween_28 : decode cX7_threadBetween 28 = .ok (.iload_n 2, 1) := by decide +kernel
theorem dX7_threadBetween_29 : decode cX7_threadBetween 29 = .ok (.invokevirtual 60, 3) := by decide +kernel
theorem dX7_threadBetween_32 : decode cX7_threadBetween 32 = .ok (.ifCond .eq 5, 3) := by decide +kernel
theorem dX7_threadBetween_35 : decode cX7_threadBetween 35 = .ok (.iload_n 3, 1) := by decide +kernel
theorem dX7_threadBetween_36 : decode cX7_threadBetween 36 = .ok (.ireturn, 1) := by decide +kernel
theorem dX7_threadBetween_37 : decode cX7_threadBetween 37 = .ok (.iinc 3 1, 3) := by decide +kernel
theorem dX7_threadBetween_40 : decode cX7_threadBetween 40 = .ok (.goto (-38), 3) := by decide +kernel
theorem dX7_threadBetween_43 : decode cX7_threadBetween 43 = .ok (.bipush (-5), 2) := by decide +kernel
theorem dX7_threadBetween_45 : decode cX7_threadBetween 45 = .ok (.ireturn, 1) := by decide +kernel
theorem dX7_dropThread_0 : decode cX7_dropThread 0 = .ok (.aload_n 0, 1) := by decide +kernel
theorem dX7_dropThread_1 : decode cX7_dropThread 1 = .ok (.getfield 7, 3) := by decide +kernel
theorem dX7_dropThread_4 : decode cX7_dropThread 4 = .ok (.iconst 1, 1) := by decide +kernel
theorem dX7_dropThread_5 : decode cX7_dropThread 5 = .ok (.dup2, 1) := by decide +kernel
theorem dX7_dropThread_6 : decode cX7_dropThread 6 = .ok (.iaload, 1) := by decide +kernel
theorem dX7_dropThread_7 : decode cX7_dropThread 7 = .ok (.iconst 1, 1) := by decide +kernel
theorem dX7_dropThread_8 : decode cX7_dropThread 8 = .ok (.isub, 1) := by decide +kernel
theorem dX7_dropThread_9 : decode cX7_dropThread 9 = .ok (.iastore, 1) := by decide +kernel
theorem dX7_dropThread_10 : decode cX7_dropThread 10 = .ok (.iconst 2, 1) := by decide +kernel
theorem dX7_dropThread_11 : decode cX7_dropThread 11 = .ok (.iconst 3, 1) := by decide +kernel
theorem dX7_dropThread_12 : decode cX7_dropThread 12 = .ok (.iload_n 1, 1) := by decide +kernel
theorem dX7_dropThread_13 : decode cX7_dropThread 13 = .ok (.imul, 1) := by decide +kernel
theorem dX7_dropThread_14 : decode cX7_dropThread 14 = .ok (.iadd, 1) := by decide +kernel
theorem dX7_dropThread_15 : decode cX7_dropThread 15 = .ok (.istore_n 2, 1) := by decide +kernel
theorem dX7_dropThread_16 : decode cX7_dropThread 16 = .ok (.iload_n 2, 1) := by decide +kernel
theorem dX7_dropThread_17 : decode cX7_dropThread 17 = .ok (.iconst 2, 1) := by decide +kernel
theorem dX7_dropThread_18 : decode cX7_dropThread 18 = .ok (.iconst 3, 1) := by decide +kernel
theorem dX7_dropThread_19 : decode cX7_dropThread 19 = .ok (.aload_n 0, 1) := by decide +kernel
theorem dX7_dropThread_20 : decode cX7_dropThread 20 = .ok (.getfield 7, 3) := by decide +kernel
theorem dX7_dropThread_23 : decode cX7_dropThread 23 = .ok (.iconst 1, 1) := by decide +kernel
theorem dX7_dropThread_24 : decode cX7_dropThread 24 = .ok (.iaload, 1) := by decide +kernel
theorem dX7_dropThread_25 : decode cX7_dropThread 25 = .ok (.imul, 1) := by decide +kernel
theorem dX7_dropThread_26 : decode cX7_dropThread 26 = .ok (.iadd, 1) := by decide +kernel
theorem dX7_dropThread_27 : decode cX7_dropThread 27 = .ok (.if_icmp .ge 23, 3) := by decide +kernel
theorem dX7_dropThread_30 : decode cX7_dropThread 30 = .ok (.aload_n 0, 1) := by decide +kernel
theorem dX7_dropThread_31 : decode cX7_dropThread 31 = .ok (.getfield 7, 3) := by decide +kernel
theorem dX7_dropThread_34 : decode cX7_dropThread 34 = .ok (.iload_n 2, 1) := by decide +kernel
theorem dX7_dropThread_35 : decode cX7_dropThread 35 = .ok (.aload_n 0, 1) := by decide +kernel
theorem dX7_dropThread_36 : decode cX7_dropThread 36 = .ok (.getfield 7, 3) := by decide +kernel
theorem dX7_dropThread_39 : decode cX7_dropThread 39 = .ok (.iload_n 2, 1) := by decide +kernel
theorem dX7_dropThread_40 : decode cX7_dropThread 40 = .ok (.iconst 3, 1) := by decide +kernel
theorem dX7_dropThread_41 : decode cX7_dropThread 41 = .ok (.iadd, 1) := by decide +kernel
theorem dX7_dropThread_42 : decode cX7_dropThread 42 = .ok (.iaload, 1) := by decide +kernel
theorem dX7_dropThread_43 : decode cX7_dropThread 43 = .ok (.iastore, 1) := by decide +kernel
theorem dX7_dropThread_44 : decode cX7_dropThread 44 = .ok (.iinc 2 1, 3) := by decide +kernel
theorem dX7_dropThread_47 : decode cX7_dropThread 47 = .ok (.goto (-31), 3) := by decide +kernel
theorem dX7_dropThread_50 : decode cX7_dropThread 50 = .ok (.return_, 1) := by decide +kernel
set_option maxRecDepth 20000 in
theorem ggX7_dropKnot_X7_of : GoodIn wsX7_dropKnot wsX7_of := goodIn_r _ [6, 1, 11, 12, 13, 14, 15, 16, 17, 18, 19, 20, 21, 22, 23, 24, 25, 26, 27, 28, 29, 30] (by decide +kernel) (by decide +kernel)
set_option maxRecDepth 20000 in
theorem gX7_dropKnot_X7_of : GoodIn wsX7_dropKnot (wsV RX7 56 RX7 yX7_of wsX7_of) := goodIn_app (goodIn_of _ (by decide +kernel)) ggX7_dropKnot_X7_of
set_option maxRecDepth 20000 in
theorem ggX7_dropKnot_X7_put : GoodIn wsX7_dropKnot wsX7_put := goodIn_r _ [10, 1, 11, 12, 13, 14, 15, 16, 17, 18, 19, 20, 21, 22, 23, 24, 25, 26, 27, 28, 29, 30] (by decide +kernel) (by decide +kernel)
set_option maxRecDepth 20000 in
theorem gX7_dropKnot_X7_put : GoodIn wsX7_dropKnot (wsV RX7 48 RX7 yX7_put wsX7_put) := goodIn_app (goodIn_of _ (by decide +kernel)) ggX7_dropKnot_X7_put
theorem dX7_dropKnot_0 : decode cX7_dropKnot 0 = .ok (.aload_n 0, 1) := by decide +kernel
theorem dX7_dropKnot_1 : decode cX7_dropKnot 1 = .ok (.getfield 7, 3) := by decide +kernel
theorem dX7_dropKnot_4 : decode cX7_dropKnot 4 = .ok (.iconst 0, 1) := by decide +kernel
theorem dX7_dropKnot_5 : decode cX7_dropKnot 5 = .ok (.dup2, 1) := by decide +kernel
theorem dX7_dropKnot_6 : decode cX7_dropKnot 6 = .ok (.iaload, 1) := by decide +kernel
theorem dX7_dropKnot_7 : decode cX7_dropKnot 7 = .ok (.iconst 1, 1) := by decide +kernel
theorem dX7_dropKnot_8 : decode cX7_dropKnot 8 = .ok (.isub, 1) := by decide +kernel
theorem dX7_dropKnot_9 : decode cX7_dropKnot 9 = .ok (.iastore, 1) := by decide +kernel
theorem dX7_dropKnot_10 : decode cX7_dropKnot 10 = .ok (.iconst 0, 1) := by decide +kernel
theorem dX7_dropKnot_11 : decode cX7_dropKnot 11 = .ok (.istore_n 2, 1) := by decide +kernel
theorem dX7_dropKnot_12 : decode cX7_dropKnot 12 = .ok (.iload_n 2, 1) := by decide +kernel
theorem dX7_dropKnot_13 : decode cX7_dropKnot 13 = .ok (.aload_n 0, 1) := by decide +kernel
theorem dX7_dropKnot_14 : decode cX7_dropKnot 14 = .ok (.getfield 7, 3) := by decide +kernel
theorem dX7_dropKnot_17 : decode cX7_dropKnot 17 = .ok (.iconst 1, 1) := by decide +kernel
theorem dX7_dropKnot_18 : decode cX7_dropKnot 18 = .ok (.iaload, 1) := by decide +kernel
theorem dX7_dropKnot_19 : decode cX7_dropKnot 19 = .ok (.if_icmp .ge 62, 3) := by decide +kernel
theorem dX7_dropKnot_22 : decode cX7_dropKnot 22 = .ok (.aload_n 0, 1) := by decide +kernel
theorem dX7_dropKnot_23 : decode cX7_dropKnot 23 = .ok (.iload_n 2, 1) := by decide +kernel
theorem dX7_dropKnot_24 : decode cX7_dropKnot 24 = .ok (.iconst 0, 1) := by decide +kernel
theorem dX7_dropKnot_25 : decode cX7_dropKnot 25 = .ok (.invokevirtual 56, 3) := by decide +kernel
theorem dX7_dropKnot_28 : decode cX7_dropKnot 28 = .ok (.istore_n 3, 1) := by decide +kernel
theorem dX7_dropKnot_29 : decode cX7_dropKnot 29 = .ok (.aload_n 0, 1) := by decide +kernel
theorem dX7_dropKnot_30 : decode cX7_dropKnot 30 = .ok (.iload_n 2, 1) := by decide +kernel
theorem dX7_dropKnot_31 : decode cX7_dropKnot 31 = .ok (.iconst 1, 1) := by decide +kernel
theorem dX7_dropKnot_32 : decode cX7_dropKnot 32 = .ok (.invokevirtual 56, 3) := by decide +kernel
theorem dX7_dropKnot_35 : decode cX7_dropKnot 35 = .ok (.istore 4, 2) := by decide +kernel
theorem dX7_dropKnot_37 : decode cX7_dropKnot 37 = .ok (.aload_n 0, 1) := by decide +kernel
theorem dX7_dropKnot_38 : decode cX7_dropKnot 38 = .ok (.iload_n 2, 1) := by decide +kernel
theorem dX7_dropKnot_39 : decode cX7_dropKnot 39 = .ok (.iload_n 3, 1) := by decide +kernel
theorem dX7_dropKnot_40 : decode cX7_dropKnot 40 = .ok (.iload_n 1, 1) := by decide +kernel
theorem dX7_dropKnot_41 : decode cX7_dropKnot 41 = .ok (.if_icmp .le 9, 3) := by decide +kernel
theorem dX7_dropKnot_44 : decode cX7_dropKnot 44 = .ok (.iload_n 3, 1) := by decide +kernel
theorem dX7_dropKnot_45 : decode cX7_dropKnot 45 = .ok (.iconst 1, 1) := by decide +kernel
theorem dX7_dropKnot_46 : decode cX7_dropKnot 46 = .ok (.isub, 1) := by decide +kernel
theorem dX7_dropKnot_47 : decode cX7_dropKnot 47 = .ok (.goto 4, 3) := by decide +kernel
theorem dX7_dropKnot_50 : decode cX7_dropKnot 50 = .ok (.iload_n 3, 1) := by decide +kernel
theorem dX7_dropKnot_51 : decode cX7_dropKnot 51 = .ok (.iload 4, 2) := by decide +kernel
theorem dX7_dropKnot_53 : decode cX7_dropKnot 53 = .ok (.iload_n 1, 1) := by decide +kernel
theorem dX7_dropKnot_54 : decode cX7_dropKnot 54 = .ok (.if_icmp .le 10, 3) := by decide +kernel
theorem dX7_dropKnot_57 : decode cX7_dropKnot 57 = .ok (.iload 4, 2) := by decide +kernel
theorem dX7_dropKnot_59 : decode cX7_dropKnot 59 = .ok (.iconst 1, 1) := by decide +kernel
theorem dX7_dropKnot_60 : decode cX7_dropKnot 60 = .ok (.isub, 1) := by decide +kernel
theorem dX7_dropKnot_61 : decode cX7_dropKnot 61 = .ok (.goto 5, 3) := by decide +kernel
theorem dX7_dropKnot_64 : decode cX7_dropKnot 64 = .ok (.iload 4, 2) := by decide +kernel
theorem dX7_dropKnot_66 : decode cX7_dropKnot 66 = .ok (.aload_n 0, 1) := by decide +kernel
theorem dX7_dropKnot_67 : decode cX7_dropKnot 67 = .ok (.iload_n 2, 1) := by decide +kernel
theorem dX7_dropKnot_68 : decode cX7_dropKnot 68 = .ok (.iconst 2, 1) := by decide +kernel
theorem dX7_dropKnot_69 : decode cX7_dropKnot 69 = .ok (.invokevirtual 56, 3) := by decide +kernel
theorem dX7_dropKnot_72 : decode cX7_dropKnot 72 = .ok (.invokevirtual 48, 3) := by decide +kernel
theorem dX7_dropKnot_75 : decode cX7_dropKnot 75 = .ok (.iinc 2 1, 3) := by decide +kernel
theorem dX7_dropKnot_78 : decode cX7_dropKnot 78 = .ok (.goto (-66), 3) := by decide +kernel
theorem dX7_dropKnot_81 : decode cX7_dropKnot 81 = .ok (.return_, 1) := by decide +kernel
set_option maxRecDepth 20000 in
theorem ggX7_isFullNet_X7_degree : GoodIn wsX7_isFullNet wsX7_degree := goodIn_r _ [6, 7, 8, 9, 5, 10, 1, 11, 12, 13, 14, 15, 16, 17, 18, 19, 20, 21, 22, 23, 24, 25, 26, 27, 28, 29, 30, 31, 32, 33, 34, 35, 36, 37, 38, 39, 40, 41] (by decide +kernel) (by decide +kernel)
set_option maxRecDepth 20000 in
theorem gX7_isFullNet_X7_degree : GoodIn wsX7_isFullNet (wsV RX7 73 RX7 yX7_degree wsX7_degree) := goodIn_app (goodIn_of _ (by decide +kernel)) ggX7_isFullNet_X7_degree
theorem dX7_isFullNet_0 : decode cX7_isFullNet 0 = .ok (.aload_n 0, 1) := by decide +kernel
theorem dX7_isFullNet_1 : decode cX7_isFullNet 1 = .ok (.getfield 7, 3) := by decide +kernel
theorem dX7_isFullNet_4 : decode cX7_isFullNet 4 = .ok (.iconst 0, 1) := by decide +kernel
theorem dX7_isFullNet_5 : decode cX7_isFullNet 5 = .ok (.iaload, 1) := by decide +kernel
theorem dX7_isFullNet_6 : decode cX7_isFullNet 6 = .ok (.ifCond .le 7, 3) := by decide +kernel
theorem dX7_isFullNet_9 : decode cX7_isFullNet 9 = .ok (.iconst 1, 1) := by decide +kernel
theorem dX7_isFullNet_10 : decode cX7_isFullNet 10 = .ok (.goto 4, 3) := by decide +kernel
theorem dX7_isFullNet_13 : decode cX7_isFullNet 13 = .ok (.iconst 0, 1) := by decide +kernel
theorem dX7_isFullNet_14 : decode cX7_isFullNet 14 = .ok (.istore_n 1, 1) := by decide +kernel
theorem dX7_isFullNet_15 : decode cX7_isFullNet 15 = .ok (.iconst 0, 1) := by decide +kernel
theorem dX7_isFullNet_16 : decode cX7_isFullNet 16 = .ok (.istore_n 2, 1) := by decide +kernel
theorem dX7_isFullNet_17 : decode cX7_isFullNet 17 = .ok (.iload_n 2, 1) := by decide +kernel
theorem dX7_isFullNet_18 : decode cX7_isFullNet 18 = .ok (.aload_n 0, 1) := by decide +kernel
theorem dX7_isFullNet_19 : decode cX7_isFullNet 19 = .ok (.getfield 7, 3) := by decide +kernel
theorem dX7_isFullNet_22 : decode cX7_isFullNet 22 = .ok (.iconst 0, 1) := by decide +kernel
theorem dX7_isFullNet_23 : decode cX7_isFullNet 23 = .ok (.iaload, 1) := by decide +kernel
theorem dX7_isFullNet_24 : decode cX7_isFullNet 24 = .ok (.if_icmp .ge 28, 3) := by decide +kernel
theorem dX7_isFullNet_27 : decode cX7_isFullNet 27 = .ok (.iload_n 1, 1) := by decide +kernel
theorem dX7_isFullNet_28 : decode cX7_isFullNet 28 = .ok (.ifCond .eq 16, 3) := by decide +kernel
theorem dX7_isFullNet_31 : decode cX7_isFullNet 31 = .ok (.aload_n 0, 1) := by decide +kernel
theorem dX7_isFullNet_32 : decode cX7_isFullNet 32 = .ok (.iload_n 2, 1) := by decide +kernel
theorem dX7_isFullNet_33 : decode cX7_isFullNet 33 = .ok (.invokevirtual 73, 3) := by decide +kernel
theorem dX7_isFullNet_36 : decode cX7_isFullNet 36 = .ok (.iconst 3, 1) := by decide +kernel
theorem dX7_isFullNet_37 : decode cX7_isFullNet 37 = .ok (.if_icmp .ne 7, 3) := by decide +kernel
theorem dX7_isFullNet_40 : decode cX7_isFullNet 40 = .ok (.iconst 1, 1) := by decide +kernel
theorem dX7_isFullNet_41 : decode cX7_isFullNet 41 = .ok (.goto 4, 3) := by decide +kernel
theorem dX7_isFullNet_44 : decode cX7_isFullNet 44 = .ok (.iconst 0, 1) := by decide +kernel
theorem dX7_isFullNet_45 : decode cX7_isFullNet 45 = .ok (.istore_n 1, 1) := by decide +kernel
theorem dX7_isFullNet_46 : decode cX7_isFullNet 46 = .ok (.iinc 2 1, 3) := by decide +kernel
theorem dX7_isFullNet_49 : decode cX7_isFullNet 49 = .ok (.goto (-32), 3) := by decide +kernel
theorem dX7_isFullNet_52 : decode cX7_isFullNet 52 = .ok (.iload_n 1, 1) := by decide +kernel
theorem dX7_isFullNet_53 : decode cX7_isFullNet 53 = .ok (.ireturn, 1) := by decide +kernel
theorem dX7_records_0 : decode cX7_records 0 = .ok (.aload_n 0, 1) := by decide +kernel
theorem dX7_records_1 : decode cX7_records 1 = .ok (.getfield 76, 3) := by decide +kernel
theorem dX7_records_4 : decode cX7_records 4 = .ok (.iconst 4, 1) := by decide +kernel
theorem dX7_records_5 : decode cX7_records 5 = .ok (.if_icmp .ne 43, 3) := by decide +kernel
theorem dX7_records_8 : decode cX7_records 8 = .ok (.iconst 0, 1) := by decide +kernel
theorem dX7_records_9 : decode cX7_records 9 = .ok (.istore_n 1, 1) := by decide +kernel
theorem dX7_records_10 : decode cX7_records 10 = .ok (.iload_n 1, 1) := by decide +kernel
theorem dX7_records_11 : decode cX7_records 11 = .ok (.sipush 195, 3) := by decide +kernel
theorem dX7_records_14 : decode cX7_records 14 = .ok (.if_icmp .ge 24, 3) := by decide +kernel
theorem dX7_records_17 : decode cX7_records 17 = .ok (.aload_n 0, 1) := by decide +kernel
theorem dX7_records_18 : decode cX7_records 18 = .ok (.getfield 13, 3) := by decide +kernel
theorem dX7_records_21 : decode cX7_records 21 = .ok (.iload_n 1, 1) := by decide +kernel
theorem dX7_records_22 : decode cX7_records 22 = .ok (.aload_n 0, 1) := by decide +kernel
theorem dX7_records_23 : decode cX7_records 23 = .ok (.getfield 13, 3) := by decide +kernel
theorem dX7_records_26 : decode cX7_records 26 = .ok (.iload_n 1, 1) := by decide +kernel
theorem dX7_records_27 : decode cX7_records 27 = .ok (.bipush 65, 2) := by decide +kernel
theorem dX7_records_29 : decode cX7_records 29 = .ok (.iadd, 1) := by decide +kernel
theorem dX7_records_30 : decode cX7_records 30 = .ok (.iaload, 1) := by decide +kernel
theorem dX7_records_31 : decode cX7_records 31 = .ok (.iastore, 1) := by decide +kernel
theorem dX7_records_32 : decode cX7_records 32 = .ok (.iinc 1 1, 3) := by decide +kernel
theorem dX7_records_35 : decode cX7_records 35 = .ok (.goto (-25), 3) := by decide +kernel
theorem dX7_records_38 : decode cX7_records 38 = .ok (.aload_n 0, 1) := by decide +kernel
theorem dX7_records_39 : decode cX7_records 39 = .ok (.dup, 1) := by decide +kernel
theorem dX7_records_40 : decode cX7_records 40 = .ok (.getfield 76, 3) := by decide +kernel
theorem dX7_records_43 : decode cX7_records 43 = .ok (.iconst 1, 1) := by decide +kernel
theorem dX7_records_44 : decode cX7_records 44 = .ok (.isub, 1) := by decide +kernel
theorem dX7_records_45 : decode cX7_records 45 = .ok (.putfield 76, 3) := by decide +kernel
theorem dX7_records_48 : decode cX7_records 48 = .ok (.iconst 0, 1) := by decide +kernel
theorem dX7_records_49 : decode cX7_records 49 = .ok (.istore_n 1, 1) := by decide +kernel
theorem dX7_records_50 : decode cX7_records 50 = .ok (.iload_n 1, 1) := by decide +kernel
theorem dX7_records_51 : decode cX7_records 51 = .ok (.bipush 65, 2) := by decide +kernel
theorem dX7_records_53 : decode cX7_records 53 = .ok (.if_icmp .ge 29, 3) := by decide +kernel
theorem dX7_records_56 : decode cX7_records 56 = .ok (.aload_n 0, 1) := by decide +kernel
theorem dX7_records_57 : decode cX7_records 57 = .ok (.getfield 13, 3) := by decide +kernel
theorem dX7_records_60 : decode cX7_records 60 = .ok (.bipush 65, 2) := by decide +kernel
theorem dX7_records_62 : decode cX7_records 62 = .ok (.aload_n 0, 1) := by decide +kernel
theorem dX7_records_63 : decode cX7_records 63 = .ok (.getfield 76, 3) := by decide +kernel
theorem dX7_records_66 : decode cX7_records 66 = .ok (.imul, 1) := by decide +kernel
theorem dX7_records_67 : decode cX7_records 67 = .ok (.iload_n 1, 1) := by decide +kernel
theorem dX7_records_68 : decode cX7_records 68 = .ok (.iadd, 1) := by decide +kernel
theorem dX7_records_69 : decode cX7_records 69 = .ok (.aload_n 0, 1) := by decide +kernel
theorem dX7_records_70 : decode cX7_records 70 = .ok (.getfield 7, 3) := by decide +kernel
theorem dX7_records_73 : decode cX7_records 73 = .ok (.iload_n 1, 1) := by decide +kernel
theorem dX7_records_74 : decode cX7_records 74 = .ok (.iaload, 1) := by decide +kernel
theorem dX7_records_75 : decode cX7_records 75 = .ok (.iastore, 1) := by decide +kernel
theorem dX7_records_76 : decode cX7_records 76 = .ok (.iinc 1 1, 3) := by decide +kernel
theorem dX7_records_79 : decode cX7_records 79 = .ok (.goto (-29), 3) := by decide +kernel
theorem dX7_records_82 : decode cX7_records 82 = .ok (.aload_n 0, 1) := by decide +kernel
theorem dX7_records_83 : decode cX7_records 83 = .ok (.dup, 1) := by decide +kernel
theorem dX7_records_84 : decode cX7_records 84 = .ok (.getfield 76, 3) := by decide +kernel
theorem dX7_records_87 : decode cX7_records 87 = .ok (.iconst 1, 1) := by decide +kernel
theorem dX7_records_88 : decode cX7_records 88 = .ok (.iadd, 1) := by decide +kernel
theorem dX7_records_89 : decode cX7_records 89 = .ok (.putfield 76, 3) := by decide +kernel
theorem dX7_records_92 : decode cX7_records 92 = .ok (.return_, 1) := by decide +kernel
theorem dX7_undo_0 : decode cX7_undo 0 = .ok (.aload_n 0, 1) := by decide +kernel
theorem dX7_undo_1 : decode cX7_undo 1 = .ok (.getfield 76, 3) := by decide +kernel
theorem dX7_undo_4 : decode cX7_undo 4 = .ok (.ifCond .ne 6, 3) := by decide +kernel
theorem dX7_undo_7 : decode cX7_undo 7 = .ok (.bipush (-5), 2) := by decide +kernel
theorem dX7_undo_9 : decode cX7_undo 9 = .ok (.ireturn, 1) := by decide +kernel
theorem dX7_undo_10 : decode cX7_undo 10 = .ok (.aload_n 0, 1) := by decide +kernel
theorem dX7_undo_11 : decode cX7_undo 11 = .ok (.dup, 1) := by decide +kernel
theorem dX7_undo_12 : decode cX7_undo 12 = .ok (.getfield 76, 3) := by decide +kernel
theorem dX7_undo_15 : decode cX7_undo 15 = .ok (.iconst 1, 1) := by decide +kernel
theorem dX7_undo_16 : decode cX7_undo 16 = .ok (.isub, 1) := by decide +kernel
theorem dX7_undo_17 : decode cX7_undo 17 = .ok (.putfield 76, 3) := by decide +kernel
theorem dX7_undo_20 : decode cX7_undo 20 = .ok (.iconst 0, 1) := by decide +kernel
theorem dX7_undo_21 : decode cX7_undo 21 = .ok (.istore_n 1, 1) := by decide +kernel
theorem dX7_undo_22 : decode cX7_undo 22 = .ok (.iload_n 1, 1) := by decide +kernel
theorem dX7_undo_23 : decode cX7_undo 23 = .ok (.bipush 65, 2) := by decide +kernel
theorem dX7_undo_25 : decode cX7_undo 25 = .ok (.if_icmp .ge 29, 3) := by decide +kernel
theorem dX7_undo_28 : decode cX7_undo 28 = .ok (.aload_n 0, 1) := by decide +kernel
theorem dX7_undo_29 : decode cX7_undo 29 = .ok (.getfield 7, 3) := by decide +kernel
theorem dX7_undo_32 : decode cX7_undo 32 = .ok (.iload_n 1, 1) := by decide +kernel
theorem dX7_undo_33 : decode cX7_undo 33 = .ok (.aload_n 0, 1) := by decide +kernel
theorem dX7_undo_34 : decode cX7_undo 34 = .ok (.getfield 13, 3) := by decide +kernel
theorem dX7_undo_37 : decode cX7_undo 37 = .ok (.bipush 65, 2) := by decide +kernel
theorem dX7_undo_39 : decode cX7_undo 39 = .ok (.aload_n 0, 1) := by decide +kernel
theorem dX7_undo_40 : decode cX7_undo 40 = .ok (.getfield 76, 3) := by decide +kernel
theorem dX7_undo_43 : decode cX7_undo 43 = .ok (.imul, 1) := by decide +kernel
theorem dX7_undo_44 : decode cX7_undo 44 = .ok (.iload_n 1, 1) := by decide +kernel
theorem dX7_undo_45 : decode cX7_undo 45 = .ok (.iadd, 1) := by decide +kernel
theorem dX7_undo_46 : decode cX7_undo 46 = .ok (.iaload, 1) := by decide +kernel
theorem dX7_undo_47 : decode cX7_undo 47 = .ok (.iastore, 1) := by decide +kernel
theorem dX7_undo_48 : decode cX7_undo 48 = .ok (.iinc 1 1, 3) := by decide +kernel
theorem dX7_undo_51 : decode cX7_undo 51 = .ok (.goto (-29), 3) := by decide +kernel
theorem dX7_undo_54 : decode cX7_undo 54 = .ok (.aload_n 0, 1) := by decide +kernel
theorem dX7_undo_55 : decode cX7_undo 55 = .ok (.getfield 76, 3) := by decide +kernel
theorem dX7_undo_58 : decode cX7_undo 58 = .ok (.ireturn, 1) := by decide +kernel
theorem dX7_keep_0 : decode cX7_keep 0 = .ok (.iconst 0, 1) := by decide +kernel
theorem dX7_keep_1 : decode cX7_keep 1 = .ok (.istore_n 1, 1) := by decide +kernel
theorem dX7_keep_2 : decode cX7_keep 2 = .ok (.iload_n 1, 1) := by decide +kernel
theorem dX7_keep_3 : decode cX7_keep 3 = .ok (.bipush 65, 2) := by decide +kernel
theorem dX7_keep_5 : decode cX7_keep 5 = .ok (.if_icmp .ge 21, 3) := by decide +kernel
theorem dX7_keep_8 : decode cX7_keep 8 = .ok (.aload_n 0, 1) := by decide +kernel
theorem dX7_keep_9 : decode cX7_keep 9 = .ok (.getfield 16, 3) := by decide +kernel
theorem dX7_keep_12 : decode cX7_keep 12 = .ok (.iload_n 1, 1) := by decide +kernel
theorem dX7_keep_13 : decode cX7_keep 13 = .ok (.aload_n 0, 1) := by decide +kernel
theorem dX7_keep_14 : decode cX7_keep 14 = .ok (.getfield 7, 3) := by decide +kernel
theorem dX7_keep_17 : decode cX7_keep 17 = .ok (.iload_n 1, 1) := by decide +kernel
theorem dX7_keep_18 : decode cX7_keep 18 = .ok (.iaload, 1) := by decide +kernel
theorem dX7_keep_19 : decode cX7_keep 19 = .ok (.iastore, 1) := by decide +kernel
theorem dX7_keep_20 : decode cX7_keep 20 = .ok (.iinc 1 1, 3) := by decide +kernel
theorem dX7_keep_23 : decode cX7_keep 23 = .ok (.goto (-21), 3) := by decide +kernel
theorem dX7_keep_26 : decode cX7_keep 26 = .ok (.aload_n 0, 1) := by decide +kernel
theorem dX7_keep_27 : decode cX7_keep 27 = .ok (.iconst 1, 1) := by decide +kernel
theorem dX7_keep_28 : decode cX7_keep 28 = .ok (.putfield 80, 3) := by decide +kernel
theorem dX7_keep_31 : decode cX7_keep 31 = .ok (.aload_n 0, 1) := by decide +kernel
theorem dX7_keep_32 : decode cX7_keep 32 = .ok (.getfield 7, 3) := by decide +kernel
theorem dX7_keep_35 : decode cX7_keep 35 = .ok (.iconst 1, 1) := by decide +kernel
theorem dX7_keep_36 : decode cX7_keep 36 = .ok (.iaload, 1) := by decide +kernel
theorem dX7_keep_37 : decode cX7_keep 37 = .ok (.ireturn, 1) := by decide +kernel
set_option maxRecDepth 20000 in
theorem ggX7_restore_X7_records : GoodIn wsX7_restore wsX7_records := goodIn_r _ [8, 9, 10, 2, 11, 12, 13, 14, 15, 16, 17, 18, 19, 20, 21, 22, 23, 24, 25, 26, 27, 28, 29, 30] (by decide +kernel) (by decide +kernel)
set_option maxRecDepth 20000 in
theorem gX7_restore_X7_records : GoodIn wsX7_restore (wsV RX7 84 RX7 yX7_records wsX7_records) := goodIn_app (goodIn_of _ (by decide +kernel)) ggX7_restore_X7_records
theorem dX7_restore_0 : decode cX7_restore 0 = .ok (.aload_n 0, 1) := by decide +kernel
theorem dX7_restore_1 : decode cX7_restore 1 = .ok (.getfield 80, 3) := by decide +kernel
theorem dX7_restore_4 : decode cX7_restore 4 = .ok (.ifCond .ne 6, 3) := by decide +kernel
theorem dX7_restore_7 : decode cX7_restore 7 = .ok (.bipush (-5), 2) := by decide +kernel
theorem dX7_restore_9 : decode cX7_restore 9 = .ok (.ireturn, 1) := by decide +kernel
theorem dX7_restore_10 : decode cX7_restore 10 = .ok (.aload_n 0, 1) := by decide +kernel
theorem dX7_restore_11 : decode cX7_restore 11 = .ok (.invokevirtual 84, 3) := by decide +kernel
theorem dX7_restore_14 : decode cX7_restore 14 = .ok (.iconst 0, 1) := by decide +kernel
theorem dX7_restore_15 : decode cX7_restore 15 = .ok (.istore_n 1, 1) := by decide +kernel
theorem dX7_restore_16 : decode cX7_restore 16 = .ok (.iload_n 1, 1) := by decide +kernel
theorem dX7_restore_17 : decode cX7_restore 17 = .ok (.bipush 65, 2) := by decide +kernel
theorem dX7_restore_19 : decode cX7_restore 19 = .ok (.if_icmp .ge 21, 3) := by decide +kernel
theorem dX7_restore_22 : decode cX7_restore 22 = .ok (.aload_n 0, 1) := by decide +kernel
theorem dX7_restore_23 : decode cX7_restore 23 = .ok (.getfield 7, 3) := by decide +kernel
theorem dX7_restore_26 : decode cX7_restore 26 = .ok (.iload_n 1, 1) := by decide +kernel
theorem dX7_restore_27 : decode cX7_restore 27 = .ok (.aload_n 0, 1) := by decide +kernel
theorem dX7_restore_28 : decode cX7_restore 28 = .ok (.getfield 16, 3) := by decide +kernel
theorem dX7_restore_31 : decode cX7_restore 31 = .ok (.iload_n 1, 1) := by decide +kernel
theorem dX7_restore_32 : decode cX7_restore 32 = .ok (.iaload, 1) := by decide +kernel
theorem dX7_restore_33 : decode cX7_restore 33 = .ok (.iastore, 1) := by decide +kernel
theorem dX7_restore_34 : decode cX7_restore 34 = .ok (.iinc 1 1, 3) := by decide +kernel
theorem dX7_restore_37 : decode cX7_restore 37 = .ok (.goto (-21), 3) := by decide +kernel
theorem dX7_restore_40 : decode cX7_restore 40 = .ok (.aload_n 0, 1) := by decide +kernel
theorem dX7_restore_41 : decode cX7_restore 41 = .ok (.getfield 7, 3) := by decide +kernel
theorem dX7_restore_44 : decode cX7_restore 44 = .ok (.iconst 1, 1) := by decide +kernel
theorem dX7_restore_45 : decode cX7_restore 45 = .ok (.iaload, 1) := by decide +kernel
theorem dX7_restore_46 : decode cX7_restore 46 = .ok (.ireturn, 1) := by decide +kernel
theorem dX7_early_0 : decode cX7_early 0 = .ok (.iload_n 0, 1) := by decide +kernel
theorem dX7_early_1 : decode cX7_early 1 = .ok (.tableswitch 47 0 3 #[31, 35, 39, 43], 31) := by decide +kernel
theorem dX7_early_32 : decode cX7_early 32 = .ok (.ldc2_w 87, 3) := by decide +kernel
theorem dX7_early_35 : decode cX7_early 35 = .ok (.lreturn, 1) := by decide +kernel
theorem dX7_early_36 : decode cX7_early 36 = .ok (.ldc2_w 89, 3) := by decide +kernel
theorem dX7_early_39 : decode cX7_early 39 = .ok (.lreturn, 1) := by decide +kernel
theorem dX7_early_40 : decode cX7_early 40 = .ok (.ldc2_w 91, 3) := by decide +kernel
theorem dX7_early_43 : decode cX7_early 43 = .ok (.lreturn, 1) := by decide +kernel
theorem dX7_early_44 : decode cX7_early 44 = .ok (.ldc2_w 93, 3) := by decide +kernel
theorem dX7_early_47 : decode cX7_early 47 = .ok (.lreturn, 1) := by decide +kernel
theorem dX7_early_48 : decode cX7_early 48 = .ok (.ldc2_w 95, 3) := by decide +kernel
theorem dX7_early_51 : decode cX7_early 51 = .ok (.lreturn, 1) := by decide +kernel
theorem dX7_late_0 : decode cX7_late 0 = .ok (.iload_n 0, 1) := by decide +kernel
theorem dX7_late_1 : decode cX7_late 1 = .ok (.lookupswitch 35 #[(2, 27), (4, 31)], 27) := by decide +kernel
theorem dX7_late_28 : decode cX7_late 28 = .ok (.ldc2_w 97, 3) := by decide +kernel
theorem dX7_late_31 : decode cX7_late 31 = .ok (.lreturn, 1) := by decide +kernel
theorem dX7_late_32 : decode cX7_late 32 = .ok (.ldc2_w 99, 3) := by decide +kernel
theorem dX7_late_35 : decode cX7_late 35 = .ok (.lreturn, 1) := by decide +kernel
theorem dX7_late_36 : decode cX7_late 36 = .ok (.ldc2_w 101, 3) := by decide +kernel
theorem dX7_late_39 : decode cX7_late 39 = .ok (.lreturn, 1) := by decide +kernel
theorem dX7_knotsIn_0 : decode cX7_knotsIn 0 = .ok (.iload_n 0, 1) := by decide +kernel
theorem dX7_knotsIn_1 : decode cX7_knotsIn 1 = .ok (.ifCond .ne 7, 3) := by decide +kernel
theorem dX7_knotsIn_4 : decode cX7_knotsIn 4 = .ok (.iconst 4, 1) := by decide +kernel
theorem dX7_knotsIn_5 : decode cX7_knotsIn 5 = .ok (.goto 17, 3) := by decide +kernel
theorem dX7_knotsIn_8 : decode cX7_knotsIn 8 = .ok (.iload_n 0, 1) := by decide +kernel
theorem dX7_knotsIn_9 : decode cX7_knotsIn 9 = .ok (.iconst 2, 1) := by decide +kernel
theorem dX7_knotsIn_10 : decode cX7_knotsIn 10 = .ok (.irem, 1) := by decide +kernel
theorem dX7_knotsIn_11 : decode cX7_knotsIn 11 = .ok (.iconst 1, 1) := by decide +kernel
theorem dX7_knotsIn_12 : decode cX7_knotsIn 12 = .ok (.if_icmp .ne 8, 3) := by decide +kernel
theorem dX7_knotsIn_15 : decode cX7_knotsIn 15 = .ok (.bipush 6, 2) := by decide +kernel
theorem dX7_knotsIn_17 : decode cX7_knotsIn 17 = .ok (.goto 5, 3) := by decide +kernel
theorem dX7_knotsIn_20 : decode cX7_knotsIn 20 = .ok (.bipush 10, 2) := by decide +kernel
theorem dX7_knotsIn_22 : decode cX7_knotsIn 22 = .ok (.ireturn, 1) := by decide +kernel
set_option maxRecDepth 20000 in
theorem ggX7_take_X7_in : GoodIn wsX7_take wsX7_in := goodIn_r _ [6] (by decide +kernel) (by decide +kernel)
set_option maxRecDepth 20000 in
theorem gX7_take_X7_in : GoodIn wsX7_take (va_wsS RX7 52 yX7_in wsX7_in) := goodIn_app (goodIn_of _ (by decide +kernel)) ggX7_take_X7_in
set_option maxRecDepth 20000 in
theorem ggX7_take_X7_records : GoodIn wsX7_take wsX7_records := goodIn_r _ [10, 11, 12, 1, 38, 39, 40, 41, 42, 43, 44, 45, 46, 47, 48, 49, 50, 51, 52, 53, 54, 55, 56, 57] (by decide +kernel) (by decide +kernel)
set_option maxRecDepth 20000 in
theorem gX7_take_X7_records : GoodIn wsX7_take (wsV RX7 84 RX7 yX7_records wsX7_records) := goodIn_app (goodIn_of _ (by decide +kernel)) ggX7_take_X7_records
set_option maxRecDepth 20000 in
theorem ggX7_take_X7_knotsIn : GoodIn wsX7_take wsX7_knotsIn := goodIn_r _ [15] (by decide +kernel) (by decide +kernel)
set_option maxRecDepth 20000 in
theorem gX7_take_X7_knotsIn : GoodIn wsX7_take (va_wsS RX7 103 yX7_knotsIn wsX7_knotsIn) := goodIn_app (goodIn_of _ (by decide +kernel)) ggX7_take_X7_knotsIn
set_option maxRecDepth 20000 in
theorem ggX7_take_X7_early : GoodIn wsX7_take wsX7_early := goodIn_r _ [18, 19, 20, 21, 22, 23] (by decide +kernel) (by decide +kernel)
set_option maxRecDepth 20000 in
theorem gX7_take_X7_early : GoodIn wsX7_take (va_wsS RX7 106 yX7_early wsX7_early) := goodIn_app (goodIn_of _ (by decide +kernel)) ggX7_take_X7_early
set_option maxRecDepth 20000 in
theorem ggX7_take_X7_late : GoodIn wsX7_take wsX7_late := goodIn_r _ [26, 27, 28, 29] (by decide +kernel) (by decide +kernel)
set_option maxRecDepth 20000 in
theorem gX7_take_X7_late : GoodIn wsX7_take (va_wsS RX7 110 yX7_late wsX7_late) := goodIn_app (goodIn_of _ (by decide +kernel)) ggX7_take_X7_late
set_option maxRecDepth 20000 in
theorem ggX7_take_X7_adds : GoodIn wsX7_take wsX7_adds := goodIn_r _ [33, 1, 34, 35, 36, 5, 37, 38, 39, 40, 41, 42, 43, 44, 45, 46, 47, 48, 49, 50, 51, 52, 53, 54, 55, 56, 57] (by decide +kernel) (by decide +kernel)
set_option maxRecDepth 20000 in
theorem gX7_take_X7_adds : GoodIn wsX7_take (wsV RX7 115 RX7 yX7_adds wsX7_adds) := goodIn_app (goodIn_of _ (by decide +kernel)) ggX7_take_X7_adds
theorem dX7_take_0 : decode cX7_take 0 = .ok (.iload_n 1, 1) := by decide +kernel
theorem dX7_take_1 : decode cX7_take 1 = .ok (.iconst 0, 1) := by decide +kernel
theorem dX7_take_2 : decode cX7_take 2 = .ok (.iconst 4, 1) := by decide +kernel
theorem dX7_take_3 : decode cX7_take 3 = .ok (.invokestatic 52, 3) := by decide +kernel
theorem dX7_take_6 : decode cX7_take 6 = .ok (.ifCond .ne 6, 3) := by decide +kernel
theorem dX7_take_9 : decode cX7_take 9 = .ok (.bipush (-2), 2) := by decide +kernel
theorem dX7_take_11 : decode cX7_take 11 = .ok (.ireturn, 1) := by decide +kernel
theorem dX7_take_12 : decode cX7_take 12 = .ok (.aload_n 0, 1) := by decide +kernel
theorem dX7_take_13 : decode cX7_take 13 = .ok (.invokevirtual 84, 3) := by decide +kernel
theorem dX7_take_16 : decode cX7_take 16 = .ok (.aload_n 0, 1) := by decide +kernel
theorem dX7_take_17 : decode cX7_take 17 = .ok (.getfield 7, 3) := by decide +kernel
theorem dX7_take_20 : decode cX7_take 20 = .ok (.iconst 0, 1) := by decide +kernel
theorem dX7_take_21 : decode cX7_take 21 = .ok (.iload_n 1, 1) := by decide +kernel
theorem dX7_take_22 : decode cX7_take 22 = .ok (.invokestatic 103, 3) := by decide +kernel
theorem dX7_take_25 : decode cX7_take 25 = .ok (.iastore, 1) := by decide +kernel
theorem dX7_take_26 : decode cX7_take 26 = .ok (.aload_n 0, 1) := by decide +kernel
theorem dX7_take_27 : decode cX7_take 27 = .ok (.getfield 7, 3) := by decide +kernel
theorem dX7_take_30 : decode cX7_take 30 = .ok (.iconst 1, 1) := by decide +kernel
theorem dX7_take_31 : decode cX7_take 31 = .ok (.iconst 0, 1) := by decide +kernel
theorem dX7_take_32 : decode cX7_take 32 = .ok (.iastore, 1) := by decide +kernel
theorem dX7_take_33 : decode cX7_take 33 = .ok (.iconst 0, 1) := by decide +kernel
theorem dX7_take_34 : decode cX7_take 34 = .ok (.istore_n 2, 1) := by decide +kernel
theorem dX7_take_35 : decode cX7_take 35 = .ok (.iload_n 2, 1) := by decide +kernel
theorem dX7_take_36 : decode cX7_take 36 = .ok (.iconst 3, 1) := by decide +kernel
theorem dX7_take_37 : decode cX7_take 37 = .ok (.aload_n 0, 1) := by decide +kernel
theorem dX7_take_38 : decode cX7_take 38 = .ok (.getfield 7, 3) := by decide +kernel
theorem dX7_take_41 : decode cX7_take 41 = .ok (.iconst 0, 1) := by decide +kernel
theorem dX7_take_42 : decode cX7_take 42 = .ok (.iaload, 1) := by decide +kernel
theorem dX7_take_43 : decode cX7_take 43 = .ok (.imul, 1) := by decide +kernel
theorem dX7_take_44 : decode cX7_take 44 = .ok (.iconst 2, 1) := by decide +kernel
theorem dX7_take_45 : decode cX7_take 45 = .ok (.idiv, 1) := by decide +kernel
theorem dX7_take_46 : decode cX7_take 46 = .ok (.if_icmp .ge 60, 3) := by decide +kernel
theorem dX7_take_49 : decode cX7_take 49 = .ok (.iload_n 2, 1) := by decide +kernel
theorem dX7_take_50 : decode cX7_take 50 = .ok (.bipush 8, 2) := by decide +kernel
theorem dX7_take_52 : decode cX7_take 52 = .ok (.if_icmp .ge 10, 3) := by decide +kernel
theorem dX7_take_55 : decode cX7_take 55 = .ok (.iload_n 1, 1) := by decide +kernel
theorem dX7_take_56 : decode cX7_take 56 = .ok (.invokestatic 106, 3) := by decide +kernel
theorem dX7_take_59 : decode cX7_take 59 = .ok (.goto 7, 3) := by decide +kernel
theorem dX7_take_62 : decode cX7_take 62 = .ok (.iload_n 1, 1) := by decide +kernel
theorem dX7_take_63 : decode cX7_take 63 = .ok (.invokestatic 110, 3) := by decide +kernel
theorem dX7_take_66 : decode cX7_take 66 = .ok (.lstore_n 3, 1) := by decide +kernel
theorem dX7_take_67 : decode cX7_take 67 = .ok (.lload_n 3, 1) := by decide +kernel
theorem dX7_take_68 : decode cX7_take 68 = .ok (.bipush 56, 2) := by decide +kernel
theorem dX7_take_70 : decode cX7_take 70 = .ok (.bipush 8, 2) := by decide +kernel
theorem dX7_take_72 : decode cX7_take 72 = .ok (.iload_n 2, 1) := by decide +kernel
theorem dX7_take_73 : decode cX7_take 73 = .ok (.bipush 8, 2) := by decide +kernel
theorem dX7_take_75 : decode cX7_take 75 = .ok (.irem, 1) := by decide +kernel
theorem dX7_take_76 : decode cX7_take 76 = .ok (.imul, 1) := by decide +kernel
theorem dX7_take_77 : decode cX7_take 77 = .ok (.isub, 1) := by decide +kernel
theorem dX7_take_78 : decode cX7_take 78 = .ok (.lshr, 1) := by decide +kernel
