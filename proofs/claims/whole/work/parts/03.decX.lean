theorem dX0_init_0 : decode cX0_init 0 = .ok (.aload_n 0, 1) := by decide +kernel
theorem dX0_init_1 : decode cX0_init 1 = .ok (.invokespecial 3, 3) := by decide +kernel
theorem dX0_init_4 : decode cX0_init 4 = .ok (.aload_n 0, 1) := by decide +kernel
theorem dX0_init_5 : decode cX0_init 5 = .ok (.bipush 80, 2) := by decide +kernel
theorem dX0_init_7 : decode cX0_init 7 = .ok (.newarray .int, 2) := by decide +kernel
theorem dX0_init_9 : decode cX0_init 9 = .ok (.putfield 9, 3) := by decide +kernel
theorem dX0_init_12 : decode cX0_init 12 = .ok (.aload_n 0, 1) := by decide +kernel
theorem dX0_init_13 : decode cX0_init 13 = .ok (.bipush 21, 2) := by decide +kernel
theorem dX0_init_15 : decode cX0_init 15 = .ok (.newarray .int, 2) := by decide +kernel
theorem dX0_init_17 : decode cX0_init 17 = .ok (.putfield 15, 3) := by decide +kernel
theorem dX0_init_20 : decode cX0_init 20 = .ok (.aload_n 0, 1) := by decide +kernel
theorem dX0_init_21 : decode cX0_init 21 = .ok (.iconst 0, 1) := by decide +kernel
theorem dX0_init_22 : decode cX0_init 22 = .ok (.putfield 18, 3) := by decide +kernel
theorem dX0_init_25 : decode cX0_init 25 = .ok (.aload_n 0, 1) := by decide +kernel
theorem dX0_init_26 : decode cX0_init 26 = .ok (.iconst 0, 1) := by decide +kernel
theorem dX0_init_27 : decode cX0_init 27 = .ok (.putfield 22, 3) := by decide +kernel
theorem dX0_init_30 : decode cX0_init 30 = .ok (.aload_n 0, 1) := by decide +kernel
theorem dX0_init_31 : decode cX0_init 31 = .ok (.iconst 0, 1) := by decide +kernel
theorem dX0_init_32 : decode cX0_init 32 = .ok (.putfield 25, 3) := by decide +kernel
theorem dX0_init_35 : decode cX0_init 35 = .ok (.aload_n 0, 1) := by decide +kernel
theorem dX0_init_36 : decode cX0_init 36 = .ok (.iconst 0, 1) := by decide +kernel
theorem dX0_init_37 : decode cX0_init 37 = .ok (.putfield 28, 3) := by decide +kernel
theorem dX0_init_40 : decode cX0_init 40 = .ok (.return_, 1) := by decide +kernel
theorem dX0_size_0 : decode cX0_size 0 = .ok (.aload_n 0, 1) := by decide +kernel
theorem dX0_size_1 : decode cX0_size 1 = .ok (.getfield 18, 3) := by decide +kernel
theorem dX0_size_4 : decode cX0_size 4 = .ok (.ireturn, 1) := by decide +kernel
set_option maxRecDepth 20000 in
theorem ggX0_get_X6_at : GoodIn wsX0_get wsX6_at := goodIn_r _ [4] (by decide +kernel) (by decide +kernel)
set_option maxRecDepth 20000 in
theorem gX0_get_X6_at_n31 : GoodIn wsX0_get (wsX6_at) := ggX0_get_X6_at
theorem dX0_get_0 : decode cX0_get 0 = .ok (.aload_n 0, 1) := by decide +kernel
theorem dX0_get_1 : decode cX0_get 1 = .ok (.getfield 9, 3) := by decide +kernel
theorem dX0_get_4 : decode cX0_get 4 = .ok (.iload_n 1, 1) := by decide +kernel
theorem dX0_get_5 : decode cX0_get 5 = .ok (.invokestatic 31, 3) := by decide +kernel
theorem dX0_get_8 : decode cX0_get 8 = .ok (.ireturn, 1) := by decide +kernel
set_option maxRecDepth 20000 in
theorem ggX0_howManyHold_X0_get : GoodIn wsX0_howManyHold wsX0_get := goodIn_r _ [6, 7, 8, 9, 10, 13, 14, 15, 16, 17, 18] (by decide +kernel) (by decide +kernel)
set_option maxRecDepth 20000 in
theorem gX0_howManyHold_X0_get : GoodIn wsX0_howManyHold (wsV RX0 35 RX0 yX0_get wsX0_get) := goodIn_app (goodIn_of _ (by decide +kernel)) ggX0_howManyHold_X0_get
set_option maxRecDepth 20000 in
theorem ggX0_howManyHold_X6_holds : GoodIn wsX0_howManyHold wsX6_holds := goodIn_r _ [12] (by decide +kernel) (by decide +kernel)
set_option maxRecDepth 20000 in
theorem gX0_howManyHold_X6_holds_n39 : GoodIn wsX0_howManyHold (wsX6_holds) := ggX0_howManyHold_X6_holds
theorem dX0_howManyHold_0 : decode cX0_howManyHold 0 = .ok (.iconst 0, 1) := by decide +kernel
theorem dX0_howManyHold_1 : decode cX0_howManyHold 1 = .ok (.istore_n 2, 1) := by decide +kernel
theorem dX0_howManyHold_2 : decode cX0_howManyHold 2 = .ok (.iconst 0, 1) := by decide +kernel
theorem dX0_howManyHold_3 : decode cX0_howManyHold 3 = .ok (.istore_n 3, 1) := by decide +kernel
theorem dX0_howManyHold_4 : decode cX0_howManyHold 4 = .ok (.iload_n 3, 1) := by decide +kernel
theorem dX0_howManyHold_5 : decode cX0_howManyHold 5 = .ok (.aload_n 0, 1) := by decide +kernel
theorem dX0_howManyHold_6 : decode cX0_howManyHold 6 = .ok (.getfield 18, 3) := by decide +kernel
theorem dX0_howManyHold_9 : decode cX0_howManyHold 9 = .ok (.if_icmp .ge 24, 3) := by decide +kernel
theorem dX0_howManyHold_12 : decode cX0_howManyHold 12 = .ok (.aload_n 0, 1) := by decide +kernel
theorem dX0_howManyHold_13 : decode cX0_howManyHold 13 = .ok (.iload_n 3, 1) := by decide +kernel
theorem dX0_howManyHold_14 : decode cX0_howManyHold 14 = .ok (.invokevirtual 35, 3) := by decide +kernel
theorem dX0_howManyHold_17 : decode cX0_howManyHold 17 = .ok (.iload_n 1, 1) := by decide +kernel
theorem dX0_howManyHold_18 : decode cX0_howManyHold 18 = .ok (.invokestatic 39, 3) := by decide +kernel
theorem dX0_howManyHold_21 : decode cX0_howManyHold 21 = .ok (.ifCond .eq 6, 3) := by decide +kernel
theorem dX0_howManyHold_24 : decode cX0_howManyHold 24 = .ok (.iinc 2 1, 3) := by decide +kernel
theorem dX0_howManyHold_27 : decode cX0_howManyHold 27 = .ok (.iinc 3 1, 3) := by decide +kernel
theorem dX0_howManyHold_30 : decode cX0_howManyHold 30 = .ok (.goto (-26), 3) := by decide +kernel
theorem dX0_howManyHold_33 : decode cX0_howManyHold 33 = .ok (.iload_n 2, 1) := by decide +kernel
theorem dX0_howManyHold_34 : decode cX0_howManyHold 34 = .ok (.ireturn, 1) := by decide +kernel
set_option maxRecDepth 20000 in
theorem ggX0_list_X2_threads : GoodIn wsX0_list wsX2_threads := goodIn_r _ [7, 8, 41, 42, 43, 44] (by decide +kernel) (by decide +kernel)
set_option maxRecDepth 20000 in
theorem gX0_list_X2_threads : GoodIn wsX0_list (wsV RX0 43 RX2 yX2_threads wsX2_threads) := goodIn_app (goodIn_of _ (by decide +kernel)) ggX0_list_X2_threads
set_option maxRecDepth 20000 in
theorem ggX0_list_X6_put : GoodIn wsX0_list wsX6_put := goodIn_r _ [11] (by decide +kernel) (by decide +kernel)
set_option maxRecDepth 20000 in
theorem gX0_list_X6_put_n49 : GoodIn wsX0_list (wsX6_put) := ggX0_list_X6_put
set_option maxRecDepth 20000 in
theorem ggX0_list_X2_ends : GoodIn wsX0_list wsX2_ends := goodIn_r _ [15, 16, 17, 10, 18, 41, 42, 43, 44] (by decide +kernel) (by decide +kernel)
set_option maxRecDepth 20000 in
theorem gX0_list_X2_ends : GoodIn wsX0_list (wsV RX0 53 RX2 yX2_ends wsX2_ends) := goodIn_app (goodIn_of _ (by decide +kernel)) ggX0_list_X2_ends
set_option maxRecDepth 20000 in
theorem ggX0_list_X2_allKnots : GoodIn wsX0_list wsX2_allKnots := goodIn_r _ [22, 23, 24, 10, 25, 41, 42, 43, 44] (by decide +kernel) (by decide +kernel)
set_option maxRecDepth 20000 in
theorem gX0_list_X2_allKnots : GoodIn wsX0_list (wsV RX0 56 RX2 yX2_allKnots wsX2_allKnots) := goodIn_app (goodIn_of _ (by decide +kernel)) ggX0_list_X2_allKnots
set_option maxRecDepth 20000 in
theorem ggX0_list_X0_decide : GoodIn wsX0_list wsX0_decide := goodIn_r _ [29, 2, 30, 31, 32, 28, 33, 1, 34, 9, 10, 11, 19, 20, 21, 6, 22, 23, 24, 25, 12, 13, 14, 15, 16, 17, 18, 26, 27, 35, 36, 37, 38, 39, 40, 41, 42, 43, 44] (by decide +kernel) (by decide +kernel)
set_option maxRecDepth 20000 in
theorem gX0_list_X0_decide : GoodIn wsX0_list (va_wsS RX0 59 yX0_decide wsX0_decide) := goodIn_app (goodIn_of _ (by decide +kernel)) ggX0_list_X0_decide
theorem dX0_list_0 : decode cX0_list 0 = .ok (.aload_n 0, 1) := by decide +kernel
theorem dX0_list_1 : decode cX0_list 1 = .ok (.iconst 0, 1) := by decide +kernel
theorem dX0_list_2 : decode cX0_list 2 = .ok (.putfield 18, 3) := by decide +kernel
theorem dX0_list_5 : decode cX0_list 5 = .ok (.iconst 0, 1) := by decide +kernel
theorem dX0_list_6 : decode cX0_list 6 = .ok (.istore_n 2, 1) := by decide +kernel
theorem dX0_list_7 : decode cX0_list 7 = .ok (.iconst 0, 1) := by decide +kernel
theorem dX0_list_8 : decode cX0_list 8 = .ok (.istore_n 3, 1) := by decide +kernel
theorem dX0_list_9 : decode cX0_list 9 = .ok (.iload_n 3, 1) := by decide +kernel
theorem dX0_list_10 : decode cX0_list 10 = .ok (.aload_n 1, 1) := by decide +kernel
theorem dX0_list_11 : decode cX0_list 11 = .ok (.invokevirtual 43, 3) := by decide +kernel
theorem dX0_list_14 : decode cX0_list 14 = .ok (.if_icmp .ge 26, 3) := by decide +kernel
theorem dX0_list_17 : decode cX0_list 17 = .ok (.aload_n 0, 1) := by decide +kernel
theorem dX0_list_18 : decode cX0_list 18 = .ok (.getfield 15, 3) := by decide +kernel
theorem dX0_list_21 : decode cX0_list 21 = .ok (.iload_n 3, 1) := by decide +kernel
theorem dX0_list_22 : decode cX0_list 22 = .ok (.iload_n 2, 1) := by decide +kernel
theorem dX0_list_23 : decode cX0_list 23 = .ok (.invokestatic 49, 3) := by decide +kernel
theorem dX0_list_26 : decode cX0_list 26 = .ok (.iload_n 2, 1) := by decide +kernel
theorem dX0_list_27 : decode cX0_list 27 = .ok (.aload_n 1, 1) := by decide +kernel
theorem dX0_list_28 : decode cX0_list 28 = .ok (.iload_n 3, 1) := by decide +kernel
theorem dX0_list_29 : decode cX0_list 29 = .ok (.invokevirtual 53, 3) := by decide +kernel
theorem dX0_list_32 : decode cX0_list 32 = .ok (.ior, 1) := by decide +kernel
theorem dX0_list_33 : decode cX0_list 33 = .ok (.istore_n 2, 1) := by decide +kernel
theorem dX0_list_34 : decode cX0_list 34 = .ok (.iinc 3 1, 3) := by decide +kernel
theorem dX0_list_37 : decode cX0_list 37 = .ok (.goto (-28), 3) := by decide +kernel
theorem dX0_list_40 : decode cX0_list 40 = .ok (.iload_n 2, 1) := by decide +kernel
theorem dX0_list_41 : decode cX0_list 41 = .ok (.aload_n 1, 1) := by decide +kernel
theorem dX0_list_42 : decode cX0_list 42 = .ok (.invokevirtual 56, 3) := by decide +kernel
theorem dX0_list_45 : decode cX0_list 45 = .ok (.if_icmp .ne 16, 3) := by decide +kernel
theorem dX0_list_48 : decode cX0_list 48 = .ok (.aload_n 0, 1) := by decide +kernel
theorem dX0_list_49 : decode cX0_list 49 = .ok (.aload_n 1, 1) := by decide +kernel
theorem dX0_list_50 : decode cX0_list 50 = .ok (.aload_n 1, 1) := by decide +kernel
theorem dX0_list_51 : decode cX0_list 51 = .ok (.invokevirtual 43, 3) := by decide +kernel
theorem dX0_list_54 : decode cX0_list 54 = .ok (.iconst 1, 1) := by decide +kernel
theorem dX0_list_55 : decode cX0_list 55 = .ok (.isub, 1) := by decide +kernel
theorem dX0_list_56 : decode cX0_list 56 = .ok (.iconst 0, 1) := by decide +kernel
theorem dX0_list_57 : decode cX0_list 57 = .ok (.iconst 0, 1) := by decide +kernel
theorem dX0_list_58 : decode cX0_list 58 = .ok (.invokestatic 59, 3) := by decide +kernel
theorem dX0_list_61 : decode cX0_list 61 = .ok (.return_, 1) := by decide +kernel
set_option maxRecDepth 20000 in
theorem ggX0_decide_X0_addCover : GoodIn wsX0_decide wsX0_addCover := goodIn_r _ [6, 7, 8, 9, 10, 11, 29, 30, 31, 32, 33, 34] (by decide +kernel) (by decide +kernel)
set_option maxRecDepth 20000 in
theorem gX0_decide_X0_addCover : GoodIn wsX0_decide (wsV RX0 63 RX0 yX0_addCover wsX0_addCover) := goodIn_app (goodIn_of _ (by decide +kernel)) ggX0_decide_X0_addCover
set_option maxRecDepth 20000 in
theorem ggX0_decide_X2_allKnots : GoodIn wsX0_decide wsX2_allKnots := goodIn_r _ [16, 17, 18, 10, 19, 35, 36, 37, 38] (by decide +kernel) (by decide +kernel)
set_option maxRecDepth 20000 in
theorem gX0_decide_X2_allKnots : GoodIn wsX0_decide (wsV RX0 56 RX2 yX2_allKnots wsX2_allKnots) := goodIn_app (goodIn_of _ (by decide +kernel)) ggX0_decide_X2_allKnots
set_option maxRecDepth 20000 in
theorem ggX0_decide_X2_ends : GoodIn wsX0_decide wsX2_ends := goodIn_r _ [23, 24, 25, 10, 26, 35, 36, 37, 38] (by decide +kernel) (by decide +kernel)
set_option maxRecDepth 20000 in
theorem gX0_decide_X2_ends : GoodIn wsX0_decide (wsV RX0 53 RX2 yX2_ends wsX2_ends) := goodIn_app (goodIn_of _ (by decide +kernel)) ggX0_decide_X2_ends
set_option maxRecDepth 20000 in
theorem ggX0_decide_X6_at : GoodIn wsX0_decide wsX6_at := goodIn_r _ [26] (by decide +kernel) (by decide +kernel)
set_option maxRecDepth 20000 in
theorem gX0_decide_X6_at_n31 : GoodIn wsX0_decide (wsX6_at) := ggX0_decide_X6_at
set_option maxRecDepth 20000 in
theorem ggX0_decide_X0_decide : GoodIn wsX0_decide wsX0_decide := goodIn_r _ [0, 1, 2, 3, 4, 5, 6, 7, 8, 9, 10, 11, 12, 13, 14, 15, 16, 17, 18, 19, 20, 21, 22, 23, 24, 25, 26, 27, 28, 29, 30, 31, 32, 33, 34, 35, 36, 37, 38] (by decide +kernel) (by decide +kernel)
set_option maxRecDepth 20000 in
theorem gX0_decide_X0_decide : GoodIn wsX0_decide (va_wsS RX0 59 yX0_decide wsX0_decide) := goodIn_app (goodIn_of _ (by decide +kernel)) ggX0_decide_X0_decide
set_option maxRecDepth 20000 in
theorem ggX0_decide_X6_bit : GoodIn wsX0_decide wsX6_bit := goodIn_r _ [19] (by decide +kernel) (by decide +kernel)
set_option maxRecDepth 20000 in
theorem gX0_decide_X6_bit_n67 : GoodIn wsX0_decide (wsX6_bit) := ggX0_decide_X6_bit
theorem dX0_decide_0 : decode cX0_decide 0 = .ok (.iload_n 2, 1) := by decide +kernel
theorem dX0_decide_1 : decode cX0_decide 1 = .ok (.ifCond .ge 10, 3) := by decide +kernel
theorem dX0_decide_4 : decode cX0_decide 4 = .ok (.aload_n 0, 1) := by decide +kernel
theorem dX0_decide_5 : decode cX0_decide 5 = .ok (.iload 4, 2) := by decide +kernel
theorem dX0_decide_7 : decode cX0_decide 7 = .ok (.invokevirtual 63, 3) := by decide +kernel
theorem dX0_decide_10 : decode cX0_decide 10 = .ok (.return_, 1) := by decide +kernel
theorem dX0_decide_11 : decode cX0_decide 11 = .ok (.aload_n 1, 1) := by decide +kernel
theorem dX0_decide_12 : decode cX0_decide 12 = .ok (.invokevirtual 56, 3) := by decide +kernel
theorem dX0_decide_15 : decode cX0_decide 15 = .ok (.istore 5, 2) := by decide +kernel
theorem dX0_decide_17 : decode cX0_decide 17 = .ok (.aload_n 1, 1) := by decide +kernel
theorem dX0_decide_18 : decode cX0_decide 18 = .ok (.iload_n 2, 1) := by decide +kernel
theorem dX0_decide_19 : decode cX0_decide 19 = .ok (.invokevirtual 53, 3) := by decide +kernel
theorem dX0_decide_22 : decode cX0_decide 22 = .ok (.istore 6, 2) := by decide +kernel
theorem dX0_decide_24 : decode cX0_decide 24 = .ok (.aload_n 0, 1) := by decide +kernel
theorem dX0_decide_25 : decode cX0_decide 25 = .ok (.getfield 15, 3) := by decide +kernel
theorem dX0_decide_28 : decode cX0_decide 28 = .ok (.iload_n 2, 1) := by decide +kernel
theorem dX0_decide_29 : decode cX0_decide 29 = .ok (.invokestatic 31, 3) := by decide +kernel
theorem dX0_decide_32 : decode cX0_decide 32 = .ok (.istore 7, 2) := by decide +kernel
theorem dX0_decide_34 : decode cX0_decide 34 = .ok (.iload_n 3, 1) := by decide +kernel
theorem dX0_decide_35 : decode cX0_decide 35 = .ok (.iload 7, 2) := by decide +kernel
theorem dX0_decide_37 : decode cX0_decide 37 = .ok (.ior, 1) := by decide +kernel
theorem dX0_decide_38 : decode cX0_decide 38 = .ok (.iload 5, 2) := by decide +kernel
theorem dX0_decide_40 : decode cX0_decide 40 = .ok (.if_icmp .ne 14, 3) := by decide +kernel
theorem dX0_decide_43 : decode cX0_decide 43 = .ok (.aload_n 0, 1) := by decide +kernel
theorem dX0_decide_44 : decode cX0_decide 44 = .ok (.aload_n 1, 1) := by decide +kernel
theorem dX0_decide_45 : decode cX0_decide 45 = .ok (.iload_n 2, 1) := by decide +kernel
theorem dX0_decide_46 : decode cX0_decide 46 = .ok (.iconst 1, 1) := by decide +kernel
theorem dX0_decide_47 : decode cX0_decide 47 = .ok (.isub, 1) := by decide +kernel
theorem dX0_decide_48 : decode cX0_decide 48 = .ok (.iload_n 3, 1) := by decide +kernel
theorem dX0_decide_49 : decode cX0_decide 49 = .ok (.iload 4, 2) := by decide +kernel
theorem dX0_decide_51 : decode cX0_decide 51 = .ok (.invokestatic 59, 3) := by decide +kernel
theorem dX0_decide_54 : decode cX0_decide 54 = .ok (.iload_n 3, 1) := by decide +kernel
theorem dX0_decide_55 : decode cX0_decide 55 = .ok (.iload 6, 2) := by decide +kernel
theorem dX0_decide_57 : decode cX0_decide 57 = .ok (.iand, 1) := by decide +kernel
theorem dX0_decide_58 : decode cX0_decide 58 = .ok (.ifCond .ne 34, 3) := by decide +kernel
theorem dX0_decide_61 : decode cX0_decide 61 = .ok (.iload_n 3, 1) := by decide +kernel
theorem dX0_decide_62 : decode cX0_decide 62 = .ok (.iload 6, 2) := by decide +kernel
theorem dX0_decide_64 : decode cX0_decide 64 = .ok (.ior, 1) := by decide +kernel
theorem dX0_decide_65 : decode cX0_decide 65 = .ok (.iload 7, 2) := by decide +kernel
theorem dX0_decide_67 : decode cX0_decide 67 = .ok (.ior, 1) := by decide +kernel
theorem dX0_decide_68 : decode cX0_decide 68 = .ok (.iload 5, 2) := by decide +kernel
theorem dX0_decide_70 : decode cX0_decide 70 = .ok (.if_icmp .ne 22, 3) := by decide +kernel
theorem dX0_decide_73 : decode cX0_decide 73 = .ok (.aload_n 0, 1) := by decide +kernel
theorem dX0_decide_74 : decode cX0_decide 74 = .ok (.aload_n 1, 1) := by decide +kernel
theorem dX0_decide_75 : decode cX0_decide 75 = .ok (.iload_n 2, 1) := by decide +kernel
theorem dX0_decide_76 : decode cX0_decide 76 = .ok (.iconst 1, 1) := by decide +kernel
theorem dX0_decide_77 : decode cX0_decide 77 = .ok (.isub, 1) := by decide +kernel
theorem dX0_decide_78 : decode cX0_decide 78 = .ok (.iload_n 3, 1) := by decide +kernel
theorem dX0_decide_79 : decode cX0_decide 79 = .ok (.iload 6, 2) := by decide +kernel
theorem dX0_decide_81 : decode cX0_decide 81 = .ok (.ior, 1) := by decide +kernel
theorem dX0_decide_82 : decode cX0_decide 82 = .ok (.iload 4, 2) := by decide +kernel
theorem dX0_decide_84 : decode cX0_decide 84 = .ok (.iload_n 2, 1) := by decide +kernel
theorem dX0_decide_85 : decode cX0_decide 85 = .ok (.invokestatic 67, 3) := by decide +kernel
theorem dX0_decide_88 : decode cX0_decide 88 = .ok (.ior, 1) := by decide +kernel
theorem dX0_decide_89 : decode cX0_decide 89 = .ok (.invokestatic 59, 3) := by decide +kernel
theorem dX0_decide_92 : decode cX0_decide 92 = .ok (.return_, 1) := by decide +kernel
set_option maxRecDepth 20000 in
theorem ggX0_addCover_X6_put : GoodIn wsX0_addCover wsX6_put := goodIn_r _ [5] (by decide +kernel) (by decide +kernel)
set_option maxRecDepth 20000 in
theorem gX0_addCover_X6_put_n49 : GoodIn wsX0_addCover (wsX6_put) := ggX0_addCover_X6_put
theorem dX0_addCover_0 : decode cX0_addCover 0 = .ok (.aload_n 0, 1) := by decide +kernel
theorem dX0_addCover_1 : decode cX0_addCover 1 = .ok (.getfield 18, 3) := by decide +kernel
theorem dX0_addCover_4 : decode cX0_addCover 4 = .ok (.aload_n 0, 1) := by decide +kernel
theorem dX0_addCover_5 : decode cX0_addCover 5 = .ok (.getfield 9, 3) := by decide +kernel
theorem dX0_addCover_8 : decode cX0_addCover 8 = .ok (.arraylength, 1) := by decide +kernel
theorem dX0_addCover_9 : decode cX0_addCover 9 = .ok (.if_icmp .ge 25, 3) := by decide +kernel
theorem dX0_addCover_12 : decode cX0_addCover 12 = .ok (.aload_n 0, 1) := by decide +kernel
theorem dX0_addCover_13 : decode cX0_addCover 13 = .ok (.getfield 9, 3) := by decide +kernel
theorem dX0_addCover_16 : decode cX0_addCover 16 = .ok (.aload_n 0, 1) := by decide +kernel
theorem dX0_addCover_17 : decode cX0_addCover 17 = .ok (.getfield 18, 3) := by decide +kernel
theorem dX0_addCover_20 : decode cX0_addCover 20 = .ok (.iload_n 1, 1) := by decide +kernel
theorem dX0_addCover_21 : decode cX0_addCover 21 = .ok (.invokestatic 49, 3) := by decide +kernel
theorem dX0_addCover_24 : decode cX0_addCover 24 = .ok (.aload_n 0, 1) := by decide +kernel
theorem dX0_addCover_25 : decode cX0_addCover 25 = .ok (.dup, 1) := by decide +kernel
theorem dX0_addCover_26 : decode cX0_addCover 26 = .ok (.getfield 18, 3) := by decide +kernel
theorem dX0_addCover_29 : decode cX0_addCover 29 = .ok (.iconst 1, 1) := by decide +kernel
theorem dX0_addCover_30 : decode cX0_addCover 30 = .ok (.iadd, 1) := by decide +kernel
theorem dX0_addCover_31 : decode cX0_addCover 31 = .ok (.putfield 18, 3) := by decide +kernel
theorem dX0_addCover_34 : decode cX0_addCover 34 = .ok (.return_, 1) := by decide +kernel
set_option maxRecDepth 20000 in
theorem ggX0_leave_X2_allThreads : GoodIn wsX0_leave wsX2_allThreads := goodIn_r _ [12, 13, 14, 15, 16, 65, 66, 67, 68] (by decide +kernel) (by decide +kernel)
set_option maxRecDepth 20000 in
theorem gX0_leave_X2_allThreads : GoodIn wsX0_leave (wsV RX0 70 RX2 yX2_allThreads wsX2_allThreads) := goodIn_app (goodIn_of _ (by decide +kernel)) ggX0_leave_X2_allThreads
set_option maxRecDepth 20000 in
theorem ggX0_leave_X0_get : GoodIn wsX0_leave wsX0_get := goodIn_r _ [21, 22, 23, 15, 24, 59, 60, 61, 62, 63, 64] (by decide +kernel) (by decide +kernel)
set_option maxRecDepth 20000 in
theorem gX0_leave_X0_get : GoodIn wsX0_leave (wsV RX0 35 RX0 yX0_get wsX0_get) := goodIn_app (goodIn_of _ (by decide +kernel)) ggX0_leave_X0_get
set_option maxRecDepth 20000 in
theorem ggX0_leave_X2_allKnots : GoodIn wsX0_leave wsX2_allKnots := goodIn_r _ [28, 29, 14, 15, 16, 65, 66, 67, 68] (by decide +kernel) (by decide +kernel)
set_option maxRecDepth 20000 in
theorem gX0_leave_X2_allKnots : GoodIn wsX0_leave (wsV RX0 56 RX2 yX2_allKnots wsX2_allKnots) := goodIn_app (goodIn_of _ (by decide +kernel)) ggX0_leave_X2_allKnots
set_option maxRecDepth 20000 in
theorem ggX0_leave_X2_knots : GoodIn wsX0_leave wsX2_knots := goodIn_r _ [33, 29, 65, 66, 67, 68] (by decide +kernel) (by decide +kernel)
set_option maxRecDepth 20000 in
theorem gX0_leave_X2_knots : GoodIn wsX0_leave (wsV RX0 73 RX2 yX2_knots wsX2_knots) := goodIn_app (goodIn_of _ (by decide +kernel)) ggX0_leave_X2_knots
set_option maxRecDepth 20000 in
theorem ggX0_leave_X6_holds : GoodIn wsX0_leave wsX6_holds := goodIn_r _ [35] (by decide +kernel) (by decide +kernel)
set_option maxRecDepth 20000 in
theorem gX0_leave_X6_holds_n39 : GoodIn wsX0_leave (wsX6_holds) := ggX0_leave_X6_holds
set_option maxRecDepth 20000 in
theorem ggX0_leave_X6_bit : GoodIn wsX0_leave wsX6_bit := goodIn_r _ [16] (by decide +kernel) (by decide +kernel)
set_option maxRecDepth 20000 in
theorem gX0_leave_X6_bit_n67 : GoodIn wsX0_leave (wsX6_bit) := ggX0_leave_X6_bit
set_option maxRecDepth 20000 in
theorem ggX0_leave_X5_reached : GoodIn wsX0_leave wsX5_reached := goodIn_r _ [39, 40, 41, 38, 42, 43, 44, 45, 11, 46, 13, 34, 15, 35, 47, 48, 49, 50, 51, 23, 24, 65, 66, 67, 68] (by decide +kernel) (by decide +kernel)
set_option maxRecDepth 20000 in
theorem gX0_leave_X5_reached : GoodIn wsX0_leave (va_wsS RX0 76 yX5_reached wsX5_reached) := goodIn_app (goodIn_of _ (by decide +kernel)) ggX0_leave_X5_reached
set_option maxRecDepth 20000 in
theorem ggX0_leave_J6_bitCount_0f7a4 : GoodIn wsX0_leave wsJ6_bitCount_0f7a4 := goodIn_r _ [55, 56, 57, 58] (by decide +kernel) (by decide +kernel)
set_option maxRecDepth 20000 in
theorem gX0_leave_J6_bitCount_0f7a4 : GoodIn wsX0_leave (va_wsS RX0 82 yJ6_bitCount_0f7a4 wsJ6_bitCount_0f7a4) := goodIn_app (goodIn_of _ (by decide +kernel)) ggX0_leave_J6_bitCount_0f7a4
theorem dX0_leave_0 : decode cX0_leave 0 = .ok (.aload_n 1, 1) := by decide +kernel
theorem dX0_leave_1 : decode cX0_leave 1 = .ok (.invokevirtual 70, 3) := by decide +kernel
theorem dX0_leave_4 : decode cX0_leave 4 = .ok (.aload_n 0, 1) := by decide +kernel
theorem dX0_leave_5 : decode cX0_leave 5 = .ok (.iload_n 2, 1) := by decide +kernel
theorem dX0_leave_6 : decode cX0_leave 6 = .ok (.invokevirtual 35, 3) := by decide +kernel
theorem dX0_leave_9 : decode cX0_leave 9 = .ok (.iconst (-1), 1) := by decide +kernel
theorem dX0_leave_10 : decode cX0_leave 10 = .ok (.ixor, 1) := by decide +kernel
theorem dX0_leave_11 : decode cX0_leave 11 = .ok (.iand, 1) := by decide +kernel
theorem dX0_leave_12 : decode cX0_leave 12 = .ok (.istore_n 3, 1) := by decide +kernel
theorem dX0_leave_13 : decode cX0_leave 13 = .ok (.aload_n 1, 1) := by decide +kernel
theorem dX0_leave_14 : decode cX0_leave 14 = .ok (.invokevirtual 56, 3) := by decide +kernel
theorem dX0_leave_17 : decode cX0_leave 17 = .ok (.istore 4, 2) := by decide +kernel
theorem dX0_leave_19 : decode cX0_leave 19 = .ok (.aload_n 0, 1) := by decide +kernel
theorem dX0_leave_20 : decode cX0_leave 20 = .ok (.iconst 0, 1) := by decide +kernel
theorem dX0_leave_21 : decode cX0_leave 21 = .ok (.putfield 22, 3) := by decide +kernel
theorem dX0_leave_24 : decode cX0_leave 24 = .ok (.aload_n 0, 1) := by decide +kernel
theorem dX0_leave_25 : decode cX0_leave 25 = .ok (.iconst 0, 1) := by decide +kernel
theorem dX0_leave_26 : decode cX0_leave 26 = .ok (.putfield 25, 3) := by decide +kernel
theorem dX0_leave_29 : decode cX0_leave 29 = .ok (.aload_n 0, 1) := by decide +kernel
theorem dX0_leave_30 : decode cX0_leave 30 = .ok (.iconst 0, 1) := by decide +kernel
theorem dX0_leave_31 : decode cX0_leave 31 = .ok (.putfield 28, 3) := by decide +kernel
theorem dX0_leave_34 : decode cX0_leave 34 = .ok (.iconst 0, 1) := by decide +kernel
theorem dX0_leave_35 : decode cX0_leave 35 = .ok (.istore 5, 2) := by decide +kernel
theorem dX0_leave_37 : decode cX0_leave 37 = .ok (.iload 5, 2) := by decide +kernel
theorem dX0_leave_39 : decode cX0_leave 39 = .ok (.aload_n 1, 1) := by decide +kernel
theorem dX0_leave_40 : decode cX0_leave 40 = .ok (.invokevirtual 73, 3) := by decide +kernel
theorem dX0_leave_43 : decode cX0_leave 43 = .ok (.if_icmp .ge 83, 3) := by decide +kernel
theorem dX0_leave_46 : decode cX0_leave 46 = .ok (.iload 4, 2) := by decide +kernel
theorem dX0_leave_48 : decode cX0_leave 48 = .ok (.iload 5, 2) := by decide +kernel
theorem dX0_leave_50 : decode cX0_leave 50 = .ok (.invokestatic 39, 3) := by decide +kernel
theorem dX0_leave_53 : decode cX0_leave 53 = .ok (.ifCond .eq 67, 3) := by decide +kernel
theorem dX0_leave_56 : decode cX0_leave 56 = .ok (.aload_n 1, 1) := by decide +kernel
theorem dX0_leave_57 : decode cX0_leave 57 = .ok (.iload 5, 2) := by decide +kernel
theorem dX0_leave_59 : decode cX0_leave 59 = .ok (.invokestatic 67, 3) := by decide +kernel
theorem dX0_leave_62 : decode cX0_leave 62 = .ok (.iload_n 3, 1) := by decide +kernel
theorem dX0_leave_63 : decode cX0_leave 63 = .ok (.invokestatic 76, 3) := by decide +kernel
theorem dX0_leave_66 : decode cX0_leave 66 = .ok (.istore 6, 2) := by decide +kernel
theorem dX0_leave_68 : decode cX0_leave 68 = .ok (.iload 6, 2) := by decide +kernel
theorem dX0_leave_70 : decode cX0_leave 70 = .ok (.invokestatic 82, 3) := by decide +kernel
theorem dX0_leave_73 : decode cX0_leave 73 = .ok (.istore 7, 2) := by decide +kernel
theorem dX0_leave_75 : decode cX0_leave 75 = .ok (.iload 4, 2) := by decide +kernel
theorem dX0_leave_77 : decode cX0_leave 77 = .ok (.iload 6, 2) := by decide +kernel
theorem dX0_leave_79 : decode cX0_leave 79 = .ok (.iconst (-1), 1) := by decide +kernel
theorem dX0_leave_80 : decode cX0_leave 80 = .ok (.ixor, 1) := by decide +kernel
theorem dX0_leave_81 : decode cX0_leave 81 = .ok (.iand, 1) := by decide +kernel
theorem dX0_leave_82 : decode cX0_leave 82 = .ok (.istore 4, 2) := by decide +kernel
theorem dX0_leave_84 : decode cX0_leave 84 = .ok (.aload_n 0, 1) := by decide +kernel
theorem dX0_leave_85 : decode cX0_leave 85 = .ok (.dup, 1) := by decide +kernel
theorem dX0_leave_86 : decode cX0_leave 86 = .ok (.getfield 22, 3) := by decide +kernel
theorem dX0_leave_89 : decode cX0_leave 89 = .ok (.iconst 1, 1) := by decide +kernel
theorem dX0_leave_90 : decode cX0_leave 90 = .ok (.iadd, 1) := by decide +kernel
theorem dX0_leave_91 : decode cX0_leave 91 = .ok (.putfield 22, 3) := by decide +kernel
theorem dX0_leave_94 : decode cX0_leave 94 = .ok (.aload_n 0, 1) := by decide +kernel
theorem dX0_leave_95 : decode cX0_leave 95 = .ok (.dup, 1) := by decide +kernel
theorem dX0_leave_96 : decode cX0_leave 96 = .ok (.getfield 25, 3) := by decide +kernel
theorem dX0_leave_99 : decode cX0_leave 99 = .ok (.iload 7, 2) := by decide +kernel
theorem dX0_leave_101 : decode cX0_leave 101 = .ok (.iconst 1, 1) := by decide +kernel
theorem dX0_leave_102 : decode cX0_leave 102 = .ok (.iand, 1) := by decide +kernel
theorem dX0_leave_103 : decode cX0_leave 103 = .ok (.iadd, 1) := by decide +kernel
theorem dX0_leave_104 : decode cX0_leave 104 = .ok (.putfield 25, 3) := by decide +kernel
theorem dX0_leave_107 : decode cX0_leave 107 = .ok (.aload_n 0, 1) := by decide +kernel
theorem dX0_leave_108 : decode cX0_leave 108 = .ok (.aload_n 0, 1) := by decide +kernel
theorem dX0_leave_109 : decode cX0_leave 109 = .ok (.getfield 28, 3) := by decide +kernel
theorem dX0_leave_112 : decode cX0_leave 112 = .ok (.iload 7, 2) := by decide +kernel
theorem dX0_leave_114 : decode cX0_leave 114 = .ok (.invokestatic 87, 3) := by decide +kernel
theorem dX0_leave_117 : decode cX0_leave 117 = .ok (.putfield 28, 3) := by decide +kernel
theorem dX0_leave_120 : decode cX0_leave 120 = .ok (.iinc 5 1, 3) := by decide +kernel
theorem dX0_leave_123 : decode cX0_leave 123 = .ok (.goto (-86), 3) := by decide +kernel
theorem dX0_leave_126 : decode cX0_leave 126 = .ok (.return_, 1) := by decide +kernel
theorem dX0_circlesLeft_0 : decode cX0_circlesLeft 0 = .ok (.aload_n 0, 1) := by decide +kernel
theorem dX0_circlesLeft_1 : decode cX0_circlesLeft 1 = .ok (.getfield 22, 3) := by decide +kernel
theorem dX0_circlesLeft_4 : decode cX0_circlesLeft 4 = .ok (.ireturn, 1) := by decide +kernel
theorem dX0_oddCirclesLeft_0 : decode cX0_oddCirclesLeft 0 = .ok (.aload_n 0, 1) := by decide +kernel
theorem dX0_oddCirclesLeft_1 : decode cX0_oddCirclesLeft 1 = .ok (.getfield 25, 3) := by decide +kernel
theorem dX0_oddCirclesLeft_4 : decode cX0_oddCirclesLeft 4 = .ok (.ireturn, 1) := by decide +kernel
theorem dX0_longestLeft_0 : decode cX0_longestLeft 0 = .ok (.aload_n 0, 1) := by decide +kernel
theorem dX0_longestLeft_1 : decode cX0_longestLeft 1 = .ok (.getfield 28, 3) := by decide +kernel
theorem dX0_longestLeft_4 : decode cX0_longestLeft 4 = .ok (.ireturn, 1) := by decide +kernel
set_option maxRecDepth 20000 in
theorem ggX1_init_X2_init : GoodIn wsX1_init wsX2_init := goodIn_r _ [11, 12, 2, 3, 13, 14, 15, 16, 17, 20, 21, 22, 23] (by decide +kernel) (by decide +kernel)
set_option maxRecDepth 20000 in
theorem gX1_init_X2_init : GoodIn wsX1_init (wsX2_init) := ggX1_init_X2_init
theorem dX1_init_0 : decode cX1_init 0 = .ok (.aload_n 0, 1) := by decide +kernel
theorem dX1_init_1 : decode cX1_init 1 = .ok (.invokespecial 3, 3) := by decide +kernel
theorem dX1_init_4 : decode cX1_init 4 = .ok (.aload_n 0, 1) := by decide +kernel
theorem dX1_init_5 : decode cX1_init 5 = .ok (.iconst 4, 1) := by decide +kernel
theorem dX1_init_6 : decode cX1_init 6 = .ok (.anewarray 9, 3) := by decide +kernel
theorem dX1_init_9 : decode cX1_init 9 = .ok (.putfield 11, 3) := by decide +kernel
theorem dX1_init_12 : decode cX1_init 12 = .ok (.iconst 0, 1) := by decide +kernel
theorem dX1_init_13 : decode cX1_init 13 = .ok (.istore_n 1, 1) := by decide +kernel
theorem dX1_init_14 : decode cX1_init 14 = .ok (.iload_n 1, 1) := by decide +kernel
theorem dX1_init_15 : decode cX1_init 15 = .ok (.aload_n 0, 1) := by decide +kernel
theorem dX1_init_16 : decode cX1_init 16 = .ok (.getfield 11, 3) := by decide +kernel
theorem dX1_init_19 : decode cX1_init 19 = .ok (.arraylength, 1) := by decide +kernel
theorem dX1_init_20 : decode cX1_init 20 = .ok (.if_icmp .ge 22, 3) := by decide +kernel
theorem dX1_init_23 : decode cX1_init 23 = .ok (.aload_n 0, 1) := by decide +kernel
theorem dX1_init_24 : decode cX1_init 24 = .ok (.getfield 11, 3) := by decide +kernel
theorem dX1_init_27 : decode cX1_init 27 = .ok (.iload_n 1, 1) := by decide +kernel
theorem dX1_init_28 : decode cX1_init 28 = .ok (.new 9, 3) := by decide +kernel
theorem dX1_init_31 : decode cX1_init 31 = .ok (.dup, 1) := by decide +kernel
theorem dX1_init_32 : decode cX1_init 32 = .ok (.invokespecial 17, 3) := by decide +kernel
theorem dX1_init_35 : decode cX1_init 35 = .ok (.aastore, 1) := by decide +kernel
theorem dX1_init_36 : decode cX1_init 36 = .ok (.iinc 1 1, 3) := by decide +kernel
theorem dX1_init_39 : decode cX1_init 39 = .ok (.goto (-25), 3) := by decide +kernel
theorem dX1_init_42 : decode cX1_init 42 = .ok (.aload_n 0, 1) := by decide +kernel
theorem dX1_init_43 : decode cX1_init 43 = .ok (.iconst 0, 1) := by decide +kernel
theorem dX1_init_44 : decode cX1_init 44 = .ok (.putfield 18, 3) := by decide +kernel
theorem dX1_init_47 : decode cX1_init 47 = .ok (.return_, 1) := by decide +kernel
theorem dX1_size_0 : decode cX1_size 0 = .ok (.aload_n 0, 1) := by decide +kernel
theorem dX1_size_1 : decode cX1_size 1 = .ok (.getfield 18, 3) := by decide +kernel
theorem dX1_size_4 : decode cX1_size 4 = .ok (.ireturn, 1) := by decide +kernel
set_option maxRecDepth 20000 in
theorem ggX1_push_X1_dropOldest : GoodIn wsX1_push wsX1_dropOldest := goodIn_r _ [7, 2, 1, 8, 9, 10, 11, 12, 13, 14, 15, 16, 17, 18, 19, 20, 21, 22, 23, 24, 25, 26, 27, 28, 29, 30, 31, 32, 33, 34, 35] (by decide +kernel) (by decide +kernel)
set_option maxRecDepth 20000 in
theorem gX1_push_X1_dropOldest : GoodIn wsX1_push (wsV RX1 22 RX1 yX1_dropOldest wsX1_dropOldest) := goodIn_app (goodIn_of _ (by decide +kernel)) ggX1_push_X1_dropOldest
set_option maxRecDepth 20000 in
theorem ggX1_push_X2_copyFrom : GoodIn wsX1_push wsX2_copyFrom := goodIn_r _ [12, 13, 14, 15, 16, 17, 18, 19, 11, 20, 21, 22, 23, 24, 25, 26, 27, 28, 29, 32, 33, 34, 35] (by decide +kernel) (by decide +kernel)
set_option maxRecDepth 20000 in
theorem gX1_push_X2_copyFrom : GoodIn wsX1_push (wsV RX1 25 RX2 yX2_copyFrom wsX2_copyFrom) := goodIn_app (goodIn_of _ (by decide +kernel)) ggX1_push_X2_copyFrom
theorem dX1_push_0 : decode cX1_push 0 = .ok (.aload_n 0, 1) := by decide +kernel
theorem dX1_push_1 : decode cX1_push 1 = .ok (.getfield 18, 3) := by decide +kernel
theorem dX1_push_4 : decode cX1_push 4 = .ok (.aload_n 0, 1) := by decide +kernel
theorem dX1_push_5 : decode cX1_push 5 = .ok (.getfield 11, 3) := by decide +kernel
theorem dX1_push_8 : decode cX1_push 8 = .ok (.arraylength, 1) := by decide +kernel
theorem dX1_push_9 : decode cX1_push 9 = .ok (.if_icmp .lt 7, 3) := by decide +kernel
theorem dX1_push_12 : decode cX1_push 12 = .ok (.aload_n 0, 1) := by decide +kernel
theorem dX1_push_13 : decode cX1_push 13 = .ok (.invokevirtual 22, 3) := by decide +kernel
theorem dX1_push_16 : decode cX1_push 16 = .ok (.aload_n 0, 1) := by decide +kernel
theorem dX1_push_17 : decode cX1_push 17 = .ok (.getfield 18, 3) := by decide +kernel
theorem dX1_push_20 : decode cX1_push 20 = .ok (.ifCond .lt 15, 3) := by decide +kernel
theorem dX1_push_23 : decode cX1_push 23 = .ok (.aload_n 0, 1) := by decide +kernel
theorem dX1_push_24 : decode cX1_push 24 = .ok (.getfield 18, 3) := by decide +kernel
theorem dX1_push_27 : decode cX1_push 27 = .ok (.aload_n 0, 1) := by decide +kernel
theorem dX1_push_28 : decode cX1_push 28 = .ok (.getfield 11, 3) := by decide +kernel
theorem dX1_push_31 : decode cX1_push 31 = .ok (.arraylength, 1) := by decide +kernel
theorem dX1_push_32 : decode cX1_push 32 = .ok (.if_icmp .lt 4, 3) := by decide +kernel
theorem dX1_push_35 : decode cX1_push 35 = .ok (.return_, 1) := by decide +kernel
theorem dX1_push_36 : decode cX1_push 36 = .ok (.aload_n 0, 1) := by decide +kernel
theorem dX1_push_37 : decode cX1_push 37 = .ok (.getfield 11, 3) := by decide +kernel
theorem dX1_push_40 : decode cX1_push 40 = .ok (.aload_n 0, 1) := by decide +kernel
theorem dX1_push_41 : decode cX1_push 41 = .ok (.getfield 18, 3) := by decide +kernel
theorem dX1_push_44 : decode cX1_push 44 = .ok (.aaload, 1) := by decide +kernel
theorem dX1_push_45 : decode cX1_push 45 = .ok (.astore_n 2, 1) := by decide +kernel
theorem dX1_push_46 : decode cX1_push 46 = .ok (.aload_n 2, 1) := by decide +kernel
theorem dX1_push_47 : decode cX1_push 47 = .ok (.ifnull 18, 3) := by decide +kernel
theorem dX1_push_50 : decode cX1_push 50 = .ok (.aload_n 2, 1) := by decide +kernel
theorem dX1_push_51 : decode cX1_push 51 = .ok (.aload_n 1, 1) := by decide +kernel
theorem dX1_push_52 : decode cX1_push 52 = .ok (.invokevirtual 25, 3) := by decide +kernel
theorem dX1_push_55 : decode cX1_push 55 = .ok (.aload_n 0, 1) := by decide +kernel
theorem dX1_push_56 : decode cX1_push 56 = .ok (.dup, 1) := by decide +kernel
theorem dX1_push_57 : decode cX1_push 57 = .ok (.getfield 18, 3) := by decide +kernel
theorem dX1_push_60 : decode cX1_push 60 = .ok (.iconst 1, 1) := by decide +kernel
theorem dX1_push_61 : decode cX1_push 61 = .ok (.iadd, 1) := by decide +kernel
theorem dX1_push_62 : decode cX1_push 62 = .ok (.putfield 18, 3) := by decide +kernel
theorem dX1_push_65 : decode cX1_push 65 = .ok (.return_, 1) := by decide +kernel
set_option maxRecDepth 20000 in
theorem ggX1_dropOldest_X2_copyFrom : GoodIn wsX1_dropOldest wsX2_copyFrom := goodIn_r _ [7, 8, 9, 10, 11, 12, 13, 14, 6, 15, 16, 17, 18, 19, 20, 21, 22, 23, 24, 27, 28, 29, 30] (by decide +kernel) (by decide +kernel)
set_option maxRecDepth 20000 in
theorem gX1_dropOldest_X2_copyFrom : GoodIn wsX1_dropOldest (wsV RX1 25 RX2 yX2_copyFrom wsX2_copyFrom) := goodIn_app (goodIn_of _ (by decide +kernel)) ggX1_dropOldest_X2_copyFrom
theorem dX1_dropOldest_0 : decode cX1_dropOldest 0 = .ok (.iconst 1, 1) := by decide +kernel
theorem dX1_dropOldest_1 : decode cX1_dropOldest 1 = .ok (.istore_n 1, 1) := by decide +kernel
theorem dX1_dropOldest_2 : decode cX1_dropOldest 2 = .ok (.iload_n 1, 1) := by decide +kernel
theorem dX1_dropOldest_3 : decode cX1_dropOldest 3 = .ok (.aload_n 0, 1) := by decide +kernel
theorem dX1_dropOldest_4 : decode cX1_dropOldest 4 = .ok (.getfield 11, 3) := by decide +kernel
theorem dX1_dropOldest_7 : decode cX1_dropOldest 7 = .ok (.arraylength, 1) := by decide +kernel
theorem dX1_dropOldest_8 : decode cX1_dropOldest 8 = .ok (.if_icmp .ge 38, 3) := by decide +kernel
theorem dX1_dropOldest_11 : decode cX1_dropOldest 11 = .ok (.aload_n 0, 1) := by decide +kernel
theorem dX1_dropOldest_12 : decode cX1_dropOldest 12 = .ok (.getfield 11, 3) := by decide +kernel
theorem dX1_dropOldest_15 : decode cX1_dropOldest 15 = .ok (.iload_n 1, 1) := by decide +kernel
theorem dX1_dropOldest_16 : decode cX1_dropOldest 16 = .ok (.iconst 1, 1) := by decide +kernel
theorem dX1_dropOldest_17 : decode cX1_dropOldest 17 = .ok (.isub, 1) := by decide +kernel
theorem dX1_dropOldest_18 : decode cX1_dropOldest 18 = .ok (.aaload, 1) := by decide +kernel
theorem dX1_dropOldest_19 : decode cX1_dropOldest 19 = .ok (.astore_n 2, 1) := by decide +kernel
theorem dX1_dropOldest_20 : decode cX1_dropOldest 20 = .ok (.aload_n 0, 1) := by decide +kernel
theorem dX1_dropOldest_21 : decode cX1_dropOldest 21 = .ok (.getfield 11, 3) := by decide +kernel
theorem dX1_dropOldest_24 : decode cX1_dropOldest 24 = .ok (.iload_n 1, 1) := by decide +kernel
theorem dX1_dropOldest_25 : decode cX1_dropOldest 25 = .ok (.aaload, 1) := by decide +kernel
theorem dX1_dropOldest_26 : decode cX1_dropOldest 26 = .ok (.astore_n 3, 1) := by decide +kernel
theorem dX1_dropOldest_27 : decode cX1_dropOldest 27 = .ok (.aload_n 2, 1) := by decide +kernel
theorem dX1_dropOldest_28 : decode cX1_dropOldest 28 = .ok (.ifnull 12, 3) := by decide +kernel
theorem dX1_dropOldest_31 : decode cX1_dropOldest 31 = .ok (.aload_n 3, 1) := by decide +kernel
theorem dX1_dropOldest_32 : decode cX1_dropOldest 32 = .ok (.ifnull 8, 3) := by decide +kernel
theorem dX1_dropOldest_35 : decode cX1_dropOldest 35 = .ok (.aload_n 2, 1) := by decide +kernel
theorem dX1_dropOldest_36 : decode cX1_dropOldest 36 = .ok (.aload_n 3, 1) := by decide +kernel
theorem dX1_dropOldest_37 : decode cX1_dropOldest 37 = .ok (.invokevirtual 25, 3) := by decide +kernel
theorem dX1_dropOldest_40 : decode cX1_dropOldest 40 = .ok (.iinc 1 1, 3) := by decide +kernel
theorem dX1_dropOldest_43 : decode cX1_dropOldest 43 = .ok (.goto (-41), 3) := by decide +kernel
theorem dX1_dropOldest_46 : decode cX1_dropOldest 46 = .ok (.aload_n 0, 1) := by decide +kernel
theorem dX1_dropOldest_47 : decode cX1_dropOldest 47 = .ok (.dup, 1) := by decide +kernel
theorem dX1_dropOldest_48 : decode cX1_dropOldest 48 = .ok (.getfield 18, 3) := by decide +kernel
theorem dX1_dropOldest_51 : decode cX1_dropOldest 51 = .ok (.iconst 1, 1) := by decide +kernel
theorem dX1_dropOldest_52 : decode cX1_dropOldest 52 = .ok (.isub, 1) := by decide +kernel
theorem dX1_dropOldest_53 : decode cX1_dropOldest 53 = .ok (.putfield 18, 3) := by decide +kernel
theorem dX1_dropOldest_56 : decode cX1_dropOldest 56 = .ok (.return_, 1) := by decide +kernel
set_option maxRecDepth 20000 in
theorem ggX1_pop_X2_copyFrom : GoodIn wsX1_pop wsX2_copyFrom := goodIn_r _ [7, 8, 9, 10, 11, 12, 13, 14, 6, 15, 16, 17, 18, 19, 20, 21, 22, 23, 24, 27, 28, 29, 30] (by decide +kernel) (by decide +kernel)
set_option maxRecDepth 20000 in
theorem gX1_pop_X2_copyFrom : GoodIn wsX1_pop (wsV RX1 25 RX2 yX2_copyFrom wsX2_copyFrom) := goodIn_app (goodIn_of _ (by decide +kernel)) ggX1_pop_X2_copyFrom
theorem dX1_pop_0 : decode cX1_pop 0 = .ok (.aload_n 0, 1) := by decide +kernel
theorem dX1_pop_1 : decode cX1_pop 1 = .ok (.getfield 18, 3) := by decide +kernel
theorem dX1_pop_4 : decode cX1_pop 4 = .ok (.iconst 1, 1) := by decide +kernel
theorem dX1_pop_5 : decode cX1_pop 5 = .ok (.isub, 1) := by decide +kernel
theorem dX1_pop_6 : decode cX1_pop 6 = .ok (.istore_n 2, 1) := by decide +kernel
theorem dX1_pop_7 : decode cX1_pop 7 = .ok (.iload_n 2, 1) := by decide +kernel
theorem dX1_pop_8 : decode cX1_pop 8 = .ok (.ifCond .lt 12, 3) := by decide +kernel
theorem dX1_pop_11 : decode cX1_pop 11 = .ok (.iload_n 2, 1) := by decide +kernel
theorem dX1_pop_12 : decode cX1_pop 12 = .ok (.aload_n 0, 1) := by decide +kernel
theorem dX1_pop_13 : decode cX1_pop 13 = .ok (.getfield 11, 3) := by decide +kernel
theorem dX1_pop_16 : decode cX1_pop 16 = .ok (.arraylength, 1) := by decide +kernel
theorem dX1_pop_17 : decode cX1_pop 17 = .ok (.if_icmp .lt 5, 3) := by decide +kernel
theorem dX1_pop_20 : decode cX1_pop 20 = .ok (.iconst 0, 1) := by decide +kernel
theorem dX1_pop_21 : decode cX1_pop 21 = .ok (.ireturn, 1) := by decide +kernel
theorem dX1_pop_22 : decode cX1_pop 22 = .ok (.aload_n 0, 1) := by decide +kernel
theorem dX1_pop_23 : decode cX1_pop 23 = .ok (.getfield 11, 3) := by decide +kernel
theorem dX1_pop_26 : decode cX1_pop 26 = .ok (.iload_n 2, 1) := by decide +kernel
theorem dX1_pop_27 : decode cX1_pop 27 = .ok (.aaload, 1) := by decide +kernel
theorem dX1_pop_28 : decode cX1_pop 28 = .ok (.astore_n 3, 1) := by decide +kernel
theorem dX1_pop_29 : decode cX1_pop 29 = .ok (.aload_n 3, 1) := by decide +kernel
theorem dX1_pop_30 : decode cX1_pop 30 = .ok (.ifnonnull 5, 3) := by decide +kernel
theorem dX1_pop_33 : decode cX1_pop 33 = .ok (.iconst 0, 1) := by decide +kernel
theorem dX1_pop_34 : decode cX1_pop 34 = .ok (.ireturn, 1) := by decide +kernel
theorem dX1_pop_35 : decode cX1_pop 35 = .ok (.aload_n 1, 1) := by decide +kernel
theorem dX1_pop_36 : decode cX1_pop 36 = .ok (.aload_n 3, 1) := by decide +kernel
theorem dX1_pop_37 : decode cX1_pop 37 = .ok (.invokevirtual 25, 3) := by decide +kernel
theorem dX1_pop_40 : decode cX1_pop 40 = .ok (.aload_n 0, 1) := by decide +kernel
theorem dX1_pop_41 : decode cX1_pop 41 = .ok (.iload_n 2, 1) := by decide +kernel
theorem dX1_pop_42 : decode cX1_pop 42 = .ok (.putfield 18, 3) := by decide +kernel
theorem dX1_pop_45 : decode cX1_pop 45 = .ok (.iconst 1, 1) := by decide +kernel
theorem dX1_pop_46 : decode cX1_pop 46 = .ok (.ireturn, 1) := by decide +kernel
theorem dX2_init_0 : decode cX2_init 0 = .ok (.aload_n 0, 1) := by decide +kernel
theorem dX2_init_1 : decode cX2_init 1 = .ok (.invokespecial 3, 3) := by decide +kernel
theorem dX2_init_4 : decode cX2_init 4 = .ok (.aload_n 0, 1) := by decide +kernel
theorem dX2_init_5 : decode cX2_init 5 = .ok (.iconst 0, 1) := by decide +kernel
theorem dX2_init_6 : decode cX2_init 6 = .ok (.putfield 9, 3) := by decide +kernel
theorem dX2_init_9 : decode cX2_init 9 = .ok (.aload_n 0, 1) := by decide +kernel
theorem dX2_init_10 : decode cX2_init 10 = .ok (.iconst 0, 1) := by decide +kernel
theorem dX2_init_11 : decode cX2_init 11 = .ok (.putfield 15, 3) := by decide +kernel
theorem dX2_init_14 : decode cX2_init 14 = .ok (.aload_n 0, 1) := by decide +kernel
theorem dX2_init_15 : decode cX2_init 15 = .ok (.bipush 21, 2) := by decide +kernel
theorem dX2_init_17 : decode cX2_init 17 = .ok (.newarray .int, 2) := by decide +kernel
theorem dX2_init_19 : decode cX2_init 19 = .ok (.putfield 18, 3) := by decide +kernel
theorem dX2_init_22 : decode cX2_init 22 = .ok (.aload_n 0, 1) := by decide +kernel
theorem dX2_init_23 : decode cX2_init 23 = .ok (.bipush 21, 2) := by decide +kernel
theorem dX2_init_25 : decode cX2_init 25 = .ok (.newarray .int, 2) := by decide +kernel
theorem dX2_init_27 : decode cX2_init 27 = .ok (.putfield 22, 3) := by decide +kernel
theorem dX2_init_30 : decode cX2_init 30 = .ok (.return_, 1) := by decide +kernel
theorem dX2_knots_0 : decode cX2_knots 0 = .ok (.aload_n 0, 1) := by decide +kernel
theorem dX2_knots_1 : decode cX2_knots 1 = .ok (.getfield 9, 3) := by decide +kernel
theorem dX2_knots_4 : decode cX2_knots 4 = .ok (.ireturn, 1) := by decide +kernel
theorem dX2_threads_0 : decode cX2_threads 0 = .ok (.aload_n 0, 1) := by decide +kernel
theorem dX2_threads_1 : decode cX2_threads 1 = .ok (.getfield 15, 3) := by decide +kernel
theorem dX2_threads_4 : decode cX2_threads 4 = .ok (.ireturn, 1) := by decide +kernel
theorem dX2_hasKnot_0 : decode cX2_hasKnot 0 = .ok (.iload_n 1, 1) := by decide +kernel
theorem dX2_hasKnot_1 : decode cX2_hasKnot 1 = .ok (.ifCond .lt 15, 3) := by decide +kernel
theorem dX2_hasKnot_4 : decode cX2_hasKnot 4 = .ok (.iload_n 1, 1) := by decide +kernel
theorem dX2_hasKnot_5 : decode cX2_hasKnot 5 = .ok (.aload_n 0, 1) := by decide +kernel
theorem dX2_hasKnot_6 : decode cX2_hasKnot 6 = .ok (.getfield 9, 3) := by decide +kernel
theorem dX2_hasKnot_9 : decode cX2_hasKnot 9 = .ok (.if_icmp .ge 7, 3) := by decide +kernel
theorem dX2_hasKnot_12 : decode cX2_hasKnot 12 = .ok (.iconst 1, 1) := by decide +kernel
theorem dX2_hasKnot_13 : decode cX2_hasKnot 13 = .ok (.goto 4, 3) := by decide +kernel
theorem dX2_hasKnot_16 : decode cX2_hasKnot 16 = .ok (.iconst 0, 1) := by decide +kernel
theorem dX2_hasKnot_17 : decode cX2_hasKnot 17 = .ok (.ireturn, 1) := by decide +kernel
theorem dX2_hasThread_0 : decode cX2_hasThread 0 = .ok (.iload_n 1, 1) := by decide +kernel
theorem dX2_hasThread_1 : decode cX2_hasThread 1 = .ok (.ifCond .lt 15, 3) := by decide +kernel
theorem dX2_hasThread_4 : decode cX2_hasThread 4 = .ok (.iload_n 1, 1) := by decide +kernel
theorem dX2_hasThread_5 : decode cX2_hasThread 5 = .ok (.aload_n 0, 1) := by decide +kernel
theorem dX2_hasThread_6 : decode cX2_hasThread 6 = .ok (.getfield 15, 3) := by decide +kernel
theorem dX2_hasThread_9 : decode cX2_hasThread 9 = .ok (.if_icmp .ge 7, 3) := by decide +kernel
theorem dX2_hasThread_12 : decode cX2_hasThread 12 = .ok (.iconst 1, 1) := by decide +kernel
theorem dX2_hasThread_13 : decode cX2_hasThread 13 = .ok (.goto 4, 3) := by decide +kernel
theorem dX2_hasThread_16 : decode cX2_hasThread 16 = .ok (.iconst 0, 1) := by decide +kernel
theorem dX2_hasThread_17 : decode cX2_hasThread 17 = .ok (.ireturn, 1) := by decide +kernel
set_option maxRecDepth 20000 in
theorem ggX2_allKnots_X6_bit : GoodIn wsX2_allKnots wsX6_bit := goodIn_r _ [4] (by decide +kernel) (by decide +kernel)
set_option maxRecDepth 20000 in
theorem gX2_allKnots_X6_bit_n25 : GoodIn wsX2_allKnots (wsX6_bit) := ggX2_allKnots_X6_bit
theorem dX2_allKnots_0 : decode cX2_allKnots 0 = .ok (.aload_n 0, 1) := by decide +kernel
theorem dX2_allKnots_1 : decode cX2_allKnots 1 = .ok (.getfield 9, 3) := by decide +kernel
theorem dX2_allKnots_4 : decode cX2_allKnots 4 = .ok (.invokestatic 25, 3) := by decide +kernel
theorem dX2_allKnots_7 : decode cX2_allKnots 7 = .ok (.iconst 1, 1) := by decide +kernel
theorem dX2_allKnots_8 : decode cX2_allKnots 8 = .ok (.isub, 1) := by decide +kernel
theorem dX2_allKnots_9 : decode cX2_allKnots 9 = .ok (.ireturn, 1) := by decide +kernel
set_option maxRecDepth 20000 in
theorem ggX2_allThreads_X6_bit : GoodIn wsX2_allThreads wsX6_bit := goodIn_r _ [4] (by decide +kernel) (by decide +kernel)
set_option maxRecDepth 20000 in
theorem gX2_allThreads_X6_bit_n25 : GoodIn wsX2_allThreads (wsX6_bit) := ggX2_allThreads_X6_bit
theorem dX2_allThreads_0 : decode cX2_allThreads 0 = .ok (.aload_n 0, 1) := by decide +kernel
theorem dX2_allThreads_1 : decode cX2_allThreads 1 = .ok (.getfield 15, 3) := by decide +kernel
theorem dX2_allThreads_4 : decode cX2_allThreads 4 = .ok (.invokestatic 25, 3) := by decide +kernel
theorem dX2_allThreads_7 : decode cX2_allThreads 7 = .ok (.iconst 1, 1) := by decide +kernel
theorem dX2_allThreads_8 : decode cX2_allThreads 8 = .ok (.isub, 1) := by decide +kernel
theorem dX2_allThreads_9 : decode cX2_allThreads 9 = .ok (.ireturn, 1) := by decide +kernel
set_option maxRecDepth 20000 in
theorem ggX2_ends_X6_at : GoodIn wsX2_ends wsX6_at := goodIn_r _ [4] (by decide +kernel) (by decide +kernel)
set_option maxRecDepth 20000 in
theorem gX2_ends_X6_at_n29 : GoodIn wsX2_ends (wsX6_at) := ggX2_ends_X6_at
theorem dX2_ends_0 : decode cX2_ends 0 = .ok (.aload_n 0, 1) := by decide +kernel
theorem dX2_ends_1 : decode cX2_ends 1 = .ok (.getfield 18, 3) := by decide +kernel
theorem dX2_ends_4 : decode cX2_ends 4 = .ok (.iload_n 1, 1) := by decide +kernel
theorem dX2_ends_5 : decode cX2_ends 5 = .ok (.invokestatic 29, 3) := by decide +kernel
theorem dX2_ends_8 : decode cX2_ends 8 = .ok (.ireturn, 1) := by decide +kernel
set_option maxRecDepth 20000 in
theorem ggX2_lesserKnot_X2_ends : GoodIn wsX2_lesserKnot wsX2_ends := goodIn_r _ [5, 6, 7, 8, 9, 15, 16, 17, 18] (by decide +kernel) (by decide +kernel)
set_option maxRecDepth 20000 in
theorem gX2_lesserKnot_X2_ends : GoodIn wsX2_lesserKnot (wsV RX2 33 RX2 yX2_ends wsX2_ends) := goodIn_app (goodIn_of _ (by decide +kernel)) ggX2_lesserKnot_X2_ends
set_option maxRecDepth 20000 in
theorem ggX2_lesserKnot_J6_numberOfTrailingZeros_0f7a4 : GoodIn wsX2_lesserKnot wsJ6_numberOfTrailingZeros_0f7a4 := goodIn_r _ [13, 14] (by decide +kernel) (by decide +kernel)
set_option maxRecDepth 20000 in
theorem gX2_lesserKnot_J6_numberOfTrailingZeros_0f7a4 : GoodIn wsX2_lesserKnot (va_wsS RX2 35 yJ6_numberOfTrailingZeros_0f7a4 wsJ6_numberOfTrailingZeros_0f7a4) := goodIn_app (goodIn_of _ (by decide +kernel)) ggX2_lesserKnot_J6_numberOfTrailingZeros_0f7a4
theorem dX2_lesserKnot_0 : decode cX2_lesserKnot 0 = .ok (.aload_n 0, 1) := by decide +kernel
theorem dX2_lesserKnot_1 : decode cX2_lesserKnot 1 = .ok (.iload_n 1, 1) := by decide +kernel
theorem dX2_lesserKnot_2 : decode cX2_lesserKnot 2 = .ok (.invokevirtual 33, 3) := by decide +kernel
theorem dX2_lesserKnot_5 : decode cX2_lesserKnot 5 = .ok (.invokestatic 35, 3) := by decide +kernel
theorem dX2_lesserKnot_8 : decode cX2_lesserKnot 8 = .ok (.ireturn, 1) := by decide +kernel
set_option maxRecDepth 20000 in
theorem ggX2_greaterKnot_X2_ends : GoodIn wsX2_greaterKnot wsX2_ends := goodIn_r _ [5, 6, 7, 8, 9, 15, 16, 17, 18] (by decide +kernel) (by decide +kernel)
set_option maxRecDepth 20000 in
theorem gX2_greaterKnot_X2_ends : GoodIn wsX2_greaterKnot (wsV RX2 33 RX2 yX2_ends wsX2_ends) := goodIn_app (goodIn_of _ (by decide +kernel)) ggX2_greaterKnot_X2_ends
set_option maxRecDepth 20000 in
theorem ggX2_greaterKnot_J6_numberOfLeadingZeros_0f7a4 : GoodIn wsX2_greaterKnot wsJ6_numberOfLeadingZeros_0f7a4 := goodIn_r _ [13, 14] (by decide +kernel) (by decide +kernel)
set_option maxRecDepth 20000 in
theorem gX2_greaterKnot_J6_numberOfLeadingZeros_0f7a4 : GoodIn wsX2_greaterKnot (va_wsS RX2 40 yJ6_numberOfLeadingZeros_0f7a4 wsJ6_numberOfLeadingZeros_0f7a4) := goodIn_app (goodIn_of _ (by decide +kernel)) ggX2_greaterKnot_J6_numberOfLeadingZeros_0f7a4
theorem dX2_greaterKnot_0 : decode cX2_greaterKnot 0 = .ok (.bipush 31, 2) := by decide +kernel
theorem dX2_greaterKnot_2 : decode cX2_greaterKnot 2 = .ok (.aload_n 0, 1) := by decide +kernel
theorem dX2_greaterKnot_3 : decode cX2_greaterKnot 3 = .ok (.iload_n 1, 1) := by decide +kernel
theorem dX2_greaterKnot_4 : decode cX2_greaterKnot 4 = .ok (.invokevirtual 33, 3) := by decide +kernel
theorem dX2_greaterKnot_7 : decode cX2_greaterKnot 7 = .ok (.invokestatic 40, 3) := by decide +kernel
theorem dX2_greaterKnot_10 : decode cX2_greaterKnot 10 = .ok (.isub, 1) := by decide +kernel
theorem dX2_greaterKnot_11 : decode cX2_greaterKnot 11 = .ok (.ireturn, 1) := by decide +kernel
set_option maxRecDepth 20000 in
theorem ggX2_colour_X6_at : GoodIn wsX2_colour wsX6_at := goodIn_r _ [4] (by decide +kernel) (by decide +kernel)
set_option maxRecDepth 20000 in
theorem gX2_colour_X6_at_n29 : GoodIn wsX2_colour (wsX6_at) := ggX2_colour_X6_at
theorem dX2_colour_0 : decode cX2_colour 0 = .ok (.aload_n 0, 1) := by decide +kernel
theorem dX2_colour_1 : decode cX2_colour 1 = .ok (.getfield 22, 3) := by decide +kernel
theorem dX2_colour_4 : decode cX2_colour 4 = .ok (.iload_n 1, 1) := by decide +kernel
theorem dX2_colour_5 : decode cX2_colour 5 = .ok (.invokestatic 29, 3) := by decide +kernel
theorem dX2_colour_8 : decode cX2_colour 8 = .ok (.ireturn, 1) := by decide +kernel
set_option maxRecDepth 20000 in
theorem ggX2_setColour_X6_put : GoodIn wsX2_setColour wsX6_put := goodIn_r _ [4] (by decide +kernel) (by decide +kernel)
set_option maxRecDepth 20000 in
theorem gX2_setColour_X6_put_n43 : GoodIn wsX2_setColour (wsX6_put) := ggX2_setColour_X6_put
theorem dX2_setColour_0 : decode cX2_setColour 0 = .ok (.aload_n 0, 1) := by decide +kernel
theorem dX2_setColour_1 : decode cX2_setColour 1 = .ok (.getfield 22, 3) := by decide +kernel
theorem dX2_setColour_4 : decode cX2_setColour 4 = .ok (.iload_n 1, 1) := by decide +kernel
theorem dX2_setColour_5 : decode cX2_setColour 5 = .ok (.iload_n 2, 1) := by decide +kernel
theorem dX2_setColour_6 : decode cX2_setColour 6 = .ok (.invokestatic 43, 3) := by decide +kernel
theorem dX2_setColour_9 : decode cX2_setColour 9 = .ok (.return_, 1) := by decide +kernel
set_option maxRecDepth 20000 in
theorem ggX2_coloured_X2_colour : GoodIn wsX2_coloured wsX2_colour := goodIn_r _ [6, 7, 8, 9, 10, 13, 14, 15, 16] (by decide +kernel) (by decide +kernel)
set_option maxRecDepth 20000 in
theorem gX2_coloured_X2_colour : GoodIn wsX2_coloured (wsV RX2 47 RX2 yX2_colour wsX2_colour) := goodIn_app (goodIn_of _ (by decide +kernel)) ggX2_coloured_X2_colour
set_option maxRecDepth 20000 in
theorem ggX2_coloured_X6_bit : GoodIn wsX2_coloured wsX6_bit := goodIn_r _ [12] (by decide +kernel) (by decide +kernel)
set_option maxRecDepth 20000 in
theorem gX2_coloured_X6_bit_n25 : GoodIn wsX2_coloured (wsX6_bit) := ggX2_coloured_X6_bit
theorem dX2_coloured_0 : decode cX2_coloured 0 = .ok (.iconst 0, 1) := by decide +kernel
theorem dX2_coloured_1 : decode cX2_coloured 1 = .ok (.istore_n 2, 1) := by decide +kernel
theorem dX2_coloured_2 : decode cX2_coloured 2 = .ok (.iconst 0, 1) := by decide +kernel
theorem dX2_coloured_3 : decode cX2_coloured 3 = .ok (.istore_n 3, 1) := by decide +kernel
theorem dX2_coloured_4 : decode cX2_coloured 4 = .ok (.iload_n 3, 1) := by decide +kernel
theorem dX2_coloured_5 : decode cX2_coloured 5 = .ok (.aload_n 0, 1) := by decide +kernel
theorem dX2_coloured_6 : decode cX2_coloured 6 = .ok (.getfield 15, 3) := by decide +kernel
theorem dX2_coloured_9 : decode cX2_coloured 9 = .ok (.if_icmp .ge 25, 3) := by decide +kernel
theorem dX2_coloured_12 : decode cX2_coloured 12 = .ok (.aload_n 0, 1) := by decide +kernel
theorem dX2_coloured_13 : decode cX2_coloured 13 = .ok (.iload_n 3, 1) := by decide +kernel
theorem dX2_coloured_14 : decode cX2_coloured 14 = .ok (.invokevirtual 47, 3) := by decide +kernel
theorem dX2_coloured_17 : decode cX2_coloured 17 = .ok (.iload_n 1, 1) := by decide +kernel
theorem dX2_coloured_18 : decode cX2_coloured 18 = .ok (.if_icmp .ne 10, 3) := by decide +kernel
theorem dX2_coloured_21 : decode cX2_coloured 21 = .ok (.iload_n 2, 1) := by decide +kernel
theorem dX2_coloured_22 : decode cX2_coloured 22 = .ok (.iload_n 3, 1) := by decide +kernel
theorem dX2_coloured_23 : decode cX2_coloured 23 = .ok (.invokestatic 25, 3) := by decide +kernel
theorem dX2_coloured_26 : decode cX2_coloured 26 = .ok (.ior, 1) := by decide +kernel
theorem dX2_coloured_27 : decode cX2_coloured 27 = .ok (.istore_n 2, 1) := by decide +kernel
theorem dX2_coloured_28 : decode cX2_coloured 28 = .ok (.iinc 3 1, 3) := by decide +kernel
theorem dX2_coloured_31 : decode cX2_coloured 31 = .ok (.goto (-27), 3) := by decide +kernel
theorem dX2_coloured_34 : decode cX2_coloured 34 = .ok (.iload_n 2, 1) := by decide +kernel
theorem dX2_coloured_35 : decode cX2_coloured 35 = .ok (.ireturn, 1) := by decide +kernel
set_option maxRecDepth 20000 in
theorem ggX2_threadsAt_X2_ends : GoodIn wsX2_threadsAt wsX2_ends := goodIn_r _ [6, 7, 8, 9, 10, 13, 14, 15, 16] (by decide +kernel) (by decide +kernel)
set_option maxRecDepth 20000 in
theorem gX2_threadsAt_X2_ends : GoodIn wsX2_threadsAt (wsV RX2 33 RX2 yX2_ends wsX2_ends) := goodIn_app (goodIn_of _ (by decide +kernel)) ggX2_threadsAt_X2_ends
set_option maxRecDepth 20000 in
theorem ggX2_threadsAt_X6_bit : GoodIn wsX2_threadsAt wsX6_bit := goodIn_r _ [12] (by decide +kernel) (by decide +kernel)
set_option maxRecDepth 20000 in
theorem gX2_threadsAt_X6_bit_n25 : GoodIn wsX2_threadsAt (wsX6_bit) := ggX2_threadsAt_X6_bit
theorem dX2_threadsAt_0 : decode cX2_threadsAt 0 = .ok (.iconst 0, 1) := by decide +kernel
theorem dX2_threadsAt_1 : decode cX2_threadsAt 1 = .ok (.istore_n 2, 1) := by decide +kernel
theorem dX2_threadsAt_2 : decode cX2_threadsAt 2 = .ok (.iconst 0, 1) := by decide +kernel
theorem dX2_threadsAt_3 : decode cX2_threadsAt 3 = .ok (.istore_n 3, 1) := by decide +kernel
theorem dX2_threadsAt_4 : decode cX2_threadsAt 4 = .ok (.iload_n 3, 1) := by decide +kernel
theorem dX2_threadsAt_5 : decode cX2_threadsAt 5 = .ok (.aload_n 0, 1) := by decide +kernel
theorem dX2_threadsAt_6 : decode cX2_threadsAt 6 = .ok (.getfield 15, 3) := by decide +kernel
theorem dX2_threadsAt_9 : decode cX2_threadsAt 9 = .ok (.if_icmp .ge 26, 3) := by decide +kernel
theorem dX2_threadsAt_12 : decode cX2_threadsAt 12 = .ok (.aload_n 0, 1) := by decide +kernel
theorem dX2_threadsAt_13 : decode cX2_threadsAt 13 = .ok (.iload_n 3, 1) := by decide +kernel
theorem dX2_threadsAt_14 : decode cX2_threadsAt 14 = .ok (.invokevirtual 33, 3) := by decide +kernel
theorem dX2_threadsAt_17 : decode cX2_threadsAt 17 = .ok (.iload_n 1, 1) := by decide +kernel
theorem dX2_threadsAt_18 : decode cX2_threadsAt 18 = .ok (.iand, 1) := by decide +kernel
theorem dX2_threadsAt_19 : decode cX2_threadsAt 19 = .ok (.ifCond .eq 10, 3) := by decide +kernel
theorem dX2_threadsAt_22 : decode cX2_threadsAt 22 = .ok (.iload_n 2, 1) := by decide +kernel
theorem dX2_threadsAt_23 : decode cX2_threadsAt 23 = .ok (.iload_n 3, 1) := by decide +kernel
theorem dX2_threadsAt_24 : decode cX2_threadsAt 24 = .ok (.invokestatic 25, 3) := by decide +kernel
theorem dX2_threadsAt_27 : decode cX2_threadsAt 27 = .ok (.ior, 1) := by decide +kernel
theorem dX2_threadsAt_28 : decode cX2_threadsAt 28 = .ok (.istore_n 2, 1) := by decide +kernel
theorem dX2_threadsAt_29 : decode cX2_threadsAt 29 = .ok (.iinc 3 1, 3) := by decide +kernel
theorem dX2_threadsAt_32 : decode cX2_threadsAt 32 = .ok (.goto (-28), 3) := by decide +kernel
theorem dX2_threadsAt_35 : decode cX2_threadsAt 35 = .ok (.iload_n 2, 1) := by decide +kernel
theorem dX2_threadsAt_36 : decode cX2_threadsAt 36 = .ok (.ireturn, 1) := by decide +kernel
set_option maxRecDepth 20000 in
theorem ggX2_neighbours_X2_ends : GoodIn wsX2_neighbours wsX2_ends := goodIn_r _ [6, 7, 8, 9, 10, 15, 16, 17, 18] (by decide +kernel) (by decide +kernel)
set_option maxRecDepth 20000 in
theorem gX2_neighbours_X2_ends : GoodIn wsX2_neighbours (wsV RX2 33 RX2 yX2_ends wsX2_ends) := goodIn_app (goodIn_of _ (by decide +kernel)) ggX2_neighbours_X2_ends
set_option maxRecDepth 20000 in
theorem ggX2_neighbours_X6_holds : GoodIn wsX2_neighbours wsX6_holds := goodIn_r _ [12] (by decide +kernel) (by decide +kernel)
set_option maxRecDepth 20000 in
theorem gX2_neighbours_X6_holds_n50 : GoodIn wsX2_neighbours (wsX6_holds) := ggX2_neighbours_X6_holds
set_option maxRecDepth 20000 in
theorem ggX2_neighbours_X6_bit : GoodIn wsX2_neighbours wsX6_bit := goodIn_r _ [14] (by decide +kernel) (by decide +kernel)
set_option maxRecDepth 20000 in
theorem gX2_neighbours_X6_bit_n25 : GoodIn wsX2_neighbours (wsX6_bit) := ggX2_neighbours_X6_bit
theorem dX2_neighbours_0 : decode cX2_neighbours 0 = .ok (.iconst 0, 1) := by decide +kernel
theorem dX2_neighbours_1 : decode cX2_neighbours 1 = .ok (.istore_n 2, 1) := by decide +kernel
theorem dX2_neighbours_2 : decode cX2_neighbours 2 = .ok (.iconst 0, 1) := by decide +kernel
theorem dX2_neighbours_3 : decode cX2_neighbours 3 = .ok (.istore_n 3, 1) := by decide +kernel
theorem dX2_neighbours_4 : decode cX2_neighbours 4 = .ok (.iload_n 3, 1) := by decide +kernel
theorem dX2_neighbours_5 : decode cX2_neighbours 5 = .ok (.aload_n 0, 1) := by decide +kernel
theorem dX2_neighbours_6 : decode cX2_neighbours 6 = .ok (.getfield 15, 3) := by decide +kernel
theorem dX2_neighbours_9 : decode cX2_neighbours 9 = .ok (.if_icmp .ge 29, 3) := by decide +kernel
theorem dX2_neighbours_12 : decode cX2_neighbours 12 = .ok (.aload_n 0, 1) := by decide +kernel
theorem dX2_neighbours_13 : decode cX2_neighbours 13 = .ok (.iload_n 3, 1) := by decide +kernel
theorem dX2_neighbours_14 : decode cX2_neighbours 14 = .ok (.invokevirtual 33, 3) := by decide +kernel
theorem dX2_neighbours_17 : decode cX2_neighbours 17 = .ok (.iload_n 1, 1) := by decide +kernel
theorem dX2_neighbours_18 : decode cX2_neighbours 18 = .ok (.invokestatic 50, 3) := by decide +kernel
theorem dX2_neighbours_21 : decode cX2_neighbours 21 = .ok (.ifCond .eq 11, 3) := by decide +kernel
theorem dX2_neighbours_24 : decode cX2_neighbours 24 = .ok (.iload_n 2, 1) := by decide +kernel
theorem dX2_neighbours_25 : decode cX2_neighbours 25 = .ok (.aload_n 0, 1) := by decide +kernel
theorem dX2_neighbours_26 : decode cX2_neighbours 26 = .ok (.iload_n 3, 1) := by decide +kernel
theorem dX2_neighbours_27 : decode cX2_neighbours 27 = .ok (.invokevirtual 33, 3) := by decide +kernel
theorem dX2_neighbours_30 : decode cX2_neighbours 30 = .ok (.ior, 1) := by decide +kernel
theorem dX2_neighbours_31 : decode cX2_neighbours 31 = .ok (.istore_n 2, 1) := by decide +kernel
theorem dX2_neighbours_32 : decode cX2_neighbours 32 = .ok (.iinc 3 1, 3) := by decide +kernel
theorem dX2_neighbours_35 : decode cX2_neighbours 35 = .ok (.goto (-31), 3) := by decide +kernel
theorem dX2_neighbours_38 : decode cX2_neighbours 38 = .ok (.iload_n 2, 1) := by decide +kernel
theorem dX2_neighbours_39 : decode cX2_neighbours 39 = .ok (.iload_n 1, 1) := by decide +kernel
theorem dX2_neighbours_40 : decode cX2_neighbours 40 = .ok (.invokestatic 25, 3) := by decide +kernel
theorem dX2_neighbours_43 : decode cX2_neighbours 43 = .ok (.iconst (-1), 1) := by decide +kernel
theorem dX2_neighbours_44 : decode cX2_neighbours 44 = .ok (.ixor, 1) := by decide +kernel
theorem dX2_neighbours_45 : decode cX2_neighbours 45 = .ok (.iand, 1) := by decide +kernel
theorem dX2_neighbours_46 : decode cX2_neighbours 46 = .ok (.ireturn, 1) := by decide +kernel
set_option maxRecDepth 20000 in
theorem ggX2_find_X2_ends : GoodIn wsX2_find wsX2_ends := goodIn_r _ [6, 7, 8, 9, 10, 11, 12, 13, 14] (by decide +kernel) (by decide +kernel)
set_option maxRecDepth 20000 in
theorem gX2_find_X2_ends : GoodIn wsX2_find (wsV RX2 33 RX2 yX2_ends wsX2_ends) := goodIn_app (goodIn_of _ (by decide +kernel)) ggX2_find_X2_ends
theorem dX2_find_0 : decode cX2_find 0 = .ok (.iconst 0, 1) := by decide +kernel
theorem dX2_find_1 : decode cX2_find 1 = .ok (.istore_n 2, 1) := by decide +kernel
theorem dX2_find_2 : decode cX2_find 2 = .ok (.iload_n 2, 1) := by decide +kernel
theorem dX2_find_3 : decode cX2_find 3 = .ok (.aload_n 0, 1) := by decide +kernel
theorem dX2_find_4 : decode cX2_find 4 = .ok (.getfield 15, 3) := by decide +kernel
theorem dX2_find_7 : decode cX2_find 7 = .ok (.if_icmp .ge 20, 3) := by decide +kernel
theorem dX2_find_10 : decode cX2_find 10 = .ok (.aload_n 0, 1) := by decide +kernel
theorem dX2_find_11 : decode cX2_find 11 = .ok (.iload_n 2, 1) := by decide +kernel
theorem dX2_find_12 : decode cX2_find 12 = .ok (.invokevirtual 33, 3) := by decide +kernel
theorem dX2_find_15 : decode cX2_find 15 = .ok (.iload_n 1, 1) := by decide +kernel
theorem dX2_find_16 : decode cX2_find 16 = .ok (.if_icmp .ne 5, 3) := by decide +kernel
theorem dX2_find_19 : decode cX2_find 19 = .ok (.iload_n 2, 1) := by decide +kernel
theorem dX2_find_20 : decode cX2_find 20 = .ok (.ireturn, 1) := by decide +kernel
theorem dX2_find_21 : decode cX2_find 21 = .ok (.iinc 2 1, 3) := by decide +kernel
theorem dX2_find_24 : decode cX2_find 24 = .ok (.goto (-22), 3) := by decide +kernel
theorem dX2_find_27 : decode cX2_find 27 = .ok (.iconst (-1), 1) := by decide +kernel
theorem dX2_find_28 : decode cX2_find 28 = .ok (.ireturn, 1) := by decide +kernel
set_option maxRecDepth 20000 in
theorem ggX2_isFullKnot_X6_bit : GoodIn wsX2_isFullKnot wsX6_bit := goodIn_r _ [3] (by decide +kernel) (by decide +kernel)
set_option maxRecDepth 20000 in
theorem gX2_isFullKnot_X6_bit_n25 : GoodIn wsX2_isFullKnot (wsX6_bit) := ggX2_isFullKnot_X6_bit
set_option maxRecDepth 20000 in
theorem ggX2_isFullKnot_X2_threadsAt : GoodIn wsX2_isFullKnot wsX2_threadsAt := goodIn_r _ [8, 9, 10, 11, 12, 7, 13, 14, 15, 2, 16, 1, 3, 24, 25, 26, 27] (by decide +kernel) (by decide +kernel)
set_option maxRecDepth 20000 in
theorem gX2_isFullKnot_X2_threadsAt : GoodIn wsX2_isFullKnot (wsV RX2 54 RX2 yX2_threadsAt wsX2_threadsAt) := goodIn_app (goodIn_of _ (by decide +kernel)) ggX2_isFullKnot_X2_threadsAt
set_option maxRecDepth 20000 in
theorem ggX2_isFullKnot_J6_bitCount_0f7a4 : GoodIn wsX2_isFullKnot wsJ6_bitCount_0f7a4 := goodIn_r _ [20, 21, 22, 23] (by decide +kernel) (by decide +kernel)
set_option maxRecDepth 20000 in
theorem gX2_isFullKnot_J6_bitCount_0f7a4 : GoodIn wsX2_isFullKnot (va_wsS RX2 57 yJ6_bitCount_0f7a4 wsJ6_bitCount_0f7a4) := goodIn_app (goodIn_of _ (by decide +kernel)) ggX2_isFullKnot_J6_bitCount_0f7a4
theorem dX2_isFullKnot_0 : decode cX2_isFullKnot 0 = .ok (.aload_n 0, 1) := by decide +kernel
theorem dX2_isFullKnot_1 : decode cX2_isFullKnot 1 = .ok (.iload_n 1, 1) := by decide +kernel
theorem dX2_isFullKnot_2 : decode cX2_isFullKnot 2 = .ok (.invokestatic 25, 3) := by decide +kernel
theorem dX2_isFullKnot_5 : decode cX2_isFullKnot 5 = .ok (.invokevirtual 54, 3) := by decide +kernel
theorem dX2_isFullKnot_8 : decode cX2_isFullKnot 8 = .ok (.invokestatic 57, 3) := by decide +kernel
theorem dX2_isFullKnot_11 : decode cX2_isFullKnot 11 = .ok (.iconst 3, 1) := by decide +kernel
theorem dX2_isFullKnot_12 : decode cX2_isFullKnot 12 = .ok (.if_icmp .lt 7, 3) := by decide +kernel
theorem dX2_isFullKnot_15 : decode cX2_isFullKnot 15 = .ok (.iconst 1, 1) := by decide +kernel
theorem dX2_isFullKnot_16 : decode cX2_isFullKnot 16 = .ok (.goto 4, 3) := by decide +kernel
theorem dX2_isFullKnot_19 : decode cX2_isFullKnot 19 = .ok (.iconst 0, 1) := by decide +kernel
theorem dX2_isFullKnot_20 : decode cX2_isFullKnot 20 = .ok (.ireturn, 1) := by decide +kernel
set_option maxRecDepth 20000 in
theorem ggX2_isFull_X2_isFullKnot : GoodIn wsX2_isFull wsX2_isFullKnot := goodIn_r _ [6, 7, 8, 9, 10, 11, 12, 5, 13, 14, 15, 16, 17, 18, 19, 20, 21, 22, 23, 24, 25, 26, 27, 28, 29, 30, 31, 32] (by decide +kernel) (by decide +kernel)
set_option maxRecDepth 20000 in
theorem gX2_isFull_X2_isFullKnot : GoodIn wsX2_isFull (wsV RX2 60 RX2 yX2_isFullKnot wsX2_isFullKnot) := goodIn_app (goodIn_of _ (by decide +kernel)) ggX2_isFull_X2_isFullKnot
theorem dX2_isFull_0 : decode cX2_isFull 0 = .ok (.iconst 0, 1) := by decide +kernel
theorem dX2_isFull_1 : decode cX2_isFull 1 = .ok (.istore_n 1, 1) := by decide +kernel
theorem dX2_isFull_2 : decode cX2_isFull 2 = .ok (.iload_n 1, 1) := by decide +kernel
theorem dX2_isFull_3 : decode cX2_isFull 3 = .ok (.aload_n 0, 1) := by decide +kernel
theorem dX2_isFull_4 : decode cX2_isFull 4 = .ok (.getfield 9, 3) := by decide +kernel
theorem dX2_isFull_7 : decode cX2_isFull 7 = .ok (.if_icmp .ge 19, 3) := by decide +kernel
theorem dX2_isFull_10 : decode cX2_isFull 10 = .ok (.aload_n 0, 1) := by decide +kernel
theorem dX2_isFull_11 : decode cX2_isFull 11 = .ok (.iload_n 1, 1) := by decide +kernel
theorem dX2_isFull_12 : decode cX2_isFull 12 = .ok (.invokevirtual 60, 3) := by decide +kernel
theorem dX2_isFull_15 : decode cX2_isFull 15 = .ok (.ifCond .ne 5, 3) := by decide +kernel
theorem dX2_isFull_18 : decode cX2_isFull 18 = .ok (.iconst 0, 1) := by decide +kernel
theorem dX2_isFull_19 : decode cX2_isFull 19 = .ok (.ireturn, 1) := by decide +kernel
theorem dX2_isFull_20 : decode cX2_isFull 20 = .ok (.iinc 1 1, 3) := by decide +kernel
theorem dX2_isFull_23 : decode cX2_isFull 23 = .ok (.goto (-21), 3) := by decide +kernel
theorem dX2_isFull_26 : decode cX2_isFull 26 = .ok (.aload_n 0, 1) := by decide +kernel
theorem dX2_isFull_27 : decode cX2_isFull 27 = .ok (.getfield 9, 3) := by decide +kernel
theorem dX2_isFull_30 : decode cX2_isFull 30 = .ok (.ifCond .le 7, 3) := by decide +kernel
theorem dX2_isFull_33 : decode cX2_isFull 33 = .ok (.iconst 1, 1) := by decide +kernel
theorem dX2_isFull_34 : decode cX2_isFull 34 = .ok (.goto 4, 3) := by decide +kernel
theorem dX2_isFull_37 : decode cX2_isFull 37 = .ok (.iconst 0, 1) := by decide +kernel
theorem dX2_isFull_38 : decode cX2_isFull 38 = .ok (.ireturn, 1) := by decide +kernel
set_option maxRecDepth 20000 in
theorem ggX2_isWrong_X2_colour : GoodIn wsX2_isWrong wsX2_colour := goodIn_r _ [6, 7, 8, 9, 10, 20, 21, 22, 23] (by decide +kernel) (by decide +kernel)
set_option maxRecDepth 20000 in
theorem gX2_isWrong_X2_colour : GoodIn wsX2_isWrong (wsV RX2 47 RX2 yX2_colour wsX2_colour) := goodIn_app (goodIn_of _ (by decide +kernel)) ggX2_isWrong_X2_colour
set_option maxRecDepth 20000 in
theorem ggX2_isWrong_X2_ends : GoodIn wsX2_isWrong wsX2_ends := goodIn_r _ [14, 15, 8, 9, 10, 20, 21, 22, 23] (by decide +kernel) (by decide +kernel)
set_option maxRecDepth 20000 in
theorem gX2_isWrong_X2_ends : GoodIn wsX2_isWrong (wsV RX2 33 RX2 yX2_ends wsX2_ends) := goodIn_app (goodIn_of _ (by decide +kernel)) ggX2_isWrong_X2_ends
set_option maxRecDepth 20000 in
theorem ggX2_isWrong_X6_holds : GoodIn wsX2_isWrong wsX6_holds := goodIn_r _ [17] (by decide +kernel) (by decide +kernel)
set_option maxRecDepth 20000 in
theorem gX2_isWrong_X6_holds_n50 : GoodIn wsX2_isWrong (wsX6_holds) := ggX2_isWrong_X6_holds
set_option maxRecDepth 20000 in
theorem ggX2_isWrong_X6_bit : GoodIn wsX2_isWrong wsX6_bit := goodIn_r _ [19] (by decide +kernel) (by decide +kernel)
set_option maxRecDepth 20000 in
theorem gX2_isWrong_X6_bit_n25 : GoodIn wsX2_isWrong (wsX6_bit) := ggX2_isWrong_X6_bit
theorem dX2_isWrong_0 : decode cX2_isWrong 0 = .ok (.iconst 0, 1) := by decide +kernel
theorem dX2_isWrong_1 : decode cX2_isWrong 1 = .ok (.istore_n 2, 1) := by decide +kernel
theorem dX2_isWrong_2 : decode cX2_isWrong 2 = .ok (.iconst 0, 1) := by decide +kernel
theorem dX2_isWrong_3 : decode cX2_isWrong 3 = .ok (.istore_n 3, 1) := by decide +kernel
theorem dX2_isWrong_4 : decode cX2_isWrong 4 = .ok (.iload_n 3, 1) := by decide +kernel
theorem dX2_isWrong_5 : decode cX2_isWrong 5 = .ok (.aload_n 0, 1) := by decide +kernel
theorem dX2_isWrong_6 : decode cX2_isWrong 6 = .ok (.getfield 15, 3) := by decide +kernel
theorem dX2_isWrong_9 : decode cX2_isWrong 9 = .ok (.if_icmp .ge 53, 3) := by decide +kernel
theorem dX2_isWrong_12 : decode cX2_isWrong 12 = .ok (.aload_n 0, 1) := by decide +kernel
theorem dX2_isWrong_13 : decode cX2_isWrong 13 = .ok (.iload_n 3, 1) := by decide +kernel
theorem dX2_isWrong_14 : decode cX2_isWrong 14 = .ok (.invokevirtual 47, 3) := by decide +kernel
theorem dX2_isWrong_17 : decode cX2_isWrong 17 = .ok (.istore 4, 2) := by decide +kernel
theorem dX2_isWrong_19 : decode cX2_isWrong 19 = .ok (.aload_n 0, 1) := by decide +kernel
theorem dX2_isWrong_20 : decode cX2_isWrong 20 = .ok (.iload_n 3, 1) := by decide +kernel
theorem dX2_isWrong_21 : decode cX2_isWrong 21 = .ok (.invokevirtual 33, 3) := by decide +kernel
theorem dX2_isWrong_24 : decode cX2_isWrong 24 = .ok (.iload_n 1, 1) := by decide +kernel
theorem dX2_isWrong_25 : decode cX2_isWrong 25 = .ok (.invokestatic 50, 3) := by decide +kernel
theorem dX2_isWrong_28 : decode cX2_isWrong 28 = .ok (.ifCond .eq 28, 3) := by decide +kernel
theorem dX2_isWrong_31 : decode cX2_isWrong 31 = .ok (.iload 4, 2) := by decide +kernel
theorem dX2_isWrong_33 : decode cX2_isWrong 33 = .ok (.iconst 3, 1) := by decide +kernel
theorem dX2_isWrong_34 : decode cX2_isWrong 34 = .ok (.if_icmp .eq 22, 3) := by decide +kernel
theorem dX2_isWrong_37 : decode cX2_isWrong 37 = .ok (.iload_n 2, 1) := by decide +kernel
theorem dX2_isWrong_38 : decode cX2_isWrong 38 = .ok (.iload 4, 2) := by decide +kernel
theorem dX2_isWrong_40 : decode cX2_isWrong 40 = .ok (.invokestatic 50, 3) := by decide +kernel
theorem dX2_isWrong_43 : decode cX2_isWrong 43 = .ok (.ifCond .eq 5, 3) := by decide +kernel
theorem dX2_isWrong_46 : decode cX2_isWrong 46 = .ok (.iconst 1, 1) := by decide +kernel
theorem dX2_isWrong_47 : decode cX2_isWrong 47 = .ok (.ireturn, 1) := by decide +kernel
theorem dX2_isWrong_48 : decode cX2_isWrong 48 = .ok (.iload_n 2, 1) := by decide +kernel
theorem dX2_isWrong_49 : decode cX2_isWrong 49 = .ok (.iload 4, 2) := by decide +kernel
theorem dX2_isWrong_51 : decode cX2_isWrong 51 = .ok (.invokestatic 25, 3) := by decide +kernel
theorem dX2_isWrong_54 : decode cX2_isWrong 54 = .ok (.ior, 1) := by decide +kernel
theorem dX2_isWrong_55 : decode cX2_isWrong 55 = .ok (.istore_n 2, 1) := by decide +kernel
theorem dX2_isWrong_56 : decode cX2_isWrong 56 = .ok (.iinc 3 1, 3) := by decide +kernel
theorem dX2_isWrong_59 : decode cX2_isWrong 59 = .ok (.goto (-55), 3) := by decide +kernel
theorem dX2_isWrong_62 : decode cX2_isWrong 62 = .ok (.iconst 0, 1) := by decide +kernel
theorem dX2_isWrong_63 : decode cX2_isWrong 63 = .ok (.ireturn, 1) := by decide +kernel
set_option maxRecDepth 20000 in
theorem ggX2_wrongKnots_X2_isWrong : GoodIn wsX2_wrongKnots wsX2_isWrong := goodIn_r _ [6, 7, 8, 9, 10, 5, 11, 12, 13, 14, 15, 16, 17, 18, 19, 20, 21, 22, 23, 24, 25, 26, 27, 28] (by decide +kernel) (by decide +kernel)
set_option maxRecDepth 20000 in
theorem gX2_wrongKnots_X2_isWrong : GoodIn wsX2_wrongKnots (wsV RX2 64 RX2 yX2_isWrong wsX2_isWrong) := goodIn_app (goodIn_of _ (by decide +kernel)) ggX2_wrongKnots_X2_isWrong
theorem dX2_wrongKnots_0 : decode cX2_wrongKnots 0 = .ok (.iconst 0, 1) := by decide +kernel
theorem dX2_wrongKnots_1 : decode cX2_wrongKnots 1 = .ok (.istore_n 1, 1) := by decide +kernel
theorem dX2_wrongKnots_2 : decode cX2_wrongKnots 2 = .ok (.iconst 0, 1) := by decide +kernel
theorem dX2_wrongKnots_3 : decode cX2_wrongKnots 3 = .ok (.istore_n 2, 1) := by decide +kernel
theorem dX2_wrongKnots_4 : decode cX2_wrongKnots 4 = .ok (.iload_n 2, 1) := by decide +kernel
theorem dX2_wrongKnots_5 : decode cX2_wrongKnots 5 = .ok (.aload_n 0, 1) := by decide +kernel
theorem dX2_wrongKnots_6 : decode cX2_wrongKnots 6 = .ok (.getfield 9, 3) := by decide +kernel
theorem dX2_wrongKnots_9 : decode cX2_wrongKnots 9 = .ok (.if_icmp .ge 20, 3) := by decide +kernel
theorem dX2_wrongKnots_12 : decode cX2_wrongKnots 12 = .ok (.aload_n 0, 1) := by decide +kernel
theorem dX2_wrongKnots_13 : decode cX2_wrongKnots 13 = .ok (.iload_n 2, 1) := by decide +kernel
theorem dX2_wrongKnots_14 : decode cX2_wrongKnots 14 = .ok (.invokevirtual 64, 3) := by decide +kernel
theorem dX2_wrongKnots_17 : decode cX2_wrongKnots 17 = .ok (.ifCond .eq 6, 3) := by decide +kernel
theorem dX2_wrongKnots_20 : decode cX2_wrongKnots 20 = .ok (.iinc 1 1, 3) := by decide +kernel
theorem dX2_wrongKnots_23 : decode cX2_wrongKnots 23 = .ok (.iinc 2 1, 3) := by decide +kernel
theorem dX2_wrongKnots_26 : decode cX2_wrongKnots 26 = .ok (.goto (-22), 3) := by decide +kernel
theorem dX2_wrongKnots_29 : decode cX2_wrongKnots 29 = .ok (.iload_n 1, 1) := by decide +kernel
theorem dX2_wrongKnots_30 : decode cX2_wrongKnots 30 = .ok (.ireturn, 1) := by decide +kernel
set_option maxRecDepth 20000 in
theorem ggX2_copyFrom_X2_ends : GoodIn wsX2_copyFrom wsX2_ends := goodIn_r _ [9, 3, 10, 11, 12, 19, 20, 21, 22] (by decide +kernel) (by decide +kernel)
set_option maxRecDepth 20000 in
theorem gX2_copyFrom_X2_ends : GoodIn wsX2_copyFrom (wsV RX2 33 RX2 yX2_ends wsX2_ends) := goodIn_app (goodIn_of _ (by decide +kernel)) ggX2_copyFrom_X2_ends
set_option maxRecDepth 20000 in
theorem ggX2_copyFrom_X6_put : GoodIn wsX2_copyFrom wsX6_put := goodIn_r _ [14] (by decide +kernel) (by decide +kernel)
set_option maxRecDepth 20000 in
theorem gX2_copyFrom_X6_put_n43 : GoodIn wsX2_copyFrom (wsX6_put) := ggX2_copyFrom_X6_put
set_option maxRecDepth 20000 in
theorem ggX2_copyFrom_X2_colour : GoodIn wsX2_copyFrom wsX2_colour := goodIn_r _ [18, 4, 10, 11, 12, 19, 20, 21, 22] (by decide +kernel) (by decide +kernel)
set_option maxRecDepth 20000 in
theorem gX2_copyFrom_X2_colour : GoodIn wsX2_copyFrom (wsV RX2 47 RX2 yX2_colour wsX2_colour) := goodIn_app (goodIn_of _ (by decide +kernel)) ggX2_copyFrom_X2_colour
theorem dX2_copyFrom_0 : decode cX2_copyFrom 0 = .ok (.aload_n 0, 1) := by decide +kernel
theorem dX2_copyFrom_1 : decode cX2_copyFrom 1 = .ok (.aload_n 1, 1) := by decide +kernel
theorem dX2_copyFrom_2 : decode cX2_copyFrom 2 = .ok (.getfield 9, 3) := by decide +kernel
theorem dX2_copyFrom_5 : decode cX2_copyFrom 5 = .ok (.putfield 9, 3) := by decide +kernel
theorem dX2_copyFrom_8 : decode cX2_copyFrom 8 = .ok (.aload_n 0, 1) := by decide +kernel
theorem dX2_copyFrom_9 : decode cX2_copyFrom 9 = .ok (.aload_n 1, 1) := by decide +kernel
theorem dX2_copyFrom_10 : decode cX2_copyFrom 10 = .ok (.getfield 15, 3) := by decide +kernel
theorem dX2_copyFrom_13 : decode cX2_copyFrom 13 = .ok (.putfield 15, 3) := by decide +kernel
theorem dX2_copyFrom_16 : decode cX2_copyFrom 16 = .ok (.iconst 0, 1) := by decide +kernel
theorem dX2_copyFrom_17 : decode cX2_copyFrom 17 = .ok (.istore_n 2, 1) := by decide +kernel
theorem dX2_copyFrom_18 : decode cX2_copyFrom 18 = .ok (.iload_n 2, 1) := by decide +kernel
theorem dX2_copyFrom_19 : decode cX2_copyFrom 19 = .ok (.aload_n 0, 1) := by decide +kernel
theorem dX2_copyFrom_20 : decode cX2_copyFrom 20 = .ok (.getfield 15, 3) := by decide +kernel
theorem dX2_copyFrom_23 : decode cX2_copyFrom 23 = .ok (.if_icmp .ge 35, 3) := by decide +kernel
theorem dX2_copyFrom_26 : decode cX2_copyFrom 26 = .ok (.aload_n 0, 1) := by decide +kernel
theorem dX2_copyFrom_27 : decode cX2_copyFrom 27 = .ok (.getfield 18, 3) := by decide +kernel
theorem dX2_copyFrom_30 : decode cX2_copyFrom 30 = .ok (.iload_n 2, 1) := by decide +kernel
theorem dX2_copyFrom_31 : decode cX2_copyFrom 31 = .ok (.aload_n 1, 1) := by decide +kernel
theorem dX2_copyFrom_32 : decode cX2_copyFrom 32 = .ok (.iload_n 2, 1) := by decide +kernel
theorem dX2_copyFrom_33 : decode cX2_copyFrom 33 = .ok (.invokevirtual 33, 3) := by decide +kernel
theorem dX2_copyFrom_36 : decode cX2_copyFrom 36 = .ok (.invokestatic 43, 3) := by decide +kernel
theorem dX2_copyFrom_39 : decode cX2_copyFrom 39 = .ok (.aload_n 0, 1) := by decide +kernel
theorem dX2_copyFrom_40 : decode cX2_copyFrom 40 = .ok (.getfield 22, 3) := by decide +kernel
theorem dX2_copyFrom_43 : decode cX2_copyFrom 43 = .ok (.iload_n 2, 1) := by decide +kernel
theorem dX2_copyFrom_44 : decode cX2_copyFrom 44 = .ok (.aload_n 1, 1) := by decide +kernel
theorem dX2_copyFrom_45 : decode cX2_copyFrom 45 = .ok (.iload_n 2, 1) := by decide +kernel
theorem dX2_copyFrom_46 : decode cX2_copyFrom 46 = .ok (.invokevirtual 47, 3) := by decide +kernel
theorem dX2_copyFrom_49 : decode cX2_copyFrom 49 = .ok (.invokestatic 43, 3) := by decide +kernel
theorem dX2_copyFrom_52 : decode cX2_copyFrom 52 = .ok (.iinc 2 1, 3) := by decide +kernel
theorem dX2_copyFrom_55 : decode cX2_copyFrom 55 = .ok (.goto (-37), 3) := by decide +kernel
theorem dX2_copyFrom_58 : decode cX2_copyFrom 58 = .ok (.return_, 1) := by decide +kernel
theorem dX2_empty_0 : decode cX2_empty 0 = .ok (.aload_n 0, 1) := by decide +kernel
theorem dX2_empty_1 : decode cX2_empty 1 = .ok (.iconst 0, 1) := by decide +kernel
theorem dX2_empty_2 : decode cX2_empty 2 = .ok (.putfield 9, 3) := by decide +kernel
theorem dX2_empty_5 : decode cX2_empty 5 = .ok (.aload_n 0, 1) := by decide +kernel
theorem dX2_empty_6 : decode cX2_empty 6 = .ok (.iconst 0, 1) := by decide +kernel
theorem dX2_empty_7 : decode cX2_empty 7 = .ok (.putfield 15, 3) := by decide +kernel
theorem dX2_empty_10 : decode cX2_empty 10 = .ok (.return_, 1) := by decide +kernel
theorem dX2_addKnots_0 : decode cX2_addKnots 0 = .ok (.aload_n 0, 1) := by decide +kernel
theorem dX2_addKnots_1 : decode cX2_addKnots 1 = .ok (.aload_n 0, 1) := by decide +kernel
theorem dX2_addKnots_2 : decode cX2_addKnots 2 = .ok (.getfield 9, 3) := by decide +kernel
theorem dX2_addKnots_5 : decode cX2_addKnots 5 = .ok (.iload_n 1, 1) := by decide +kernel
theorem dX2_addKnots_6 : decode cX2_addKnots 6 = .ok (.iadd, 1) := by decide +kernel
theorem dX2_addKnots_7 : decode cX2_addKnots 7 = .ok (.bipush 14, 2) := by decide +kernel
theorem dX2_addKnots_9 : decode cX2_addKnots 9 = .ok (.invokestatic 67, 3) := by decide +kernel
theorem dX2_addKnots_12 : decode cX2_addKnots 12 = .ok (.putfield 9, 3) := by decide +kernel
theorem dX2_addKnots_15 : decode cX2_addKnots 15 = .ok (.return_, 1) := by decide +kernel
set_option maxRecDepth 20000 in
theorem ggX2_build_X2_empty : GoodIn wsX2_build wsX2_empty := goodIn_r _ [9, 10, 11, 32, 33, 34, 35] (by decide +kernel) (by decide +kernel)
set_option maxRecDepth 20000 in
theorem gX2_build_X2_empty : GoodIn wsX2_build (wsV RX2 73 RX2 yX2_empty wsX2_empty) := goodIn_app (goodIn_of _ (by decide +kernel)) ggX2_build_X2_empty
set_option maxRecDepth 20000 in
theorem ggX2_build_X6_at : GoodIn wsX2_build wsX6_at := goodIn_r _ [14] (by decide +kernel) (by decide +kernel)
set_option maxRecDepth 20000 in
theorem gX2_build_X6_at_n29 : GoodIn wsX2_build (wsX6_at) := ggX2_build_X6_at
set_option maxRecDepth 20000 in
theorem ggX2_build_X6_bit : GoodIn wsX2_build wsX6_bit := goodIn_r _ [16] (by decide +kernel) (by decide +kernel)
set_option maxRecDepth 20000 in
theorem gX2_build_X6_bit_n25 : GoodIn wsX2_build (wsX6_bit) := ggX2_build_X6_bit
set_option maxRecDepth 20000 in
theorem ggX2_build_X2_tie : GoodIn wsX2_build wsX2_tie := goodIn_r _ [20, 11, 21, 22, 23, 13, 24, 32, 33, 34, 35] (by decide +kernel) (by decide +kernel)
set_option maxRecDepth 20000 in
theorem gX2_build_X2_tie : GoodIn wsX2_build (wsV RX2 76 RX2 yX2_tie wsX2_tie) := goodIn_app (goodIn_of _ (by decide +kernel)) ggX2_build_X2_tie
set_option maxRecDepth 20000 in
theorem ggX2_build_X2_addKnots : GoodIn wsX2_build wsX2_addKnots := goodIn_r _ [28, 10, 29, 30, 3, 31, 32, 33, 34, 35] (by decide +kernel) (by decide +kernel)
set_option maxRecDepth 20000 in
theorem gX2_build_X2_addKnots : GoodIn wsX2_build (wsV RX2 83 RX2 yX2_addKnots wsX2_addKnots) := goodIn_app (goodIn_of _ (by decide +kernel)) ggX2_build_X2_addKnots
theorem dX2_build_0 : decode cX2_build 0 = .ok (.aload_n 0, 1) := by decide +kernel
theorem dX2_build_1 : decode cX2_build 1 = .ok (.invokevirtual 73, 3) := by decide +kernel
theorem dX2_build_4 : decode cX2_build 4 = .ok (.iconst (-1), 1) := by decide +kernel
theorem dX2_build_5 : decode cX2_build 5 = .ok (.istore_n 2, 1) := by decide +kernel
theorem dX2_build_6 : decode cX2_build 6 = .ok (.iconst 0, 1) := by decide +kernel
theorem dX2_build_7 : decode cX2_build 7 = .ok (.istore_n 3, 1) := by decide +kernel
theorem dX2_build_8 : decode cX2_build 8 = .ok (.iload_n 3, 1) := by decide +kernel
theorem dX2_build_9 : decode cX2_build 9 = .ok (.iconst 1, 1) := by decide +kernel
theorem dX2_build_10 : decode cX2_build 10 = .ok (.iadd, 1) := by decide +kernel
theorem dX2_build_11 : decode cX2_build 11 = .ok (.aload_n 1, 1) := by decide +kernel
theorem dX2_build_12 : decode cX2_build 12 = .ok (.arraylength, 1) := by decide +kernel
theorem dX2_build_13 : decode cX2_build 13 = .ok (.if_icmp .ge 44, 3) := by decide +kernel
theorem dX2_build_16 : decode cX2_build 16 = .ok (.aload_n 0, 1) := by decide +kernel
theorem dX2_build_17 : decode cX2_build 17 = .ok (.aload_n 1, 1) := by decide +kernel
theorem dX2_build_18 : decode cX2_build 18 = .ok (.iload_n 3, 1) := by decide +kernel
theorem dX2_build_19 : decode cX2_build 19 = .ok (.invokestatic 29, 3) := by decide +kernel
theorem dX2_build_22 : decode cX2_build 22 = .ok (.invokestatic 25, 3) := by decide +kernel
theorem dX2_build_25 : decode cX2_build 25 = .ok (.aload_n 1, 1) := by decide +kernel
theorem dX2_build_26 : decode cX2_build 26 = .ok (.iload_n 3, 1) := by decide +kernel
theorem dX2_build_27 : decode cX2_build 27 = .ok (.iconst 1, 1) := by decide +kernel
theorem dX2_build_28 : decode cX2_build 28 = .ok (.iadd, 1) := by decide +kernel
theorem dX2_build_29 : decode cX2_build 29 = .ok (.invokestatic 29, 3) := by decide +kernel
theorem dX2_build_32 : decode cX2_build 32 = .ok (.invokestatic 25, 3) := by decide +kernel
theorem dX2_build_35 : decode cX2_build 35 = .ok (.ior, 1) := by decide +kernel
theorem dX2_build_36 : decode cX2_build 36 = .ok (.invokevirtual 76, 3) := by decide +kernel
theorem dX2_build_39 : decode cX2_build 39 = .ok (.iload_n 2, 1) := by decide +kernel
theorem dX2_build_40 : decode cX2_build 40 = .ok (.aload_n 1, 1) := by decide +kernel
theorem dX2_build_41 : decode cX2_build 41 = .ok (.iload_n 3, 1) := by decide +kernel
theorem dX2_build_42 : decode cX2_build 42 = .ok (.iconst 1, 1) := by decide +kernel
theorem dX2_build_43 : decode cX2_build 43 = .ok (.iadd, 1) := by decide +kernel
theorem dX2_build_44 : decode cX2_build 44 = .ok (.invokestatic 29, 3) := by decide +kernel
theorem dX2_build_47 : decode cX2_build 47 = .ok (.invokestatic 80, 3) := by decide +kernel
theorem dX2_build_50 : decode cX2_build 50 = .ok (.istore_n 2, 1) := by decide +kernel
theorem dX2_build_51 : decode cX2_build 51 = .ok (.iinc 3 2, 3) := by decide +kernel
theorem dX2_build_54 : decode cX2_build 54 = .ok (.goto (-46), 3) := by decide +kernel
theorem dX2_build_57 : decode cX2_build 57 = .ok (.aload_n 0, 1) := by decide +kernel
theorem dX2_build_58 : decode cX2_build 58 = .ok (.iload_n 2, 1) := by decide +kernel
theorem dX2_build_59 : decode cX2_build 59 = .ok (.iconst 1, 1) := by decide +kernel
theorem dX2_build_60 : decode cX2_build 60 = .ok (.iadd, 1) := by decide +kernel
theorem dX2_build_61 : decode cX2_build 61 = .ok (.invokevirtual 83, 3) := by decide +kernel
theorem dX2_build_64 : decode cX2_build 64 = .ok (.return_, 1) := by decide +kernel
set_option maxRecDepth 20000 in
theorem ggX2_mayTie_X2_find : GoodIn wsX2_mayTie wsX2_find := goodIn_r _ [5, 6, 7, 8, 9, 4, 10, 11, 12, 13, 14, 39, 40, 41, 42] (by decide +kernel) (by decide +kernel)
set_option maxRecDepth 20000 in
theorem gX2_mayTie_X2_find : GoodIn wsX2_mayTie (wsV RX2 86 RX2 yX2_find wsX2_find) := goodIn_app (goodIn_of _ (by decide +kernel)) ggX2_mayTie_X2_find
set_option maxRecDepth 20000 in
theorem ggX2_mayTie_J6_numberOfTrailingZeros_0f7a4 : GoodIn wsX2_mayTie wsJ6_numberOfTrailingZeros_0f7a4 := goodIn_r _ [18, 19] (by decide +kernel) (by decide +kernel)
set_option maxRecDepth 20000 in
theorem gX2_mayTie_J6_numberOfTrailingZeros_0f7a4 : GoodIn wsX2_mayTie (va_wsS RX2 35 yJ6_numberOfTrailingZeros_0f7a4 wsJ6_numberOfTrailingZeros_0f7a4) := goodIn_app (goodIn_of _ (by decide +kernel)) ggX2_mayTie_J6_numberOfTrailingZeros_0f7a4
set_option maxRecDepth 20000 in
theorem ggX2_mayTie_J6_numberOfLeadingZeros_0f7a4 : GoodIn wsX2_mayTie wsJ6_numberOfLeadingZeros_0f7a4 := goodIn_r _ [22, 19] (by decide +kernel) (by decide +kernel)
set_option maxRecDepth 20000 in
theorem gX2_mayTie_J6_numberOfLeadingZeros_0f7a4 : GoodIn wsX2_mayTie (va_wsS RX2 40 yJ6_numberOfLeadingZeros_0f7a4 wsJ6_numberOfLeadingZeros_0f7a4) := goodIn_app (goodIn_of _ (by decide +kernel)) ggX2_mayTie_J6_numberOfLeadingZeros_0f7a4
set_option maxRecDepth 20000 in
theorem ggX2_mayTie_X2_isFullKnot : GoodIn wsX2_mayTie wsX2_isFullKnot := goodIn_r _ [26, 27, 13, 28, 29, 30, 31, 4, 32, 6, 7, 8, 9, 10, 11, 12, 14, 33, 34, 17, 35, 36, 37, 38, 39, 40, 41, 42] (by decide +kernel) (by decide +kernel)
set_option maxRecDepth 20000 in
theorem gX2_mayTie_X2_isFullKnot : GoodIn wsX2_mayTie (wsV RX2 60 RX2 yX2_isFullKnot wsX2_isFullKnot) := goodIn_app (goodIn_of _ (by decide +kernel)) ggX2_mayTie_X2_isFullKnot
theorem dX2_mayTie_0 : decode cX2_mayTie 0 = .ok (.aload_n 0, 1) := by decide +kernel
theorem dX2_mayTie_1 : decode cX2_mayTie 1 = .ok (.iload_n 1, 1) := by decide +kernel
theorem dX2_mayTie_2 : decode cX2_mayTie 2 = .ok (.invokevirtual 86, 3) := by decide +kernel
theorem dX2_mayTie_5 : decode cX2_mayTie 5 = .ok (.ifCond .lt 5, 3) := by decide +kernel
theorem dX2_mayTie_8 : decode cX2_mayTie 8 = .ok (.iconst 0, 1) := by decide +kernel
theorem dX2_mayTie_9 : decode cX2_mayTie 9 = .ok (.ireturn, 1) := by decide +kernel
theorem dX2_mayTie_10 : decode cX2_mayTie 10 = .ok (.iload_n 1, 1) := by decide +kernel
theorem dX2_mayTie_11 : decode cX2_mayTie 11 = .ok (.invokestatic 35, 3) := by decide +kernel
theorem dX2_mayTie_14 : decode cX2_mayTie 14 = .ok (.istore_n 2, 1) := by decide +kernel
theorem dX2_mayTie_15 : decode cX2_mayTie 15 = .ok (.bipush 31, 2) := by decide +kernel
theorem dX2_mayTie_17 : decode cX2_mayTie 17 = .ok (.iload_n 1, 1) := by decide +kernel
theorem dX2_mayTie_18 : decode cX2_mayTie 18 = .ok (.invokestatic 40, 3) := by decide +kernel
theorem dX2_mayTie_21 : decode cX2_mayTie 21 = .ok (.isub, 1) := by decide +kernel
theorem dX2_mayTie_22 : decode cX2_mayTie 22 = .ok (.istore_n 3, 1) := by decide +kernel
theorem dX2_mayTie_23 : decode cX2_mayTie 23 = .ok (.aload_n 0, 1) := by decide +kernel
theorem dX2_mayTie_24 : decode cX2_mayTie 24 = .ok (.iload_n 2, 1) := by decide +kernel
theorem dX2_mayTie_25 : decode cX2_mayTie 25 = .ok (.invokevirtual 60, 3) := by decide +kernel
theorem dX2_mayTie_28 : decode cX2_mayTie 28 = .ok (.ifCond .ne 15, 3) := by decide +kernel
theorem dX2_mayTie_31 : decode cX2_mayTie 31 = .ok (.aload_n 0, 1) := by decide +kernel
theorem dX2_mayTie_32 : decode cX2_mayTie 32 = .ok (.iload_n 3, 1) := by decide +kernel
theorem dX2_mayTie_33 : decode cX2_mayTie 33 = .ok (.invokevirtual 60, 3) := by decide +kernel
theorem dX2_mayTie_36 : decode cX2_mayTie 36 = .ok (.ifCond .ne 7, 3) := by decide +kernel
theorem dX2_mayTie_39 : decode cX2_mayTie 39 = .ok (.iconst 1, 1) := by decide +kernel
theorem dX2_mayTie_40 : decode cX2_mayTie 40 = .ok (.goto 4, 3) := by decide +kernel
theorem dX2_mayTie_43 : decode cX2_mayTie 43 = .ok (.iconst 0, 1) := by decide +kernel
theorem dX2_mayTie_44 : decode cX2_mayTie 44 = .ok (.ireturn, 1) := by decide +kernel
set_option maxRecDepth 20000 in
theorem ggX2_tie_X6_put : GoodIn wsX2_tie wsX6_put := goodIn_r _ [6] (by decide +kernel) (by decide +kernel)
set_option maxRecDepth 20000 in
theorem gX2_tie_X6_put_n43 : GoodIn wsX2_tie (wsX6_put) := ggX2_tie_X6_put
theorem dX2_tie_0 : decode cX2_tie 0 = .ok (.aload_n 0, 1) := by decide +kernel
theorem dX2_tie_1 : decode cX2_tie 1 = .ok (.getfield 15, 3) := by decide +kernel
theorem dX2_tie_4 : decode cX2_tie 4 = .ok (.bipush 21, 2) := by decide +kernel
theorem dX2_tie_6 : decode cX2_tie 6 = .ok (.if_icmp .ge 37, 3) := by decide +kernel
theorem dX2_tie_9 : decode cX2_tie 9 = .ok (.aload_n 0, 1) := by decide +kernel
theorem dX2_tie_10 : decode cX2_tie 10 = .ok (.getfield 18, 3) := by decide +kernel
theorem dX2_tie_13 : decode cX2_tie 13 = .ok (.aload_n 0, 1) := by decide +kernel
theorem dX2_tie_14 : decode cX2_tie 14 = .ok (.getfield 15, 3) := by decide +kernel
theorem dX2_tie_17 : decode cX2_tie 17 = .ok (.iload_n 1, 1) := by decide +kernel
theorem dX2_tie_18 : decode cX2_tie 18 = .ok (.invokestatic 43, 3) := by decide +kernel
theorem dX2_tie_21 : decode cX2_tie 21 = .ok (.aload_n 0, 1) := by decide +kernel
theorem dX2_tie_22 : decode cX2_tie 22 = .ok (.getfield 22, 3) := by decide +kernel
theorem dX2_tie_25 : decode cX2_tie 25 = .ok (.aload_n 0, 1) := by decide +kernel
theorem dX2_tie_26 : decode cX2_tie 26 = .ok (.getfield 15, 3) := by decide +kernel
theorem dX2_tie_29 : decode cX2_tie 29 = .ok (.iconst 3, 1) := by decide +kernel
theorem dX2_tie_30 : decode cX2_tie 30 = .ok (.invokestatic 43, 3) := by decide +kernel
theorem dX2_tie_33 : decode cX2_tie 33 = .ok (.aload_n 0, 1) := by decide +kernel
theorem dX2_tie_34 : decode cX2_tie 34 = .ok (.dup, 1) := by decide +kernel
theorem dX2_tie_35 : decode cX2_tie 35 = .ok (.getfield 15, 3) := by decide +kernel
theorem dX2_tie_38 : decode cX2_tie 38 = .ok (.iconst 1, 1) := by decide +kernel
theorem dX2_tie_39 : decode cX2_tie 39 = .ok (.iadd, 1) := by decide +kernel
theorem dX2_tie_40 : decode cX2_tie 40 = .ok (.putfield 15, 3) := by decide +kernel
theorem dX2_tie_43 : decode cX2_tie 43 = .ok (.return_, 1) := by decide +kernel
set_option maxRecDepth 20000 in
theorem ggX2_dropThread_X2_hasThread : GoodIn wsX2_dropThread wsX2_hasThread := goodIn_r _ [8, 1, 14, 15, 16, 17] (by decide +kernel) (by decide +kernel)
set_option maxRecDepth 20000 in
theorem gX2_dropThread_X2_hasThread : GoodIn wsX2_dropThread (wsV RX2 89 RX2 yX2_hasThread wsX2_hasThread) := goodIn_app (goodIn_of _ (by decide +kernel)) ggX2_dropThread_X2_hasThread
set_option maxRecDepth 20000 in
theorem ggX2_dropThread_X6_at : GoodIn wsX2_dropThread wsX6_at := goodIn_r _ [11] (by decide +kernel) (by decide +kernel)
set_option maxRecDepth 20000 in
theorem gX2_dropThread_X6_at_n29 : GoodIn wsX2_dropThread (wsX6_at) := ggX2_dropThread_X6_at
set_option maxRecDepth 20000 in
theorem ggX2_dropThread_X6_put : GoodIn wsX2_dropThread wsX6_put := goodIn_r _ [13] (by decide +kernel) (by decide +kernel)
set_option maxRecDepth 20000 in
theorem gX2_dropThread_X6_put_n43 : GoodIn wsX2_dropThread (wsX6_put) := ggX2_dropThread_X6_put
theorem dX2_dropThread_0 : decode cX2_dropThread 0 = .ok (.aload_n 0, 1) := by decide +kernel
theorem dX2_dropThread_1 : decode cX2_dropThread 1 = .ok (.iload_n 1, 1) := by decide +kernel
theorem dX2_dropThread_2 : decode cX2_dropThread 2 = .ok (.invokevirtual 89, 3) := by decide +kernel
theorem dX2_dropThread_5 : decode cX2_dropThread 5 = .ok (.ifCond .ne 4, 3) := by decide +kernel
theorem dX2_dropThread_8 : decode cX2_dropThread 8 = .ok (.return_, 1) := by decide +kernel
theorem dX2_dropThread_9 : decode cX2_dropThread 9 = .ok (.iload_n 1, 1) := by decide +kernel
theorem dX2_dropThread_10 : decode cX2_dropThread 10 = .ok (.istore_n 2, 1) := by decide +kernel
theorem dX2_dropThread_11 : decode cX2_dropThread 11 = .ok (.iload_n 2, 1) := by decide +kernel
theorem dX2_dropThread_12 : decode cX2_dropThread 12 = .ok (.iconst 1, 1) := by decide +kernel
theorem dX2_dropThread_13 : decode cX2_dropThread 13 = .ok (.iadd, 1) := by decide +kernel
theorem dX2_dropThread_14 : decode cX2_dropThread 14 = .ok (.aload_n 0, 1) := by decide +kernel
theorem dX2_dropThread_15 : decode cX2_dropThread 15 = .ok (.getfield 15, 3) := by decide +kernel
theorem dX2_dropThread_18 : decode cX2_dropThread 18 = .ok (.if_icmp .ge 45, 3) := by decide +kernel
theorem dX2_dropThread_21 : decode cX2_dropThread 21 = .ok (.aload_n 0, 1) := by decide +kernel
theorem dX2_dropThread_22 : decode cX2_dropThread 22 = .ok (.getfield 18, 3) := by decide +kernel
theorem dX2_dropThread_25 : decode cX2_dropThread 25 = .ok (.iload_n 2, 1) := by decide +kernel
theorem dX2_dropThread_26 : decode cX2_dropThread 26 = .ok (.aload_n 0, 1) := by decide +kernel
theorem dX2_dropThread_27 : decode cX2_dropThread 27 = .ok (.getfield 18, 3) := by decide +kernel
theorem dX2_dropThread_30 : decode cX2_dropThread 30 = .ok (.iload_n 2, 1) := by decide +kernel
theorem dX2_dropThread_31 : decode cX2_dropThread 31 = .ok (.iconst 1, 1) := by decide +kernel
theorem dX2_dropThread_32 : decode cX2_dropThread 32 = .ok (.iadd, 1) := by decide +kernel
theorem dX2_dropThread_33 : decode cX2_dropThread 33 = .ok (.invokestatic 29, 3) := by decide +kernel
theorem dX2_dropThread_36 : decode cX2_dropThread 36 = .ok (.invokestatic 43, 3) := by decide +kernel
theorem dX2_dropThread_39 : decode cX2_dropThread 39 = .ok (.aload_n 0, 1) := by decide +kernel
theorem dX2_dropThread_40 : decode cX2_dropThread 40 = .ok (.getfield 22, 3) := by decide +kernel
theorem dX2_dropThread_43 : decode cX2_dropThread 43 = .ok (.iload_n 2, 1) := by decide +kernel
theorem dX2_dropThread_44 : decode cX2_dropThread 44 = .ok (.aload_n 0, 1) := by decide +kernel
theorem dX2_dropThread_45 : decode cX2_dropThread 45 = .ok (.getfield 22, 3) := by decide +kernel
theorem dX2_dropThread_48 : decode cX2_dropThread 48 = .ok (.iload_n 2, 1) := by decide +kernel
theorem dX2_dropThread_49 : decode cX2_dropThread 49 = .ok (.iconst 1, 1) := by decide +kernel
theorem dX2_dropThread_50 : decode cX2_dropThread 50 = .ok (.iadd, 1) := by decide +kernel
theorem dX2_dropThread_51 : decode cX2_dropThread 51 = .ok (.invokestatic 29, 3) := by decide +kernel
theorem dX2_dropThread_54 : decode cX2_dropThread 54 = .ok (.invokestatic 43, 3) := by decide +kernel
theorem dX2_dropThread_57 : decode cX2_dropThread 57 = .ok (.iinc 2 1, 3) := by decide +kernel
theorem dX2_dropThread_60 : decode cX2_dropThread 60 = .ok (.goto (-49), 3) := by decide +kernel
theorem dX2_dropThread_63 : decode cX2_dropThread 63 = .ok (.aload_n 0, 1) := by decide +kernel
theorem dX2_dropThread_64 : decode cX2_dropThread 64 = .ok (.dup, 1) := by decide +kernel
theorem dX2_dropThread_65 : decode cX2_dropThread 65 = .ok (.getfield 15, 3) := by decide +kernel
theorem dX2_dropThread_68 : decode cX2_dropThread 68 = .ok (.iconst 1, 1) := by decide +kernel
theorem dX2_dropThread_69 : decode cX2_dropThread 69 = .ok (.isub, 1) := by decide +kernel
theorem dX2_dropThread_70 : decode cX2_dropThread 70 = .ok (.putfield 15, 3) := by decide +kernel
theorem dX2_dropThread_73 : decode cX2_dropThread 73 = .ok (.return_, 1) := by decide +kernel
set_option maxRecDepth 20000 in
theorem ggX2_dropThreads_X6_holds : GoodIn wsX2_dropThreads wsX6_holds := goodIn_r _ [4] (by decide +kernel) (by decide +kernel)
set_option maxRecDepth 20000 in
theorem gX2_dropThreads_X6_holds_n50 : GoodIn wsX2_dropThreads (wsX6_holds) := ggX2_dropThreads_X6_holds
set_option maxRecDepth 20000 in
theorem ggX2_dropThreads_X2_dropThread : GoodIn wsX2_dropThreads wsX2_dropThread := goodIn_r _ [9, 1, 10, 11, 12, 13, 14, 8, 15, 16, 3, 17, 18, 19, 20, 21, 22, 23] (by decide +kernel) (by decide +kernel)
set_option maxRecDepth 20000 in
theorem gX2_dropThreads_X2_dropThread : GoodIn wsX2_dropThreads (wsV RX2 92 RX2 yX2_dropThread wsX2_dropThread) := goodIn_app (goodIn_of _ (by decide +kernel)) ggX2_dropThreads_X2_dropThread
theorem dX2_dropThreads_0 : decode cX2_dropThreads 0 = .ok (.aload_n 0, 1) := by decide +kernel
theorem dX2_dropThreads_1 : decode cX2_dropThreads 1 = .ok (.getfield 15, 3) := by decide +kernel
theorem dX2_dropThreads_4 : decode cX2_dropThreads 4 = .ok (.iconst 1, 1) := by decide +kernel
theorem dX2_dropThreads_5 : decode cX2_dropThreads 5 = .ok (.isub, 1) := by decide +kernel
theorem dX2_dropThreads_6 : decode cX2_dropThreads 6 = .ok (.istore_n 2, 1) := by decide +kernel
theorem dX2_dropThreads_7 : decode cX2_dropThreads 7 = .ok (.iload_n 2, 1) := by decide +kernel
theorem dX2_dropThreads_8 : decode cX2_dropThreads 8 = .ok (.ifCond .lt 22, 3) := by decide +kernel
theorem dX2_dropThreads_11 : decode cX2_dropThreads 11 = .ok (.iload_n 1, 1) := by decide +kernel
theorem dX2_dropThreads_12 : decode cX2_dropThreads 12 = .ok (.iload_n 2, 1) := by decide +kernel
theorem dX2_dropThreads_13 : decode cX2_dropThreads 13 = .ok (.invokestatic 50, 3) := by decide +kernel
theorem dX2_dropThreads_16 : decode cX2_dropThreads 16 = .ok (.ifCond .eq 8, 3) := by decide +kernel
theorem dX2_dropThreads_19 : decode cX2_dropThreads 19 = .ok (.aload_n 0, 1) := by decide +kernel
theorem dX2_dropThreads_20 : decode cX2_dropThreads 20 = .ok (.iload_n 2, 1) := by decide +kernel
theorem dX2_dropThreads_21 : decode cX2_dropThreads 21 = .ok (.invokevirtual 92, 3) := by decide +kernel
theorem dX2_dropThreads_24 : decode cX2_dropThreads 24 = .ok (.iinc 2 (-1), 3) := by decide +kernel
theorem dX2_dropThreads_27 : decode cX2_dropThreads 27 = .ok (.goto (-20), 3) := by decide +kernel
theorem dX2_dropThreads_30 : decode cX2_dropThreads 30 = .ok (.return_, 1) := by decide +kernel
set_option maxRecDepth 20000 in
theorem ggX2_dropKnot_X2_hasKnot : GoodIn wsX2_dropKnot wsX2_hasKnot := goodIn_r _ [8, 3, 39, 40, 41, 42] (by decide +kernel) (by decide +kernel)
set_option maxRecDepth 20000 in
theorem gX2_dropKnot_X2_hasKnot : GoodIn wsX2_dropKnot (wsV RX2 95 RX2 yX2_hasKnot wsX2_hasKnot) := goodIn_app (goodIn_of _ (by decide +kernel)) ggX2_dropKnot_X2_hasKnot
set_option maxRecDepth 20000 in
theorem ggX2_dropKnot_X6_bit : GoodIn wsX2_dropKnot wsX6_bit := goodIn_r _ [11] (by decide +kernel) (by decide +kernel)
set_option maxRecDepth 20000 in
theorem gX2_dropKnot_X6_bit_n25 : GoodIn wsX2_dropKnot (wsX6_bit) := ggX2_dropKnot_X6_bit
set_option maxRecDepth 20000 in
theorem ggX2_dropKnot_X2_threadsAt : GoodIn wsX2_dropKnot wsX2_threadsAt := goodIn_r _ [15, 1, 16, 17, 18, 7, 19, 2, 20, 10, 21, 9, 11, 39, 40, 41, 42] (by decide +kernel) (by decide +kernel)
set_option maxRecDepth 20000 in
theorem gX2_dropKnot_X2_threadsAt : GoodIn wsX2_dropKnot (wsV RX2 54 RX2 yX2_threadsAt wsX2_threadsAt) := goodIn_app (goodIn_of _ (by decide +kernel)) ggX2_dropKnot_X2_threadsAt
set_option maxRecDepth 20000 in
theorem ggX2_dropKnot_X2_dropThreads : GoodIn wsX2_dropKnot wsX2_dropThreads := goodIn_r _ [25, 1, 26, 10, 27, 28, 29, 30, 7, 31, 2, 32, 33, 34, 35, 36, 20, 21, 37, 38, 39, 40, 41, 42] (by decide +kernel) (by decide +kernel)
set_option maxRecDepth 20000 in
theorem gX2_dropKnot_X2_dropThreads : GoodIn wsX2_dropKnot (wsV RX2 98 RX2 yX2_dropThreads wsX2_dropThreads) := goodIn_app (goodIn_of _ (by decide +kernel)) ggX2_dropKnot_X2_dropThreads
set_option maxRecDepth 20000 in
theorem ggX2_dropKnot_X2_ends : GoodIn wsX2_dropKnot wsX2_ends := goodIn_r _ [19, 2, 20, 10, 21, 39, 40, 41, 42] (by decide +kernel) (by decide +kernel)
set_option maxRecDepth 20000 in
theorem gX2_dropKnot_X2_ends : GoodIn wsX2_dropKnot (wsV RX2 33 RX2 yX2_ends wsX2_ends) := goodIn_app (goodIn_of _ (by decide +kernel)) ggX2_dropKnot_X2_ends
set_option maxRecDepth 20000 in
theorem ggX2_dropKnot_X6_put : GoodIn wsX2_dropKnot wsX6_put := goodIn_r _ [38] (by decide +kernel) (by decide +kernel)
set_option maxRecDepth 20000 in
theorem gX2_dropKnot_X6_put_n43 : GoodIn wsX2_dropKnot (wsX6_put) := ggX2_dropKnot_X6_put
theorem dX2_dropKnot_0 : decode cX2_dropKnot 0 = .ok (.aload_n 0, 1) := by decide +kernel
theorem dX2_dropKnot_1 : decode cX2_dropKnot 1 = .ok (.iload_n 1, 1) := by decide +kernel
theorem dX2_dropKnot_2 : decode cX2_dropKnot 2 = .ok (.invokevirtual 95, 3) := by decide +kernel
theorem dX2_dropKnot_5 : decode cX2_dropKnot 5 = .ok (.ifCond .ne 4, 3) := by decide +kernel
theorem dX2_dropKnot_8 : decode cX2_dropKnot 8 = .ok (.return_, 1) := by decide +kernel
theorem dX2_dropKnot_9 : decode cX2_dropKnot 9 = .ok (.aload_n 0, 1) := by decide +kernel
theorem dX2_dropKnot_10 : decode cX2_dropKnot 10 = .ok (.aload_n 0, 1) := by decide +kernel
theorem dX2_dropKnot_11 : decode cX2_dropKnot 11 = .ok (.iload_n 1, 1) := by decide +kernel
theorem dX2_dropKnot_12 : decode cX2_dropKnot 12 = .ok (.invokestatic 25, 3) := by decide +kernel
theorem dX2_dropKnot_15 : decode cX2_dropKnot 15 = .ok (.invokevirtual 54, 3) := by decide +kernel
theorem dX2_dropKnot_18 : decode cX2_dropKnot 18 = .ok (.invokevirtual 98, 3) := by decide +kernel
theorem dX2_dropKnot_21 : decode cX2_dropKnot 21 = .ok (.iload_n 1, 1) := by decide +kernel
theorem dX2_dropKnot_22 : decode cX2_dropKnot 22 = .ok (.invokestatic 25, 3) := by decide +kernel
theorem dX2_dropKnot_25 : decode cX2_dropKnot 25 = .ok (.iconst 1, 1) := by decide +kernel
theorem dX2_dropKnot_26 : decode cX2_dropKnot 26 = .ok (.isub, 1) := by decide +kernel
theorem dX2_dropKnot_27 : decode cX2_dropKnot 27 = .ok (.istore_n 2, 1) := by decide +kernel
theorem dX2_dropKnot_28 : decode cX2_dropKnot 28 = .ok (.iconst 0, 1) := by decide +kernel
theorem dX2_dropKnot_29 : decode cX2_dropKnot 29 = .ok (.istore_n 3, 1) := by decide +kernel
theorem dX2_dropKnot_30 : decode cX2_dropKnot 30 = .ok (.iload_n 3, 1) := by decide +kernel
theorem dX2_dropKnot_31 : decode cX2_dropKnot 31 = .ok (.aload_n 0, 1) := by decide +kernel
theorem dX2_dropKnot_32 : decode cX2_dropKnot 32 = .ok (.getfield 15, 3) := by decide +kernel
theorem dX2_dropKnot_35 : decode cX2_dropKnot 35 = .ok (.if_icmp .ge 37, 3) := by decide +kernel
theorem dX2_dropKnot_38 : decode cX2_dropKnot 38 = .ok (.aload_n 0, 1) := by decide +kernel
theorem dX2_dropKnot_39 : decode cX2_dropKnot 39 = .ok (.iload_n 3, 1) := by decide +kernel
theorem dX2_dropKnot_40 : decode cX2_dropKnot 40 = .ok (.invokevirtual 33, 3) := by decide +kernel
theorem dX2_dropKnot_43 : decode cX2_dropKnot 43 = .ok (.istore 4, 2) := by decide +kernel
theorem dX2_dropKnot_45 : decode cX2_dropKnot 45 = .ok (.aload_n 0, 1) := by decide +kernel
theorem dX2_dropKnot_46 : decode cX2_dropKnot 46 = .ok (.getfield 18, 3) := by decide +kernel
theorem dX2_dropKnot_49 : decode cX2_dropKnot 49 = .ok (.iload_n 3, 1) := by decide +kernel
theorem dX2_dropKnot_50 : decode cX2_dropKnot 50 = .ok (.iload 4, 2) := by decide +kernel
theorem dX2_dropKnot_52 : decode cX2_dropKnot 52 = .ok (.iload_n 2, 1) := by decide +kernel
theorem dX2_dropKnot_53 : decode cX2_dropKnot 53 = .ok (.iand, 1) := by decide +kernel
theorem dX2_dropKnot_54 : decode cX2_dropKnot 54 = .ok (.iload 4, 2) := by decide +kernel
theorem dX2_dropKnot_56 : decode cX2_dropKnot 56 = .ok (.iconst 1, 1) := by decide +kernel
theorem dX2_dropKnot_57 : decode cX2_dropKnot 57 = .ok (.ishr, 1) := by decide +kernel
theorem dX2_dropKnot_58 : decode cX2_dropKnot 58 = .ok (.iload_n 2, 1) := by decide +kernel
theorem dX2_dropKnot_59 : decode cX2_dropKnot 59 = .ok (.iconst (-1), 1) := by decide +kernel
theorem dX2_dropKnot_60 : decode cX2_dropKnot 60 = .ok (.ixor, 1) := by decide +kernel
theorem dX2_dropKnot_61 : decode cX2_dropKnot 61 = .ok (.iand, 1) := by decide +kernel
theorem dX2_dropKnot_62 : decode cX2_dropKnot 62 = .ok (.ior, 1) := by decide +kernel
theorem dX2_dropKnot_63 : decode cX2_dropKnot 63 = .ok (.invokestatic 43, 3) := by decide +kernel
theorem dX2_dropKnot_66 : decode cX2_dropKnot 66 = .ok (.iinc 3 1, 3) := by decide +kernel
theorem dX2_dropKnot_69 : decode cX2_dropKnot 69 = .ok (.goto (-39), 3) := by decide +kernel
theorem dX2_dropKnot_72 : decode cX2_dropKnot 72 = .ok (.aload_n 0, 1) := by decide +kernel
theorem dX2_dropKnot_73 : decode cX2_dropKnot 73 = .ok (.dup, 1) := by decide +kernel
theorem dX2_dropKnot_74 : decode cX2_dropKnot 74 = .ok (.getfield 9, 3) := by decide +kernel
theorem dX2_dropKnot_77 : decode cX2_dropKnot 77 = .ok (.iconst 1, 1) := by decide +kernel
theorem dX2_dropKnot_78 : decode cX2_dropKnot 78 = .ok (.isub, 1) := by decide +kernel
theorem dX2_dropKnot_79 : decode cX2_dropKnot 79 = .ok (.putfield 9, 3) := by decide +kernel
theorem dX2_dropKnot_82 : decode cX2_dropKnot 82 = .ok (.return_, 1) := by decide +kernel
set_option maxRecDepth 20000 in
theorem ggX2_moveEnd_X2_ends : GoodIn wsX2_moveEnd wsX2_ends := goodIn_r _ [6, 1, 7, 8, 9, 14, 15, 16, 17] (by decide +kernel) (by decide +kernel)
set_option maxRecDepth 20000 in
theorem gX2_moveEnd_X2_ends : GoodIn wsX2_moveEnd (wsV RX2 33 RX2 yX2_ends wsX2_ends) := goodIn_app (goodIn_of _ (by decide +kernel)) ggX2_moveEnd_X2_ends
set_option maxRecDepth 20000 in
theorem ggX2_moveEnd_X6_bit : GoodIn wsX2_moveEnd wsX6_bit := goodIn_r _ [11] (by decide +kernel) (by decide +kernel)
set_option maxRecDepth 20000 in
theorem gX2_moveEnd_X6_bit_n25 : GoodIn wsX2_moveEnd (wsX6_bit) := ggX2_moveEnd_X6_bit
set_option maxRecDepth 20000 in
theorem ggX2_moveEnd_X6_put : GoodIn wsX2_moveEnd wsX6_put := goodIn_r _ [13] (by decide +kernel) (by decide +kernel)
set_option maxRecDepth 20000 in
theorem gX2_moveEnd_X6_put_n43 : GoodIn wsX2_moveEnd (wsX6_put) := ggX2_moveEnd_X6_put
theorem dX2_moveEnd_0 : decode cX2_moveEnd 0 = .ok (.aload_n 0, 1) := by decide +kernel
theorem dX2_moveEnd_1 : decode cX2_moveEnd 1 = .ok (.getfield 18, 3) := by decide +kernel
theorem dX2_moveEnd_4 : decode cX2_moveEnd 4 = .ok (.iload_n 1, 1) := by decide +kernel
theorem dX2_moveEnd_5 : decode cX2_moveEnd 5 = .ok (.aload_n 0, 1) := by decide +kernel
theorem dX2_moveEnd_6 : decode cX2_moveEnd 6 = .ok (.iload_n 1, 1) := by decide +kernel
theorem dX2_moveEnd_7 : decode cX2_moveEnd 7 = .ok (.invokevirtual 33, 3) := by decide +kernel
theorem dX2_moveEnd_10 : decode cX2_moveEnd 10 = .ok (.iload_n 2, 1) := by decide +kernel
theorem dX2_moveEnd_11 : decode cX2_moveEnd 11 = .ok (.invokestatic 25, 3) := by decide +kernel
theorem dX2_moveEnd_14 : decode cX2_moveEnd 14 = .ok (.iconst (-1), 1) := by decide +kernel
theorem dX2_moveEnd_15 : decode cX2_moveEnd 15 = .ok (.ixor, 1) := by decide +kernel
theorem dX2_moveEnd_16 : decode cX2_moveEnd 16 = .ok (.iand, 1) := by decide +kernel
theorem dX2_moveEnd_17 : decode cX2_moveEnd 17 = .ok (.iload_n 3, 1) := by decide +kernel
theorem dX2_moveEnd_18 : decode cX2_moveEnd 18 = .ok (.invokestatic 25, 3) := by decide +kernel
theorem dX2_moveEnd_21 : decode cX2_moveEnd 21 = .ok (.ior, 1) := by decide +kernel
theorem dX2_moveEnd_22 : decode cX2_moveEnd 22 = .ok (.invokestatic 43, 3) := by decide +kernel
theorem dX2_moveEnd_25 : decode cX2_moveEnd 25 = .ok (.return_, 1) := by decide +kernel
set_option maxRecDepth 20000 in
theorem ggX2_growInto_X6_bit : GoodIn wsX2_growInto wsX6_bit := goodIn_r _ [4] (by decide +kernel) (by decide +kernel)
set_option maxRecDepth 20000 in
theorem gX2_growInto_X6_bit_n25 : GoodIn wsX2_growInto (wsX6_bit) := ggX2_growInto_X6_bit
set_option maxRecDepth 20000 in
theorem ggX2_growInto_X2_threadsAt : GoodIn wsX2_growInto wsX2_threadsAt := goodIn_r _ [9, 10, 11, 12, 13, 8, 14, 15, 16, 3, 17, 2, 4, 42, 43, 44, 45] (by decide +kernel) (by decide +kernel)
set_option maxRecDepth 20000 in
theorem gX2_growInto_X2_threadsAt : GoodIn wsX2_growInto (wsV RX2 54 RX2 yX2_threadsAt wsX2_threadsAt) := goodIn_app (goodIn_of _ (by decide +kernel)) ggX2_growInto_X2_threadsAt
set_option maxRecDepth 20000 in
theorem ggX2_growInto_X2_addKnots : GoodIn wsX2_growInto wsX2_addKnots := goodIn_r _ [21, 1, 22, 23, 24, 25, 42, 43, 44, 45] (by decide +kernel) (by decide +kernel)
set_option maxRecDepth 20000 in
theorem gX2_growInto_X2_addKnots : GoodIn wsX2_growInto (wsV RX2 83 RX2 yX2_addKnots wsX2_addKnots) := goodIn_app (goodIn_of _ (by decide +kernel)) ggX2_growInto_X2_addKnots
set_option maxRecDepth 20000 in
theorem ggX2_growInto_J6_numberOfTrailingZeros_0f7a4 : GoodIn wsX2_growInto wsJ6_numberOfTrailingZeros_0f7a4 := goodIn_r _ [29, 30] (by decide +kernel) (by decide +kernel)
set_option maxRecDepth 20000 in
theorem gX2_growInto_J6_numberOfTrailingZeros_0f7a4 : GoodIn wsX2_growInto (va_wsS RX2 35 yJ6_numberOfTrailingZeros_0f7a4 wsJ6_numberOfTrailingZeros_0f7a4) := goodIn_app (goodIn_of _ (by decide +kernel)) ggX2_growInto_J6_numberOfTrailingZeros_0f7a4
set_option maxRecDepth 20000 in
theorem ggX2_growInto_X2_moveEnd : GoodIn wsX2_growInto wsX2_moveEnd := goodIn_r _ [34, 15, 11, 12, 13, 8, 14, 16, 3, 17, 2, 4, 35, 36, 42, 43, 44, 45] (by decide +kernel) (by decide +kernel)
set_option maxRecDepth 20000 in
theorem gX2_growInto_X2_moveEnd : GoodIn wsX2_growInto (wsV RX2 101 RX2 yX2_moveEnd wsX2_moveEnd) := goodIn_app (goodIn_of _ (by decide +kernel)) ggX2_growInto_X2_moveEnd
set_option maxRecDepth 20000 in
theorem ggX2_growInto_X2_tie : GoodIn wsX2_growInto wsX2_tie := goodIn_r _ [40, 10, 15, 41, 35, 3, 36, 42, 43, 44, 45] (by decide +kernel) (by decide +kernel)
set_option maxRecDepth 20000 in
theorem gX2_growInto_X2_tie : GoodIn wsX2_growInto (wsV RX2 76 RX2 yX2_tie wsX2_tie) := goodIn_app (goodIn_of _ (by decide +kernel)) ggX2_growInto_X2_tie
theorem dX2_growInto_0 : decode cX2_growInto 0 = .ok (.aload_n 0, 1) := by decide +kernel
theorem dX2_growInto_1 : decode cX2_growInto 1 = .ok (.getfield 9, 3) := by decide +kernel
theorem dX2_growInto_4 : decode cX2_growInto 4 = .ok (.istore_n 2, 1) := by decide +kernel
theorem dX2_growInto_5 : decode cX2_growInto 5 = .ok (.aload_n 0, 1) := by decide +kernel
theorem dX2_growInto_6 : decode cX2_growInto 6 = .ok (.getfield 9, 3) := by decide +kernel
theorem dX2_growInto_9 : decode cX2_growInto 9 = .ok (.iconst 1, 1) := by decide +kernel
theorem dX2_growInto_10 : decode cX2_growInto 10 = .ok (.iadd, 1) := by decide +kernel
theorem dX2_growInto_11 : decode cX2_growInto 11 = .ok (.istore_n 3, 1) := by decide +kernel
theorem dX2_growInto_12 : decode cX2_growInto 12 = .ok (.aload_n 0, 1) := by decide +kernel
theorem dX2_growInto_13 : decode cX2_growInto 13 = .ok (.iload_n 1, 1) := by decide +kernel
theorem dX2_growInto_14 : decode cX2_growInto 14 = .ok (.invokestatic 25, 3) := by decide +kernel
theorem dX2_growInto_17 : decode cX2_growInto 17 = .ok (.invokevirtual 54, 3) := by decide +kernel
theorem dX2_growInto_20 : decode cX2_growInto 20 = .ok (.istore 4, 2) := by decide +kernel
theorem dX2_growInto_22 : decode cX2_growInto 22 = .ok (.iload 4, 2) := by decide +kernel
theorem dX2_growInto_24 : decode cX2_growInto 24 = .ok (.iload 4, 2) := by decide +kernel
theorem dX2_growInto_26 : decode cX2_growInto 26 = .ok (.iconst 1, 1) := by decide +kernel
theorem dX2_growInto_27 : decode cX2_growInto 27 = .ok (.isub, 1) := by decide +kernel
theorem dX2_growInto_28 : decode cX2_growInto 28 = .ok (.iand, 1) := by decide +kernel
theorem dX2_growInto_29 : decode cX2_growInto 29 = .ok (.istore 5, 2) := by decide +kernel
theorem dX2_growInto_31 : decode cX2_growInto 31 = .ok (.iload 5, 2) := by decide +kernel
theorem dX2_growInto_33 : decode cX2_growInto 33 = .ok (.iload 5, 2) := by decide +kernel
theorem dX2_growInto_35 : decode cX2_growInto 35 = .ok (.iconst 1, 1) := by decide +kernel
theorem dX2_growInto_36 : decode cX2_growInto 36 = .ok (.isub, 1) := by decide +kernel
theorem dX2_growInto_37 : decode cX2_growInto 37 = .ok (.iand, 1) := by decide +kernel
theorem dX2_growInto_38 : decode cX2_growInto 38 = .ok (.istore 6, 2) := by decide +kernel
theorem dX2_growInto_40 : decode cX2_growInto 40 = .ok (.aload_n 0, 1) := by decide +kernel
theorem dX2_growInto_41 : decode cX2_growInto 41 = .ok (.iconst 2, 1) := by decide +kernel
theorem dX2_growInto_42 : decode cX2_growInto 42 = .ok (.invokevirtual 83, 3) := by decide +kernel
theorem dX2_growInto_45 : decode cX2_growInto 45 = .ok (.aload_n 0, 1) := by decide +kernel
theorem dX2_growInto_46 : decode cX2_growInto 46 = .ok (.iload 5, 2) := by decide +kernel
theorem dX2_growInto_48 : decode cX2_growInto 48 = .ok (.invokestatic 35, 3) := by decide +kernel
theorem dX2_growInto_51 : decode cX2_growInto 51 = .ok (.iload_n 1, 1) := by decide +kernel
theorem dX2_growInto_52 : decode cX2_growInto 52 = .ok (.iload_n 2, 1) := by decide +kernel
theorem dX2_growInto_53 : decode cX2_growInto 53 = .ok (.invokevirtual 101, 3) := by decide +kernel
theorem dX2_growInto_56 : decode cX2_growInto 56 = .ok (.aload_n 0, 1) := by decide +kernel
theorem dX2_growInto_57 : decode cX2_growInto 57 = .ok (.iload 6, 2) := by decide +kernel
theorem dX2_growInto_59 : decode cX2_growInto 59 = .ok (.invokestatic 35, 3) := by decide +kernel
theorem dX2_growInto_62 : decode cX2_growInto 62 = .ok (.iload_n 1, 1) := by decide +kernel
theorem dX2_growInto_63 : decode cX2_growInto 63 = .ok (.iload_n 3, 1) := by decide +kernel
theorem dX2_growInto_64 : decode cX2_growInto 64 = .ok (.invokevirtual 101, 3) := by decide +kernel
theorem dX2_growInto_67 : decode cX2_growInto 67 = .ok (.aload_n 0, 1) := by decide +kernel
theorem dX2_growInto_68 : decode cX2_growInto 68 = .ok (.iload_n 1, 1) := by decide +kernel
theorem dX2_growInto_69 : decode cX2_growInto 69 = .ok (.invokestatic 25, 3) := by decide +kernel
theorem dX2_growInto_72 : decode cX2_growInto 72 = .ok (.iload_n 2, 1) := by decide +kernel
theorem dX2_growInto_73 : decode cX2_growInto 73 = .ok (.invokestatic 25, 3) := by decide +kernel
theorem dX2_growInto_76 : decode cX2_growInto 76 = .ok (.ior, 1) := by decide +kernel
theorem dX2_growInto_77 : decode cX2_growInto 77 = .ok (.invokevirtual 76, 3) := by decide +kernel
theorem dX2_growInto_80 : decode cX2_growInto 80 = .ok (.aload_n 0, 1) := by decide +kernel
theorem dX2_growInto_81 : decode cX2_growInto 81 = .ok (.iload_n 1, 1) := by decide +kernel
theorem dX2_growInto_82 : decode cX2_growInto 82 = .ok (.invokestatic 25, 3) := by decide +kernel
theorem dX2_growInto_85 : decode cX2_growInto 85 = .ok (.iload_n 3, 1) := by decide +kernel
theorem dX2_growInto_86 : decode cX2_growInto 86 = .ok (.invokestatic 25, 3) := by decide +kernel
theorem dX2_growInto_89 : decode cX2_growInto 89 = .ok (.ior, 1) := by decide +kernel
theorem dX2_growInto_90 : decode cX2_growInto 90 = .ok (.invokevirtual 76, 3) := by decide +kernel
theorem dX2_growInto_93 : decode cX2_growInto 93 = .ok (.aload_n 0, 1) := by decide +kernel
theorem dX2_growInto_94 : decode cX2_growInto 94 = .ok (.iload_n 2, 1) := by decide +kernel
theorem dX2_growInto_95 : decode cX2_growInto 95 = .ok (.invokestatic 25, 3) := by decide +kernel
theorem dX2_growInto_98 : decode cX2_growInto 98 = .ok (.iload_n 3, 1) := by decide +kernel
theorem dX2_growInto_99 : decode cX2_growInto 99 = .ok (.invokestatic 25, 3) := by decide +kernel
theorem dX2_growInto_102 : decode cX2_growInto 102 = .ok (.ior, 1) := by decide +kernel
theorem dX2_growInto_103 : decode cX2_growInto 103 = .ok (.invokevirtual 76, 3) := by decide +kernel
theorem dX2_growInto_106 : decode cX2_growInto 106 = .ok (.return_, 1) := by decide +kernel
set_option maxRecDepth 20000 in
theorem ggX2_bridgeOver_X2_greaterKnot : GoodIn wsX2_bridgeOver wsX2_greaterKnot := goodIn_r _ [6, 7, 8, 9, 5, 10, 11, 12, 13, 14, 15, 16, 17, 18, 19, 42, 43, 44, 45] (by decide +kernel) (by decide +kernel)
set_option maxRecDepth 20000 in
theorem gX2_bridgeOver_X2_greaterKnot : GoodIn wsX2_bridgeOver (wsV RX2 105 RX2 yX2_greaterKnot wsX2_greaterKnot) := goodIn_app (goodIn_of _ (by decide +kernel)) ggX2_bridgeOver_X2_greaterKnot
set_option maxRecDepth 20000 in
theorem ggX2_bridgeOver_X2_addKnots : GoodIn wsX2_bridgeOver wsX2_addKnots := goodIn_r _ [23, 1, 24, 25, 26, 27, 42, 43, 44, 45] (by decide +kernel) (by decide +kernel)
set_option maxRecDepth 20000 in
theorem gX2_bridgeOver_X2_addKnots : GoodIn wsX2_bridgeOver (wsV RX2 83 RX2 yX2_addKnots wsX2_addKnots) := goodIn_app (goodIn_of _ (by decide +kernel)) ggX2_bridgeOver_X2_addKnots
set_option maxRecDepth 20000 in
theorem ggX2_bridgeOver_X2_moveEnd : GoodIn wsX2_bridgeOver wsX2_moveEnd := goodIn_r _ [31, 11, 7, 8, 9, 5, 10, 12, 13, 14, 32, 33, 34, 35, 42, 43, 44, 45] (by decide +kernel) (by decide +kernel)
set_option maxRecDepth 20000 in
theorem gX2_bridgeOver_X2_moveEnd : GoodIn wsX2_bridgeOver (wsV RX2 101 RX2 yX2_moveEnd wsX2_moveEnd) := goodIn_app (goodIn_of _ (by decide +kernel)) ggX2_bridgeOver_X2_moveEnd
set_option maxRecDepth 20000 in
theorem ggX2_bridgeOver_X6_bit : GoodIn wsX2_bridgeOver wsX6_bit := goodIn_r _ [33] (by decide +kernel) (by decide +kernel)
set_option maxRecDepth 20000 in
theorem gX2_bridgeOver_X6_bit_n25 : GoodIn wsX2_bridgeOver (wsX6_bit) := ggX2_bridgeOver_X6_bit
set_option maxRecDepth 20000 in
theorem ggX2_bridgeOver_X2_tie : GoodIn wsX2_bridgeOver wsX2_tie := goodIn_r _ [39, 40, 11, 41, 34, 13, 35, 42, 43, 44, 45] (by decide +kernel) (by decide +kernel)
set_option maxRecDepth 20000 in
theorem gX2_bridgeOver_X2_tie : GoodIn wsX2_bridgeOver (wsV RX2 76 RX2 yX2_tie wsX2_tie) := goodIn_app (goodIn_of _ (by decide +kernel)) ggX2_bridgeOver_X2_tie
theorem dX2_bridgeOver_0 : decode cX2_bridgeOver 0 = .ok (.aload_n 0, 1) := by decide +kernel
theorem dX2_bridgeOver_1 : decode cX2_bridgeOver 1 = .ok (.getfield 9, 3) := by decide +kernel
theorem dX2_bridgeOver_4 : decode cX2_bridgeOver 4 = .ok (.istore_n 3, 1) := by decide +kernel
theorem dX2_bridgeOver_5 : decode cX2_bridgeOver 5 = .ok (.aload_n 0, 1) := by decide +kernel
theorem dX2_bridgeOver_6 : decode cX2_bridgeOver 6 = .ok (.getfield 9, 3) := by decide +kernel
theorem dX2_bridgeOver_9 : decode cX2_bridgeOver 9 = .ok (.iconst 1, 1) := by decide +kernel
theorem dX2_bridgeOver_10 : decode cX2_bridgeOver 10 = .ok (.iadd, 1) := by decide +kernel
theorem dX2_bridgeOver_11 : decode cX2_bridgeOver 11 = .ok (.istore 4, 2) := by decide +kernel
theorem dX2_bridgeOver_13 : decode cX2_bridgeOver 13 = .ok (.aload_n 0, 1) := by decide +kernel
theorem dX2_bridgeOver_14 : decode cX2_bridgeOver 14 = .ok (.iload_n 1, 1) := by decide +kernel
theorem dX2_bridgeOver_15 : decode cX2_bridgeOver 15 = .ok (.invokevirtual 105, 3) := by decide +kernel
theorem dX2_bridgeOver_18 : decode cX2_bridgeOver 18 = .ok (.istore 5, 2) := by decide +kernel
theorem dX2_bridgeOver_20 : decode cX2_bridgeOver 20 = .ok (.aload_n 0, 1) := by decide +kernel
theorem dX2_bridgeOver_21 : decode cX2_bridgeOver 21 = .ok (.iload_n 2, 1) := by decide +kernel
theorem dX2_bridgeOver_22 : decode cX2_bridgeOver 22 = .ok (.invokevirtual 105, 3) := by decide +kernel
theorem dX2_bridgeOver_25 : decode cX2_bridgeOver 25 = .ok (.istore 6, 2) := by decide +kernel
theorem dX2_bridgeOver_27 : decode cX2_bridgeOver 27 = .ok (.aload_n 0, 1) := by decide +kernel
theorem dX2_bridgeOver_28 : decode cX2_bridgeOver 28 = .ok (.iconst 2, 1) := by decide +kernel
theorem dX2_bridgeOver_29 : decode cX2_bridgeOver 29 = .ok (.invokevirtual 83, 3) := by decide +kernel
theorem dX2_bridgeOver_32 : decode cX2_bridgeOver 32 = .ok (.aload_n 0, 1) := by decide +kernel
theorem dX2_bridgeOver_33 : decode cX2_bridgeOver 33 = .ok (.iload_n 1, 1) := by decide +kernel
theorem dX2_bridgeOver_34 : decode cX2_bridgeOver 34 = .ok (.iload 5, 2) := by decide +kernel
theorem dX2_bridgeOver_36 : decode cX2_bridgeOver 36 = .ok (.iload_n 3, 1) := by decide +kernel
theorem dX2_bridgeOver_37 : decode cX2_bridgeOver 37 = .ok (.invokevirtual 101, 3) := by decide +kernel
theorem dX2_bridgeOver_40 : decode cX2_bridgeOver 40 = .ok (.aload_n 0, 1) := by decide +kernel
theorem dX2_bridgeOver_41 : decode cX2_bridgeOver 41 = .ok (.iload_n 2, 1) := by decide +kernel
theorem dX2_bridgeOver_42 : decode cX2_bridgeOver 42 = .ok (.iload 6, 2) := by decide +kernel
theorem dX2_bridgeOver_44 : decode cX2_bridgeOver 44 = .ok (.iload 4, 2) := by decide +kernel
theorem dX2_bridgeOver_46 : decode cX2_bridgeOver 46 = .ok (.invokevirtual 101, 3) := by decide +kernel
theorem dX2_bridgeOver_49 : decode cX2_bridgeOver 49 = .ok (.aload_n 0, 1) := by decide +kernel
theorem dX2_bridgeOver_50 : decode cX2_bridgeOver 50 = .ok (.iload_n 3, 1) := by decide +kernel
theorem dX2_bridgeOver_51 : decode cX2_bridgeOver 51 = .ok (.invokestatic 25, 3) := by decide +kernel
theorem dX2_bridgeOver_54 : decode cX2_bridgeOver 54 = .ok (.iload 5, 2) := by decide +kernel
theorem dX2_bridgeOver_56 : decode cX2_bridgeOver 56 = .ok (.invokestatic 25, 3) := by decide +kernel
theorem dX2_bridgeOver_59 : decode cX2_bridgeOver 59 = .ok (.ior, 1) := by decide +kernel
theorem dX2_bridgeOver_60 : decode cX2_bridgeOver 60 = .ok (.invokevirtual 76, 3) := by decide +kernel
theorem dX2_bridgeOver_63 : decode cX2_bridgeOver 63 = .ok (.aload_n 0, 1) := by decide +kernel
theorem dX2_bridgeOver_64 : decode cX2_bridgeOver 64 = .ok (.iload 4, 2) := by decide +kernel
theorem dX2_bridgeOver_66 : decode cX2_bridgeOver 66 = .ok (.invokestatic 25, 3) := by decide +kernel
theorem dX2_bridgeOver_69 : decode cX2_bridgeOver 69 = .ok (.iload 6, 2) := by decide +kernel
theorem dX2_bridgeOver_71 : decode cX2_bridgeOver 71 = .ok (.invokestatic 25, 3) := by decide +kernel
theorem dX2_bridgeOver_74 : decode cX2_bridgeOver 74 = .ok (.ior, 1) := by decide +kernel
theorem dX2_bridgeOver_75 : decode cX2_bridgeOver 75 = .ok (.invokevirtual 76, 3) := by decide +kernel
theorem dX2_bridgeOver_78 : decode cX2_bridgeOver 78 = .ok (.aload_n 0, 1) := by decide +kernel
theorem dX2_bridgeOver_79 : decode cX2_bridgeOver 79 = .ok (.iload_n 3, 1) := by decide +kernel
theorem dX2_bridgeOver_80 : decode cX2_bridgeOver 80 = .ok (.invokestatic 25, 3) := by decide +kernel
theorem dX2_bridgeOver_83 : decode cX2_bridgeOver 83 = .ok (.iload 4, 2) := by decide +kernel
theorem dX2_bridgeOver_85 : decode cX2_bridgeOver 85 = .ok (.invokestatic 25, 3) := by decide +kernel
theorem dX2_bridgeOver_88 : decode cX2_bridgeOver 88 = .ok (.ior, 1) := by decide +kernel
theorem dX2_bridgeOver_89 : decode cX2_bridgeOver 89 = .ok (.invokevirtual 76, 3) := by decide +kernel
theorem dX2_bridgeOver_92 : decode cX2_bridgeOver 92 = .ok (.return_, 1) := by decide +kernel
set_option maxRecDepth 20000 in
theorem ggX2_cornersBeside_X2_isFullKnot : GoodIn wsX2_cornersBeside wsX2_isFullKnot := goodIn_r _ [6, 7, 8, 9, 10, 11, 12, 5, 13, 14, 15, 16, 17, 18, 19, 20, 21, 22, 23, 24, 25, 26, 27, 28, 39, 40, 41, 42] (by decide +kernel) (by decide +kernel)
set_option maxRecDepth 20000 in
theorem gX2_cornersBeside_X2_isFullKnot : GoodIn wsX2_cornersBeside (wsV RX2 60 RX2 yX2_isFullKnot wsX2_isFullKnot) := goodIn_app (goodIn_of _ (by decide +kernel)) ggX2_cornersBeside_X2_isFullKnot
set_option maxRecDepth 20000 in
theorem ggX2_cornersBeside_X2_neighbours : GoodIn wsX2_cornersBeside wsX2_neighbours := goodIn_r _ [32, 14, 15, 16, 17, 5, 18, 19, 20, 8, 21, 33, 34, 7, 9, 39, 40, 41, 42] (by decide +kernel) (by decide +kernel)
set_option maxRecDepth 20000 in
theorem gX2_cornersBeside_X2_neighbours : GoodIn wsX2_cornersBeside (wsV RX2 108 RX2 yX2_neighbours wsX2_neighbours) := goodIn_app (goodIn_of _ (by decide +kernel)) ggX2_cornersBeside_X2_neighbours
set_option maxRecDepth 20000 in
theorem ggX2_cornersBeside_X6_bit : GoodIn wsX2_cornersBeside wsX6_bit := goodIn_r _ [9] (by decide +kernel) (by decide +kernel)
set_option maxRecDepth 20000 in
theorem gX2_cornersBeside_X6_bit_n25 : GoodIn wsX2_cornersBeside (wsX6_bit) := ggX2_cornersBeside_X6_bit
set_option maxRecDepth 20000 in
theorem ggX2_cornersBeside_X2_find : GoodIn wsX2_cornersBeside wsX2_find := goodIn_r _ [38, 14, 15, 16, 17, 5, 18, 19, 20, 8, 21, 39, 40, 41, 42] (by decide +kernel) (by decide +kernel)
set_option maxRecDepth 20000 in
theorem gX2_cornersBeside_X2_find : GoodIn wsX2_cornersBeside (wsV RX2 86 RX2 yX2_find wsX2_find) := goodIn_app (goodIn_of _ (by decide +kernel)) ggX2_cornersBeside_X2_find
theorem dX2_cornersBeside_0 : decode cX2_cornersBeside 0 = .ok (.aload_n 0, 1) := by decide +kernel
theorem dX2_cornersBeside_1 : decode cX2_cornersBeside 1 = .ok (.iload_n 1, 1) := by decide +kernel
theorem dX2_cornersBeside_2 : decode cX2_cornersBeside 2 = .ok (.invokevirtual 60, 3) := by decide +kernel
theorem dX2_cornersBeside_5 : decode cX2_cornersBeside 5 = .ok (.ifCond .ne 5, 3) := by decide +kernel
theorem dX2_cornersBeside_8 : decode cX2_cornersBeside 8 = .ok (.iconst 0, 1) := by decide +kernel
theorem dX2_cornersBeside_9 : decode cX2_cornersBeside 9 = .ok (.ireturn, 1) := by decide +kernel
theorem dX2_cornersBeside_10 : decode cX2_cornersBeside 10 = .ok (.aload_n 0, 1) := by decide +kernel
theorem dX2_cornersBeside_11 : decode cX2_cornersBeside 11 = .ok (.iload_n 1, 1) := by decide +kernel
theorem dX2_cornersBeside_12 : decode cX2_cornersBeside 12 = .ok (.invokevirtual 108, 3) := by decide +kernel
theorem dX2_cornersBeside_15 : decode cX2_cornersBeside 15 = .ok (.istore_n 2, 1) := by decide +kernel
theorem dX2_cornersBeside_16 : decode cX2_cornersBeside 16 = .ok (.iconst 0, 1) := by decide +kernel
theorem dX2_cornersBeside_17 : decode cX2_cornersBeside 17 = .ok (.istore_n 3, 1) := by decide +kernel
theorem dX2_cornersBeside_18 : decode cX2_cornersBeside 18 = .ok (.iload_n 3, 1) := by decide +kernel
theorem dX2_cornersBeside_19 : decode cX2_cornersBeside 19 = .ok (.aload_n 0, 1) := by decide +kernel
theorem dX2_cornersBeside_20 : decode cX2_cornersBeside 20 = .ok (.getfield 9, 3) := by decide +kernel
theorem dX2_cornersBeside_23 : decode cX2_cornersBeside 23 = .ok (.if_icmp .ge 79, 3) := by decide +kernel
theorem dX2_cornersBeside_26 : decode cX2_cornersBeside 26 = .ok (.iload_n 3, 1) := by decide +kernel
theorem dX2_cornersBeside_27 : decode cX2_cornersBeside 27 = .ok (.iconst 1, 1) := by decide +kernel
theorem dX2_cornersBeside_28 : decode cX2_cornersBeside 28 = .ok (.iadd, 1) := by decide +kernel
theorem dX2_cornersBeside_29 : decode cX2_cornersBeside 29 = .ok (.istore 4, 2) := by decide +kernel
theorem dX2_cornersBeside_31 : decode cX2_cornersBeside 31 = .ok (.iload 4, 2) := by decide +kernel
theorem dX2_cornersBeside_33 : decode cX2_cornersBeside 33 = .ok (.aload_n 0, 1) := by decide +kernel
theorem dX2_cornersBeside_34 : decode cX2_cornersBeside 34 = .ok (.getfield 9, 3) := by decide +kernel
theorem dX2_cornersBeside_37 : decode cX2_cornersBeside 37 = .ok (.if_icmp .ge 59, 3) := by decide +kernel
theorem dX2_cornersBeside_40 : decode cX2_cornersBeside 40 = .ok (.iload_n 3, 1) := by decide +kernel
theorem dX2_cornersBeside_41 : decode cX2_cornersBeside 41 = .ok (.invokestatic 25, 3) := by decide +kernel
theorem dX2_cornersBeside_44 : decode cX2_cornersBeside 44 = .ok (.iload 4, 2) := by decide +kernel
theorem dX2_cornersBeside_46 : decode cX2_cornersBeside 46 = .ok (.invokestatic 25, 3) := by decide +kernel
theorem dX2_cornersBeside_49 : decode cX2_cornersBeside 49 = .ok (.ior, 1) := by decide +kernel
theorem dX2_cornersBeside_50 : decode cX2_cornersBeside 50 = .ok (.istore 5, 2) := by decide +kernel
theorem dX2_cornersBeside_52 : decode cX2_cornersBeside 52 = .ok (.iload_n 2, 1) := by decide +kernel
theorem dX2_cornersBeside_53 : decode cX2_cornersBeside 53 = .ok (.iload 5, 2) := by decide +kernel
theorem dX2_cornersBeside_55 : decode cX2_cornersBeside 55 = .ok (.iand, 1) := by decide +kernel
theorem dX2_cornersBeside_56 : decode cX2_cornersBeside 56 = .ok (.iload 5, 2) := by decide +kernel
theorem dX2_cornersBeside_58 : decode cX2_cornersBeside 58 = .ok (.if_icmp .ne 32, 3) := by decide +kernel
theorem dX2_cornersBeside_61 : decode cX2_cornersBeside 61 = .ok (.aload_n 0, 1) := by decide +kernel
theorem dX2_cornersBeside_62 : decode cX2_cornersBeside 62 = .ok (.iload 5, 2) := by decide +kernel
theorem dX2_cornersBeside_64 : decode cX2_cornersBeside 64 = .ok (.invokevirtual 86, 3) := by decide +kernel
theorem dX2_cornersBeside_67 : decode cX2_cornersBeside 67 = .ok (.ifCond .lt 23, 3) := by decide +kernel
theorem dX2_cornersBeside_70 : decode cX2_cornersBeside 70 = .ok (.aload_n 0, 1) := by decide +kernel
theorem dX2_cornersBeside_71 : decode cX2_cornersBeside 71 = .ok (.iload_n 3, 1) := by decide +kernel
theorem dX2_cornersBeside_72 : decode cX2_cornersBeside 72 = .ok (.invokevirtual 60, 3) := by decide +kernel
theorem dX2_cornersBeside_75 : decode cX2_cornersBeside 75 = .ok (.ifCond .eq 15, 3) := by decide +kernel
theorem dX2_cornersBeside_78 : decode cX2_cornersBeside 78 = .ok (.aload_n 0, 1) := by decide +kernel
theorem dX2_cornersBeside_79 : decode cX2_cornersBeside 79 = .ok (.iload 4, 2) := by decide +kernel
theorem dX2_cornersBeside_81 : decode cX2_cornersBeside 81 = .ok (.invokevirtual 60, 3) := by decide +kernel
theorem dX2_cornersBeside_84 : decode cX2_cornersBeside 84 = .ok (.ifCond .eq 6, 3) := by decide +kernel
theorem dX2_cornersBeside_87 : decode cX2_cornersBeside 87 = .ok (.iload 5, 2) := by decide +kernel
theorem dX2_cornersBeside_89 : decode cX2_cornersBeside 89 = .ok (.ireturn, 1) := by decide +kernel
theorem dX2_cornersBeside_90 : decode cX2_cornersBeside 90 = .ok (.iinc 4 1, 3) := by decide +kernel
theorem dX2_cornersBeside_93 : decode cX2_cornersBeside 93 = .ok (.goto (-62), 3) := by decide +kernel
theorem dX2_cornersBeside_96 : decode cX2_cornersBeside 96 = .ok (.iinc 3 1, 3) := by decide +kernel
theorem dX2_cornersBeside_99 : decode cX2_cornersBeside 99 = .ok (.goto (-81), 3) := by decide +kernel
theorem dX2_cornersBeside_102 : decode cX2_cornersBeside 102 = .ok (.iconst 0, 1) := by decide +kernel
theorem dX2_cornersBeside_103 : decode cX2_cornersBeside 103 = .ok (.ireturn, 1) := by decide +kernel
set_option maxRecDepth 20000 in
theorem ggX2_mayMerge_X2_ends : GoodIn wsX2_mayMerge wsX2_ends := goodIn_r _ [6, 7, 8, 9, 10, 11, 12, 13, 14] (by decide +kernel) (by decide +kernel)
set_option maxRecDepth 20000 in
theorem gX2_mayMerge_X2_ends : GoodIn wsX2_mayMerge (wsV RX2 33 RX2 yX2_ends wsX2_ends) := goodIn_app (goodIn_of _ (by decide +kernel)) ggX2_mayMerge_X2_ends
theorem dX2_mayMerge_0 : decode cX2_mayMerge 0 = .ok (.iconst 0, 1) := by decide +kernel
theorem dX2_mayMerge_1 : decode cX2_mayMerge 1 = .ok (.istore_n 2, 1) := by decide +kernel
theorem dX2_mayMerge_2 : decode cX2_mayMerge 2 = .ok (.iconst 0, 1) := by decide +kernel
theorem dX2_mayMerge_3 : decode cX2_mayMerge 3 = .ok (.istore_n 3, 1) := by decide +kernel
theorem dX2_mayMerge_4 : decode cX2_mayMerge 4 = .ok (.iload_n 3, 1) := by decide +kernel
theorem dX2_mayMerge_5 : decode cX2_mayMerge 5 = .ok (.aload_n 0, 1) := by decide +kernel
theorem dX2_mayMerge_6 : decode cX2_mayMerge 6 = .ok (.getfield 15, 3) := by decide +kernel
theorem dX2_mayMerge_9 : decode cX2_mayMerge 9 = .ok (.if_icmp .ge 44, 3) := by decide +kernel
theorem dX2_mayMerge_12 : decode cX2_mayMerge 12 = .ok (.aload_n 0, 1) := by decide +kernel
theorem dX2_mayMerge_13 : decode cX2_mayMerge 13 = .ok (.iload_n 3, 1) := by decide +kernel
theorem dX2_mayMerge_14 : decode cX2_mayMerge 14 = .ok (.invokevirtual 33, 3) := by decide +kernel
theorem dX2_mayMerge_17 : decode cX2_mayMerge 17 = .ok (.iload_n 1, 1) := by decide +kernel
theorem dX2_mayMerge_18 : decode cX2_mayMerge 18 = .ok (.iconst (-1), 1) := by decide +kernel
theorem dX2_mayMerge_19 : decode cX2_mayMerge 19 = .ok (.ixor, 1) := by decide +kernel
theorem dX2_mayMerge_20 : decode cX2_mayMerge 20 = .ok (.iand, 1) := by decide +kernel
theorem dX2_mayMerge_21 : decode cX2_mayMerge 21 = .ok (.istore 4, 2) := by decide +kernel
theorem dX2_mayMerge_23 : decode cX2_mayMerge 23 = .ok (.iload 4, 2) := by decide +kernel
theorem dX2_mayMerge_25 : decode cX2_mayMerge 25 = .ok (.aload_n 0, 1) := by decide +kernel
theorem dX2_mayMerge_26 : decode cX2_mayMerge 26 = .ok (.iload_n 3, 1) := by decide +kernel
theorem dX2_mayMerge_27 : decode cX2_mayMerge 27 = .ok (.invokevirtual 33, 3) := by decide +kernel
theorem dX2_mayMerge_30 : decode cX2_mayMerge 30 = .ok (.if_icmp .eq 17, 3) := by decide +kernel
theorem dX2_mayMerge_33 : decode cX2_mayMerge 33 = .ok (.iload_n 2, 1) := by decide +kernel
theorem dX2_mayMerge_34 : decode cX2_mayMerge 34 = .ok (.iload 4, 2) := by decide +kernel
theorem dX2_mayMerge_36 : decode cX2_mayMerge 36 = .ok (.iand, 1) := by decide +kernel
theorem dX2_mayMerge_37 : decode cX2_mayMerge 37 = .ok (.ifCond .eq 5, 3) := by decide +kernel
theorem dX2_mayMerge_40 : decode cX2_mayMerge 40 = .ok (.iconst 0, 1) := by decide +kernel
theorem dX2_mayMerge_41 : decode cX2_mayMerge 41 = .ok (.ireturn, 1) := by decide +kernel
theorem dX2_mayMerge_42 : decode cX2_mayMerge 42 = .ok (.iload_n 2, 1) := by decide +kernel
theorem dX2_mayMerge_43 : decode cX2_mayMerge 43 = .ok (.iload 4, 2) := by decide +kernel
theorem dX2_mayMerge_45 : decode cX2_mayMerge 45 = .ok (.ior, 1) := by decide +kernel
theorem dX2_mayMerge_46 : decode cX2_mayMerge 46 = .ok (.istore_n 2, 1) := by decide +kernel
theorem dX2_mayMerge_47 : decode cX2_mayMerge 47 = .ok (.iinc 3 1, 3) := by decide +kernel
theorem dX2_mayMerge_50 : decode cX2_mayMerge 50 = .ok (.goto (-46), 3) := by decide +kernel
theorem dX2_mayMerge_53 : decode cX2_mayMerge 53 = .ok (.iconst 1, 1) := by decide +kernel
theorem dX2_mayMerge_54 : decode cX2_mayMerge 54 = .ok (.ireturn, 1) := by decide +kernel
set_option maxRecDepth 20000 in
theorem ggX2_merge_X2_ends : GoodIn wsX2_merge wsX2_ends := goodIn_r _ [7, 2, 8, 9, 10, 51, 52, 53, 54] (by decide +kernel) (by decide +kernel)
set_option maxRecDepth 20000 in
theorem gX2_merge_X2_ends : GoodIn wsX2_merge (wsV RX2 33 RX2 yX2_ends wsX2_ends) := goodIn_app (goodIn_of _ (by decide +kernel)) ggX2_merge_X2_ends
set_option maxRecDepth 20000 in
theorem ggX2_merge_X6_bit : GoodIn wsX2_merge wsX6_bit := goodIn_r _ [12] (by decide +kernel) (by decide +kernel)
set_option maxRecDepth 20000 in
theorem gX2_merge_X6_bit_n25 : GoodIn wsX2_merge (wsX6_bit) := ggX2_merge_X6_bit
set_option maxRecDepth 20000 in
theorem ggX2_merge_X6_put : GoodIn wsX2_merge wsX6_put := goodIn_r _ [14] (by decide +kernel) (by decide +kernel)
set_option maxRecDepth 20000 in
theorem gX2_merge_X6_put_n43 : GoodIn wsX2_merge (wsX6_put) := ggX2_merge_X6_put
set_option maxRecDepth 20000 in
theorem ggX2_merge_J6_numberOfLeadingZeros_0f7a4 : GoodIn wsX2_merge wsJ6_numberOfLeadingZeros_0f7a4 := goodIn_r _ [18, 19] (by decide +kernel) (by decide +kernel)
set_option maxRecDepth 20000 in
theorem gX2_merge_J6_numberOfLeadingZeros_0f7a4 : GoodIn wsX2_merge (va_wsS RX2 40 yJ6_numberOfLeadingZeros_0f7a4 wsJ6_numberOfLeadingZeros_0f7a4) := goodIn_app (goodIn_of _ (by decide +kernel)) ggX2_merge_J6_numberOfLeadingZeros_0f7a4
set_option maxRecDepth 20000 in
theorem ggX2_merge_X2_dropKnot : GoodIn wsX2_merge wsX2_dropKnot := goodIn_r _ [23, 1, 2, 24, 25, 26, 27, 6, 28, 11, 9, 12, 29, 30, 31, 32, 3, 4, 5, 7, 8, 10, 33, 34, 35, 36, 37, 38, 39, 40, 41, 42, 43, 44, 45, 46, 47, 13, 14, 51, 52, 53, 54] (by decide +kernel) (by decide +kernel)
set_option maxRecDepth 20000 in
theorem gX2_merge_X2_dropKnot : GoodIn wsX2_merge (wsV RX2 111 RX2 yX2_dropKnot wsX2_dropKnot) := goodIn_app (goodIn_of _ (by decide +kernel)) ggX2_merge_X2_dropKnot
set_option maxRecDepth 20000 in
theorem ggX2_merge_J6_numberOfTrailingZeros_0f7a4 : GoodIn wsX2_merge wsJ6_numberOfTrailingZeros_0f7a4 := goodIn_r _ [50, 19] (by decide +kernel) (by decide +kernel)
set_option maxRecDepth 20000 in
theorem gX2_merge_J6_numberOfTrailingZeros_0f7a4 : GoodIn wsX2_merge (va_wsS RX2 35 yJ6_numberOfTrailingZeros_0f7a4 wsJ6_numberOfTrailingZeros_0f7a4) := goodIn_app (goodIn_of _ (by decide +kernel)) ggX2_merge_J6_numberOfTrailingZeros_0f7a4
theorem dX2_merge_0 : decode cX2_merge 0 = .ok (.iconst 0, 1) := by decide +kernel
theorem dX2_merge_1 : decode cX2_merge 1 = .ok (.istore_n 3, 1) := by decide +kernel
theorem dX2_merge_2 : decode cX2_merge 2 = .ok (.iload_n 3, 1) := by decide +kernel
theorem dX2_merge_3 : decode cX2_merge 3 = .ok (.aload_n 0, 1) := by decide +kernel
theorem dX2_merge_4 : decode cX2_merge 4 = .ok (.getfield 15, 3) := by decide +kernel
theorem dX2_merge_7 : decode cX2_merge 7 = .ok (.if_icmp .ge 57, 3) := by decide +kernel
theorem dX2_merge_10 : decode cX2_merge 10 = .ok (.aload_n 0, 1) := by decide +kernel
theorem dX2_merge_11 : decode cX2_merge 11 = .ok (.iload_n 3, 1) := by decide +kernel
theorem dX2_merge_12 : decode cX2_merge 12 = .ok (.invokevirtual 33, 3) := by decide +kernel
theorem dX2_merge_15 : decode cX2_merge 15 = .ok (.iload_n 2, 1) := by decide +kernel
theorem dX2_merge_16 : decode cX2_merge 16 = .ok (.iconst (-1), 1) := by decide +kernel
theorem dX2_merge_17 : decode cX2_merge 17 = .ok (.ixor, 1) := by decide +kernel
theorem dX2_merge_18 : decode cX2_merge 18 = .ok (.iand, 1) := by decide +kernel
theorem dX2_merge_19 : decode cX2_merge 19 = .ok (.iload_n 1, 1) := by decide +kernel
theorem dX2_merge_20 : decode cX2_merge 20 = .ok (.invokestatic 25, 3) := by decide +kernel
theorem dX2_merge_23 : decode cX2_merge 23 = .ok (.iconst (-1), 1) := by decide +kernel
theorem dX2_merge_24 : decode cX2_merge 24 = .ok (.ixor, 1) := by decide +kernel
theorem dX2_merge_25 : decode cX2_merge 25 = .ok (.iand, 1) := by decide +kernel
theorem dX2_merge_26 : decode cX2_merge 26 = .ok (.istore 4, 2) := by decide +kernel
theorem dX2_merge_28 : decode cX2_merge 28 = .ok (.iload 4, 2) := by decide +kernel
theorem dX2_merge_30 : decode cX2_merge 30 = .ok (.ifCond .eq 28, 3) := by decide +kernel
theorem dX2_merge_33 : decode cX2_merge 33 = .ok (.iload 4, 2) := by decide +kernel
theorem dX2_merge_35 : decode cX2_merge 35 = .ok (.aload_n 0, 1) := by decide +kernel
theorem dX2_merge_36 : decode cX2_merge 36 = .ok (.iload_n 3, 1) := by decide +kernel
theorem dX2_merge_37 : decode cX2_merge 37 = .ok (.invokevirtual 33, 3) := by decide +kernel
theorem dX2_merge_40 : decode cX2_merge 40 = .ok (.if_icmp .eq 18, 3) := by decide +kernel
theorem dX2_merge_43 : decode cX2_merge 43 = .ok (.aload_n 0, 1) := by decide +kernel
theorem dX2_merge_44 : decode cX2_merge 44 = .ok (.getfield 18, 3) := by decide +kernel
theorem dX2_merge_47 : decode cX2_merge 47 = .ok (.iload_n 3, 1) := by decide +kernel
theorem dX2_merge_48 : decode cX2_merge 48 = .ok (.iload 4, 2) := by decide +kernel
theorem dX2_merge_50 : decode cX2_merge 50 = .ok (.iload_n 1, 1) := by decide +kernel
theorem dX2_merge_51 : decode cX2_merge 51 = .ok (.invokestatic 25, 3) := by decide +kernel
theorem dX2_merge_54 : decode cX2_merge 54 = .ok (.ior, 1) := by decide +kernel
theorem dX2_merge_55 : decode cX2_merge 55 = .ok (.invokestatic 43, 3) := by decide +kernel
theorem dX2_merge_58 : decode cX2_merge 58 = .ok (.iinc 3 1, 3) := by decide +kernel
theorem dX2_merge_61 : decode cX2_merge 61 = .ok (.goto (-59), 3) := by decide +kernel
theorem dX2_merge_64 : decode cX2_merge 64 = .ok (.aload_n 0, 1) := by decide +kernel
theorem dX2_merge_65 : decode cX2_merge 65 = .ok (.bipush 31, 2) := by decide +kernel
theorem dX2_merge_67 : decode cX2_merge 67 = .ok (.iload_n 2, 1) := by decide +kernel
theorem dX2_merge_68 : decode cX2_merge 68 = .ok (.invokestatic 40, 3) := by decide +kernel
theorem dX2_merge_71 : decode cX2_merge 71 = .ok (.isub, 1) := by decide +kernel
theorem dX2_merge_72 : decode cX2_merge 72 = .ok (.invokevirtual 111, 3) := by decide +kernel
theorem dX2_merge_75 : decode cX2_merge 75 = .ok (.aload_n 0, 1) := by decide +kernel
theorem dX2_merge_76 : decode cX2_merge 76 = .ok (.iload_n 2, 1) := by decide +kernel
theorem dX2_merge_77 : decode cX2_merge 77 = .ok (.invokestatic 35, 3) := by decide +kernel
theorem dX2_merge_80 : decode cX2_merge 80 = .ok (.invokevirtual 111, 3) := by decide +kernel
theorem dX2_merge_83 : decode cX2_merge 83 = .ok (.return_, 1) := by decide +kernel
set_option maxRecDepth 20000 in
theorem ggX2_swapColours_X6_holds : GoodIn wsX2_swapColours wsX6_holds := goodIn_r _ [4] (by decide +kernel) (by decide +kernel)
set_option maxRecDepth 20000 in
theorem gX2_swapColours_X6_holds_n50 : GoodIn wsX2_swapColours (wsX6_holds) := ggX2_swapColours_X6_holds
set_option maxRecDepth 20000 in
theorem ggX2_swapColours_X2_colour : GoodIn wsX2_swapColours wsX2_colour := goodIn_r _ [9, 10, 11, 3, 12, 19, 20, 21, 22] (by decide +kernel) (by decide +kernel)
set_option maxRecDepth 20000 in
theorem gX2_swapColours_X2_colour : GoodIn wsX2_swapColours (wsV RX2 47 RX2 yX2_colour wsX2_colour) := goodIn_app (goodIn_of _ (by decide +kernel)) ggX2_swapColours_X2_colour
set_option maxRecDepth 20000 in
theorem ggX2_swapColours_X2_setColour : GoodIn wsX2_swapColours wsX2_setColour := goodIn_r _ [16, 10, 17, 3, 18, 19, 20, 21, 22] (by decide +kernel) (by decide +kernel)
set_option maxRecDepth 20000 in
theorem gX2_swapColours_X2_setColour : GoodIn wsX2_swapColours (wsV RX2 114 RX2 yX2_setColour wsX2_setColour) := goodIn_app (goodIn_of _ (by decide +kernel)) ggX2_swapColours_X2_setColour
theorem dX2_swapColours_0 : decode cX2_swapColours 0 = .ok (.iconst 0, 1) := by decide +kernel
theorem dX2_swapColours_1 : decode cX2_swapColours 1 = .ok (.istore_n 3, 1) := by decide +kernel
theorem dX2_swapColours_2 : decode cX2_swapColours 2 = .ok (.iload_n 3, 1) := by decide +kernel
theorem dX2_swapColours_3 : decode cX2_swapColours 3 = .ok (.aload_n 0, 1) := by decide +kernel
theorem dX2_swapColours_4 : decode cX2_swapColours 4 = .ok (.getfield 15, 3) := by decide +kernel
theorem dX2_swapColours_7 : decode cX2_swapColours 7 = .ok (.if_icmp .ge 29, 3) := by decide +kernel
theorem dX2_swapColours_10 : decode cX2_swapColours 10 = .ok (.iload_n 1, 1) := by decide +kernel
theorem dX2_swapColours_11 : decode cX2_swapColours 11 = .ok (.iload_n 3, 1) := by decide +kernel
theorem dX2_swapColours_12 : decode cX2_swapColours 12 = .ok (.invokestatic 50, 3) := by decide +kernel
theorem dX2_swapColours_15 : decode cX2_swapColours 15 = .ok (.ifCond .eq 15, 3) := by decide +kernel
theorem dX2_swapColours_18 : decode cX2_swapColours 18 = .ok (.aload_n 0, 1) := by decide +kernel
theorem dX2_swapColours_19 : decode cX2_swapColours 19 = .ok (.iload_n 3, 1) := by decide +kernel
theorem dX2_swapColours_20 : decode cX2_swapColours 20 = .ok (.iload_n 2, 1) := by decide +kernel
theorem dX2_swapColours_21 : decode cX2_swapColours 21 = .ok (.aload_n 0, 1) := by decide +kernel
theorem dX2_swapColours_22 : decode cX2_swapColours 22 = .ok (.iload_n 3, 1) := by decide +kernel
theorem dX2_swapColours_23 : decode cX2_swapColours 23 = .ok (.invokevirtual 47, 3) := by decide +kernel
theorem dX2_swapColours_26 : decode cX2_swapColours 26 = .ok (.isub, 1) := by decide +kernel
theorem dX2_swapColours_27 : decode cX2_swapColours 27 = .ok (.invokevirtual 114, 3) := by decide +kernel
theorem dX2_swapColours_30 : decode cX2_swapColours 30 = .ok (.iinc 3 1, 3) := by decide +kernel
theorem dX2_swapColours_33 : decode cX2_swapColours 33 = .ok (.goto (-31), 3) := by decide +kernel
theorem dX2_swapColours_36 : decode cX2_swapColours 36 = .ok (.return_, 1) := by decide +kernel
theorem dX3_init_0 : decode cX3_init 0 = .ok (.aload_n 0, 1) := by decide +kernel
theorem dX3_init_1 : decode cX3_init 1 = .ok (.invokespecial 5, 3) := by decide +kernel
theorem dX3_init_4 : decode cX3_init 4 = .ok (.aload_n 0, 1) := by decide +kernel
theorem dX3_init_5 : decode cX3_init 5 = .ok (.bipush 21, 2) := by decide +kernel
theorem dX3_init_7 : decode cX3_init 7 = .ok (.newarray .int, 2) := by decide +kernel
theorem dX3_init_9 : decode cX3_init 9 = .ok (.putfield 11, 3) := by decide +kernel
theorem dX3_init_12 : decode cX3_init 12 = .ok (.aload_n 0, 1) := by decide +kernel
theorem dX3_init_13 : decode cX3_init 13 = .ok (.bipush 21, 2) := by decide +kernel
theorem dX3_init_15 : decode cX3_init 15 = .ok (.newarray .int, 2) := by decide +kernel
theorem dX3_init_17 : decode cX3_init 17 = .ok (.putfield 17, 3) := by decide +kernel
theorem dX3_init_20 : decode cX3_init 20 = .ok (.aload_n 0, 1) := by decide +kernel
theorem dX3_init_21 : decode cX3_init 21 = .ok (.bipush 21, 2) := by decide +kernel
theorem dX3_init_23 : decode cX3_init 23 = .ok (.newarray .int, 2) := by decide +kernel
theorem dX3_init_25 : decode cX3_init 25 = .ok (.putfield 20, 3) := by decide +kernel
theorem dX3_init_28 : decode cX3_init 28 = .ok (.aload_n 0, 1) := by decide +kernel
theorem dX3_init_29 : decode cX3_init 29 = .ok (.bipush 21, 2) := by decide +kernel
theorem dX3_init_31 : decode cX3_init 31 = .ok (.newarray .int, 2) := by decide +kernel
theorem dX3_init_33 : decode cX3_init 33 = .ok (.putfield 23, 3) := by decide +kernel
theorem dX3_init_36 : decode cX3_init 36 = .ok (.aload_n 0, 1) := by decide +kernel
theorem dX3_init_37 : decode cX3_init 37 = .ok (.bipush 21, 2) := by decide +kernel
theorem dX3_init_39 : decode cX3_init 39 = .ok (.newarray .int, 2) := by decide +kernel
theorem dX3_init_41 : decode cX3_init 41 = .ok (.putfield 26, 3) := by decide +kernel
theorem dX3_init_44 : decode cX3_init 44 = .ok (.aload_n 0, 1) := by decide +kernel
theorem dX3_init_45 : decode cX3_init 45 = .ok (.bipush 21, 2) := by decide +kernel
theorem dX3_init_47 : decode cX3_init 47 = .ok (.newarray .int, 2) := by decide +kernel
theorem dX3_init_49 : decode cX3_init 49 = .ok (.putfield 29, 3) := by decide +kernel
theorem dX3_init_52 : decode cX3_init 52 = .ok (.aload_n 0, 1) := by decide +kernel
theorem dX3_init_53 : decode cX3_init 53 = .ok (.iconst 0, 1) := by decide +kernel
theorem dX3_init_54 : decode cX3_init 54 = .ok (.putfield 32, 3) := by decide +kernel
theorem dX3_init_57 : decode cX3_init 57 = .ok (.aload_n 0, 1) := by decide +kernel
theorem dX3_init_58 : decode cX3_init 58 = .ok (.iconst 0, 1) := by decide +kernel
theorem dX3_init_59 : decode cX3_init 59 = .ok (.putfield 36, 3) := by decide +kernel
theorem dX3_init_62 : decode cX3_init 62 = .ok (.return_, 1) := by decide +kernel
set_option maxRecDepth 20000 in
theorem ggX3_foundColour_X6_at : GoodIn wsX3_foundColour wsX6_at := goodIn_r _ [4] (by decide +kernel) (by decide +kernel)
set_option maxRecDepth 20000 in
theorem gX3_foundColour_X6_at_n39 : GoodIn wsX3_foundColour (wsX6_at) := ggX3_foundColour_X6_at
theorem dX3_foundColour_0 : decode cX3_foundColour 0 = .ok (.aload_n 0, 1) := by decide +kernel
theorem dX3_foundColour_1 : decode cX3_foundColour 1 = .ok (.getfield 29, 3) := by decide +kernel
theorem dX3_foundColour_4 : decode cX3_foundColour 4 = .ok (.iload_n 1, 1) := by decide +kernel
theorem dX3_foundColour_5 : decode cX3_foundColour 5 = .ok (.invokestatic 39, 3) := by decide +kernel
theorem dX3_foundColour_8 : decode cX3_foundColour 8 = .ok (.ireturn, 1) := by decide +kernel
set_option maxRecDepth 20000 in
theorem ggX3_isPaintable_X2_allThreads : GoodIn wsX3_isPaintable wsX2_allThreads := goodIn_r _ [5, 6, 7, 8, 9, 93, 94, 95, 96] (by decide +kernel) (by decide +kernel)
set_option maxRecDepth 20000 in
theorem gX3_isPaintable_X2_allThreads : GoodIn wsX3_isPaintable (wsV RX3 43 RX2 yX2_allThreads wsX2_allThreads) := goodIn_app (goodIn_of _ (by decide +kernel)) ggX3_isPaintable_X2_allThreads
set_option maxRecDepth 20000 in
theorem ggX3_isPaintable_X3_arrange : GoodIn wsX3_isPaintable wsX3_arrange := goodIn_r _ [14, 15, 16, 17, 18, 19, 20, 4, 21, 6, 22, 23, 24, 25, 26, 27, 8, 28, 29, 30, 31, 32, 33, 7, 9, 34, 35, 36, 37, 38, 13, 39, 40, 41, 42, 43, 44, 45, 46, 47, 48, 49, 50, 51, 52, 53, 54, 55, 56, 57, 58, 59, 60, 61, 62, 63, 64, 65, 66, 67, 68, 69, 70, 71, 97, 98, 99, 100, 101, 102, 103, 104, 93, 94, 95, 96] (by decide +kernel) (by decide +kernel)
set_option maxRecDepth 20000 in
theorem gX3_isPaintable_X3_arrange : GoodIn wsX3_isPaintable (wsV RX3 49 RX3 yX3_arrange wsX3_arrange) := goodIn_app (goodIn_of _ (by decide +kernel)) ggX3_isPaintable_X3_arrange
set_option maxRecDepth 20000 in
theorem ggX3_isPaintable_X3_ways : GoodIn wsX3_isPaintable wsX3_ways := goodIn_r _ [75, 17, 43, 27, 8, 28, 76, 77, 78, 13, 79, 40, 41, 42, 80, 81, 82, 83, 84, 85, 86, 87, 88, 89, 48, 49, 90, 91, 92, 97, 98, 99, 100, 101, 102, 103, 104] (by decide +kernel) (by decide +kernel)
set_option maxRecDepth 20000 in
theorem gX3_isPaintable_X3_ways : GoodIn wsX3_isPaintable (wsV RX3 53 RX3 yX3_ways wsX3_ways) := goodIn_app (goodIn_of _ (by decide +kernel)) ggX3_isPaintable_X3_ways
theorem dX3_isPaintable_0 : decode cX3_isPaintable 0 = .ok (.aload_n 0, 1) := by decide +kernel
theorem dX3_isPaintable_1 : decode cX3_isPaintable 1 = .ok (.aload_n 1, 1) := by decide +kernel
theorem dX3_isPaintable_2 : decode cX3_isPaintable 2 = .ok (.aload_n 1, 1) := by decide +kernel
theorem dX3_isPaintable_3 : decode cX3_isPaintable 3 = .ok (.invokevirtual 43, 3) := by decide +kernel
theorem dX3_isPaintable_6 : decode cX3_isPaintable 6 = .ok (.invokevirtual 49, 3) := by decide +kernel
theorem dX3_isPaintable_9 : decode cX3_isPaintable 9 = .ok (.aload_n 0, 1) := by decide +kernel
theorem dX3_isPaintable_10 : decode cX3_isPaintable 10 = .ok (.lconst 0, 1) := by decide +kernel
theorem dX3_isPaintable_11 : decode cX3_isPaintable 11 = .ok (.iconst 0, 1) := by decide +kernel
theorem dX3_isPaintable_12 : decode cX3_isPaintable 12 = .ok (.iconst 1, 1) := by decide +kernel
theorem dX3_isPaintable_13 : decode cX3_isPaintable 13 = .ok (.invokevirtual 53, 3) := by decide +kernel
theorem dX3_isPaintable_16 : decode cX3_isPaintable 16 = .ok (.ifCond .le 7, 3) := by decide +kernel
theorem dX3_isPaintable_19 : decode cX3_isPaintable 19 = .ok (.iconst 1, 1) := by decide +kernel
theorem dX3_isPaintable_20 : decode cX3_isPaintable 20 = .ok (.goto 4, 3) := by decide +kernel
theorem dX3_isPaintable_23 : decode cX3_isPaintable 23 = .ok (.iconst 0, 1) := by decide +kernel
theorem dX3_isPaintable_24 : decode cX3_isPaintable 24 = .ok (.ireturn, 1) := by decide +kernel
set_option maxRecDepth 20000 in
theorem ggX3_howMany_X3_usedColours : GoodIn wsX3_howMany wsX3_usedColours := goodIn_r _ [6, 1, 7, 8, 9, 10, 11, 12, 13, 14, 15, 16, 17, 18, 19, 20, 21, 22, 23, 24, 25, 26, 27, 5, 28, 29, 30, 31, 32, 33, 34, 35, 36, 37, 38, 39, 113, 114, 115, 116] (by decide +kernel) (by decide +kernel)
set_option maxRecDepth 20000 in
theorem gX3_howMany_X3_usedColours : GoodIn wsX3_howMany (va_wsS RX3 57 yX3_usedColours wsX3_usedColours) := goodIn_app (goodIn_of _ (by decide +kernel)) ggX3_howMany_X3_usedColours
set_option maxRecDepth 20000 in
theorem ggX3_howMany_X2_coloured : GoodIn wsX3_howMany wsX2_coloured := goodIn_r _ [43, 12, 44, 14, 15, 10, 16, 17, 18, 19, 20, 45, 46, 113, 114, 115, 116] (by decide +kernel) (by decide +kernel)
set_option maxRecDepth 20000 in
theorem gX3_howMany_X2_coloured : GoodIn wsX3_howMany (wsV RX3 63 RX2 yX2_coloured wsX2_coloured) := goodIn_app (goodIn_of _ (by decide +kernel)) ggX3_howMany_X2_coloured
set_option maxRecDepth 20000 in
theorem ggX3_howMany_X2_allThreads : GoodIn wsX3_howMany wsX2_allThreads := goodIn_r _ [50, 12, 45, 19, 46, 113, 114, 115, 116] (by decide +kernel) (by decide +kernel)
set_option maxRecDepth 20000 in
theorem gX3_howMany_X2_allThreads : GoodIn wsX3_howMany (wsV RX3 43 RX2 yX2_allThreads wsX2_allThreads) := goodIn_app (goodIn_of _ (by decide +kernel)) ggX3_howMany_X2_allThreads
set_option maxRecDepth 20000 in
theorem ggX3_howMany_X3_arrange : GoodIn wsX3_howMany wsX3_arrange := goodIn_r _ [54, 55, 56, 57, 7, 8, 9, 10, 11, 12, 21, 22, 23, 24, 25, 18, 19, 20, 58, 59, 60, 61, 62, 45, 46, 63, 64, 65, 66, 67, 5, 68, 69, 70, 71, 72, 73, 74, 75, 76, 77, 78, 79, 80, 31, 81, 82, 83, 84, 85, 86, 87, 88, 89, 30, 32, 33, 90, 91, 92, 93, 94, 35, 36, 117, 118, 119, 120, 121, 122, 123, 124, 113, 114, 115, 116] (by decide +kernel) (by decide +kernel)
set_option maxRecDepth 20000 in
theorem gX3_howMany_X3_arrange : GoodIn wsX3_howMany (wsV RX3 49 RX3 yX3_arrange wsX3_arrange) := goodIn_app (goodIn_of _ (by decide +kernel)) ggX3_howMany_X3_arrange
set_option maxRecDepth 20000 in
theorem ggX3_howMany_X3_ways : GoodIn wsX3_howMany wsX3_ways := goodIn_r _ [98, 57, 72, 18, 19, 20, 99, 100, 101, 5, 102, 69, 70, 71, 103, 104, 105, 106, 107, 108, 109, 110, 111, 112, 77, 78, 37, 38, 39, 117, 118, 119, 120, 121, 122, 123, 124] (by decide +kernel) (by decide +kernel)
set_option maxRecDepth 20000 in
theorem gX3_howMany_X3_ways : GoodIn wsX3_howMany (wsV RX3 53 RX3 yX3_ways wsX3_ways) := goodIn_app (goodIn_of _ (by decide +kernel)) ggX3_howMany_X3_ways
theorem dX3_howMany_0 : decode cX3_howMany 0 = .ok (.iload_n 2, 1) := by decide +kernel
theorem dX3_howMany_1 : decode cX3_howMany 1 = .ok (.ifCond .eq 10, 3) := by decide +kernel
theorem dX3_howMany_4 : decode cX3_howMany 4 = .ok (.aload_n 1, 1) := by decide +kernel
theorem dX3_howMany_5 : decode cX3_howMany 5 = .ok (.invokestatic 57, 3) := by decide +kernel
theorem dX3_howMany_8 : decode cX3_howMany 8 = .ok (.goto 4, 3) := by decide +kernel
theorem dX3_howMany_11 : decode cX3_howMany 11 = .ok (.lconst 0, 1) := by decide +kernel
theorem dX3_howMany_12 : decode cX3_howMany 12 = .ok (.lstore_n 3, 1) := by decide +kernel
theorem dX3_howMany_13 : decode cX3_howMany 13 = .ok (.lload_n 3, 1) := by decide +kernel
theorem dX3_howMany_14 : decode cX3_howMany 14 = .ok (.ldc2_w 61, 3) := by decide +kernel
theorem dX3_howMany_17 : decode cX3_howMany 17 = .ok (.lcmp, 1) := by decide +kernel
theorem dX3_howMany_18 : decode cX3_howMany 18 = .ok (.ifCond .ne 5, 3) := by decide +kernel
theorem dX3_howMany_21 : decode cX3_howMany 21 = .ok (.iconst 0, 1) := by decide +kernel
theorem dX3_howMany_22 : decode cX3_howMany 22 = .ok (.ireturn, 1) := by decide +kernel
theorem dX3_howMany_23 : decode cX3_howMany 23 = .ok (.aload_n 0, 1) := by decide +kernel
theorem dX3_howMany_24 : decode cX3_howMany 24 = .ok (.aload_n 1, 1) := by decide +kernel
theorem dX3_howMany_25 : decode cX3_howMany 25 = .ok (.iload_n 2, 1) := by decide +kernel
theorem dX3_howMany_26 : decode cX3_howMany 26 = .ok (.ifCond .eq 11, 3) := by decide +kernel
theorem dX3_howMany_29 : decode cX3_howMany 29 = .ok (.aload_n 1, 1) := by decide +kernel
theorem dX3_howMany_30 : decode cX3_howMany 30 = .ok (.iconst 3, 1) := by decide +kernel
theorem dX3_howMany_31 : decode cX3_howMany 31 = .ok (.invokevirtual 63, 3) := by decide +kernel
theorem dX3_howMany_34 : decode cX3_howMany 34 = .ok (.goto 7, 3) := by decide +kernel
theorem dX3_howMany_37 : decode cX3_howMany 37 = .ok (.aload_n 1, 1) := by decide +kernel
theorem dX3_howMany_38 : decode cX3_howMany 38 = .ok (.invokevirtual 43, 3) := by decide +kernel
theorem dX3_howMany_41 : decode cX3_howMany 41 = .ok (.invokevirtual 49, 3) := by decide +kernel
theorem dX3_howMany_44 : decode cX3_howMany 44 = .ok (.aload_n 0, 1) := by decide +kernel
theorem dX3_howMany_45 : decode cX3_howMany 45 = .ok (.lload_n 3, 1) := by decide +kernel
theorem dX3_howMany_46 : decode cX3_howMany 46 = .ok (.iconst 0, 1) := by decide +kernel
theorem dX3_howMany_47 : decode cX3_howMany 47 = .ok (.ldc 67, 2) := by decide +kernel
theorem dX3_howMany_49 : decode cX3_howMany 49 = .ok (.invokevirtual 53, 3) := by decide +kernel
theorem dX3_howMany_52 : decode cX3_howMany 52 = .ok (.ireturn, 1) := by decide +kernel
set_option maxRecDepth 20000 in
theorem ggX3_findFirst_X3_usedColours : GoodIn wsX3_findFirst wsX3_usedColours := goodIn_r _ [6, 1, 7, 8, 9, 10, 11, 12, 13, 14, 15, 16, 17, 18, 19, 20, 21, 22, 23, 24, 25, 26, 27, 5, 28, 29, 30, 31, 32, 33, 34, 35, 36, 37, 38, 39, 125, 126, 127, 128] (by decide +kernel) (by decide +kernel)
set_option maxRecDepth 20000 in
theorem gX3_findFirst_X3_usedColours : GoodIn wsX3_findFirst (va_wsS RX3 57 yX3_usedColours wsX3_usedColours) := goodIn_app (goodIn_of _ (by decide +kernel)) ggX3_findFirst_X3_usedColours
set_option maxRecDepth 20000 in
theorem ggX3_findFirst_X2_coloured : GoodIn wsX3_findFirst wsX2_coloured := goodIn_r _ [43, 12, 44, 14, 15, 10, 16, 17, 18, 19, 20, 45, 46, 125, 126, 127, 128] (by decide +kernel) (by decide +kernel)
set_option maxRecDepth 20000 in
theorem gX3_findFirst_X2_coloured : GoodIn wsX3_findFirst (wsV RX3 63 RX2 yX2_coloured wsX2_coloured) := goodIn_app (goodIn_of _ (by decide +kernel)) ggX3_findFirst_X2_coloured
set_option maxRecDepth 20000 in
theorem ggX3_findFirst_X2_allThreads : GoodIn wsX3_findFirst wsX2_allThreads := goodIn_r _ [50, 12, 45, 19, 46, 125, 126, 127, 128] (by decide +kernel) (by decide +kernel)
set_option maxRecDepth 20000 in
theorem gX3_findFirst_X2_allThreads : GoodIn wsX3_findFirst (wsV RX3 43 RX2 yX2_allThreads wsX2_allThreads) := goodIn_app (goodIn_of _ (by decide +kernel)) ggX3_findFirst_X2_allThreads
set_option maxRecDepth 20000 in
theorem ggX3_findFirst_X3_arrange : GoodIn wsX3_findFirst wsX3_arrange := goodIn_r _ [54, 55, 56, 57, 7, 8, 9, 10, 11, 12, 21, 22, 23, 24, 25, 18, 19, 20, 58, 59, 60, 61, 62, 45, 46, 63, 64, 65, 66, 67, 5, 68, 69, 70, 71, 72, 73, 74, 75, 76, 77, 78, 79, 80, 31, 81, 82, 83, 84, 85, 86, 87, 88, 89, 30, 32, 33, 90, 91, 92, 93, 94, 35, 36, 117, 118, 119, 120, 121, 122, 123, 124, 125, 126, 127, 128] (by decide +kernel) (by decide +kernel)
set_option maxRecDepth 20000 in
theorem gX3_findFirst_X3_arrange : GoodIn wsX3_findFirst (wsV RX3 49 RX3 yX3_arrange wsX3_arrange) := goodIn_app (goodIn_of _ (by decide +kernel)) ggX3_findFirst_X3_arrange
set_option maxRecDepth 20000 in
theorem ggX3_findFirst_X3_ways : GoodIn wsX3_findFirst wsX3_ways := goodIn_r _ [98, 57, 72, 18, 19, 20, 99, 100, 101, 5, 102, 69, 70, 71, 103, 104, 105, 106, 107, 108, 109, 110, 111, 112, 77, 78, 37, 38, 39, 117, 118, 119, 120, 121, 122, 123, 124] (by decide +kernel) (by decide +kernel)
set_option maxRecDepth 20000 in
theorem gX3_findFirst_X3_ways : GoodIn wsX3_findFirst (wsV RX3 53 RX3 yX3_ways wsX3_ways) := goodIn_app (goodIn_of _ (by decide +kernel)) ggX3_findFirst_X3_ways
set_option maxRecDepth 20000 in
theorem ggX3_findFirst_X2_threads : GoodIn wsX3_findFirst wsX2_threads := goodIn_r _ [11, 12, 125, 126, 127, 128] (by decide +kernel) (by decide +kernel)
set_option maxRecDepth 20000 in
theorem gX3_findFirst_X2_threads : GoodIn wsX3_findFirst (wsV RX3 68 RX2 yX2_threads wsX2_threads) := goodIn_app (goodIn_of _ (by decide +kernel)) ggX3_findFirst_X2_threads
set_option maxRecDepth 20000 in
theorem ggX3_findFirst_X2_colour : GoodIn wsX3_findFirst wsX2_colour := goodIn_r _ [16, 17, 18, 19, 20, 125, 126, 127, 128] (by decide +kernel) (by decide +kernel)
set_option maxRecDepth 20000 in
theorem gX3_findFirst_X2_colour : GoodIn wsX3_findFirst (wsV RX3 71 RX2 yX2_colour wsX2_colour) := goodIn_app (goodIn_of _ (by decide +kernel)) ggX3_findFirst_X2_colour
set_option maxRecDepth 20000 in
theorem ggX3_findFirst_X6_holds : GoodIn wsX3_findFirst wsX6_holds := goodIn_r _ [78] (by decide +kernel) (by decide +kernel)
set_option maxRecDepth 20000 in
theorem gX3_findFirst_X6_holds_n74 : GoodIn wsX3_findFirst (wsX6_holds) := ggX3_findFirst_X6_holds
set_option maxRecDepth 20000 in
theorem ggX3_findFirst_X6_bit : GoodIn wsX3_findFirst wsX6_bit := goodIn_r _ [46] (by decide +kernel) (by decide +kernel)
set_option maxRecDepth 20000 in
theorem gX3_findFirst_X6_bit_n78 : GoodIn wsX3_findFirst (wsX6_bit) := ggX3_findFirst_X6_bit
set_option maxRecDepth 20000 in
theorem ggX3_findFirst_X2_ends : GoodIn wsX3_findFirst wsX2_ends := goodIn_r _ [24, 25, 18, 19, 20, 125, 126, 127, 128] (by decide +kernel) (by decide +kernel)
set_option maxRecDepth 20000 in
theorem gX3_findFirst_X2_ends : GoodIn wsX3_findFirst (wsV RX3 81 RX2 yX2_ends wsX2_ends) := goodIn_app (goodIn_of _ (by decide +kernel)) ggX3_findFirst_X2_ends
set_option maxRecDepth 20000 in
theorem ggX3_findFirst_X3_lowestColour : GoodIn wsX3_findFirst wsX3_lowestColour := goodIn_r _ [116, 26, 27, 5, 28, 29, 30, 31, 32, 33, 34, 35, 36, 37, 38, 39, 95, 96, 97, 98, 57, 72, 18, 19, 20, 99, 100, 101, 102, 69, 70, 71, 103, 104, 105, 106, 107, 108, 109, 110, 111, 112, 77, 78, 117, 118, 119, 120, 121, 122, 123, 124] (by decide +kernel) (by decide +kernel)
set_option maxRecDepth 20000 in
theorem gX3_findFirst_X3_lowestColour : GoodIn wsX3_findFirst (wsV RX3 84 RX3 yX3_lowestColour wsX3_lowestColour) := goodIn_app (goodIn_of _ (by decide +kernel)) ggX3_findFirst_X3_lowestColour
set_option maxRecDepth 20000 in
theorem ggX3_findFirst_X3_usedBy : GoodIn wsX3_findFirst wsX3_usedBy := goodIn_r _ [28, 29, 30, 31, 32, 33, 34, 35, 36, 37, 38, 5, 39] (by decide +kernel) (by decide +kernel)
set_option maxRecDepth 20000 in
theorem gX3_findFirst_X3_usedBy : GoodIn wsX3_findFirst (va_wsS RX3 88 yX3_usedBy wsX3_usedBy) := goodIn_app (goodIn_of _ (by decide +kernel)) ggX3_findFirst_X3_usedBy
set_option maxRecDepth 20000 in
theorem ggX3_findFirst_X6_put : GoodIn wsX3_findFirst wsX6_put := goodIn_r _ [64] (by decide +kernel) (by decide +kernel)
set_option maxRecDepth 20000 in
theorem gX3_findFirst_X6_put_n92 : GoodIn wsX3_findFirst (wsX6_put) := ggX3_findFirst_X6_put
theorem dX3_findFirst_0 : decode cX3_findFirst 0 = .ok (.iload_n 2, 1) := by decide +kernel
theorem dX3_findFirst_1 : decode cX3_findFirst 1 = .ok (.ifCond .eq 10, 3) := by decide +kernel
theorem dX3_findFirst_4 : decode cX3_findFirst 4 = .ok (.aload_n 1, 1) := by decide +kernel
theorem dX3_findFirst_5 : decode cX3_findFirst 5 = .ok (.invokestatic 57, 3) := by decide +kernel
theorem dX3_findFirst_8 : decode cX3_findFirst 8 = .ok (.goto 4, 3) := by decide +kernel
theorem dX3_findFirst_11 : decode cX3_findFirst 11 = .ok (.lconst 0, 1) := by decide +kernel
theorem dX3_findFirst_12 : decode cX3_findFirst 12 = .ok (.lstore_n 3, 1) := by decide +kernel
theorem dX3_findFirst_13 : decode cX3_findFirst 13 = .ok (.lload_n 3, 1) := by decide +kernel
theorem dX3_findFirst_14 : decode cX3_findFirst 14 = .ok (.ldc2_w 61, 3) := by decide +kernel
theorem dX3_findFirst_17 : decode cX3_findFirst 17 = .ok (.lcmp, 1) := by decide +kernel
theorem dX3_findFirst_18 : decode cX3_findFirst 18 = .ok (.ifCond .ne 5, 3) := by decide +kernel
theorem dX3_findFirst_21 : decode cX3_findFirst 21 = .ok (.iconst 0, 1) := by decide +kernel
theorem dX3_findFirst_22 : decode cX3_findFirst 22 = .ok (.ireturn, 1) := by decide +kernel
theorem dX3_findFirst_23 : decode cX3_findFirst 23 = .ok (.iload_n 2, 1) := by decide +kernel
theorem dX3_findFirst_24 : decode cX3_findFirst 24 = .ok (.ifCond .eq 11, 3) := by decide +kernel
theorem dX3_findFirst_27 : decode cX3_findFirst 27 = .ok (.aload_n 1, 1) := by decide +kernel
theorem dX3_findFirst_28 : decode cX3_findFirst 28 = .ok (.iconst 3, 1) := by decide +kernel
theorem dX3_findFirst_29 : decode cX3_findFirst 29 = .ok (.invokevirtual 63, 3) := by decide +kernel
theorem dX3_findFirst_32 : decode cX3_findFirst 32 = .ok (.goto 7, 3) := by decide +kernel
theorem dX3_findFirst_35 : decode cX3_findFirst 35 = .ok (.aload_n 1, 1) := by decide +kernel
theorem dX3_findFirst_36 : decode cX3_findFirst 36 = .ok (.invokevirtual 43, 3) := by decide +kernel
theorem dX3_findFirst_39 : decode cX3_findFirst 39 = .ok (.istore 5, 2) := by decide +kernel
theorem dX3_findFirst_41 : decode cX3_findFirst 41 = .ok (.aload_n 0, 1) := by decide +kernel
theorem dX3_findFirst_42 : decode cX3_findFirst 42 = .ok (.aload_n 1, 1) := by decide +kernel
theorem dX3_findFirst_43 : decode cX3_findFirst 43 = .ok (.iload 5, 2) := by decide +kernel
theorem dX3_findFirst_45 : decode cX3_findFirst 45 = .ok (.invokevirtual 49, 3) := by decide +kernel
theorem dX3_findFirst_48 : decode cX3_findFirst 48 = .ok (.aload_n 0, 1) := by decide +kernel
theorem dX3_findFirst_49 : decode cX3_findFirst 49 = .ok (.lload_n 3, 1) := by decide +kernel
theorem dX3_findFirst_50 : decode cX3_findFirst 50 = .ok (.iconst 0, 1) := by decide +kernel
theorem dX3_findFirst_51 : decode cX3_findFirst 51 = .ok (.iconst 1, 1) := by decide +kernel
theorem dX3_findFirst_52 : decode cX3_findFirst 52 = .ok (.invokevirtual 53, 3) := by decide +kernel
theorem dX3_findFirst_55 : decode cX3_findFirst 55 = .ok (.ifCond .ne 5, 3) := by decide +kernel
theorem dX3_findFirst_58 : decode cX3_findFirst 58 = .ok (.iconst 0, 1) := by decide +kernel
theorem dX3_findFirst_59 : decode cX3_findFirst 59 = .ok (.ireturn, 1) := by decide +kernel
theorem dX3_findFirst_60 : decode cX3_findFirst 60 = .ok (.iconst 0, 1) := by decide +kernel
theorem dX3_findFirst_61 : decode cX3_findFirst 61 = .ok (.istore 6, 2) := by decide +kernel
theorem dX3_findFirst_63 : decode cX3_findFirst 63 = .ok (.iconst 0, 1) := by decide +kernel
theorem dX3_findFirst_64 : decode cX3_findFirst 64 = .ok (.istore 7, 2) := by decide +kernel
theorem dX3_findFirst_66 : decode cX3_findFirst 66 = .ok (.iload 7, 2) := by decide +kernel
theorem dX3_findFirst_68 : decode cX3_findFirst 68 = .ok (.aload_n 1, 1) := by decide +kernel
theorem dX3_findFirst_69 : decode cX3_findFirst 69 = .ok (.invokevirtual 68, 3) := by decide +kernel
theorem dX3_findFirst_72 : decode cX3_findFirst 72 = .ok (.if_icmp .ge 77, 3) := by decide +kernel
theorem dX3_findFirst_75 : decode cX3_findFirst 75 = .ok (.aload_n 1, 1) := by decide +kernel
theorem dX3_findFirst_76 : decode cX3_findFirst 76 = .ok (.iload 7, 2) := by decide +kernel
theorem dX3_findFirst_78 : decode cX3_findFirst 78 = .ok (.invokevirtual 71, 3) := by decide +kernel
theorem dX3_findFirst_81 : decode cX3_findFirst 81 = .ok (.istore 8, 2) := by decide +kernel
theorem dX3_findFirst_83 : decode cX3_findFirst 83 = .ok (.iload 5, 2) := by decide +kernel
theorem dX3_findFirst_85 : decode cX3_findFirst 85 = .ok (.iload 7, 2) := by decide +kernel
theorem dX3_findFirst_87 : decode cX3_findFirst 87 = .ok (.invokestatic 74, 3) := by decide +kernel
theorem dX3_findFirst_90 : decode cX3_findFirst 90 = .ok (.ifCond .eq 42, 3) := by decide +kernel
theorem dX3_findFirst_93 : decode cX3_findFirst 93 = .ok (.iload 6, 2) := by decide +kernel
theorem dX3_findFirst_95 : decode cX3_findFirst 95 = .ok (.iload 7, 2) := by decide +kernel
theorem dX3_findFirst_97 : decode cX3_findFirst 97 = .ok (.invokestatic 78, 3) := by decide +kernel
theorem dX3_findFirst_100 : decode cX3_findFirst 100 = .ok (.ior, 1) := by decide +kernel
theorem dX3_findFirst_101 : decode cX3_findFirst 101 = .ok (.istore 6, 2) := by decide +kernel
theorem dX3_findFirst_103 : decode cX3_findFirst 103 = .ok (.aload_n 0, 1) := by decide +kernel
theorem dX3_findFirst_104 : decode cX3_findFirst 104 = .ok (.aload_n 1, 1) := by decide +kernel
theorem dX3_findFirst_105 : decode cX3_findFirst 105 = .ok (.iload 7, 2) := by decide +kernel
theorem dX3_findFirst_107 : decode cX3_findFirst 107 = .ok (.invokevirtual 81, 3) := by decide +kernel
theorem dX3_findFirst_110 : decode cX3_findFirst 110 = .ok (.lload_n 3, 1) := by decide +kernel
theorem dX3_findFirst_111 : decode cX3_findFirst 111 = .ok (.iload 6, 2) := by decide +kernel
theorem dX3_findFirst_113 : decode cX3_findFirst 113 = .ok (.invokevirtual 84, 3) := by decide +kernel
theorem dX3_findFirst_116 : decode cX3_findFirst 116 = .ok (.istore 8, 2) := by decide +kernel
theorem dX3_findFirst_118 : decode cX3_findFirst 118 = .ok (.lload_n 3, 1) := by decide +kernel
theorem dX3_findFirst_119 : decode cX3_findFirst 119 = .ok (.aload_n 1, 1) := by decide +kernel
theorem dX3_findFirst_120 : decode cX3_findFirst 120 = .ok (.iload 7, 2) := by decide +kernel
theorem dX3_findFirst_122 : decode cX3_findFirst 122 = .ok (.invokevirtual 81, 3) := by decide +kernel
theorem dX3_findFirst_125 : decode cX3_findFirst 125 = .ok (.iload 8, 2) := by decide +kernel
theorem dX3_findFirst_127 : decode cX3_findFirst 127 = .ok (.invokestatic 88, 3) := by decide +kernel
theorem dX3_findFirst_130 : decode cX3_findFirst 130 = .ok (.lor, 1) := by decide +kernel
theorem dX3_findFirst_131 : decode cX3_findFirst 131 = .ok (.lstore_n 3, 1) := by decide +kernel
theorem dX3_findFirst_132 : decode cX3_findFirst 132 = .ok (.aload_n 0, 1) := by decide +kernel
theorem dX3_findFirst_133 : decode cX3_findFirst 133 = .ok (.getfield 29, 3) := by decide +kernel
theorem dX3_findFirst_136 : decode cX3_findFirst 136 = .ok (.iload 7, 2) := by decide +kernel
theorem dX3_findFirst_138 : decode cX3_findFirst 138 = .ok (.iload 8, 2) := by decide +kernel
theorem dX3_findFirst_140 : decode cX3_findFirst 140 = .ok (.invokestatic 92, 3) := by decide +kernel
theorem dX3_findFirst_143 : decode cX3_findFirst 143 = .ok (.iinc 7 1, 3) := by decide +kernel
theorem dX3_findFirst_146 : decode cX3_findFirst 146 = .ok (.goto (-80), 3) := by decide +kernel
theorem dX3_findFirst_149 : decode cX3_findFirst 149 = .ok (.iconst 1, 1) := by decide +kernel
theorem dX3_findFirst_150 : decode cX3_findFirst 150 = .ok (.ireturn, 1) := by decide +kernel
set_option maxRecDepth 20000 in
theorem ggX3_lowestColour_X3_usedBy : GoodIn wsX3_lowestColour wsX3_usedBy := goodIn_r _ [4, 5, 6, 7, 8, 9, 10, 11, 12, 13, 14, 3, 15] (by decide +kernel) (by decide +kernel)
set_option maxRecDepth 20000 in
theorem gX3_lowestColour_X3_usedBy : GoodIn wsX3_lowestColour (va_wsS RX3 88 yX3_usedBy wsX3_usedBy) := goodIn_app (goodIn_of _ (by decide +kernel)) ggX3_lowestColour_X3_usedBy
set_option maxRecDepth 20000 in
theorem ggX3_lowestColour_X3_ways : GoodIn wsX3_lowestColour wsX3_ways := goodIn_r _ [19, 20, 21, 22, 23, 24, 25, 26, 27, 3, 28, 29, 30, 31, 32, 33, 34, 35, 36, 37, 38, 39, 40, 41, 42, 43, 13, 14, 15, 44, 45, 46, 47, 48, 49, 50, 51] (by decide +kernel) (by decide +kernel)
set_option maxRecDepth 20000 in
theorem gX3_lowestColour_X3_ways : GoodIn wsX3_lowestColour (wsV RX3 53 RX3 yX3_ways wsX3_ways) := goodIn_app (goodIn_of _ (by decide +kernel)) ggX3_lowestColour_X3_ways
theorem dX3_lowestColour_0 : decode cX3_lowestColour 0 = .ok (.iconst 0, 1) := by decide +kernel
theorem dX3_lowestColour_1 : decode cX3_lowestColour 1 = .ok (.istore 5, 2) := by decide +kernel
theorem dX3_lowestColour_3 : decode cX3_lowestColour 3 = .ok (.iload 5, 2) := by decide +kernel
theorem dX3_lowestColour_5 : decode cX3_lowestColour 5 = .ok (.iconst 2, 1) := by decide +kernel
theorem dX3_lowestColour_6 : decode cX3_lowestColour 6 = .ok (.if_icmp .ge 43, 3) := by decide +kernel
theorem dX3_lowestColour_9 : decode cX3_lowestColour 9 = .ok (.iload_n 1, 1) := by decide +kernel
theorem dX3_lowestColour_10 : decode cX3_lowestColour 10 = .ok (.iload 5, 2) := by decide +kernel
theorem dX3_lowestColour_12 : decode cX3_lowestColour 12 = .ok (.invokestatic 88, 3) := by decide +kernel
theorem dX3_lowestColour_15 : decode cX3_lowestColour 15 = .ok (.lstore 6, 2) := by decide +kernel
theorem dX3_lowestColour_17 : decode cX3_lowestColour 17 = .ok (.lload_n 2, 1) := by decide +kernel
theorem dX3_lowestColour_18 : decode cX3_lowestColour 18 = .ok (.lload 6, 2) := by decide +kernel
theorem dX3_lowestColour_20 : decode cX3_lowestColour 20 = .ok (.land, 1) := by decide +kernel
theorem dX3_lowestColour_21 : decode cX3_lowestColour 21 = .ok (.lconst 0, 1) := by decide +kernel
theorem dX3_lowestColour_22 : decode cX3_lowestColour 22 = .ok (.lcmp, 1) := by decide +kernel
theorem dX3_lowestColour_23 : decode cX3_lowestColour 23 = .ok (.ifCond .ne 20, 3) := by decide +kernel
theorem dX3_lowestColour_26 : decode cX3_lowestColour 26 = .ok (.aload_n 0, 1) := by decide +kernel
theorem dX3_lowestColour_27 : decode cX3_lowestColour 27 = .ok (.lload_n 2, 1) := by decide +kernel
theorem dX3_lowestColour_28 : decode cX3_lowestColour 28 = .ok (.lload 6, 2) := by decide +kernel
theorem dX3_lowestColour_30 : decode cX3_lowestColour 30 = .ok (.lor, 1) := by decide +kernel
theorem dX3_lowestColour_31 : decode cX3_lowestColour 31 = .ok (.iload 4, 2) := by decide +kernel
theorem dX3_lowestColour_33 : decode cX3_lowestColour 33 = .ok (.iconst 1, 1) := by decide +kernel
theorem dX3_lowestColour_34 : decode cX3_lowestColour 34 = .ok (.invokevirtual 53, 3) := by decide +kernel
theorem dX3_lowestColour_37 : decode cX3_lowestColour 37 = .ok (.ifCond .le 6, 3) := by decide +kernel
theorem dX3_lowestColour_40 : decode cX3_lowestColour 40 = .ok (.iload 5, 2) := by decide +kernel
theorem dX3_lowestColour_42 : decode cX3_lowestColour 42 = .ok (.ireturn, 1) := by decide +kernel
theorem dX3_lowestColour_43 : decode cX3_lowestColour 43 = .ok (.iinc 5 1, 3) := by decide +kernel
theorem dX3_lowestColour_46 : decode cX3_lowestColour 46 = .ok (.goto (-43), 3) := by decide +kernel
theorem dX3_lowestColour_49 : decode cX3_lowestColour 49 = .ok (.iconst 2, 1) := by decide +kernel
theorem dX3_lowestColour_50 : decode cX3_lowestColour 50 = .ok (.ireturn, 1) := by decide +kernel
set_option maxRecDepth 20000 in
theorem ggX3_firstLeastSet_X2_allThreads : GoodIn wsX3_firstLeastSet wsX2_allThreads := goodIn_r _ [6, 7, 8, 9, 10, 98, 99, 100, 101] (by decide +kernel) (by decide +kernel)
set_option maxRecDepth 20000 in
theorem gX3_firstLeastSet_X2_allThreads : GoodIn wsX3_firstLeastSet (wsV RX3 43 RX2 yX2_allThreads wsX2_allThreads) := goodIn_app (goodIn_of _ (by decide +kernel)) ggX3_firstLeastSet_X2_allThreads
set_option maxRecDepth 20000 in
theorem ggX3_firstLeastSet_X3_arrange : GoodIn wsX3_firstLeastSet wsX3_arrange := goodIn_r _ [15, 16, 17, 18, 19, 20, 21, 5, 22, 7, 23, 24, 25, 26, 27, 28, 9, 29, 30, 31, 32, 33, 34, 8, 10, 35, 36, 37, 38, 39, 14, 40, 41, 42, 43, 44, 45, 46, 47, 48, 49, 50, 51, 52, 53, 54, 55, 56, 57, 58, 59, 60, 61, 62, 63, 64, 65, 66, 67, 68, 69, 70, 71, 72, 102, 103, 104, 105, 106, 107, 108, 109, 98, 99, 100, 101] (by decide +kernel) (by decide +kernel)
set_option maxRecDepth 20000 in
theorem gX3_firstLeastSet_X3_arrange : GoodIn wsX3_firstLeastSet (wsV RX3 49 RX3 yX3_arrange wsX3_arrange) := goodIn_app (goodIn_of _ (by decide +kernel)) ggX3_firstLeastSet_X3_arrange
set_option maxRecDepth 20000 in
theorem ggX3_firstLeastSet_X2_threads : GoodIn wsX3_firstLeastSet wsX2_threads := goodIn_r _ [22, 7, 98, 99, 100, 101] (by decide +kernel) (by decide +kernel)
set_option maxRecDepth 20000 in
theorem gX3_firstLeastSet_X2_threads : GoodIn wsX3_firstLeastSet (wsV RX3 68 RX2 yX2_threads wsX2_threads) := goodIn_app (goodIn_of _ (by decide +kernel)) ggX3_firstLeastSet_X2_threads
set_option maxRecDepth 20000 in
theorem ggX3_firstLeastSet_X6_bit : GoodIn wsX3_firstLeastSet wsX6_bit := goodIn_r _ [10] (by decide +kernel) (by decide +kernel)
set_option maxRecDepth 20000 in
theorem gX3_firstLeastSet_X6_bit_n78 : GoodIn wsX3_firstLeastSet (wsX6_bit) := ggX3_firstLeastSet_X6_bit
set_option maxRecDepth 20000 in
theorem ggX3_firstLeastSet_X3_ways : GoodIn wsX3_firstLeastSet wsX3_ways := goodIn_r _ [76, 18, 44, 28, 9, 29, 77, 78, 79, 14, 80, 41, 42, 43, 81, 82, 83, 84, 85, 86, 87, 88, 89, 90, 49, 50, 91, 92, 93, 102, 103, 104, 105, 106, 107, 108, 109] (by decide +kernel) (by decide +kernel)
set_option maxRecDepth 20000 in
theorem gX3_firstLeastSet_X3_ways : GoodIn wsX3_firstLeastSet (wsV RX3 53 RX3 yX3_ways wsX3_ways) := goodIn_app (goodIn_of _ (by decide +kernel)) ggX3_firstLeastSet_X3_ways
set_option maxRecDepth 20000 in
theorem ggX3_firstLeastSet_X3_nextOfItsSize : GoodIn wsX3_firstLeastSet wsX3_nextOfItsSize := goodIn_r _ [96, 97, 63, 53, 64, 65, 8, 9, 10] (by decide +kernel) (by decide +kernel)
set_option maxRecDepth 20000 in
theorem gX3_firstLeastSet_X3_nextOfItsSize : GoodIn wsX3_firstLeastSet (va_wsS RX3 97 yX3_nextOfItsSize wsX3_nextOfItsSize) := goodIn_app (goodIn_of _ (by decide +kernel)) ggX3_firstLeastSet_X3_nextOfItsSize
theorem dX3_firstLeastSet_0 : decode cX3_firstLeastSet 0 = .ok (.aload_n 1, 1) := by decide +kernel
theorem dX3_firstLeastSet_1 : decode cX3_firstLeastSet 1 = .ok (.invokevirtual 43, 3) := by decide +kernel
theorem dX3_firstLeastSet_4 : decode cX3_firstLeastSet 4 = .ok (.istore_n 2, 1) := by decide +kernel
theorem dX3_firstLeastSet_5 : decode cX3_firstLeastSet 5 = .ok (.aload_n 0, 1) := by decide +kernel
theorem dX3_firstLeastSet_6 : decode cX3_firstLeastSet 6 = .ok (.aload_n 1, 1) := by decide +kernel
theorem dX3_firstLeastSet_7 : decode cX3_firstLeastSet 7 = .ok (.iload_n 2, 1) := by decide +kernel
theorem dX3_firstLeastSet_8 : decode cX3_firstLeastSet 8 = .ok (.invokevirtual 49, 3) := by decide +kernel
theorem dX3_firstLeastSet_11 : decode cX3_firstLeastSet 11 = .ok (.iconst 0, 1) := by decide +kernel
theorem dX3_firstLeastSet_12 : decode cX3_firstLeastSet 12 = .ok (.istore_n 3, 1) := by decide +kernel
theorem dX3_firstLeastSet_13 : decode cX3_firstLeastSet 13 = .ok (.iload_n 3, 1) := by decide +kernel
theorem dX3_firstLeastSet_14 : decode cX3_firstLeastSet 14 = .ok (.aload_n 1, 1) := by decide +kernel
theorem dX3_firstLeastSet_15 : decode cX3_firstLeastSet 15 = .ok (.invokevirtual 68, 3) := by decide +kernel
theorem dX3_firstLeastSet_18 : decode cX3_firstLeastSet 18 = .ok (.if_icmp .ge 68, 3) := by decide +kernel
theorem dX3_firstLeastSet_21 : decode cX3_firstLeastSet 21 = .ok (.iload_n 3, 1) := by decide +kernel
theorem dX3_firstLeastSet_22 : decode cX3_firstLeastSet 22 = .ok (.invokestatic 78, 3) := by decide +kernel
theorem dX3_firstLeastSet_25 : decode cX3_firstLeastSet 25 = .ok (.iconst 1, 1) := by decide +kernel
theorem dX3_firstLeastSet_26 : decode cX3_firstLeastSet 26 = .ok (.isub, 1) := by decide +kernel
theorem dX3_firstLeastSet_27 : decode cX3_firstLeastSet 27 = .ok (.istore 4, 2) := by decide +kernel
theorem dX3_firstLeastSet_29 : decode cX3_firstLeastSet 29 = .ok (.iconst 0, 1) := by decide +kernel
theorem dX3_firstLeastSet_30 : decode cX3_firstLeastSet 30 = .ok (.istore 5, 2) := by decide +kernel
theorem dX3_firstLeastSet_32 : decode cX3_firstLeastSet 32 = .ok (.iload 5, 2) := by decide +kernel
theorem dX3_firstLeastSet_34 : decode cX3_firstLeastSet 34 = .ok (.ldc 96, 2) := by decide +kernel
theorem dX3_firstLeastSet_36 : decode cX3_firstLeastSet 36 = .ok (.if_icmp .ge 44, 3) := by decide +kernel
theorem dX3_firstLeastSet_39 : decode cX3_firstLeastSet 39 = .ok (.iload 4, 2) := by decide +kernel
theorem dX3_firstLeastSet_41 : decode cX3_firstLeastSet 41 = .ok (.iload_n 2, 1) := by decide +kernel
theorem dX3_firstLeastSet_42 : decode cX3_firstLeastSet 42 = .ok (.if_icmp .gt 38, 3) := by decide +kernel
theorem dX3_firstLeastSet_45 : decode cX3_firstLeastSet 45 = .ok (.aload_n 0, 1) := by decide +kernel
theorem dX3_firstLeastSet_46 : decode cX3_firstLeastSet 46 = .ok (.lconst 0, 1) := by decide +kernel
theorem dX3_firstLeastSet_47 : decode cX3_firstLeastSet 47 = .ok (.iload 4, 2) := by decide +kernel
theorem dX3_firstLeastSet_49 : decode cX3_firstLeastSet 49 = .ok (.iconst 1, 1) := by decide +kernel
theorem dX3_firstLeastSet_50 : decode cX3_firstLeastSet 50 = .ok (.invokevirtual 53, 3) := by decide +kernel
theorem dX3_firstLeastSet_53 : decode cX3_firstLeastSet 53 = .ok (.ifCond .le 6, 3) := by decide +kernel
theorem dX3_firstLeastSet_56 : decode cX3_firstLeastSet 56 = .ok (.iload 4, 2) := by decide +kernel
theorem dX3_firstLeastSet_58 : decode cX3_firstLeastSet 58 = .ok (.ireturn, 1) := by decide +kernel
theorem dX3_firstLeastSet_59 : decode cX3_firstLeastSet 59 = .ok (.iload 4, 2) := by decide +kernel
theorem dX3_firstLeastSet_61 : decode cX3_firstLeastSet 61 = .ok (.ifCond .ne 6, 3) := by decide +kernel
theorem dX3_firstLeastSet_64 : decode cX3_firstLeastSet 64 = .ok (.goto 16, 3) := by decide +kernel
theorem dX3_firstLeastSet_67 : decode cX3_firstLeastSet 67 = .ok (.iload 4, 2) := by decide +kernel
theorem dX3_firstLeastSet_69 : decode cX3_firstLeastSet 69 = .ok (.invokestatic 97, 3) := by decide +kernel
theorem dX3_firstLeastSet_72 : decode cX3_firstLeastSet 72 = .ok (.istore 4, 2) := by decide +kernel
theorem dX3_firstLeastSet_74 : decode cX3_firstLeastSet 74 = .ok (.iinc 5 1, 3) := by decide +kernel
theorem dX3_firstLeastSet_77 : decode cX3_firstLeastSet 77 = .ok (.goto (-45), 3) := by decide +kernel
theorem dX3_firstLeastSet_80 : decode cX3_firstLeastSet 80 = .ok (.iinc 3 1, 3) := by decide +kernel
theorem dX3_firstLeastSet_83 : decode cX3_firstLeastSet 83 = .ok (.goto (-70), 3) := by decide +kernel
theorem dX3_firstLeastSet_86 : decode cX3_firstLeastSet 86 = .ok (.iload_n 2, 1) := by decide +kernel
theorem dX3_firstLeastSet_87 : decode cX3_firstLeastSet 87 = .ok (.ireturn, 1) := by decide +kernel
set_option maxRecDepth 20000 in
theorem ggX3_nextOfItsSize_J6_numberOfTrailingZeros_0f7a4 : GoodIn wsX3_nextOfItsSize wsJ6_numberOfTrailingZeros_0f7a4 := goodIn_r _ [4, 5] (by decide +kernel) (by decide +kernel)
set_option maxRecDepth 20000 in
theorem gX3_nextOfItsSize_J6_numberOfTrailingZeros_0f7a4 : GoodIn wsX3_nextOfItsSize (va_wsS RX3 100 yJ6_numberOfTrailingZeros_0f7a4 wsJ6_numberOfTrailingZeros_0f7a4) := goodIn_app (goodIn_of _ (by decide +kernel)) ggX3_nextOfItsSize_J6_numberOfTrailingZeros_0f7a4
set_option maxRecDepth 20000 in
theorem ggX3_nextOfItsSize_X6_bit : GoodIn wsX3_nextOfItsSize wsX6_bit := goodIn_r _ [8] (by decide +kernel) (by decide +kernel)
set_option maxRecDepth 20000 in
theorem gX3_nextOfItsSize_X6_bit_n78 : GoodIn wsX3_nextOfItsSize (wsX6_bit) := ggX3_nextOfItsSize_X6_bit
theorem dX3_nextOfItsSize_0 : decode cX3_nextOfItsSize 0 = .ok (.iload_n 0, 1) := by decide +kernel
theorem dX3_nextOfItsSize_1 : decode cX3_nextOfItsSize 1 = .ok (.invokestatic 100, 3) := by decide +kernel
theorem dX3_nextOfItsSize_4 : decode cX3_nextOfItsSize 4 = .ok (.istore_n 1, 1) := by decide +kernel
theorem dX3_nextOfItsSize_5 : decode cX3_nextOfItsSize 5 = .ok (.iload_n 0, 1) := by decide +kernel
theorem dX3_nextOfItsSize_6 : decode cX3_nextOfItsSize 6 = .ok (.iload_n 1, 1) := by decide +kernel
theorem dX3_nextOfItsSize_7 : decode cX3_nextOfItsSize 7 = .ok (.invokestatic 78, 3) := by decide +kernel
theorem dX3_nextOfItsSize_10 : decode cX3_nextOfItsSize 10 = .ok (.iadd, 1) := by decide +kernel
theorem dX3_nextOfItsSize_11 : decode cX3_nextOfItsSize 11 = .ok (.istore_n 2, 1) := by decide +kernel
theorem dX3_nextOfItsSize_12 : decode cX3_nextOfItsSize 12 = .ok (.iload_n 2, 1) := by decide +kernel
theorem dX3_nextOfItsSize_13 : decode cX3_nextOfItsSize 13 = .ok (.iload_n 0, 1) := by decide +kernel
theorem dX3_nextOfItsSize_14 : decode cX3_nextOfItsSize 14 = .ok (.iload_n 2, 1) := by decide +kernel
theorem dX3_nextOfItsSize_15 : decode cX3_nextOfItsSize 15 = .ok (.ixor, 1) := by decide +kernel
theorem dX3_nextOfItsSize_16 : decode cX3_nextOfItsSize 16 = .ok (.iload_n 1, 1) := by decide +kernel
theorem dX3_nextOfItsSize_17 : decode cX3_nextOfItsSize 17 = .ok (.iconst 2, 1) := by decide +kernel
theorem dX3_nextOfItsSize_18 : decode cX3_nextOfItsSize 18 = .ok (.iadd, 1) := by decide +kernel
theorem dX3_nextOfItsSize_19 : decode cX3_nextOfItsSize 19 = .ok (.iushr, 1) := by decide +kernel
theorem dX3_nextOfItsSize_20 : decode cX3_nextOfItsSize 20 = .ok (.ior, 1) := by decide +kernel
theorem dX3_nextOfItsSize_21 : decode cX3_nextOfItsSize 21 = .ok (.ireturn, 1) := by decide +kernel
set_option maxRecDepth 20000 in
theorem ggX3_usedBy_J6_numberOfTrailingZeros_0f7a4 : GoodIn wsX3_usedBy wsJ6_numberOfTrailingZeros_0f7a4 := goodIn_r _ [4, 5] (by decide +kernel) (by decide +kernel)
set_option maxRecDepth 20000 in
theorem gX3_usedBy_J6_numberOfTrailingZeros_0f7a4 : GoodIn wsX3_usedBy (va_wsS RX3 100 yJ6_numberOfTrailingZeros_0f7a4 wsJ6_numberOfTrailingZeros_0f7a4) := goodIn_app (goodIn_of _ (by decide +kernel)) ggX3_usedBy_J6_numberOfTrailingZeros_0f7a4
set_option maxRecDepth 20000 in
theorem ggX3_usedBy_J6_numberOfLeadingZeros_0f7a4 : GoodIn wsX3_usedBy wsJ6_numberOfLeadingZeros_0f7a4 := goodIn_r _ [8, 5] (by decide +kernel) (by decide +kernel)
set_option maxRecDepth 20000 in
theorem gX3_usedBy_J6_numberOfLeadingZeros_0f7a4 : GoodIn wsX3_usedBy (va_wsS RX3 103 yJ6_numberOfLeadingZeros_0f7a4 wsJ6_numberOfLeadingZeros_0f7a4) := goodIn_app (goodIn_of _ (by decide +kernel)) ggX3_usedBy_J6_numberOfLeadingZeros_0f7a4
set_option maxRecDepth 20000 in
theorem ggX3_usedBy_X3_usedWith : GoodIn wsX3_usedBy wsX3_usedWith := goodIn_r _ [12] (by decide +kernel) (by decide +kernel)
set_option maxRecDepth 20000 in
theorem gX3_usedBy_X3_usedWith : GoodIn wsX3_usedBy (va_wsS RX3 106 yX3_usedWith wsX3_usedWith) := goodIn_app (goodIn_of _ (by decide +kernel)) ggX3_usedBy_X3_usedWith
theorem dX3_usedBy_0 : decode cX3_usedBy 0 = .ok (.iload_n 0, 1) := by decide +kernel
theorem dX3_usedBy_1 : decode cX3_usedBy 1 = .ok (.invokestatic 100, 3) := by decide +kernel
theorem dX3_usedBy_4 : decode cX3_usedBy 4 = .ok (.istore_n 2, 1) := by decide +kernel
theorem dX3_usedBy_5 : decode cX3_usedBy 5 = .ok (.bipush 31, 2) := by decide +kernel
theorem dX3_usedBy_7 : decode cX3_usedBy 7 = .ok (.iload_n 0, 1) := by decide +kernel
theorem dX3_usedBy_8 : decode cX3_usedBy 8 = .ok (.invokestatic 103, 3) := by decide +kernel
theorem dX3_usedBy_11 : decode cX3_usedBy 11 = .ok (.isub, 1) := by decide +kernel
theorem dX3_usedBy_12 : decode cX3_usedBy 12 = .ok (.istore_n 3, 1) := by decide +kernel
theorem dX3_usedBy_13 : decode cX3_usedBy 13 = .ok (.iconst 3, 1) := by decide +kernel
theorem dX3_usedBy_14 : decode cX3_usedBy 14 = .ok (.iload_n 2, 1) := by decide +kernel
theorem dX3_usedBy_15 : decode cX3_usedBy 15 = .ok (.imul, 1) := by decide +kernel
theorem dX3_usedBy_16 : decode cX3_usedBy 16 = .ok (.iconst 3, 1) := by decide +kernel
theorem dX3_usedBy_17 : decode cX3_usedBy 17 = .ok (.iload_n 3, 1) := by decide +kernel
theorem dX3_usedBy_18 : decode cX3_usedBy 18 = .ok (.imul, 1) := by decide +kernel
theorem dX3_usedBy_19 : decode cX3_usedBy 19 = .ok (.iload_n 1, 1) := by decide +kernel
theorem dX3_usedBy_20 : decode cX3_usedBy 20 = .ok (.invokestatic 106, 3) := by decide +kernel
theorem dX3_usedBy_23 : decode cX3_usedBy 23 = .ok (.lreturn, 1) := by decide +kernel
set_option maxRecDepth 20000 in
theorem ggX3_usedColours_X2_threads : GoodIn wsX3_usedColours wsX2_threads := goodIn_r _ [6, 7, 36, 37, 38, 39] (by decide +kernel) (by decide +kernel)
set_option maxRecDepth 20000 in
theorem gX3_usedColours_X2_threads : GoodIn wsX3_usedColours (wsV RX3 68 RX2 yX2_threads wsX2_threads) := goodIn_app (goodIn_of _ (by decide +kernel)) ggX3_usedColours_X2_threads
set_option maxRecDepth 20000 in
theorem ggX3_usedColours_X2_colour : GoodIn wsX3_usedColours wsX2_colour := goodIn_r _ [11, 12, 13, 14, 15, 36, 37, 38, 39] (by decide +kernel) (by decide +kernel)
set_option maxRecDepth 20000 in
theorem gX3_usedColours_X2_colour : GoodIn wsX3_usedColours (wsV RX3 71 RX2 yX2_colour wsX2_colour) := goodIn_app (goodIn_of _ (by decide +kernel)) ggX3_usedColours_X2_colour
set_option maxRecDepth 20000 in
theorem ggX3_usedColours_X2_ends : GoodIn wsX3_usedColours wsX2_ends := goodIn_r _ [19, 20, 13, 14, 15, 36, 37, 38, 39] (by decide +kernel) (by decide +kernel)
set_option maxRecDepth 20000 in
theorem gX3_usedColours_X2_ends : GoodIn wsX3_usedColours (wsV RX3 81 RX2 yX2_ends wsX2_ends) := goodIn_app (goodIn_of _ (by decide +kernel)) ggX3_usedColours_X2_ends
set_option maxRecDepth 20000 in
theorem ggX3_usedColours_X3_usedBy : GoodIn wsX3_usedColours wsX3_usedBy := goodIn_r _ [24, 25, 26, 27, 28, 29, 30, 31, 32, 33, 34, 23, 35] (by decide +kernel) (by decide +kernel)
set_option maxRecDepth 20000 in
theorem gX3_usedColours_X3_usedBy : GoodIn wsX3_usedColours (va_wsS RX3 88 yX3_usedBy wsX3_usedBy) := goodIn_app (goodIn_of _ (by decide +kernel)) ggX3_usedColours_X3_usedBy
theorem dX3_usedColours_0 : decode cX3_usedColours 0 = .ok (.lconst 0, 1) := by decide +kernel
theorem dX3_usedColours_1 : decode cX3_usedColours 1 = .ok (.lstore_n 1, 1) := by decide +kernel
theorem dX3_usedColours_2 : decode cX3_usedColours 2 = .ok (.iconst 0, 1) := by decide +kernel
theorem dX3_usedColours_3 : decode cX3_usedColours 3 = .ok (.istore_n 3, 1) := by decide +kernel
theorem dX3_usedColours_4 : decode cX3_usedColours 4 = .ok (.iload_n 3, 1) := by decide +kernel
theorem dX3_usedColours_5 : decode cX3_usedColours 5 = .ok (.aload_n 0, 1) := by decide +kernel
theorem dX3_usedColours_6 : decode cX3_usedColours 6 = .ok (.invokevirtual 68, 3) := by decide +kernel
theorem dX3_usedColours_9 : decode cX3_usedColours 9 = .ok (.if_icmp .ge 51, 3) := by decide +kernel
theorem dX3_usedColours_12 : decode cX3_usedColours 12 = .ok (.aload_n 0, 1) := by decide +kernel
theorem dX3_usedColours_13 : decode cX3_usedColours 13 = .ok (.iload_n 3, 1) := by decide +kernel
theorem dX3_usedColours_14 : decode cX3_usedColours 14 = .ok (.invokevirtual 71, 3) := by decide +kernel
theorem dX3_usedColours_17 : decode cX3_usedColours 17 = .ok (.iconst 3, 1) := by decide +kernel
theorem dX3_usedColours_18 : decode cX3_usedColours 18 = .ok (.if_icmp .eq 36, 3) := by decide +kernel
theorem dX3_usedColours_21 : decode cX3_usedColours 21 = .ok (.aload_n 0, 1) := by decide +kernel
theorem dX3_usedColours_22 : decode cX3_usedColours 22 = .ok (.iload_n 3, 1) := by decide +kernel
theorem dX3_usedColours_23 : decode cX3_usedColours 23 = .ok (.invokevirtual 81, 3) := by decide +kernel
theorem dX3_usedColours_26 : decode cX3_usedColours 26 = .ok (.aload_n 0, 1) := by decide +kernel
theorem dX3_usedColours_27 : decode cX3_usedColours 27 = .ok (.iload_n 3, 1) := by decide +kernel
theorem dX3_usedColours_28 : decode cX3_usedColours 28 = .ok (.invokevirtual 71, 3) := by decide +kernel
theorem dX3_usedColours_31 : decode cX3_usedColours 31 = .ok (.invokestatic 88, 3) := by decide +kernel
theorem dX3_usedColours_34 : decode cX3_usedColours 34 = .ok (.lstore 4, 2) := by decide +kernel
theorem dX3_usedColours_36 : decode cX3_usedColours 36 = .ok (.lload_n 1, 1) := by decide +kernel
theorem dX3_usedColours_37 : decode cX3_usedColours 37 = .ok (.lload 4, 2) := by decide +kernel
theorem dX3_usedColours_39 : decode cX3_usedColours 39 = .ok (.land, 1) := by decide +kernel
theorem dX3_usedColours_40 : decode cX3_usedColours 40 = .ok (.lconst 0, 1) := by decide +kernel
theorem dX3_usedColours_41 : decode cX3_usedColours 41 = .ok (.lcmp, 1) := by decide +kernel
theorem dX3_usedColours_42 : decode cX3_usedColours 42 = .ok (.ifCond .eq 7, 3) := by decide +kernel
theorem dX3_usedColours_45 : decode cX3_usedColours 45 = .ok (.ldc2_w 61, 3) := by decide +kernel
theorem dX3_usedColours_48 : decode cX3_usedColours 48 = .ok (.lreturn, 1) := by decide +kernel
theorem dX3_usedColours_49 : decode cX3_usedColours 49 = .ok (.lload_n 1, 1) := by decide +kernel
theorem dX3_usedColours_50 : decode cX3_usedColours 50 = .ok (.lload 4, 2) := by decide +kernel
theorem dX3_usedColours_52 : decode cX3_usedColours 52 = .ok (.lor, 1) := by decide +kernel
theorem dX3_usedColours_53 : decode cX3_usedColours 53 = .ok (.lstore_n 1, 1) := by decide +kernel
theorem dX3_usedColours_54 : decode cX3_usedColours 54 = .ok (.iinc 3 1, 3) := by decide +kernel
theorem dX3_usedColours_57 : decode cX3_usedColours 57 = .ok (.goto (-53), 3) := by decide +kernel
theorem dX3_usedColours_60 : decode cX3_usedColours 60 = .ok (.lload_n 1, 1) := by decide +kernel
theorem dX3_usedColours_61 : decode cX3_usedColours 61 = .ok (.lreturn, 1) := by decide +kernel
set_option maxRecDepth 20000 in
theorem ggX3_arrange_X2_threads : GoodIn wsX3_arrange wsX2_threads := goodIn_r _ [8, 9, 72, 73, 74, 75] (by decide +kernel) (by decide +kernel)
set_option maxRecDepth 20000 in
theorem gX3_arrange_X2_threads : GoodIn wsX3_arrange (wsV RX3 68 RX2 yX2_threads wsX2_threads) := goodIn_app (goodIn_of _ (by decide +kernel)) ggX3_arrange_X2_threads
set_option maxRecDepth 20000 in
theorem ggX3_arrange_X2_ends : GoodIn wsX3_arrange wsX2_ends := goodIn_r _ [13, 14, 15, 16, 17, 72, 73, 74, 75] (by decide +kernel) (by decide +kernel)
set_option maxRecDepth 20000 in
theorem gX3_arrange_X2_ends : GoodIn wsX3_arrange (wsV RX3 81 RX2 yX2_ends wsX2_ends) := goodIn_app (goodIn_of _ (by decide +kernel)) ggX3_arrange_X2_ends
set_option maxRecDepth 20000 in
theorem ggX3_arrange_X2_threadsAt : GoodIn wsX3_arrange wsX2_threadsAt := goodIn_r _ [21, 9, 22, 11, 12, 7, 13, 14, 15, 16, 17, 23, 24, 72, 73, 74, 75] (by decide +kernel) (by decide +kernel)
set_option maxRecDepth 20000 in
theorem gX3_arrange_X2_threadsAt : GoodIn wsX3_arrange (wsV RX3 110 RX2 yX2_threadsAt wsX2_threadsAt) := goodIn_app (goodIn_of _ (by decide +kernel)) ggX3_arrange_X2_threadsAt
set_option maxRecDepth 20000 in
theorem ggX3_arrange_X6_put : GoodIn wsX3_arrange wsX6_put := goodIn_r _ [26] (by decide +kernel) (by decide +kernel)
set_option maxRecDepth 20000 in
theorem gX3_arrange_X6_put_n92 : GoodIn wsX3_arrange (wsX6_put) := ggX3_arrange_X6_put
set_option maxRecDepth 20000 in
theorem ggX3_arrange_X3_arrangeGroup : GoodIn wsX3_arrange wsX3_arrangeGroup := goodIn_r _ [31, 32, 2, 33, 34, 35, 3, 4, 5, 6, 7, 8, 9, 36, 37, 38, 30, 39, 1, 15, 16, 17, 40, 41, 42, 43, 44, 45, 46, 47, 48, 23, 24, 25, 26, 49, 50, 51, 52, 22, 11, 12, 13, 14, 53, 54, 55, 56, 57, 58, 59, 60, 61, 62, 63, 64, 65, 66, 67, 68, 69, 70, 71, 72, 73, 74, 75] (by decide +kernel) (by decide +kernel)
set_option maxRecDepth 20000 in
theorem gX3_arrange_X3_arrangeGroup : GoodIn wsX3_arrange (wsV RX3 113 RX3 yX3_arrangeGroup wsX3_arrangeGroup) := goodIn_app (goodIn_of _ (by decide +kernel)) ggX3_arrange_X3_arrangeGroup
theorem dX3_arrange_0 : decode cX3_arrange 0 = .ok (.iconst 0, 1) := by decide +kernel
theorem dX3_arrange_1 : decode cX3_arrange 1 = .ok (.istore_n 3, 1) := by decide +kernel
theorem dX3_arrange_2 : decode cX3_arrange 2 = .ok (.iload_n 3, 1) := by decide +kernel
theorem dX3_arrange_3 : decode cX3_arrange 3 = .ok (.aload_n 1, 1) := by decide +kernel
theorem dX3_arrange_4 : decode cX3_arrange 4 = .ok (.invokevirtual 68, 3) := by decide +kernel
theorem dX3_arrange_7 : decode cX3_arrange 7 = .ok (.if_icmp .ge 26, 3) := by decide +kernel
theorem dX3_arrange_10 : decode cX3_arrange 10 = .ok (.aload_n 0, 1) := by decide +kernel
theorem dX3_arrange_11 : decode cX3_arrange 11 = .ok (.getfield 26, 3) := by decide +kernel
theorem dX3_arrange_14 : decode cX3_arrange 14 = .ok (.iload_n 3, 1) := by decide +kernel
theorem dX3_arrange_15 : decode cX3_arrange 15 = .ok (.aload_n 1, 1) := by decide +kernel
theorem dX3_arrange_16 : decode cX3_arrange 16 = .ok (.aload_n 1, 1) := by decide +kernel
theorem dX3_arrange_17 : decode cX3_arrange 17 = .ok (.iload_n 3, 1) := by decide +kernel
theorem dX3_arrange_18 : decode cX3_arrange 18 = .ok (.invokevirtual 81, 3) := by decide +kernel
theorem dX3_arrange_21 : decode cX3_arrange 21 = .ok (.invokevirtual 110, 3) := by decide +kernel
theorem dX3_arrange_24 : decode cX3_arrange 24 = .ok (.invokestatic 92, 3) := by decide +kernel
theorem dX3_arrange_27 : decode cX3_arrange 27 = .ok (.iinc 3 1, 3) := by decide +kernel
theorem dX3_arrange_30 : decode cX3_arrange 30 = .ok (.goto (-28), 3) := by decide +kernel
theorem dX3_arrange_33 : decode cX3_arrange 33 = .ok (.aload_n 0, 1) := by decide +kernel
theorem dX3_arrange_34 : decode cX3_arrange 34 = .ok (.iconst 0, 1) := by decide +kernel
theorem dX3_arrange_35 : decode cX3_arrange 35 = .ok (.putfield 32, 3) := by decide +kernel
theorem dX3_arrange_38 : decode cX3_arrange 38 = .ok (.aload_n 0, 1) := by decide +kernel
theorem dX3_arrange_39 : decode cX3_arrange 39 = .ok (.iconst 0, 1) := by decide +kernel
theorem dX3_arrange_40 : decode cX3_arrange 40 = .ok (.putfield 36, 3) := by decide +kernel
theorem dX3_arrange_43 : decode cX3_arrange 43 = .ok (.iload_n 2, 1) := by decide +kernel
theorem dX3_arrange_44 : decode cX3_arrange 44 = .ok (.istore_n 3, 1) := by decide +kernel
theorem dX3_arrange_45 : decode cX3_arrange 45 = .ok (.iconst 0, 1) := by decide +kernel
theorem dX3_arrange_46 : decode cX3_arrange 46 = .ok (.istore 4, 2) := by decide +kernel
theorem dX3_arrange_48 : decode cX3_arrange 48 = .ok (.iload 4, 2) := by decide +kernel
theorem dX3_arrange_50 : decode cX3_arrange 50 = .ok (.bipush 21, 2) := by decide +kernel
theorem dX3_arrange_52 : decode cX3_arrange 52 = .ok (.if_icmp .ge 20, 3) := by decide +kernel
theorem dX3_arrange_55 : decode cX3_arrange 55 = .ok (.iload_n 3, 1) := by decide +kernel
theorem dX3_arrange_56 : decode cX3_arrange 56 = .ok (.ifCond .eq 16, 3) := by decide +kernel
theorem dX3_arrange_59 : decode cX3_arrange 59 = .ok (.aload_n 0, 1) := by decide +kernel
theorem dX3_arrange_60 : decode cX3_arrange 60 = .ok (.aload_n 1, 1) := by decide +kernel
theorem dX3_arrange_61 : decode cX3_arrange 61 = .ok (.iload_n 3, 1) := by decide +kernel
theorem dX3_arrange_62 : decode cX3_arrange 62 = .ok (.invokevirtual 113, 3) := by decide +kernel
theorem dX3_arrange_65 : decode cX3_arrange 65 = .ok (.istore_n 3, 1) := by decide +kernel
theorem dX3_arrange_66 : decode cX3_arrange 66 = .ok (.iinc 4 1, 3) := by decide +kernel
theorem dX3_arrange_69 : decode cX3_arrange 69 = .ok (.goto (-21), 3) := by decide +kernel
theorem dX3_arrange_72 : decode cX3_arrange 72 = .ok (.return_, 1) := by decide +kernel
set_option maxRecDepth 20000 in
theorem ggX3_arrangeGroup_X2_threads : GoodIn wsX3_arrangeGroup wsX2_threads := goodIn_r _ [11, 12, 63, 64, 65, 66] (by decide +kernel) (by decide +kernel)
set_option maxRecDepth 20000 in
theorem gX3_arrangeGroup_X2_threads : GoodIn wsX3_arrangeGroup (wsV RX3 68 RX2 yX2_threads wsX2_threads) := goodIn_app (goodIn_of _ (by decide +kernel)) ggX3_arrangeGroup_X2_threads
set_option maxRecDepth 20000 in
theorem ggX3_arrangeGroup_X3_tightest : GoodIn wsX3_arrangeGroup wsX3_tightest := goodIn_r _ [17, 18, 19, 20, 21, 22, 23, 24, 25, 26, 27, 28, 29, 30, 55, 56, 57, 58, 59, 60, 61, 62] (by decide +kernel) (by decide +kernel)
set_option maxRecDepth 20000 in
theorem gX3_arrangeGroup_X3_tightest : GoodIn wsX3_arrangeGroup (wsV RX3 117 RX3 yX3_tightest wsX3_tightest) := goodIn_app (goodIn_of _ (by decide +kernel)) ggX3_arrangeGroup_X3_tightest
set_option maxRecDepth 20000 in
theorem ggX3_arrangeGroup_X6_bit : GoodIn wsX3_arrangeGroup wsX6_bit := goodIn_r _ [32] (by decide +kernel) (by decide +kernel)
set_option maxRecDepth 20000 in
theorem gX3_arrangeGroup_X6_bit_n78 : GoodIn wsX3_arrangeGroup (wsX6_bit) := ggX3_arrangeGroup_X6_bit
set_option maxRecDepth 20000 in
theorem ggX3_arrangeGroup_X6_put : GoodIn wsX3_arrangeGroup wsX6_put := goodIn_r _ [34] (by decide +kernel) (by decide +kernel)
set_option maxRecDepth 20000 in
theorem gX3_arrangeGroup_X6_put_n92 : GoodIn wsX3_arrangeGroup (wsX6_put) := ggX3_arrangeGroup_X6_put
set_option maxRecDepth 20000 in
theorem ggX3_arrangeGroup_X2_lesserKnot : GoodIn wsX3_arrangeGroup wsX2_lesserKnot := goodIn_r _ [38, 39, 40, 41, 10, 42, 43, 19, 20, 21, 44, 45, 26, 46, 47, 63, 64, 65, 66] (by decide +kernel) (by decide +kernel)
set_option maxRecDepth 20000 in
theorem gX3_arrangeGroup_X2_lesserKnot : GoodIn wsX3_arrangeGroup (wsV RX3 121 RX2 yX2_lesserKnot wsX2_lesserKnot) := goodIn_app (goodIn_of _ (by decide +kernel)) ggX3_arrangeGroup_X2_lesserKnot
set_option maxRecDepth 20000 in
theorem ggX3_arrangeGroup_X2_greaterKnot : GoodIn wsX3_arrangeGroup wsX2_greaterKnot := goodIn_r _ [51, 39, 40, 41, 10, 42, 43, 19, 20, 21, 52, 53, 26, 54, 47, 63, 64, 65, 66] (by decide +kernel) (by decide +kernel)
set_option maxRecDepth 20000 in
theorem gX3_arrangeGroup_X2_greaterKnot : GoodIn wsX3_arrangeGroup (wsV RX3 124 RX2 yX2_greaterKnot wsX2_greaterKnot) := goodIn_app (goodIn_of _ (by decide +kernel)) ggX3_arrangeGroup_X2_greaterKnot
theorem dX3_arrangeGroup_0 : decode cX3_arrangeGroup 0 = .ok (.iload_n 2, 1) := by decide +kernel
theorem dX3_arrangeGroup_1 : decode cX3_arrangeGroup 1 = .ok (.istore_n 3, 1) := by decide +kernel
theorem dX3_arrangeGroup_2 : decode cX3_arrangeGroup 2 = .ok (.iconst 0, 1) := by decide +kernel
theorem dX3_arrangeGroup_3 : decode cX3_arrangeGroup 3 = .ok (.istore 4, 2) := by decide +kernel
theorem dX3_arrangeGroup_5 : decode cX3_arrangeGroup 5 = .ok (.iconst 0, 1) := by decide +kernel
theorem dX3_arrangeGroup_6 : decode cX3_arrangeGroup 6 = .ok (.istore 5, 2) := by decide +kernel
theorem dX3_arrangeGroup_8 : decode cX3_arrangeGroup 8 = .ok (.iload 5, 2) := by decide +kernel
theorem dX3_arrangeGroup_10 : decode cX3_arrangeGroup 10 = .ok (.bipush 21, 2) := by decide +kernel
theorem dX3_arrangeGroup_12 : decode cX3_arrangeGroup 12 = .ok (.if_icmp .ge 114, 3) := by decide +kernel
theorem dX3_arrangeGroup_15 : decode cX3_arrangeGroup 15 = .ok (.aload_n 0, 1) := by decide +kernel
theorem dX3_arrangeGroup_16 : decode cX3_arrangeGroup 16 = .ok (.aload_n 1, 1) := by decide +kernel
theorem dX3_arrangeGroup_17 : decode cX3_arrangeGroup 17 = .ok (.invokevirtual 68, 3) := by decide +kernel
theorem dX3_arrangeGroup_20 : decode cX3_arrangeGroup 20 = .ok (.iload_n 3, 1) := by decide +kernel
theorem dX3_arrangeGroup_21 : decode cX3_arrangeGroup 21 = .ok (.iload 4, 2) := by decide +kernel
theorem dX3_arrangeGroup_23 : decode cX3_arrangeGroup 23 = .ok (.invokevirtual 117, 3) := by decide +kernel
theorem dX3_arrangeGroup_26 : decode cX3_arrangeGroup 26 = .ok (.istore 6, 2) := by decide +kernel
theorem dX3_arrangeGroup_28 : decode cX3_arrangeGroup 28 = .ok (.iload 6, 2) := by decide +kernel
theorem dX3_arrangeGroup_30 : decode cX3_arrangeGroup 30 = .ok (.ifCond .ge 6, 3) := by decide +kernel
theorem dX3_arrangeGroup_33 : decode cX3_arrangeGroup 33 = .ok (.goto 93, 3) := by decide +kernel
theorem dX3_arrangeGroup_36 : decode cX3_arrangeGroup 36 = .ok (.aload_n 0, 1) := by decide +kernel
theorem dX3_arrangeGroup_37 : decode cX3_arrangeGroup 37 = .ok (.getfield 11, 3) := by decide +kernel
theorem dX3_arrangeGroup_40 : decode cX3_arrangeGroup 40 = .ok (.aload_n 0, 1) := by decide +kernel
theorem dX3_arrangeGroup_41 : decode cX3_arrangeGroup 41 = .ok (.getfield 32, 3) := by decide +kernel
theorem dX3_arrangeGroup_44 : decode cX3_arrangeGroup 44 = .ok (.iload 6, 2) := by decide +kernel
theorem dX3_arrangeGroup_46 : decode cX3_arrangeGroup 46 = .ok (.invokestatic 78, 3) := by decide +kernel
theorem dX3_arrangeGroup_49 : decode cX3_arrangeGroup 49 = .ok (.invokestatic 92, 3) := by decide +kernel
theorem dX3_arrangeGroup_52 : decode cX3_arrangeGroup 52 = .ok (.aload_n 0, 1) := by decide +kernel
theorem dX3_arrangeGroup_53 : decode cX3_arrangeGroup 53 = .ok (.getfield 17, 3) := by decide +kernel
theorem dX3_arrangeGroup_56 : decode cX3_arrangeGroup 56 = .ok (.aload_n 0, 1) := by decide +kernel
theorem dX3_arrangeGroup_57 : decode cX3_arrangeGroup 57 = .ok (.getfield 32, 3) := by decide +kernel
theorem dX3_arrangeGroup_60 : decode cX3_arrangeGroup 60 = .ok (.iconst 3, 1) := by decide +kernel
theorem dX3_arrangeGroup_61 : decode cX3_arrangeGroup 61 = .ok (.aload_n 1, 1) := by decide +kernel
theorem dX3_arrangeGroup_62 : decode cX3_arrangeGroup 62 = .ok (.iload 6, 2) := by decide +kernel
theorem dX3_arrangeGroup_64 : decode cX3_arrangeGroup 64 = .ok (.invokevirtual 121, 3) := by decide +kernel
theorem dX3_arrangeGroup_67 : decode cX3_arrangeGroup 67 = .ok (.imul, 1) := by decide +kernel
theorem dX3_arrangeGroup_68 : decode cX3_arrangeGroup 68 = .ok (.invokestatic 92, 3) := by decide +kernel
theorem dX3_arrangeGroup_71 : decode cX3_arrangeGroup 71 = .ok (.aload_n 0, 1) := by decide +kernel
theorem dX3_arrangeGroup_72 : decode cX3_arrangeGroup 72 = .ok (.getfield 20, 3) := by decide +kernel
theorem dX3_arrangeGroup_75 : decode cX3_arrangeGroup 75 = .ok (.aload_n 0, 1) := by decide +kernel
theorem dX3_arrangeGroup_76 : decode cX3_arrangeGroup 76 = .ok (.getfield 32, 3) := by decide +kernel
theorem dX3_arrangeGroup_79 : decode cX3_arrangeGroup 79 = .ok (.iconst 3, 1) := by decide +kernel
theorem dX3_arrangeGroup_80 : decode cX3_arrangeGroup 80 = .ok (.aload_n 1, 1) := by decide +kernel
theorem dX3_arrangeGroup_81 : decode cX3_arrangeGroup 81 = .ok (.iload 6, 2) := by decide +kernel
theorem dX3_arrangeGroup_83 : decode cX3_arrangeGroup 83 = .ok (.invokevirtual 124, 3) := by decide +kernel
theorem dX3_arrangeGroup_86 : decode cX3_arrangeGroup 86 = .ok (.imul, 1) := by decide +kernel
theorem dX3_arrangeGroup_87 : decode cX3_arrangeGroup 87 = .ok (.invokestatic 92, 3) := by decide +kernel
theorem dX3_arrangeGroup_90 : decode cX3_arrangeGroup 90 = .ok (.aload_n 0, 1) := by decide +kernel
theorem dX3_arrangeGroup_91 : decode cX3_arrangeGroup 91 = .ok (.dup, 1) := by decide +kernel
theorem dX3_arrangeGroup_92 : decode cX3_arrangeGroup 92 = .ok (.getfield 32, 3) := by decide +kernel
theorem dX3_arrangeGroup_95 : decode cX3_arrangeGroup 95 = .ok (.iconst 1, 1) := by decide +kernel
theorem dX3_arrangeGroup_96 : decode cX3_arrangeGroup 96 = .ok (.iadd, 1) := by decide +kernel
theorem dX3_arrangeGroup_97 : decode cX3_arrangeGroup 97 = .ok (.putfield 32, 3) := by decide +kernel
theorem dX3_arrangeGroup_100 : decode cX3_arrangeGroup 100 = .ok (.iload 4, 2) := by decide +kernel
theorem dX3_arrangeGroup_102 : decode cX3_arrangeGroup 102 = .ok (.iload 6, 2) := by decide +kernel
theorem dX3_arrangeGroup_104 : decode cX3_arrangeGroup 104 = .ok (.invokestatic 78, 3) := by decide +kernel
theorem dX3_arrangeGroup_107 : decode cX3_arrangeGroup 107 = .ok (.ior, 1) := by decide +kernel
theorem dX3_arrangeGroup_108 : decode cX3_arrangeGroup 108 = .ok (.istore 4, 2) := by decide +kernel
theorem dX3_arrangeGroup_110 : decode cX3_arrangeGroup 110 = .ok (.iload_n 3, 1) := by decide +kernel
theorem dX3_arrangeGroup_111 : decode cX3_arrangeGroup 111 = .ok (.iload 6, 2) := by decide +kernel
theorem dX3_arrangeGroup_113 : decode cX3_arrangeGroup 113 = .ok (.invokestatic 78, 3) := by decide +kernel
theorem dX3_arrangeGroup_116 : decode cX3_arrangeGroup 116 = .ok (.iconst (-1), 1) := by decide +kernel
theorem dX3_arrangeGroup_117 : decode cX3_arrangeGroup 117 = .ok (.ixor, 1) := by decide +kernel
theorem dX3_arrangeGroup_118 : decode cX3_arrangeGroup 118 = .ok (.iand, 1) := by decide +kernel
theorem dX3_arrangeGroup_119 : decode cX3_arrangeGroup 119 = .ok (.istore_n 3, 1) := by decide +kernel
theorem dX3_arrangeGroup_120 : decode cX3_arrangeGroup 120 = .ok (.iinc 5 1, 3) := by decide +kernel
theorem dX3_arrangeGroup_123 : decode cX3_arrangeGroup 123 = .ok (.goto (-115), 3) := by decide +kernel
theorem dX3_arrangeGroup_126 : decode cX3_arrangeGroup 126 = .ok (.aload_n 0, 1) := by decide +kernel
theorem dX3_arrangeGroup_127 : decode cX3_arrangeGroup 127 = .ok (.getfield 23, 3) := by decide +kernel
theorem dX3_arrangeGroup_130 : decode cX3_arrangeGroup 130 = .ok (.aload_n 0, 1) := by decide +kernel
theorem dX3_arrangeGroup_131 : decode cX3_arrangeGroup 131 = .ok (.getfield 36, 3) := by decide +kernel
theorem dX3_arrangeGroup_134 : decode cX3_arrangeGroup 134 = .ok (.aload_n 0, 1) := by decide +kernel
theorem dX3_arrangeGroup_135 : decode cX3_arrangeGroup 135 = .ok (.getfield 32, 3) := by decide +kernel
theorem dX3_arrangeGroup_138 : decode cX3_arrangeGroup 138 = .ok (.invokestatic 92, 3) := by decide +kernel
theorem dX3_arrangeGroup_141 : decode cX3_arrangeGroup 141 = .ok (.aload_n 0, 1) := by decide +kernel
theorem dX3_arrangeGroup_142 : decode cX3_arrangeGroup 142 = .ok (.dup, 1) := by decide +kernel
theorem dX3_arrangeGroup_143 : decode cX3_arrangeGroup 143 = .ok (.getfield 36, 3) := by decide +kernel
theorem dX3_arrangeGroup_146 : decode cX3_arrangeGroup 146 = .ok (.iconst 1, 1) := by decide +kernel
theorem dX3_arrangeGroup_147 : decode cX3_arrangeGroup 147 = .ok (.iadd, 1) := by decide +kernel
theorem dX3_arrangeGroup_148 : decode cX3_arrangeGroup 148 = .ok (.putfield 36, 3) := by decide +kernel
theorem dX3_arrangeGroup_151 : decode cX3_arrangeGroup 151 = .ok (.iload_n 3, 1) := by decide +kernel
theorem dX3_arrangeGroup_152 : decode cX3_arrangeGroup 152 = .ok (.ireturn, 1) := by decide +kernel
set_option maxRecDepth 20000 in
theorem ggX3_tightest_X6_at : GoodIn wsX3_tightest wsX6_at := goodIn_r _ [4] (by decide +kernel) (by decide +kernel)
set_option maxRecDepth 20000 in
theorem gX3_tightest_X6_at_n39 : GoodIn wsX3_tightest (wsX6_at) := ggX3_tightest_X6_at
set_option maxRecDepth 20000 in
theorem ggX3_tightest_X6_holds : GoodIn wsX3_tightest wsX6_holds := goodIn_r _ [6] (by decide +kernel) (by decide +kernel)
set_option maxRecDepth 20000 in
theorem gX3_tightest_X6_holds_n74 : GoodIn wsX3_tightest (wsX6_holds) := ggX3_tightest_X6_holds
set_option maxRecDepth 20000 in
theorem ggX3_tightest_J6_bitCount_0f7a4 : GoodIn wsX3_tightest wsJ6_bitCount_0f7a4 := goodIn_r _ [10, 11, 12, 13] (by decide +kernel) (by decide +kernel)
set_option maxRecDepth 20000 in
theorem gX3_tightest_J6_bitCount_0f7a4 : GoodIn wsX3_tightest (va_wsS RX3 127 yJ6_bitCount_0f7a4 wsJ6_bitCount_0f7a4) := goodIn_app (goodIn_of _ (by decide +kernel)) ggX3_tightest_J6_bitCount_0f7a4
theorem dX3_tightest_0 : decode cX3_tightest 0 = .ok (.iconst (-1), 1) := by decide +kernel
theorem dX3_tightest_1 : decode cX3_tightest 1 = .ok (.istore 4, 2) := by decide +kernel
theorem dX3_tightest_3 : decode cX3_tightest 3 = .ok (.iconst (-1), 1) := by decide +kernel
theorem dX3_tightest_4 : decode cX3_tightest 4 = .ok (.istore 5, 2) := by decide +kernel
theorem dX3_tightest_6 : decode cX3_tightest 6 = .ok (.iconst 0, 1) := by decide +kernel
theorem dX3_tightest_7 : decode cX3_tightest 7 = .ok (.istore 6, 2) := by decide +kernel
theorem dX3_tightest_9 : decode cX3_tightest 9 = .ok (.iload 6, 2) := by decide +kernel
theorem dX3_tightest_11 : decode cX3_tightest 11 = .ok (.iload_n 1, 1) := by decide +kernel
theorem dX3_tightest_12 : decode cX3_tightest 12 = .ok (.if_icmp .ge 66, 3) := by decide +kernel
theorem dX3_tightest_15 : decode cX3_tightest 15 = .ok (.aload_n 0, 1) := by decide +kernel
theorem dX3_tightest_16 : decode cX3_tightest 16 = .ok (.getfield 26, 3) := by decide +kernel
theorem dX3_tightest_19 : decode cX3_tightest 19 = .ok (.iload 6, 2) := by decide +kernel
theorem dX3_tightest_21 : decode cX3_tightest 21 = .ok (.invokestatic 39, 3) := by decide +kernel
theorem dX3_tightest_24 : decode cX3_tightest 24 = .ok (.istore 7, 2) := by decide +kernel
theorem dX3_tightest_26 : decode cX3_tightest 26 = .ok (.iload_n 2, 1) := by decide +kernel
theorem dX3_tightest_27 : decode cX3_tightest 27 = .ok (.iload 6, 2) := by decide +kernel
theorem dX3_tightest_29 : decode cX3_tightest 29 = .ok (.invokestatic 74, 3) := by decide +kernel
theorem dX3_tightest_32 : decode cX3_tightest 32 = .ok (.ifCond .eq 40, 3) := by decide +kernel
theorem dX3_tightest_35 : decode cX3_tightest 35 = .ok (.iload_n 3, 1) := by decide +kernel
theorem dX3_tightest_36 : decode cX3_tightest 36 = .ok (.ifCond .eq 10, 3) := by decide +kernel
theorem dX3_tightest_39 : decode cX3_tightest 39 = .ok (.iload 7, 2) := by decide +kernel
theorem dX3_tightest_41 : decode cX3_tightest 41 = .ok (.iload_n 3, 1) := by decide +kernel
theorem dX3_tightest_42 : decode cX3_tightest 42 = .ok (.iand, 1) := by decide +kernel
theorem dX3_tightest_43 : decode cX3_tightest 43 = .ok (.ifCond .eq 29, 3) := by decide +kernel
theorem dX3_tightest_46 : decode cX3_tightest 46 = .ok (.iload 7, 2) := by decide +kernel
theorem dX3_tightest_48 : decode cX3_tightest 48 = .ok (.iload_n 2, 1) := by decide +kernel
theorem dX3_tightest_49 : decode cX3_tightest 49 = .ok (.iconst (-1), 1) := by decide +kernel
theorem dX3_tightest_50 : decode cX3_tightest 50 = .ok (.ixor, 1) := by decide +kernel
theorem dX3_tightest_51 : decode cX3_tightest 51 = .ok (.iand, 1) := by decide +kernel
theorem dX3_tightest_52 : decode cX3_tightest 52 = .ok (.invokestatic 127, 3) := by decide +kernel
theorem dX3_tightest_55 : decode cX3_tightest 55 = .ok (.istore 8, 2) := by decide +kernel
theorem dX3_tightest_57 : decode cX3_tightest 57 = .ok (.iload 8, 2) := by decide +kernel
theorem dX3_tightest_59 : decode cX3_tightest 59 = .ok (.iload 5, 2) := by decide +kernel
theorem dX3_tightest_61 : decode cX3_tightest 61 = .ok (.if_icmp .le 11, 3) := by decide +kernel
theorem dX3_tightest_64 : decode cX3_tightest 64 = .ok (.iload 6, 2) := by decide +kernel
theorem dX3_tightest_66 : decode cX3_tightest 66 = .ok (.istore 4, 2) := by decide +kernel
theorem dX3_tightest_68 : decode cX3_tightest 68 = .ok (.iload 8, 2) := by decide +kernel
theorem dX3_tightest_70 : decode cX3_tightest 70 = .ok (.istore 5, 2) := by decide +kernel
theorem dX3_tightest_72 : decode cX3_tightest 72 = .ok (.iinc 6 1, 3) := by decide +kernel
theorem dX3_tightest_75 : decode cX3_tightest 75 = .ok (.goto (-66), 3) := by decide +kernel
theorem dX3_tightest_78 : decode cX3_tightest 78 = .ok (.iload 4, 2) := by decide +kernel
theorem dX3_tightest_80 : decode cX3_tightest 80 = .ok (.ireturn, 1) := by decide +kernel
set_option maxRecDepth 20000 in
theorem ggX3_ways_X6_at : GoodIn wsX3_ways wsX6_at := goodIn_r _ [5] (by decide +kernel) (by decide +kernel)
set_option maxRecDepth 20000 in
theorem gX3_ways_X6_at_n39 : GoodIn wsX3_ways (wsX6_at) := ggX3_ways_X6_at
set_option maxRecDepth 20000 in
theorem ggX3_ways_X3_groupWays : GoodIn wsX3_ways wsX3_groupWays := goodIn_r _ [10, 11, 12, 13, 14, 15, 16, 9, 17, 3, 4, 5, 18, 19, 20, 21, 22, 23, 24, 25, 26, 27, 28, 29, 30, 31, 32, 33, 34, 35, 36] (by decide +kernel) (by decide +kernel)
set_option maxRecDepth 20000 in
theorem gX3_ways_X3_groupWays : GoodIn wsX3_ways (wsV RX3 130 RX3 yX3_groupWays wsX3_groupWays) := goodIn_app (goodIn_of _ (by decide +kernel)) ggX3_ways_X3_groupWays
theorem dX3_ways_0 : decode cX3_ways 0 = .ok (.iconst 1, 1) := by decide +kernel
theorem dX3_ways_1 : decode cX3_ways 1 = .ok (.istore 5, 2) := by decide +kernel
theorem dX3_ways_3 : decode cX3_ways 3 = .ok (.iconst 0, 1) := by decide +kernel
theorem dX3_ways_4 : decode cX3_ways 4 = .ok (.istore 6, 2) := by decide +kernel
theorem dX3_ways_6 : decode cX3_ways 6 = .ok (.iconst 0, 1) := by decide +kernel
theorem dX3_ways_7 : decode cX3_ways 7 = .ok (.istore 7, 2) := by decide +kernel
theorem dX3_ways_9 : decode cX3_ways 9 = .ok (.iload 7, 2) := by decide +kernel
theorem dX3_ways_11 : decode cX3_ways 11 = .ok (.aload_n 0, 1) := by decide +kernel
theorem dX3_ways_12 : decode cX3_ways 12 = .ok (.getfield 36, 3) := by decide +kernel
theorem dX3_ways_15 : decode cX3_ways 15 = .ok (.if_icmp .ge 46, 3) := by decide +kernel
theorem dX3_ways_18 : decode cX3_ways 18 = .ok (.iload 5, 2) := by decide +kernel
theorem dX3_ways_20 : decode cX3_ways 20 = .ok (.ifCond .le 41, 3) := by decide +kernel
theorem dX3_ways_23 : decode cX3_ways 23 = .ok (.aload_n 0, 1) := by decide +kernel
theorem dX3_ways_24 : decode cX3_ways 24 = .ok (.getfield 23, 3) := by decide +kernel
theorem dX3_ways_27 : decode cX3_ways 27 = .ok (.iload 7, 2) := by decide +kernel
theorem dX3_ways_29 : decode cX3_ways 29 = .ok (.invokestatic 39, 3) := by decide +kernel
theorem dX3_ways_32 : decode cX3_ways 32 = .ok (.istore 8, 2) := by decide +kernel
theorem dX3_ways_34 : decode cX3_ways 34 = .ok (.iload 5, 2) := by decide +kernel
theorem dX3_ways_36 : decode cX3_ways 36 = .ok (.aload_n 0, 1) := by decide +kernel
theorem dX3_ways_37 : decode cX3_ways 37 = .ok (.iload 6, 2) := by decide +kernel
theorem dX3_ways_39 : decode cX3_ways 39 = .ok (.iload 8, 2) := by decide +kernel
theorem dX3_ways_41 : decode cX3_ways 41 = .ok (.lload_n 1, 1) := by decide +kernel
theorem dX3_ways_42 : decode cX3_ways 42 = .ok (.iload_n 3, 1) := by decide +kernel
theorem dX3_ways_43 : decode cX3_ways 43 = .ok (.iload 4, 2) := by decide +kernel
theorem dX3_ways_45 : decode cX3_ways 45 = .ok (.invokevirtual 130, 3) := by decide +kernel
theorem dX3_ways_48 : decode cX3_ways 48 = .ok (.imul, 1) := by decide +kernel
theorem dX3_ways_49 : decode cX3_ways 49 = .ok (.istore 5, 2) := by decide +kernel
theorem dX3_ways_51 : decode cX3_ways 51 = .ok (.iload 8, 2) := by decide +kernel
theorem dX3_ways_53 : decode cX3_ways 53 = .ok (.istore 6, 2) := by decide +kernel
theorem dX3_ways_55 : decode cX3_ways 55 = .ok (.iinc 7 1, 3) := by decide +kernel
theorem dX3_ways_58 : decode cX3_ways 58 = .ok (.goto (-49), 3) := by decide +kernel
theorem dX3_ways_61 : decode cX3_ways 61 = .ok (.iload 5, 2) := by decide +kernel
theorem dX3_ways_63 : decode cX3_ways 63 = .ok (.ireturn, 1) := by decide +kernel
set_option maxRecDepth 20000 in
theorem ggX3_groupWays_X3_isBare : GoodIn wsX3_groupWays wsX3_isBare := goodIn_r _ [8, 1, 2, 3, 9, 10, 11, 12, 13, 7, 14, 23, 24, 25, 26, 27, 28, 29, 30] (by decide +kernel) (by decide +kernel)
set_option maxRecDepth 20000 in
theorem gX3_groupWays_X3_isBare : GoodIn wsX3_groupWays (wsV RX3 134 RX3 yX3_isBare wsX3_isBare) := goodIn_app (goodIn_of _ (by decide +kernel)) ggX3_groupWays_X3_isBare
set_option maxRecDepth 20000 in
theorem ggX3_groupWays_X3_waysFrom : GoodIn wsX3_groupWays wsX3_waysFrom := goodIn_r _ [17, 1, 2, 3, 9, 10, 11, 15, 16, 7, 12, 13, 14, 18, 19, 20, 21, 22, 23, 24, 25, 26, 27, 28, 29, 30] (by decide +kernel) (by decide +kernel)
set_option maxRecDepth 20000 in
theorem gX3_groupWays_X3_waysFrom : GoodIn wsX3_groupWays (va_wsS RX3 138 yX3_waysFrom wsX3_waysFrom) := goodIn_app (goodIn_of _ (by decide +kernel)) ggX3_groupWays_X3_waysFrom
set_option maxRecDepth 20000 in
theorem ggX3_groupWays_X6_at : GoodIn wsX3_groupWays wsX6_at := goodIn_r _ [11] (by decide +kernel) (by decide +kernel)
set_option maxRecDepth 20000 in
theorem gX3_groupWays_X6_at_n39 : GoodIn wsX3_groupWays (wsX6_at) := ggX3_groupWays_X6_at
set_option maxRecDepth 20000 in
theorem ggX3_groupWays_X3_usedWith : GoodIn wsX3_groupWays wsX3_usedWith := goodIn_r _ [22] (by decide +kernel) (by decide +kernel)
set_option maxRecDepth 20000 in
theorem gX3_groupWays_X3_usedWith : GoodIn wsX3_groupWays (va_wsS RX3 106 yX3_usedWith wsX3_usedWith) := goodIn_app (goodIn_of _ (by decide +kernel)) ggX3_groupWays_X3_usedWith
theorem dX3_groupWays_0 : decode cX3_groupWays 0 = .ok (.aload_n 0, 1) := by decide +kernel
theorem dX3_groupWays_1 : decode cX3_groupWays 1 = .ok (.iload_n 1, 1) := by decide +kernel
theorem dX3_groupWays_2 : decode cX3_groupWays 2 = .ok (.iload_n 2, 1) := by decide +kernel
theorem dX3_groupWays_3 : decode cX3_groupWays 3 = .ok (.lload_n 3, 1) := by decide +kernel
theorem dX3_groupWays_4 : decode cX3_groupWays 4 = .ok (.iload 5, 2) := by decide +kernel
theorem dX3_groupWays_6 : decode cX3_groupWays 6 = .ok (.invokevirtual 134, 3) := by decide +kernel
theorem dX3_groupWays_9 : decode cX3_groupWays 9 = .ok (.ifCond .ne 15, 3) := by decide +kernel
theorem dX3_groupWays_12 : decode cX3_groupWays 12 = .ok (.aload_n 0, 1) := by decide +kernel
theorem dX3_groupWays_13 : decode cX3_groupWays 13 = .ok (.iload_n 1, 1) := by decide +kernel
theorem dX3_groupWays_14 : decode cX3_groupWays 14 = .ok (.iload_n 2, 1) := by decide +kernel
theorem dX3_groupWays_15 : decode cX3_groupWays 15 = .ok (.lload_n 3, 1) := by decide +kernel
theorem dX3_groupWays_16 : decode cX3_groupWays 16 = .ok (.iload 5, 2) := by decide +kernel
theorem dX3_groupWays_18 : decode cX3_groupWays 18 = .ok (.iload 6, 2) := by decide +kernel
theorem dX3_groupWays_20 : decode cX3_groupWays 20 = .ok (.invokestatic 138, 3) := by decide +kernel
theorem dX3_groupWays_23 : decode cX3_groupWays 23 = .ok (.ireturn, 1) := by decide +kernel
theorem dX3_groupWays_24 : decode cX3_groupWays 24 = .ok (.iload_n 1, 1) := by decide +kernel
theorem dX3_groupWays_25 : decode cX3_groupWays 25 = .ok (.istore 7, 2) := by decide +kernel
theorem dX3_groupWays_27 : decode cX3_groupWays 27 = .ok (.iload 7, 2) := by decide +kernel
theorem dX3_groupWays_29 : decode cX3_groupWays 29 = .ok (.iload_n 2, 1) := by decide +kernel
theorem dX3_groupWays_30 : decode cX3_groupWays 30 = .ok (.if_icmp .ge 24, 3) := by decide +kernel
theorem dX3_groupWays_33 : decode cX3_groupWays 33 = .ok (.aload_n 0, 1) := by decide +kernel
theorem dX3_groupWays_34 : decode cX3_groupWays 34 = .ok (.getfield 11, 3) := by decide +kernel
theorem dX3_groupWays_37 : decode cX3_groupWays 37 = .ok (.iload 7, 2) := by decide +kernel
theorem dX3_groupWays_39 : decode cX3_groupWays 39 = .ok (.invokestatic 39, 3) := by decide +kernel
theorem dX3_groupWays_42 : decode cX3_groupWays 42 = .ok (.iload 5, 2) := by decide +kernel
theorem dX3_groupWays_44 : decode cX3_groupWays 44 = .ok (.iand, 1) := by decide +kernel
theorem dX3_groupWays_45 : decode cX3_groupWays 45 = .ok (.ifCond .eq 9, 3) := by decide +kernel
theorem dX3_groupWays_48 : decode cX3_groupWays 48 = .ok (.iinc 7 1, 3) := by decide +kernel
theorem dX3_groupWays_51 : decode cX3_groupWays 51 = .ok (.goto (-24), 3) := by decide +kernel
theorem dX3_groupWays_54 : decode cX3_groupWays 54 = .ok (.iload 7, 2) := by decide +kernel
theorem dX3_groupWays_56 : decode cX3_groupWays 56 = .ok (.iload_n 2, 1) := by decide +kernel
theorem dX3_groupWays_57 : decode cX3_groupWays 57 = .ok (.if_icmp .lt 5, 3) := by decide +kernel
theorem dX3_groupWays_60 : decode cX3_groupWays 60 = .ok (.iconst 1, 1) := by decide +kernel
theorem dX3_groupWays_61 : decode cX3_groupWays 61 = .ok (.ireturn, 1) := by decide +kernel
theorem dX3_groupWays_62 : decode cX3_groupWays 62 = .ok (.lload_n 3, 1) := by decide +kernel
theorem dX3_groupWays_63 : decode cX3_groupWays 63 = .ok (.aload_n 0, 1) := by decide +kernel
theorem dX3_groupWays_64 : decode cX3_groupWays 64 = .ok (.getfield 17, 3) := by decide +kernel
theorem dX3_groupWays_67 : decode cX3_groupWays 67 = .ok (.iload 7, 2) := by decide +kernel
theorem dX3_groupWays_69 : decode cX3_groupWays 69 = .ok (.invokestatic 39, 3) := by decide +kernel
theorem dX3_groupWays_72 : decode cX3_groupWays 72 = .ok (.aload_n 0, 1) := by decide +kernel
theorem dX3_groupWays_73 : decode cX3_groupWays 73 = .ok (.getfield 20, 3) := by decide +kernel
theorem dX3_groupWays_76 : decode cX3_groupWays 76 = .ok (.iload 7, 2) := by decide +kernel
theorem dX3_groupWays_78 : decode cX3_groupWays 78 = .ok (.invokestatic 39, 3) := by decide +kernel
theorem dX3_groupWays_81 : decode cX3_groupWays 81 = .ok (.iconst 0, 1) := by decide +kernel
theorem dX3_groupWays_82 : decode cX3_groupWays 82 = .ok (.invokestatic 106, 3) := by decide +kernel
theorem dX3_groupWays_85 : decode cX3_groupWays 85 = .ok (.lor, 1) := by decide +kernel
theorem dX3_groupWays_86 : decode cX3_groupWays 86 = .ok (.lstore 8, 2) := by decide +kernel
theorem dX3_groupWays_88 : decode cX3_groupWays 88 = .ok (.iconst 3, 1) := by decide +kernel
theorem dX3_groupWays_89 : decode cX3_groupWays 89 = .ok (.aload_n 0, 1) := by decide +kernel
theorem dX3_groupWays_90 : decode cX3_groupWays 90 = .ok (.iload 7, 2) := by decide +kernel
theorem dX3_groupWays_92 : decode cX3_groupWays 92 = .ok (.iconst 1, 1) := by decide +kernel
theorem dX3_groupWays_93 : decode cX3_groupWays 93 = .ok (.iadd, 1) := by decide +kernel
theorem dX3_groupWays_94 : decode cX3_groupWays 94 = .ok (.iload_n 2, 1) := by decide +kernel
theorem dX3_groupWays_95 : decode cX3_groupWays 95 = .ok (.lload 8, 2) := by decide +kernel
theorem dX3_groupWays_97 : decode cX3_groupWays 97 = .ok (.iload 5, 2) := by decide +kernel
theorem dX3_groupWays_99 : decode cX3_groupWays 99 = .ok (.iload 6, 2) := by decide +kernel
theorem dX3_groupWays_101 : decode cX3_groupWays 101 = .ok (.invokestatic 138, 3) := by decide +kernel
theorem dX3_groupWays_104 : decode cX3_groupWays 104 = .ok (.imul, 1) := by decide +kernel
theorem dX3_groupWays_105 : decode cX3_groupWays 105 = .ok (.ireturn, 1) := by decide +kernel
set_option maxRecDepth 20000 in
theorem ggX3_isBare_X6_at : GoodIn wsX3_isBare wsX6_at := goodIn_r _ [6] (by decide +kernel) (by decide +kernel)
set_option maxRecDepth 20000 in
theorem gX3_isBare_X6_at_n39 : GoodIn wsX3_isBare (wsX6_at) := ggX3_isBare_X6_at
set_option maxRecDepth 20000 in
theorem ggX3_isBare_X3_usedAt : GoodIn wsX3_isBare wsX3_usedAt := goodIn_r _ [10] (by decide +kernel) (by decide +kernel)
set_option maxRecDepth 20000 in
theorem gX3_isBare_X3_usedAt : GoodIn wsX3_isBare (va_wsS RX3 142 yX3_usedAt wsX3_usedAt) := goodIn_app (goodIn_of _ (by decide +kernel)) ggX3_isBare_X3_usedAt
theorem dX3_isBare_0 : decode cX3_isBare 0 = .ok (.iload_n 1, 1) := by decide +kernel
theorem dX3_isBare_1 : decode cX3_isBare 1 = .ok (.istore 6, 2) := by decide +kernel
theorem dX3_isBare_3 : decode cX3_isBare 3 = .ok (.iload 6, 2) := by decide +kernel
theorem dX3_isBare_5 : decode cX3_isBare 5 = .ok (.iload_n 2, 1) := by decide +kernel
theorem dX3_isBare_6 : decode cX3_isBare 6 = .ok (.if_icmp .ge 63, 3) := by decide +kernel
theorem dX3_isBare_9 : decode cX3_isBare 9 = .ok (.aload_n 0, 1) := by decide +kernel
theorem dX3_isBare_10 : decode cX3_isBare 10 = .ok (.getfield 11, 3) := by decide +kernel
theorem dX3_isBare_13 : decode cX3_isBare 13 = .ok (.iload 6, 2) := by decide +kernel
theorem dX3_isBare_15 : decode cX3_isBare 15 = .ok (.invokestatic 39, 3) := by decide +kernel
theorem dX3_isBare_18 : decode cX3_isBare 18 = .ok (.iload 5, 2) := by decide +kernel
theorem dX3_isBare_20 : decode cX3_isBare 20 = .ok (.iand, 1) := by decide +kernel
theorem dX3_isBare_21 : decode cX3_isBare 21 = .ok (.ifCond .eq 7, 3) := by decide +kernel
theorem dX3_isBare_24 : decode cX3_isBare 24 = .ok (.iconst 1, 1) := by decide +kernel
theorem dX3_isBare_25 : decode cX3_isBare 25 = .ok (.goto 4, 3) := by decide +kernel
theorem dX3_isBare_28 : decode cX3_isBare 28 = .ok (.iconst 0, 1) := by decide +kernel
theorem dX3_isBare_29 : decode cX3_isBare 29 = .ok (.istore 7, 2) := by decide +kernel
theorem dX3_isBare_31 : decode cX3_isBare 31 = .ok (.iload 7, 2) := by decide +kernel
theorem dX3_isBare_33 : decode cX3_isBare 33 = .ok (.ifCond .ne 30, 3) := by decide +kernel
theorem dX3_isBare_36 : decode cX3_isBare 36 = .ok (.aload_n 0, 1) := by decide +kernel
theorem dX3_isBare_37 : decode cX3_isBare 37 = .ok (.getfield 17, 3) := by decide +kernel
theorem dX3_isBare_40 : decode cX3_isBare 40 = .ok (.iload 6, 2) := by decide +kernel
theorem dX3_isBare_42 : decode cX3_isBare 42 = .ok (.invokestatic 39, 3) := by decide +kernel
theorem dX3_isBare_45 : decode cX3_isBare 45 = .ok (.aload_n 0, 1) := by decide +kernel
theorem dX3_isBare_46 : decode cX3_isBare 46 = .ok (.getfield 20, 3) := by decide +kernel
theorem dX3_isBare_49 : decode cX3_isBare 49 = .ok (.iload 6, 2) := by decide +kernel
theorem dX3_isBare_51 : decode cX3_isBare 51 = .ok (.invokestatic 39, 3) := by decide +kernel
theorem dX3_isBare_54 : decode cX3_isBare 54 = .ok (.lload_n 3, 1) := by decide +kernel
theorem dX3_isBare_55 : decode cX3_isBare 55 = .ok (.invokestatic 142, 3) := by decide +kernel
theorem dX3_isBare_58 : decode cX3_isBare 58 = .ok (.ifCond .eq 5, 3) := by decide +kernel
theorem dX3_isBare_61 : decode cX3_isBare 61 = .ok (.iconst 0, 1) := by decide +kernel
theorem dX3_isBare_62 : decode cX3_isBare 62 = .ok (.ireturn, 1) := by decide +kernel
theorem dX3_isBare_63 : decode cX3_isBare 63 = .ok (.iinc 6 1, 3) := by decide +kernel
theorem dX3_isBare_66 : decode cX3_isBare 66 = .ok (.goto (-63), 3) := by decide +kernel
theorem dX3_isBare_69 : decode cX3_isBare 69 = .ok (.iconst 1, 1) := by decide +kernel
theorem dX3_isBare_70 : decode cX3_isBare 70 = .ok (.ireturn, 1) := by decide +kernel
theorem dX3_usedAt_0 : decode cX3_usedAt 0 = .ok (.lload_n 2, 1) := by decide +kernel
theorem dX3_usedAt_1 : decode cX3_usedAt 1 = .ok (.iload_n 0, 1) := by decide +kernel
theorem dX3_usedAt_2 : decode cX3_usedAt 2 = .ok (.lushr, 1) := by decide +kernel
theorem dX3_usedAt_3 : decode cX3_usedAt 3 = .ok (.lload_n 2, 1) := by decide +kernel
theorem dX3_usedAt_4 : decode cX3_usedAt 4 = .ok (.iload_n 1, 1) := by decide +kernel
theorem dX3_usedAt_5 : decode cX3_usedAt 5 = .ok (.lushr, 1) := by decide +kernel
theorem dX3_usedAt_6 : decode cX3_usedAt 6 = .ok (.lor, 1) := by decide +kernel
theorem dX3_usedAt_7 : decode cX3_usedAt 7 = .ok (.l2i, 1) := by decide +kernel
theorem dX3_usedAt_8 : decode cX3_usedAt 8 = .ok (.bipush 7, 2) := by decide +kernel
theorem dX3_usedAt_10 : decode cX3_usedAt 10 = .ok (.iand, 1) := by decide +kernel
theorem dX3_usedAt_11 : decode cX3_usedAt 11 = .ok (.ireturn, 1) := by decide +kernel
theorem dX3_usedWith_0 : decode cX3_usedWith 0 = .ok (.lconst 1, 1) := by decide +kernel
theorem dX3_usedWith_1 : decode cX3_usedWith 1 = .ok (.iload_n 0, 1) := by decide +kernel
theorem dX3_usedWith_2 : decode cX3_usedWith 2 = .ok (.iload_n 2, 1) := by decide +kernel
theorem dX3_usedWith_3 : decode cX3_usedWith 3 = .ok (.iadd, 1) := by decide +kernel
theorem dX3_usedWith_4 : decode cX3_usedWith 4 = .ok (.lshl, 1) := by decide +kernel
theorem dX3_usedWith_5 : decode cX3_usedWith 5 = .ok (.lconst 1, 1) := by decide +kernel
theorem dX3_usedWith_6 : decode cX3_usedWith 6 = .ok (.iload_n 1, 1) := by decide +kernel
theorem dX3_usedWith_7 : decode cX3_usedWith 7 = .ok (.iload_n 2, 1) := by decide +kernel
theorem dX3_usedWith_8 : decode cX3_usedWith 8 = .ok (.iadd, 1) := by decide +kernel
theorem dX3_usedWith_9 : decode cX3_usedWith 9 = .ok (.lshl, 1) := by decide +kernel
theorem dX3_usedWith_10 : decode cX3_usedWith 10 = .ok (.lor, 1) := by decide +kernel
theorem dX3_usedWith_11 : decode cX3_usedWith 11 = .ok (.lreturn, 1) := by decide +kernel
set_option maxRecDepth 20000 in
theorem ggX3_waysFrom_X6_at : GoodIn wsX3_waysFrom wsX6_at := goodIn_r _ [6] (by decide +kernel) (by decide +kernel)
set_option maxRecDepth 20000 in
theorem gX3_waysFrom_X6_at_n39 : GoodIn wsX3_waysFrom (wsX6_at) := ggX3_waysFrom_X6_at
set_option maxRecDepth 20000 in
theorem ggX3_waysFrom_X3_waysFrom : GoodIn wsX3_waysFrom wsX3_waysFrom := goodIn_r _ [0, 1, 2, 3, 4, 5, 6, 7, 8, 9, 10, 11, 12, 13, 14, 15, 16, 17, 18, 19, 20, 21, 22, 23, 24, 25] (by decide +kernel) (by decide +kernel)
set_option maxRecDepth 20000 in
theorem gX3_waysFrom_X3_waysFrom : GoodIn wsX3_waysFrom (va_wsS RX3 138 yX3_waysFrom wsX3_waysFrom) := goodIn_app (goodIn_of _ (by decide +kernel)) ggX3_waysFrom_X3_waysFrom
set_option maxRecDepth 20000 in
theorem ggX3_waysFrom_X3_usedAt : GoodIn wsX3_waysFrom wsX3_usedAt := goodIn_r _ [12] (by decide +kernel) (by decide +kernel)
set_option maxRecDepth 20000 in
theorem gX3_waysFrom_X3_usedAt : GoodIn wsX3_waysFrom (va_wsS RX3 142 yX3_usedAt wsX3_usedAt) := goodIn_app (goodIn_of _ (by decide +kernel)) ggX3_waysFrom_X3_usedAt
set_option maxRecDepth 20000 in
theorem ggX3_waysFrom_X6_holds : GoodIn wsX3_waysFrom wsX6_holds := goodIn_r _ [14] (by decide +kernel) (by decide +kernel)
set_option maxRecDepth 20000 in
theorem gX3_waysFrom_X6_holds_n74 : GoodIn wsX3_waysFrom (wsX6_holds) := ggX3_waysFrom_X6_holds
set_option maxRecDepth 20000 in
theorem ggX3_waysFrom_X3_usedWith : GoodIn wsX3_waysFrom wsX3_usedWith := goodIn_r _ [17] (by decide +kernel) (by decide +kernel)
set_option maxRecDepth 20000 in
theorem gX3_waysFrom_X3_usedWith : GoodIn wsX3_waysFrom (va_wsS RX3 106 yX3_usedWith wsX3_usedWith) := goodIn_app (goodIn_of _ (by decide +kernel)) ggX3_waysFrom_X3_usedWith
theorem dX3_waysFrom_0 : decode cX3_waysFrom 0 = .ok (.iload_n 1, 1) := by decide +kernel
theorem dX3_waysFrom_1 : decode cX3_waysFrom 1 = .ok (.iload_n 2, 1) := by decide +kernel
theorem dX3_waysFrom_2 : decode cX3_waysFrom 2 = .ok (.if_icmp .ge 9, 3) := by decide +kernel
theorem dX3_waysFrom_5 : decode cX3_waysFrom 5 = .ok (.iload_n 1, 1) := by decide +kernel
theorem dX3_waysFrom_6 : decode cX3_waysFrom 6 = .ok (.bipush 21, 2) := by decide +kernel
theorem dX3_waysFrom_8 : decode cX3_waysFrom 8 = .ok (.if_icmp .lt 5, 3) := by decide +kernel
theorem dX3_waysFrom_11 : decode cX3_waysFrom 11 = .ok (.iconst 1, 1) := by decide +kernel
theorem dX3_waysFrom_12 : decode cX3_waysFrom 12 = .ok (.ireturn, 1) := by decide +kernel
theorem dX3_waysFrom_13 : decode cX3_waysFrom 13 = .ok (.aload_n 0, 1) := by decide +kernel
theorem dX3_waysFrom_14 : decode cX3_waysFrom 14 = .ok (.getfield 11, 3) := by decide +kernel
theorem dX3_waysFrom_17 : decode cX3_waysFrom 17 = .ok (.iload_n 1, 1) := by decide +kernel
theorem dX3_waysFrom_18 : decode cX3_waysFrom 18 = .ok (.invokestatic 39, 3) := by decide +kernel
theorem dX3_waysFrom_21 : decode cX3_waysFrom 21 = .ok (.iload 5, 2) := by decide +kernel
theorem dX3_waysFrom_23 : decode cX3_waysFrom 23 = .ok (.iand, 1) := by decide +kernel
theorem dX3_waysFrom_24 : decode cX3_waysFrom 24 = .ok (.ifCond .eq 17, 3) := by decide +kernel
theorem dX3_waysFrom_27 : decode cX3_waysFrom 27 = .ok (.aload_n 0, 1) := by decide +kernel
theorem dX3_waysFrom_28 : decode cX3_waysFrom 28 = .ok (.iload_n 1, 1) := by decide +kernel
theorem dX3_waysFrom_29 : decode cX3_waysFrom 29 = .ok (.iconst 1, 1) := by decide +kernel
theorem dX3_waysFrom_30 : decode cX3_waysFrom 30 = .ok (.iadd, 1) := by decide +kernel
theorem dX3_waysFrom_31 : decode cX3_waysFrom 31 = .ok (.iload_n 2, 1) := by decide +kernel
theorem dX3_waysFrom_32 : decode cX3_waysFrom 32 = .ok (.lload_n 3, 1) := by decide +kernel
theorem dX3_waysFrom_33 : decode cX3_waysFrom 33 = .ok (.iload 5, 2) := by decide +kernel
theorem dX3_waysFrom_35 : decode cX3_waysFrom 35 = .ok (.iload 6, 2) := by decide +kernel
theorem dX3_waysFrom_37 : decode cX3_waysFrom 37 = .ok (.invokestatic 138, 3) := by decide +kernel
theorem dX3_waysFrom_40 : decode cX3_waysFrom 40 = .ok (.ireturn, 1) := by decide +kernel
theorem dX3_waysFrom_41 : decode cX3_waysFrom 41 = .ok (.aload_n 0, 1) := by decide +kernel
theorem dX3_waysFrom_42 : decode cX3_waysFrom 42 = .ok (.getfield 17, 3) := by decide +kernel
theorem dX3_waysFrom_45 : decode cX3_waysFrom 45 = .ok (.iload_n 1, 1) := by decide +kernel
theorem dX3_waysFrom_46 : decode cX3_waysFrom 46 = .ok (.invokestatic 39, 3) := by decide +kernel
theorem dX3_waysFrom_49 : decode cX3_waysFrom 49 = .ok (.istore 7, 2) := by decide +kernel
theorem dX3_waysFrom_51 : decode cX3_waysFrom 51 = .ok (.aload_n 0, 1) := by decide +kernel
theorem dX3_waysFrom_52 : decode cX3_waysFrom 52 = .ok (.getfield 20, 3) := by decide +kernel
theorem dX3_waysFrom_55 : decode cX3_waysFrom 55 = .ok (.iload_n 1, 1) := by decide +kernel
theorem dX3_waysFrom_56 : decode cX3_waysFrom 56 = .ok (.invokestatic 39, 3) := by decide +kernel
theorem dX3_waysFrom_59 : decode cX3_waysFrom 59 = .ok (.istore 8, 2) := by decide +kernel
theorem dX3_waysFrom_61 : decode cX3_waysFrom 61 = .ok (.iload 7, 2) := by decide +kernel
theorem dX3_waysFrom_63 : decode cX3_waysFrom 63 = .ok (.iload 8, 2) := by decide +kernel
theorem dX3_waysFrom_65 : decode cX3_waysFrom 65 = .ok (.lload_n 3, 1) := by decide +kernel
theorem dX3_waysFrom_66 : decode cX3_waysFrom 66 = .ok (.invokestatic 142, 3) := by decide +kernel
theorem dX3_waysFrom_69 : decode cX3_waysFrom 69 = .ok (.istore 9, 2) := by decide +kernel
theorem dX3_waysFrom_71 : decode cX3_waysFrom 71 = .ok (.iconst 0, 1) := by decide +kernel
theorem dX3_waysFrom_72 : decode cX3_waysFrom 72 = .ok (.istore 10, 2) := by decide +kernel
theorem dX3_waysFrom_74 : decode cX3_waysFrom 74 = .ok (.iconst 0, 1) := by decide +kernel
theorem dX3_waysFrom_75 : decode cX3_waysFrom 75 = .ok (.istore 11, 2) := by decide +kernel
theorem dX3_waysFrom_77 : decode cX3_waysFrom 77 = .ok (.iload 11, 2) := by decide +kernel
theorem dX3_waysFrom_79 : decode cX3_waysFrom 79 = .ok (.iconst 3, 1) := by decide +kernel
theorem dX3_waysFrom_80 : decode cX3_waysFrom 80 = .ok (.if_icmp .ge 61, 3) := by decide +kernel
theorem dX3_waysFrom_83 : decode cX3_waysFrom 83 = .ok (.iload 10, 2) := by decide +kernel
theorem dX3_waysFrom_85 : decode cX3_waysFrom 85 = .ok (.iload 6, 2) := by decide +kernel
theorem dX3_waysFrom_87 : decode cX3_waysFrom 87 = .ok (.if_icmp .ge 54, 3) := by decide +kernel
theorem dX3_waysFrom_90 : decode cX3_waysFrom 90 = .ok (.iload 9, 2) := by decide +kernel
theorem dX3_waysFrom_92 : decode cX3_waysFrom 92 = .ok (.iload 11, 2) := by decide +kernel
theorem dX3_waysFrom_94 : decode cX3_waysFrom 94 = .ok (.invokestatic 74, 3) := by decide +kernel
theorem dX3_waysFrom_97 : decode cX3_waysFrom 97 = .ok (.ifCond .ne 38, 3) := by decide +kernel
theorem dX3_waysFrom_100 : decode cX3_waysFrom 100 = .ok (.lload_n 3, 1) := by decide +kernel
theorem dX3_waysFrom_101 : decode cX3_waysFrom 101 = .ok (.iload 7, 2) := by decide +kernel
theorem dX3_waysFrom_103 : decode cX3_waysFrom 103 = .ok (.iload 8, 2) := by decide +kernel
theorem dX3_waysFrom_105 : decode cX3_waysFrom 105 = .ok (.iload 11, 2) := by decide +kernel
theorem dX3_waysFrom_107 : decode cX3_waysFrom 107 = .ok (.invokestatic 106, 3) := by decide +kernel
theorem dX3_waysFrom_110 : decode cX3_waysFrom 110 = .ok (.lor, 1) := by decide +kernel
theorem dX3_waysFrom_111 : decode cX3_waysFrom 111 = .ok (.lstore 12, 2) := by decide +kernel
theorem dX3_waysFrom_113 : decode cX3_waysFrom 113 = .ok (.iload 10, 2) := by decide +kernel
theorem dX3_waysFrom_115 : decode cX3_waysFrom 115 = .ok (.aload_n 0, 1) := by decide +kernel
theorem dX3_waysFrom_116 : decode cX3_waysFrom 116 = .ok (.iload_n 1, 1) := by decide +kernel
theorem dX3_waysFrom_117 : decode cX3_waysFrom 117 = .ok (.iconst 1, 1) := by decide +kernel
theorem dX3_waysFrom_118 : decode cX3_waysFrom 118 = .ok (.iadd, 1) := by decide +kernel
theorem dX3_waysFrom_119 : decode cX3_waysFrom 119 = .ok (.iload_n 2, 1) := by decide +kernel
theorem dX3_waysFrom_120 : decode cX3_waysFrom 120 = .ok (.lload 12, 2) := by decide +kernel
theorem dX3_waysFrom_122 : decode cX3_waysFrom 122 = .ok (.iload 5, 2) := by decide +kernel
theorem dX3_waysFrom_124 : decode cX3_waysFrom 124 = .ok (.iload 6, 2) := by decide +kernel
theorem dX3_waysFrom_126 : decode cX3_waysFrom 126 = .ok (.iload 10, 2) := by decide +kernel
theorem dX3_waysFrom_128 : decode cX3_waysFrom 128 = .ok (.isub, 1) := by decide +kernel
theorem dX3_waysFrom_129 : decode cX3_waysFrom 129 = .ok (.invokestatic 138, 3) := by decide +kernel
theorem dX3_waysFrom_132 : decode cX3_waysFrom 132 = .ok (.iadd, 1) := by decide +kernel
theorem dX3_waysFrom_133 : decode cX3_waysFrom 133 = .ok (.istore 10, 2) := by decide +kernel
theorem dX3_waysFrom_135 : decode cX3_waysFrom 135 = .ok (.iinc 11 1, 3) := by decide +kernel
theorem dX3_waysFrom_138 : decode cX3_waysFrom 138 = .ok (.goto (-61), 3) := by decide +kernel
theorem dX3_waysFrom_141 : decode cX3_waysFrom 141 = .ok (.iload 10, 2) := by decide +kernel
theorem dX3_waysFrom_143 : decode cX3_waysFrom 143 = .ok (.ireturn, 1) := by decide +kernel
theorem dX4_init_0 : decode cX4_init 0 = .ok (.aload_n 0, 1) := by decide +kernel
theorem dX4_init_1 : decode cX4_init 1 = .ok (.invokespecial 3, 3) := by decide +kernel
theorem dX4_init_4 : decode cX4_init 4 = .ok (.aload_n 0, 1) := by decide +kernel
theorem dX4_init_5 : decode cX4_init 5 = .ok (.bipush 60, 2) := by decide +kernel
theorem dX4_init_7 : decode cX4_init 7 = .ok (.newarray .char, 2) := by decide +kernel
theorem dX4_init_9 : decode cX4_init 9 = .ok (.putfield 9, 3) := by decide +kernel
theorem dX4_init_12 : decode cX4_init 12 = .ok (.aload_n 0, 1) := by decide +kernel
theorem dX4_init_13 : decode cX4_init 13 = .ok (.iconst 0, 1) := by decide +kernel
theorem dX4_init_14 : decode cX4_init 14 = .ok (.putfield 15, 3) := by decide +kernel
theorem dX4_init_17 : decode cX4_init 17 = .ok (.aload_n 0, 1) := by decide +kernel
theorem dX4_init_18 : decode cX4_init 18 = .ok (.bipush 21, 2) := by decide +kernel
theorem dX4_init_20 : decode cX4_init 20 = .ok (.newarray .int, 2) := by decide +kernel
theorem dX4_init_22 : decode cX4_init 22 = .ok (.putfield 19, 3) := by decide +kernel
theorem dX4_init_25 : decode cX4_init 25 = .ok (.aload_n 0, 1) := by decide +kernel
theorem dX4_init_26 : decode cX4_init 26 = .ok (.iconst 0, 1) := by decide +kernel
theorem dX4_init_27 : decode cX4_init 27 = .ok (.putfield 23, 3) := by decide +kernel
theorem dX4_init_30 : decode cX4_init 30 = .ok (.return_, 1) := by decide +kernel
theorem dX4_length_0 : decode cX4_length 0 = .ok (.aload_n 0, 1) := by decide +kernel
theorem dX4_length_1 : decode cX4_length 1 = .ok (.getfield 15, 3) := by decide +kernel
theorem dX4_length_4 : decode cX4_length 4 = .ok (.ireturn, 1) := by decide +kernel
theorem dX4_empty_0 : decode cX4_empty 0 = .ok (.aload_n 0, 1) := by decide +kernel
theorem dX4_empty_1 : decode cX4_empty 1 = .ok (.iconst 0, 1) := by decide +kernel
theorem dX4_empty_2 : decode cX4_empty 2 = .ok (.putfield 15, 3) := by decide +kernel
theorem dX4_empty_5 : decode cX4_empty 5 = .ok (.return_, 1) := by decide +kernel
theorem dX4_append_0 : decode cX4_append 0 = .ok (.aload_n 0, 1) := by decide +kernel
theorem dX4_append_1 : decode cX4_append 1 = .ok (.getfield 15, 3) := by decide +kernel
theorem dX4_append_4 : decode cX4_append 4 = .ok (.ifCond .lt 15, 3) := by decide +kernel
theorem dX4_append_7 : decode cX4_append 7 = .ok (.aload_n 0, 1) := by decide +kernel
theorem dX4_append_8 : decode cX4_append 8 = .ok (.getfield 15, 3) := by decide +kernel
theorem dX4_append_11 : decode cX4_append 11 = .ok (.aload_n 0, 1) := by decide +kernel
theorem dX4_append_12 : decode cX4_append 12 = .ok (.getfield 9, 3) := by decide +kernel
theorem dX4_append_15 : decode cX4_append 15 = .ok (.arraylength, 1) := by decide +kernel
theorem dX4_append_16 : decode cX4_append 16 = .ok (.if_icmp .lt 5, 3) := by decide +kernel
theorem dX4_append_19 : decode cX4_append 19 = .ok (.iconst 0, 1) := by decide +kernel
theorem dX4_append_20 : decode cX4_append 20 = .ok (.ireturn, 1) := by decide +kernel
theorem dX4_append_21 : decode cX4_append 21 = .ok (.aload_n 0, 1) := by decide +kernel
theorem dX4_append_22 : decode cX4_append 22 = .ok (.getfield 9, 3) := by decide +kernel
theorem dX4_append_25 : decode cX4_append 25 = .ok (.aload_n 0, 1) := by decide +kernel
theorem dX4_append_26 : decode cX4_append 26 = .ok (.getfield 15, 3) := by decide +kernel
theorem dX4_append_29 : decode cX4_append 29 = .ok (.iload_n 1, 1) := by decide +kernel
theorem dX4_append_30 : decode cX4_append 30 = .ok (.castore, 1) := by decide +kernel
theorem dX4_append_31 : decode cX4_append 31 = .ok (.aload_n 0, 1) := by decide +kernel
theorem dX4_append_32 : decode cX4_append 32 = .ok (.dup, 1) := by decide +kernel
theorem dX4_append_33 : decode cX4_append 33 = .ok (.getfield 15, 3) := by decide +kernel
theorem dX4_append_36 : decode cX4_append 36 = .ok (.iconst 1, 1) := by decide +kernel
theorem dX4_append_37 : decode cX4_append 37 = .ok (.iadd, 1) := by decide +kernel
theorem dX4_append_38 : decode cX4_append 38 = .ok (.putfield 15, 3) := by decide +kernel
theorem dX4_append_41 : decode cX4_append 41 = .ok (.iconst 1, 1) := by decide +kernel
theorem dX4_append_42 : decode cX4_append 42 = .ok (.ireturn, 1) := by decide +kernel
set_option maxRecDepth 20000 in
theorem ggX4_read_X4_mayFollow : GoodIn wsX4_read wsX4_mayFollow := goodIn_r _ [7] (by decide +kernel) (by decide +kernel)
set_option maxRecDepth 20000 in
theorem gX4_read_X4_mayFollow : GoodIn wsX4_read (va_wsS RX4 26 yX4_mayFollow wsX4_mayFollow) := goodIn_app (goodIn_of _ (by decide +kernel)) ggX4_read_X4_mayFollow
set_option maxRecDepth 20000 in
theorem ggX4_read_X4_addPair : GoodIn wsX4_read wsX4_addPair := goodIn_r _ [11, 12, 1, 13, 14, 15, 16, 17, 18, 19, 20, 21] (by decide +kernel) (by decide +kernel)
set_option maxRecDepth 20000 in
theorem gX4_read_X4_addPair : GoodIn wsX4_read (wsV RX4 30 RX4 yX4_addPair wsX4_addPair) := goodIn_app (goodIn_of _ (by decide +kernel)) ggX4_read_X4_addPair
theorem dX4_read_0 : decode cX4_read 0 = .ok (.aload_n 0, 1) := by decide +kernel
theorem dX4_read_1 : decode cX4_read 1 = .ok (.iconst 0, 1) := by decide +kernel
theorem dX4_read_2 : decode cX4_read 2 = .ok (.putfield 23, 3) := by decide +kernel
theorem dX4_read_5 : decode cX4_read 5 = .ok (.iconst (-1), 1) := by decide +kernel
theorem dX4_read_6 : decode cX4_read 6 = .ok (.istore_n 1, 1) := by decide +kernel
theorem dX4_read_7 : decode cX4_read 7 = .ok (.iconst (-1), 1) := by decide +kernel
theorem dX4_read_8 : decode cX4_read 8 = .ok (.istore_n 2, 1) := by decide +kernel
theorem dX4_read_9 : decode cX4_read 9 = .ok (.iconst 0, 1) := by decide +kernel
theorem dX4_read_10 : decode cX4_read 10 = .ok (.istore_n 3, 1) := by decide +kernel
theorem dX4_read_11 : decode cX4_read 11 = .ok (.iload_n 3, 1) := by decide +kernel
theorem dX4_read_12 : decode cX4_read 12 = .ok (.aload_n 0, 1) := by decide +kernel
theorem dX4_read_13 : decode cX4_read 13 = .ok (.getfield 15, 3) := by decide +kernel
theorem dX4_read_16 : decode cX4_read 16 = .ok (.if_icmp .ge 114, 3) := by decide +kernel
theorem dX4_read_19 : decode cX4_read 19 = .ok (.iload_n 3, 1) := by decide +kernel
theorem dX4_read_20 : decode cX4_read 20 = .ok (.aload_n 0, 1) := by decide +kernel
theorem dX4_read_21 : decode cX4_read 21 = .ok (.getfield 9, 3) := by decide +kernel
theorem dX4_read_24 : decode cX4_read 24 = .ok (.arraylength, 1) := by decide +kernel
theorem dX4_read_25 : decode cX4_read 25 = .ok (.if_icmp .ge 105, 3) := by decide +kernel
theorem dX4_read_28 : decode cX4_read 28 = .ok (.aload_n 0, 1) := by decide +kernel
theorem dX4_read_29 : decode cX4_read 29 = .ok (.getfield 9, 3) := by decide +kernel
theorem dX4_read_32 : decode cX4_read 32 = .ok (.iload_n 3, 1) := by decide +kernel
theorem dX4_read_33 : decode cX4_read 33 = .ok (.caload, 1) := by decide +kernel
theorem dX4_read_34 : decode cX4_read 34 = .ok (.istore 4, 2) := by decide +kernel
theorem dX4_read_36 : decode cX4_read 36 = .ok (.iload_n 2, 1) := by decide +kernel
theorem dX4_read_37 : decode cX4_read 37 = .ok (.iload 4, 2) := by decide +kernel
theorem dX4_read_39 : decode cX4_read 39 = .ok (.invokestatic 26, 3) := by decide +kernel
theorem dX4_read_42 : decode cX4_read 42 = .ok (.ifCond .eq 26, 3) := by decide +kernel
theorem dX4_read_45 : decode cX4_read 45 = .ok (.iload_n 2, 1) := by decide +kernel
theorem dX4_read_46 : decode cX4_read 46 = .ok (.iconst (-1), 1) := by decide +kernel
theorem dX4_read_47 : decode cX4_read 47 = .ok (.if_icmp .ne 7, 3) := by decide +kernel
theorem dX4_read_50 : decode cX4_read 50 = .ok (.iconst 0, 1) := by decide +kernel
theorem dX4_read_51 : decode cX4_read 51 = .ok (.goto 7, 3) := by decide +kernel
theorem dX4_read_54 : decode cX4_read 54 = .ok (.bipush 10, 2) := by decide +kernel
theorem dX4_read_56 : decode cX4_read 56 = .ok (.iload_n 2, 1) := by decide +kernel
theorem dX4_read_57 : decode cX4_read 57 = .ok (.imul, 1) := by decide +kernel
theorem dX4_read_58 : decode cX4_read 58 = .ok (.iload 4, 2) := by decide +kernel
theorem dX4_read_60 : decode cX4_read 60 = .ok (.bipush 48, 2) := by decide +kernel
theorem dX4_read_62 : decode cX4_read 62 = .ok (.isub, 1) := by decide +kernel
theorem dX4_read_63 : decode cX4_read 63 = .ok (.iadd, 1) := by decide +kernel
theorem dX4_read_64 : decode cX4_read 64 = .ok (.istore_n 2, 1) := by decide +kernel
theorem dX4_read_65 : decode cX4_read 65 = .ok (.goto 59, 3) := by decide +kernel
theorem dX4_read_68 : decode cX4_read 68 = .ok (.iload 4, 2) := by decide +kernel
theorem dX4_read_70 : decode cX4_read 70 = .ok (.bipush 45, 2) := by decide +kernel
theorem dX4_read_72 : decode cX4_read 72 = .ok (.if_icmp .ne 20, 3) := by decide +kernel
theorem dX4_read_75 : decode cX4_read 75 = .ok (.iload_n 2, 1) := by decide +kernel
theorem dX4_read_76 : decode cX4_read 76 = .ok (.iconst (-1), 1) := by decide +kernel
theorem dX4_read_77 : decode cX4_read 77 = .ok (.if_icmp .eq 15, 3) := by decide +kernel
theorem dX4_read_80 : decode cX4_read 80 = .ok (.iload_n 1, 1) := by decide +kernel
theorem dX4_read_81 : decode cX4_read 81 = .ok (.iconst (-1), 1) := by decide +kernel
theorem dX4_read_82 : decode cX4_read 82 = .ok (.if_icmp .ne 10, 3) := by decide +kernel
theorem dX4_read_85 : decode cX4_read 85 = .ok (.iload_n 2, 1) := by decide +kernel
theorem dX4_read_86 : decode cX4_read 86 = .ok (.istore_n 1, 1) := by decide +kernel
theorem dX4_read_87 : decode cX4_read 87 = .ok (.iconst (-1), 1) := by decide +kernel
theorem dX4_read_88 : decode cX4_read 88 = .ok (.istore_n 2, 1) := by decide +kernel
theorem dX4_read_89 : decode cX4_read 89 = .ok (.goto 35, 3) := by decide +kernel
theorem dX4_read_92 : decode cX4_read 92 = .ok (.iload 4, 2) := by decide +kernel
theorem dX4_read_94 : decode cX4_read 94 = .ok (.bipush 44, 2) := by decide +kernel
theorem dX4_read_96 : decode cX4_read 96 = .ok (.if_icmp .ne 26, 3) := by decide +kernel
theorem dX4_read_99 : decode cX4_read 99 = .ok (.iload_n 2, 1) := by decide +kernel
theorem dX4_read_100 : decode cX4_read 100 = .ok (.iconst (-1), 1) := by decide +kernel
theorem dX4_read_101 : decode cX4_read 101 = .ok (.if_icmp .eq 21, 3) := by decide +kernel
theorem dX4_read_104 : decode cX4_read 104 = .ok (.iload_n 1, 1) := by decide +kernel
theorem dX4_read_105 : decode cX4_read 105 = .ok (.iconst (-1), 1) := by decide +kernel
theorem dX4_read_106 : decode cX4_read 106 = .ok (.if_icmp .eq 16, 3) := by decide +kernel
theorem dX4_read_109 : decode cX4_read 109 = .ok (.aload_n 0, 1) := by decide +kernel
theorem dX4_read_110 : decode cX4_read 110 = .ok (.iload_n 1, 1) := by decide +kernel
theorem dX4_read_111 : decode cX4_read 111 = .ok (.iload_n 2, 1) := by decide +kernel
theorem dX4_read_112 : decode cX4_read 112 = .ok (.invokevirtual 30, 3) := by decide +kernel
theorem dX4_read_115 : decode cX4_read 115 = .ok (.iconst (-1), 1) := by decide +kernel
theorem dX4_read_116 : decode cX4_read 116 = .ok (.istore_n 1, 1) := by decide +kernel
theorem dX4_read_117 : decode cX4_read 117 = .ok (.iconst (-1), 1) := by decide +kernel
theorem dX4_read_118 : decode cX4_read 118 = .ok (.istore_n 2, 1) := by decide +kernel
theorem dX4_read_119 : decode cX4_read 119 = .ok (.goto 5, 3) := by decide +kernel
theorem dX4_read_122 : decode cX4_read 122 = .ok (.iload_n 3, 1) := by decide +kernel
theorem dX4_read_123 : decode cX4_read 123 = .ok (.ireturn, 1) := by decide +kernel
theorem dX4_read_124 : decode cX4_read 124 = .ok (.iinc 3 1, 3) := by decide +kernel
theorem dX4_read_127 : decode cX4_read 127 = .ok (.goto (-116), 3) := by decide +kernel
theorem dX4_read_130 : decode cX4_read 130 = .ok (.iload_n 1, 1) := by decide +kernel
theorem dX4_read_131 : decode cX4_read 131 = .ok (.iconst (-1), 1) := by decide +kernel
theorem dX4_read_132 : decode cX4_read 132 = .ok (.if_icmp .eq 8, 3) := by decide +kernel
theorem dX4_read_135 : decode cX4_read 135 = .ok (.iload_n 2, 1) := by decide +kernel
theorem dX4_read_136 : decode cX4_read 136 = .ok (.iconst (-1), 1) := by decide +kernel
theorem dX4_read_137 : decode cX4_read 137 = .ok (.if_icmp .ne 8, 3) := by decide +kernel
theorem dX4_read_140 : decode cX4_read 140 = .ok (.aload_n 0, 1) := by decide +kernel
theorem dX4_read_141 : decode cX4_read 141 = .ok (.getfield 15, 3) := by decide +kernel
theorem dX4_read_144 : decode cX4_read 144 = .ok (.ireturn, 1) := by decide +kernel
theorem dX4_read_145 : decode cX4_read 145 = .ok (.aload_n 0, 1) := by decide +kernel
theorem dX4_read_146 : decode cX4_read 146 = .ok (.iload_n 1, 1) := by decide +kernel
theorem dX4_read_147 : decode cX4_read 147 = .ok (.iload_n 2, 1) := by decide +kernel
theorem dX4_read_148 : decode cX4_read 148 = .ok (.invokevirtual 30, 3) := by decide +kernel
theorem dX4_read_151 : decode cX4_read 151 = .ok (.iconst (-1), 1) := by decide +kernel
theorem dX4_read_152 : decode cX4_read 152 = .ok (.ireturn, 1) := by decide +kernel
theorem dX4_mayFollow_0 : decode cX4_mayFollow 0 = .ok (.iload_n 1, 1) := by decide +kernel
theorem dX4_mayFollow_1 : decode cX4_mayFollow 1 = .ok (.bipush 48, 2) := by decide +kernel
theorem dX4_mayFollow_3 : decode cX4_mayFollow 3 = .ok (.if_icmp .lt 9, 3) := by decide +kernel
theorem dX4_mayFollow_6 : decode cX4_mayFollow 6 = .ok (.iload_n 1, 1) := by decide +kernel
theorem dX4_mayFollow_7 : decode cX4_mayFollow 7 = .ok (.bipush 57, 2) := by decide +kernel
theorem dX4_mayFollow_9 : decode cX4_mayFollow 9 = .ok (.if_icmp .le 5, 3) := by decide +kernel
theorem dX4_mayFollow_12 : decode cX4_mayFollow 12 = .ok (.iconst 0, 1) := by decide +kernel
theorem dX4_mayFollow_13 : decode cX4_mayFollow 13 = .ok (.ireturn, 1) := by decide +kernel
theorem dX4_mayFollow_14 : decode cX4_mayFollow 14 = .ok (.iload_n 0, 1) := by decide +kernel
theorem dX4_mayFollow_15 : decode cX4_mayFollow 15 = .ok (.iconst (-1), 1) := by decide +kernel
theorem dX4_mayFollow_16 : decode cX4_mayFollow 16 = .ok (.if_icmp .eq 14, 3) := by decide +kernel
theorem dX4_mayFollow_19 : decode cX4_mayFollow 19 = .ok (.iload_n 0, 1) := by decide +kernel
theorem dX4_mayFollow_20 : decode cX4_mayFollow 20 = .ok (.iconst 1, 1) := by decide +kernel
theorem dX4_mayFollow_21 : decode cX4_mayFollow 21 = .ok (.if_icmp .ne 13, 3) := by decide +kernel
theorem dX4_mayFollow_24 : decode cX4_mayFollow 24 = .ok (.iload_n 1, 1) := by decide +kernel
theorem dX4_mayFollow_25 : decode cX4_mayFollow 25 = .ok (.bipush 51, 2) := by decide +kernel
theorem dX4_mayFollow_27 : decode cX4_mayFollow 27 = .ok (.if_icmp .gt 7, 3) := by decide +kernel
theorem dX4_mayFollow_30 : decode cX4_mayFollow 30 = .ok (.iconst 1, 1) := by decide +kernel
theorem dX4_mayFollow_31 : decode cX4_mayFollow 31 = .ok (.goto 4, 3) := by decide +kernel
theorem dX4_mayFollow_34 : decode cX4_mayFollow 34 = .ok (.iconst 0, 1) := by decide +kernel
theorem dX4_mayFollow_35 : decode cX4_mayFollow 35 = .ok (.ireturn, 1) := by decide +kernel
set_option maxRecDepth 20000 in
theorem ggX4_addPair_X6_bit : GoodIn wsX4_addPair wsX6_bit := goodIn_r _ [5] (by decide +kernel) (by decide +kernel)
set_option maxRecDepth 20000 in
theorem gX4_addPair_X6_bit_n34 : GoodIn wsX4_addPair (wsX6_bit) := ggX4_addPair_X6_bit
set_option maxRecDepth 20000 in
theorem ggX4_addPair_X6_put : GoodIn wsX4_addPair wsX6_put := goodIn_r _ [7] (by decide +kernel) (by decide +kernel)
set_option maxRecDepth 20000 in
theorem gX4_addPair_X6_put_n38 : GoodIn wsX4_addPair (wsX6_put) := ggX4_addPair_X6_put
theorem dX4_addPair_0 : decode cX4_addPair 0 = .ok (.aload_n 0, 1) := by decide +kernel
theorem dX4_addPair_1 : decode cX4_addPair 1 = .ok (.getfield 19, 3) := by decide +kernel
theorem dX4_addPair_4 : decode cX4_addPair 4 = .ok (.aload_n 0, 1) := by decide +kernel
theorem dX4_addPair_5 : decode cX4_addPair 5 = .ok (.getfield 23, 3) := by decide +kernel
theorem dX4_addPair_8 : decode cX4_addPair 8 = .ok (.iload_n 1, 1) := by decide +kernel
theorem dX4_addPair_9 : decode cX4_addPair 9 = .ok (.invokestatic 34, 3) := by decide +kernel
theorem dX4_addPair_12 : decode cX4_addPair 12 = .ok (.iload_n 2, 1) := by decide +kernel
theorem dX4_addPair_13 : decode cX4_addPair 13 = .ok (.invokestatic 34, 3) := by decide +kernel
theorem dX4_addPair_16 : decode cX4_addPair 16 = .ok (.ior, 1) := by decide +kernel
theorem dX4_addPair_17 : decode cX4_addPair 17 = .ok (.invokestatic 38, 3) := by decide +kernel
theorem dX4_addPair_20 : decode cX4_addPair 20 = .ok (.aload_n 0, 1) := by decide +kernel
theorem dX4_addPair_21 : decode cX4_addPair 21 = .ok (.dup, 1) := by decide +kernel
theorem dX4_addPair_22 : decode cX4_addPair 22 = .ok (.getfield 23, 3) := by decide +kernel
theorem dX4_addPair_25 : decode cX4_addPair 25 = .ok (.iconst 1, 1) := by decide +kernel
theorem dX4_addPair_26 : decode cX4_addPair 26 = .ok (.iadd, 1) := by decide +kernel
theorem dX4_addPair_27 : decode cX4_addPair 27 = .ok (.putfield 23, 3) := by decide +kernel
theorem dX4_addPair_30 : decode cX4_addPair 30 = .ok (.return_, 1) := by decide +kernel
set_option maxRecDepth 20000 in
theorem ggX4_tiesAKnotToItself_X6_at : GoodIn wsX4_tiesAKnotToItself wsX6_at := goodIn_r _ [5] (by decide +kernel) (by decide +kernel)
set_option maxRecDepth 20000 in
theorem gX4_tiesAKnotToItself_X6_at_n42 : GoodIn wsX4_tiesAKnotToItself (wsX6_at) := ggX4_tiesAKnotToItself_X6_at
set_option maxRecDepth 20000 in
theorem ggX4_tiesAKnotToItself_J6_bitCount_0f7a4 : GoodIn wsX4_tiesAKnotToItself wsJ6_bitCount_0f7a4 := goodIn_r _ [9, 10, 11, 12] (by decide +kernel) (by decide +kernel)
set_option maxRecDepth 20000 in
theorem gX4_tiesAKnotToItself_J6_bitCount_0f7a4 : GoodIn wsX4_tiesAKnotToItself (va_wsS RX4 46 yJ6_bitCount_0f7a4 wsJ6_bitCount_0f7a4) := goodIn_app (goodIn_of _ (by decide +kernel)) ggX4_tiesAKnotToItself_J6_bitCount_0f7a4
theorem dX4_tiesAKnotToItself_0 : decode cX4_tiesAKnotToItself 0 = .ok (.iconst 0, 1) := by decide +kernel
theorem dX4_tiesAKnotToItself_1 : decode cX4_tiesAKnotToItself 1 = .ok (.istore_n 1, 1) := by decide +kernel
theorem dX4_tiesAKnotToItself_2 : decode cX4_tiesAKnotToItself 2 = .ok (.iload_n 1, 1) := by decide +kernel
theorem dX4_tiesAKnotToItself_3 : decode cX4_tiesAKnotToItself 3 = .ok (.aload_n 0, 1) := by decide +kernel
theorem dX4_tiesAKnotToItself_4 : decode cX4_tiesAKnotToItself 4 = .ok (.getfield 23, 3) := by decide +kernel
theorem dX4_tiesAKnotToItself_7 : decode cX4_tiesAKnotToItself 7 = .ok (.if_icmp .ge 26, 3) := by decide +kernel
theorem dX4_tiesAKnotToItself_10 : decode cX4_tiesAKnotToItself 10 = .ok (.aload_n 0, 1) := by decide +kernel
theorem dX4_tiesAKnotToItself_11 : decode cX4_tiesAKnotToItself 11 = .ok (.getfield 19, 3) := by decide +kernel
theorem dX4_tiesAKnotToItself_14 : decode cX4_tiesAKnotToItself 14 = .ok (.iload_n 1, 1) := by decide +kernel
theorem dX4_tiesAKnotToItself_15 : decode cX4_tiesAKnotToItself 15 = .ok (.invokestatic 42, 3) := by decide +kernel
theorem dX4_tiesAKnotToItself_18 : decode cX4_tiesAKnotToItself 18 = .ok (.invokestatic 46, 3) := by decide +kernel
theorem dX4_tiesAKnotToItself_21 : decode cX4_tiesAKnotToItself 21 = .ok (.iconst 1, 1) := by decide +kernel
theorem dX4_tiesAKnotToItself_22 : decode cX4_tiesAKnotToItself 22 = .ok (.if_icmp .ne 5, 3) := by decide +kernel
theorem dX4_tiesAKnotToItself_25 : decode cX4_tiesAKnotToItself 25 = .ok (.iconst 1, 1) := by decide +kernel
theorem dX4_tiesAKnotToItself_26 : decode cX4_tiesAKnotToItself 26 = .ok (.ireturn, 1) := by decide +kernel
theorem dX4_tiesAKnotToItself_27 : decode cX4_tiesAKnotToItself 27 = .ok (.iinc 1 1, 3) := by decide +kernel
theorem dX4_tiesAKnotToItself_30 : decode cX4_tiesAKnotToItself 30 = .ok (.goto (-28), 3) := by decide +kernel
theorem dX4_tiesAKnotToItself_33 : decode cX4_tiesAKnotToItself 33 = .ok (.iconst 0, 1) := by decide +kernel
theorem dX4_tiesAKnotToItself_34 : decode cX4_tiesAKnotToItself 34 = .ok (.ireturn, 1) := by decide +kernel
set_option maxRecDepth 20000 in
theorem ggX4_tieInto_X2_empty : GoodIn wsX4_tieInto wsX2_empty := goodIn_r _ [7, 8, 9, 70, 71, 72, 73] (by decide +kernel) (by decide +kernel)
set_option maxRecDepth 20000 in
theorem gX4_tieInto_X2_empty : GoodIn wsX4_tieInto (wsV RX4 51 RX2 yX2_empty wsX2_empty) := goodIn_app (goodIn_of _ (by decide +kernel)) ggX4_tieInto_X2_empty
set_option maxRecDepth 20000 in
theorem ggX4_tieInto_X6_at : GoodIn wsX4_tieInto wsX6_at := goodIn_r _ [12] (by decide +kernel) (by decide +kernel)
set_option maxRecDepth 20000 in
theorem gX4_tieInto_X6_at_n42 : GoodIn wsX4_tieInto (wsX6_at) := ggX4_tieInto_X6_at
set_option maxRecDepth 20000 in
theorem ggX4_tieInto_X2_mayTie : GoodIn wsX4_tieInto wsX2_mayTie := goodIn_r _ [16, 17, 18, 19, 6, 20, 9, 21, 22, 23, 24, 25, 10, 11, 12, 26, 27, 28, 29, 30, 31, 32, 33, 34, 35, 36, 37, 38, 39, 40, 41, 42, 43, 44, 45, 46, 47, 48, 49, 70, 71, 72, 73] (by decide +kernel) (by decide +kernel)
set_option maxRecDepth 20000 in
theorem gX4_tieInto_X2_mayTie : GoodIn wsX4_tieInto (wsV RX4 56 RX2 yX2_mayTie wsX2_mayTie) := goodIn_app (goodIn_of _ (by decide +kernel)) ggX4_tieInto_X2_mayTie
set_option maxRecDepth 20000 in
theorem ggX4_tieInto_X2_tie : GoodIn wsX4_tieInto wsX2_tie := goodIn_r _ [53, 9, 25, 54, 55, 11, 56, 70, 71, 72, 73] (by decide +kernel) (by decide +kernel)
set_option maxRecDepth 20000 in
theorem gX4_tieInto_X2_tie : GoodIn wsX4_tieInto (wsV RX4 60 RX2 yX2_tie wsX2_tie) := goodIn_app (goodIn_of _ (by decide +kernel)) ggX4_tieInto_X2_tie
set_option maxRecDepth 20000 in
theorem ggX4_tieInto_J6_numberOfLeadingZeros_0f7a4 : GoodIn wsX4_tieInto wsJ6_numberOfLeadingZeros_0f7a4 := goodIn_r _ [33, 30] (by decide +kernel) (by decide +kernel)
set_option maxRecDepth 20000 in
theorem gX4_tieInto_J6_numberOfLeadingZeros_0f7a4 : GoodIn wsX4_tieInto (va_wsS RX4 64 yJ6_numberOfLeadingZeros_0f7a4 wsJ6_numberOfLeadingZeros_0f7a4) := goodIn_app (goodIn_of _ (by decide +kernel)) ggX4_tieInto_J6_numberOfLeadingZeros_0f7a4
set_option maxRecDepth 20000 in
theorem ggX4_tieInto_X2_addKnots : GoodIn wsX4_tieInto wsX2_addKnots := goodIn_r _ [61, 8, 62, 63, 64, 65, 70, 71, 72, 73] (by decide +kernel) (by decide +kernel)
set_option maxRecDepth 20000 in
theorem gX4_tieInto_X2_addKnots : GoodIn wsX4_tieInto (wsV RX4 67 RX2 yX2_addKnots wsX2_addKnots) := goodIn_app (goodIn_of _ (by decide +kernel)) ggX4_tieInto_X2_addKnots
theorem dX4_tieInto_0 : decode cX4_tieInto 0 = .ok (.iconst 0, 1) := by decide +kernel
theorem dX4_tieInto_1 : decode cX4_tieInto 1 = .ok (.istore_n 2, 1) := by decide +kernel
theorem dX4_tieInto_2 : decode cX4_tieInto 2 = .ok (.aload_n 1, 1) := by decide +kernel
theorem dX4_tieInto_3 : decode cX4_tieInto 3 = .ok (.invokevirtual 51, 3) := by decide +kernel
theorem dX4_tieInto_6 : decode cX4_tieInto 6 = .ok (.iconst 0, 1) := by decide +kernel
theorem dX4_tieInto_7 : decode cX4_tieInto 7 = .ok (.istore_n 3, 1) := by decide +kernel
theorem dX4_tieInto_8 : decode cX4_tieInto 8 = .ok (.iload_n 3, 1) := by decide +kernel
theorem dX4_tieInto_9 : decode cX4_tieInto 9 = .ok (.aload_n 0, 1) := by decide +kernel
theorem dX4_tieInto_10 : decode cX4_tieInto 10 = .ok (.getfield 23, 3) := by decide +kernel
theorem dX4_tieInto_13 : decode cX4_tieInto 13 = .ok (.if_icmp .ge 49, 3) := by decide +kernel
theorem dX4_tieInto_16 : decode cX4_tieInto 16 = .ok (.aload_n 1, 1) := by decide +kernel
theorem dX4_tieInto_17 : decode cX4_tieInto 17 = .ok (.aload_n 0, 1) := by decide +kernel
theorem dX4_tieInto_18 : decode cX4_tieInto 18 = .ok (.getfield 19, 3) := by decide +kernel
theorem dX4_tieInto_21 : decode cX4_tieInto 21 = .ok (.iload_n 3, 1) := by decide +kernel
theorem dX4_tieInto_22 : decode cX4_tieInto 22 = .ok (.invokestatic 42, 3) := by decide +kernel
theorem dX4_tieInto_25 : decode cX4_tieInto 25 = .ok (.invokevirtual 56, 3) := by decide +kernel
theorem dX4_tieInto_28 : decode cX4_tieInto 28 = .ok (.ifCond .ne 5, 3) := by decide +kernel
theorem dX4_tieInto_31 : decode cX4_tieInto 31 = .ok (.iconst 0, 1) := by decide +kernel
theorem dX4_tieInto_32 : decode cX4_tieInto 32 = .ok (.ireturn, 1) := by decide +kernel
theorem dX4_tieInto_33 : decode cX4_tieInto 33 = .ok (.aload_n 1, 1) := by decide +kernel
theorem dX4_tieInto_34 : decode cX4_tieInto 34 = .ok (.aload_n 0, 1) := by decide +kernel
theorem dX4_tieInto_35 : decode cX4_tieInto 35 = .ok (.getfield 19, 3) := by decide +kernel
theorem dX4_tieInto_38 : decode cX4_tieInto 38 = .ok (.iload_n 3, 1) := by decide +kernel
theorem dX4_tieInto_39 : decode cX4_tieInto 39 = .ok (.invokestatic 42, 3) := by decide +kernel
theorem dX4_tieInto_42 : decode cX4_tieInto 42 = .ok (.invokevirtual 60, 3) := by decide +kernel
theorem dX4_tieInto_45 : decode cX4_tieInto 45 = .ok (.iload_n 2, 1) := by decide +kernel
theorem dX4_tieInto_46 : decode cX4_tieInto 46 = .ok (.aload_n 0, 1) := by decide +kernel
theorem dX4_tieInto_47 : decode cX4_tieInto 47 = .ok (.getfield 19, 3) := by decide +kernel
theorem dX4_tieInto_50 : decode cX4_tieInto 50 = .ok (.iload_n 3, 1) := by decide +kernel
theorem dX4_tieInto_51 : decode cX4_tieInto 51 = .ok (.invokestatic 42, 3) := by decide +kernel
theorem dX4_tieInto_54 : decode cX4_tieInto 54 = .ok (.ior, 1) := by decide +kernel
theorem dX4_tieInto_55 : decode cX4_tieInto 55 = .ok (.istore_n 2, 1) := by decide +kernel
theorem dX4_tieInto_56 : decode cX4_tieInto 56 = .ok (.iinc 3 1, 3) := by decide +kernel
theorem dX4_tieInto_59 : decode cX4_tieInto 59 = .ok (.goto (-51), 3) := by decide +kernel
theorem dX4_tieInto_62 : decode cX4_tieInto 62 = .ok (.aload_n 1, 1) := by decide +kernel
theorem dX4_tieInto_63 : decode cX4_tieInto 63 = .ok (.bipush 32, 2) := by decide +kernel
theorem dX4_tieInto_65 : decode cX4_tieInto 65 = .ok (.iload_n 2, 1) := by decide +kernel
theorem dX4_tieInto_66 : decode cX4_tieInto 66 = .ok (.invokestatic 64, 3) := by decide +kernel
theorem dX4_tieInto_69 : decode cX4_tieInto 69 = .ok (.isub, 1) := by decide +kernel
theorem dX4_tieInto_70 : decode cX4_tieInto 70 = .ok (.invokevirtual 67, 3) := by decide +kernel
theorem dX4_tieInto_73 : decode cX4_tieInto 73 = .ok (.iconst 1, 1) := by decide +kernel
theorem dX4_tieInto_74 : decode cX4_tieInto 74 = .ok (.ireturn, 1) := by decide +kernel
set_option maxRecDepth 20000 in
theorem ggX5_spread_X2_threads : GoodIn wsX5_spread wsX2_threads := goodIn_r _ [5, 6, 17, 18, 19, 20] (by decide +kernel) (by decide +kernel)
set_option maxRecDepth 20000 in
theorem gX5_spread_X2_threads : GoodIn wsX5_spread (wsV RX5 9 RX2 yX2_threads wsX2_threads) := goodIn_app (goodIn_of _ (by decide +kernel)) ggX5_spread_X2_threads
set_option maxRecDepth 20000 in
theorem ggX5_spread_X6_holds : GoodIn wsX5_spread wsX6_holds := goodIn_r _ [9] (by decide +kernel) (by decide +kernel)
set_option maxRecDepth 20000 in
theorem gX5_spread_X6_holds_n15 : GoodIn wsX5_spread (wsX6_holds) := ggX5_spread_X6_holds
set_option maxRecDepth 20000 in
theorem ggX5_spread_X2_ends : GoodIn wsX5_spread wsX2_ends := goodIn_r _ [13, 14, 15, 8, 16, 17, 18, 19, 20] (by decide +kernel) (by decide +kernel)
set_option maxRecDepth 20000 in
theorem gX5_spread_X2_ends : GoodIn wsX5_spread (wsV RX5 19 RX2 yX2_ends wsX2_ends) := goodIn_app (goodIn_of _ (by decide +kernel)) ggX5_spread_X2_ends
theorem dX5_spread_0 : decode cX5_spread 0 = .ok (.iload_n 1, 1) := by decide +kernel
theorem dX5_spread_1 : decode cX5_spread 1 = .ok (.istore_n 3, 1) := by decide +kernel
theorem dX5_spread_2 : decode cX5_spread 2 = .ok (.iconst 0, 1) := by decide +kernel
theorem dX5_spread_3 : decode cX5_spread 3 = .ok (.istore 4, 2) := by decide +kernel
theorem dX5_spread_5 : decode cX5_spread 5 = .ok (.iload 4, 2) := by decide +kernel
theorem dX5_spread_7 : decode cX5_spread 7 = .ok (.aload_n 0, 1) := by decide +kernel
theorem dX5_spread_8 : decode cX5_spread 8 = .ok (.invokevirtual 9, 3) := by decide +kernel
theorem dX5_spread_11 : decode cX5_spread 11 = .ok (.if_icmp .ge 38, 3) := by decide +kernel
theorem dX5_spread_14 : decode cX5_spread 14 = .ok (.iload_n 2, 1) := by decide +kernel
theorem dX5_spread_15 : decode cX5_spread 15 = .ok (.iload 4, 2) := by decide +kernel
theorem dX5_spread_17 : decode cX5_spread 17 = .ok (.invokestatic 15, 3) := by decide +kernel
theorem dX5_spread_20 : decode cX5_spread 20 = .ok (.ifCond .eq 23, 3) := by decide +kernel
theorem dX5_spread_23 : decode cX5_spread 23 = .ok (.aload_n 0, 1) := by decide +kernel
theorem dX5_spread_24 : decode cX5_spread 24 = .ok (.iload 4, 2) := by decide +kernel
theorem dX5_spread_26 : decode cX5_spread 26 = .ok (.invokevirtual 19, 3) := by decide +kernel
theorem dX5_spread_29 : decode cX5_spread 29 = .ok (.iload_n 1, 1) := by decide +kernel
theorem dX5_spread_30 : decode cX5_spread 30 = .ok (.iand, 1) := by decide +kernel
theorem dX5_spread_31 : decode cX5_spread 31 = .ok (.ifCond .eq 12, 3) := by decide +kernel
theorem dX5_spread_34 : decode cX5_spread 34 = .ok (.iload_n 3, 1) := by decide +kernel
theorem dX5_spread_35 : decode cX5_spread 35 = .ok (.aload_n 0, 1) := by decide +kernel
theorem dX5_spread_36 : decode cX5_spread 36 = .ok (.iload 4, 2) := by decide +kernel
theorem dX5_spread_38 : decode cX5_spread 38 = .ok (.invokevirtual 19, 3) := by decide +kernel
theorem dX5_spread_41 : decode cX5_spread 41 = .ok (.ior, 1) := by decide +kernel
theorem dX5_spread_42 : decode cX5_spread 42 = .ok (.istore_n 3, 1) := by decide +kernel
theorem dX5_spread_43 : decode cX5_spread 43 = .ok (.iinc 4 1, 3) := by decide +kernel
theorem dX5_spread_46 : decode cX5_spread 46 = .ok (.goto (-41), 3) := by decide +kernel
theorem dX5_spread_49 : decode cX5_spread 49 = .ok (.iload_n 3, 1) := by decide +kernel
theorem dX5_spread_50 : decode cX5_spread 50 = .ok (.ireturn, 1) := by decide +kernel
set_option maxRecDepth 20000 in
theorem ggX5_reached_X5_spread : GoodIn wsX5_reached wsX5_spread := goodIn_r _ [4, 5, 6, 7, 8, 9, 10, 11, 12, 13, 14, 15, 16, 17, 18, 19, 20, 21, 22, 23, 24] (by decide +kernel) (by decide +kernel)
set_option maxRecDepth 20000 in
theorem gX5_reached_X5_spread : GoodIn wsX5_reached (va_wsS RX5 23 yX5_spread wsX5_spread) := goodIn_app (goodIn_of _ (by decide +kernel)) ggX5_reached_X5_spread
theorem dX5_reached_0 : decode cX5_reached 0 = .ok (.iload_n 1, 1) := by decide +kernel
theorem dX5_reached_1 : decode cX5_reached 1 = .ok (.istore_n 3, 1) := by decide +kernel
theorem dX5_reached_2 : decode cX5_reached 2 = .ok (.iconst 0, 1) := by decide +kernel
theorem dX5_reached_3 : decode cX5_reached 3 = .ok (.istore 4, 2) := by decide +kernel
theorem dX5_reached_5 : decode cX5_reached 5 = .ok (.iload 4, 2) := by decide +kernel
theorem dX5_reached_7 : decode cX5_reached 7 = .ok (.bipush 14, 2) := by decide +kernel
theorem dX5_reached_9 : decode cX5_reached 9 = .ok (.if_icmp .ge 29, 3) := by decide +kernel
theorem dX5_reached_12 : decode cX5_reached 12 = .ok (.aload_n 0, 1) := by decide +kernel
theorem dX5_reached_13 : decode cX5_reached 13 = .ok (.iload_n 3, 1) := by decide +kernel
theorem dX5_reached_14 : decode cX5_reached 14 = .ok (.iload_n 2, 1) := by decide +kernel
theorem dX5_reached_15 : decode cX5_reached 15 = .ok (.invokestatic 23, 3) := by decide +kernel
theorem dX5_reached_18 : decode cX5_reached 18 = .ok (.istore 5, 2) := by decide +kernel
theorem dX5_reached_20 : decode cX5_reached 20 = .ok (.iload 5, 2) := by decide +kernel
theorem dX5_reached_22 : decode cX5_reached 22 = .ok (.iload_n 3, 1) := by decide +kernel
theorem dX5_reached_23 : decode cX5_reached 23 = .ok (.if_icmp .ne 6, 3) := by decide +kernel
theorem dX5_reached_26 : decode cX5_reached 26 = .ok (.goto 12, 3) := by decide +kernel
theorem dX5_reached_29 : decode cX5_reached 29 = .ok (.iload 5, 2) := by decide +kernel
theorem dX5_reached_31 : decode cX5_reached 31 = .ok (.istore_n 3, 1) := by decide +kernel
theorem dX5_reached_32 : decode cX5_reached 32 = .ok (.iinc 4 1, 3) := by decide +kernel
theorem dX5_reached_35 : decode cX5_reached 35 = .ok (.goto (-30), 3) := by decide +kernel
theorem dX5_reached_38 : decode cX5_reached 38 = .ok (.iload_n 3, 1) := by decide +kernel
theorem dX5_reached_39 : decode cX5_reached 39 = .ok (.ireturn, 1) := by decide +kernel
set_option maxRecDepth 20000 in
theorem ggX5_circleThrough_X2_allThreads : GoodIn wsX5_circleThrough wsX2_allThreads := goodIn_r _ [5, 6, 7, 8, 9, 44, 45, 46, 47] (by decide +kernel) (by decide +kernel)
set_option maxRecDepth 20000 in
theorem gX5_circleThrough_X2_allThreads : GoodIn wsX5_circleThrough (wsV RX5 29 RX2 yX2_allThreads wsX2_allThreads) := goodIn_app (goodIn_of _ (by decide +kernel)) ggX5_circleThrough_X2_allThreads
set_option maxRecDepth 20000 in
theorem ggX5_circleThrough_X6_bit : GoodIn wsX5_circleThrough wsX6_bit := goodIn_r _ [9] (by decide +kernel) (by decide +kernel)
set_option maxRecDepth 20000 in
theorem gX5_circleThrough_X6_bit_n32 : GoodIn wsX5_circleThrough (wsX6_bit) := ggX5_circleThrough_X6_bit
set_option maxRecDepth 20000 in
theorem ggX5_circleThrough_X2_greaterKnot : GoodIn wsX5_circleThrough wsX2_greaterKnot := goodIn_r _ [13, 14, 15, 16, 4, 17, 18, 19, 8, 20, 21, 22, 23, 24, 25, 44, 45, 46, 47] (by decide +kernel) (by decide +kernel)
set_option maxRecDepth 20000 in
theorem gX5_circleThrough_X2_greaterKnot : GoodIn wsX5_circleThrough (wsV RX5 35 RX2 yX2_greaterKnot wsX2_greaterKnot) := goodIn_app (goodIn_of _ (by decide +kernel)) ggX5_circleThrough_X2_greaterKnot
set_option maxRecDepth 20000 in
theorem ggX5_circleThrough_X2_lesserKnot : GoodIn wsX5_circleThrough wsX2_lesserKnot := goodIn_r _ [29, 14, 15, 16, 4, 17, 18, 19, 8, 20, 30, 31, 23, 32, 25, 44, 45, 46, 47] (by decide +kernel) (by decide +kernel)
set_option maxRecDepth 20000 in
theorem gX5_circleThrough_X2_lesserKnot : GoodIn wsX5_circleThrough (wsV RX5 38 RX2 yX2_lesserKnot wsX2_lesserKnot) := goodIn_app (goodIn_of _ (by decide +kernel)) ggX5_circleThrough_X2_lesserKnot
set_option maxRecDepth 20000 in
theorem ggX5_circleThrough_X5_spread : GoodIn wsX5_circleThrough wsX5_spread := goodIn_r _ [36, 37, 38, 39, 4, 40, 6, 41, 8, 42, 43, 15, 16, 17, 18, 19, 20, 44, 45, 46, 47] (by decide +kernel) (by decide +kernel)
set_option maxRecDepth 20000 in
theorem gX5_circleThrough_X5_spread : GoodIn wsX5_circleThrough (va_wsS RX5 23 yX5_spread wsX5_spread) := goodIn_app (goodIn_of _ (by decide +kernel)) ggX5_circleThrough_X5_spread
theorem dX5_circleThrough_0 : decode cX5_circleThrough 0 = .ok (.aload_n 0, 1) := by decide +kernel
theorem dX5_circleThrough_1 : decode cX5_circleThrough 1 = .ok (.invokevirtual 29, 3) := by decide +kernel
theorem dX5_circleThrough_4 : decode cX5_circleThrough 4 = .ok (.iload_n 1, 1) := by decide +kernel
theorem dX5_circleThrough_5 : decode cX5_circleThrough 5 = .ok (.invokestatic 32, 3) := by decide +kernel
theorem dX5_circleThrough_8 : decode cX5_circleThrough 8 = .ok (.iconst (-1), 1) := by decide +kernel
theorem dX5_circleThrough_9 : decode cX5_circleThrough 9 = .ok (.ixor, 1) := by decide +kernel
theorem dX5_circleThrough_10 : decode cX5_circleThrough 10 = .ok (.iand, 1) := by decide +kernel
theorem dX5_circleThrough_11 : decode cX5_circleThrough 11 = .ok (.istore_n 2, 1) := by decide +kernel
theorem dX5_circleThrough_12 : decode cX5_circleThrough 12 = .ok (.aload_n 0, 1) := by decide +kernel
theorem dX5_circleThrough_13 : decode cX5_circleThrough 13 = .ok (.iload_n 1, 1) := by decide +kernel
theorem dX5_circleThrough_14 : decode cX5_circleThrough 14 = .ok (.invokevirtual 35, 3) := by decide +kernel
theorem dX5_circleThrough_17 : decode cX5_circleThrough 17 = .ok (.invokestatic 32, 3) := by decide +kernel
theorem dX5_circleThrough_20 : decode cX5_circleThrough 20 = .ok (.istore_n 3, 1) := by decide +kernel
theorem dX5_circleThrough_21 : decode cX5_circleThrough 21 = .ok (.aload_n 0, 1) := by decide +kernel
theorem dX5_circleThrough_22 : decode cX5_circleThrough 22 = .ok (.iload_n 1, 1) := by decide +kernel
theorem dX5_circleThrough_23 : decode cX5_circleThrough 23 = .ok (.invokevirtual 38, 3) := by decide +kernel
theorem dX5_circleThrough_26 : decode cX5_circleThrough 26 = .ok (.invokestatic 32, 3) := by decide +kernel
theorem dX5_circleThrough_29 : decode cX5_circleThrough 29 = .ok (.istore 4, 2) := by decide +kernel
theorem dX5_circleThrough_31 : decode cX5_circleThrough 31 = .ok (.iconst 1, 1) := by decide +kernel
theorem dX5_circleThrough_32 : decode cX5_circleThrough 32 = .ok (.istore 5, 2) := by decide +kernel
theorem dX5_circleThrough_34 : decode cX5_circleThrough 34 = .ok (.iload 5, 2) := by decide +kernel
theorem dX5_circleThrough_36 : decode cX5_circleThrough 36 = .ok (.bipush 14, 2) := by decide +kernel
theorem dX5_circleThrough_38 : decode cX5_circleThrough 38 = .ok (.if_icmp .ge 30, 3) := by decide +kernel
theorem dX5_circleThrough_41 : decode cX5_circleThrough 41 = .ok (.aload_n 0, 1) := by decide +kernel
theorem dX5_circleThrough_42 : decode cX5_circleThrough 42 = .ok (.iload 4, 2) := by decide +kernel
theorem dX5_circleThrough_44 : decode cX5_circleThrough 44 = .ok (.iload_n 2, 1) := by decide +kernel
theorem dX5_circleThrough_45 : decode cX5_circleThrough 45 = .ok (.invokestatic 23, 3) := by decide +kernel
theorem dX5_circleThrough_48 : decode cX5_circleThrough 48 = .ok (.istore 4, 2) := by decide +kernel
theorem dX5_circleThrough_50 : decode cX5_circleThrough 50 = .ok (.iload 4, 2) := by decide +kernel
theorem dX5_circleThrough_52 : decode cX5_circleThrough 52 = .ok (.iload_n 3, 1) := by decide +kernel
theorem dX5_circleThrough_53 : decode cX5_circleThrough 53 = .ok (.iand, 1) := by decide +kernel
theorem dX5_circleThrough_54 : decode cX5_circleThrough 54 = .ok (.ifCond .eq 8, 3) := by decide +kernel
theorem dX5_circleThrough_57 : decode cX5_circleThrough 57 = .ok (.iload 5, 2) := by decide +kernel
theorem dX5_circleThrough_59 : decode cX5_circleThrough 59 = .ok (.iconst 1, 1) := by decide +kernel
theorem dX5_circleThrough_60 : decode cX5_circleThrough 60 = .ok (.iadd, 1) := by decide +kernel
theorem dX5_circleThrough_61 : decode cX5_circleThrough 61 = .ok (.ireturn, 1) := by decide +kernel
theorem dX5_circleThrough_62 : decode cX5_circleThrough 62 = .ok (.iinc 5 1, 3) := by decide +kernel
theorem dX5_circleThrough_65 : decode cX5_circleThrough 65 = .ok (.goto (-31), 3) := by decide +kernel
theorem dX5_circleThrough_68 : decode cX5_circleThrough 68 = .ok (.iconst 0, 1) := by decide +kernel
theorem dX5_circleThrough_69 : decode cX5_circleThrough 69 = .ok (.ireturn, 1) := by decide +kernel
set_option maxRecDepth 20000 in
theorem ggX5_shortestCircle_X2_threads : GoodIn wsX5_shortestCircle wsX2_threads := goodIn_r _ [5, 6, 47, 48, 49, 50] (by decide +kernel) (by decide +kernel)
set_option maxRecDepth 20000 in
theorem gX5_shortestCircle_X2_threads : GoodIn wsX5_shortestCircle (wsV RX5 9 RX2 yX2_threads wsX2_threads) := goodIn_app (goodIn_of _ (by decide +kernel)) ggX5_shortestCircle_X2_threads
set_option maxRecDepth 20000 in
theorem ggX5_shortestCircle_X6_holds : GoodIn wsX5_shortestCircle wsX6_holds := goodIn_r _ [9] (by decide +kernel) (by decide +kernel)
set_option maxRecDepth 20000 in
theorem gX5_shortestCircle_X6_holds_n15 : GoodIn wsX5_shortestCircle (wsX6_holds) := ggX5_shortestCircle_X6_holds
set_option maxRecDepth 20000 in
theorem ggX5_shortestCircle_X5_circleThrough : GoodIn wsX5_shortestCircle wsX5_circleThrough := goodIn_r _ [13, 14, 15, 16, 4, 17, 6, 18, 8, 19, 20, 21, 22, 23, 24, 25, 26, 27, 28, 29, 30, 31, 32, 33, 34, 35, 36, 37, 38, 39, 40, 41, 42, 43, 44, 12, 45, 1, 2, 3, 5, 7, 9, 46, 47, 48, 49, 50] (by decide +kernel) (by decide +kernel)
set_option maxRecDepth 20000 in
theorem gX5_shortestCircle_X5_circleThrough : GoodIn wsX5_shortestCircle (va_wsS RX5 41 yX5_circleThrough wsX5_circleThrough) := goodIn_app (goodIn_of _ (by decide +kernel)) ggX5_shortestCircle_X5_circleThrough
theorem dX5_shortestCircle_0 : decode cX5_shortestCircle 0 = .ok (.iconst 0, 1) := by decide +kernel
theorem dX5_shortestCircle_1 : decode cX5_shortestCircle 1 = .ok (.istore_n 2, 1) := by decide +kernel
theorem dX5_shortestCircle_2 : decode cX5_shortestCircle 2 = .ok (.iconst 0, 1) := by decide +kernel
theorem dX5_shortestCircle_3 : decode cX5_shortestCircle 3 = .ok (.istore_n 3, 1) := by decide +kernel
theorem dX5_shortestCircle_4 : decode cX5_shortestCircle 4 = .ok (.iload_n 3, 1) := by decide +kernel
theorem dX5_shortestCircle_5 : decode cX5_shortestCircle 5 = .ok (.aload_n 0, 1) := by decide +kernel
theorem dX5_shortestCircle_6 : decode cX5_shortestCircle 6 = .ok (.invokevirtual 9, 3) := by decide +kernel
theorem dX5_shortestCircle_9 : decode cX5_shortestCircle 9 = .ok (.if_icmp .ge 42, 3) := by decide +kernel
theorem dX5_shortestCircle_12 : decode cX5_shortestCircle 12 = .ok (.iload_n 1, 1) := by decide +kernel
theorem dX5_shortestCircle_13 : decode cX5_shortestCircle 13 = .ok (.iload_n 3, 1) := by decide +kernel
theorem dX5_shortestCircle_14 : decode cX5_shortestCircle 14 = .ok (.invokestatic 15, 3) := by decide +kernel
theorem dX5_shortestCircle_17 : decode cX5_shortestCircle 17 = .ok (.ifCond .eq 28, 3) := by decide +kernel
theorem dX5_shortestCircle_20 : decode cX5_shortestCircle 20 = .ok (.aload_n 0, 1) := by decide +kernel
theorem dX5_shortestCircle_21 : decode cX5_shortestCircle 21 = .ok (.iload_n 3, 1) := by decide +kernel
theorem dX5_shortestCircle_22 : decode cX5_shortestCircle 22 = .ok (.invokestatic 41, 3) := by decide +kernel
theorem dX5_shortestCircle_25 : decode cX5_shortestCircle 25 = .ok (.istore 4, 2) := by decide +kernel
theorem dX5_shortestCircle_27 : decode cX5_shortestCircle 27 = .ok (.iload 4, 2) := by decide +kernel
theorem dX5_shortestCircle_29 : decode cX5_shortestCircle 29 = .ok (.ifCond .eq 16, 3) := by decide +kernel
theorem dX5_shortestCircle_32 : decode cX5_shortestCircle 32 = .ok (.iload_n 2, 1) := by decide +kernel
theorem dX5_shortestCircle_33 : decode cX5_shortestCircle 33 = .ok (.ifCond .eq 9, 3) := by decide +kernel
theorem dX5_shortestCircle_36 : decode cX5_shortestCircle 36 = .ok (.iload 4, 2) := by decide +kernel
theorem dX5_shortestCircle_38 : decode cX5_shortestCircle 38 = .ok (.iload_n 2, 1) := by decide +kernel
theorem dX5_shortestCircle_39 : decode cX5_shortestCircle 39 = .ok (.if_icmp .ge 6, 3) := by decide +kernel
theorem dX5_shortestCircle_42 : decode cX5_shortestCircle 42 = .ok (.iload 4, 2) := by decide +kernel
theorem dX5_shortestCircle_44 : decode cX5_shortestCircle 44 = .ok (.istore_n 2, 1) := by decide +kernel
theorem dX5_shortestCircle_45 : decode cX5_shortestCircle 45 = .ok (.iinc 3 1, 3) := by decide +kernel
theorem dX5_shortestCircle_48 : decode cX5_shortestCircle 48 = .ok (.goto (-44), 3) := by decide +kernel
theorem dX5_shortestCircle_51 : decode cX5_shortestCircle 51 = .ok (.iload_n 2, 1) := by decide +kernel
theorem dX5_shortestCircle_52 : decode cX5_shortestCircle 52 = .ok (.ireturn, 1) := by decide +kernel
set_option maxRecDepth 20000 in
theorem ggX5_bridges_X2_threads : GoodIn wsX5_bridges wsX2_threads := goodIn_r _ [5, 6, 47, 48, 49, 50] (by decide +kernel) (by decide +kernel)
set_option maxRecDepth 20000 in
theorem gX5_bridges_X2_threads : GoodIn wsX5_bridges (wsV RX5 9 RX2 yX2_threads wsX2_threads) := goodIn_app (goodIn_of _ (by decide +kernel)) ggX5_bridges_X2_threads
set_option maxRecDepth 20000 in
theorem ggX5_bridges_X5_circleThrough : GoodIn wsX5_bridges wsX5_circleThrough := goodIn_r _ [10, 11, 12, 13, 4, 14, 6, 15, 16, 17, 18, 19, 20, 21, 22, 23, 24, 25, 26, 27, 28, 29, 30, 31, 32, 33, 34, 35, 36, 37, 38, 39, 40, 41, 42, 9, 43, 1, 2, 3, 5, 44, 45, 46, 47, 48, 49, 50] (by decide +kernel) (by decide +kernel)
set_option maxRecDepth 20000 in
theorem gX5_bridges_X5_circleThrough : GoodIn wsX5_bridges (va_wsS RX5 41 yX5_circleThrough wsX5_circleThrough) := goodIn_app (goodIn_of _ (by decide +kernel)) ggX5_bridges_X5_circleThrough
theorem dX5_bridges_0 : decode cX5_bridges 0 = .ok (.iconst 0, 1) := by decide +kernel
theorem dX5_bridges_1 : decode cX5_bridges 1 = .ok (.istore_n 1, 1) := by decide +kernel
theorem dX5_bridges_2 : decode cX5_bridges 2 = .ok (.iconst 0, 1) := by decide +kernel
theorem dX5_bridges_3 : decode cX5_bridges 3 = .ok (.istore_n 2, 1) := by decide +kernel
theorem dX5_bridges_4 : decode cX5_bridges 4 = .ok (.iload_n 2, 1) := by decide +kernel
theorem dX5_bridges_5 : decode cX5_bridges 5 = .ok (.aload_n 0, 1) := by decide +kernel
theorem dX5_bridges_6 : decode cX5_bridges 6 = .ok (.invokevirtual 9, 3) := by decide +kernel
theorem dX5_bridges_9 : decode cX5_bridges 9 = .ok (.if_icmp .ge 20, 3) := by decide +kernel
theorem dX5_bridges_12 : decode cX5_bridges 12 = .ok (.aload_n 0, 1) := by decide +kernel
theorem dX5_bridges_13 : decode cX5_bridges 13 = .ok (.iload_n 2, 1) := by decide +kernel
theorem dX5_bridges_14 : decode cX5_bridges 14 = .ok (.invokestatic 41, 3) := by decide +kernel
theorem dX5_bridges_17 : decode cX5_bridges 17 = .ok (.ifCond .ne 6, 3) := by decide +kernel
theorem dX5_bridges_20 : decode cX5_bridges 20 = .ok (.iinc 1 1, 3) := by decide +kernel
theorem dX5_bridges_23 : decode cX5_bridges 23 = .ok (.iinc 2 1, 3) := by decide +kernel
theorem dX5_bridges_26 : decode cX5_bridges 26 = .ok (.goto (-22), 3) := by decide +kernel
theorem dX5_bridges_29 : decode cX5_bridges 29 = .ok (.iload_n 1, 1) := by decide +kernel
theorem dX5_bridges_30 : decode cX5_bridges 30 = .ok (.ireturn, 1) := by decide +kernel
set_option maxRecDepth 20000 in
theorem ggX5_parts_X2_allKnots : GoodIn wsX5_parts wsX2_allKnots := goodIn_r _ [5, 6, 7, 8, 9, 39, 40, 41, 42] (by decide +kernel) (by decide +kernel)
set_option maxRecDepth 20000 in
theorem gX5_parts_X2_allKnots : GoodIn wsX5_parts (wsV RX5 45 RX2 yX2_allKnots wsX2_allKnots) := goodIn_app (goodIn_of _ (by decide +kernel)) ggX5_parts_X2_allKnots
set_option maxRecDepth 20000 in
theorem ggX5_parts_X2_knots : GoodIn wsX5_parts wsX2_knots := goodIn_r _ [13, 6, 39, 40, 41, 42] (by decide +kernel) (by decide +kernel)
set_option maxRecDepth 20000 in
theorem gX5_parts_X2_knots : GoodIn wsX5_parts (wsV RX5 48 RX2 yX2_knots wsX2_knots) := goodIn_app (goodIn_of _ (by decide +kernel)) ggX5_parts_X2_knots
set_option maxRecDepth 20000 in
theorem ggX5_parts_X6_holds : GoodIn wsX5_parts wsX6_holds := goodIn_r _ [15] (by decide +kernel) (by decide +kernel)
set_option maxRecDepth 20000 in
theorem gX5_parts_X6_holds_n15 : GoodIn wsX5_parts (wsX6_holds) := ggX5_parts_X6_holds
set_option maxRecDepth 20000 in
theorem ggX5_parts_X6_bit : GoodIn wsX5_parts wsX6_bit := goodIn_r _ [9] (by decide +kernel) (by decide +kernel)
set_option maxRecDepth 20000 in
theorem gX5_parts_X6_bit_n32 : GoodIn wsX5_parts (wsX6_bit) := ggX5_parts_X6_bit
set_option maxRecDepth 20000 in
theorem ggX5_parts_X2_allThreads : GoodIn wsX5_parts wsX2_allThreads := goodIn_r _ [19, 20, 7, 8, 9, 39, 40, 41, 42] (by decide +kernel) (by decide +kernel)
set_option maxRecDepth 20000 in
theorem gX5_parts_X2_allThreads : GoodIn wsX5_parts (wsV RX5 29 RX2 yX2_allThreads wsX2_allThreads) := goodIn_app (goodIn_of _ (by decide +kernel)) ggX5_parts_X2_allThreads
set_option maxRecDepth 20000 in
theorem ggX5_parts_X5_reached : GoodIn wsX5_parts wsX5_reached := goodIn_r _ [24, 25, 26, 23, 27, 28, 29, 30, 4, 31, 20, 14, 8, 15, 32, 33, 34, 35, 36, 37, 38, 39, 40, 41, 42] (by decide +kernel) (by decide +kernel)
set_option maxRecDepth 20000 in
theorem gX5_parts_X5_reached : GoodIn wsX5_parts (va_wsS RX5 51 yX5_reached wsX5_reached) := goodIn_app (goodIn_of _ (by decide +kernel)) ggX5_parts_X5_reached
theorem dX5_parts_0 : decode cX5_parts 0 = .ok (.aload_n 0, 1) := by decide +kernel
theorem dX5_parts_1 : decode cX5_parts 1 = .ok (.invokevirtual 45, 3) := by decide +kernel
theorem dX5_parts_4 : decode cX5_parts 4 = .ok (.istore_n 1, 1) := by decide +kernel
theorem dX5_parts_5 : decode cX5_parts 5 = .ok (.iconst 0, 1) := by decide +kernel
theorem dX5_parts_6 : decode cX5_parts 6 = .ok (.istore_n 2, 1) := by decide +kernel
theorem dX5_parts_7 : decode cX5_parts 7 = .ok (.iconst 0, 1) := by decide +kernel
theorem dX5_parts_8 : decode cX5_parts 8 = .ok (.istore_n 3, 1) := by decide +kernel
theorem dX5_parts_9 : decode cX5_parts 9 = .ok (.iload_n 3, 1) := by decide +kernel
theorem dX5_parts_10 : decode cX5_parts 10 = .ok (.aload_n 0, 1) := by decide +kernel
theorem dX5_parts_11 : decode cX5_parts 11 = .ok (.invokevirtual 48, 3) := by decide +kernel
theorem dX5_parts_14 : decode cX5_parts 14 = .ok (.if_icmp .ge 37, 3) := by decide +kernel
theorem dX5_parts_17 : decode cX5_parts 17 = .ok (.iload_n 1, 1) := by decide +kernel
theorem dX5_parts_18 : decode cX5_parts 18 = .ok (.iload_n 3, 1) := by decide +kernel
theorem dX5_parts_19 : decode cX5_parts 19 = .ok (.invokestatic 15, 3) := by decide +kernel
theorem dX5_parts_22 : decode cX5_parts 22 = .ok (.ifCond .eq 23, 3) := by decide +kernel
theorem dX5_parts_25 : decode cX5_parts 25 = .ok (.iload_n 1, 1) := by decide +kernel
theorem dX5_parts_26 : decode cX5_parts 26 = .ok (.aload_n 0, 1) := by decide +kernel
theorem dX5_parts_27 : decode cX5_parts 27 = .ok (.iload_n 3, 1) := by decide +kernel
theorem dX5_parts_28 : decode cX5_parts 28 = .ok (.invokestatic 32, 3) := by decide +kernel
theorem dX5_parts_31 : decode cX5_parts 31 = .ok (.aload_n 0, 1) := by decide +kernel
theorem dX5_parts_32 : decode cX5_parts 32 = .ok (.invokevirtual 29, 3) := by decide +kernel
theorem dX5_parts_35 : decode cX5_parts 35 = .ok (.invokestatic 51, 3) := by decide +kernel
theorem dX5_parts_38 : decode cX5_parts 38 = .ok (.iconst (-1), 1) := by decide +kernel
theorem dX5_parts_39 : decode cX5_parts 39 = .ok (.ixor, 1) := by decide +kernel
theorem dX5_parts_40 : decode cX5_parts 40 = .ok (.iand, 1) := by decide +kernel
theorem dX5_parts_41 : decode cX5_parts 41 = .ok (.istore_n 1, 1) := by decide +kernel
theorem dX5_parts_42 : decode cX5_parts 42 = .ok (.iinc 2 1, 3) := by decide +kernel
theorem dX5_parts_45 : decode cX5_parts 45 = .ok (.iinc 3 1, 3) := by decide +kernel
theorem dX5_parts_48 : decode cX5_parts 48 = .ok (.goto (-39), 3) := by decide +kernel
theorem dX5_parts_51 : decode cX5_parts 51 = .ok (.iload_n 2, 1) := by decide +kernel
theorem dX5_parts_52 : decode cX5_parts 52 = .ok (.ireturn, 1) := by decide +kernel
set_option maxRecDepth 20000 in
theorem ggX6_init_X2_init : GoodIn wsX6_init wsX2_init := goodIn_r _ [29, 30, 2, 3, 31, 32, 33, 34, 35, 75, 76, 77, 78] (by decide +kernel) (by decide +kernel)
set_option maxRecDepth 20000 in
theorem gX6_init_X2_init : GoodIn wsX6_init (wsX2_init) := ggX6_init_X2_init
set_option maxRecDepth 20000 in
theorem ggX6_init_X1_init : GoodIn wsX6_init wsX1_init := goodIn_r _ [38, 39, 2, 3, 40, 41, 5, 6, 42, 43, 28, 29, 30, 31, 32, 33, 34, 35, 87, 88, 75, 76, 77, 78] (by decide +kernel) (by decide +kernel)
set_option maxRecDepth 20000 in
theorem gX6_init_X1_init : GoodIn wsX6_init (wsX1_init) := ggX6_init_X1_init
set_option maxRecDepth 20000 in
theorem ggX6_init_X4_init : GoodIn wsX6_init wsX4_init := goodIn_r _ [46, 47, 2, 3, 48, 49, 50, 33, 51, 52, 89, 90, 91, 92] (by decide +kernel) (by decide +kernel)
set_option maxRecDepth 20000 in
theorem gX6_init_X4_init : GoodIn wsX6_init (wsX4_init) := ggX6_init_X4_init
set_option maxRecDepth 20000 in
theorem ggX6_init_X3_init : GoodIn wsX6_init wsX3_init := goodIn_r _ [55, 56, 2, 3, 33, 57, 58, 59, 60, 61, 62, 63, 64, 93, 94, 95, 96, 97, 98, 99, 100] (by decide +kernel) (by decide +kernel)
set_option maxRecDepth 20000 in
theorem gX6_init_X3_init : GoodIn wsX6_init (wsX3_init) := ggX6_init_X3_init
set_option maxRecDepth 20000 in
theorem ggX6_init_X0_init : GoodIn wsX6_init wsX0_init := goodIn_r _ [67, 68, 2, 3, 33, 69, 70, 71, 72, 73, 74, 101, 102, 103, 104, 105, 106] (by decide +kernel) (by decide +kernel)
set_option maxRecDepth 20000 in
theorem gX6_init_X0_init : GoodIn wsX6_init (wsX0_init) := ggX6_init_X0_init
theorem dX6_init_0 : decode cX6_init 0 = .ok (.aload_n 0, 1) := by decide +kernel
theorem dX6_init_1 : decode cX6_init 1 = .ok (.invokespecial 3, 3) := by decide +kernel
theorem dX6_init_4 : decode cX6_init 4 = .ok (.aload_n 0, 1) := by decide +kernel
theorem dX6_init_5 : decode cX6_init 5 = .ok (.new 9, 3) := by decide +kernel
theorem dX6_init_8 : decode cX6_init 8 = .ok (.dup, 1) := by decide +kernel
theorem dX6_init_9 : decode cX6_init 9 = .ok (.invokespecial 11, 3) := by decide +kernel
theorem dX6_init_12 : decode cX6_init 12 = .ok (.putfield 12, 3) := by decide +kernel
theorem dX6_init_15 : decode cX6_init 15 = .ok (.aload_n 0, 1) := by decide +kernel
theorem dX6_init_16 : decode cX6_init 16 = .ok (.new 9, 3) := by decide +kernel
theorem dX6_init_19 : decode cX6_init 19 = .ok (.dup, 1) := by decide +kernel
theorem dX6_init_20 : decode cX6_init 20 = .ok (.invokespecial 11, 3) := by decide +kernel
theorem dX6_init_23 : decode cX6_init 23 = .ok (.putfield 16, 3) := by decide +kernel
theorem dX6_init_26 : decode cX6_init 26 = .ok (.aload_n 0, 1) := by decide +kernel
theorem dX6_init_27 : decode cX6_init 27 = .ok (.new 9, 3) := by decide +kernel
theorem dX6_init_30 : decode cX6_init 30 = .ok (.dup, 1) := by decide +kernel
theorem dX6_init_31 : decode cX6_init 31 = .ok (.invokespecial 11, 3) := by decide +kernel
theorem dX6_init_34 : decode cX6_init 34 = .ok (.putfield 19, 3) := by decide +kernel
theorem dX6_init_37 : decode cX6_init 37 = .ok (.aload_n 0, 1) := by decide +kernel
theorem dX6_init_38 : decode cX6_init 38 = .ok (.iconst 0, 1) := by decide +kernel
theorem dX6_init_39 : decode cX6_init 39 = .ok (.putfield 22, 3) := by decide +kernel
theorem dX6_init_42 : decode cX6_init 42 = .ok (.aload_n 0, 1) := by decide +kernel
theorem dX6_init_43 : decode cX6_init 43 = .ok (.new 26, 3) := by decide +kernel
theorem dX6_init_46 : decode cX6_init 46 = .ok (.dup, 1) := by decide +kernel
theorem dX6_init_47 : decode cX6_init 47 = .ok (.invokespecial 28, 3) := by decide +kernel
theorem dX6_init_50 : decode cX6_init 50 = .ok (.putfield 29, 3) := by decide +kernel
theorem dX6_init_53 : decode cX6_init 53 = .ok (.aload_n 0, 1) := by decide +kernel
theorem dX6_init_54 : decode cX6_init 54 = .ok (.new 33, 3) := by decide +kernel
theorem dX6_init_57 : decode cX6_init 57 = .ok (.dup, 1) := by decide +kernel
theorem dX6_init_58 : decode cX6_init 58 = .ok (.invokespecial 35, 3) := by decide +kernel
theorem dX6_init_61 : decode cX6_init 61 = .ok (.putfield 36, 3) := by decide +kernel
theorem dX6_init_64 : decode cX6_init 64 = .ok (.aload_n 0, 1) := by decide +kernel
theorem dX6_init_65 : decode cX6_init 65 = .ok (.new 40, 3) := by decide +kernel
theorem dX6_init_68 : decode cX6_init 68 = .ok (.dup, 1) := by decide +kernel
theorem dX6_init_69 : decode cX6_init 69 = .ok (.invokespecial 42, 3) := by decide +kernel
theorem dX6_init_72 : decode cX6_init 72 = .ok (.putfield 43, 3) := by decide +kernel
theorem dX6_init_75 : decode cX6_init 75 = .ok (.aload_n 0, 1) := by decide +kernel
theorem dX6_init_76 : decode cX6_init 76 = .ok (.new 47, 3) := by decide +kernel
theorem dX6_init_79 : decode cX6_init 79 = .ok (.dup, 1) := by decide +kernel
theorem dX6_init_80 : decode cX6_init 80 = .ok (.invokespecial 49, 3) := by decide +kernel
theorem dX6_init_83 : decode cX6_init 83 = .ok (.putfield 50, 3) := by decide +kernel
theorem dX6_init_86 : decode cX6_init 86 = .ok (.return_, 1) := by decide +kernel
set_option maxRecDepth 20000 in
theorem ggX6_take_X1_push : GoodIn wsX6_take wsX1_push := goodIn_r _ [7, 8, 9, 10, 11, 12, 6, 13, 14, 15, 16, 17, 18, 19, 20, 21, 22, 23, 24, 25, 26, 27, 28, 29, 30, 31, 32, 33, 34, 35, 81, 82, 83, 84, 85, 86] (by decide +kernel) (by decide +kernel)
set_option maxRecDepth 20000 in
theorem gX6_take_X1_push : GoodIn wsX6_take (wsV RX6 54 RX1 yX1_push wsX1_push) := goodIn_app (goodIn_of _ (by decide +kernel)) ggX6_take_X1_push
set_option maxRecDepth 20000 in
theorem ggX6_take_X6_builtIn : GoodIn wsX6_take wsX6_builtIn := goodIn_r _ [38, 39, 40, 41, 42, 43] (by decide +kernel) (by decide +kernel)
set_option maxRecDepth 20000 in
theorem gX6_take_X6_builtIn : GoodIn wsX6_take (va_wsS RX6 58 yX6_builtIn wsX6_builtIn) := goodIn_app (goodIn_of _ (by decide +kernel)) ggX6_take_X6_builtIn
set_option maxRecDepth 20000 in
theorem ggX6_take_X2_build : GoodIn wsX6_take wsX2_build := goodIn_r _ [47, 48, 49, 50, 51, 52, 53, 54, 17, 55, 19, 20, 27, 28, 29, 56, 57, 58, 59, 60, 61, 21, 22, 30, 31, 62, 63, 64, 65, 66, 67, 68, 83, 84, 85, 86] (by decide +kernel) (by decide +kernel)
set_option maxRecDepth 20000 in
theorem gX6_take_X2_build : GoodIn wsX6_take (wsV RX6 62 RX2 yX2_build wsX2_build) := goodIn_app (goodIn_of _ (by decide +kernel)) ggX6_take_X2_build
set_option maxRecDepth 20000 in
theorem ggX6_take_X2_knots : GoodIn wsX6_take wsX2_knots := goodIn_r _ [72, 19, 83, 84, 85, 86] (by decide +kernel) (by decide +kernel)
set_option maxRecDepth 20000 in
theorem gX6_take_X2_knots : GoodIn wsX6_take (wsV RX6 66 RX2 yX2_knots wsX2_knots) := goodIn_app (goodIn_of _ (by decide +kernel)) ggX6_take_X2_knots
theorem dX6_take_0 : decode cX6_take 0 = .ok (.iload_n 1, 1) := by decide +kernel
theorem dX6_take_1 : decode cX6_take 1 = .ok (.ifCond .lt 8, 3) := by decide +kernel
theorem dX6_take_4 : decode cX6_take 4 = .ok (.iload_n 1, 1) := by decide +kernel
theorem dX6_take_5 : decode cX6_take 5 = .ok (.iconst 4, 1) := by decide +kernel
theorem dX6_take_6 : decode cX6_take 6 = .ok (.if_icmp .le 6, 3) := by decide +kernel
theorem dX6_take_9 : decode cX6_take 9 = .ok (.bipush (-2), 2) := by decide +kernel
theorem dX6_take_11 : decode cX6_take 11 = .ok (.ireturn, 1) := by decide +kernel
theorem dX6_take_12 : decode cX6_take 12 = .ok (.aload_n 0, 1) := by decide +kernel
theorem dX6_take_13 : decode cX6_take 13 = .ok (.getfield 29, 3) := by decide +kernel
theorem dX6_take_16 : decode cX6_take 16 = .ok (.aload_n 0, 1) := by decide +kernel
theorem dX6_take_17 : decode cX6_take 17 = .ok (.getfield 12, 3) := by decide +kernel
theorem dX6_take_20 : decode cX6_take 20 = .ok (.invokevirtual 54, 3) := by decide +kernel
theorem dX6_take_23 : decode cX6_take 23 = .ok (.aload_n 0, 1) := by decide +kernel
theorem dX6_take_24 : decode cX6_take 24 = .ok (.getfield 12, 3) := by decide +kernel
theorem dX6_take_27 : decode cX6_take 27 = .ok (.iload_n 1, 1) := by decide +kernel
theorem dX6_take_28 : decode cX6_take 28 = .ok (.invokestatic 58, 3) := by decide +kernel
theorem dX6_take_31 : decode cX6_take 31 = .ok (.invokevirtual 62, 3) := by decide +kernel
theorem dX6_take_34 : decode cX6_take 34 = .ok (.aload_n 0, 1) := by decide +kernel
theorem dX6_take_35 : decode cX6_take 35 = .ok (.getfield 12, 3) := by decide +kernel
theorem dX6_take_38 : decode cX6_take 38 = .ok (.invokevirtual 66, 3) := by decide +kernel
theorem dX6_take_41 : decode cX6_take 41 = .ok (.ireturn, 1) := by decide +kernel
set_option maxRecDepth 20000 in
theorem ggX6_addKnot_X2_knots : GoodIn wsX6_addKnot wsX2_knots := goodIn_r _ [7, 8, 56, 57, 58, 59] (by decide +kernel) (by decide +kernel)
set_option maxRecDepth 20000 in
theorem gX6_addKnot_X2_knots : GoodIn wsX6_addKnot (wsV RX6 66 RX2 yX2_knots wsX2_knots) := goodIn_app (goodIn_of _ (by decide +kernel)) ggX6_addKnot_X2_knots
set_option maxRecDepth 20000 in
theorem ggX6_addKnot_X1_push : GoodIn wsX6_addKnot wsX1_push := goodIn_r _ [13, 14, 15, 16, 17, 18, 12, 19, 20, 21, 22, 6, 23, 8, 24, 25, 26, 27, 28, 29, 30, 31, 32, 33, 34, 35, 36, 37, 38, 39, 60, 61, 56, 57, 58, 59] (by decide +kernel) (by decide +kernel)
set_option maxRecDepth 20000 in
theorem gX6_addKnot_X1_push : GoodIn wsX6_addKnot (wsV RX6 54 RX1 yX1_push wsX1_push) := goodIn_app (goodIn_of _ (by decide +kernel)) ggX6_addKnot_X1_push
set_option maxRecDepth 20000 in
theorem ggX6_addKnot_X2_addKnots : GoodIn wsX6_addKnot wsX2_addKnots := goodIn_r _ [43, 8, 44, 45, 46, 47, 56, 57, 58, 59] (by decide +kernel) (by decide +kernel)
set_option maxRecDepth 20000 in
theorem gX6_addKnot_X2_addKnots : GoodIn wsX6_addKnot (wsV RX6 70 RX2 yX2_addKnots wsX2_addKnots) := goodIn_app (goodIn_of _ (by decide +kernel)) ggX6_addKnot_X2_addKnots
theorem dX6_addKnot_0 : decode cX6_addKnot 0 = .ok (.aload_n 0, 1) := by decide +kernel
theorem dX6_addKnot_1 : decode cX6_addKnot 1 = .ok (.getfield 12, 3) := by decide +kernel
theorem dX6_addKnot_4 : decode cX6_addKnot 4 = .ok (.invokevirtual 66, 3) := by decide +kernel
theorem dX6_addKnot_7 : decode cX6_addKnot 7 = .ok (.bipush 14, 2) := by decide +kernel
theorem dX6_addKnot_9 : decode cX6_addKnot 9 = .ok (.if_icmp .lt 6, 3) := by decide +kernel
theorem dX6_addKnot_12 : decode cX6_addKnot 12 = .ok (.bipush (-3), 2) := by decide +kernel
theorem dX6_addKnot_14 : decode cX6_addKnot 14 = .ok (.ireturn, 1) := by decide +kernel
theorem dX6_addKnot_15 : decode cX6_addKnot 15 = .ok (.aload_n 0, 1) := by decide +kernel
theorem dX6_addKnot_16 : decode cX6_addKnot 16 = .ok (.getfield 29, 3) := by decide +kernel
theorem dX6_addKnot_19 : decode cX6_addKnot 19 = .ok (.aload_n 0, 1) := by decide +kernel
theorem dX6_addKnot_20 : decode cX6_addKnot 20 = .ok (.getfield 12, 3) := by decide +kernel
theorem dX6_addKnot_23 : decode cX6_addKnot 23 = .ok (.invokevirtual 54, 3) := by decide +kernel
theorem dX6_addKnot_26 : decode cX6_addKnot 26 = .ok (.aload_n 0, 1) := by decide +kernel
theorem dX6_addKnot_27 : decode cX6_addKnot 27 = .ok (.getfield 12, 3) := by decide +kernel
theorem dX6_addKnot_30 : decode cX6_addKnot 30 = .ok (.iconst 1, 1) := by decide +kernel
theorem dX6_addKnot_31 : decode cX6_addKnot 31 = .ok (.invokevirtual 70, 3) := by decide +kernel
theorem dX6_addKnot_34 : decode cX6_addKnot 34 = .ok (.aload_n 0, 1) := by decide +kernel
theorem dX6_addKnot_35 : decode cX6_addKnot 35 = .ok (.getfield 12, 3) := by decide +kernel
theorem dX6_addKnot_38 : decode cX6_addKnot 38 = .ok (.invokevirtual 66, 3) := by decide +kernel
theorem dX6_addKnot_41 : decode cX6_addKnot 41 = .ok (.iconst 1, 1) := by decide +kernel
theorem dX6_addKnot_42 : decode cX6_addKnot 42 = .ok (.isub, 1) := by decide +kernel
theorem dX6_addKnot_43 : decode cX6_addKnot 43 = .ok (.ireturn, 1) := by decide +kernel
set_option maxRecDepth 20000 in
theorem ggX6_removeKnot_X2_hasKnot : GoodIn wsX6_removeKnot wsX2_hasKnot := goodIn_r _ [7, 8, 77, 78, 79, 80] (by decide +kernel) (by decide +kernel)
set_option maxRecDepth 20000 in
theorem gX6_removeKnot_X2_hasKnot : GoodIn wsX6_removeKnot (wsV RX6 74 RX2 yX2_hasKnot wsX2_hasKnot) := goodIn_app (goodIn_of _ (by decide +kernel)) ggX6_removeKnot_X2_hasKnot
set_option maxRecDepth 20000 in
theorem ggX6_removeKnot_X1_push : GoodIn wsX6_removeKnot wsX1_push := goodIn_r _ [13, 14, 15, 16, 17, 18, 12, 19, 20, 21, 22, 6, 23, 8, 24, 25, 26, 27, 28, 29, 30, 31, 32, 33, 34, 35, 36, 37, 38, 39, 81, 82, 77, 78, 79, 80] (by decide +kernel) (by decide +kernel)
set_option maxRecDepth 20000 in
theorem gX6_removeKnot_X1_push : GoodIn wsX6_removeKnot (wsV RX6 54 RX1 yX1_push wsX1_push) := goodIn_app (goodIn_of _ (by decide +kernel)) ggX6_removeKnot_X1_push
set_option maxRecDepth 20000 in
theorem ggX6_removeKnot_X2_dropKnot : GoodIn wsX6_removeKnot wsX2_dropKnot := goodIn_r _ [43, 24, 25, 8, 44, 4, 5, 6, 7, 45, 32, 46, 47, 48, 49, 50, 27, 28, 29, 30, 31, 33, 51, 52, 53, 54, 55, 56, 57, 58, 59, 60, 26, 61, 62, 63, 64, 34, 35, 77, 78, 79, 80] (by decide +kernel) (by decide +kernel)
set_option maxRecDepth 20000 in
theorem gX6_removeKnot_X2_dropKnot : GoodIn wsX6_removeKnot (wsV RX6 78 RX2 yX2_dropKnot wsX2_dropKnot) := goodIn_app (goodIn_of _ (by decide +kernel)) ggX6_removeKnot_X2_dropKnot
set_option maxRecDepth 20000 in
theorem ggX6_removeKnot_X2_threads : GoodIn wsX6_removeKnot wsX2_threads := goodIn_r _ [68, 24, 77, 78, 79, 80] (by decide +kernel) (by decide +kernel)
set_option maxRecDepth 20000 in
theorem gX6_removeKnot_X2_threads : GoodIn wsX6_removeKnot (wsV RX6 81 RX2 yX2_threads wsX2_threads) := goodIn_app (goodIn_of _ (by decide +kernel)) ggX6_removeKnot_X2_threads
theorem dX6_removeKnot_0 : decode cX6_removeKnot 0 = .ok (.aload_n 0, 1) := by decide +kernel
theorem dX6_removeKnot_1 : decode cX6_removeKnot 1 = .ok (.getfield 12, 3) := by decide +kernel
theorem dX6_removeKnot_4 : decode cX6_removeKnot 4 = .ok (.iload_n 1, 1) := by decide +kernel
theorem dX6_removeKnot_5 : decode cX6_removeKnot 5 = .ok (.invokevirtual 74, 3) := by decide +kernel
theorem dX6_removeKnot_8 : decode cX6_removeKnot 8 = .ok (.ifCond .ne 5, 3) := by decide +kernel
theorem dX6_removeKnot_11 : decode cX6_removeKnot 11 = .ok (.iconst (-1), 1) := by decide +kernel
theorem dX6_removeKnot_12 : decode cX6_removeKnot 12 = .ok (.ireturn, 1) := by decide +kernel
theorem dX6_removeKnot_13 : decode cX6_removeKnot 13 = .ok (.aload_n 0, 1) := by decide +kernel
theorem dX6_removeKnot_14 : decode cX6_removeKnot 14 = .ok (.getfield 29, 3) := by decide +kernel
theorem dX6_removeKnot_17 : decode cX6_removeKnot 17 = .ok (.aload_n 0, 1) := by decide +kernel
theorem dX6_removeKnot_18 : decode cX6_removeKnot 18 = .ok (.getfield 12, 3) := by decide +kernel
theorem dX6_removeKnot_21 : decode cX6_removeKnot 21 = .ok (.invokevirtual 54, 3) := by decide +kernel
theorem dX6_removeKnot_24 : decode cX6_removeKnot 24 = .ok (.aload_n 0, 1) := by decide +kernel
theorem dX6_removeKnot_25 : decode cX6_removeKnot 25 = .ok (.getfield 12, 3) := by decide +kernel
theorem dX6_removeKnot_28 : decode cX6_removeKnot 28 = .ok (.iload_n 1, 1) := by decide +kernel
theorem dX6_removeKnot_29 : decode cX6_removeKnot 29 = .ok (.invokevirtual 78, 3) := by decide +kernel
theorem dX6_removeKnot_32 : decode cX6_removeKnot 32 = .ok (.aload_n 0, 1) := by decide +kernel
theorem dX6_removeKnot_33 : decode cX6_removeKnot 33 = .ok (.getfield 12, 3) := by decide +kernel
theorem dX6_removeKnot_36 : decode cX6_removeKnot 36 = .ok (.invokevirtual 81, 3) := by decide +kernel
theorem dX6_removeKnot_39 : decode cX6_removeKnot 39 = .ok (.ireturn, 1) := by decide +kernel
set_option maxRecDepth 20000 in
theorem ggX6_addThread_X2_hasKnot : GoodIn wsX6_addThread wsX2_hasKnot := goodIn_r _ [7, 8, 89, 90, 91, 92] (by decide +kernel) (by decide +kernel)
set_option maxRecDepth 20000 in
theorem gX6_addThread_X2_hasKnot : GoodIn wsX6_addThread (wsV RX6 74 RX2 yX2_hasKnot wsX2_hasKnot) := goodIn_app (goodIn_of _ (by decide +kernel)) ggX6_addThread_X2_hasKnot
set_option maxRecDepth 20000 in
theorem ggX6_addThread_X6_bit : GoodIn wsX6_addThread wsX6_bit := goodIn_r _ [12] (by decide +kernel) (by decide +kernel)
set_option maxRecDepth 20000 in
theorem gX6_addThread_X6_bit : GoodIn wsX6_addThread (va_wsS RX6 84 yX6_bit wsX6_bit) := goodIn_app (goodIn_of _ (by decide +kernel)) ggX6_addThread_X6_bit
set_option maxRecDepth 20000 in
theorem ggX6_addThread_X2_mayTie : GoodIn wsX6_addThread wsX2_mayTie := goodIn_r _ [16, 17, 18, 19, 6, 20, 21, 22, 23, 24, 25, 26, 27, 11, 28, 29, 30, 31, 32, 33, 34, 35, 36, 37, 38, 39, 40, 10, 12, 41, 42, 43, 44, 45, 46, 47, 48, 49, 50, 89, 90, 91, 92] (by decide +kernel) (by decide +kernel)
set_option maxRecDepth 20000 in
theorem gX6_addThread_X2_mayTie : GoodIn wsX6_addThread (wsV RX6 88 RX2 yX2_mayTie wsX2_mayTie) := goodIn_app (goodIn_of _ (by decide +kernel)) ggX6_addThread_X2_mayTie
set_option maxRecDepth 20000 in
theorem ggX6_addThread_X1_push : GoodIn wsX6_addThread wsX1_push := goodIn_r _ [55, 56, 57, 58, 59, 60, 54, 61, 62, 63, 64, 6, 65, 8, 21, 26, 66, 22, 23, 24, 25, 27, 11, 28, 67, 68, 69, 70, 71, 72, 93, 94, 89, 90, 91, 92] (by decide +kernel) (by decide +kernel)
set_option maxRecDepth 20000 in
theorem gX6_addThread_X1_push : GoodIn wsX6_addThread (wsV RX6 54 RX1 yX1_push wsX1_push) := goodIn_app (goodIn_of _ (by decide +kernel)) ggX6_addThread_X1_push
set_option maxRecDepth 20000 in
theorem ggX6_addThread_X2_tie : GoodIn wsX6_addThread wsX2_tie := goodIn_r _ [76, 21, 26, 66, 67, 11, 68, 89, 90, 91, 92] (by decide +kernel) (by decide +kernel)
set_option maxRecDepth 20000 in
theorem gX6_addThread_X2_tie : GoodIn wsX6_addThread (wsV RX6 91 RX2 yX2_tie wsX2_tie) := goodIn_app (goodIn_of _ (by decide +kernel)) ggX6_addThread_X2_tie
set_option maxRecDepth 20000 in
theorem ggX6_addThread_X2_threads : GoodIn wsX6_addThread wsX2_threads := goodIn_r _ [80, 21, 89, 90, 91, 92] (by decide +kernel) (by decide +kernel)
set_option maxRecDepth 20000 in
theorem gX6_addThread_X2_threads : GoodIn wsX6_addThread (wsV RX6 81 RX2 yX2_threads wsX2_threads) := goodIn_app (goodIn_of _ (by decide +kernel)) ggX6_addThread_X2_threads
theorem dX6_addThread_0 : decode cX6_addThread 0 = .ok (.aload_n 0, 1) := by decide +kernel
theorem dX6_addThread_1 : decode cX6_addThread 1 = .ok (.getfield 12, 3) := by decide +kernel
theorem dX6_addThread_4 : decode cX6_addThread 4 = .ok (.iload_n 1, 1) := by decide +kernel
theorem dX6_addThread_5 : decode cX6_addThread 5 = .ok (.invokevirtual 74, 3) := by decide +kernel
theorem dX6_addThread_8 : decode cX6_addThread 8 = .ok (.ifCond .eq 14, 3) := by decide +kernel
theorem dX6_addThread_11 : decode cX6_addThread 11 = .ok (.aload_n 0, 1) := by decide +kernel
theorem dX6_addThread_12 : decode cX6_addThread 12 = .ok (.getfield 12, 3) := by decide +kernel
theorem dX6_addThread_15 : decode cX6_addThread 15 = .ok (.iload_n 2, 1) := by decide +kernel
theorem dX6_addThread_16 : decode cX6_addThread 16 = .ok (.invokevirtual 74, 3) := by decide +kernel
theorem dX6_addThread_19 : decode cX6_addThread 19 = .ok (.ifCond .ne 5, 3) := by decide +kernel
theorem dX6_addThread_22 : decode cX6_addThread 22 = .ok (.iconst (-1), 1) := by decide +kernel
theorem dX6_addThread_23 : decode cX6_addThread 23 = .ok (.ireturn, 1) := by decide +kernel
theorem dX6_addThread_24 : decode cX6_addThread 24 = .ok (.iload_n 1, 1) := by decide +kernel
theorem dX6_addThread_25 : decode cX6_addThread 25 = .ok (.iload_n 2, 1) := by decide +kernel
theorem dX6_addThread_26 : decode cX6_addThread 26 = .ok (.if_icmp .ne 6, 3) := by decide +kernel
theorem dX6_addThread_29 : decode cX6_addThread 29 = .ok (.bipush (-2), 2) := by decide +kernel
theorem dX6_addThread_31 : decode cX6_addThread 31 = .ok (.ireturn, 1) := by decide +kernel
theorem dX6_addThread_32 : decode cX6_addThread 32 = .ok (.iload_n 1, 1) := by decide +kernel
theorem dX6_addThread_33 : decode cX6_addThread 33 = .ok (.invokestatic 84, 3) := by decide +kernel
theorem dX6_addThread_36 : decode cX6_addThread 36 = .ok (.iload_n 2, 1) := by decide +kernel
theorem dX6_addThread_37 : decode cX6_addThread 37 = .ok (.invokestatic 84, 3) := by decide +kernel
theorem dX6_addThread_40 : decode cX6_addThread 40 = .ok (.ior, 1) := by decide +kernel
theorem dX6_addThread_41 : decode cX6_addThread 41 = .ok (.istore_n 3, 1) := by decide +kernel
theorem dX6_addThread_42 : decode cX6_addThread 42 = .ok (.aload_n 0, 1) := by decide +kernel
theorem dX6_addThread_43 : decode cX6_addThread 43 = .ok (.getfield 12, 3) := by decide +kernel
theorem dX6_addThread_46 : decode cX6_addThread 46 = .ok (.iload_n 3, 1) := by decide +kernel
theorem dX6_addThread_47 : decode cX6_addThread 47 = .ok (.invokevirtual 88, 3) := by decide +kernel
theorem dX6_addThread_50 : decode cX6_addThread 50 = .ok (.ifCond .ne 6, 3) := by decide +kernel
theorem dX6_addThread_53 : decode cX6_addThread 53 = .ok (.bipush (-4), 2) := by decide +kernel
theorem dX6_addThread_55 : decode cX6_addThread 55 = .ok (.ireturn, 1) := by decide +kernel
theorem dX6_addThread_56 : decode cX6_addThread 56 = .ok (.aload_n 0, 1) := by decide +kernel
theorem dX6_addThread_57 : decode cX6_addThread 57 = .ok (.getfield 29, 3) := by decide +kernel
theorem dX6_addThread_60 : decode cX6_addThread 60 = .ok (.aload_n 0, 1) := by decide +kernel
theorem dX6_addThread_61 : decode cX6_addThread 61 = .ok (.getfield 12, 3) := by decide +kernel
theorem dX6_addThread_64 : decode cX6_addThread 64 = .ok (.invokevirtual 54, 3) := by decide +kernel
theorem dX6_addThread_67 : decode cX6_addThread 67 = .ok (.aload_n 0, 1) := by decide +kernel
theorem dX6_addThread_68 : decode cX6_addThread 68 = .ok (.getfield 12, 3) := by decide +kernel
theorem dX6_addThread_71 : decode cX6_addThread 71 = .ok (.iload_n 3, 1) := by decide +kernel
theorem dX6_addThread_72 : decode cX6_addThread 72 = .ok (.invokevirtual 91, 3) := by decide +kernel
theorem dX6_addThread_75 : decode cX6_addThread 75 = .ok (.aload_n 0, 1) := by decide +kernel
theorem dX6_addThread_76 : decode cX6_addThread 76 = .ok (.getfield 12, 3) := by decide +kernel
theorem dX6_addThread_79 : decode cX6_addThread 79 = .ok (.invokevirtual 81, 3) := by decide +kernel
theorem dX6_addThread_82 : decode cX6_addThread 82 = .ok (.iconst 1, 1) := by decide +kernel
theorem dX6_addThread_83 : decode cX6_addThread 83 = .ok (.isub, 1) := by decide +kernel
theorem dX6_addThread_84 : decode cX6_addThread 84 = .ok (.ireturn, 1) := by decide +kernel
set_option maxRecDepth 20000 in
theorem ggX6_removeThread_X2_hasThread : GoodIn wsX6_removeThread wsX2_hasThread := goodIn_r _ [7, 8, 57, 58, 59, 60] (by decide +kernel) (by decide +kernel)
set_option maxRecDepth 20000 in
theorem gX6_removeThread_X2_hasThread : GoodIn wsX6_removeThread (wsV RX6 94 RX2 yX2_hasThread wsX2_hasThread) := goodIn_app (goodIn_of _ (by decide +kernel)) ggX6_removeThread_X2_hasThread
set_option maxRecDepth 20000 in
theorem ggX6_removeThread_X1_push : GoodIn wsX6_removeThread wsX1_push := goodIn_r _ [13, 14, 15, 16, 17, 18, 12, 19, 20, 21, 22, 6, 23, 24, 8, 25, 26, 27, 28, 29, 30, 31, 32, 33, 34, 35, 36, 37, 38, 39, 61, 62, 57, 58, 59, 60] (by decide +kernel) (by decide +kernel)
set_option maxRecDepth 20000 in
theorem gX6_removeThread_X1_push : GoodIn wsX6_removeThread (wsV RX6 54 RX1 yX1_push wsX1_push) := goodIn_app (goodIn_of _ (by decide +kernel)) ggX6_removeThread_X1_push
set_option maxRecDepth 20000 in
theorem ggX6_removeThread_X2_dropThread : GoodIn wsX6_removeThread wsX2_dropThread := goodIn_r _ [43, 8, 25, 26, 44, 4, 5, 6, 7, 31, 32, 33, 34, 35, 57, 58, 59, 60] (by decide +kernel) (by decide +kernel)
set_option maxRecDepth 20000 in
theorem gX6_removeThread_X2_dropThread : GoodIn wsX6_removeThread (wsV RX6 97 RX2 yX2_dropThread wsX2_dropThread) := goodIn_app (goodIn_of _ (by decide +kernel)) ggX6_removeThread_X2_dropThread
set_option maxRecDepth 20000 in
theorem ggX6_removeThread_X2_threads : GoodIn wsX6_removeThread wsX2_threads := goodIn_r _ [48, 8, 57, 58, 59, 60] (by decide +kernel) (by decide +kernel)
set_option maxRecDepth 20000 in
theorem gX6_removeThread_X2_threads : GoodIn wsX6_removeThread (wsV RX6 81 RX2 yX2_threads wsX2_threads) := goodIn_app (goodIn_of _ (by decide +kernel)) ggX6_removeThread_X2_threads
theorem dX6_removeThread_0 : decode cX6_removeThread 0 = .ok (.aload_n 0, 1) := by decide +kernel
theorem dX6_removeThread_1 : decode cX6_removeThread 1 = .ok (.getfield 12, 3) := by decide +kernel
theorem dX6_removeThread_4 : decode cX6_removeThread 4 = .ok (.iload_n 1, 1) := by decide +kernel
theorem dX6_removeThread_5 : decode cX6_removeThread 5 = .ok (.invokevirtual 94, 3) := by decide +kernel
theorem dX6_removeThread_8 : decode cX6_removeThread 8 = .ok (.ifCond .ne 5, 3) := by decide +kernel
theorem dX6_removeThread_11 : decode cX6_removeThread 11 = .ok (.iconst (-1), 1) := by decide +kernel
theorem dX6_removeThread_12 : decode cX6_removeThread 12 = .ok (.ireturn, 1) := by decide +kernel
theorem dX6_removeThread_13 : decode cX6_removeThread 13 = .ok (.aload_n 0, 1) := by decide +kernel
theorem dX6_removeThread_14 : decode cX6_removeThread 14 = .ok (.getfield 29, 3) := by decide +kernel
theorem dX6_removeThread_17 : decode cX6_removeThread 17 = .ok (.aload_n 0, 1) := by decide +kernel
theorem dX6_removeThread_18 : decode cX6_removeThread 18 = .ok (.getfield 12, 3) := by decide +kernel
theorem dX6_removeThread_21 : decode cX6_removeThread 21 = .ok (.invokevirtual 54, 3) := by decide +kernel
theorem dX6_removeThread_24 : decode cX6_removeThread 24 = .ok (.aload_n 0, 1) := by decide +kernel
theorem dX6_removeThread_25 : decode cX6_removeThread 25 = .ok (.getfield 12, 3) := by decide +kernel
theorem dX6_removeThread_28 : decode cX6_removeThread 28 = .ok (.iload_n 1, 1) := by decide +kernel
theorem dX6_removeThread_29 : decode cX6_removeThread 29 = .ok (.invokevirtual 97, 3) := by decide +kernel
theorem dX6_removeThread_32 : decode cX6_removeThread 32 = .ok (.aload_n 0, 1) := by decide +kernel
theorem dX6_removeThread_33 : decode cX6_removeThread 33 = .ok (.getfield 12, 3) := by decide +kernel
theorem dX6_removeThread_36 : decode cX6_removeThread 36 = .ok (.invokevirtual 81, 3) := by decide +kernel
theorem dX6_removeThread_39 : decode cX6_removeThread 39 = .ok (.ireturn, 1) := by decide +kernel
set_option maxRecDepth 20000 in
theorem ggX6_readNet_X4_read : GoodIn wsX6_readNet wsX4_read := goodIn_r _ [9, 10, 11, 12, 13, 14, 8, 15, 16, 17, 18, 19, 20, 21, 22, 23, 24, 25, 125, 126, 127, 128] (by decide +kernel) (by decide +kernel)
set_option maxRecDepth 20000 in
theorem gX6_readNet_X4_read : GoodIn wsX6_readNet (wsV RX6 100 RX4 yX4_read wsX4_read) := goodIn_app (goodIn_of _ (by decide +kernel)) ggX6_readNet_X4_read
set_option maxRecDepth 20000 in
theorem ggX6_readNet_X4_tiesAKnotToItself : GoodIn wsX6_readNet wsX4_tiesAKnotToItself := goodIn_r _ [29, 10, 20, 30, 22, 31, 32, 33, 34, 35, 36, 37, 38, 125, 126, 127, 128] (by decide +kernel) (by decide +kernel)
set_option maxRecDepth 20000 in
theorem gX6_readNet_X4_tiesAKnotToItself : GoodIn wsX6_readNet (wsV RX6 103 RX4 yX4_tiesAKnotToItself wsX4_tiesAKnotToItself) := goodIn_app (goodIn_of _ (by decide +kernel)) ggX6_readNet_X4_tiesAKnotToItself
set_option maxRecDepth 20000 in
theorem ggX6_readNet_X4_tieInto : GoodIn wsX6_readNet wsX4_tieInto := goodIn_r _ [42, 10, 20, 43, 44, 45, 46, 47, 48, 49, 30, 22, 31, 50, 51, 52, 53, 54, 55, 56, 57, 58, 59, 60, 61, 62, 63, 64, 34, 65, 66, 67, 68, 69, 70, 71, 72, 73, 21, 23, 74, 75, 76, 77, 78, 33, 35, 36, 37, 38, 79, 80, 81, 82, 83, 24, 25, 84, 85, 86, 87, 88, 89, 90, 91, 92, 125, 126, 127, 128, 129, 130, 131, 132] (by decide +kernel) (by decide +kernel)
set_option maxRecDepth 20000 in
theorem gX6_readNet_X4_tieInto : GoodIn wsX6_readNet (wsV RX6 107 RX4 yX4_tieInto wsX4_tieInto) := goodIn_app (goodIn_of _ (by decide +kernel)) ggX6_readNet_X4_tieInto
set_option maxRecDepth 20000 in
theorem ggX6_readNet_X1_push : GoodIn wsX6_readNet wsX1_push := goodIn_r _ [97, 98, 99, 100, 101, 102, 96, 103, 104, 105, 106, 46, 107, 48, 49, 62, 83, 58, 59, 60, 61, 30, 22, 31, 24, 25, 108, 109, 110, 111, 133, 134, 129, 130, 131, 132] (by decide +kernel) (by decide +kernel)
set_option maxRecDepth 20000 in
theorem gX6_readNet_X1_push : GoodIn wsX6_readNet (wsV RX6 54 RX1 yX1_push wsX1_push) := goodIn_app (goodIn_of _ (by decide +kernel)) ggX6_readNet_X1_push
set_option maxRecDepth 20000 in
theorem ggX6_readNet_X2_copyFrom : GoodIn wsX6_readNet wsX2_copyFrom := goodIn_r _ [107, 48, 49, 62, 83, 58, 59, 60, 46, 61, 30, 22, 31, 24, 25, 108, 109, 110, 111, 129, 130, 131, 132] (by decide +kernel) (by decide +kernel)
set_option maxRecDepth 20000 in
theorem gX6_readNet_X2_copyFrom : GoodIn wsX6_readNet (wsV RX6 111 RX2 yX2_copyFrom wsX2_copyFrom) := goodIn_app (goodIn_of _ (by decide +kernel)) ggX6_readNet_X2_copyFrom
set_option maxRecDepth 20000 in
theorem ggX6_readNet_X2_knots : GoodIn wsX6_readNet wsX2_knots := goodIn_r _ [116, 48, 129, 130, 131, 132] (by decide +kernel) (by decide +kernel)
set_option maxRecDepth 20000 in
theorem gX6_readNet_X2_knots : GoodIn wsX6_readNet (wsV RX6 66 RX2 yX2_knots wsX2_knots) := goodIn_app (goodIn_of _ (by decide +kernel)) ggX6_readNet_X2_knots
theorem dX6_readNet_0 : decode cX6_readNet 0 = .ok (.aload_n 0, 1) := by decide +kernel
theorem dX6_readNet_1 : decode cX6_readNet 1 = .ok (.getfield 36, 3) := by decide +kernel
theorem dX6_readNet_4 : decode cX6_readNet 4 = .ok (.invokevirtual 100, 3) := by decide +kernel
theorem dX6_readNet_7 : decode cX6_readNet 7 = .ok (.istore_n 1, 1) := by decide +kernel
theorem dX6_readNet_8 : decode cX6_readNet 8 = .ok (.iload_n 1, 1) := by decide +kernel
theorem dX6_readNet_9 : decode cX6_readNet 9 = .ok (.ifCond .lt 8, 3) := by decide +kernel
theorem dX6_readNet_12 : decode cX6_readNet 12 = .ok (.bipush (-100), 2) := by decide +kernel
theorem dX6_readNet_14 : decode cX6_readNet 14 = .ok (.iload_n 1, 1) := by decide +kernel
theorem dX6_readNet_15 : decode cX6_readNet 15 = .ok (.isub, 1) := by decide +kernel
theorem dX6_readNet_16 : decode cX6_readNet 16 = .ok (.ireturn, 1) := by decide +kernel
theorem dX6_readNet_17 : decode cX6_readNet 17 = .ok (.aload_n 0, 1) := by decide +kernel
theorem dX6_readNet_18 : decode cX6_readNet 18 = .ok (.getfield 36, 3) := by decide +kernel
theorem dX6_readNet_21 : decode cX6_readNet 21 = .ok (.invokevirtual 103, 3) := by decide +kernel
theorem dX6_readNet_24 : decode cX6_readNet 24 = .ok (.ifCond .eq 6, 3) := by decide +kernel
theorem dX6_readNet_27 : decode cX6_readNet 27 = .ok (.bipush (-2), 2) := by decide +kernel
theorem dX6_readNet_29 : decode cX6_readNet 29 = .ok (.ireturn, 1) := by decide +kernel
theorem dX6_readNet_30 : decode cX6_readNet 30 = .ok (.aload_n 0, 1) := by decide +kernel
theorem dX6_readNet_31 : decode cX6_readNet 31 = .ok (.getfield 36, 3) := by decide +kernel
theorem dX6_readNet_34 : decode cX6_readNet 34 = .ok (.aload_n 0, 1) := by decide +kernel
theorem dX6_readNet_35 : decode cX6_readNet 35 = .ok (.getfield 16, 3) := by decide +kernel
theorem dX6_readNet_38 : decode cX6_readNet 38 = .ok (.invokevirtual 107, 3) := by decide +kernel
theorem dX6_readNet_41 : decode cX6_readNet 41 = .ok (.ifCond .ne 6, 3) := by decide +kernel
theorem dX6_readNet_44 : decode cX6_readNet 44 = .ok (.bipush (-4), 2) := by decide +kernel
theorem dX6_readNet_46 : decode cX6_readNet 46 = .ok (.ireturn, 1) := by decide +kernel
theorem dX6_readNet_47 : decode cX6_readNet 47 = .ok (.aload_n 0, 1) := by decide +kernel
theorem dX6_readNet_48 : decode cX6_readNet 48 = .ok (.getfield 29, 3) := by decide +kernel
theorem dX6_readNet_51 : decode cX6_readNet 51 = .ok (.aload_n 0, 1) := by decide +kernel
theorem dX6_readNet_52 : decode cX6_readNet 52 = .ok (.getfield 12, 3) := by decide +kernel
theorem dX6_readNet_55 : decode cX6_readNet 55 = .ok (.invokevirtual 54, 3) := by decide +kernel
theorem dX6_readNet_58 : decode cX6_readNet 58 = .ok (.aload_n 0, 1) := by decide +kernel
theorem dX6_readNet_59 : decode cX6_readNet 59 = .ok (.getfield 12, 3) := by decide +kernel
theorem dX6_readNet_62 : decode cX6_readNet 62 = .ok (.aload_n 0, 1) := by decide +kernel
theorem dX6_readNet_63 : decode cX6_readNet 63 = .ok (.getfield 16, 3) := by decide +kernel
theorem dX6_readNet_66 : decode cX6_readNet 66 = .ok (.invokevirtual 111, 3) := by decide +kernel
theorem dX6_readNet_69 : decode cX6_readNet 69 = .ok (.aload_n 0, 1) := by decide +kernel
theorem dX6_readNet_70 : decode cX6_readNet 70 = .ok (.getfield 12, 3) := by decide +kernel
theorem dX6_readNet_73 : decode cX6_readNet 73 = .ok (.invokevirtual 66, 3) := by decide +kernel
theorem dX6_readNet_76 : decode cX6_readNet 76 = .ok (.ireturn, 1) := by decide +kernel
set_option maxRecDepth 20000 in
theorem ggX6_grow_X2_hasKnot : GoodIn wsX6_grow wsX2_hasKnot := goodIn_r _ [7, 8, 93, 94, 95, 96] (by decide +kernel) (by decide +kernel)
set_option maxRecDepth 20000 in
theorem gX6_grow_X2_hasKnot : GoodIn wsX6_grow (wsV RX6 74 RX2 yX2_hasKnot wsX2_hasKnot) := goodIn_app (goodIn_of _ (by decide +kernel)) ggX6_grow_X2_hasKnot
set_option maxRecDepth 20000 in
theorem ggX6_grow_X2_isFullKnot : GoodIn wsX6_grow wsX2_isFullKnot := goodIn_r _ [12, 13, 14, 15, 16, 17, 18, 6, 19, 20, 21, 22, 23, 24, 25, 26, 27, 28, 29, 30, 31, 32, 33, 34, 93, 94, 95, 96] (by decide +kernel) (by decide +kernel)
set_option maxRecDepth 20000 in
theorem gX6_grow_X2_isFullKnot : GoodIn wsX6_grow (wsV RX6 114 RX2 yX2_isFullKnot wsX2_isFullKnot) := goodIn_app (goodIn_of _ (by decide +kernel)) ggX6_grow_X2_isFullKnot
set_option maxRecDepth 20000 in
theorem ggX6_grow_X2_knots : GoodIn wsX6_grow wsX2_knots := goodIn_r _ [38, 8, 93, 94, 95, 96] (by decide +kernel) (by decide +kernel)
set_option maxRecDepth 20000 in
theorem gX6_grow_X2_knots : GoodIn wsX6_grow (wsV RX6 66 RX2 yX2_knots wsX2_knots) := goodIn_app (goodIn_of _ (by decide +kernel)) ggX6_grow_X2_knots
set_option maxRecDepth 20000 in
theorem ggX6_grow_X1_push : GoodIn wsX6_grow wsX1_push := goodIn_r _ [43, 44, 45, 46, 47, 48, 42, 49, 50, 51, 52, 6, 53, 8, 20, 25, 54, 21, 22, 23, 24, 26, 14, 27, 55, 56, 57, 58, 59, 60, 97, 98, 93, 94, 95, 96] (by decide +kernel) (by decide +kernel)
set_option maxRecDepth 20000 in
theorem gX6_grow_X1_push : GoodIn wsX6_grow (wsV RX6 54 RX1 yX1_push wsX1_push) := goodIn_app (goodIn_of _ (by decide +kernel)) ggX6_grow_X1_push
set_option maxRecDepth 20000 in
theorem ggX6_grow_X2_growInto : GoodIn wsX6_grow wsX2_growInto := goodIn_r _ [64, 8, 13, 14, 15, 16, 17, 18, 6, 19, 20, 21, 22, 23, 24, 25, 26, 27, 65, 66, 67, 68, 69, 70, 71, 72, 73, 74, 30, 75, 76, 77, 78, 79, 80, 55, 56, 81, 82, 83, 84, 54, 93, 94, 95, 96] (by decide +kernel) (by decide +kernel)
set_option maxRecDepth 20000 in
theorem gX6_grow_X2_growInto : GoodIn wsX6_grow (wsV RX6 117 RX2 yX2_growInto wsX2_growInto) := goodIn_app (goodIn_of _ (by decide +kernel)) ggX6_grow_X2_growInto
theorem dX6_grow_0 : decode cX6_grow 0 = .ok (.aload_n 0, 1) := by decide +kernel
theorem dX6_grow_1 : decode cX6_grow 1 = .ok (.getfield 12, 3) := by decide +kernel
theorem dX6_grow_4 : decode cX6_grow 4 = .ok (.iload_n 1, 1) := by decide +kernel
theorem dX6_grow_5 : decode cX6_grow 5 = .ok (.invokevirtual 74, 3) := by decide +kernel
theorem dX6_grow_8 : decode cX6_grow 8 = .ok (.ifCond .ne 5, 3) := by decide +kernel
theorem dX6_grow_11 : decode cX6_grow 11 = .ok (.iconst (-1), 1) := by decide +kernel
theorem dX6_grow_12 : decode cX6_grow 12 = .ok (.ireturn, 1) := by decide +kernel
theorem dX6_grow_13 : decode cX6_grow 13 = .ok (.aload_n 0, 1) := by decide +kernel
theorem dX6_grow_14 : decode cX6_grow 14 = .ok (.getfield 12, 3) := by decide +kernel
theorem dX6_grow_17 : decode cX6_grow 17 = .ok (.iload_n 1, 1) := by decide +kernel
theorem dX6_grow_18 : decode cX6_grow 18 = .ok (.invokevirtual 114, 3) := by decide +kernel
theorem dX6_grow_21 : decode cX6_grow 21 = .ok (.ifCond .ne 6, 3) := by decide +kernel
theorem dX6_grow_24 : decode cX6_grow 24 = .ok (.bipush (-4), 2) := by decide +kernel
theorem dX6_grow_26 : decode cX6_grow 26 = .ok (.ireturn, 1) := by decide +kernel
theorem dX6_grow_27 : decode cX6_grow 27 = .ok (.aload_n 0, 1) := by decide +kernel
theorem dX6_grow_28 : decode cX6_grow 28 = .ok (.getfield 12, 3) := by decide +kernel
theorem dX6_grow_31 : decode cX6_grow 31 = .ok (.invokevirtual 66, 3) := by decide +kernel
theorem dX6_grow_34 : decode cX6_grow 34 = .ok (.iconst 2, 1) := by decide +kernel
theorem dX6_grow_35 : decode cX6_grow 35 = .ok (.iadd, 1) := by decide +kernel
theorem dX6_grow_36 : decode cX6_grow 36 = .ok (.bipush 14, 2) := by decide +kernel
theorem dX6_grow_38 : decode cX6_grow 38 = .ok (.if_icmp .le 6, 3) := by decide +kernel
theorem dX6_grow_41 : decode cX6_grow 41 = .ok (.bipush (-3), 2) := by decide +kernel
theorem dX6_grow_43 : decode cX6_grow 43 = .ok (.ireturn, 1) := by decide +kernel
theorem dX6_grow_44 : decode cX6_grow 44 = .ok (.aload_n 0, 1) := by decide +kernel
theorem dX6_grow_45 : decode cX6_grow 45 = .ok (.getfield 29, 3) := by decide +kernel
theorem dX6_grow_48 : decode cX6_grow 48 = .ok (.aload_n 0, 1) := by decide +kernel
theorem dX6_grow_49 : decode cX6_grow 49 = .ok (.getfield 12, 3) := by decide +kernel
theorem dX6_grow_52 : decode cX6_grow 52 = .ok (.invokevirtual 54, 3) := by decide +kernel
theorem dX6_grow_55 : decode cX6_grow 55 = .ok (.aload_n 0, 1) := by decide +kernel
theorem dX6_grow_56 : decode cX6_grow 56 = .ok (.getfield 12, 3) := by decide +kernel
theorem dX6_grow_59 : decode cX6_grow 59 = .ok (.iload_n 1, 1) := by decide +kernel
theorem dX6_grow_60 : decode cX6_grow 60 = .ok (.invokevirtual 117, 3) := by decide +kernel
theorem dX6_grow_63 : decode cX6_grow 63 = .ok (.aload_n 0, 1) := by decide +kernel
theorem dX6_grow_64 : decode cX6_grow 64 = .ok (.getfield 12, 3) := by decide +kernel
theorem dX6_grow_67 : decode cX6_grow 67 = .ok (.invokevirtual 66, 3) := by decide +kernel
theorem dX6_grow_70 : decode cX6_grow 70 = .ok (.iconst 2, 1) := by decide +kernel
theorem dX6_grow_71 : decode cX6_grow 71 = .ok (.isub, 1) := by decide +kernel
theorem dX6_grow_72 : decode cX6_grow 72 = .ok (.ireturn, 1) := by decide +kernel
set_option maxRecDepth 20000 in
theorem ggX6_shrink_X2_hasKnot : GoodIn wsX6_shrink wsX2_hasKnot := goodIn_r _ [7, 8, 116, 117, 118, 119] (by decide +kernel) (by decide +kernel)
set_option maxRecDepth 20000 in
theorem gX6_shrink_X2_hasKnot : GoodIn wsX6_shrink (wsV RX6 74 RX2 yX2_hasKnot wsX2_hasKnot) := goodIn_app (goodIn_of _ (by decide +kernel)) ggX6_shrink_X2_hasKnot
set_option maxRecDepth 20000 in
theorem ggX6_shrink_X2_cornersBeside : GoodIn wsX6_shrink wsX2_cornersBeside := goodIn_r _ [12, 8, 13, 14, 15, 6, 16, 17, 18, 19, 20, 21, 22, 23, 24, 25, 26, 27, 28, 29, 30, 31, 32, 33, 34, 35, 36, 37, 38, 39, 40, 41, 42, 43, 44, 45, 46, 47, 48, 116, 117, 118, 119] (by decide +kernel) (by decide +kernel)
set_option maxRecDepth 20000 in
theorem gX6_shrink_X2_cornersBeside : GoodIn wsX6_shrink (wsV RX6 120 RX2 yX2_cornersBeside wsX2_cornersBeside) := goodIn_app (goodIn_of _ (by decide +kernel)) ggX6_shrink_X2_cornersBeside
set_option maxRecDepth 20000 in
theorem ggX6_shrink_X6_bit : GoodIn wsX6_shrink wsX6_bit := goodIn_r _ [19] (by decide +kernel) (by decide +kernel)
set_option maxRecDepth 20000 in
theorem gX6_shrink_X6_bit : GoodIn wsX6_shrink (va_wsS RX6 84 yX6_bit wsX6_bit) := goodIn_app (goodIn_of _ (by decide +kernel)) ggX6_shrink_X6_bit
set_option maxRecDepth 20000 in
theorem ggX6_shrink_X2_mayMerge : GoodIn wsX6_shrink wsX2_mayMerge := goodIn_r _ [53, 24, 25, 26, 27, 6, 28, 29, 30, 18, 31, 116, 117, 118, 119] (by decide +kernel) (by decide +kernel)
set_option maxRecDepth 20000 in
theorem gX6_shrink_X2_mayMerge : GoodIn wsX6_shrink (wsV RX6 123 RX2 yX2_mayMerge wsX2_mayMerge) := goodIn_app (goodIn_of _ (by decide +kernel)) ggX6_shrink_X2_mayMerge
set_option maxRecDepth 20000 in
theorem ggX6_shrink_X1_push : GoodIn wsX6_shrink wsX1_push := goodIn_r _ [58, 59, 60, 61, 62, 63, 57, 64, 65, 66, 67, 6, 68, 8, 24, 29, 69, 25, 26, 27, 28, 30, 18, 31, 70, 71, 72, 73, 74, 75, 120, 121, 116, 117, 118, 119] (by decide +kernel) (by decide +kernel)
set_option maxRecDepth 20000 in
theorem gX6_shrink_X1_push : GoodIn wsX6_shrink (wsV RX6 54 RX1 yX1_push wsX1_push) := goodIn_app (goodIn_of _ (by decide +kernel)) ggX6_shrink_X1_push
set_option maxRecDepth 20000 in
theorem ggX6_shrink_X2_merge : GoodIn wsX6_shrink wsX2_merge := goodIn_r _ [79, 24, 29, 25, 26, 27, 6, 28, 30, 18, 31, 17, 19, 70, 71, 80, 81, 34, 82, 83, 84, 85, 86, 87, 8, 88, 4, 5, 7, 20, 21, 22, 23, 89, 90, 91, 92, 43, 44, 93, 94, 95, 96, 69, 97, 98, 99, 100, 101, 102, 103, 116, 117, 118, 119] (by decide +kernel) (by decide +kernel)
set_option maxRecDepth 20000 in
theorem gX6_shrink_X2_merge : GoodIn wsX6_shrink (wsV RX6 126 RX2 yX2_merge wsX2_merge) := goodIn_app (goodIn_of _ (by decide +kernel)) ggX6_shrink_X2_merge
set_option maxRecDepth 20000 in
theorem ggX6_shrink_X2_knots : GoodIn wsX6_shrink wsX2_knots := goodIn_r _ [107, 8, 116, 117, 118, 119] (by decide +kernel) (by decide +kernel)
set_option maxRecDepth 20000 in
theorem gX6_shrink_X2_knots : GoodIn wsX6_shrink (wsV RX6 66 RX2 yX2_knots wsX2_knots) := goodIn_app (goodIn_of _ (by decide +kernel)) ggX6_shrink_X2_knots
theorem dX6_shrink_0 : decode cX6_shrink 0 = .ok (.aload_n 0, 1) := by decide +kernel
theorem dX6_shrink_1 : decode cX6_shrink 1 = .ok (.getfield 12, 3) := by decide +kernel
theorem dX6_shrink_4 : decode cX6_shrink 4 = .ok (.iload_n 1, 1) := by decide +kernel
theorem dX6_shrink_5 : decode cX6_shrink 5 = .ok (.invokevirtual 74, 3) := by decide +kernel
theorem dX6_shrink_8 : decode cX6_shrink 8 = .ok (.ifCond .ne 5, 3) := by decide +kernel
theorem dX6_shrink_11 : decode cX6_shrink 11 = .ok (.iconst (-1), 1) := by decide +kernel
theorem dX6_shrink_12 : decode cX6_shrink 12 = .ok (.ireturn, 1) := by decide +kernel
theorem dX6_shrink_13 : decode cX6_shrink 13 = .ok (.aload_n 0, 1) := by decide +kernel
theorem dX6_shrink_14 : decode cX6_shrink 14 = .ok (.getfield 12, 3) := by decide +kernel
theorem dX6_shrink_17 : decode cX6_shrink 17 = .ok (.iload_n 1, 1) := by decide +kernel
theorem dX6_shrink_18 : decode cX6_shrink 18 = .ok (.invokevirtual 120, 3) := by decide +kernel
theorem dX6_shrink_21 : decode cX6_shrink 21 = .ok (.istore_n 2, 1) := by decide +kernel
theorem dX6_shrink_22 : decode cX6_shrink 22 = .ok (.iload_n 2, 1) := by decide +kernel
theorem dX6_shrink_23 : decode cX6_shrink 23 = .ok (.ifCond .eq 19, 3) := by decide +kernel
theorem dX6_shrink_26 : decode cX6_shrink 26 = .ok (.aload_n 0, 1) := by decide +kernel
theorem dX6_shrink_27 : decode cX6_shrink 27 = .ok (.getfield 12, 3) := by decide +kernel
theorem dX6_shrink_30 : decode cX6_shrink 30 = .ok (.iload_n 2, 1) := by decide +kernel
theorem dX6_shrink_31 : decode cX6_shrink 31 = .ok (.iload_n 1, 1) := by decide +kernel
theorem dX6_shrink_32 : decode cX6_shrink 32 = .ok (.invokestatic 84, 3) := by decide +kernel
theorem dX6_shrink_35 : decode cX6_shrink 35 = .ok (.ior, 1) := by decide +kernel
theorem dX6_shrink_36 : decode cX6_shrink 36 = .ok (.invokevirtual 123, 3) := by decide +kernel
theorem dX6_shrink_39 : decode cX6_shrink 39 = .ok (.ifCond .ne 6, 3) := by decide +kernel
theorem dX6_shrink_42 : decode cX6_shrink 42 = .ok (.bipush (-4), 2) := by decide +kernel
theorem dX6_shrink_44 : decode cX6_shrink 44 = .ok (.ireturn, 1) := by decide +kernel
theorem dX6_shrink_45 : decode cX6_shrink 45 = .ok (.aload_n 0, 1) := by decide +kernel
theorem dX6_shrink_46 : decode cX6_shrink 46 = .ok (.getfield 29, 3) := by decide +kernel
theorem dX6_shrink_49 : decode cX6_shrink 49 = .ok (.aload_n 0, 1) := by decide +kernel
theorem dX6_shrink_50 : decode cX6_shrink 50 = .ok (.getfield 12, 3) := by decide +kernel
theorem dX6_shrink_53 : decode cX6_shrink 53 = .ok (.invokevirtual 54, 3) := by decide +kernel
theorem dX6_shrink_56 : decode cX6_shrink 56 = .ok (.aload_n 0, 1) := by decide +kernel
theorem dX6_shrink_57 : decode cX6_shrink 57 = .ok (.getfield 12, 3) := by decide +kernel
theorem dX6_shrink_60 : decode cX6_shrink 60 = .ok (.iload_n 1, 1) := by decide +kernel
theorem dX6_shrink_61 : decode cX6_shrink 61 = .ok (.iload_n 2, 1) := by decide +kernel
theorem dX6_shrink_62 : decode cX6_shrink 62 = .ok (.invokevirtual 126, 3) := by decide +kernel
theorem dX6_shrink_65 : decode cX6_shrink 65 = .ok (.aload_n 0, 1) := by decide +kernel
theorem dX6_shrink_66 : decode cX6_shrink 66 = .ok (.getfield 12, 3) := by decide +kernel
theorem dX6_shrink_69 : decode cX6_shrink 69 = .ok (.invokevirtual 66, 3) := by decide +kernel
theorem dX6_shrink_72 : decode cX6_shrink 72 = .ok (.ireturn, 1) := by decide +kernel
set_option maxRecDepth 20000 in
theorem ggX6_join_X2_hasThread : GoodIn wsX6_join wsX2_hasThread := goodIn_r _ [7, 8, 87, 88, 89, 90] (by decide +kernel) (by decide +kernel)
set_option maxRecDepth 20000 in
theorem gX6_join_X2_hasThread : GoodIn wsX6_join (wsV RX6 94 RX2 yX2_hasThread wsX2_hasThread) := goodIn_app (goodIn_of _ (by decide +kernel)) ggX6_join_X2_hasThread
set_option maxRecDepth 20000 in
theorem ggX6_join_X2_knots : GoodIn wsX6_join wsX2_knots := goodIn_r _ [12, 13, 87, 88, 89, 90] (by decide +kernel) (by decide +kernel)
set_option maxRecDepth 20000 in
theorem gX6_join_X2_knots : GoodIn wsX6_join (wsV RX6 66 RX2 yX2_knots wsX2_knots) := goodIn_app (goodIn_of _ (by decide +kernel)) ggX6_join_X2_knots
set_option maxRecDepth 20000 in
theorem ggX6_join_X1_push : GoodIn wsX6_join wsX1_push := goodIn_r _ [18, 19, 20, 21, 22, 23, 17, 24, 25, 26, 27, 6, 28, 13, 8, 29, 30, 31, 32, 33, 34, 35, 36, 37, 38, 39, 40, 41, 42, 43, 91, 92, 87, 88, 89, 90] (by decide +kernel) (by decide +kernel)
set_option maxRecDepth 20000 in
theorem gX6_join_X1_push : GoodIn wsX6_join (wsV RX6 54 RX1 yX1_push wsX1_push) := goodIn_app (goodIn_of _ (by decide +kernel)) ggX6_join_X1_push
set_option maxRecDepth 20000 in
theorem ggX6_join_X2_bridgeOver : GoodIn wsX6_join wsX2_bridgeOver := goodIn_r _ [47, 13, 48, 49, 50, 6, 51, 31, 32, 33, 34, 29, 35, 36, 37, 52, 53, 54, 55, 56, 57, 58, 59, 60, 61, 62, 63, 64, 65, 66, 67, 68, 69, 70, 38, 39, 71, 72, 73, 74, 8, 30, 87, 88, 89, 90] (by decide +kernel) (by decide +kernel)
set_option maxRecDepth 20000 in
theorem gX6_join_X2_bridgeOver : GoodIn wsX6_join (wsV RX6 130 RX2 yX2_bridgeOver wsX2_bridgeOver) := goodIn_app (goodIn_of _ (by decide +kernel)) ggX6_join_X2_bridgeOver
set_option maxRecDepth 20000 in
theorem ggX6_join_X2_threads : GoodIn wsX6_join wsX2_threads := goodIn_r _ [78, 8, 87, 88, 89, 90] (by decide +kernel) (by decide +kernel)
set_option maxRecDepth 20000 in
theorem gX6_join_X2_threads : GoodIn wsX6_join (wsV RX6 81 RX2 yX2_threads wsX2_threads) := goodIn_app (goodIn_of _ (by decide +kernel)) ggX6_join_X2_threads
theorem dX6_join_0 : decode cX6_join 0 = .ok (.aload_n 0, 1) := by decide +kernel
theorem dX6_join_1 : decode cX6_join 1 = .ok (.getfield 12, 3) := by decide +kernel
theorem dX6_join_4 : decode cX6_join 4 = .ok (.iload_n 1, 1) := by decide +kernel
theorem dX6_join_5 : decode cX6_join 5 = .ok (.invokevirtual 94, 3) := by decide +kernel
theorem dX6_join_8 : decode cX6_join 8 = .ok (.ifCond .eq 14, 3) := by decide +kernel
theorem dX6_join_11 : decode cX6_join 11 = .ok (.aload_n 0, 1) := by decide +kernel
theorem dX6_join_12 : decode cX6_join 12 = .ok (.getfield 12, 3) := by decide +kernel
theorem dX6_join_15 : decode cX6_join 15 = .ok (.iload_n 2, 1) := by decide +kernel
theorem dX6_join_16 : decode cX6_join 16 = .ok (.invokevirtual 94, 3) := by decide +kernel
theorem dX6_join_19 : decode cX6_join 19 = .ok (.ifCond .ne 5, 3) := by decide +kernel
theorem dX6_join_22 : decode cX6_join 22 = .ok (.iconst (-1), 1) := by decide +kernel
theorem dX6_join_23 : decode cX6_join 23 = .ok (.ireturn, 1) := by decide +kernel
theorem dX6_join_24 : decode cX6_join 24 = .ok (.iload_n 1, 1) := by decide +kernel
theorem dX6_join_25 : decode cX6_join 25 = .ok (.iload_n 2, 1) := by decide +kernel
theorem dX6_join_26 : decode cX6_join 26 = .ok (.if_icmp .ne 6, 3) := by decide +kernel
theorem dX6_join_29 : decode cX6_join 29 = .ok (.bipush (-2), 2) := by decide +kernel
theorem dX6_join_31 : decode cX6_join 31 = .ok (.ireturn, 1) := by decide +kernel
theorem dX6_join_32 : decode cX6_join 32 = .ok (.aload_n 0, 1) := by decide +kernel
theorem dX6_join_33 : decode cX6_join 33 = .ok (.getfield 12, 3) := by decide +kernel
theorem dX6_join_36 : decode cX6_join 36 = .ok (.invokevirtual 66, 3) := by decide +kernel
theorem dX6_join_39 : decode cX6_join 39 = .ok (.iconst 2, 1) := by decide +kernel
theorem dX6_join_40 : decode cX6_join 40 = .ok (.iadd, 1) := by decide +kernel
theorem dX6_join_41 : decode cX6_join 41 = .ok (.bipush 14, 2) := by decide +kernel
theorem dX6_join_43 : decode cX6_join 43 = .ok (.if_icmp .le 6, 3) := by decide +kernel
theorem dX6_join_46 : decode cX6_join 46 = .ok (.bipush (-3), 2) := by decide +kernel
theorem dX6_join_48 : decode cX6_join 48 = .ok (.ireturn, 1) := by decide +kernel
theorem dX6_join_49 : decode cX6_join 49 = .ok (.aload_n 0, 1) := by decide +kernel
theorem dX6_join_50 : decode cX6_join 50 = .ok (.getfield 29, 3) := by decide +kernel
theorem dX6_join_53 : decode cX6_join 53 = .ok (.aload_n 0, 1) := by decide +kernel
theorem dX6_join_54 : decode cX6_join 54 = .ok (.getfield 12, 3) := by decide +kernel
theorem dX6_join_57 : decode cX6_join 57 = .ok (.invokevirtual 54, 3) := by decide +kernel
theorem dX6_join_60 : decode cX6_join 60 = .ok (.aload_n 0, 1) := by decide +kernel
theorem dX6_join_61 : decode cX6_join 61 = .ok (.getfield 12, 3) := by decide +kernel
theorem dX6_join_64 : decode cX6_join 64 = .ok (.iload_n 1, 1) := by decide +kernel
theorem dX6_join_65 : decode cX6_join 65 = .ok (.iload_n 2, 1) := by decide +kernel
theorem dX6_join_66 : decode cX6_join 66 = .ok (.invokevirtual 130, 3) := by decide +kernel
theorem dX6_join_69 : decode cX6_join 69 = .ok (.aload_n 0, 1) := by decide +kernel
theorem dX6_join_70 : decode cX6_join 70 = .ok (.getfield 12, 3) := by decide +kernel
theorem dX6_join_73 : decode cX6_join 73 = .ok (.invokevirtual 81, 3) := by decide +kernel
theorem dX6_join_76 : decode cX6_join 76 = .ok (.iconst 1, 1) := by decide +kernel
theorem dX6_join_77 : decode cX6_join 77 = .ok (.isub, 1) := by decide +kernel
theorem dX6_join_78 : decode cX6_join 78 = .ok (.ireturn, 1) := by decide +kernel
set_option maxRecDepth 20000 in
theorem ggX6_paint_X2_hasThread : GoodIn wsX6_paint wsX2_hasThread := goodIn_r _ [7, 8, 53, 54, 55, 56] (by decide +kernel) (by decide +kernel)
set_option maxRecDepth 20000 in
theorem gX6_paint_X2_hasThread : GoodIn wsX6_paint (wsV RX6 94 RX2 yX2_hasThread wsX2_hasThread) := goodIn_app (goodIn_of _ (by decide +kernel)) ggX6_paint_X2_hasThread
set_option maxRecDepth 20000 in
theorem ggX6_paint_X2_colour : GoodIn wsX6_paint wsX2_colour := goodIn_r _ [12, 13, 14, 15, 16, 53, 54, 55, 56] (by decide +kernel) (by decide +kernel)
set_option maxRecDepth 20000 in
theorem gX6_paint_X2_colour : GoodIn wsX6_paint (wsV RX6 133 RX2 yX2_colour wsX2_colour) := goodIn_app (goodIn_of _ (by decide +kernel)) ggX6_paint_X2_colour
set_option maxRecDepth 20000 in
theorem ggX6_paint_X1_push : GoodIn wsX6_paint wsX1_push := goodIn_r _ [21, 22, 23, 24, 25, 26, 20, 27, 28, 29, 30, 6, 31, 32, 8, 33, 13, 34, 35, 36, 37, 14, 15, 16, 38, 39, 40, 10, 11, 12, 57, 58, 53, 54, 55, 56] (by decide +kernel) (by decide +kernel)
set_option maxRecDepth 20000 in
theorem gX6_paint_X1_push : GoodIn wsX6_paint (wsV RX6 54 RX1 yX1_push wsX1_push) := goodIn_app (goodIn_of _ (by decide +kernel)) ggX6_paint_X1_push
set_option maxRecDepth 20000 in
theorem ggX6_paint_X2_setColour : GoodIn wsX6_paint wsX2_setColour := goodIn_r _ [44, 13, 38, 15, 39, 53, 54, 55, 56] (by decide +kernel) (by decide +kernel)
set_option maxRecDepth 20000 in
theorem gX6_paint_X2_setColour : GoodIn wsX6_paint (wsV RX6 136 RX2 yX2_setColour wsX2_setColour) := goodIn_app (goodIn_of _ (by decide +kernel)) ggX6_paint_X2_setColour
theorem dX6_paint_0 : decode cX6_paint 0 = .ok (.aload_n 0, 1) := by decide +kernel
theorem dX6_paint_1 : decode cX6_paint 1 = .ok (.getfield 12, 3) := by decide +kernel
theorem dX6_paint_4 : decode cX6_paint 4 = .ok (.iload_n 1, 1) := by decide +kernel
theorem dX6_paint_5 : decode cX6_paint 5 = .ok (.invokevirtual 94, 3) := by decide +kernel
theorem dX6_paint_8 : decode cX6_paint 8 = .ok (.ifCond .ne 5, 3) := by decide +kernel
theorem dX6_paint_11 : decode cX6_paint 11 = .ok (.iconst (-1), 1) := by decide +kernel
theorem dX6_paint_12 : decode cX6_paint 12 = .ok (.ireturn, 1) := by decide +kernel
theorem dX6_paint_13 : decode cX6_paint 13 = .ok (.iload_n 2, 1) := by decide +kernel
theorem dX6_paint_14 : decode cX6_paint 14 = .ok (.ifCond .lt 8, 3) := by decide +kernel
theorem dX6_paint_17 : decode cX6_paint 17 = .ok (.iload_n 2, 1) := by decide +kernel
theorem dX6_paint_18 : decode cX6_paint 18 = .ok (.iconst 3, 1) := by decide +kernel
theorem dX6_paint_19 : decode cX6_paint 19 = .ok (.if_icmp .le 6, 3) := by decide +kernel
theorem dX6_paint_22 : decode cX6_paint 22 = .ok (.bipush (-2), 2) := by decide +kernel
theorem dX6_paint_24 : decode cX6_paint 24 = .ok (.ireturn, 1) := by decide +kernel
theorem dX6_paint_25 : decode cX6_paint 25 = .ok (.aload_n 0, 1) := by decide +kernel
theorem dX6_paint_26 : decode cX6_paint 26 = .ok (.getfield 12, 3) := by decide +kernel
theorem dX6_paint_29 : decode cX6_paint 29 = .ok (.iload_n 1, 1) := by decide +kernel
theorem dX6_paint_30 : decode cX6_paint 30 = .ok (.invokevirtual 133, 3) := by decide +kernel
theorem dX6_paint_33 : decode cX6_paint 33 = .ok (.istore_n 3, 1) := by decide +kernel
theorem dX6_paint_34 : decode cX6_paint 34 = .ok (.iload_n 3, 1) := by decide +kernel
theorem dX6_paint_35 : decode cX6_paint 35 = .ok (.iload_n 2, 1) := by decide +kernel
theorem dX6_paint_36 : decode cX6_paint 36 = .ok (.if_icmp .ne 6, 3) := by decide +kernel
theorem dX6_paint_39 : decode cX6_paint 39 = .ok (.bipush (-5), 2) := by decide +kernel
theorem dX6_paint_41 : decode cX6_paint 41 = .ok (.ireturn, 1) := by decide +kernel
theorem dX6_paint_42 : decode cX6_paint 42 = .ok (.aload_n 0, 1) := by decide +kernel
theorem dX6_paint_43 : decode cX6_paint 43 = .ok (.getfield 29, 3) := by decide +kernel
theorem dX6_paint_46 : decode cX6_paint 46 = .ok (.aload_n 0, 1) := by decide +kernel
theorem dX6_paint_47 : decode cX6_paint 47 = .ok (.getfield 12, 3) := by decide +kernel
theorem dX6_paint_50 : decode cX6_paint 50 = .ok (.invokevirtual 54, 3) := by decide +kernel
theorem dX6_paint_53 : decode cX6_paint 53 = .ok (.aload_n 0, 1) := by decide +kernel
theorem dX6_paint_54 : decode cX6_paint 54 = .ok (.getfield 12, 3) := by decide +kernel
theorem dX6_paint_57 : decode cX6_paint 57 = .ok (.iload_n 1, 1) := by decide +kernel
theorem dX6_paint_58 : decode cX6_paint 58 = .ok (.iload_n 2, 1) := by decide +kernel
theorem dX6_paint_59 : decode cX6_paint 59 = .ok (.invokevirtual 136, 3) := by decide +kernel
theorem dX6_paint_62 : decode cX6_paint 62 = .ok (.iload_n 3, 1) := by decide +kernel
theorem dX6_paint_63 : decode cX6_paint 63 = .ok (.ireturn, 1) := by decide +kernel
set_option maxRecDepth 20000 in
theorem ggX6_exchange_X6_chain : GoodIn wsX6_exchange wsX6_chain := goodIn_r _ [7, 2, 8, 9, 10, 11, 12, 13, 14, 15, 16, 17, 18, 19, 6, 20, 21, 22, 23, 24, 25, 26, 27, 28, 29, 30, 31, 32, 33, 34, 35, 36, 37, 38, 39, 40, 41, 42, 43, 44, 45, 46, 47, 48, 49, 50, 51, 85, 86, 87, 88, 89, 90, 91, 92, 93, 94, 95, 96] (by decide +kernel) (by decide +kernel)
set_option maxRecDepth 20000 in
theorem gX6_exchange_X6_chain : GoodIn wsX6_exchange (wsV RX6 139 RX6 yX6_chain wsX6_chain) := goodIn_app (goodIn_of _ (by decide +kernel)) ggX6_exchange_X6_chain
set_option maxRecDepth 20000 in
theorem ggX6_exchange_X1_push : GoodIn wsX6_exchange wsX1_push := goodIn_r _ [56, 57, 58, 59, 60, 61, 55, 62, 63, 64, 65, 11, 66, 67, 13, 32, 18, 51, 29, 30, 31, 19, 6, 20, 68, 69, 25, 15, 16, 17, 97, 98, 93, 94, 95, 96] (by decide +kernel) (by decide +kernel)
set_option maxRecDepth 20000 in
theorem gX6_exchange_X1_push : GoodIn wsX6_exchange (wsV RX6 54 RX1 yX1_push wsX1_push) := goodIn_app (goodIn_of _ (by decide +kernel)) ggX6_exchange_X1_push
set_option maxRecDepth 20000 in
theorem ggX6_exchange_X2_colour : GoodIn wsX6_exchange wsX2_colour := goodIn_r _ [17, 18, 19, 6, 20, 93, 94, 95, 96] (by decide +kernel) (by decide +kernel)
set_option maxRecDepth 20000 in
theorem gX6_exchange_X2_colour : GoodIn wsX6_exchange (wsV RX6 133 RX2 yX2_colour wsX2_colour) := goodIn_app (goodIn_of _ (by decide +kernel)) ggX6_exchange_X2_colour
set_option maxRecDepth 20000 in
theorem ggX6_exchange_X2_swapColours : GoodIn wsX6_exchange wsX2_swapColours := goodIn_r _ [73, 13, 44, 6, 45, 25, 15, 16, 11, 17, 18, 19, 20, 74, 75, 76, 77, 68, 69, 93, 94, 95, 96] (by decide +kernel) (by decide +kernel)
set_option maxRecDepth 20000 in
theorem gX6_exchange_X2_swapColours : GoodIn wsX6_exchange (wsV RX6 143 RX2 yX2_swapColours wsX2_swapColours) := goodIn_app (goodIn_of _ (by decide +kernel)) ggX6_exchange_X2_swapColours
set_option maxRecDepth 20000 in
theorem ggX6_exchange_J6_bitCount_0f7a4 : GoodIn wsX6_exchange wsJ6_bitCount_0f7a4 := goodIn_r _ [81, 82, 83, 84] (by decide +kernel) (by decide +kernel)
set_option maxRecDepth 20000 in
theorem gX6_exchange_J6_bitCount_0f7a4 : GoodIn wsX6_exchange (va_wsS RX6 146 yJ6_bitCount_0f7a4 wsJ6_bitCount_0f7a4) := goodIn_app (goodIn_of _ (by decide +kernel)) ggX6_exchange_J6_bitCount_0f7a4
theorem dX6_exchange_0 : decode cX6_exchange 0 = .ok (.aload_n 0, 1) := by decide +kernel
theorem dX6_exchange_1 : decode cX6_exchange 1 = .ok (.iload_n 1, 1) := by decide +kernel
theorem dX6_exchange_2 : decode cX6_exchange 2 = .ok (.iload_n 2, 1) := by decide +kernel
theorem dX6_exchange_3 : decode cX6_exchange 3 = .ok (.invokevirtual 139, 3) := by decide +kernel
theorem dX6_exchange_6 : decode cX6_exchange 6 = .ok (.istore_n 3, 1) := by decide +kernel
theorem dX6_exchange_7 : decode cX6_exchange 7 = .ok (.iload_n 3, 1) := by decide +kernel
theorem dX6_exchange_8 : decode cX6_exchange 8 = .ok (.ifCond .ge 5, 3) := by decide +kernel
theorem dX6_exchange_11 : decode cX6_exchange 11 = .ok (.iload_n 3, 1) := by decide +kernel
theorem dX6_exchange_12 : decode cX6_exchange 12 = .ok (.ireturn, 1) := by decide +kernel
theorem dX6_exchange_13 : decode cX6_exchange 13 = .ok (.aload_n 0, 1) := by decide +kernel
theorem dX6_exchange_14 : decode cX6_exchange 14 = .ok (.getfield 29, 3) := by decide +kernel
theorem dX6_exchange_17 : decode cX6_exchange 17 = .ok (.aload_n 0, 1) := by decide +kernel
theorem dX6_exchange_18 : decode cX6_exchange 18 = .ok (.getfield 12, 3) := by decide +kernel
theorem dX6_exchange_21 : decode cX6_exchange 21 = .ok (.invokevirtual 54, 3) := by decide +kernel
theorem dX6_exchange_24 : decode cX6_exchange 24 = .ok (.aload_n 0, 1) := by decide +kernel
theorem dX6_exchange_25 : decode cX6_exchange 25 = .ok (.getfield 12, 3) := by decide +kernel
theorem dX6_exchange_28 : decode cX6_exchange 28 = .ok (.iload_n 3, 1) := by decide +kernel
theorem dX6_exchange_29 : decode cX6_exchange 29 = .ok (.aload_n 0, 1) := by decide +kernel
theorem dX6_exchange_30 : decode cX6_exchange 30 = .ok (.getfield 12, 3) := by decide +kernel
theorem dX6_exchange_33 : decode cX6_exchange 33 = .ok (.iload_n 1, 1) := by decide +kernel
theorem dX6_exchange_34 : decode cX6_exchange 34 = .ok (.invokevirtual 133, 3) := by decide +kernel
theorem dX6_exchange_37 : decode cX6_exchange 37 = .ok (.iload_n 2, 1) := by decide +kernel
theorem dX6_exchange_38 : decode cX6_exchange 38 = .ok (.iadd, 1) := by decide +kernel
theorem dX6_exchange_39 : decode cX6_exchange 39 = .ok (.invokevirtual 143, 3) := by decide +kernel
theorem dX6_exchange_42 : decode cX6_exchange 42 = .ok (.iload_n 3, 1) := by decide +kernel
theorem dX6_exchange_43 : decode cX6_exchange 43 = .ok (.invokestatic 146, 3) := by decide +kernel
theorem dX6_exchange_46 : decode cX6_exchange 46 = .ok (.ireturn, 1) := by decide +kernel
set_option maxRecDepth 20000 in
theorem ggX6_complete_X2_coloured : GoodIn wsX6_complete wsX2_coloured := goodIn_r _ [8, 9, 10, 11, 12, 7, 13, 14, 15, 16, 17, 18, 19, 159, 160, 161, 162] (by decide +kernel) (by decide +kernel)
set_option maxRecDepth 20000 in
theorem gX6_complete_X2_coloured : GoodIn wsX6_complete (wsV RX6 151 RX2 yX2_coloured wsX2_coloured) := goodIn_app (goodIn_of _ (by decide +kernel)) ggX6_complete_X2_coloured
set_option maxRecDepth 20000 in
theorem ggX6_complete_X3_findFirst : GoodIn wsX6_complete wsX3_findFirst := goodIn_r _ [24, 25, 26, 27, 28, 23, 29, 30, 31, 32, 7, 33, 9, 34, 11, 12, 13, 14, 15, 16, 17, 35, 36, 37, 38, 39, 40, 41, 42, 43, 44, 45, 46, 47, 48, 49, 50, 51, 52, 53, 54, 5, 6, 8, 10, 18, 19, 55, 56, 57, 58, 59, 60, 61, 62, 63, 64, 65, 66, 67, 68, 69, 70, 71, 72, 73, 74, 75, 76, 77, 78, 79, 80, 81, 82, 83, 84, 85, 86, 87, 88, 89, 90, 91, 92, 93, 94, 95, 96, 97, 98, 99, 100, 101, 102, 103, 104, 105, 106, 107, 108, 109, 110, 111, 112, 113, 114, 115, 116, 117, 118, 119, 120, 121, 122, 123, 124, 163, 164, 165, 166, 167, 168, 169, 170, 159, 160, 161, 162] (by decide +kernel) (by decide +kernel)
set_option maxRecDepth 20000 in
theorem gX6_complete_X3_findFirst : GoodIn wsX6_complete (wsV RX6 154 RX3 yX3_findFirst wsX3_findFirst) := goodIn_app (goodIn_of _ (by decide +kernel)) ggX6_complete_X3_findFirst
set_option maxRecDepth 20000 in
theorem ggX6_complete_X1_push : GoodIn wsX6_complete wsX1_push := goodIn_r _ [129, 130, 131, 132, 133, 134, 128, 135, 136, 137, 138, 7, 139, 140, 9, 39, 14, 70, 36, 37, 38, 15, 16, 17, 71, 72, 10, 11, 12, 13, 171, 172, 159, 160, 161, 162] (by decide +kernel) (by decide +kernel)
set_option maxRecDepth 20000 in
theorem gX6_complete_X1_push : GoodIn wsX6_complete (wsV RX6 54 RX1 yX1_push wsX1_push) := goodIn_app (goodIn_of _ (by decide +kernel)) ggX6_complete_X1_push
set_option maxRecDepth 20000 in
theorem ggX6_complete_X2_threads : GoodIn wsX6_complete wsX2_threads := goodIn_r _ [33, 9, 159, 160, 161, 162] (by decide +kernel) (by decide +kernel)
set_option maxRecDepth 20000 in
theorem gX6_complete_X2_threads : GoodIn wsX6_complete (wsV RX6 81 RX2 yX2_threads wsX2_threads) := goodIn_app (goodIn_of _ (by decide +kernel)) ggX6_complete_X2_threads
set_option maxRecDepth 20000 in
theorem ggX6_complete_X3_foundColour : GoodIn wsX6_complete wsX3_foundColour := goodIn_r _ [145, 26, 15, 16, 17, 163, 164, 165, 166, 167, 168, 169, 170] (by decide +kernel) (by decide +kernel)
set_option maxRecDepth 20000 in
theorem gX6_complete_X3_foundColour : GoodIn wsX6_complete (wsV RX6 158 RX3 yX3_foundColour wsX3_foundColour) := goodIn_app (goodIn_of _ (by decide +kernel)) ggX6_complete_X3_foundColour
set_option maxRecDepth 20000 in
theorem ggX6_complete_X2_setColour : GoodIn wsX6_complete wsX2_setColour := goodIn_r _ [149, 14, 71, 16, 72, 159, 160, 161, 162] (by decide +kernel) (by decide +kernel)
set_option maxRecDepth 20000 in
theorem gX6_complete_X2_setColour : GoodIn wsX6_complete (wsV RX6 136 RX2 yX2_setColour wsX2_setColour) := goodIn_app (goodIn_of _ (by decide +kernel)) ggX6_complete_X2_setColour
set_option maxRecDepth 20000 in
theorem ggX6_complete_J6_bitCount_0f7a4 : GoodIn wsX6_complete wsJ6_bitCount_0f7a4 := goodIn_r _ [89, 90, 91, 92] (by decide +kernel) (by decide +kernel)
set_option maxRecDepth 20000 in
theorem gX6_complete_J6_bitCount_0f7a4 : GoodIn wsX6_complete (va_wsS RX6 146 yJ6_bitCount_0f7a4 wsJ6_bitCount_0f7a4) := goodIn_app (goodIn_of _ (by decide +kernel)) ggX6_complete_J6_bitCount_0f7a4
theorem dX6_complete_0 : decode cX6_complete 0 = .ok (.aload_n 0, 1) := by decide +kernel
theorem dX6_complete_1 : decode cX6_complete 1 = .ok (.getfield 12, 3) := by decide +kernel
theorem dX6_complete_4 : decode cX6_complete 4 = .ok (.iconst 3, 1) := by decide +kernel
theorem dX6_complete_5 : decode cX6_complete 5 = .ok (.invokevirtual 151, 3) := by decide +kernel
theorem dX6_complete_8 : decode cX6_complete 8 = .ok (.istore_n 1, 1) := by decide +kernel
theorem dX6_complete_9 : decode cX6_complete 9 = .ok (.aload_n 0, 1) := by decide +kernel
theorem dX6_complete_10 : decode cX6_complete 10 = .ok (.getfield 43, 3) := by decide +kernel
theorem dX6_complete_13 : decode cX6_complete 13 = .ok (.aload_n 0, 1) := by decide +kernel
theorem dX6_complete_14 : decode cX6_complete 14 = .ok (.getfield 12, 3) := by decide +kernel
theorem dX6_complete_17 : decode cX6_complete 17 = .ok (.iconst 1, 1) := by decide +kernel
theorem dX6_complete_18 : decode cX6_complete 18 = .ok (.invokevirtual 154, 3) := by decide +kernel
theorem dX6_complete_21 : decode cX6_complete 21 = .ok (.ifCond .ne 6, 3) := by decide +kernel
theorem dX6_complete_24 : decode cX6_complete 24 = .ok (.bipush (-4), 2) := by decide +kernel
theorem dX6_complete_26 : decode cX6_complete 26 = .ok (.ireturn, 1) := by decide +kernel
theorem dX6_complete_27 : decode cX6_complete 27 = .ok (.iload_n 1, 1) := by decide +kernel
theorem dX6_complete_28 : decode cX6_complete 28 = .ok (.ifCond .ne 6, 3) := by decide +kernel
theorem dX6_complete_31 : decode cX6_complete 31 = .ok (.bipush (-5), 2) := by decide +kernel
theorem dX6_complete_33 : decode cX6_complete 33 = .ok (.ireturn, 1) := by decide +kernel
theorem dX6_complete_34 : decode cX6_complete 34 = .ok (.aload_n 0, 1) := by decide +kernel
theorem dX6_complete_35 : decode cX6_complete 35 = .ok (.getfield 29, 3) := by decide +kernel
theorem dX6_complete_38 : decode cX6_complete 38 = .ok (.aload_n 0, 1) := by decide +kernel
theorem dX6_complete_39 : decode cX6_complete 39 = .ok (.getfield 12, 3) := by decide +kernel
theorem dX6_complete_42 : decode cX6_complete 42 = .ok (.invokevirtual 54, 3) := by decide +kernel
theorem dX6_complete_45 : decode cX6_complete 45 = .ok (.iconst 0, 1) := by decide +kernel
theorem dX6_complete_46 : decode cX6_complete 46 = .ok (.istore_n 2, 1) := by decide +kernel
theorem dX6_complete_47 : decode cX6_complete 47 = .ok (.iload_n 2, 1) := by decide +kernel
theorem dX6_complete_48 : decode cX6_complete 48 = .ok (.aload_n 0, 1) := by decide +kernel
theorem dX6_complete_49 : decode cX6_complete 49 = .ok (.getfield 12, 3) := by decide +kernel
theorem dX6_complete_52 : decode cX6_complete 52 = .ok (.invokevirtual 81, 3) := by decide +kernel
theorem dX6_complete_55 : decode cX6_complete 55 = .ok (.if_icmp .ge 25, 3) := by decide +kernel
theorem dX6_complete_58 : decode cX6_complete 58 = .ok (.aload_n 0, 1) := by decide +kernel
theorem dX6_complete_59 : decode cX6_complete 59 = .ok (.getfield 12, 3) := by decide +kernel
theorem dX6_complete_62 : decode cX6_complete 62 = .ok (.iload_n 2, 1) := by decide +kernel
theorem dX6_complete_63 : decode cX6_complete 63 = .ok (.aload_n 0, 1) := by decide +kernel
theorem dX6_complete_64 : decode cX6_complete 64 = .ok (.getfield 43, 3) := by decide +kernel
theorem dX6_complete_67 : decode cX6_complete 67 = .ok (.iload_n 2, 1) := by decide +kernel
theorem dX6_complete_68 : decode cX6_complete 68 = .ok (.invokevirtual 158, 3) := by decide +kernel
theorem dX6_complete_71 : decode cX6_complete 71 = .ok (.invokevirtual 136, 3) := by decide +kernel
theorem dX6_complete_74 : decode cX6_complete 74 = .ok (.iinc 2 1, 3) := by decide +kernel
theorem dX6_complete_77 : decode cX6_complete 77 = .ok (.goto (-30), 3) := by decide +kernel
theorem dX6_complete_80 : decode cX6_complete 80 = .ok (.iload_n 1, 1) := by decide +kernel
theorem dX6_complete_81 : decode cX6_complete 81 = .ok (.invokestatic 146, 3) := by decide +kernel
theorem dX6_complete_84 : decode cX6_complete 84 = .ok (.ireturn, 1) := by decide +kernel
set_option maxRecDepth 20000 in
theorem ggX6_type_X4_append : GoodIn wsX6_type wsX4_append := goodIn_r _ [6, 7, 8, 21, 22, 23, 24] (by decide +kernel) (by decide +kernel)
set_option maxRecDepth 20000 in
theorem gX6_type_X4_append : GoodIn wsX6_type (wsV RX6 161 RX4 yX4_append wsX4_append) := goodIn_app (goodIn_of _ (by decide +kernel)) ggX6_type_X4_append
set_option maxRecDepth 20000 in
theorem ggX6_type_X4_length : GoodIn wsX6_type wsX4_length := goodIn_r _ [12, 7, 21, 22, 23, 24] (by decide +kernel) (by decide +kernel)
set_option maxRecDepth 20000 in
theorem gX6_type_X4_length : GoodIn wsX6_type (wsV RX6 165 RX4 yX4_length wsX4_length) := goodIn_app (goodIn_of _ (by decide +kernel)) ggX6_type_X4_length
theorem dX6_type_0 : decode cX6_type 0 = .ok (.aload_n 0, 1) := by decide +kernel
theorem dX6_type_1 : decode cX6_type 1 = .ok (.getfield 36, 3) := by decide +kernel
theorem dX6_type_4 : decode cX6_type 4 = .ok (.iload_n 1, 1) := by decide +kernel
theorem dX6_type_5 : decode cX6_type 5 = .ok (.invokevirtual 161, 3) := by decide +kernel
theorem dX6_type_8 : decode cX6_type 8 = .ok (.ifCond .ne 6, 3) := by decide +kernel
theorem dX6_type_11 : decode cX6_type 11 = .ok (.bipush (-3), 2) := by decide +kernel
theorem dX6_type_13 : decode cX6_type 13 = .ok (.ireturn, 1) := by decide +kernel
theorem dX6_type_14 : decode cX6_type 14 = .ok (.aload_n 0, 1) := by decide +kernel
theorem dX6_type_15 : decode cX6_type 15 = .ok (.getfield 36, 3) := by decide +kernel
theorem dX6_type_18 : decode cX6_type 18 = .ok (.invokevirtual 165, 3) := by decide +kernel
theorem dX6_type_21 : decode cX6_type 21 = .ok (.ireturn, 1) := by decide +kernel
set_option maxRecDepth 20000 in
theorem ggX6_clearText_X4_length : GoodIn wsX6_clearText wsX4_length := goodIn_r _ [6, 7, 20, 21, 22, 23] (by decide +kernel) (by decide +kernel)
set_option maxRecDepth 20000 in
theorem gX6_clearText_X4_length : GoodIn wsX6_clearText (wsV RX6 165 RX4 yX4_length wsX4_length) := goodIn_app (goodIn_of _ (by decide +kernel)) ggX6_clearText_X4_length
set_option maxRecDepth 20000 in
theorem ggX6_clearText_X4_empty : GoodIn wsX6_clearText wsX4_empty := goodIn_r _ [11, 7, 20, 21, 22, 23] (by decide +kernel) (by decide +kernel)
set_option maxRecDepth 20000 in
theorem gX6_clearText_X4_empty : GoodIn wsX6_clearText (wsV RX6 168 RX4 yX4_empty wsX4_empty) := goodIn_app (goodIn_of _ (by decide +kernel)) ggX6_clearText_X4_empty
theorem dX6_clearText_0 : decode cX6_clearText 0 = .ok (.aload_n 0, 1) := by decide +kernel
theorem dX6_clearText_1 : decode cX6_clearText 1 = .ok (.getfield 36, 3) := by decide +kernel
theorem dX6_clearText_4 : decode cX6_clearText 4 = .ok (.invokevirtual 165, 3) := by decide +kernel
theorem dX6_clearText_7 : decode cX6_clearText 7 = .ok (.istore_n 1, 1) := by decide +kernel
theorem dX6_clearText_8 : decode cX6_clearText 8 = .ok (.aload_n 0, 1) := by decide +kernel
theorem dX6_clearText_9 : decode cX6_clearText 9 = .ok (.getfield 36, 3) := by decide +kernel
theorem dX6_clearText_12 : decode cX6_clearText 12 = .ok (.invokevirtual 168, 3) := by decide +kernel
theorem dX6_clearText_15 : decode cX6_clearText 15 = .ok (.iload_n 1, 1) := by decide +kernel
theorem dX6_clearText_16 : decode cX6_clearText 16 = .ok (.ireturn, 1) := by decide +kernel
set_option maxRecDepth 20000 in
theorem ggX6_undo_X1_pop : GoodIn wsX6_undo wsX1_pop := goodIn_r _ [7, 8, 9, 10, 11, 12, 13, 14, 15, 16, 17, 18, 19, 20, 21, 22, 23, 24, 25, 26, 27, 28, 29, 30, 31, 44, 45, 46, 47, 48, 49] (by decide +kernel) (by decide +kernel)
set_option maxRecDepth 20000 in
theorem gX6_undo_X1_pop : GoodIn wsX6_undo (wsV RX6 171 RX1 yX1_pop wsX1_pop) := goodIn_app (goodIn_of _ (by decide +kernel)) ggX6_undo_X1_pop
set_option maxRecDepth 20000 in
theorem ggX6_undo_X1_size : GoodIn wsX6_undo wsX1_size := goodIn_r _ [35, 8, 44, 45] (by decide +kernel) (by decide +kernel)
set_option maxRecDepth 20000 in
theorem gX6_undo_X1_size : GoodIn wsX6_undo (wsV RX6 174 RX1 yX1_size wsX1_size) := goodIn_app (goodIn_of _ (by decide +kernel)) ggX6_undo_X1_size
theorem dX6_undo_0 : decode cX6_undo 0 = .ok (.aload_n 0, 1) := by decide +kernel
theorem dX6_undo_1 : decode cX6_undo 1 = .ok (.getfield 29, 3) := by decide +kernel
theorem dX6_undo_4 : decode cX6_undo 4 = .ok (.aload_n 0, 1) := by decide +kernel
theorem dX6_undo_5 : decode cX6_undo 5 = .ok (.getfield 12, 3) := by decide +kernel
theorem dX6_undo_8 : decode cX6_undo 8 = .ok (.invokevirtual 171, 3) := by decide +kernel
theorem dX6_undo_11 : decode cX6_undo 11 = .ok (.ifCond .ne 6, 3) := by decide +kernel
theorem dX6_undo_14 : decode cX6_undo 14 = .ok (.bipush (-5), 2) := by decide +kernel
theorem dX6_undo_16 : decode cX6_undo 16 = .ok (.ireturn, 1) := by decide +kernel
theorem dX6_undo_17 : decode cX6_undo 17 = .ok (.aload_n 0, 1) := by decide +kernel
theorem dX6_undo_18 : decode cX6_undo 18 = .ok (.getfield 29, 3) := by decide +kernel
theorem dX6_undo_21 : decode cX6_undo 21 = .ok (.invokevirtual 174, 3) := by decide +kernel
theorem dX6_undo_24 : decode cX6_undo 24 = .ok (.ireturn, 1) := by decide +kernel
set_option maxRecDepth 20000 in
theorem ggX6_keep_X2_copyFrom : GoodIn wsX6_keep wsX2_copyFrom := goodIn_r _ [8, 9, 10, 11, 12, 13, 14, 15, 7, 16, 17, 18, 19, 20, 21, 22, 23, 24, 25, 38, 39, 40, 41] (by decide +kernel) (by decide +kernel)
set_option maxRecDepth 20000 in
theorem gX6_keep_X2_copyFrom : GoodIn wsX6_keep (wsV RX6 111 RX2 yX2_copyFrom wsX2_copyFrom) := goodIn_app (goodIn_of _ (by decide +kernel)) ggX6_keep_X2_copyFrom
set_option maxRecDepth 20000 in
theorem ggX6_keep_X2_threads : GoodIn wsX6_keep wsX2_threads := goodIn_r _ [29, 10, 38, 39, 40, 41] (by decide +kernel) (by decide +kernel)
set_option maxRecDepth 20000 in
theorem gX6_keep_X2_threads : GoodIn wsX6_keep (wsV RX6 81 RX2 yX2_threads wsX2_threads) := goodIn_app (goodIn_of _ (by decide +kernel)) ggX6_keep_X2_threads
theorem dX6_keep_0 : decode cX6_keep 0 = .ok (.aload_n 0, 1) := by decide +kernel
theorem dX6_keep_1 : decode cX6_keep 1 = .ok (.getfield 19, 3) := by decide +kernel
theorem dX6_keep_4 : decode cX6_keep 4 = .ok (.aload_n 0, 1) := by decide +kernel
theorem dX6_keep_5 : decode cX6_keep 5 = .ok (.getfield 12, 3) := by decide +kernel
theorem dX6_keep_8 : decode cX6_keep 8 = .ok (.invokevirtual 111, 3) := by decide +kernel
theorem dX6_keep_11 : decode cX6_keep 11 = .ok (.aload_n 0, 1) := by decide +kernel
theorem dX6_keep_12 : decode cX6_keep 12 = .ok (.iconst 1, 1) := by decide +kernel
theorem dX6_keep_13 : decode cX6_keep 13 = .ok (.putfield 22, 3) := by decide +kernel
theorem dX6_keep_16 : decode cX6_keep 16 = .ok (.aload_n 0, 1) := by decide +kernel
theorem dX6_keep_17 : decode cX6_keep 17 = .ok (.getfield 12, 3) := by decide +kernel
theorem dX6_keep_20 : decode cX6_keep 20 = .ok (.invokevirtual 81, 3) := by decide +kernel
theorem dX6_keep_23 : decode cX6_keep 23 = .ok (.ireturn, 1) := by decide +kernel
set_option maxRecDepth 20000 in
theorem ggX6_restore_X1_push : GoodIn wsX6_restore wsX1_push := goodIn_r _ [9, 10, 11, 12, 13, 14, 8, 15, 16, 17, 18, 19, 20, 21, 22, 23, 24, 25, 26, 27, 28, 29, 30, 31, 32, 33, 34, 35, 36, 37, 51, 52, 53, 54, 55, 56] (by decide +kernel) (by decide +kernel)
set_option maxRecDepth 20000 in
theorem gX6_restore_X1_push : GoodIn wsX6_restore (wsV RX6 54 RX1 yX1_push wsX1_push) := goodIn_app (goodIn_of _ (by decide +kernel)) ggX6_restore_X1_push
set_option maxRecDepth 20000 in
theorem ggX6_restore_X2_copyFrom : GoodIn wsX6_restore wsX2_copyFrom := goodIn_r _ [20, 21, 22, 23, 24, 25, 26, 27, 19, 28, 29, 30, 31, 32, 33, 34, 35, 36, 37, 53, 54, 55, 56] (by decide +kernel) (by decide +kernel)
set_option maxRecDepth 20000 in
theorem gX6_restore_X2_copyFrom : GoodIn wsX6_restore (wsV RX6 111 RX2 yX2_copyFrom wsX2_copyFrom) := goodIn_app (goodIn_of _ (by decide +kernel)) ggX6_restore_X2_copyFrom
set_option maxRecDepth 20000 in
theorem ggX6_restore_X2_threads : GoodIn wsX6_restore wsX2_threads := goodIn_r _ [42, 22, 53, 54, 55, 56] (by decide +kernel) (by decide +kernel)
set_option maxRecDepth 20000 in
theorem gX6_restore_X2_threads : GoodIn wsX6_restore (wsV RX6 81 RX2 yX2_threads wsX2_threads) := goodIn_app (goodIn_of _ (by decide +kernel)) ggX6_restore_X2_threads
theorem dX6_restore_0 : decode cX6_restore 0 = .ok (.aload_n 0, 1) := by decide +kernel
theorem dX6_restore_1 : decode cX6_restore 1 = .ok (.getfield 22, 3) := by decide +kernel
theorem dX6_restore_4 : decode cX6_restore 4 = .ok (.ifCond .ne 6, 3) := by decide +kernel
theorem dX6_restore_7 : decode cX6_restore 7 = .ok (.bipush (-5), 2) := by decide +kernel
theorem dX6_restore_9 : decode cX6_restore 9 = .ok (.ireturn, 1) := by decide +kernel
theorem dX6_restore_10 : decode cX6_restore 10 = .ok (.aload_n 0, 1) := by decide +kernel
theorem dX6_restore_11 : decode cX6_restore 11 = .ok (.getfield 29, 3) := by decide +kernel
theorem dX6_restore_14 : decode cX6_restore 14 = .ok (.aload_n 0, 1) := by decide +kernel
theorem dX6_restore_15 : decode cX6_restore 15 = .ok (.getfield 12, 3) := by decide +kernel
theorem dX6_restore_18 : decode cX6_restore 18 = .ok (.invokevirtual 54, 3) := by decide +kernel
theorem dX6_restore_21 : decode cX6_restore 21 = .ok (.aload_n 0, 1) := by decide +kernel
theorem dX6_restore_22 : decode cX6_restore 22 = .ok (.getfield 12, 3) := by decide +kernel
theorem dX6_restore_25 : decode cX6_restore 25 = .ok (.aload_n 0, 1) := by decide +kernel
theorem dX6_restore_26 : decode cX6_restore 26 = .ok (.getfield 19, 3) := by decide +kernel
theorem dX6_restore_29 : decode cX6_restore 29 = .ok (.invokevirtual 111, 3) := by decide +kernel
theorem dX6_restore_32 : decode cX6_restore 32 = .ok (.aload_n 0, 1) := by decide +kernel
theorem dX6_restore_33 : decode cX6_restore 33 = .ok (.getfield 12, 3) := by decide +kernel
theorem dX6_restore_36 : decode cX6_restore 36 = .ok (.invokevirtual 81, 3) := by decide +kernel
theorem dX6_restore_39 : decode cX6_restore 39 = .ok (.ireturn, 1) := by decide +kernel
set_option maxRecDepth 20000 in
theorem ggX6_knot_X2_hasKnot : GoodIn wsX6_knot wsX2_hasKnot := goodIn_r _ [6, 7, 89, 90, 91, 92] (by decide +kernel) (by decide +kernel)
set_option maxRecDepth 20000 in
theorem gX6_knot_X2_hasKnot : GoodIn wsX6_knot (wsV RX6 74 RX2 yX2_hasKnot wsX2_hasKnot) := goodIn_app (goodIn_of _ (by decide +kernel)) ggX6_knot_X2_hasKnot
set_option maxRecDepth 20000 in
theorem ggX6_knot_X6_bit : GoodIn wsX6_knot wsX6_bit := goodIn_r _ [11] (by decide +kernel) (by decide +kernel)
set_option maxRecDepth 20000 in
theorem gX6_knot_X6_bit : GoodIn wsX6_knot (va_wsS RX6 84 yX6_bit wsX6_bit) := goodIn_app (goodIn_of _ (by decide +kernel)) ggX6_knot_X6_bit
set_option maxRecDepth 20000 in
theorem ggX6_knot_X2_threadsAt : GoodIn wsX6_knot wsX2_threadsAt := goodIn_r _ [15, 16, 17, 18, 19, 5, 20, 21, 22, 10, 23, 9, 11, 89, 90, 91, 92] (by decide +kernel) (by decide +kernel)
set_option maxRecDepth 20000 in
theorem gX6_knot_X2_threadsAt : GoodIn wsX6_knot (wsV RX6 177 RX2 yX2_threadsAt wsX2_threadsAt) := goodIn_app (goodIn_of _ (by decide +kernel)) ggX6_knot_X2_threadsAt
set_option maxRecDepth 20000 in
theorem ggX6_knot_X2_neighbours : GoodIn wsX6_knot wsX2_neighbours := goodIn_r _ [27, 16, 17, 18, 19, 5, 20, 21, 22, 10, 23, 28, 29, 9, 11, 89, 90, 91, 92] (by decide +kernel) (by decide +kernel)
set_option maxRecDepth 20000 in
theorem gX6_knot_X2_neighbours : GoodIn wsX6_knot (wsV RX6 180 RX2 yX2_neighbours wsX2_neighbours) := goodIn_app (goodIn_of _ (by decide +kernel)) ggX6_knot_X2_neighbours
set_option maxRecDepth 20000 in
theorem ggX6_knot_X2_isWrong : GoodIn wsX6_knot wsX2_isWrong := goodIn_r _ [33, 16, 34, 35, 36, 5, 37, 38, 22, 10, 23, 17, 18, 19, 20, 21, 28, 29, 9, 11, 89, 90, 91, 92] (by decide +kernel) (by decide +kernel)
set_option maxRecDepth 20000 in
theorem gX6_knot_X2_isWrong : GoodIn wsX6_knot (wsV RX6 183 RX2 yX2_isWrong wsX2_isWrong) := goodIn_app (goodIn_of _ (by decide +kernel)) ggX6_knot_X2_isWrong
set_option maxRecDepth 20000 in
theorem ggX6_knot_X2_allThreads : GoodIn wsX6_knot wsX2_allThreads := goodIn_r _ [42, 16, 9, 10, 11, 89, 90, 91, 92] (by decide +kernel) (by decide +kernel)
set_option maxRecDepth 20000 in
theorem gX6_knot_X2_allThreads : GoodIn wsX6_knot (wsV RX6 186 RX2 yX2_allThreads wsX2_allThreads) := goodIn_app (goodIn_of _ (by decide +kernel)) ggX6_knot_X2_allThreads
set_option maxRecDepth 20000 in
theorem ggX6_knot_X5_reached : GoodIn wsX6_knot wsX5_reached := goodIn_r _ [46, 47, 48, 45, 49, 50, 51, 52, 5, 53, 16, 28, 10, 29, 54, 18, 19, 20, 21, 22, 23, 89, 90, 91, 92] (by decide +kernel) (by decide +kernel)
set_option maxRecDepth 20000 in
theorem gX6_knot_X5_reached : GoodIn wsX6_knot (va_wsS RX6 189 yX5_reached wsX5_reached) := goodIn_app (goodIn_of _ (by decide +kernel)) ggX6_knot_X5_reached
set_option maxRecDepth 20000 in
theorem ggX6_knot_X5_shortestCircle : GoodIn wsX6_knot wsX5_shortestCircle := goodIn_r _ [57, 50, 51, 52, 5, 53, 16, 28, 10, 29, 58, 59, 45, 60, 61, 40, 41, 42, 9, 11, 62, 63, 64, 65, 17, 18, 19, 20, 21, 22, 23, 66, 67, 68, 69, 70, 71, 72, 73, 74, 75, 76, 77, 47, 48, 49, 54, 89, 90, 91, 92] (by decide +kernel) (by decide +kernel)
set_option maxRecDepth 20000 in
theorem gX6_knot_X5_shortestCircle : GoodIn wsX6_knot (va_wsS RX6 195 yX5_shortestCircle wsX5_shortestCircle) := goodIn_app (goodIn_of _ (by decide +kernel)) ggX6_knot_X5_shortestCircle
set_option maxRecDepth 20000 in
theorem ggX6_knot_X6_orNone : GoodIn wsX6_knot wsX6_orNone := goodIn_r _ [80] (by decide +kernel) (by decide +kernel)
set_option maxRecDepth 20000 in
theorem gX6_knot_X6_orNone : GoodIn wsX6_knot (va_wsS RX6 199 yX6_orNone wsX6_orNone) := goodIn_app (goodIn_of _ (by decide +kernel)) ggX6_knot_X6_orNone
theorem dX6_knot_0 : decode cX6_knot 0 = .ok (.aload_n 0, 1) := by decide +kernel
theorem dX6_knot_1 : decode cX6_knot 1 = .ok (.getfield 12, 3) := by decide +kernel
theorem dX6_knot_4 : decode cX6_knot 4 = .ok (.iload_n 1, 1) := by decide +kernel
theorem dX6_knot_5 : decode cX6_knot 5 = .ok (.invokevirtual 74, 3) := by decide +kernel
theorem dX6_knot_8 : decode cX6_knot 8 = .ok (.ifCond .ne 5, 3) := by decide +kernel
theorem dX6_knot_11 : decode cX6_knot 11 = .ok (.iconst (-1), 1) := by decide +kernel
theorem dX6_knot_12 : decode cX6_knot 12 = .ok (.ireturn, 1) := by decide +kernel
theorem dX6_knot_13 : decode cX6_knot 13 = .ok (.iload_n 2, 1) := by decide +kernel
theorem dX6_knot_14 : decode cX6_knot 14 = .ok (.tableswitch 113 0 4 #[34, 46, 55, 72, 91], 34) := by decide +kernel
theorem dX6_knot_48 : decode cX6_knot 48 = .ok (.aload_n 0, 1) := by decide +kernel
theorem dX6_knot_49 : decode cX6_knot 49 = .ok (.getfield 12, 3) := by decide +kernel
theorem dX6_knot_52 : decode cX6_knot 52 = .ok (.iload_n 1, 1) := by decide +kernel
theorem dX6_knot_53 : decode cX6_knot 53 = .ok (.invokestatic 84, 3) := by decide +kernel
theorem dX6_knot_56 : decode cX6_knot 56 = .ok (.invokevirtual 177, 3) := by decide +kernel
theorem dX6_knot_59 : decode cX6_knot 59 = .ok (.ireturn, 1) := by decide +kernel
theorem dX6_knot_60 : decode cX6_knot 60 = .ok (.aload_n 0, 1) := by decide +kernel
theorem dX6_knot_61 : decode cX6_knot 61 = .ok (.getfield 12, 3) := by decide +kernel
theorem dX6_knot_64 : decode cX6_knot 64 = .ok (.iload_n 1, 1) := by decide +kernel
theorem dX6_knot_65 : decode cX6_knot 65 = .ok (.invokevirtual 180, 3) := by decide +kernel
theorem dX6_knot_68 : decode cX6_knot 68 = .ok (.ireturn, 1) := by decide +kernel
theorem dX6_knot_69 : decode cX6_knot 69 = .ok (.aload_n 0, 1) := by decide +kernel
theorem dX6_knot_70 : decode cX6_knot 70 = .ok (.getfield 12, 3) := by decide +kernel
theorem dX6_knot_73 : decode cX6_knot 73 = .ok (.iload_n 1, 1) := by decide +kernel
theorem dX6_knot_74 : decode cX6_knot 74 = .ok (.invokevirtual 183, 3) := by decide +kernel
theorem dX6_knot_77 : decode cX6_knot 77 = .ok (.ifCond .eq 7, 3) := by decide +kernel
theorem dX6_knot_80 : decode cX6_knot 80 = .ok (.iconst 1, 1) := by decide +kernel
theorem dX6_knot_81 : decode cX6_knot 81 = .ok (.goto 4, 3) := by decide +kernel
theorem dX6_knot_84 : decode cX6_knot 84 = .ok (.iconst 0, 1) := by decide +kernel
theorem dX6_knot_85 : decode cX6_knot 85 = .ok (.ireturn, 1) := by decide +kernel
theorem dX6_knot_86 : decode cX6_knot 86 = .ok (.aload_n 0, 1) := by decide +kernel
theorem dX6_knot_87 : decode cX6_knot 87 = .ok (.getfield 12, 3) := by decide +kernel
theorem dX6_knot_90 : decode cX6_knot 90 = .ok (.iload_n 1, 1) := by decide +kernel
theorem dX6_knot_91 : decode cX6_knot 91 = .ok (.invokestatic 84, 3) := by decide +kernel
theorem dX6_knot_94 : decode cX6_knot 94 = .ok (.aload_n 0, 1) := by decide +kernel
theorem dX6_knot_95 : decode cX6_knot 95 = .ok (.getfield 12, 3) := by decide +kernel
theorem dX6_knot_98 : decode cX6_knot 98 = .ok (.invokevirtual 186, 3) := by decide +kernel
theorem dX6_knot_101 : decode cX6_knot 101 = .ok (.invokestatic 189, 3) := by decide +kernel
theorem dX6_knot_104 : decode cX6_knot 104 = .ok (.ireturn, 1) := by decide +kernel
theorem dX6_knot_105 : decode cX6_knot 105 = .ok (.aload_n 0, 1) := by decide +kernel
theorem dX6_knot_106 : decode cX6_knot 106 = .ok (.getfield 12, 3) := by decide +kernel
theorem dX6_knot_109 : decode cX6_knot 109 = .ok (.aload_n 0, 1) := by decide +kernel
theorem dX6_knot_110 : decode cX6_knot 110 = .ok (.getfield 12, 3) := by decide +kernel
theorem dX6_knot_113 : decode cX6_knot 113 = .ok (.iload_n 1, 1) := by decide +kernel
theorem dX6_knot_114 : decode cX6_knot 114 = .ok (.invokestatic 84, 3) := by decide +kernel
theorem dX6_knot_117 : decode cX6_knot 117 = .ok (.invokevirtual 177, 3) := by decide +kernel
theorem dX6_knot_120 : decode cX6_knot 120 = .ok (.invokestatic 195, 3) := by decide +kernel
theorem dX6_knot_123 : decode cX6_knot 123 = .ok (.invokestatic 199, 3) := by decide +kernel
theorem dX6_knot_126 : decode cX6_knot 126 = .ok (.ireturn, 1) := by decide +kernel
theorem dX6_knot_127 : decode cX6_knot 127 = .ok (.bipush (-2), 2) := by decide +kernel
theorem dX6_knot_129 : decode cX6_knot 129 = .ok (.ireturn, 1) := by decide +kernel
set_option maxRecDepth 20000 in
theorem ggX6_thread_X2_hasThread : GoodIn wsX6_thread wsX2_hasThread := goodIn_r _ [7, 8, 103, 104, 105, 106] (by decide +kernel) (by decide +kernel)
set_option maxRecDepth 20000 in
theorem gX6_thread_X2_hasThread : GoodIn wsX6_thread (wsV RX6 94 RX2 yX2_hasThread wsX2_hasThread) := goodIn_app (goodIn_of _ (by decide +kernel)) ggX6_thread_X2_hasThread
set_option maxRecDepth 20000 in
theorem ggX6_thread_X2_lesserKnot : GoodIn wsX6_thread wsX2_lesserKnot := goodIn_r _ [12, 13, 14, 15, 6, 16, 17, 18, 19, 20, 21, 22, 23, 24, 25, 103, 104, 105, 106] (by decide +kernel) (by decide +kernel)
set_option maxRecDepth 20000 in
theorem gX6_thread_X2_lesserKnot : GoodIn wsX6_thread (wsV RX6 202 RX2 yX2_lesserKnot wsX2_lesserKnot) := goodIn_app (goodIn_of _ (by decide +kernel)) ggX6_thread_X2_lesserKnot
set_option maxRecDepth 20000 in
theorem ggX6_thread_X2_greaterKnot : GoodIn wsX6_thread wsX2_greaterKnot := goodIn_r _ [29, 13, 14, 15, 6, 16, 17, 18, 19, 20, 30, 31, 23, 32, 25, 103, 104, 105, 106] (by decide +kernel) (by decide +kernel)
set_option maxRecDepth 20000 in
theorem gX6_thread_X2_greaterKnot : GoodIn wsX6_thread (wsV RX6 205 RX2 yX2_greaterKnot wsX2_greaterKnot) := goodIn_app (goodIn_of _ (by decide +kernel)) ggX6_thread_X2_greaterKnot
set_option maxRecDepth 20000 in
theorem ggX6_thread_X2_colour : GoodIn wsX6_thread wsX2_colour := goodIn_r _ [36, 37, 18, 19, 20, 103, 104, 105, 106] (by decide +kernel) (by decide +kernel)
set_option maxRecDepth 20000 in
theorem gX6_thread_X2_colour : GoodIn wsX6_thread (wsV RX6 133 RX2 yX2_colour wsX2_colour) := goodIn_app (goodIn_of _ (by decide +kernel)) ggX6_thread_X2_colour
set_option maxRecDepth 20000 in
theorem ggX6_thread_X5_circleThrough : GoodIn wsX6_thread wsX5_circleThrough := goodIn_r _ [41, 42, 43, 44, 6, 45, 8, 46, 19, 47, 48, 27, 28, 29, 13, 14, 15, 16, 17, 18, 20, 30, 31, 23, 32, 25, 49, 10, 11, 12, 21, 22, 24, 50, 51, 40, 52, 53, 54, 55, 56, 57, 58, 59, 103, 104, 105, 106] (by decide +kernel) (by decide +kernel)
set_option maxRecDepth 20000 in
theorem gX6_thread_X5_circleThrough : GoodIn wsX6_thread (va_wsS RX6 208 yX5_circleThrough wsX5_circleThrough) := goodIn_app (goodIn_of _ (by decide +kernel)) ggX6_thread_X5_circleThrough
set_option maxRecDepth 20000 in
theorem ggX6_thread_X6_orNone : GoodIn wsX6_thread wsX6_orNone := goodIn_r _ [62] (by decide +kernel) (by decide +kernel)
set_option maxRecDepth 20000 in
theorem gX6_thread_X6_orNone : GoodIn wsX6_thread (va_wsS RX6 199 yX6_orNone wsX6_orNone) := goodIn_app (goodIn_of _ (by decide +kernel)) ggX6_thread_X6_orNone
set_option maxRecDepth 20000 in
theorem ggX6_thread_X0_list : GoodIn wsX6_thread wsX0_list := goodIn_r _ [67, 68, 69, 70, 54, 55, 6, 56, 8, 71, 19, 72, 73, 14, 15, 16, 17, 18, 20, 74, 75, 76, 77, 78, 46, 47, 79, 80, 66, 81, 82, 83, 84, 85, 86, 107, 108, 109, 110, 111, 112, 103, 104, 105, 106] (by decide +kernel) (by decide +kernel)
set_option maxRecDepth 20000 in
theorem gX6_thread_X0_list : GoodIn wsX6_thread (wsV RX6 211 RX0 yX0_list wsX0_list) := goodIn_app (goodIn_of _ (by decide +kernel)) ggX6_thread_X0_list
set_option maxRecDepth 20000 in
theorem ggX6_thread_X0_howManyHold : GoodIn wsX6_thread wsX0_howManyHold := goodIn_r _ [90, 68, 91, 92, 93, 66, 94, 86, 18, 19, 20, 57, 58, 107, 108, 109, 110, 111, 112] (by decide +kernel) (by decide +kernel)
set_option maxRecDepth 20000 in
theorem gX6_thread_X0_howManyHold : GoodIn wsX6_thread (wsV RX6 214 RX0 yX0_howManyHold wsX0_howManyHold) := goodIn_app (goodIn_of _ (by decide +kernel)) ggX6_thread_X0_howManyHold
theorem dX6_thread_0 : decode cX6_thread 0 = .ok (.aload_n 0, 1) := by decide +kernel
theorem dX6_thread_1 : decode cX6_thread 1 = .ok (.getfield 12, 3) := by decide +kernel
theorem dX6_thread_4 : decode cX6_thread 4 = .ok (.iload_n 1, 1) := by decide +kernel
theorem dX6_thread_5 : decode cX6_thread 5 = .ok (.invokevirtual 94, 3) := by decide +kernel
theorem dX6_thread_8 : decode cX6_thread 8 = .ok (.ifCond .ne 5, 3) := by decide +kernel
theorem dX6_thread_11 : decode cX6_thread 11 = .ok (.iconst (-1), 1) := by decide +kernel
theorem dX6_thread_12 : decode cX6_thread 12 = .ok (.ireturn, 1) := by decide +kernel
theorem dX6_thread_13 : decode cX6_thread 13 = .ok (.iload_n 2, 1) := by decide +kernel
theorem dX6_thread_14 : decode cX6_thread 14 = .ok (.tableswitch 131 0 5 #[38, 47, 56, 82, 99, 111], 38) := by decide +kernel
theorem dX6_thread_52 : decode cX6_thread 52 = .ok (.aload_n 0, 1) := by decide +kernel
theorem dX6_thread_53 : decode cX6_thread 53 = .ok (.getfield 12, 3) := by decide +kernel
theorem dX6_thread_56 : decode cX6_thread 56 = .ok (.iload_n 1, 1) := by decide +kernel
theorem dX6_thread_57 : decode cX6_thread 57 = .ok (.invokevirtual 202, 3) := by decide +kernel
theorem dX6_thread_60 : decode cX6_thread 60 = .ok (.ireturn, 1) := by decide +kernel
theorem dX6_thread_61 : decode cX6_thread 61 = .ok (.aload_n 0, 1) := by decide +kernel
theorem dX6_thread_62 : decode cX6_thread 62 = .ok (.getfield 12, 3) := by decide +kernel
theorem dX6_thread_65 : decode cX6_thread 65 = .ok (.iload_n 1, 1) := by decide +kernel
theorem dX6_thread_66 : decode cX6_thread 66 = .ok (.invokevirtual 205, 3) := by decide +kernel
theorem dX6_thread_69 : decode cX6_thread 69 = .ok (.ireturn, 1) := by decide +kernel
theorem dX6_thread_70 : decode cX6_thread 70 = .ok (.aload_n 0, 1) := by decide +kernel
theorem dX6_thread_71 : decode cX6_thread 71 = .ok (.getfield 12, 3) := by decide +kernel
theorem dX6_thread_74 : decode cX6_thread 74 = .ok (.iload_n 1, 1) := by decide +kernel
theorem dX6_thread_75 : decode cX6_thread 75 = .ok (.invokevirtual 133, 3) := by decide +kernel
theorem dX6_thread_78 : decode cX6_thread 78 = .ok (.iconst 3, 1) := by decide +kernel
theorem dX6_thread_79 : decode cX6_thread 79 = .ok (.if_icmp .ne 8, 3) := by decide +kernel
theorem dX6_thread_82 : decode cX6_thread 82 = .ok (.bipush (-5), 2) := by decide +kernel
theorem dX6_thread_84 : decode cX6_thread 84 = .ok (.goto 11, 3) := by decide +kernel
theorem dX6_thread_87 : decode cX6_thread 87 = .ok (.aload_n 0, 1) := by decide +kernel
theorem dX6_thread_88 : decode cX6_thread 88 = .ok (.getfield 12, 3) := by decide +kernel
theorem dX6_thread_91 : decode cX6_thread 91 = .ok (.iload_n 1, 1) := by decide +kernel
theorem dX6_thread_92 : decode cX6_thread 92 = .ok (.invokevirtual 133, 3) := by decide +kernel
theorem dX6_thread_95 : decode cX6_thread 95 = .ok (.ireturn, 1) := by decide +kernel
theorem dX6_thread_96 : decode cX6_thread 96 = .ok (.aload_n 0, 1) := by decide +kernel
theorem dX6_thread_97 : decode cX6_thread 97 = .ok (.getfield 12, 3) := by decide +kernel
theorem dX6_thread_100 : decode cX6_thread 100 = .ok (.iload_n 1, 1) := by decide +kernel
theorem dX6_thread_101 : decode cX6_thread 101 = .ok (.invokestatic 208, 3) := by decide +kernel
theorem dX6_thread_104 : decode cX6_thread 104 = .ok (.ifCond .ne 7, 3) := by decide +kernel
theorem dX6_thread_107 : decode cX6_thread 107 = .ok (.iconst 1, 1) := by decide +kernel
theorem dX6_thread_108 : decode cX6_thread 108 = .ok (.goto 4, 3) := by decide +kernel
theorem dX6_thread_111 : decode cX6_thread 111 = .ok (.iconst 0, 1) := by decide +kernel
theorem dX6_thread_112 : decode cX6_thread 112 = .ok (.ireturn, 1) := by decide +kernel
theorem dX6_thread_113 : decode cX6_thread 113 = .ok (.aload_n 0, 1) := by decide +kernel
theorem dX6_thread_114 : decode cX6_thread 114 = .ok (.getfield 12, 3) := by decide +kernel
theorem dX6_thread_117 : decode cX6_thread 117 = .ok (.iload_n 1, 1) := by decide +kernel
theorem dX6_thread_118 : decode cX6_thread 118 = .ok (.invokestatic 208, 3) := by decide +kernel
theorem dX6_thread_121 : decode cX6_thread 121 = .ok (.invokestatic 199, 3) := by decide +kernel
theorem dX6_thread_124 : decode cX6_thread 124 = .ok (.ireturn, 1) := by decide +kernel
theorem dX6_thread_125 : decode cX6_thread 125 = .ok (.aload_n 0, 1) := by decide +kernel
theorem dX6_thread_126 : decode cX6_thread 126 = .ok (.getfield 50, 3) := by decide +kernel
theorem dX6_thread_129 : decode cX6_thread 129 = .ok (.aload_n 0, 1) := by decide +kernel
theorem dX6_thread_130 : decode cX6_thread 130 = .ok (.getfield 12, 3) := by decide +kernel
theorem dX6_thread_133 : decode cX6_thread 133 = .ok (.invokevirtual 211, 3) := by decide +kernel
theorem dX6_thread_136 : decode cX6_thread 136 = .ok (.aload_n 0, 1) := by decide +kernel
theorem dX6_thread_137 : decode cX6_thread 137 = .ok (.getfield 50, 3) := by decide +kernel
theorem dX6_thread_140 : decode cX6_thread 140 = .ok (.iload_n 1, 1) := by decide +kernel
theorem dX6_thread_141 : decode cX6_thread 141 = .ok (.invokevirtual 214, 3) := by decide +kernel
theorem dX6_thread_144 : decode cX6_thread 144 = .ok (.ireturn, 1) := by decide +kernel
theorem dX6_thread_145 : decode cX6_thread 145 = .ok (.bipush (-2), 2) := by decide +kernel
theorem dX6_thread_147 : decode cX6_thread 147 = .ok (.ireturn, 1) := by decide +kernel
set_option maxRecDepth 20000 in
theorem ggX6_between_X2_hasKnot : GoodIn wsX6_between wsX2_hasKnot := goodIn_r _ [6, 7, 32, 33, 34, 35] (by decide +kernel) (by decide +kernel)
set_option maxRecDepth 20000 in
theorem gX6_between_X2_hasKnot : GoodIn wsX6_between (wsV RX6 74 RX2 yX2_hasKnot wsX2_hasKnot) := goodIn_app (goodIn_of _ (by decide +kernel)) ggX6_between_X2_hasKnot
set_option maxRecDepth 20000 in
theorem ggX6_between_X6_bit : GoodIn wsX6_between wsX6_bit := goodIn_r _ [11] (by decide +kernel) (by decide +kernel)
set_option maxRecDepth 20000 in
theorem gX6_between_X6_bit : GoodIn wsX6_between (va_wsS RX6 84 yX6_bit wsX6_bit) := goodIn_app (goodIn_of _ (by decide +kernel)) ggX6_between_X6_bit
set_option maxRecDepth 20000 in
theorem ggX6_between_X2_find : GoodIn wsX6_between wsX2_find := goodIn_r _ [15, 16, 17, 18, 19, 5, 20, 21, 22, 10, 23, 32, 33, 34, 35] (by decide +kernel) (by decide +kernel)
set_option maxRecDepth 20000 in
theorem gX6_between_X2_find : GoodIn wsX6_between (wsV RX6 217 RX2 yX2_find wsX2_find) := goodIn_app (goodIn_of _ (by decide +kernel)) ggX6_between_X2_find
theorem dX6_between_0 : decode cX6_between 0 = .ok (.aload_n 0, 1) := by decide +kernel
theorem dX6_between_1 : decode cX6_between 1 = .ok (.getfield 12, 3) := by decide +kernel
theorem dX6_between_4 : decode cX6_between 4 = .ok (.iload_n 1, 1) := by decide +kernel
theorem dX6_between_5 : decode cX6_between 5 = .ok (.invokevirtual 74, 3) := by decide +kernel
theorem dX6_between_8 : decode cX6_between 8 = .ok (.ifCond .eq 14, 3) := by decide +kernel
theorem dX6_between_11 : decode cX6_between 11 = .ok (.aload_n 0, 1) := by decide +kernel
theorem dX6_between_12 : decode cX6_between 12 = .ok (.getfield 12, 3) := by decide +kernel
theorem dX6_between_15 : decode cX6_between 15 = .ok (.iload_n 2, 1) := by decide +kernel
theorem dX6_between_16 : decode cX6_between 16 = .ok (.invokevirtual 74, 3) := by decide +kernel
theorem dX6_between_19 : decode cX6_between 19 = .ok (.ifCond .ne 5, 3) := by decide +kernel
theorem dX6_between_22 : decode cX6_between 22 = .ok (.iconst (-1), 1) := by decide +kernel
theorem dX6_between_23 : decode cX6_between 23 = .ok (.ireturn, 1) := by decide +kernel
theorem dX6_between_24 : decode cX6_between 24 = .ok (.aload_n 0, 1) := by decide +kernel
theorem dX6_between_25 : decode cX6_between 25 = .ok (.getfield 12, 3) := by decide +kernel
theorem dX6_between_28 : decode cX6_between 28 = .ok (.iload_n 1, 1) := by decide +kernel
theorem dX6_between_29 : decode cX6_between 29 = .ok (.invokestatic 84, 3) := by decide +kernel
theorem dX6_between_32 : decode cX6_between 32 = .ok (.iload_n 2, 1) := by decide +kernel
theorem dX6_between_33 : decode cX6_between 33 = .ok (.invokestatic 84, 3) := by decide +kernel
theorem dX6_between_36 : decode cX6_between 36 = .ok (.ior, 1) := by decide +kernel
theorem dX6_between_37 : decode cX6_between 37 = .ok (.invokevirtual 217, 3) := by decide +kernel
theorem dX6_between_40 : decode cX6_between 40 = .ok (.istore_n 3, 1) := by decide +kernel
theorem dX6_between_41 : decode cX6_between 41 = .ok (.iload_n 3, 1) := by decide +kernel
theorem dX6_between_42 : decode cX6_between 42 = .ok (.ifCond .ge 8, 3) := by decide +kernel
theorem dX6_between_45 : decode cX6_between 45 = .ok (.bipush (-5), 2) := by decide +kernel
theorem dX6_between_47 : decode cX6_between 47 = .ok (.goto 4, 3) := by decide +kernel
theorem dX6_between_50 : decode cX6_between 50 = .ok (.iload_n 3, 1) := by decide +kernel
theorem dX6_between_51 : decode cX6_between 51 = .ok (.ireturn, 1) := by decide +kernel
set_option maxRecDepth 20000 in
theorem ggX6_chain_X2_hasThread : GoodIn wsX6_chain wsX2_hasThread := goodIn_r _ [6, 7, 55, 56, 57, 58] (by decide +kernel) (by decide +kernel)
set_option maxRecDepth 20000 in
theorem gX6_chain_X2_hasThread : GoodIn wsX6_chain (wsV RX6 94 RX2 yX2_hasThread wsX2_hasThread) := goodIn_app (goodIn_of _ (by decide +kernel)) ggX6_chain_X2_hasThread
set_option maxRecDepth 20000 in
theorem ggX6_chain_X2_colour : GoodIn wsX6_chain wsX2_colour := goodIn_r _ [11, 12, 13, 14, 15, 55, 56, 57, 58] (by decide +kernel) (by decide +kernel)
set_option maxRecDepth 20000 in
theorem gX6_chain_X2_colour : GoodIn wsX6_chain (wsV RX6 133 RX2 yX2_colour wsX2_colour) := goodIn_app (goodIn_of _ (by decide +kernel)) ggX6_chain_X2_colour
set_option maxRecDepth 20000 in
theorem ggX6_chain_X2_coloured : GoodIn wsX6_chain wsX2_coloured := goodIn_r _ [19, 7, 20, 9, 10, 5, 11, 12, 13, 14, 15, 21, 22, 55, 56, 57, 58] (by decide +kernel) (by decide +kernel)
set_option maxRecDepth 20000 in
theorem gX6_chain_X2_coloured : GoodIn wsX6_chain (wsV RX6 151 RX2 yX2_coloured wsX2_coloured) := goodIn_app (goodIn_of _ (by decide +kernel)) ggX6_chain_X2_coloured
set_option maxRecDepth 20000 in
theorem ggX6_chain_X2_ends : GoodIn wsX6_chain wsX2_ends := goodIn_r _ [26, 27, 13, 14, 15, 55, 56, 57, 58] (by decide +kernel) (by decide +kernel)
set_option maxRecDepth 20000 in
theorem gX6_chain_X2_ends : GoodIn wsX6_chain (wsV RX6 220 RX2 yX2_ends wsX2_ends) := goodIn_app (goodIn_of _ (by decide +kernel)) ggX6_chain_X2_ends
set_option maxRecDepth 20000 in
theorem ggX6_chain_X5_reached : GoodIn wsX6_chain wsX5_reached := goodIn_r _ [31, 32, 33, 30, 34, 35, 36, 37, 5, 38, 7, 39, 14, 40, 41, 24, 25, 26, 27, 13, 15, 55, 56, 57, 58] (by decide +kernel) (by decide +kernel)
set_option maxRecDepth 20000 in
theorem gX6_chain_X5_reached : GoodIn wsX6_chain (va_wsS RX6 189 yX5_reached wsX5_reached) := goodIn_app (goodIn_of _ (by decide +kernel)) ggX6_chain_X5_reached
set_option maxRecDepth 20000 in
theorem ggX6_chain_X2_threadsAt : GoodIn wsX6_chain wsX2_threadsAt := goodIn_r _ [45, 7, 46, 24, 25, 5, 26, 27, 13, 14, 15, 21, 22, 55, 56, 57, 58] (by decide +kernel) (by decide +kernel)
set_option maxRecDepth 20000 in
theorem gX6_chain_X2_threadsAt : GoodIn wsX6_chain (wsV RX6 177 RX2 yX2_threadsAt wsX2_threadsAt) := goodIn_app (goodIn_of _ (by decide +kernel)) ggX6_chain_X2_threadsAt
theorem dX6_chain_0 : decode cX6_chain 0 = .ok (.aload_n 0, 1) := by decide +kernel
theorem dX6_chain_1 : decode cX6_chain 1 = .ok (.getfield 12, 3) := by decide +kernel
theorem dX6_chain_4 : decode cX6_chain 4 = .ok (.iload_n 1, 1) := by decide +kernel
theorem dX6_chain_5 : decode cX6_chain 5 = .ok (.invokevirtual 94, 3) := by decide +kernel
theorem dX6_chain_8 : decode cX6_chain 8 = .ok (.ifCond .ne 5, 3) := by decide +kernel
theorem dX6_chain_11 : decode cX6_chain 11 = .ok (.iconst (-1), 1) := by decide +kernel
theorem dX6_chain_12 : decode cX6_chain 12 = .ok (.ireturn, 1) := by decide +kernel
theorem dX6_chain_13 : decode cX6_chain 13 = .ok (.aload_n 0, 1) := by decide +kernel
theorem dX6_chain_14 : decode cX6_chain 14 = .ok (.getfield 12, 3) := by decide +kernel
theorem dX6_chain_17 : decode cX6_chain 17 = .ok (.iload_n 1, 1) := by decide +kernel
theorem dX6_chain_18 : decode cX6_chain 18 = .ok (.invokevirtual 133, 3) := by decide +kernel
theorem dX6_chain_21 : decode cX6_chain 21 = .ok (.istore_n 3, 1) := by decide +kernel
theorem dX6_chain_22 : decode cX6_chain 22 = .ok (.iload_n 2, 1) := by decide +kernel
theorem dX6_chain_23 : decode cX6_chain 23 = .ok (.ifCond .lt 13, 3) := by decide +kernel
theorem dX6_chain_26 : decode cX6_chain 26 = .ok (.iload_n 2, 1) := by decide +kernel
theorem dX6_chain_27 : decode cX6_chain 27 = .ok (.iconst 3, 1) := by decide +kernel
theorem dX6_chain_28 : decode cX6_chain 28 = .ok (.if_icmp .ge 8, 3) := by decide +kernel
theorem dX6_chain_31 : decode cX6_chain 31 = .ok (.iload_n 2, 1) := by decide +kernel
theorem dX6_chain_32 : decode cX6_chain 32 = .ok (.iload_n 3, 1) := by decide +kernel
theorem dX6_chain_33 : decode cX6_chain 33 = .ok (.if_icmp .ne 6, 3) := by decide +kernel
theorem dX6_chain_36 : decode cX6_chain 36 = .ok (.bipush (-2), 2) := by decide +kernel
theorem dX6_chain_38 : decode cX6_chain 38 = .ok (.ireturn, 1) := by decide +kernel
theorem dX6_chain_39 : decode cX6_chain 39 = .ok (.iload_n 3, 1) := by decide +kernel
theorem dX6_chain_40 : decode cX6_chain 40 = .ok (.iconst 3, 1) := by decide +kernel
theorem dX6_chain_41 : decode cX6_chain 41 = .ok (.if_icmp .ne 6, 3) := by decide +kernel
theorem dX6_chain_44 : decode cX6_chain 44 = .ok (.bipush (-4), 2) := by decide +kernel
theorem dX6_chain_46 : decode cX6_chain 46 = .ok (.ireturn, 1) := by decide +kernel
theorem dX6_chain_47 : decode cX6_chain 47 = .ok (.aload_n 0, 1) := by decide +kernel
theorem dX6_chain_48 : decode cX6_chain 48 = .ok (.getfield 12, 3) := by decide +kernel
theorem dX6_chain_51 : decode cX6_chain 51 = .ok (.iload_n 3, 1) := by decide +kernel
theorem dX6_chain_52 : decode cX6_chain 52 = .ok (.invokevirtual 151, 3) := by decide +kernel
theorem dX6_chain_55 : decode cX6_chain 55 = .ok (.aload_n 0, 1) := by decide +kernel
theorem dX6_chain_56 : decode cX6_chain 56 = .ok (.getfield 12, 3) := by decide +kernel
theorem dX6_chain_59 : decode cX6_chain 59 = .ok (.iload_n 2, 1) := by decide +kernel
theorem dX6_chain_60 : decode cX6_chain 60 = .ok (.invokevirtual 151, 3) := by decide +kernel
theorem dX6_chain_63 : decode cX6_chain 63 = .ok (.ior, 1) := by decide +kernel
theorem dX6_chain_64 : decode cX6_chain 64 = .ok (.istore 4, 2) := by decide +kernel
theorem dX6_chain_66 : decode cX6_chain 66 = .ok (.iload 4, 2) := by decide +kernel
theorem dX6_chain_68 : decode cX6_chain 68 = .ok (.aload_n 0, 1) := by decide +kernel
theorem dX6_chain_69 : decode cX6_chain 69 = .ok (.getfield 12, 3) := by decide +kernel
theorem dX6_chain_72 : decode cX6_chain 72 = .ok (.aload_n 0, 1) := by decide +kernel
theorem dX6_chain_73 : decode cX6_chain 73 = .ok (.getfield 12, 3) := by decide +kernel
theorem dX6_chain_76 : decode cX6_chain 76 = .ok (.aload_n 0, 1) := by decide +kernel
theorem dX6_chain_77 : decode cX6_chain 77 = .ok (.getfield 12, 3) := by decide +kernel
theorem dX6_chain_80 : decode cX6_chain 80 = .ok (.iload_n 1, 1) := by decide +kernel
theorem dX6_chain_81 : decode cX6_chain 81 = .ok (.invokevirtual 220, 3) := by decide +kernel
theorem dX6_chain_84 : decode cX6_chain 84 = .ok (.iload 4, 2) := by decide +kernel
theorem dX6_chain_86 : decode cX6_chain 86 = .ok (.invokestatic 189, 3) := by decide +kernel
theorem dX6_chain_89 : decode cX6_chain 89 = .ok (.invokevirtual 177, 3) := by decide +kernel
theorem dX6_chain_92 : decode cX6_chain 92 = .ok (.iand, 1) := by decide +kernel
theorem dX6_chain_93 : decode cX6_chain 93 = .ok (.ireturn, 1) := by decide +kernel
set_option maxRecDepth 20000 in
theorem ggX6_paintings_X3_isPaintable : GoodIn wsX6_paintings wsX3_isPaintable := goodIn_r _ [7, 8, 9, 10, 11, 12, 13, 14, 15, 16, 17, 18, 19, 6, 20, 21, 22, 23, 24, 25, 26, 27, 28, 29, 30, 31, 32, 33, 34, 35, 36, 37, 38, 39, 40, 41, 42, 43, 44, 45, 46, 47, 48, 49, 50, 51, 52, 53, 54, 55, 56, 57, 58, 59, 60, 61, 62, 63, 64, 65, 66, 67, 68, 69, 70, 71, 72, 73, 74, 75, 76, 77, 78, 79, 80, 81, 82, 83, 84, 85, 86, 87, 88, 89, 90, 91, 92, 93, 94, 95, 96, 97, 98, 131, 132, 133, 134, 135, 136, 137, 138, 139, 140, 141, 142] (by decide +kernel) (by decide +kernel)
set_option maxRecDepth 20000 in
theorem gX6_paintings_X3_isPaintable : GoodIn wsX6_paintings (wsV RX6 223 RX3 yX3_isPaintable wsX3_isPaintable) := goodIn_app (goodIn_of _ (by decide +kernel)) ggX6_paintings_X3_isPaintable
set_option maxRecDepth 20000 in
theorem ggX6_paintings_X3_howMany : GoodIn wsX6_paintings wsX3_howMany := goodIn_r _ [102, 103, 104, 105, 106, 6, 107, 24, 25, 26, 11, 27, 13, 108, 109, 110, 111, 112, 33, 15, 34, 28, 29, 30, 31, 32, 113, 114, 115, 116, 68, 58, 69, 70, 117, 76, 77, 96, 97, 98, 118, 119, 120, 121, 122, 14, 16, 8, 9, 10, 12, 17, 18, 19, 20, 21, 22, 23, 35, 36, 37, 38, 39, 40, 41, 42, 43, 44, 45, 46, 47, 48, 49, 50, 51, 52, 53, 54, 55, 56, 57, 59, 60, 61, 62, 63, 64, 65, 66, 67, 71, 72, 73, 74, 75, 78, 79, 80, 81, 82, 83, 84, 85, 86, 87, 88, 89, 90, 91, 92, 93, 94, 95, 131, 132, 133, 134, 135, 136, 137, 138, 139, 140, 141, 142] (by decide +kernel) (by decide +kernel)
set_option maxRecDepth 20000 in
theorem gX6_paintings_X3_howMany : GoodIn wsX6_paintings (wsV RX6 226 RX3 yX3_howMany wsX3_howMany) := goodIn_app (goodIn_of _ (by decide +kernel)) ggX6_paintings_X3_howMany
theorem dX6_paintings_0 : decode cX6_paintings 0 = .ok (.iload_n 1, 1) := by decide +kernel
theorem dX6_paintings_1 : decode cX6_paintings 1 = .ok (.tableswitch 73 0 2 #[27, 47, 60], 27) := by decide +kernel
theorem dX6_paintings_28 : decode cX6_paintings 28 = .ok (.aload_n 0, 1) := by decide +kernel
theorem dX6_paintings_29 : decode cX6_paintings 29 = .ok (.getfield 43, 3) := by decide +kernel
theorem dX6_paintings_32 : decode cX6_paintings 32 = .ok (.aload_n 0, 1) := by decide +kernel
theorem dX6_paintings_33 : decode cX6_paintings 33 = .ok (.getfield 12, 3) := by decide +kernel
theorem dX6_paintings_36 : decode cX6_paintings 36 = .ok (.invokevirtual 223, 3) := by decide +kernel
theorem dX6_paintings_39 : decode cX6_paintings 39 = .ok (.ifCond .eq 7, 3) := by decide +kernel
theorem dX6_paintings_42 : decode cX6_paintings 42 = .ok (.iconst 1, 1) := by decide +kernel
theorem dX6_paintings_43 : decode cX6_paintings 43 = .ok (.goto 4, 3) := by decide +kernel
theorem dX6_paintings_46 : decode cX6_paintings 46 = .ok (.iconst 0, 1) := by decide +kernel
theorem dX6_paintings_47 : decode cX6_paintings 47 = .ok (.ireturn, 1) := by decide +kernel
theorem dX6_paintings_48 : decode cX6_paintings 48 = .ok (.aload_n 0, 1) := by decide +kernel
theorem dX6_paintings_49 : decode cX6_paintings 49 = .ok (.getfield 43, 3) := by decide +kernel
theorem dX6_paintings_52 : decode cX6_paintings 52 = .ok (.aload_n 0, 1) := by decide +kernel
theorem dX6_paintings_53 : decode cX6_paintings 53 = .ok (.getfield 12, 3) := by decide +kernel
theorem dX6_paintings_56 : decode cX6_paintings 56 = .ok (.iconst 1, 1) := by decide +kernel
theorem dX6_paintings_57 : decode cX6_paintings 57 = .ok (.invokevirtual 226, 3) := by decide +kernel
theorem dX6_paintings_60 : decode cX6_paintings 60 = .ok (.ireturn, 1) := by decide +kernel
theorem dX6_paintings_61 : decode cX6_paintings 61 = .ok (.aload_n 0, 1) := by decide +kernel
theorem dX6_paintings_62 : decode cX6_paintings 62 = .ok (.getfield 43, 3) := by decide +kernel
theorem dX6_paintings_65 : decode cX6_paintings 65 = .ok (.aload_n 0, 1) := by decide +kernel
theorem dX6_paintings_66 : decode cX6_paintings 66 = .ok (.getfield 12, 3) := by decide +kernel
theorem dX6_paintings_69 : decode cX6_paintings 69 = .ok (.iconst 0, 1) := by decide +kernel
theorem dX6_paintings_70 : decode cX6_paintings 70 = .ok (.invokevirtual 226, 3) := by decide +kernel
theorem dX6_paintings_73 : decode cX6_paintings 73 = .ok (.ireturn, 1) := by decide +kernel
theorem dX6_paintings_74 : decode cX6_paintings 74 = .ok (.bipush (-2), 2) := by decide +kernel
theorem dX6_paintings_76 : decode cX6_paintings 76 = .ok (.ireturn, 1) := by decide +kernel
set_option maxRecDepth 20000 in
theorem ggX6_firstPainting_X2_hasThread : GoodIn wsX6_firstPainting wsX2_hasThread := goodIn_r _ [7, 8, 139, 140, 141, 142] (by decide +kernel) (by decide +kernel)
set_option maxRecDepth 20000 in
theorem gX6_firstPainting_X2_hasThread : GoodIn wsX6_firstPainting (wsV RX6 94 RX2 yX2_hasThread wsX2_hasThread) := goodIn_app (goodIn_of _ (by decide +kernel)) ggX6_firstPainting_X2_hasThread
set_option maxRecDepth 20000 in
theorem ggX6_firstPainting_X3_findFirst : GoodIn wsX6_firstPainting wsX3_findFirst := goodIn_r _ [13, 14, 15, 16, 17, 12, 18, 19, 20, 21, 6, 22, 8, 23, 24, 25, 26, 27, 28, 29, 30, 31, 32, 33, 34, 35, 36, 37, 38, 39, 40, 41, 42, 43, 44, 45, 46, 47, 48, 49, 50, 51, 52, 53, 54, 55, 56, 57, 58, 59, 60, 61, 62, 63, 64, 65, 66, 67, 68, 69, 70, 71, 72, 73, 74, 75, 76, 77, 78, 79, 80, 81, 82, 83, 84, 85, 86, 87, 88, 89, 90, 91, 92, 93, 94, 95, 96, 97, 98, 99, 100, 101, 102, 103, 104, 105, 106, 107, 108, 109, 110, 111, 112, 113, 114, 115, 116, 117, 118, 119, 120, 121, 122, 123, 124, 125, 126, 143, 144, 145, 146, 147, 148, 149, 150, 139, 140, 141, 142] (by decide +kernel) (by decide +kernel)
set_option maxRecDepth 20000 in
theorem gX6_firstPainting_X3_findFirst : GoodIn wsX6_firstPainting (wsV RX6 154 RX3 yX3_findFirst wsX3_findFirst) := goodIn_app (goodIn_of _ (by decide +kernel)) ggX6_firstPainting_X3_findFirst
set_option maxRecDepth 20000 in
theorem ggX6_firstPainting_X3_foundColour : GoodIn wsX6_firstPainting wsX3_foundColour := goodIn_r _ [130, 15, 28, 29, 30, 143, 144, 145, 146, 147, 148, 149, 150] (by decide +kernel) (by decide +kernel)
set_option maxRecDepth 20000 in
theorem gX6_firstPainting_X3_foundColour : GoodIn wsX6_firstPainting (wsV RX6 158 RX3 yX3_foundColour wsX3_foundColour) := goodIn_app (goodIn_of _ (by decide +kernel)) ggX6_firstPainting_X3_foundColour
theorem dX6_firstPainting_0 : decode cX6_firstPainting 0 = .ok (.aload_n 0, 1) := by decide +kernel
theorem dX6_firstPainting_1 : decode cX6_firstPainting 1 = .ok (.getfield 12, 3) := by decide +kernel
theorem dX6_firstPainting_4 : decode cX6_firstPainting 4 = .ok (.iload_n 1, 1) := by decide +kernel
theorem dX6_firstPainting_5 : decode cX6_firstPainting 5 = .ok (.invokevirtual 94, 3) := by decide +kernel
theorem dX6_firstPainting_8 : decode cX6_firstPainting 8 = .ok (.ifCond .ne 5, 3) := by decide +kernel
theorem dX6_firstPainting_11 : decode cX6_firstPainting 11 = .ok (.iconst (-1), 1) := by decide +kernel
theorem dX6_firstPainting_12 : decode cX6_firstPainting 12 = .ok (.ireturn, 1) := by decide +kernel
theorem dX6_firstPainting_13 : decode cX6_firstPainting 13 = .ok (.aload_n 0, 1) := by decide +kernel
theorem dX6_firstPainting_14 : decode cX6_firstPainting 14 = .ok (.getfield 43, 3) := by decide +kernel
theorem dX6_firstPainting_17 : decode cX6_firstPainting 17 = .ok (.aload_n 0, 1) := by decide +kernel
theorem dX6_firstPainting_18 : decode cX6_firstPainting 18 = .ok (.getfield 12, 3) := by decide +kernel
theorem dX6_firstPainting_21 : decode cX6_firstPainting 21 = .ok (.iconst 0, 1) := by decide +kernel
theorem dX6_firstPainting_22 : decode cX6_firstPainting 22 = .ok (.invokevirtual 154, 3) := by decide +kernel
theorem dX6_firstPainting_25 : decode cX6_firstPainting 25 = .ok (.ifCond .eq 14, 3) := by decide +kernel
theorem dX6_firstPainting_28 : decode cX6_firstPainting 28 = .ok (.aload_n 0, 1) := by decide +kernel
theorem dX6_firstPainting_29 : decode cX6_firstPainting 29 = .ok (.getfield 43, 3) := by decide +kernel
theorem dX6_firstPainting_32 : decode cX6_firstPainting 32 = .ok (.iload_n 1, 1) := by decide +kernel
theorem dX6_firstPainting_33 : decode cX6_firstPainting 33 = .ok (.invokevirtual 158, 3) := by decide +kernel
theorem dX6_firstPainting_36 : decode cX6_firstPainting 36 = .ok (.goto 5, 3) := by decide +kernel
theorem dX6_firstPainting_39 : decode cX6_firstPainting 39 = .ok (.bipush (-5), 2) := by decide +kernel
theorem dX6_firstPainting_41 : decode cX6_firstPainting 41 = .ok (.ireturn, 1) := by decide +kernel
set_option maxRecDepth 20000 in
theorem ggX6_takingOut_X3_firstLeastSet : GoodIn wsX6_takingOut wsX3_firstLeastSet := goodIn_r _ [7, 8, 9, 10, 11, 12, 13, 14, 15, 16, 17, 18, 19, 20, 6, 21, 22, 23, 24, 25, 26, 27, 28, 29, 30, 31, 32, 33, 34, 35, 36, 37, 38, 39, 40, 41, 42, 43, 44, 45, 46, 47, 48, 49, 50, 51, 52, 53, 54, 55, 56, 57, 58, 59, 60, 61, 62, 63, 64, 65, 66, 67, 68, 69, 70, 71, 72, 73, 74, 75, 76, 77, 78, 79, 80, 81, 82, 83, 84, 85, 86, 87, 88, 89, 90, 91, 92, 93, 94, 95, 96, 97, 98, 99, 100, 101, 102, 103, 113, 114, 115, 116, 117, 118, 119, 120, 121, 122, 123, 124] (by decide +kernel) (by decide +kernel)
set_option maxRecDepth 20000 in
theorem gX6_takingOut_X3_firstLeastSet : GoodIn wsX6_takingOut (wsV RX6 230 RX3 yX3_firstLeastSet wsX3_firstLeastSet) := goodIn_app (goodIn_of _ (by decide +kernel)) ggX6_takingOut_X3_firstLeastSet
set_option maxRecDepth 20000 in
theorem ggX6_takingOut_J6_bitCount_0f7a4 : GoodIn wsX6_takingOut wsJ6_bitCount_0f7a4 := goodIn_r _ [60, 61, 62, 63] (by decide +kernel) (by decide +kernel)
set_option maxRecDepth 20000 in
theorem gX6_takingOut_J6_bitCount_0f7a4 : GoodIn wsX6_takingOut (va_wsS RX6 146 yJ6_bitCount_0f7a4 wsJ6_bitCount_0f7a4) := goodIn_app (goodIn_of _ (by decide +kernel)) ggX6_takingOut_J6_bitCount_0f7a4
theorem dX6_takingOut_0 : decode cX6_takingOut 0 = .ok (.iload_n 1, 1) := by decide +kernel
theorem dX6_takingOut_1 : decode cX6_takingOut 1 = .ok (.ifCond .eq 11, 3) := by decide +kernel
theorem dX6_takingOut_4 : decode cX6_takingOut 4 = .ok (.iload_n 1, 1) := by decide +kernel
theorem dX6_takingOut_5 : decode cX6_takingOut 5 = .ok (.iconst 1, 1) := by decide +kernel
theorem dX6_takingOut_6 : decode cX6_takingOut 6 = .ok (.if_icmp .eq 6, 3) := by decide +kernel
theorem dX6_takingOut_9 : decode cX6_takingOut 9 = .ok (.bipush (-2), 2) := by decide +kernel
theorem dX6_takingOut_11 : decode cX6_takingOut 11 = .ok (.ireturn, 1) := by decide +kernel
theorem dX6_takingOut_12 : decode cX6_takingOut 12 = .ok (.aload_n 0, 1) := by decide +kernel
theorem dX6_takingOut_13 : decode cX6_takingOut 13 = .ok (.getfield 43, 3) := by decide +kernel
theorem dX6_takingOut_16 : decode cX6_takingOut 16 = .ok (.aload_n 0, 1) := by decide +kernel
theorem dX6_takingOut_17 : decode cX6_takingOut 17 = .ok (.getfield 12, 3) := by decide +kernel
theorem dX6_takingOut_20 : decode cX6_takingOut 20 = .ok (.invokevirtual 230, 3) := by decide +kernel
theorem dX6_takingOut_23 : decode cX6_takingOut 23 = .ok (.istore_n 2, 1) := by decide +kernel
theorem dX6_takingOut_24 : decode cX6_takingOut 24 = .ok (.iload_n 1, 1) := by decide +kernel
theorem dX6_takingOut_25 : decode cX6_takingOut 25 = .ok (.ifCond .ne 10, 3) := by decide +kernel
theorem dX6_takingOut_28 : decode cX6_takingOut 28 = .ok (.iload_n 2, 1) := by decide +kernel
theorem dX6_takingOut_29 : decode cX6_takingOut 29 = .ok (.invokestatic 146, 3) := by decide +kernel
theorem dX6_takingOut_32 : decode cX6_takingOut 32 = .ok (.goto 4, 3) := by decide +kernel
theorem dX6_takingOut_35 : decode cX6_takingOut 35 = .ok (.iload_n 2, 1) := by decide +kernel
theorem dX6_takingOut_36 : decode cX6_takingOut 36 = .ok (.ireturn, 1) := by decide +kernel
set_option maxRecDepth 20000 in
theorem ggX6_cover_X0_list : GoodIn wsX6_cover wsX0_list := goodIn_r _ [7, 8, 9, 10, 11, 12, 13, 14, 15, 16, 17, 18, 19, 20, 21, 22, 23, 24, 25, 26, 27, 28, 29, 30, 31, 32, 33, 34, 6, 35, 36, 37, 38, 39, 40, 57, 58, 59, 60, 61, 62, 63, 64, 65, 66] (by decide +kernel) (by decide +kernel)
set_option maxRecDepth 20000 in
theorem gX6_cover_X0_list : GoodIn wsX6_cover (wsV RX6 211 RX0 yX0_list wsX0_list) := goodIn_app (goodIn_of _ (by decide +kernel)) ggX6_cover_X0_list
set_option maxRecDepth 20000 in
theorem ggX6_cover_X0_size : GoodIn wsX6_cover wsX0_size := goodIn_r _ [44, 8, 57, 58, 59, 60, 61, 62] (by decide +kernel) (by decide +kernel)
set_option maxRecDepth 20000 in
theorem gX6_cover_X0_size : GoodIn wsX6_cover (wsV RX6 234 RX0 yX0_size wsX0_size) := goodIn_app (goodIn_of _ (by decide +kernel)) ggX6_cover_X0_size
set_option maxRecDepth 20000 in
theorem ggX6_cover_X0_get : GoodIn wsX6_cover wsX0_get := goodIn_r _ [48, 40, 24, 17, 25, 57, 58, 59, 60, 61, 62] (by decide +kernel) (by decide +kernel)
set_option maxRecDepth 20000 in
theorem gX6_cover_X0_get : GoodIn wsX6_cover (wsV RX6 235 RX0 yX0_get wsX0_get) := goodIn_app (goodIn_of _ (by decide +kernel)) ggX6_cover_X0_get
theorem dX6_cover_0 : decode cX6_cover 0 = .ok (.iload_n 1, 1) := by decide +kernel
theorem dX6_cover_1 : decode cX6_cover 1 = .ok (.ifCond .ge 6, 3) := by decide +kernel
theorem dX6_cover_4 : decode cX6_cover 4 = .ok (.bipush (-2), 2) := by decide +kernel
theorem dX6_cover_6 : decode cX6_cover 6 = .ok (.ireturn, 1) := by decide +kernel
theorem dX6_cover_7 : decode cX6_cover 7 = .ok (.aload_n 0, 1) := by decide +kernel
theorem dX6_cover_8 : decode cX6_cover 8 = .ok (.getfield 50, 3) := by decide +kernel
theorem dX6_cover_11 : decode cX6_cover 11 = .ok (.aload_n 0, 1) := by decide +kernel
theorem dX6_cover_12 : decode cX6_cover 12 = .ok (.getfield 12, 3) := by decide +kernel
theorem dX6_cover_15 : decode cX6_cover 15 = .ok (.invokevirtual 211, 3) := by decide +kernel
theorem dX6_cover_18 : decode cX6_cover 18 = .ok (.iload_n 1, 1) := by decide +kernel
theorem dX6_cover_19 : decode cX6_cover 19 = .ok (.aload_n 0, 1) := by decide +kernel
theorem dX6_cover_20 : decode cX6_cover 20 = .ok (.getfield 50, 3) := by decide +kernel
theorem dX6_cover_23 : decode cX6_cover 23 = .ok (.invokevirtual 234, 3) := by decide +kernel
theorem dX6_cover_26 : decode cX6_cover 26 = .ok (.if_icmp .ge 14, 3) := by decide +kernel
theorem dX6_cover_29 : decode cX6_cover 29 = .ok (.aload_n 0, 1) := by decide +kernel
theorem dX6_cover_30 : decode cX6_cover 30 = .ok (.getfield 50, 3) := by decide +kernel
theorem dX6_cover_33 : decode cX6_cover 33 = .ok (.iload_n 1, 1) := by decide +kernel
theorem dX6_cover_34 : decode cX6_cover 34 = .ok (.invokevirtual 235, 3) := by decide +kernel
theorem dX6_cover_37 : decode cX6_cover 37 = .ok (.goto 5, 3) := by decide +kernel
theorem dX6_cover_40 : decode cX6_cover 40 = .ok (.bipush (-5), 2) := by decide +kernel
theorem dX6_cover_42 : decode cX6_cover 42 = .ok (.ireturn, 1) := by decide +kernel
set_option maxRecDepth 20000 in
theorem ggX6_circles_X2_isFull : GoodIn wsX6_circles wsX2_isFull := goodIn_r _ [7, 8, 9, 10, 11, 6, 12, 13, 14, 15, 16, 17, 18, 19, 20, 21, 22, 23, 24, 25, 26, 27, 28, 29, 30, 31, 32, 33, 34, 120, 121, 122, 123] (by decide +kernel) (by decide +kernel)
set_option maxRecDepth 20000 in
theorem gX6_circles_X2_isFull : GoodIn wsX6_circles (wsV RX6 238 RX2 yX2_isFull wsX2_isFull) := goodIn_app (goodIn_of _ (by decide +kernel)) ggX6_circles_X2_isFull
set_option maxRecDepth 20000 in
theorem ggX6_circles_X0_list : GoodIn wsX6_circles wsX0_list := goodIn_r _ [39, 40, 41, 42, 43, 44, 6, 45, 20, 46, 14, 47, 48, 22, 23, 24, 25, 26, 27, 49, 50, 51, 52, 8, 13, 15, 53, 54, 38, 55, 56, 57, 58, 59, 60, 124, 125, 126, 127, 128, 129, 120, 121, 122, 123] (by decide +kernel) (by decide +kernel)
set_option maxRecDepth 20000 in
theorem gX6_circles_X0_list : GoodIn wsX6_circles (wsV RX6 211 RX0 yX0_list wsX0_list) := goodIn_app (goodIn_of _ (by decide +kernel)) ggX6_circles_X0_list
set_option maxRecDepth 20000 in
theorem ggX6_circles_X0_size : GoodIn wsX6_circles wsX0_size := goodIn_r _ [64, 40, 124, 125, 126, 127, 128, 129] (by decide +kernel) (by decide +kernel)
set_option maxRecDepth 20000 in
theorem gX6_circles_X0_size : GoodIn wsX6_circles (wsV RX6 234 RX0 yX0_size wsX0_size) := goodIn_app (goodIn_of _ (by decide +kernel)) ggX6_circles_X0_size
set_option maxRecDepth 20000 in
theorem ggX6_circles_X0_leave : GoodIn wsX6_circles wsX0_leave := goodIn_r _ [68, 69, 70, 71, 72, 73, 74, 75, 76, 77, 78, 6, 79, 20, 13, 14, 15, 80, 81, 82, 38, 83, 60, 26, 27, 49, 50, 51, 52, 8, 84, 85, 86, 87, 88, 89, 90, 91, 92, 93, 94, 95, 96, 97, 43, 44, 45, 98, 22, 23, 24, 25, 99, 29, 30, 31, 32, 33, 34, 124, 125, 126, 127, 128, 129, 120, 121, 122, 123] (by decide +kernel) (by decide +kernel)
set_option maxRecDepth 20000 in
theorem gX6_circles_X0_leave : GoodIn wsX6_circles (wsV RX6 241 RX0 yX0_leave wsX0_leave) := goodIn_app (goodIn_of _ (by decide +kernel)) ggX6_circles_X0_leave
set_option maxRecDepth 20000 in
theorem ggX6_circles_X0_circlesLeft : GoodIn wsX6_circles wsX0_circlesLeft := goodIn_r _ [103, 69, 124, 125, 126, 127, 128, 129] (by decide +kernel) (by decide +kernel)
set_option maxRecDepth 20000 in
theorem gX6_circles_X0_circlesLeft : GoodIn wsX6_circles (wsV RX6 245 RX0 yX0_circlesLeft wsX0_circlesLeft) := goodIn_app (goodIn_of _ (by decide +kernel)) ggX6_circles_X0_circlesLeft
set_option maxRecDepth 20000 in
theorem ggX6_circles_X0_oddCirclesLeft : GoodIn wsX6_circles wsX0_oddCirclesLeft := goodIn_r _ [107, 70, 124, 125, 126, 127, 128, 129] (by decide +kernel) (by decide +kernel)
set_option maxRecDepth 20000 in
theorem gX6_circles_X0_oddCirclesLeft : GoodIn wsX6_circles (wsV RX6 248 RX0 yX0_oddCirclesLeft wsX0_oddCirclesLeft) := goodIn_app (goodIn_of _ (by decide +kernel)) ggX6_circles_X0_oddCirclesLeft
set_option maxRecDepth 20000 in
theorem ggX6_circles_X0_longestLeft : GoodIn wsX6_circles wsX0_longestLeft := goodIn_r _ [111, 71, 124, 125, 126, 127, 128, 129] (by decide +kernel) (by decide +kernel)
set_option maxRecDepth 20000 in
theorem gX6_circles_X0_longestLeft : GoodIn wsX6_circles (wsV RX6 251 RX0 yX0_longestLeft wsX0_longestLeft) := goodIn_app (goodIn_of _ (by decide +kernel)) ggX6_circles_X0_longestLeft
theorem dX6_circles_0 : decode cX6_circles 0 = .ok (.aload_n 0, 1) := by decide +kernel
theorem dX6_circles_1 : decode cX6_circles 1 = .ok (.getfield 12, 3) := by decide +kernel
theorem dX6_circles_4 : decode cX6_circles 4 = .ok (.invokevirtual 238, 3) := by decide +kernel
theorem dX6_circles_7 : decode cX6_circles 7 = .ok (.ifCond .ne 6, 3) := by decide +kernel
theorem dX6_circles_10 : decode cX6_circles 10 = .ok (.bipush (-4), 2) := by decide +kernel
theorem dX6_circles_12 : decode cX6_circles 12 = .ok (.ireturn, 1) := by decide +kernel
theorem dX6_circles_13 : decode cX6_circles 13 = .ok (.iload_n 1, 1) := by decide +kernel
theorem dX6_circles_14 : decode cX6_circles 14 = .ok (.ifCond .lt 12, 3) := by decide +kernel
theorem dX6_circles_17 : decode cX6_circles 17 = .ok (.iload_n 2, 1) := by decide +kernel
theorem dX6_circles_18 : decode cX6_circles 18 = .ok (.ifCond .lt 8, 3) := by decide +kernel
theorem dX6_circles_21 : decode cX6_circles 21 = .ok (.iload_n 2, 1) := by decide +kernel
theorem dX6_circles_22 : decode cX6_circles 22 = .ok (.iconst 2, 1) := by decide +kernel
theorem dX6_circles_23 : decode cX6_circles 23 = .ok (.if_icmp .le 6, 3) := by decide +kernel
theorem dX6_circles_26 : decode cX6_circles 26 = .ok (.bipush (-2), 2) := by decide +kernel
theorem dX6_circles_28 : decode cX6_circles 28 = .ok (.ireturn, 1) := by decide +kernel
theorem dX6_circles_29 : decode cX6_circles 29 = .ok (.aload_n 0, 1) := by decide +kernel
theorem dX6_circles_30 : decode cX6_circles 30 = .ok (.getfield 50, 3) := by decide +kernel
theorem dX6_circles_33 : decode cX6_circles 33 = .ok (.aload_n 0, 1) := by decide +kernel
theorem dX6_circles_34 : decode cX6_circles 34 = .ok (.getfield 12, 3) := by decide +kernel
theorem dX6_circles_37 : decode cX6_circles 37 = .ok (.invokevirtual 211, 3) := by decide +kernel
theorem dX6_circles_40 : decode cX6_circles 40 = .ok (.iload_n 1, 1) := by decide +kernel
theorem dX6_circles_41 : decode cX6_circles 41 = .ok (.aload_n 0, 1) := by decide +kernel
theorem dX6_circles_42 : decode cX6_circles 42 = .ok (.getfield 50, 3) := by decide +kernel
theorem dX6_circles_45 : decode cX6_circles 45 = .ok (.invokevirtual 234, 3) := by decide +kernel
theorem dX6_circles_48 : decode cX6_circles 48 = .ok (.if_icmp .lt 6, 3) := by decide +kernel
theorem dX6_circles_51 : decode cX6_circles 51 = .ok (.bipush (-5), 2) := by decide +kernel
theorem dX6_circles_53 : decode cX6_circles 53 = .ok (.ireturn, 1) := by decide +kernel
theorem dX6_circles_54 : decode cX6_circles 54 = .ok (.aload_n 0, 1) := by decide +kernel
theorem dX6_circles_55 : decode cX6_circles 55 = .ok (.getfield 50, 3) := by decide +kernel
theorem dX6_circles_58 : decode cX6_circles 58 = .ok (.aload_n 0, 1) := by decide +kernel
theorem dX6_circles_59 : decode cX6_circles 59 = .ok (.getfield 12, 3) := by decide +kernel
theorem dX6_circles_62 : decode cX6_circles 62 = .ok (.iload_n 1, 1) := by decide +kernel
theorem dX6_circles_63 : decode cX6_circles 63 = .ok (.invokevirtual 241, 3) := by decide +kernel
theorem dX6_circles_66 : decode cX6_circles 66 = .ok (.iload_n 2, 1) := by decide +kernel
theorem dX6_circles_67 : decode cX6_circles 67 = .ok (.lookupswitch 41 #[(0, 25), (1, 33)], 25) := by decide +kernel
theorem dX6_circles_92 : decode cX6_circles 92 = .ok (.aload_n 0, 1) := by decide +kernel
theorem dX6_circles_93 : decode cX6_circles 93 = .ok (.getfield 50, 3) := by decide +kernel
theorem dX6_circles_96 : decode cX6_circles 96 = .ok (.invokevirtual 245, 3) := by decide +kernel
theorem dX6_circles_99 : decode cX6_circles 99 = .ok (.ireturn, 1) := by decide +kernel
theorem dX6_circles_100 : decode cX6_circles 100 = .ok (.aload_n 0, 1) := by decide +kernel
theorem dX6_circles_101 : decode cX6_circles 101 = .ok (.getfield 50, 3) := by decide +kernel
theorem dX6_circles_104 : decode cX6_circles 104 = .ok (.invokevirtual 248, 3) := by decide +kernel
theorem dX6_circles_107 : decode cX6_circles 107 = .ok (.ireturn, 1) := by decide +kernel
theorem dX6_circles_108 : decode cX6_circles 108 = .ok (.aload_n 0, 1) := by decide +kernel
theorem dX6_circles_109 : decode cX6_circles 109 = .ok (.getfield 50, 3) := by decide +kernel
theorem dX6_circles_112 : decode cX6_circles 112 = .ok (.invokevirtual 251, 3) := by decide +kernel
theorem dX6_circles_115 : decode cX6_circles 115 = .ok (.ireturn, 1) := by decide +kernel
set_option maxRecDepth 20000 in
theorem ggX6_fewestOdd_X2_isFull : GoodIn wsX6_fewestOdd wsX2_isFull := goodIn_r _ [11, 12, 13, 14, 15, 10, 16, 17, 18, 19, 20, 21, 22, 23, 24, 25, 26, 27, 28, 29, 30, 31, 32, 33, 34, 35, 36, 37, 38, 115, 116, 117, 118] (by decide +kernel) (by decide +kernel)
set_option maxRecDepth 20000 in
theorem gX6_fewestOdd_X2_isFull : GoodIn wsX6_fewestOdd (wsV RX6 238 RX2 yX2_isFull wsX2_isFull) := goodIn_app (goodIn_of _ (by decide +kernel)) ggX6_fewestOdd_X2_isFull
set_option maxRecDepth 20000 in
theorem ggX6_fewestOdd_X0_list : GoodIn wsX6_fewestOdd wsX0_list := goodIn_r _ [43, 44, 45, 46, 47, 48, 10, 49, 24, 50, 18, 51, 52, 26, 27, 28, 29, 30, 31, 53, 54, 55, 56, 12, 17, 19, 57, 58, 42, 59, 60, 61, 62, 63, 64, 119, 120, 121, 122, 123, 124, 115, 116, 117, 118] (by decide +kernel) (by decide +kernel)
set_option maxRecDepth 20000 in
theorem gX6_fewestOdd_X0_list : GoodIn wsX6_fewestOdd (wsV RX6 211 RX0 yX0_list wsX0_list) := goodIn_app (goodIn_of _ (by decide +kernel)) ggX6_fewestOdd_X0_list
set_option maxRecDepth 20000 in
theorem ggX6_fewestOdd_X0_size : GoodIn wsX6_fewestOdd wsX0_size := goodIn_r _ [68, 44, 119, 120, 121, 122, 123, 124] (by decide +kernel) (by decide +kernel)
set_option maxRecDepth 20000 in
theorem gX6_fewestOdd_X0_size : GoodIn wsX6_fewestOdd (wsV RX6 234 RX0 yX0_size wsX0_size) := goodIn_app (goodIn_of _ (by decide +kernel)) ggX6_fewestOdd_X0_size
set_option maxRecDepth 20000 in
theorem ggX6_fewestOdd_X0_leave : GoodIn wsX6_fewestOdd wsX0_leave := goodIn_r _ [72, 73, 74, 75, 76, 77, 5, 78, 79, 80, 81, 10, 82, 24, 17, 18, 19, 83, 84, 85, 42, 86, 64, 30, 31, 53, 54, 55, 56, 12, 87, 88, 89, 90, 91, 92, 93, 94, 95, 96, 97, 98, 99, 100, 47, 48, 49, 101, 26, 27, 28, 29, 102, 33, 34, 35, 36, 37, 38, 119, 120, 121, 122, 123, 124, 115, 116, 117, 118] (by decide +kernel) (by decide +kernel)
set_option maxRecDepth 20000 in
theorem gX6_fewestOdd_X0_leave : GoodIn wsX6_fewestOdd (wsV RX6 241 RX0 yX0_leave wsX0_leave) := goodIn_app (goodIn_of _ (by decide +kernel)) ggX6_fewestOdd_X0_leave
set_option maxRecDepth 20000 in
theorem ggX6_fewestOdd_X0_oddCirclesLeft : GoodIn wsX6_fewestOdd wsX0_oddCirclesLeft := goodIn_r _ [106, 74, 119, 120, 121, 122, 123, 124] (by decide +kernel) (by decide +kernel)
set_option maxRecDepth 20000 in
theorem gX6_fewestOdd_X0_oddCirclesLeft : GoodIn wsX6_fewestOdd (wsV RX6 248 RX0 yX0_oddCirclesLeft wsX0_oddCirclesLeft) := goodIn_app (goodIn_of _ (by decide +kernel)) ggX6_fewestOdd_X0_oddCirclesLeft
theorem dX6_fewestOdd_0 : decode cX6_fewestOdd 0 = .ok (.aload_n 0, 1) := by decide +kernel
theorem dX6_fewestOdd_1 : decode cX6_fewestOdd 1 = .ok (.getfield 12, 3) := by decide +kernel
theorem dX6_fewestOdd_4 : decode cX6_fewestOdd 4 = .ok (.invokevirtual 238, 3) := by decide +kernel
theorem dX6_fewestOdd_7 : decode cX6_fewestOdd 7 = .ok (.ifCond .ne 6, 3) := by decide +kernel
theorem dX6_fewestOdd_10 : decode cX6_fewestOdd 10 = .ok (.bipush (-4), 2) := by decide +kernel
theorem dX6_fewestOdd_12 : decode cX6_fewestOdd 12 = .ok (.ireturn, 1) := by decide +kernel
theorem dX6_fewestOdd_13 : decode cX6_fewestOdd 13 = .ok (.aload_n 0, 1) := by decide +kernel
theorem dX6_fewestOdd_14 : decode cX6_fewestOdd 14 = .ok (.getfield 50, 3) := by decide +kernel
theorem dX6_fewestOdd_17 : decode cX6_fewestOdd 17 = .ok (.aload_n 0, 1) := by decide +kernel
theorem dX6_fewestOdd_18 : decode cX6_fewestOdd 18 = .ok (.getfield 12, 3) := by decide +kernel
theorem dX6_fewestOdd_21 : decode cX6_fewestOdd 21 = .ok (.invokevirtual 211, 3) := by decide +kernel
theorem dX6_fewestOdd_24 : decode cX6_fewestOdd 24 = .ok (.aload_n 0, 1) := by decide +kernel
theorem dX6_fewestOdd_25 : decode cX6_fewestOdd 25 = .ok (.getfield 50, 3) := by decide +kernel
theorem dX6_fewestOdd_28 : decode cX6_fewestOdd 28 = .ok (.invokevirtual 234, 3) := by decide +kernel
theorem dX6_fewestOdd_31 : decode cX6_fewestOdd 31 = .ok (.ifCond .ne 6, 3) := by decide +kernel
theorem dX6_fewestOdd_34 : decode cX6_fewestOdd 34 = .ok (.bipush (-5), 2) := by decide +kernel
theorem dX6_fewestOdd_36 : decode cX6_fewestOdd 36 = .ok (.ireturn, 1) := by decide +kernel
theorem dX6_fewestOdd_37 : decode cX6_fewestOdd 37 = .ok (.bipush 14, 2) := by decide +kernel
theorem dX6_fewestOdd_39 : decode cX6_fewestOdd 39 = .ok (.istore_n 1, 1) := by decide +kernel
theorem dX6_fewestOdd_40 : decode cX6_fewestOdd 40 = .ok (.iconst 0, 1) := by decide +kernel
theorem dX6_fewestOdd_41 : decode cX6_fewestOdd 41 = .ok (.istore_n 2, 1) := by decide +kernel
theorem dX6_fewestOdd_42 : decode cX6_fewestOdd 42 = .ok (.iload_n 2, 1) := by decide +kernel
theorem dX6_fewestOdd_43 : decode cX6_fewestOdd 43 = .ok (.aload_n 0, 1) := by decide +kernel
theorem dX6_fewestOdd_44 : decode cX6_fewestOdd 44 = .ok (.getfield 50, 3) := by decide +kernel
theorem dX6_fewestOdd_47 : decode cX6_fewestOdd 47 = .ok (.invokevirtual 234, 3) := by decide +kernel
theorem dX6_fewestOdd_50 : decode cX6_fewestOdd 50 = .ok (.if_icmp .ge 33, 3) := by decide +kernel
theorem dX6_fewestOdd_53 : decode cX6_fewestOdd 53 = .ok (.aload_n 0, 1) := by decide +kernel
theorem dX6_fewestOdd_54 : decode cX6_fewestOdd 54 = .ok (.getfield 50, 3) := by decide +kernel
theorem dX6_fewestOdd_57 : decode cX6_fewestOdd 57 = .ok (.aload_n 0, 1) := by decide +kernel
theorem dX6_fewestOdd_58 : decode cX6_fewestOdd 58 = .ok (.getfield 12, 3) := by decide +kernel
theorem dX6_fewestOdd_61 : decode cX6_fewestOdd 61 = .ok (.iload_n 2, 1) := by decide +kernel
theorem dX6_fewestOdd_62 : decode cX6_fewestOdd 62 = .ok (.invokevirtual 241, 3) := by decide +kernel
theorem dX6_fewestOdd_65 : decode cX6_fewestOdd 65 = .ok (.iload_n 1, 1) := by decide +kernel
theorem dX6_fewestOdd_66 : decode cX6_fewestOdd 66 = .ok (.aload_n 0, 1) := by decide +kernel
theorem dX6_fewestOdd_67 : decode cX6_fewestOdd 67 = .ok (.getfield 50, 3) := by decide +kernel
theorem dX6_fewestOdd_70 : decode cX6_fewestOdd 70 = .ok (.invokevirtual 248, 3) := by decide +kernel
theorem dX6_fewestOdd_73 : decode cX6_fewestOdd 73 = .ok (.invokestatic 254, 3) := by decide +kernel
theorem dX6_fewestOdd_76 : decode cX6_fewestOdd 76 = .ok (.istore_n 1, 1) := by decide +kernel
theorem dX6_fewestOdd_77 : decode cX6_fewestOdd 77 = .ok (.iinc 2 1, 3) := by decide +kernel
theorem dX6_fewestOdd_80 : decode cX6_fewestOdd 80 = .ok (.goto (-38), 3) := by decide +kernel
theorem dX6_fewestOdd_83 : decode cX6_fewestOdd 83 = .ok (.iload_n 1, 1) := by decide +kernel
theorem dX6_fewestOdd_84 : decode cX6_fewestOdd 84 = .ok (.ireturn, 1) := by decide +kernel
set_option maxRecDepth 20000 in
theorem ggX6_count_X2_knots : GoodIn wsX6_count wsX2_knots := goodIn_r _ [9, 10, 158, 159, 160, 161] (by decide +kernel) (by decide +kernel)
set_option maxRecDepth 20000 in
theorem gX6_count_X2_knots : GoodIn wsX6_count (wsV RX6 66 RX2 yX2_knots wsX2_knots) := goodIn_app (goodIn_of _ (by decide +kernel)) ggX6_count_X2_knots
set_option maxRecDepth 20000 in
theorem ggX6_count_X2_threads : GoodIn wsX6_count wsX2_threads := goodIn_r _ [14, 15, 158, 159, 160, 161] (by decide +kernel) (by decide +kernel)
set_option maxRecDepth 20000 in
theorem gX6_count_X2_threads : GoodIn wsX6_count (wsV RX6 81 RX2 yX2_threads wsX2_threads) := goodIn_app (goodIn_of _ (by decide +kernel)) ggX6_count_X2_threads
set_option maxRecDepth 20000 in
theorem ggX6_count_X2_isFull : GoodIn wsX6_count wsX2_isFull := goodIn_r _ [19, 10, 20, 21, 22, 8, 23, 24, 25, 26, 27, 28, 29, 30, 15, 31, 32, 33, 34, 35, 36, 37, 38, 39, 40, 41, 42, 43, 44, 158, 159, 160, 161] (by decide +kernel) (by decide +kernel)
set_option maxRecDepth 20000 in
theorem gX6_count_X2_isFull : GoodIn wsX6_count (wsV RX6 238 RX2 yX2_isFull wsX2_isFull) := goodIn_app (goodIn_of _ (by decide +kernel)) ggX6_count_X2_isFull
set_option maxRecDepth 20000 in
theorem ggX6_count_X5_parts : GoodIn wsX6_count wsX5_parts := goodIn_r _ [48, 49, 50, 51, 8, 52, 10, 24, 25, 26, 53, 6, 7, 9, 54, 55, 56, 57, 58, 59, 15, 60, 61, 47, 62, 63, 64, 65, 66, 12, 13, 14, 67, 32, 33, 34, 35, 36, 37, 158, 159, 160, 161] (by decide +kernel) (by decide +kernel)
set_option maxRecDepth 20000 in
theorem gX6_count_X5_parts : GoodIn wsX6_count (va_wsS RX6 259 yX5_parts wsX5_parts) := goodIn_app (goodIn_of _ (by decide +kernel)) ggX6_count_X5_parts
set_option maxRecDepth 20000 in
theorem ggX6_count_X5_bridges : GoodIn wsX6_count wsX5_bridges := goodIn_r _ [70, 66, 12, 13, 8, 14, 15, 71, 72, 47, 73, 56, 57, 58, 59, 24, 25, 26, 74, 75, 76, 77, 31, 32, 33, 34, 35, 36, 37, 78, 79, 40, 80, 81, 82, 83, 84, 85, 86, 87, 88, 63, 64, 65, 54, 55, 67, 158, 159, 160, 161] (by decide +kernel) (by decide +kernel)
set_option maxRecDepth 20000 in
theorem gX6_count_X5_bridges : GoodIn wsX6_count (va_wsS RX6 262 yX5_bridges wsX5_bridges) := goodIn_app (goodIn_of _ (by decide +kernel)) ggX6_count_X5_bridges
set_option maxRecDepth 20000 in
theorem ggX6_count_X2_allThreads : GoodIn wsX6_count wsX2_allThreads := goodIn_r _ [59, 15, 24, 25, 26, 158, 159, 160, 161] (by decide +kernel) (by decide +kernel)
set_option maxRecDepth 20000 in
theorem gX6_count_X2_allThreads : GoodIn wsX6_count (wsV RX6 186 RX2 yX2_allThreads wsX2_allThreads) := goodIn_app (goodIn_of _ (by decide +kernel)) ggX6_count_X2_allThreads
set_option maxRecDepth 20000 in
theorem ggX6_count_X5_shortestCircle : GoodIn wsX6_count wsX5_shortestCircle := goodIn_r _ [92, 66, 12, 13, 8, 14, 15, 54, 25, 55, 71, 72, 47, 73, 56, 57, 58, 59, 24, 26, 74, 75, 76, 77, 31, 32, 33, 34, 35, 36, 37, 78, 79, 40, 80, 81, 82, 83, 84, 85, 86, 87, 88, 63, 64, 65, 67, 158, 159, 160, 161] (by decide +kernel) (by decide +kernel)
set_option maxRecDepth 20000 in
theorem gX6_count_X5_shortestCircle : GoodIn wsX6_count (va_wsS RX6 195 yX5_shortestCircle wsX5_shortestCircle) := goodIn_app (goodIn_of _ (by decide +kernel)) ggX6_count_X5_shortestCircle
set_option maxRecDepth 20000 in
theorem ggX6_count_X6_orNone : GoodIn wsX6_count wsX6_orNone := goodIn_r _ [95] (by decide +kernel) (by decide +kernel)
set_option maxRecDepth 20000 in
theorem gX6_count_X6_orNone : GoodIn wsX6_count (va_wsS RX6 199 yX6_orNone wsX6_orNone) := goodIn_app (goodIn_of _ (by decide +kernel)) ggX6_count_X6_orNone
set_option maxRecDepth 20000 in
theorem ggX6_count_X0_list : GoodIn wsX6_count wsX0_list := goodIn_r _ [100, 101, 102, 103, 12, 13, 8, 14, 15, 104, 25, 105, 106, 32, 33, 34, 35, 36, 37, 107, 50, 51, 52, 10, 24, 26, 108, 109, 99, 110, 111, 112, 113, 114, 115, 162, 163, 164, 165, 166, 167, 158, 159, 160, 161] (by decide +kernel) (by decide +kernel)
set_option maxRecDepth 20000 in
theorem gX6_count_X0_list : GoodIn wsX6_count (wsV RX6 211 RX0 yX0_list wsX0_list) := goodIn_app (goodIn_of _ (by decide +kernel)) ggX6_count_X0_list
set_option maxRecDepth 20000 in
theorem ggX6_count_X0_size : GoodIn wsX6_count wsX0_size := goodIn_r _ [119, 101, 162, 163, 164, 165, 166, 167] (by decide +kernel) (by decide +kernel)
set_option maxRecDepth 20000 in
theorem gX6_count_X0_size : GoodIn wsX6_count (wsV RX6 234 RX0 yX0_size wsX0_size) := goodIn_app (goodIn_of _ (by decide +kernel)) ggX6_count_X0_size
set_option maxRecDepth 20000 in
theorem ggX6_count_X2_wrongKnots : GoodIn wsX6_count wsX2_wrongKnots := goodIn_r _ [123, 10, 124, 125, 126, 8, 127, 15, 128, 129, 130, 131, 132, 36, 25, 37, 31, 32, 33, 34, 35, 54, 55, 24, 26, 158, 159, 160, 161] (by decide +kernel) (by decide +kernel)
set_option maxRecDepth 20000 in
theorem gX6_count_X2_wrongKnots : GoodIn wsX6_count (wsV RX6 265 RX2 yX2_wrongKnots wsX2_wrongKnots) := goodIn_app (goodIn_of _ (by decide +kernel)) ggX6_count_X2_wrongKnots
set_option maxRecDepth 20000 in
theorem ggX6_count_X2_coloured : GoodIn wsX6_count wsX2_coloured := goodIn_r _ [136, 15, 128, 129, 130, 8, 131, 132, 36, 25, 37, 24, 26, 158, 159, 160, 161] (by decide +kernel) (by decide +kernel)
set_option maxRecDepth 20000 in
theorem gX6_count_X2_coloured : GoodIn wsX6_count (wsV RX6 151 RX2 yX2_coloured wsX2_coloured) := goodIn_app (goodIn_of _ (by decide +kernel)) ggX6_count_X2_coloured
set_option maxRecDepth 20000 in
theorem ggX6_count_J6_bitCount_0f7a4 : GoodIn wsX6_count wsJ6_bitCount_0f7a4 := goodIn_r _ [41, 42, 43, 44] (by decide +kernel) (by decide +kernel)
set_option maxRecDepth 20000 in
theorem gX6_count_J6_bitCount_0f7a4 : GoodIn wsX6_count (va_wsS RX6 146 yJ6_bitCount_0f7a4 wsJ6_bitCount_0f7a4) := goodIn_app (goodIn_of _ (by decide +kernel)) ggX6_count_J6_bitCount_0f7a4
set_option maxRecDepth 20000 in
theorem ggX6_count_X1_size : GoodIn wsX6_count wsX1_size := goodIn_r _ [142, 143, 168, 169] (by decide +kernel) (by decide +kernel)
set_option maxRecDepth 20000 in
theorem gX6_count_X1_size : GoodIn wsX6_count (wsV RX6 174 RX1 yX1_size wsX1_size) := goodIn_app (goodIn_of _ (by decide +kernel)) ggX6_count_X1_size
set_option maxRecDepth 20000 in
theorem ggX6_count_X4_length : GoodIn wsX6_count wsX4_length := goodIn_r _ [148, 149, 170, 171, 172, 173] (by decide +kernel) (by decide +kernel)
set_option maxRecDepth 20000 in
theorem gX6_count_X4_length : GoodIn wsX6_count (wsV RX6 165 RX4 yX4_length wsX4_length) := goodIn_app (goodIn_of _ (by decide +kernel)) ggX6_count_X4_length
theorem dX6_count_0 : decode cX6_count 0 = .ok (.iload_n 1, 1) := by decide +kernel
theorem dX6_count_1 : decode cX6_count 1 = .ok (.tableswitch 180 0 10 #[59, 67, 75, 91, 99, 107, 125, 144, 152, 164, 172], 59) := by decide +kernel
theorem dX6_count_60 : decode cX6_count 60 = .ok (.aload_n 0, 1) := by decide +kernel
theorem dX6_count_61 : decode cX6_count 61 = .ok (.getfield 12, 3) := by decide +kernel
theorem dX6_count_64 : decode cX6_count 64 = .ok (.invokevirtual 66, 3) := by decide +kernel
theorem dX6_count_67 : decode cX6_count 67 = .ok (.ireturn, 1) := by decide +kernel
theorem dX6_count_68 : decode cX6_count 68 = .ok (.aload_n 0, 1) := by decide +kernel
theorem dX6_count_69 : decode cX6_count 69 = .ok (.getfield 12, 3) := by decide +kernel
theorem dX6_count_72 : decode cX6_count 72 = .ok (.invokevirtual 81, 3) := by decide +kernel
theorem dX6_count_75 : decode cX6_count 75 = .ok (.ireturn, 1) := by decide +kernel
theorem dX6_count_76 : decode cX6_count 76 = .ok (.aload_n 0, 1) := by decide +kernel
theorem dX6_count_77 : decode cX6_count 77 = .ok (.getfield 12, 3) := by decide +kernel
theorem dX6_count_80 : decode cX6_count 80 = .ok (.invokevirtual 238, 3) := by decide +kernel
theorem dX6_count_83 : decode cX6_count 83 = .ok (.ifCond .eq 7, 3) := by decide +kernel
theorem dX6_count_86 : decode cX6_count 86 = .ok (.iconst 1, 1) := by decide +kernel
theorem dX6_count_87 : decode cX6_count 87 = .ok (.goto 4, 3) := by decide +kernel
theorem dX6_count_90 : decode cX6_count 90 = .ok (.iconst 0, 1) := by decide +kernel
theorem dX6_count_91 : decode cX6_count 91 = .ok (.ireturn, 1) := by decide +kernel
theorem dX6_count_92 : decode cX6_count 92 = .ok (.aload_n 0, 1) := by decide +kernel
theorem dX6_count_93 : decode cX6_count 93 = .ok (.getfield 12, 3) := by decide +kernel
theorem dX6_count_96 : decode cX6_count 96 = .ok (.invokestatic 259, 3) := by decide +kernel
theorem dX6_count_99 : decode cX6_count 99 = .ok (.ireturn, 1) := by decide +kernel
theorem dX6_count_100 : decode cX6_count 100 = .ok (.aload_n 0, 1) := by decide +kernel
theorem dX6_count_101 : decode cX6_count 101 = .ok (.getfield 12, 3) := by decide +kernel
theorem dX6_count_104 : decode cX6_count 104 = .ok (.invokestatic 262, 3) := by decide +kernel
theorem dX6_count_107 : decode cX6_count 107 = .ok (.ireturn, 1) := by decide +kernel
theorem dX6_count_108 : decode cX6_count 108 = .ok (.aload_n 0, 1) := by decide +kernel
theorem dX6_count_109 : decode cX6_count 109 = .ok (.getfield 12, 3) := by decide +kernel
theorem dX6_count_112 : decode cX6_count 112 = .ok (.aload_n 0, 1) := by decide +kernel
theorem dX6_count_113 : decode cX6_count 113 = .ok (.getfield 12, 3) := by decide +kernel
theorem dX6_count_116 : decode cX6_count 116 = .ok (.invokevirtual 186, 3) := by decide +kernel
theorem dX6_count_119 : decode cX6_count 119 = .ok (.invokestatic 195, 3) := by decide +kernel
theorem dX6_count_122 : decode cX6_count 122 = .ok (.invokestatic 199, 3) := by decide +kernel
theorem dX6_count_125 : decode cX6_count 125 = .ok (.ireturn, 1) := by decide +kernel
theorem dX6_count_126 : decode cX6_count 126 = .ok (.aload_n 0, 1) := by decide +kernel
theorem dX6_count_127 : decode cX6_count 127 = .ok (.getfield 50, 3) := by decide +kernel
theorem dX6_count_130 : decode cX6_count 130 = .ok (.aload_n 0, 1) := by decide +kernel
theorem dX6_count_131 : decode cX6_count 131 = .ok (.getfield 12, 3) := by decide +kernel
theorem dX6_count_134 : decode cX6_count 134 = .ok (.invokevirtual 211, 3) := by decide +kernel
theorem dX6_count_137 : decode cX6_count 137 = .ok (.aload_n 0, 1) := by decide +kernel
theorem dX6_count_138 : decode cX6_count 138 = .ok (.getfield 50, 3) := by decide +kernel
theorem dX6_count_141 : decode cX6_count 141 = .ok (.invokevirtual 234, 3) := by decide +kernel
theorem dX6_count_144 : decode cX6_count 144 = .ok (.ireturn, 1) := by decide +kernel
theorem dX6_count_145 : decode cX6_count 145 = .ok (.aload_n 0, 1) := by decide +kernel
theorem dX6_count_146 : decode cX6_count 146 = .ok (.getfield 12, 3) := by decide +kernel
theorem dX6_count_149 : decode cX6_count 149 = .ok (.invokevirtual 265, 3) := by decide +kernel
theorem dX6_count_152 : decode cX6_count 152 = .ok (.ireturn, 1) := by decide +kernel
theorem dX6_count_153 : decode cX6_count 153 = .ok (.aload_n 0, 1) := by decide +kernel
theorem dX6_count_154 : decode cX6_count 154 = .ok (.getfield 12, 3) := by decide +kernel
theorem dX6_count_157 : decode cX6_count 157 = .ok (.iconst 3, 1) := by decide +kernel
theorem dX6_count_158 : decode cX6_count 158 = .ok (.invokevirtual 151, 3) := by decide +kernel
theorem dX6_count_161 : decode cX6_count 161 = .ok (.invokestatic 146, 3) := by decide +kernel
theorem dX6_count_164 : decode cX6_count 164 = .ok (.ireturn, 1) := by decide +kernel
theorem dX6_count_165 : decode cX6_count 165 = .ok (.aload_n 0, 1) := by decide +kernel
theorem dX6_count_166 : decode cX6_count 166 = .ok (.getfield 29, 3) := by decide +kernel
theorem dX6_count_169 : decode cX6_count 169 = .ok (.invokevirtual 174, 3) := by decide +kernel
theorem dX6_count_172 : decode cX6_count 172 = .ok (.ireturn, 1) := by decide +kernel
theorem dX6_count_173 : decode cX6_count 173 = .ok (.aload_n 0, 1) := by decide +kernel
theorem dX6_count_174 : decode cX6_count 174 = .ok (.getfield 36, 3) := by decide +kernel
theorem dX6_count_177 : decode cX6_count 177 = .ok (.invokevirtual 165, 3) := by decide +kernel
theorem dX6_count_180 : decode cX6_count 180 = .ok (.ireturn, 1) := by decide +kernel
theorem dX6_count_181 : decode cX6_count 181 = .ok (.bipush (-2), 2) := by decide +kernel
theorem dX6_count_183 : decode cX6_count 183 = .ok (.ireturn, 1) := by decide +kernel
theorem dX6_orNone_0 : decode cX6_orNone 0 = .ok (.iload_n 0, 1) := by decide +kernel
theorem dX6_orNone_1 : decode cX6_orNone 1 = .ok (.ifCond .ne 8, 3) := by decide +kernel
theorem dX6_orNone_4 : decode cX6_orNone 4 = .ok (.bipush (-5), 2) := by decide +kernel
theorem dX6_orNone_6 : decode cX6_orNone 6 = .ok (.goto 4, 3) := by decide +kernel
theorem dX6_orNone_9 : decode cX6_orNone 9 = .ok (.iload_n 0, 1) := by decide +kernel
theorem dX6_orNone_10 : decode cX6_orNone 10 = .ok (.ireturn, 1) := by decide +kernel
theorem dX6_builtIn_0 : decode cX6_builtIn 0 = .ok (.iload_n 0, 1) := by decide +kernel
theorem dX6_builtIn_1 : decode cX6_builtIn 1 = .ok (.tableswitch 47 0 3 #[31, 35, 39, 43], 31) := by decide +kernel
theorem dX6_builtIn_32 : decode cX6_builtIn 32 = .ok (.getstatic 268, 3) := by decide +kernel
theorem dX6_builtIn_35 : decode cX6_builtIn 35 = .ok (.areturn, 1) := by decide +kernel
theorem dX6_builtIn_36 : decode cX6_builtIn 36 = .ok (.getstatic 272, 3) := by decide +kernel
theorem dX6_builtIn_39 : decode cX6_builtIn 39 = .ok (.areturn, 1) := by decide +kernel
theorem dX6_builtIn_40 : decode cX6_builtIn 40 = .ok (.getstatic 275, 3) := by decide +kernel
theorem dX6_builtIn_43 : decode cX6_builtIn 43 = .ok (.areturn, 1) := by decide +kernel
theorem dX6_builtIn_44 : decode cX6_builtIn 44 = .ok (.getstatic 278, 3) := by decide +kernel
theorem dX6_builtIn_47 : decode cX6_builtIn 47 = .ok (.areturn, 1) := by decide +kernel
theorem dX6_builtIn_48 : decode cX6_builtIn 48 = .ok (.getstatic 281, 3) := by decide +kernel
theorem dX6_builtIn_51 : decode cX6_builtIn 51 = .ok (.areturn, 1) := by decide +kernel
theorem dX6_bit_0 : decode cX6_bit 0 = .ok (.iconst 1, 1) := by decide +kernel
theorem dX6_bit_1 : decode cX6_bit 1 = .ok (.iload_n 0, 1) := by decide +kernel
theorem dX6_bit_2 : decode cX6_bit 2 = .ok (.ishl, 1) := by decide +kernel
theorem dX6_bit_3 : decode cX6_bit 3 = .ok (.ireturn, 1) := by decide +kernel
theorem dX6_holds_0 : decode cX6_holds 0 = .ok (.iload_n 0, 1) := by decide +kernel
theorem dX6_holds_1 : decode cX6_holds 1 = .ok (.iload_n 1, 1) := by decide +kernel
theorem dX6_holds_2 : decode cX6_holds 2 = .ok (.ishr, 1) := by decide +kernel
theorem dX6_holds_3 : decode cX6_holds 3 = .ok (.iconst 1, 1) := by decide +kernel
theorem dX6_holds_4 : decode cX6_holds 4 = .ok (.iand, 1) := by decide +kernel
theorem dX6_holds_5 : decode cX6_holds 5 = .ok (.ifCond .eq 7, 3) := by decide +kernel
theorem dX6_holds_8 : decode cX6_holds 8 = .ok (.iconst 1, 1) := by decide +kernel
theorem dX6_holds_9 : decode cX6_holds 9 = .ok (.goto 4, 3) := by decide +kernel
theorem dX6_holds_12 : decode cX6_holds 12 = .ok (.iconst 0, 1) := by decide +kernel
theorem dX6_holds_13 : decode cX6_holds 13 = .ok (.ireturn, 1) := by decide +kernel
theorem dX6_at_0 : decode cX6_at 0 = .ok (.iload_n 1, 1) := by decide +kernel
theorem dX6_at_1 : decode cX6_at 1 = .ok (.ifCond .lt 15, 3) := by decide +kernel
theorem dX6_at_4 : decode cX6_at 4 = .ok (.iload_n 1, 1) := by decide +kernel
theorem dX6_at_5 : decode cX6_at 5 = .ok (.aload_n 0, 1) := by decide +kernel
theorem dX6_at_6 : decode cX6_at 6 = .ok (.arraylength, 1) := by decide +kernel
theorem dX6_at_7 : decode cX6_at 7 = .ok (.if_icmp .ge 9, 3) := by decide +kernel
theorem dX6_at_10 : decode cX6_at 10 = .ok (.aload_n 0, 1) := by decide +kernel
theorem dX6_at_11 : decode cX6_at 11 = .ok (.iload_n 1, 1) := by decide +kernel
theorem dX6_at_12 : decode cX6_at 12 = .ok (.iaload, 1) := by decide +kernel
theorem dX6_at_13 : decode cX6_at 13 = .ok (.goto 4, 3) := by decide +kernel
theorem dX6_at_16 : decode cX6_at 16 = .ok (.iconst 0, 1) := by decide +kernel
theorem dX6_at_17 : decode cX6_at 17 = .ok (.ireturn, 1) := by decide +kernel
theorem dX6_put_0 : decode cX6_put 0 = .ok (.iload_n 1, 1) := by decide +kernel
theorem dX6_put_1 : decode cX6_put 1 = .ok (.ifCond .lt 13, 3) := by decide +kernel
theorem dX6_put_4 : decode cX6_put 4 = .ok (.iload_n 1, 1) := by decide +kernel
theorem dX6_put_5 : decode cX6_put 5 = .ok (.aload_n 0, 1) := by decide +kernel
theorem dX6_put_6 : decode cX6_put 6 = .ok (.arraylength, 1) := by decide +kernel
theorem dX6_put_7 : decode cX6_put 7 = .ok (.if_icmp .ge 7, 3) := by decide +kernel
theorem dX6_put_10 : decode cX6_put 10 = .ok (.aload_n 0, 1) := by decide +kernel
theorem dX6_put_11 : decode cX6_put 11 = .ok (.iload_n 1, 1) := by decide +kernel
theorem dX6_put_12 : decode cX6_put 12 = .ok (.iload_n 2, 1) := by decide +kernel
theorem dX6_put_13 : decode cX6_put 13 = .ok (.iastore, 1) := by decide +kernel
theorem dX6_put_14 : decode cX6_put 14 = .ok (.return_, 1) := by decide +kernel
theorem dJ6_numberOfLeadingZeros_0f7a4_0 : decode cJ6_numberOfLeadingZeros_0f7a4 0 = .ok (.iload_n 0, 1) := by decide +kernel
theorem dJ6_numberOfLeadingZeros_0f7a4_1 : decode cJ6_numberOfLeadingZeros_0f7a4 1 = .ok (.ifCond .gt 14, 3) := by decide +kernel
theorem dJ6_numberOfLeadingZeros_0f7a4_4 : decode cJ6_numberOfLeadingZeros_0f7a4 4 = .ok (.iload_n 0, 1) := by decide +kernel
theorem dJ6_numberOfLeadingZeros_0f7a4_5 : decode cJ6_numberOfLeadingZeros_0f7a4 5 = .ok (.ifCond .ne 8, 3) := by decide +kernel
theorem dJ6_numberOfLeadingZeros_0f7a4_8 : decode cJ6_numberOfLeadingZeros_0f7a4 8 = .ok (.bipush 32, 2) := by decide +kernel
theorem dJ6_numberOfLeadingZeros_0f7a4_10 : decode cJ6_numberOfLeadingZeros_0f7a4 10 = .ok (.goto 4, 3) := by decide +kernel
theorem dJ6_numberOfLeadingZeros_0f7a4_13 : decode cJ6_numberOfLeadingZeros_0f7a4 13 = .ok (.iconst 0, 1) := by decide +kernel
theorem dJ6_numberOfLeadingZeros_0f7a4_14 : decode cJ6_numberOfLeadingZeros_0f7a4 14 = .ok (.ireturn, 1) := by decide +kernel
theorem dJ6_numberOfLeadingZeros_0f7a4_15 : decode cJ6_numberOfLeadingZeros_0f7a4 15 = .ok (.bipush 31, 2) := by decide +kernel
theorem dJ6_numberOfLeadingZeros_0f7a4_17 : decode cJ6_numberOfLeadingZeros_0f7a4 17 = .ok (.istore_n 1, 1) := by decide +kernel
theorem dJ6_numberOfLeadingZeros_0f7a4_18 : decode cJ6_numberOfLeadingZeros_0f7a4 18 = .ok (.iload_n 0, 1) := by decide +kernel
theorem dJ6_numberOfLeadingZeros_0f7a4_19 : decode cJ6_numberOfLeadingZeros_0f7a4 19 = .ok (.ldc_w 264, 3) := by decide +kernel
theorem dJ6_numberOfLeadingZeros_0f7a4_22 : decode cJ6_numberOfLeadingZeros_0f7a4 22 = .ok (.if_icmp .lt 11, 3) := by decide +kernel
theorem dJ6_numberOfLeadingZeros_0f7a4_25 : decode cJ6_numberOfLeadingZeros_0f7a4 25 = .ok (.iinc 1 (-16), 3) := by decide +kernel
theorem dJ6_numberOfLeadingZeros_0f7a4_28 : decode cJ6_numberOfLeadingZeros_0f7a4 28 = .ok (.iload_n 0, 1) := by decide +kernel
theorem dJ6_numberOfLeadingZeros_0f7a4_29 : decode cJ6_numberOfLeadingZeros_0f7a4 29 = .ok (.bipush 16, 2) := by decide +kernel
theorem dJ6_numberOfLeadingZeros_0f7a4_31 : decode cJ6_numberOfLeadingZeros_0f7a4 31 = .ok (.iushr, 1) := by decide +kernel
theorem dJ6_numberOfLeadingZeros_0f7a4_32 : decode cJ6_numberOfLeadingZeros_0f7a4 32 = .ok (.istore_n 0, 1) := by decide +kernel
theorem dJ6_numberOfLeadingZeros_0f7a4_33 : decode cJ6_numberOfLeadingZeros_0f7a4 33 = .ok (.iload_n 0, 1) := by decide +kernel
theorem dJ6_numberOfLeadingZeros_0f7a4_34 : decode cJ6_numberOfLeadingZeros_0f7a4 34 = .ok (.sipush 256, 3) := by decide +kernel
theorem dJ6_numberOfLeadingZeros_0f7a4_37 : decode cJ6_numberOfLeadingZeros_0f7a4 37 = .ok (.if_icmp .lt 11, 3) := by decide +kernel
theorem dJ6_numberOfLeadingZeros_0f7a4_40 : decode cJ6_numberOfLeadingZeros_0f7a4 40 = .ok (.iinc 1 (-8), 3) := by decide +kernel
theorem dJ6_numberOfLeadingZeros_0f7a4_43 : decode cJ6_numberOfLeadingZeros_0f7a4 43 = .ok (.iload_n 0, 1) := by decide +kernel
theorem dJ6_numberOfLeadingZeros_0f7a4_44 : decode cJ6_numberOfLeadingZeros_0f7a4 44 = .ok (.bipush 8, 2) := by decide +kernel
theorem dJ6_numberOfLeadingZeros_0f7a4_46 : decode cJ6_numberOfLeadingZeros_0f7a4 46 = .ok (.iushr, 1) := by decide +kernel
theorem dJ6_numberOfLeadingZeros_0f7a4_47 : decode cJ6_numberOfLeadingZeros_0f7a4 47 = .ok (.istore_n 0, 1) := by decide +kernel
theorem dJ6_numberOfLeadingZeros_0f7a4_48 : decode cJ6_numberOfLeadingZeros_0f7a4 48 = .ok (.iload_n 0, 1) := by decide +kernel
theorem dJ6_numberOfLeadingZeros_0f7a4_49 : decode cJ6_numberOfLeadingZeros_0f7a4 49 = .ok (.bipush 16, 2) := by decide +kernel
theorem dJ6_numberOfLeadingZeros_0f7a4_51 : decode cJ6_numberOfLeadingZeros_0f7a4 51 = .ok (.if_icmp .lt 10, 3) := by decide +kernel
theorem dJ6_numberOfLeadingZeros_0f7a4_54 : decode cJ6_numberOfLeadingZeros_0f7a4 54 = .ok (.iinc 1 (-4), 3) := by decide +kernel
theorem dJ6_numberOfLeadingZeros_0f7a4_57 : decode cJ6_numberOfLeadingZeros_0f7a4 57 = .ok (.iload_n 0, 1) := by decide +kernel
theorem dJ6_numberOfLeadingZeros_0f7a4_58 : decode cJ6_numberOfLeadingZeros_0f7a4 58 = .ok (.iconst 4, 1) := by decide +kernel
theorem dJ6_numberOfLeadingZeros_0f7a4_59 : decode cJ6_numberOfLeadingZeros_0f7a4 59 = .ok (.iushr, 1) := by decide +kernel
theorem dJ6_numberOfLeadingZeros_0f7a4_60 : decode cJ6_numberOfLeadingZeros_0f7a4 60 = .ok (.istore_n 0, 1) := by decide +kernel
theorem dJ6_numberOfLeadingZeros_0f7a4_61 : decode cJ6_numberOfLeadingZeros_0f7a4 61 = .ok (.iload_n 0, 1) := by decide +kernel
theorem dJ6_numberOfLeadingZeros_0f7a4_62 : decode cJ6_numberOfLeadingZeros_0f7a4 62 = .ok (.iconst 4, 1) := by decide +kernel
theorem dJ6_numberOfLeadingZeros_0f7a4_63 : decode cJ6_numberOfLeadingZeros_0f7a4 63 = .ok (.if_icmp .lt 10, 3) := by decide +kernel
theorem dJ6_numberOfLeadingZeros_0f7a4_66 : decode cJ6_numberOfLeadingZeros_0f7a4 66 = .ok (.iinc 1 (-2), 3) := by decide +kernel
theorem dJ6_numberOfLeadingZeros_0f7a4_69 : decode cJ6_numberOfLeadingZeros_0f7a4 69 = .ok (.iload_n 0, 1) := by decide +kernel
theorem dJ6_numberOfLeadingZeros_0f7a4_70 : decode cJ6_numberOfLeadingZeros_0f7a4 70 = .ok (.iconst 2, 1) := by decide +kernel
theorem dJ6_numberOfLeadingZeros_0f7a4_71 : decode cJ6_numberOfLeadingZeros_0f7a4 71 = .ok (.iushr, 1) := by decide +kernel
theorem dJ6_numberOfLeadingZeros_0f7a4_72 : decode cJ6_numberOfLeadingZeros_0f7a4 72 = .ok (.istore_n 0, 1) := by decide +kernel
theorem dJ6_numberOfLeadingZeros_0f7a4_73 : decode cJ6_numberOfLeadingZeros_0f7a4 73 = .ok (.iload_n 1, 1) := by decide +kernel
theorem dJ6_numberOfLeadingZeros_0f7a4_74 : decode cJ6_numberOfLeadingZeros_0f7a4 74 = .ok (.iload_n 0, 1) := by decide +kernel
theorem dJ6_numberOfLeadingZeros_0f7a4_75 : decode cJ6_numberOfLeadingZeros_0f7a4 75 = .ok (.iconst 1, 1) := by decide +kernel
theorem dJ6_numberOfLeadingZeros_0f7a4_76 : decode cJ6_numberOfLeadingZeros_0f7a4 76 = .ok (.iushr, 1) := by decide +kernel
theorem dJ6_numberOfLeadingZeros_0f7a4_77 : decode cJ6_numberOfLeadingZeros_0f7a4 77 = .ok (.isub, 1) := by decide +kernel
theorem dJ6_numberOfLeadingZeros_0f7a4_78 : decode cJ6_numberOfLeadingZeros_0f7a4 78 = .ok (.ireturn, 1) := by decide +kernel
theorem dJ6_numberOfTrailingZeros_0f7a4_0 : decode cJ6_numberOfTrailingZeros_0f7a4 0 = .ok (.iload_n 0, 1) := by decide +kernel
theorem dJ6_numberOfTrailingZeros_0f7a4_1 : decode cJ6_numberOfTrailingZeros_0f7a4 1 = .ok (.iconst (-1), 1) := by decide +kernel
theorem dJ6_numberOfTrailingZeros_0f7a4_2 : decode cJ6_numberOfTrailingZeros_0f7a4 2 = .ok (.ixor, 1) := by decide +kernel
theorem dJ6_numberOfTrailingZeros_0f7a4_3 : decode cJ6_numberOfTrailingZeros_0f7a4 3 = .ok (.iload_n 0, 1) := by decide +kernel
theorem dJ6_numberOfTrailingZeros_0f7a4_4 : decode cJ6_numberOfTrailingZeros_0f7a4 4 = .ok (.iconst 1, 1) := by decide +kernel
theorem dJ6_numberOfTrailingZeros_0f7a4_5 : decode cJ6_numberOfTrailingZeros_0f7a4 5 = .ok (.isub, 1) := by decide +kernel
theorem dJ6_numberOfTrailingZeros_0f7a4_6 : decode cJ6_numberOfTrailingZeros_0f7a4 6 = .ok (.iand, 1) := by decide +kernel
theorem dJ6_numberOfTrailingZeros_0f7a4_7 : decode cJ6_numberOfTrailingZeros_0f7a4 7 = .ok (.istore_n 0, 1) := by decide +kernel
theorem dJ6_numberOfTrailingZeros_0f7a4_8 : decode cJ6_numberOfTrailingZeros_0f7a4 8 = .ok (.iload_n 0, 1) := by decide +kernel
theorem dJ6_numberOfTrailingZeros_0f7a4_9 : decode cJ6_numberOfTrailingZeros_0f7a4 9 = .ok (.ifCond .gt 8, 3) := by decide +kernel
theorem dJ6_numberOfTrailingZeros_0f7a4_12 : decode cJ6_numberOfTrailingZeros_0f7a4 12 = .ok (.iload_n 0, 1) := by decide +kernel
theorem dJ6_numberOfTrailingZeros_0f7a4_13 : decode cJ6_numberOfTrailingZeros_0f7a4 13 = .ok (.bipush 32, 2) := by decide +kernel
theorem dJ6_numberOfTrailingZeros_0f7a4_15 : decode cJ6_numberOfTrailingZeros_0f7a4 15 = .ok (.iand, 1) := by decide +kernel
theorem dJ6_numberOfTrailingZeros_0f7a4_16 : decode cJ6_numberOfTrailingZeros_0f7a4 16 = .ok (.ireturn, 1) := by decide +kernel
theorem dJ6_numberOfTrailingZeros_0f7a4_17 : decode cJ6_numberOfTrailingZeros_0f7a4 17 = .ok (.iconst 1, 1) := by decide +kernel
theorem dJ6_numberOfTrailingZeros_0f7a4_18 : decode cJ6_numberOfTrailingZeros_0f7a4 18 = .ok (.istore_n 1, 1) := by decide +kernel
theorem dJ6_numberOfTrailingZeros_0f7a4_19 : decode cJ6_numberOfTrailingZeros_0f7a4 19 = .ok (.iload_n 0, 1) := by decide +kernel
theorem dJ6_numberOfTrailingZeros_0f7a4_20 : decode cJ6_numberOfTrailingZeros_0f7a4 20 = .ok (.ldc_w 264, 3) := by decide +kernel
theorem dJ6_numberOfTrailingZeros_0f7a4_23 : decode cJ6_numberOfTrailingZeros_0f7a4 23 = .ok (.if_icmp .le 11, 3) := by decide +kernel
theorem dJ6_numberOfTrailingZeros_0f7a4_26 : decode cJ6_numberOfTrailingZeros_0f7a4 26 = .ok (.iinc 1 16, 3) := by decide +kernel
theorem dJ6_numberOfTrailingZeros_0f7a4_29 : decode cJ6_numberOfTrailingZeros_0f7a4 29 = .ok (.iload_n 0, 1) := by decide +kernel
theorem dJ6_numberOfTrailingZeros_0f7a4_30 : decode cJ6_numberOfTrailingZeros_0f7a4 30 = .ok (.bipush 16, 2) := by decide +kernel
theorem dJ6_numberOfTrailingZeros_0f7a4_32 : decode cJ6_numberOfTrailingZeros_0f7a4 32 = .ok (.iushr, 1) := by decide +kernel
theorem dJ6_numberOfTrailingZeros_0f7a4_33 : decode cJ6_numberOfTrailingZeros_0f7a4 33 = .ok (.istore_n 0, 1) := by decide +kernel
theorem dJ6_numberOfTrailingZeros_0f7a4_34 : decode cJ6_numberOfTrailingZeros_0f7a4 34 = .ok (.iload_n 0, 1) := by decide +kernel
theorem dJ6_numberOfTrailingZeros_0f7a4_35 : decode cJ6_numberOfTrailingZeros_0f7a4 35 = .ok (.sipush 256, 3) := by decide +kernel
theorem dJ6_numberOfTrailingZeros_0f7a4_38 : decode cJ6_numberOfTrailingZeros_0f7a4 38 = .ok (.if_icmp .le 11, 3) := by decide +kernel
theorem dJ6_numberOfTrailingZeros_0f7a4_41 : decode cJ6_numberOfTrailingZeros_0f7a4 41 = .ok (.iinc 1 8, 3) := by decide +kernel
theorem dJ6_numberOfTrailingZeros_0f7a4_44 : decode cJ6_numberOfTrailingZeros_0f7a4 44 = .ok (.iload_n 0, 1) := by decide +kernel
theorem dJ6_numberOfTrailingZeros_0f7a4_45 : decode cJ6_numberOfTrailingZeros_0f7a4 45 = .ok (.bipush 8, 2) := by decide +kernel
theorem dJ6_numberOfTrailingZeros_0f7a4_47 : decode cJ6_numberOfTrailingZeros_0f7a4 47 = .ok (.iushr, 1) := by decide +kernel
theorem dJ6_numberOfTrailingZeros_0f7a4_48 : decode cJ6_numberOfTrailingZeros_0f7a4 48 = .ok (.istore_n 0, 1) := by decide +kernel
theorem dJ6_numberOfTrailingZeros_0f7a4_49 : decode cJ6_numberOfTrailingZeros_0f7a4 49 = .ok (.iload_n 0, 1) := by decide +kernel
theorem dJ6_numberOfTrailingZeros_0f7a4_50 : decode cJ6_numberOfTrailingZeros_0f7a4 50 = .ok (.bipush 16, 2) := by decide +kernel
theorem dJ6_numberOfTrailingZeros_0f7a4_52 : decode cJ6_numberOfTrailingZeros_0f7a4 52 = .ok (.if_icmp .le 10, 3) := by decide +kernel
theorem dJ6_numberOfTrailingZeros_0f7a4_55 : decode cJ6_numberOfTrailingZeros_0f7a4 55 = .ok (.iinc 1 4, 3) := by decide +kernel
theorem dJ6_numberOfTrailingZeros_0f7a4_58 : decode cJ6_numberOfTrailingZeros_0f7a4 58 = .ok (.iload_n 0, 1) := by decide +kernel
theorem dJ6_numberOfTrailingZeros_0f7a4_59 : decode cJ6_numberOfTrailingZeros_0f7a4 59 = .ok (.iconst 4, 1) := by decide +kernel
theorem dJ6_numberOfTrailingZeros_0f7a4_60 : decode cJ6_numberOfTrailingZeros_0f7a4 60 = .ok (.iushr, 1) := by decide +kernel
theorem dJ6_numberOfTrailingZeros_0f7a4_61 : decode cJ6_numberOfTrailingZeros_0f7a4 61 = .ok (.istore_n 0, 1) := by decide +kernel
theorem dJ6_numberOfTrailingZeros_0f7a4_62 : decode cJ6_numberOfTrailingZeros_0f7a4 62 = .ok (.iload_n 0, 1) := by decide +kernel
theorem dJ6_numberOfTrailingZeros_0f7a4_63 : decode cJ6_numberOfTrailingZeros_0f7a4 63 = .ok (.iconst 4, 1) := by decide +kernel
theorem dJ6_numberOfTrailingZeros_0f7a4_64 : decode cJ6_numberOfTrailingZeros_0f7a4 64 = .ok (.if_icmp .le 10, 3) := by decide +kernel
theorem dJ6_numberOfTrailingZeros_0f7a4_67 : decode cJ6_numberOfTrailingZeros_0f7a4 67 = .ok (.iinc 1 2, 3) := by decide +kernel
theorem dJ6_numberOfTrailingZeros_0f7a4_70 : decode cJ6_numberOfTrailingZeros_0f7a4 70 = .ok (.iload_n 0, 1) := by decide +kernel
theorem dJ6_numberOfTrailingZeros_0f7a4_71 : decode cJ6_numberOfTrailingZeros_0f7a4 71 = .ok (.iconst 2, 1) := by decide +kernel
theorem dJ6_numberOfTrailingZeros_0f7a4_72 : decode cJ6_numberOfTrailingZeros_0f7a4 72 = .ok (.iushr, 1) := by decide +kernel
theorem dJ6_numberOfTrailingZeros_0f7a4_73 : decode cJ6_numberOfTrailingZeros_0f7a4 73 = .ok (.istore_n 0, 1) := by decide +kernel
theorem dJ6_numberOfTrailingZeros_0f7a4_74 : decode cJ6_numberOfTrailingZeros_0f7a4 74 = .ok (.iload_n 1, 1) := by decide +kernel
theorem dJ6_numberOfTrailingZeros_0f7a4_75 : decode cJ6_numberOfTrailingZeros_0f7a4 75 = .ok (.iload_n 0, 1) := by decide +kernel
theorem dJ6_numberOfTrailingZeros_0f7a4_76 : decode cJ6_numberOfTrailingZeros_0f7a4 76 = .ok (.iconst 1, 1) := by decide +kernel
theorem dJ6_numberOfTrailingZeros_0f7a4_77 : decode cJ6_numberOfTrailingZeros_0f7a4 77 = .ok (.iushr, 1) := by decide +kernel
theorem dJ6_numberOfTrailingZeros_0f7a4_78 : decode cJ6_numberOfTrailingZeros_0f7a4 78 = .ok (.iadd, 1) := by decide +kernel
theorem dJ6_numberOfTrailingZeros_0f7a4_79 : decode cJ6_numberOfTrailingZeros_0f7a4 79 = .ok (.ireturn, 1) := by decide +kernel
theorem dJ6_bitCount_0f7a4_0 : decode cJ6_bitCount_0f7a4 0 = .ok (.iload_n 0, 1) := by decide +kernel
theorem dJ6_bitCount_0f7a4_1 : decode cJ6_bitCount_0f7a4 1 = .ok (.iload_n 0, 1) := by decide +kernel
theorem dJ6_bitCount_0f7a4_2 : decode cJ6_bitCount_0f7a4 2 = .ok (.iconst 1, 1) := by decide +kernel
theorem dJ6_bitCount_0f7a4_3 : decode cJ6_bitCount_0f7a4 3 = .ok (.iushr, 1) := by decide +kernel
theorem dJ6_bitCount_0f7a4_4 : decode cJ6_bitCount_0f7a4 4 = .ok (.ldc_w 265, 3) := by decide +kernel
theorem dJ6_bitCount_0f7a4_7 : decode cJ6_bitCount_0f7a4 7 = .ok (.iand, 1) := by decide +kernel
theorem dJ6_bitCount_0f7a4_8 : decode cJ6_bitCount_0f7a4 8 = .ok (.isub, 1) := by decide +kernel
theorem dJ6_bitCount_0f7a4_9 : decode cJ6_bitCount_0f7a4 9 = .ok (.istore_n 0, 1) := by decide +kernel
theorem dJ6_bitCount_0f7a4_10 : decode cJ6_bitCount_0f7a4 10 = .ok (.iload_n 0, 1) := by decide +kernel
theorem dJ6_bitCount_0f7a4_11 : decode cJ6_bitCount_0f7a4 11 = .ok (.ldc_w 266, 3) := by decide +kernel
theorem dJ6_bitCount_0f7a4_14 : decode cJ6_bitCount_0f7a4 14 = .ok (.iand, 1) := by decide +kernel
theorem dJ6_bitCount_0f7a4_15 : decode cJ6_bitCount_0f7a4 15 = .ok (.iload_n 0, 1) := by decide +kernel
theorem dJ6_bitCount_0f7a4_16 : decode cJ6_bitCount_0f7a4 16 = .ok (.iconst 2, 1) := by decide +kernel
theorem dJ6_bitCount_0f7a4_17 : decode cJ6_bitCount_0f7a4 17 = .ok (.iushr, 1) := by decide +kernel
theorem dJ6_bitCount_0f7a4_18 : decode cJ6_bitCount_0f7a4 18 = .ok (.ldc_w 266, 3) := by decide +kernel
theorem dJ6_bitCount_0f7a4_21 : decode cJ6_bitCount_0f7a4 21 = .ok (.iand, 1) := by decide +kernel
theorem dJ6_bitCount_0f7a4_22 : decode cJ6_bitCount_0f7a4 22 = .ok (.iadd, 1) := by decide +kernel
theorem dJ6_bitCount_0f7a4_23 : decode cJ6_bitCount_0f7a4 23 = .ok (.istore_n 0, 1) := by decide +kernel
theorem dJ6_bitCount_0f7a4_24 : decode cJ6_bitCount_0f7a4 24 = .ok (.iload_n 0, 1) := by decide +kernel
theorem dJ6_bitCount_0f7a4_25 : decode cJ6_bitCount_0f7a4 25 = .ok (.iload_n 0, 1) := by decide +kernel
theorem dJ6_bitCount_0f7a4_26 : decode cJ6_bitCount_0f7a4 26 = .ok (.iconst 4, 1) := by decide +kernel
theorem dJ6_bitCount_0f7a4_27 : decode cJ6_bitCount_0f7a4 27 = .ok (.iushr, 1) := by decide +kernel
theorem dJ6_bitCount_0f7a4_28 : decode cJ6_bitCount_0f7a4 28 = .ok (.iadd, 1) := by decide +kernel
theorem dJ6_bitCount_0f7a4_29 : decode cJ6_bitCount_0f7a4 29 = .ok (.ldc_w 267, 3) := by decide +kernel
theorem dJ6_bitCount_0f7a4_32 : decode cJ6_bitCount_0f7a4 32 = .ok (.iand, 1) := by decide +kernel
theorem dJ6_bitCount_0f7a4_33 : decode cJ6_bitCount_0f7a4 33 = .ok (.istore_n 0, 1) := by decide +kernel
theorem dJ6_bitCount_0f7a4_34 : decode cJ6_bitCount_0f7a4 34 = .ok (.iload_n 0, 1) := by decide +kernel
theorem dJ6_bitCount_0f7a4_35 : decode cJ6_bitCount_0f7a4 35 = .ok (.iload_n 0, 1) := by decide +kernel
theorem dJ6_bitCount_0f7a4_36 : decode cJ6_bitCount_0f7a4 36 = .ok (.bipush 8, 2) := by decide +kernel
theorem dJ6_bitCount_0f7a4_38 : decode cJ6_bitCount_0f7a4 38 = .ok (.iushr, 1) := by decide +kernel
theorem dJ6_bitCount_0f7a4_39 : decode cJ6_bitCount_0f7a4 39 = .ok (.iadd, 1) := by decide +kernel
theorem dJ6_bitCount_0f7a4_40 : decode cJ6_bitCount_0f7a4 40 = .ok (.istore_n 0, 1) := by decide +kernel
theorem dJ6_bitCount_0f7a4_41 : decode cJ6_bitCount_0f7a4 41 = .ok (.iload_n 0, 1) := by decide +kernel
theorem dJ6_bitCount_0f7a4_42 : decode cJ6_bitCount_0f7a4 42 = .ok (.iload_n 0, 1) := by decide +kernel
theorem dJ6_bitCount_0f7a4_43 : decode cJ6_bitCount_0f7a4 43 = .ok (.bipush 16, 2) := by decide +kernel
theorem dJ6_bitCount_0f7a4_45 : decode cJ6_bitCount_0f7a4 45 = .ok (.iushr, 1) := by decide +kernel
theorem dJ6_bitCount_0f7a4_46 : decode cJ6_bitCount_0f7a4 46 = .ok (.iadd, 1) := by decide +kernel
theorem dJ6_bitCount_0f7a4_47 : decode cJ6_bitCount_0f7a4 47 = .ok (.istore_n 0, 1) := by decide +kernel
theorem dJ6_bitCount_0f7a4_48 : decode cJ6_bitCount_0f7a4 48 = .ok (.iload_n 0, 1) := by decide +kernel
theorem dJ6_bitCount_0f7a4_49 : decode cJ6_bitCount_0f7a4 49 = .ok (.bipush 63, 2) := by decide +kernel
theorem dJ6_bitCount_0f7a4_51 : decode cJ6_bitCount_0f7a4 51 = .ok (.iand, 1) := by decide +kernel
theorem dJ6_bitCount_0f7a4_52 : decode cJ6_bitCount_0f7a4 52 = .ok (.ireturn, 1) := by decide +kernel
theorem dJ9_max_7cf53_0 : decode cJ9_max_7cf53 0 = .ok (.iload_n 0, 1) := by decide +kernel
theorem dJ9_max_7cf53_1 : decode cJ9_max_7cf53 1 = .ok (.iload_n 1, 1) := by decide +kernel
theorem dJ9_max_7cf53_2 : decode cJ9_max_7cf53 2 = .ok (.if_icmp .lt 7, 3) := by decide +kernel
theorem dJ9_max_7cf53_5 : decode cJ9_max_7cf53 5 = .ok (.iload_n 0, 1) := by decide +kernel
theorem dJ9_max_7cf53_6 : decode cJ9_max_7cf53 6 = .ok (.goto 4, 3) := by decide +kernel
theorem dJ9_max_7cf53_9 : decode cJ9_max_7cf53 9 = .ok (.iload_n 1, 1) := by decide +kernel
theorem dJ9_max_7cf53_10 : decode cJ9_max_7cf53 10 = .ok (.ireturn, 1) := by decide +kernel
theorem dJ9_min_7cf53_0 : decode cJ9_min_7cf53 0 = .ok (.iload_n 0, 1) := by decide +kernel
theorem dJ9_min_7cf53_1 : decode cJ9_min_7cf53 1 = .ok (.iload_n 1, 1) := by decide +kernel
theorem dJ9_min_7cf53_2 : decode cJ9_min_7cf53 2 = .ok (.if_icmp .gt 7, 3) := by decide +kernel
theorem dJ9_min_7cf53_5 : decode cJ9_min_7cf53 5 = .ok (.iload_n 0, 1) := by decide +kernel
theorem dJ9_min_7cf53_6 : decode cJ9_min_7cf53 6 = .ok (.goto 4, 3) := by decide +kernel
theorem dJ9_min_7cf53_9 : decode cJ9_min_7cf53 9 = .ok (.iload_n 1, 1) := by decide +kernel
theorem dJ9_min_7cf53_10 : decode cJ9_min_7cf53 10 = .ok (.ireturn, 1) := by decide +kernel
