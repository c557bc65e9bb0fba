theorem dX0_init_0 : decode cX0_init 0 = .ok (.aload_n 0, 1) := by decide +kernel
theorem dX0_init_1 : decode cX0_init 1 = .ok (.invokespecial 3, 3) := by decide +kernel
theorem dX0_init_4 : decode cX0_init 4 = .ok (.aload_n 0, 1) := by decide +kernel
theorem dX0_init_5 : decode cX0_init 5 = .ok (.bipush 80, 2) := by decide +kernel
theorem dX0_init_7 : decode cX0_init 7 = .ok (.newarray .int, 2) := by decide +kernel
theorem dX0_init_9 : decode cX0_init 9 = .ok (.putfield 9, 3) := by decide +kernel
theorem dX0_init_12 : decode cX0_init 12 = .ok (.aload_n 0, 1) := by decide +kernel
theorem dX0_init_13 : decode cX0_init 13 = .ok (.bipush 21, 2) := by decide +kernel
theorem dX0_init_15 : decode cX0_init 15 = .ok (.newarray .int, 2) := by decide +kernel
theorem dX0_init_17 : decode cX0_init 17 = .ok (.putfield 15, 3) := by decide +kernel
theorem dX0_init_20 : decode cX0_init 20 = .ok (.aload_n 0, 1) := by decide +kernel
theorem dX0_init_21 : decode cX0_init 21 = .ok (.iconst 0, 1) := by decide +kernel
theorem dX0_init_22 : decode cX0_init 22 = .ok (.putfield 18, 3) := by decide +kernel
theorem dX0_init_25 : decode cX0_init 25 = .ok (.aload_n 0, 1) := by decide +kernel
theorem dX0_init_26 : decode cX0_init 26 = .ok (.iconst 0, 1) := by decide +kernel
theorem dX0_init_27 : decode cX0_init 27 = .ok (.putfield 22, 3) := by decide +kernel
theorem dX0_init_30 : decode cX0_init 30 = .ok (.aload_n 0, 1) := by decide +kernel
theorem dX0_init_31 : decode cX0_init 31 = .ok (.iconst 0, 1) := by decide +kernel
theorem dX0_init_32 : decode cX0_init 32 = .ok (.putfield 25, 3) := by decide +kernel
theorem dX0_init_35 : decode cX0_init 35 = .ok (.aload_n 0, 1) := by decide +kernel
theorem dX0_init_36 : decode cX0_init 36 = .ok (.iconst 0, 1) := by decide +kernel
theorem dX0_init_37 : decode cX0_init 37 = .ok (.putfield 28, 3) := by decide +kernel
theorem dX0_init_40 : decode cX0_init 40 = .ok (.return_, 1) := by decide +kernel
theorem dX0_size_0 : decode cX0_size 0 = .ok (.aload_n 0, 1) := by decide +kernel
theorem dX0_size_1 : decode cX0_size 1 = .ok (.getfield 18, 3) := by decide +kernel
theorem dX0_size_4 : decode cX0_size 4 = .ok (.ireturn, 1) := by decide +kernel
set_option maxRecDepth 20000 in
theorem ggX0_get_X6_at : GoodIn wsX0_get wsX6_at := goodIn_r _ [4] (by decide +kernel) (by decide +kernel)
set_option maxRecDepth 20000 in
theorem gX0_get_X6_at_n31 : GoodIn wsX0_get (wsX6_at) := ggX0_get_X6_at
theorem dX0_get_0 : decode cX0_get 0 = .ok (.aload_n 0, 1) := by decide +kernel
theorem dX0_get_1 : decode cX0_get 1 = .ok (.getfield 9, 3) := by decide +kernel
theorem dX0_get_4 : decode cX0_get 4 = .ok (.iload_n 1, 1) := by decide +kernel
theorem dX0_get_5 : decode cX0_get 5 = .ok (.invokestatic 31, 3) := by decide +kernel
theorem dX0_get_8 : decode cX0_get 8 = .ok (.ireturn, 1) := by decide +kernel
set_option maxRecDepth 20000 in
theorem ggX0_howManyHold_X0_get : GoodIn wsX0_howManyHold wsX0_get := goodIn_r _ [6, 7, 8, 9, 10, 13, 14, 15, 16, 17, 18] (by decide +kernel) (by decide +kernel)
set_option maxRecDepth 20000 in
theorem gX0_howManyHold_X0_get : GoodIn wsX0_howManyHold (wsV RX0 35 RX0 yX0_get wsX0_get) := goodIn_app (goodIn_of _ (by decide +kernel)) ggX0_howManyHold_X0_get
set_option maxRecDepth 20000 in
theorem ggX0_howManyHold_X6_holds : GoodIn wsX0_howManyHold wsX6_holds := goodIn_r _ [12] (by decide +kernel) (by decide +kernel)
set_option maxRecDepth 20000 in
theorem gX0_howManyHold_X6_holds_n39 : GoodIn wsX0_howManyHold (wsX6_holds) := ggX0_howManyHold_X6_holds
theorem dX0_howManyHold_0 : decode cX0_howManyHold 0 = .ok (.iconst 0, 1) := by decide +kernel
theorem dX0_howManyHold_1 : decode cX0_howManyHold 1 = .ok (.istore_n 2, 1) := by decide +kernel
theorem dX0_howManyHold_2 : decode cX0_howManyHold 2 = .ok (.iconst 0, 1) := by decide +kernel
theorem dX0_howManyHold_3 : decode cX0_howManyHold 3 = .ok (.istore_n 3, 1) := by decide +kernel
theorem dX0_howManyHold_4 : decode cX0_howManyHold 4 = .ok (.iload_n 3, 1) := by decide +kernel
theorem dX0_howManyHold_5 : decode cX0_howManyHold 5 = .ok (.aload_n 0, 1) := by decide +kernel
theorem dX0_howManyHold_6 : decode cX0_howManyHold 6 = .ok (.getfield 18, 3) := by decide +kernel
theorem dX0_howManyHold_9 : decode cX0_howManyHold 9 = .ok (.if_icmp .ge 24, 3) := by decide +kernel
theorem dX0_howManyHold_12 : decode cX0_howManyHold 12 = .ok (.aload_n 0, 1) := by decide +kernel
theorem dX0_howManyHold_13 : decode cX0_howManyHold 13 = .ok (.iload_n 3, 1) := by decide +kernel
theorem dX0_howManyHold_14 : decode cX0_howManyHold 14 = .ok (.invokevirtual 35, 3) := by decide +kernel
theorem dX0_howManyHold_17 : decode cX0_howManyHold 17 = .ok (.iload_n 1, 1) := by decide +kernel
theorem dX0_howManyHold_18 : decode cX0_howManyHold 18 = .ok (.invokestatic 39, 3) := by decide +kernel
theorem dX0_howManyHold_21 : decode cX0_howManyHold 21 = .ok (.ifCond .eq 6, 3) := by decide +kernel
theorem dX0_howManyHold_24 : decode cX0_howManyHold 24 = .ok (.iinc 2 1, 3) := by decide +kernel
theorem dX0_howManyHold_27 : decode cX0_howManyHold 27 = .ok (.iinc 3 1, 3) := by decide +kernel
theorem dX0_howManyHold_30 : decode cX0_howManyHold 30 = .ok (.goto (-26), 3) := by decide +kernel
theorem dX0_howManyHold_33 : decode cX0_howManyHold 33 = .ok (.iload_n 2, 1) := by decide +kernel
theorem dX0_howManyHold_34 : decode cX0_howManyHold 34 = .ok (.ireturn, 1) := by decide +kernel
set_option maxRecDepth 20000 in
theorem ggX0_list_X2_threads : GoodIn wsX0_list wsX2_threads := goodIn_r _ [7, 8, 41, 42, 43, 44] (by decide +kernel) (by decide +kernel)
set_option maxRecDepth 20000 in
theorem gX0_list_X2_threads : GoodIn wsX0_list (wsV RX0 43 RX2 yX2_threads wsX2_threads) := goodIn_app (goodIn_of _ (by decide +kernel)) ggX0_list_X2_threads
set_option maxRecDepth 20000 in
theorem ggX0_list_X6_put : GoodIn wsX0_list wsX6_put := goodIn_r _ [11] (by decide +kernel) (by decide +kernel)
set_option maxRecDepth 20000 in
theorem gX0_list_X6_put_n49 : GoodIn wsX0_list (wsX6_put) := ggX0_list_X6_put
set_option maxRecDepth 20000 in
theorem ggX0_list_X2_ends : GoodIn wsX0_list wsX2_ends := goodIn_r _ [15, 16, 17, 10, 18, 41, 42, 43, 44] (by decide +kernel) (by decide +kernel)
set_option maxRecDepth 20000 in
theorem gX0_list_X2_ends : GoodIn wsX0_list (wsV RX0 53 RX2 yX2_ends wsX2_ends) := goodIn_app (goodIn_of _ (by decide +kernel)) ggX0_list_X2_ends
set_option maxRecDepth 20000 in
theorem ggX0_list_X2_allKnots : GoodIn wsX0_list wsX2_allKnots := goodIn_r _ [22, 23, 24, 10, 25, 41, 42, 43, 44] (by decide +kernel) (by decide +kernel)
set_option maxRecDepth 20000 in
theorem gX0_list_X2_allKnots : GoodIn wsX0_list (wsV RX0 56 RX2 yX2_allKnots wsX2_allKnots) := goodIn_app (goodIn_of _ (by decide +kernel)) ggX0_list_X2_allKnots
set_option maxRecDepth 20000 in
theorem ggX0_list_X0_decide : GoodIn wsX0_list wsX0_decide := goodIn_r _ [29, 2, 30, 31, 32, 28, 33, 1, 34, 9, 10, 11, 19, 20, 21, 6, 22, 23, 24, 25, 12, 13, 14, 15, 16, 17, 18, 26, 27, 35, 36, 37, 38, 39, 40, 41, 42, 43, 44] (by decide +kernel) (by decide +kernel)
set_option maxRecDepth 20000 in
theorem gX0_list_X0_decide : GoodIn wsX0_list (va_wsS RX0 59 yX0_decide wsX0_decide) := goodIn_app (goodIn_of _ (by decide +kernel)) ggX0_list_X0_decide
theorem dX0_list_0 : decode cX0_list 0 = .ok (.aload_n 0, 1) := by decide +kernel
theorem dX0_list_1 : decode cX0_list 1 = .ok (.iconst 0, 1) := by decide +kernel
theorem dX0_list_2 : decode cX0_list 2 = .ok (.putfield 18, 3) := by decide +kernel
theorem dX0_list_5 : decode cX0_list 5 = .ok (.iconst 0, 1) := by decide +kernel
theorem dX0_list_6 : decode cX0_list 6 = .ok (.istore_n 2, 1) := by decide +kernel
theorem dX0_list_7 : decode cX0_list 7 = .ok (.iconst 0, 1) := by decide +kernel
theorem dX0_list_8 : decode cX0_list 8 = .ok (.istore_n 3, 1) := by decide +kernel
theorem dX0_list_9 : decode cX0_list 9 = .ok (.iload_n 3, 1) := by decide +kernel
theorem dX0_list_10 : decode cX0_list 10 = .ok (.aload_n 1, 1) := by decide +kernel
theorem dX0_list_11 : decode cX0_list 11 = .ok (.invokevirtual 43, 3) := by decide +kernel
theorem dX0_list_14 : decode cX0_list 14 = .ok (.if_icmp .ge 26, 3) := by decide +kernel
theorem dX0_list_17 : decode cX0_list 17 = .ok (.aload_n 0, 1) := by decide +kernel
theorem dX0_list_18 : decode cX0_list 18 = .ok (.getfield 15, 3) := by decide +kernel
theorem dX0_list_21 : decode cX0_list 21 = .ok (.iload_n 3, 1) := by decide +kernel
theorem dX0_list_22 : decode cX0_list 22 = .ok (.iload_n 2, 1) := by decide +kernel
theorem dX0_list_23 : decode cX0_list 23 = .ok (.invokestatic 49, 3) := by decide +kernel
theorem dX0_list_26 : decode cX0_list 26 = .ok (.iload_n 2, 1) := by decide +kernel
theorem dX0_list_27 : decode cX0_list 27 = .ok (.aload_n 1, 1) := by decide +kernel
theorem dX0_list_28 : decode cX0_list 28 = .ok (.iload_n 3, 1) := by decide +kernel
theorem dX0_list_29 : decode cX0_list 29 = .ok (.invokevirtual 53, 3) := by decide +kernel
theorem dX0_list_32 : decode cX0_list 32 = .ok (.ior, 1) := by decide +kernel
theorem dX0_list_33 : decode cX0_list 33 = .ok (.istore_n 2, 1) := by decide +kernel
theorem dX0_list_34 : decode cX0_list 34 = .ok (.iinc 3 1, 3) := by decide +kernel
theorem dX0_list_37 : decode cX0_list 37 = .ok (.goto (-28), 3) := by decide +kernel
theorem dX0_list_40 : decode cX0_list 40 = .ok (.iload_n 2, 1) := by decide +kernel
theorem dX0_list_41 : decode cX0_list 41 = .ok (.aload_n 1, 1) := by decide +kernel
theorem dX0_list_42 : decode cX0_list 42 = .ok (.invokevirtual 56, 3) := by decide +kernel
theorem dX0_list_45 : decode cX0_list 45 = .ok (.if_icmp .ne 16, 3) := by decide +kernel
theorem dX0_list_48 : decode cX0_list 48 = .ok (.aload_n 0, 1) := by decide +kernel
theorem dX0_list_49 : decode cX0_list 49 = .ok (.aload_n 1, 1) := by decide +kernel
theorem dX0_list_50 : decode cX0_list 50 = .ok (.aload_n 1, 1) := by decide +kernel
theorem dX0_list_51 : decode cX0_list 51 = .ok (.invokevirtual 43, 3) := by decide +kernel
theorem dX0_list_54 : decode cX0_list 54 = .ok (.iconst 1, 1) := by decide +kernel
theorem dX0_list_55 : decode cX0_list 55 = .ok (.isub, 1) := by decide +kernel
theorem dX0_list_56 : decode cX0_list 56 = .ok (.iconst 0, 1) := by decide +kernel
theorem dX0_list_57 : decode cX0_list 57 = .ok (.iconst 0, 1) := by decide +kernel
theorem dX0_list_58 : decode cX0_list 58 = .ok (.invokestatic 59, 3) := by decide +kernel
theorem dX0_list_61 : decode cX0_list 61 = .ok (.return_, 1) := by decide +kernel
set_option maxRecDepth 20000 in
theorem ggX0_decide_X0_addCover : GoodIn wsX0_decide wsX0_addCover := goodIn_r _ [6, 7, 8, 9, 10, 11, 29, 30, 31, 32, 33, 34] (by decide +kernel) (by decide +kernel)
set_option maxRecDepth 20000 in
theorem gX0_decide_X0_addCover : GoodIn wsX0_decide (wsV RX0 63 RX0 yX0_addCover wsX0_addCover) := goodIn_app (goodIn_of _ (by decide +kernel)) ggX0_decide_X0_addCover
set_option maxRecDepth 20000 in
theorem ggX0_decide_X2_allKnots : GoodIn wsX0_decide wsX2_allKnots := goodIn_r _ [16, 17, 18, 10, 19, 35, 36, 37, 38] (by decide +kernel) (by decide +kernel)
set_option maxRecDepth 20000 in
theorem gX0_decide_X2_allKnots : GoodIn wsX0_decide (wsV RX0 56 RX2 yX2_allKnots wsX2_allKnots) := goodIn_app (goodIn_of _ (by decide +kernel)) ggX0_decide_X2_allKnots
set_option maxRecDepth 20000 in
theorem ggX0_decide_X2_ends : GoodIn wsX0_decide wsX2_ends := goodIn_r _ [23, 24, 25, 10, 26, 35, 36, 37, 38] (by decide +kernel) (by decide +kernel)
set_option maxRecDepth 20000 in
theorem gX0_decide_X2_ends : GoodIn wsX0_decide (wsV RX0 53 RX2 yX2_ends wsX2_ends) := goodIn_app (goodIn_of _ (by decide +kernel)) ggX0_decide_X2_ends
set_option maxRecDepth 20000 in
theorem ggX0_decide_X6_at : GoodIn wsX0_decide wsX6_at := goodIn_r _ [26] (by decide +kernel) (by decide +kernel)
set_option maxRecDepth 20000 in
theorem gX0_decide_X6_at_n31 : GoodIn wsX0_decide (wsX6_at) := ggX0_decide_X6_at
set_option maxRecDepth 20000 in
theorem ggX0_decide_X0_decide : GoodIn wsX0_decide wsX0_decide := goodIn_r _ [0, 1, 2, 3, 4, 5, 6, 7, 8, 9, 10, 11, 12, 13, 14, 15, 16, 17, 18, 19, 20, 21, 22, 23, 24, 25, 26, 27, 28, 29, 30, 31, 32, 33, 34, 35, 36, 37, 38] (by decide +kernel) (by decide +kernel)
set_option maxRecDepth 20000 in
theorem gX0_decide_X0_decide : GoodIn wsX0_decide (va_wsS RX0 59 yX0_decide wsX0_decide) := goodIn_app (goodIn_of _ (by decide +kernel)) ggX0_decide_X0_decide
set_option maxRecDepth 20000 in
theorem ggX0_decide_X6_bit : GoodIn wsX0_decide wsX6_bit := goodIn_r _ [19] (by decide +kernel) (by decide +kernel)
set_option maxRecDepth 20000 in
theorem gX0_decide_X6_bit_n67 : GoodIn wsX0_decide (wsX6_bit) := ggX0_decide_X6_bit
theorem dX0_decide_0 : decode cX0_decide 0 = .ok (.iload_n 2, 1) := by decide +kernel
theorem dX0_decide_1 : decode cX0_decide 1 = .ok (.ifCond .ge 10, 3) := by decide +kernel
theorem dX0_decide_4 : decode cX0_decide 4 = .ok (.aload_n 0, 1) := by decide +kernel
theorem dX0_decide_5 : decode cX0_decide 5 = .ok (.iload 4, 2) := by decide +kernel
theorem dX0_decide_7 : decode cX0_decide 7 = .ok (.invokevirtual 63, 3) := by decide +kernel
theorem dX0_decide_10 : decode cX0_decide 10 = .ok (.return_, 1) := by decide +kernel
theorem dX0_decide_11 : decode cX0_decide 11 = .ok (.aload_n 1, 1) := by decide +kernel
theorem dX0_decide_12 : decode cX0_decide 12 = .ok (.invokevirtual 56, 3) := by decide +kernel
theorem dX0_decide_15 : decode cX0_decide 15 = .ok (.istore 5, 2) := by decide +kernel
theorem dX0_decide_17 : decode cX0_decide 17 = .ok (.aload_n 1, 1) := by decide +kernel
theorem dX0_decide_18 : decode cX0_decide 18 = .ok (.iload_n 2, 1) := by decide +kernel
theorem dX0_decide_19 : decode cX0_decide 19 = .ok (.invokevirtual 53, 3) := by decide +kernel
theorem dX0_decide_22 : decode cX0_decide 22 = .ok (.istore 6, 2) := by decide +kernel
theorem dX0_decide_24 : decode cX0_decide 24 = .ok (.aload_n 0, 1) := by decide +kernel
theorem dX0_decide_25 : decode cX0_decide 25 = .ok (.getfield 15, 3) := by decide +kernel
theorem dX0_decide_28 : decode cX0_decide 28 = .ok (.iload_n 2, 1) := by decide +kernel
theorem dX0_decide_29 : decode cX0_decide 29 = .ok (.invokestatic 31, 3) := by decide +kernel
theorem dX0_decide_32 : decode cX0_decide 32 = .ok (.istore 7, 2) := by decide +kernel
theorem dX0_decide_34 : decode cX0_decide 34 = .ok (.iload_n 3, 1) := by decide +kernel
theorem dX0_decide_35 : decode cX0_decide 35 = .ok (.iload 7, 2) := by decide +kernel
theorem dX0_decide_37 : decode cX0_decide 37 = .ok (.ior, 1) := by decide +kernel
theorem dX0_decide_38 : decode cX0_decide 38 = .ok (.iload 5, 2) := by decide +kernel
theorem dX0_decide_40 : decode cX0_decide 40 = .ok (.if_icmp .ne 14, 3) := by decide +kernel
theorem dX0_decide_43 : decode cX0_decide 43 = .ok (.aload_n 0, 1) := by decide +kernel
theorem dX0_decide_44 : decode cX0_decide 44 = .ok (.aload_n 1, 1) := by decide +kernel
theorem dX0_decide_45 : decode cX0_decide 45 = .ok (.iload_n 2, 1) := by decide +kernel
theorem dX0_decide_46 : decode cX0_decide 46 = .ok (.iconst 1, 1) := by decide +kernel
theorem dX0_decide_47 : decode cX0_decide 47 = .ok (.isub, 1) := by decide +kernel
theorem dX0_decide_48 : decode cX0_decide 48 = .ok (.iload_n 3, 1) := by decide +kernel
theorem dX0_decide_49 : decode cX0_decide 49 = .ok (.iload 4, 2) := by decide +kernel
theorem dX0_decide_51 : decode cX0_decide 51 = .ok (.invokestatic 59, 3) := by decide +kernel
theorem dX0_decide_54 : decode cX0_decide 54 = .ok (.iload_n 3, 1) := by decide +kernel
theorem dX0_decide_55 : decode cX0_decide 55 = .ok (.iload 6, 2) := by decide +kernel
theorem dX0_decide_57 : decode cX0_decide 57 = .ok (.iand, 1) := by decide +kernel
theorem dX0_decide_58 : decode cX0_decide 58 = .ok (.ifCond .ne 34, 3) := by decide +kernel
theorem dX0_decide_61 : decode cX0_decide 61 = .ok (.iload_n 3, 1) := by decide +kernel
theorem dX0_decide_62 : decode cX0_decide 62 = .ok (.iload 6, 2) := by decide +kernel
theorem dX0_decide_64 : decode cX0_decide 64 = .ok (.ior, 1) := by decide +kernel
theorem dX0_decide_65 : decode cX0_decide 65 = .ok (.iload 7, 2) := by decide +kernel
theorem dX0_decide_67 : decode cX0_decide 67 = .ok (.ior, 1) := by decide +kernel
theorem dX0_decide_68 : decode cX0_decide 68 = .ok (.iload 5, 2) := by decide +kernel
theorem dX0_decide_70 : decode cX0_decide 70 = .ok (.if_icmp .ne 22, 3) := by decide +kernel
theorem dX0_decide_73 : decode cX0_decide 73 = .ok (.aload_n 0, 1) := by decide +kernel
theorem dX0_decide_74 : decode cX0_decide 74 = .ok (.aload_n 1, 1) := by decide +kernel
theorem dX0_decide_75 : decode cX0_decide 75 = .ok (.iload_n 2, 1) := by decide +kernel
theorem dX0_decide_76 : decode cX0_decide 76 = .ok (.iconst 1, 1) := by decide +kernel
theorem dX0_decide_77 : decode cX0_decide 77 = .ok (.isub, 1) := by decide +kernel
theorem dX0_decide_78 : decode cX0_decide 78 = .ok (.iload_n 3, 1) := by decide +kernel
theorem dX0_decide_79 : decode cX0_decide 79 = .ok (.iload 6, 2) := by decide +kernel
theorem dX0_decide_81 : decode cX0_decide 81 = .ok (.ior, 1) := by decide +kernel
theorem dX0_decide_82 : decode cX0_decide 82 = .ok (.iload 4, 2) := by decide +kernel
theorem dX0_decide_84 : decode cX0_decide 84 = .ok (.iload_n 2, 1) := by decide +kernel
theorem dX0_decide_85 : decode cX0_decide 85 = .ok (.invokestatic 67, 3) := by decide +kernel
theorem dX0_decide_88 : decode cX0_decide 88 = .ok (.ior, 1) := by decide +kernel
theorem dX0_decide_89 : decode cX0_decide 89 = .ok (.invokestatic 59, 3) := by decide +kernel
theorem dX0_decide_92 : decode cX0_decide 92 = .ok (.return_, 1) := by decide +kernel
set_option maxRecDepth 20000 in
theorem ggX0_addCover_X6_put : GoodIn wsX0_addCover wsX6_put := goodIn_r _ [5] (by decide +kernel) (by decide +kernel)
set_option maxRecDepth 20000 in
theorem gX0_addCover_X6_put_n49 : GoodIn wsX0_addCover (wsX6_put) := ggX0_addCover_X6_put
theorem dX0_addCover_0 : decode cX0_addCover 0 = .ok (.aload_n 0, 1) := by decide +kernel
theorem dX0_addCover_1 : decode cX0_addCover 1 = .ok (.getfield 18, 3) := by decide +kernel
theorem dX0_addCover_4 : decode cX0_addCover 4 = .ok (.aload_n 0, 1) := by decide +kernel
theorem dX0_addCover_5 : decode cX0_addCover 5 = .ok (.getfield 9, 3) := by decide +kernel
theorem dX0_addCover_8 : decode cX0_addCover 8 = .ok (.arraylength, 1) := by decide +kernel
theorem dX0_addCover_9 : decode cX0_addCover 9 = .ok (.if_icmp .ge 25, 3) := by decide +kernel
theorem dX0_addCover_12 : decode cX0_addCover 12 = .ok (.aload_n 0, 1) := by decide +kernel
theorem dX0_addCover_13 : decode cX0_addCover 13 = .ok (.getfield 9, 3) := by decide +kernel
theorem dX0_addCover_16 : decode cX0_addCover 16 = .ok (.aload_n 0, 1) := by decide +kernel
theorem dX0_addCover_17 : decode cX0_addCover 17 = .ok (.getfield 18, 3) := by decide +kernel
theorem dX0_addCover_20 : decode cX0_addCover 20 = .ok (.iload_n 1, 1) := by decide +kernel
theorem dX0_addCover_21 : decode cX0_addCover 21 = .ok (.invokestatic 49, 3) := by decide +kernel
theorem dX0_addCover_24 : decode cX0_addCover 24 = .ok (.aload_n 0, 1) := by decide +kernel
theorem dX0_addCover_25 : decode cX0_addCover 25 = .ok (.dup, 1) := by decide +kernel
theorem dX0_addCover_26 : decode cX0_addCover 26 = .ok (.getfield 18, 3) := by decide +kernel
theorem dX0_addCover_29 : decode cX0_addCover 29 = .ok (.iconst 1, 1) := by decide +kernel
theorem dX0_addCover_30 : decode cX0_addCover 30 = .ok (.iadd, 1) := by decide +kernel
theorem dX0_addCover_31 : decode cX0_addCover 31 = .ok (.putfield 18, 3) := by decide +kernel
theorem dX0_addCover_34 : decode cX0_addCover 34 = .ok (.return_, 1) := by decide +kernel
set_option maxRecDepth 20000 in
theorem ggX0_leave_X2_allThreads : GoodIn wsX0_leave wsX2_allThreads := goodIn_r _ [12, 13, 14, 15, 16, 65, 66, 67, 68] (by decide +kernel) (by decide +kernel)
set_option maxRecDepth 20000 in
theorem gX0_leave_X2_allThreads : GoodIn wsX0_leave (wsV RX0 70 RX2 yX2_allThreads wsX2_allThreads) := goodIn_app (goodIn_of _ (by decide +kernel)) ggX0_leave_X2_allThreads
set_option maxRecDepth 20000 in
theorem ggX0_leave_X0_get : GoodIn wsX0_leave wsX0_get := goodIn_r _ [21, 22, 23, 15, 24, 59, 60, 61, 62, 63, 64] (by decide +kernel) (by decide +kernel)
set_option maxRecDepth 20000 in
theorem gX0_leave_X0_get : GoodIn wsX0_leave (wsV RX0 35 RX0 yX0_get wsX0_get) := goodIn_app (goodIn_of _ (by decide +kernel)) ggX0_leave_X0_get
set_option maxRecDepth 20000 in
theorem ggX0_leave_X2_allKnots : GoodIn wsX0_leave wsX2_allKnots := goodIn_r _ [28, 29, 14, 15, 16, 65, 66, 67, 68] (by decide +kernel) (by decide +kernel)
set_option maxRecDepth 20000 in
theorem gX0_leave_X2_allKnots : GoodIn wsX0_leave (wsV RX0 56 RX2 yX2_allKnots wsX2_allKnots) := goodIn_app (goodIn_of _ (by decide +kernel)) ggX0_leave_X2_allKnots
set_option maxRecDepth 20000 in
theorem ggX0_leave_X2_knots : GoodIn wsX0_leave wsX2_knots := goodIn_r _ [33, 29, 65, 66, 67, 68] (by decide +kernel) (by decide +kernel)
set_option maxRecDepth 20000 in
theorem gX0_leave_X2_knots : GoodIn wsX0_leave (wsV RX0 73 RX2 yX2_knots wsX2_knots) := goodIn_app (goodIn_of _ (by decide +kernel)) ggX0_leave_X2_knots
set_option maxRecDepth 20000 in
theorem ggX0_leave_X6_holds : GoodIn wsX0_leave wsX6_holds := goodIn_r _ [35] (by decide +kernel) (by decide +kernel)
set_option maxRecDepth 20000 in
theorem gX0_leave_X6_holds_n39 : GoodIn wsX0_leave (wsX6_holds) := ggX0_leave_X6_holds
set_option maxRecDepth 20000 in
theorem ggX0_leave_X6_bit : GoodIn wsX0_leave wsX6_bit := goodIn_r _ [16] (by decide +kernel) (by decide +kernel)
set_option maxRecDepth 20000 in
theorem gX0_leave_X6_bit_n67 : GoodIn wsX0_leave (wsX6_bit) := ggX0_leave_X6_bit
set_option maxRecDepth 20000 in
theorem ggX0_leave_X5_reached : GoodIn wsX0_leave wsX5_reached := goodIn_r _ [39, 40, 41, 38, 42, 43, 44, 45, 11, 46, 13, 34, 15, 35, 47, 48, 49, 50, 51, 23, 24, 65, 66, 67, 68] (by decide +kernel) (by decide +kernel)
set_option maxRecDepth 20000 in
theorem gX0_leave_X5_reached : GoodIn wsX0_leave (va_wsS RX0 76 yX5_reached wsX5_reached) := goodIn_app (goodIn_of _ (by decide +kernel)) ggX0_leave_X5_reached
set_option maxRecDepth 20000 in
theorem ggX0_leave_J6_bitCount_0f7a4 : GoodIn wsX0_leave wsJ6_bitCount_0f7a4 := goodIn_r _ [55, 56, 57, 58] (by decide +kernel) (by decide +kernel)
set_option maxRecDepth 20000 in
theorem gX0_leave_J6_bitCount_0f7a4 : GoodIn wsX0_leave (va_wsS RX0 82 yJ6_bitCount_0f7a4 wsJ6_bitCount_0f7a4) := goodIn_app (goodIn_of _ (by decide +kernel)) ggX0_leave_J6_bitCount_0f7a4
theorem dX0_leave_0 : decode cX0_leave 0 = .ok (.aload_n 1, 1) := by decide +kernel
theorem dX0_leave_1 : decode cX0_leave 1 = .ok (.invokevirtual 70, 3) := by decide +kernel
theorem dX0_leave_4 : decode cX0_leave 4 = .ok (.aload_n 0, 1) := by decide +kernel
theorem dX0_leave_5 : decode cX0_leave 5 = .ok (.iload_n 2, 1) := by decide +kernel
theorem dX0_leave_6 : decode cX0_leave 6 = .ok (.invokevirtual 35, 3) := by decide +kernel
theorem dX0_leave_9 : decode cX0_leave 9 = .ok (.iconst (-1), 1) := by decide +kernel
theorem dX0_leave_10 : decode cX0_leave 10 = .ok (.ixor, 1) := by decide +kernel
theorem dX0_leave_11 : decode cX0_leave 11 = .ok (.iand, 1) := by decide +kernel
theorem dX0_leave_12 : decode cX0_leave 12 = .ok (.istore_n 3, 1) := by decide +kernel
theorem dX0_leave_13 : decode cX0_leave 13 = .ok (.aload_n 1, 1) := by decide +kernel
theorem dX0_leave_14 : decode cX0_leave 14 = .ok (.invokevirtual 56, 3) := by decide +kernel
theorem dX0_leave_17 : decode cX0_leave 17 = .ok (.istore 4, 2) := by decide +kernel
theorem dX0_leave_19 : decode cX0_leave 19 = .ok (.aload_n 0, 1) := by decide +kernel
theorem dX0_leave_20 : decode cX0_leave 20 = .ok (.iconst 0, 1) := by decide +kernel
theorem dX0_leave_21 : decode cX0_leave 21 = .ok (.putfield 22, 3) := by decide +kernel
theorem dX0_leave_24 : decode cX0_leave 24 = .ok (.aload_n 0, 1) := by decide +kernel
theorem dX0_leave_25 : decode cX0_leave 25 = .ok (.iconst 0, 1) := by decide +kernel
theorem dX0_leave_26 : decode cX0_leave 26 = .ok (.putfield 25, 3) := by decide +kernel
theorem dX0_leave_29 : decode cX0_leave 29 = .ok (.aload_n 0, 1) := by decide +kernel
theorem dX0_leave_30 : decode cX0_leave 30 = .ok (.iconst 0, 1) := by decide +kernel
theorem dX0_leave_31 : decode cX0_leave 31 = .ok (.putfield 28, 3) := by decide +kernel
theorem dX0_leave_34 : decode cX0_leave 34 = .ok (.iconst 0, 1) := by decide +kernel
theorem dX0_leave_35 : decode cX0_leave 35 = .ok (.istore 5, 2) := by decide +kernel
theorem dX0_leave_37 : decode cX0_leave 37 = .ok (.iload 5, 2) := by decide +kernel
theorem dX0_leave_39 : decode cX0_leave 39 = .ok (.aload_n 1, 1) := by decide +kernel
theorem dX0_leave_40 : decode cX0_leave 40 = .ok (.invokevirtual 73, 3) := by decide +kernel
theorem dX0_leave_43 : decode cX0_leave 43 = .ok (.if_icmp .ge 83, 3) := by decide +kernel
theorem dX0_leave_46 : decode cX0_leave 46 = .ok (.iload 4, 2) := by decide +kernel
theorem dX0_leave_48 : decode cX0_leave 48 = .ok (.iload 5, 2) := by decide +kernel
theorem dX0_leave_50 : decode cX0_leave 50 = .ok (.invokestatic 39, 3) := by decide +kernel
theorem dX0_leave_53 : decode cX0_leave 53 = .ok (.ifCond .eq 67, 3) := by decide +kernel
theorem dX0_leave_56 : decode cX0_leave 56 = .ok (.aload_n 1, 1) := by decide +kernel
theorem dX0_leave_57 : decode cX0_leave 57 = .ok (.iload 5, 2) := by decide +kernel
theorem dX0_leave_59 : decode cX0_leave 59 = .ok (.invokestatic 67, 3) := by decide +kernel
theorem dX0_leave_62 : decode cX0_leave 62 = .ok (.iload_n 3, 1) := by decide +kernel
theorem dX0_leave_63 : decode cX0_leave 63 = .ok (.invokestatic 76, 3) := by decide +kernel
theorem dX0_leave_66 : decode cX0_leave 66 = .ok (.istore 6, 2) := by decide +kernel
theorem dX0_leave_68 : decode cX0_leave 68 = .ok (.iload 6, 2) := by decide +kernel
theorem dX0_leave_70 : decode cX0_leave 70 = .ok (.invokestatic 82, 3) := by decide +kernel
theorem dX0_leave_73 : decode cX0_leave 73 = .ok (.istore 7, 2) := by decide +kernel
theorem dX0_leave_75 : decode cX0_leave 75 = .ok (.iload 4, 2) := by decide +kernel
theorem dX0_leave_77 : decode cX0_leave 77 = .ok (.iload 6, 2) := by decide +kernel
theorem dX0_leave_79 : decode cX0_leave 79 = .ok (.iconst (-1), 1) := by decide +kernel
theorem dX0_leave_80 : decode cX0_leave 80 = .ok (.ixor, 1) := by decide +kernel
theorem dX0_leave_81 : decode cX0_leave 81 = .ok (.iand, 1) := by decide +kernel
theorem dX0_leave_82 : decode cX0_leave 82 = .ok (.istore 4, 2) := by decide +kernel
theorem dX0_leave_84 : decode cX0_leave 84 = .ok (.aload_n 0, 1) := by decide +kernel
theorem dX0_leave_85 : decode cX0_leave 85 = .ok (.dup, 1) := by decide +kernel
theorem dX0_leave_86 : decode cX0_leave 86 = .ok (.getfield 22, 3) := by decide +kernel
theorem dX0_leave_89 : decode cX0_leave 89 = .ok (.iconst 1, 1) := by decide +kernel
theorem dX0_leave_90 : decode cX0_leave 90 = .ok (.iadd, 1) := by decide +kernel
theorem dX0_leave_91 : decode cX0_leave 91 = .ok (.putfield 22, 3) := by decide +kernel
theorem dX0_leave_94 : decode cX0_leave 94 = .ok (.aload_n 0, 1) := by decide +kernel
theorem dX0_leave_95 : decode cX0_leave 95 = .ok (.dup, 1) := by decide +kernel
theorem dX0_leave_96 : decode cX0_leave 96 = .ok (.getfield 25, 3) := by decide +kernel
theorem dX0_leave_99 : decode cX0_leave 99 = .ok (.iload 7, 2) := by decide +kernel
theorem dX0_leave_101 : decode cX0_leave 101 = .ok (.iconst 1, 1) := by decide +kernel
theorem dX0_leave_102 : decode cX0_leave 102 = .ok (.iand, 1) := by decide +kernel
theorem dX0_leave_103 : decode cX0_leave 103 = .ok (.iadd, 1) := by decide +kernel
theorem dX0_leave_104 : decode cX0_leave 104 = .ok (.putfield 25, 3) := by decide +kernel
theorem dX0_leave_107 : decode cX0_leave 107 = .ok (.aload_n 0, 1) := by decide +kernel
theorem dX0_leave_108 : decode cX0_leave 108 = .ok (.aload_n 0, 1) := by decide +kernel
theorem dX0_leave_109 : decode cX0_leave 109 = .ok (.getfield 28, 3) := by decide +kernel
theorem dX0_leave_112 : decode cX0_leave 112 = .ok (.iload 7, 2) := by decide +kernel
theorem dX0_leave_114 : decode cX0_leave 114 = .ok (.invokestatic 87, 3) := by decide +kernel
theorem dX0_leave_117 : decode cX0_leave 117 = .ok (.putfield 28, 3) := by decide +kernel
theorem dX0_leave_120 : decode cX0_leave 120 = .ok (.iinc 5 1, 3) := by decide +kernel
theorem dX0_leave_123 : decode cX0_leave 123 = .ok (.goto (-86), 3) := by decide +kernel
theorem dX0_leave_126 : decode cX0_leave 126 = .ok (.return_, 1) := by decide +kernel
theorem dX0_circlesLeft_0 : decode cX0_circlesLeft 0 = .ok (.aload_n 0, 1) := by decide +kernel
theorem dX0_circlesLeft_1 : decode cX0_circlesLeft 1 = .ok (.getfield 22, 3) := by decide +kernel
theorem dX0_circlesLeft_4 : decode cX0_circlesLeft 4 = .ok (.ireturn, 1) := by decide +kernel
theorem dX0_oddCirclesLeft_0 : decode cX0_oddCirclesLeft 0 = .ok (.aload_n 0, 1) := by decide +kernel
theorem dX0_oddCirclesLeft_1 : decode cX0_oddCirclesLeft 1 = .ok (.getfield 25, 3) := by decide +kernel
theorem dX0_oddCirclesLeft_4 : decode cX0_oddCirclesLeft 4 = .ok (.ireturn, 1) := by decide +kernel
theorem dX0_longestLeft_0 : decode cX0_longestLeft 0 = .ok (.aload_n 0, 1) := by decide +kernel
theorem dX0_longestLeft_1 : decode cX0_longestLeft 1 = .ok (.getfield 28, 3) := by decide +kernel
theorem dX0_longestLeft_4 : decode cX0_longestLeft 4 = .ok (.ireturn, 1) := by decide +kernel
set_option maxRecDepth 20000 in
theorem ggX1_init_X2_init : GoodIn wsX1_init wsX2_init := goodIn_r _ [11, 12, 2, 3, 13, 14, 15, 16, 17, 20, 21, 22, 23] (by decide +kernel) (by decide +kernel)
set_option maxRecDepth 20000 in
theorem gX1_init_X2_init : GoodIn wsX1_init (wsX2_init) := ggX1_init_X2_init
theorem dX1_init_0 : decode cX1_init 0 = .ok (.aload_n 0, 1) := by decide +kernel
theorem dX1_init_1 : decode cX1_init 1 = .ok (.invokespecial 3, 3) := by decide +kernel
theorem dX1_init_4 : decode cX1_init 4 = .ok (.aload_n 0, 1) := by decide +kernel
theorem dX1_init_5 : decode cX1_init 5 = .ok (.iconst 4, 1) := by decide +kernel
theorem dX1_init_6 : decode cX1_init 6 = .ok (.anewarray 9, 3) := by decide +kernel
theorem dX1_init_9 : decode cX1_init 9 = .ok (.putfield 11, 3) := by decide +kernel
theorem dX1_init_12 : decode cX1_init 12 = .ok (.iconst 0, 1) := by decide +kernel
theorem dX1_init_13 : decode cX1_init 13 = .ok (.istore_n 1, 1) := by decide +kernel
theorem dX1_init_14 : decode cX1_init 14 = .ok (.iload_n 1, 1) := by decide +kernel
theorem dX1_init_15 : decode cX1_init 15 = .ok (.aload_n 0, 1) := by decide +kernel
theorem dX1_init_16 : decode cX1_init 16 = .ok (.getfield 11, 3) := by decide +kernel
theorem dX1_init_19 : decode cX1_init 19 = .ok (.arraylength, 1) := by decide +kernel
theorem dX1_init_20 : decode cX1_init 20 = .ok (.if_icmp .ge 22, 3) := by decide +kernel
theorem dX1_init_23 : decode cX1_init 23 = .ok (.aload_n 0, 1) := by decide +kernel
theorem dX1_init_24 : decode cX1_init 24 = .ok (.getfield 11, 3) := by decide +kernel
theorem dX1_init_27 : decode cX1_init 27 = .ok (.iload_n 1, 1) := by decide +kernel
theorem dX1_init_28 : decode cX1_init 28 = .ok (.new 9, 3) := by decide +kernel
theorem dX1_init_31 : decode cX1_init 31 = .ok (.dup, 1) := by decide +kernel
theorem dX1_init_32 : decode cX1_init 32 = .ok (.invokespecial 17, 3) := by decide +kernel
theorem dX1_init_35 : decode cX1_init 35 = .ok (.aastore, 1) := by decide +kernel
theorem dX1_init_36 : decode cX1_init 36 = .ok (.iinc 1 1, 3) := by decide +kernel
theorem dX1_init_39 : decode cX1_init 39 = .ok (.goto (-25), 3) := by decide +kernel
theorem dX1_init_42 : decode cX1_init 42 = .ok (.aload_n 0, 1) := by decide +kernel
theorem dX1_init_43 : decode cX1_init 43 = .ok (.iconst 0, 1) := by decide +kernel
theorem dX1_init_44 : decode cX1_init 44 = .ok (.putfield 18, 3) := by decide +kernel
theorem dX1_init_47 : decode cX1_init 47 = .ok (.return_, 1) := by decide +kernel
theorem dX1_size_0 : decode cX1_size 0 = .ok (.aload_n 0, 1) := by decide +kernel
theorem dX1_size_1 : decode cX1_size 1 = .ok (.getfield 18, 3) := by decide +kernel
theorem dX1_size_4 : decode cX1_size 4 = .ok (.ireturn, 1) := by decide +kernel
set_option maxRecDepth 20000 in
theorem ggX1_push_X1_dropOldest : GoodIn wsX1_push wsX1_dropOldest := goodIn_r _ [7, 2, 1, 8, 9, 10, 11, 12, 13, 14, 15, 16, 17, 18, 19, 20, 21, 22, 23, 24, 25, 26, 27, 28, 29, 30, 31, 32, 33, 34, 35] (by decide +kernel) (by decide +kernel)
set_option maxRecDepth 20000 in
theorem gX1_push_X1_dropOldest : GoodIn wsX1_push (wsV RX1 22 RX1 yX1_dropOldest wsX1_dropOldest) := goodIn_app (goodIn_of _ (by decide +kernel)) ggX1_push_X1_dropOldest
set_option maxRecDepth 20000 in
theorem ggX1_push_X2_copyFrom : GoodIn wsX1_push wsX2_copyFrom := goodIn_r _ [12, 13, 14, 15, 16, 17, 18, 19, 11, 20, 21, 22, 23, 24, 25, 26, 27, 28, 29, 32, 33, 34, 35] (by decide +kernel) (by decide +kernel)
set_option maxRecDepth 20000 in
theorem gX1_push_X2_copyFrom : GoodIn wsX1_push (wsV RX1 25 RX2 yX2_copyFrom wsX2_copyFrom) := goodIn_app (goodIn_of _ (by decide +kernel)) ggX1_push_X2_copyFrom
theorem dX1_push_0 : decode cX1_push 0 = .ok (.aload_n 0, 1) := by decide +kernel
theorem dX1_push_1 : decode cX1_push 1 = .ok (.getfield 18, 3) := by decide +kernel
theorem dX1_push_4 : decode cX1_push 4 = .ok (.aload_n 0, 1) := by decide +kernel
theorem dX1_push_5 : decode cX1_push 5 = .ok (.getfield 11, 3) := by decide +kernel
theorem dX1_push_8 : decode cX1_push 8 = .ok (.arraylength, 1) := by decide +kernel
theorem dX1_push_9 : decode cX1_push 9 = .ok (.if_icmp .lt 7, 3) := by decide +kernel
theorem dX1_push_12 : decode cX1_push 12 = .ok (.aload_n 0, 1) := by decide +kernel
theorem dX1_push_13 : decode cX1_push 13 = .ok (.invokevirtual 22, 3) := by decide +kernel
theorem dX1_push_16 : decode cX1_push 16 = .ok (.aload_n 0, 1) := by decide +kernel
theorem dX1_push_17 : decode cX1_push 17 = .ok (.getfield 18, 3) := by decide +kernel
theorem dX1_push_20 : decode cX1_push 20 = .ok (.ifCond .lt 15, 3) := by decide +kernel
theorem dX1_push_23 : decode cX1_push 23 = .ok (.aload_n 0, 1) := by decide +kernel
theorem dX1_push_24 : decode cX1_push 24 = .ok (.getfield 18, 3) := by decide +kernel
theorem dX1_push_27 : decode cX1_push 27 = .ok (.aload_n 0, 1) := by decide +kernel
theorem dX1_push_28 : decode cX1_push 28 = .ok (.getfield 11, 3) := by decide +kernel
theorem dX1_push_31 : decode cX1_push 31 = .ok (.arraylength, 1) := by decide +kernel
theorem dX1_push_32 : decode cX1_push 32 = .ok (.if_icmp .lt 4, 3) := by decide +kernel
theorem dX1_push_35 : decode cX1_push 35 = .ok (.return_, 1) := by decide +kernel
theorem dX1_push_36 : decode cX1_push 36 = .ok (.aload_n 0, 1) := by decide +kernel
theorem dX1_push_37 : decode cX1_push 37 = .ok (.getfield 11, 3) := by decide +kernel
theorem dX1_push_40 : decode cX1_push 40 = .ok (.aload_n 0, 1) := by decide +kernel
theorem dX1_push_41 : decode cX1_push 41 = .ok (.getfield 18, 3) := by decide +kernel
theorem dX1_push_44 : decode cX1_push 44 = .ok (.aaload, 1) := by decide +kernel
theorem dX1_push_45 : decode cX1_push 45 = .ok (.astore_n 2, 1) := by decide +kernel
theorem dX1_push_46 : decode cX1_push 46 = .ok (.aload_n 2, 1) := by decide +kernel
theorem dX1_push_47 : decode cX1_push 47 = .ok (.ifnull 18, 3) := by decide +kernel
theorem dX1_push_50 : decode cX1_push 50 = .ok (.aload_n 2, 1) := by decide +kernel
theorem dX1_push_51 : decode cX1_push 51 = .ok (.aload_n 1, 1) := by decide +kernel
theorem dX1_push_52 : decode cX1_push 52 = .ok (.invokevirtual 25, 3) := by decide +kernel
theorem dX1_push_55 : decode cX1_push 55 = .ok (.aload_n 0, 1) := by decide +kernel
theorem dX1_push_56 : decode cX1_push 56 = .ok (.dup, 1) := by decide +kernel
theorem dX1_push_57 : decode cX1_push 57 = .ok (.getfield 18, 3) := by decide +kernel
theorem dX1_push_60 : decode cX1_push 60 = .ok (.iconst 1, 1) := by decide +kernel
theorem dX1_push_61 : decode cX1_push 61 = .ok (.iadd, 1) := by decide +kernel
theorem dX1_push_62 : decode cX1_push 62 = .ok (.putfield 18, 3) := by decide +kernel
theorem dX1_push_65 : decode cX1_push 65 = .ok (.return_, 1) := by decide +kernel
set_option maxRecDepth 20000 in
theorem ggX1_dropOldest_X2_copyFrom : GoodIn wsX1_dropOldest wsX2_copyFrom := goodIn_r _ [7, 8, 9, 10, 11, 12, 13, 14, 6, 15, 16, 17, 18, 19, 20, 21, 22, 23, 24, 27, 28, 29, 30] (by decide +kernel) (by decide +kernel)
set_option maxRecDepth 20000 in
theorem gX1_dropOldest_X2_copyFrom : GoodIn wsX1_dropOldest (wsV RX1 25 RX2 yX2_copyFrom wsX2_copyFrom) := goodIn_app (goodIn_of _ (by decide +kernel)) ggX1_dropOldest_X2_copyFrom
theorem dX1_dropOldest_0 : decode cX1_dropOldest 0 = .ok (.iconst 1, 1) := by decide +kernel
theorem dX1_dropOldest_1 : decode cX1_dropOldest 1 = .ok (.istore_n 1, 1) := by decide +kernel
theorem dX1_dropOldest_2 : decode cX1_dropOldest 2 = .ok (.iload_n 1, 1) := by decide +kernel
theorem dX1_dropOldest_3 : decode cX1_dropOldest 3 = .ok (.aload_n 0, 1) := by decide +kernel
theorem dX1_dropOldest_4 : decode cX1_dropOldest 4 = .ok (.getfield 11, 3) := by decide +kernel
theorem dX1_dropOldest_7 : decode cX1_dropOldest 7 = .ok (.arraylength, 1) := by decide +kernel
theorem dX1_dropOldest_8 : decode cX1_dropOldest 8 = .ok (.if_icmp .ge 38, 3) := by decide +kernel
theorem dX1_dropOldest_11 : decode cX1_dropOldest 11 = .ok (.aload_n 0, 1) := by decide +kernel
theorem dX1_dropOldest_12 : decode cX1_dropOldest 12 = .ok (.getfield 11, 3) := by decide +kernel
theorem dX1_dropOldest_15 : decode cX1_dropOldest 15 = .ok (.iload_n 1, 1) := by decide +kernel
theorem dX1_dropOldest_16 : decode cX1_dropOldest 16 = .ok (.iconst 1, 1) := by decide +kernel
theorem dX1_dropOldest_17 : decode cX1_dropOldest 17 = .ok (.isub, 1) := by decide +kernel
theorem dX1_dropOldest_18 : decode cX1_dropOldest 18 = .ok (.aaload, 1) := by decide +kernel
theorem dX1_dropOldest_19 : decode cX1_dropOldest 19 = .ok (.astore_n 2, 1) := by decide +kernel
theorem dX1_dropOldest_20 : decode cX1_dropOldest 20 = .ok (.aload_n 0, 1) := by decide +kernel
theorem dX1_dropOldest_21 : decode cX1_dropOldest 21 = .ok (.getfield 11, 3) := by decide +kernel
theorem dX1_dropOldest_24 : decode cX1_dropOldest 24 = .ok (.iload_n 1, 1) := by decide +kernel
theorem dX1_dropOldest_25 : decode cX1_dropOldest 25 = .ok (.aaload, 1) := by decide +kernel
theorem dX1_dropOldest_26 : decode cX1_dropOldest 26 = .ok (.astore_n 3, 1) := by decide +kernel
theorem dX1_dropOldest_27 : decode cX1_dropOldest 27 = .ok (.aload_n 2, 1) := by decide +kernel
theorem dX1_dropOldest_28 : decode cX1_dropOldest 28 = .ok (.ifnull 12, 3) := by decide +kernel
theorem dX1_dropOldest_31 : decode cX1_dropOldest 31 = .ok (.aload_n 3, 1) := by decide +kernel
theorem dX1_dropOldest_32 : decode cX1_dropOldest 32 = .ok (.ifnull 8, 3) := by decide +kernel
theorem dX1_dropOldest_35 : decode cX1_dropOldest 35 = .ok (.aload_n 2, 1) := by decide +kernel
theorem dX1_dropOldest_36 : decode cX1_dropOldest 36 = .ok (.aload_n 3, 1) := by decide +kernel
theorem dX1_dropOldest_37 : decode cX1_dropOldest 37 = .ok (.invokevirtual 25, 3) := by decide +kernel
theorem dX1_dropOldest_40 : decode cX1_dropOldest 40 = .ok (.iinc 1 1, 3) := by decide +kernel
theorem dX1_dropOldest_43 : decode cX1_dropOldest 43 = .ok (.goto (-41), 3) := by decide +kernel
theorem dX1_dropOldest_46 : decode cX1_dropOldest 46 = .ok (.aload_n 0, 1) := by decide +kernel
theorem dX1_dropOldest_47 : decode cX1_dropOldest 47 = .ok (.dup, 1) := by decide +kernel
theorem dX1_dropOldest_48 : decode cX1_dropOldest 48 = .ok (.getfield 18, 3) := by decide +kernel
theorem dX1_dropOldest_51 : decode cX1_dropOldest 51 = .ok (.iconst 1, 1) := by decide +kernel
theorem dX1_dropOldest_52 : decode cX1_dropOldest 52 = .ok (.isub, 1) := by decide +kernel
theorem dX1_dropOldest_53 : decode cX1_dropOldest 53 = .ok (.putfield 18, 3) := by decide +kernel
theorem dX1_dropOldest_56 : decode cX1_dropOldest 56 = .ok (.return_, 1) := by decide +kernel
set_option maxRecDepth 20000 in
theorem ggX1_pop_X2_copyFrom : GoodIn wsX1_pop wsX2_copyFrom := goodIn_r _ [7, 8, 9, 10, 11, 12, 13, 14, 6, 15, 16, 17, 18, 19, 20, 21, 22, 23, 24, 27, 28, 29, 30] (by decide +kernel) (by decide +kernel)
set_option maxRecDepth 20000 in
theorem gX1_pop_X2_copyFrom : GoodIn wsX1_pop (wsV RX1 25 RX2 yX2_copyFrom wsX2_copyFrom) := goodIn_app (goodIn_of _ (by decide +kernel)) ggX1_pop_X2_copyFrom
theorem dX1_pop_0 : decode cX1_pop 0 = .ok (.aload_n 0, 1) := by decide +kernel
theorem dX1_pop_1 : decode cX1_pop 1 = .ok (.getfield 18, 3) := by decide +kernel
theorem dX1_pop_4 : decode cX1_pop 4 = .ok (.iconst 1, 1) := by decide +kernel
theorem dX1_pop_5 : decode cX1_pop 5 = .ok (.isub, 1) := by decide +kernel
theorem dX1_pop_6 : decode cX1_pop 6 = .ok (.istore_n 2, 1) := by decide +kernel
theorem dX1_pop_7 : decode cX1_pop 7 = .ok (.iload_n 2, 1) := by decide +kernel
theorem dX1_pop_8 : decode cX1_pop 8 = .ok (.ifCond .lt 12, 3) := by decide +kernel
theorem dX1_pop_11 : decode cX1_pop 11 = .ok (.iload_n 2, 1) := by decide +kernel
theorem dX1_pop_12 : decode cX1_pop 12 = .ok (.aload_n 0, 1) := by decide +kernel
theorem dX1_pop_13 : decode cX1_pop 13 = .ok (.getfield 11, 3) := by decide +kernel
theorem dX1_pop_16 : decode cX1_pop 16 = .ok (.arraylength, 1) := by decide +kernel
theorem dX1_pop_17 : decode cX1_pop 17 = .ok (.if_icmp .lt 5, 3) := by decide +kernel
theorem dX1_pop_20 : decode cX1_pop 20 = .ok (.iconst 0, 1) := by decide +kernel
theorem dX1_pop_21 : decode cX1_pop 21 = .ok (.ireturn, 1) := by decide +kernel
theorem dX1_pop_22 : decode cX1_pop 22 = .ok (.aload_n 0, 1) := by decide +kernel
theorem dX1_pop_23 : decode cX1_pop 23 = .ok (.getfield 11, 3) := by decide +kernel
theorem dX1_pop_26 : decode cX1_pop 26 = .ok (.iload_n 2, 1) := by decide +kernel
theorem dX1_pop_27 : decode cX1_pop 27 = .ok (.aaload, 1) := by decide +kernel
theorem dX1_pop_28 : decode cX1_pop 28 = .ok (.astore_n 3, 1) := by decide +kernel
theorem dX1_pop_29 : decode cX1_pop 29 = .ok (.aload_n 3, 1) := by decide +kernel
theorem dX1_pop_30 : decode cX1_pop 30 = .ok (.ifnonnull 5, 3) := by decide +kernel
theorem dX1_pop_33 : decode cX1_pop 33 = .ok (.iconst 0, 1) := by decide +kernel
theorem dX1_pop_34 : decode cX1_pop 34 = .ok (.ireturn, 1) := by decide +kernel
theorem dX1_pop_35 : decode cX1_pop 35 = .ok (.aload_n 1, 1) := by decide +kernel
theorem dX1_pop_36 : decode cX1_pop 36 = .ok (.aload_n 3, 1) := by decide +kernel
theorem dX1_pop_37 : decode cX1_pop 37 = .ok (.invokevirtual 25, 3) := by decide +kernel
theorem dX1_pop_40 : decode cX1_pop 40 = .ok (.aload_n 0, 1) := by decide +kernel
theorem dX1_pop_41 : decode cX1_pop 41 = .ok (.iload_n 2, 1) := by decide +kernel
theorem dX1_pop_42 : decode cX1_pop 42 = .ok (.putfield 18, 3) := by decide +kernel
theorem dX1_pop_45 : decode cX1_pop 45 = .ok (.iconst 1, 1) := by decide +kernel
theorem dX1_pop_46 : decode cX1_pop 46 = .ok (.ireturn, 1) := by decide +kernel
theorem dX2_init_0 : decode cX2_init 0 = .ok (.aload_n 0, 1) := by decide +kernel
theorem dX2_init_1 : decode cX2_init 1 = .ok (.invokespecial 3, 3) := by decide +kernel
theorem dX2_init_4 : decode cX2_init 4 = .ok (.aload_n 0, 1) := by decide +kernel
theorem dX2_init_5 : decode cX2_init 5 = .ok (.iconst 0, 1) := by decide +kernel
theorem dX2_init_6 : decode cX2_init 6 = .ok (.putfield 9, 3) := by decide +kernel
theorem dX2_init_9 : decode cX2_init 9 = .ok (.aload_n 0, 1) := by decide +kernel
theorem dX2_init_10 : decode cX2_init 10 = .ok (.iconst 0, 1) := by decide +kernel
theorem dX2_init_11 : decode cX2_init 11 = .ok (.putfield 15, 3) := by decide +kernel
theorem dX2_init_14 : decode cX2_init 14 = .ok (.aload_n 0, 1) := by decide +kernel
theorem dX2_init_15 : decode cX2_init 15 = .ok (.bipush 21, 2) := by decide +kernel
theorem dX2_init_17 : decode cX2_init 17 = .ok (.newarray .int, 2) := by decide +kernel
theorem dX2_init_19 : decode cX2_init 19 = .ok (.putfield 18, 3) := by decide +kernel
theorem dX2_init_22 : decode cX2_init 22 = .ok (.aload_n 0, 1) := by decide +kernel
theorem dX2_init_23 : decode cX2_init 23 = .ok (.bipush 21, 2) := by decide +kernel
theorem dX2_init_25 : decode cX2_init 25 = .ok (.newarray .int, 2) := by decide +kernel
theorem dX2_init_27 : decode cX2_init 27 = .ok (.putfield 22, 3) := by decide +kernel
theorem dX2_init_30 : decode cX2_init 30 = .ok (.return_, 1) := by decide +kernel
theorem dX2_knots_0 : decode cX2_knots 0 = .ok (.aload_n 0, 1) := by decide +kernel
theorem dX2_knots_1 : decode cX2_knots 1 = .ok (.getfield 9, 3) := by decide +kernel
theorem dX2_knots_4 : decode cX2_knots 4 = .ok (.ireturn, 1) := by decide +kernel
theorem dX2_threads_0 : decode cX2_threads 0 = .ok (.aload_n 0, 1) := by decide +kernel
theorem dX2_threads_1 : decode cX2_threads 1 = .ok (.getfield 15, 3) := by decide +kernel
theorem dX2_threads_4 : decode cX2_threads 4 = .ok (.ireturn, 1) := by decide +kernel
theorem dX2_hasKnot_0 : decode cX2_hasKnot 0 = .ok (.iload_n 1, 1) := by decide +kernel
theorem dX2_hasKnot_1 : decode cX2_hasKnot 1 = .ok (.ifCond .lt 15, 3) := by decide +kernel
theorem dX2_hasKnot_4 : decode cX2_hasKnot 4 = .ok (.iload_n 1, 1) := by decide +kernel
theorem dX2_hasKnot_5 : decode cX2_hasKnot 5 = .ok (.aload_n 0, 1) := by decide +kernel
theorem dX2_hasKnot_6 : decode cX2_hasKnot 6 = .ok (.getfield 9, 3) := by decide +kernel
theorem dX2_hasKnot_9 : decode cX2_hasKnot 9 = .ok (.if_icmp .ge 7, 3) := by decide +kernel
theorem dX2_hasKnot_12 : decode cX2_hasKnot 12 = .ok (.iconst 1, 1) := by decide +kernel
theorem dX2_hasKnot_13 : decode cX2_hasKnot 13 = .ok (.goto 4, 3) := by decide +kernel
theorem dX2_hasKnot_16 : decode cX2_hasKnot 16 = .ok (.iconst 0, 1) := by decide +kernel
theorem dX2_hasKnot_17 : decode cX2_hasKnot 17 = .ok (.ireturn, 1) := by decide +kernel
theorem dX2_hasThread_0 : decode cX2_hasThread 0 = .ok (.iload_n 1, 1) := by decide +kernel
theorem dX2_hasThread_1 : decode cX2_hasThread 1 = .ok (.ifCond .lt 15, 3) := by decide +kernel
theorem dX2_hasThread_4 : decode cX2_hasThread 4 = .ok (.iload_n 1, 1) := by decide +kernel
theorem dX2_hasThread_5 : decode cX2_hasThread 5 = .ok (.aload_n 0, 1) := by decide +kernel
theorem dX2_hasThread_6 : decode cX2_hasThread 6 = .ok (.getfield 15, 3) := by decide +kernel
theorem dX2_hasThread_9 : decode cX2_hasThread 9 = .ok (.if_icmp .ge 7, 3) := by decide +kernel
theorem dX2_hasThread_12 : decode cX2_hasThread 12 = .ok (.iconst 1, 1) := by decide +kernel
theorem dX2_hasThread_13 : decode cX2_hasThread 13 = .ok (.goto 4, 3) := by decide +kernel
theorem dX2_hasThread_16 : decode cX2_hasThread 16 = .ok (.iconst 0, 1) := by decide +kernel
theorem dX2_hasThread_17 : decode cX2_hasThread 17 = .ok (.ireturn, 1) := by decide +kernel
set_option maxRecDepth 20000 in
theorem ggX2_allKnots_X6_bit : GoodIn wsX2_allKnots wsX6_bit := goodIn_r _ [4] (by decide +kernel) (by decide +kernel)
set_option maxRecDepth 20000 in
theorem gX2_allKnots_X6_bit_n25 : GoodIn wsX2_allKnots (wsX6_bit) := ggX2_allKnots_X6_bit
theorem dX2_allKnots_0 : decode cX2_allKnots 0 = .ok (.aload_n 0, 1) := by decide +kernel
theorem dX2_allKnots_1 : decode cX2_allKnots 1 = .ok (.getfield 9, 3) := by decide +kernel
theorem dX2_allKnots_4 : decode cX2_allKnots 4 = .ok (.invokestatic 25, 3) := by decide +kernel
theorem dX2_allKnots_7 : decode cX2_allKnots 7 = .ok (.iconst 1, 1) := by decide +kernel
theorem dX2_allKnots_8 : decode cX2_allKnots 8 = .ok (.isub, 1) := by decide +kernel
theorem dX2_allKnots_9 : decode cX2_allKnots 9 = .ok (.ireturn, 1) := by decide +kernel
set_option maxRecDepth 20000 in
theorem ggX2_allThreads_X6_bit : GoodIn wsX2_allThreads wsX6_bit := goodIn_r _ [4] (by decide +kernel) (by decide +kernel)
set_option maxRecDepth 20000 in
theorem gX2_allThreads_X6_bit_n25 : GoodIn wsX2_allThreads (wsX6_bit) := ggX2_allThreads_X6_bit
theorem dX2_allThreads_0 : decode cX2_allThreads 0 = .ok (.aload_n 0, 1) := by decide +kernel
theorem dX2_allThreads_1 : decode cX2_allThreads 1 = .ok (.getfield 15, 3) := by decide +kernel
theorem dX2_allThreads_4 : decode cX2_allThreads 4 = .ok (.invokestatic 25, 3) := by decide +kernel
theorem dX2_allThreads_7 : decode cX2_allThreads 7 = .ok (.iconst 1, 1) := by decide +kernel
theorem dX2_allThreads_8 : decode cX2_allThreads 8 = .ok (.isub, 1) := by decide +kernel
theorem dX2_allThreads_9 : decode cX2_allThreads 9 = .ok (.ireturn, 1) := by decide +kernel
set_option maxRecDepth 20000 in
theorem ggX2_ends_X6_at : GoodIn wsX2_ends wsX6_at := goodIn_r _ [4] (by decide +kernel) (by decide +kernel)
set_option maxRecDepth 20000 in
theorem gX2_ends_X6_at_n29 : GoodIn wsX2_ends (wsX6_at) := ggX2_ends_X6_at
theorem dX2_ends_0 : decode cX2_ends 0 = .ok (.aload_n 0, 1) := by decide +kernel
theorem dX2_ends_1 : decode cX2_ends 1 = .ok (.getfield 18, 3) := by decide +kernel
theorem dX2_ends_4 : decode cX2_ends 4 = .ok (.iload_n 1, 1) := by decide +kernel
theorem dX2_ends_5 : decode cX2_ends 5 = .ok (.invokestatic 29, 3) := by decide +kernel
theorem dX2_ends_8 : decode cX2_ends 8 = .ok (.ireturn, 1) := by decide +kernel
set_option maxRecDepth 20000 in
theorem ggX2_lesserKnot_X2_ends : GoodIn wsX2_lesserKnot wsX2_ends := goodIn_r _ [5, 6, 7, 8, 9, 15, 16, 17, 18] (by decide +kernel) (by decide +kernel)
set_option maxRecDepth 20000 in
theorem gX2_lesserKnot_X2_ends : GoodIn wsX2_lesserKnot (wsV RX2 33 RX2 yX2_ends wsX2_ends) := goodIn_app (goodIn_of _ (by decide +kernel)) ggX2_lesserKnot_X2_ends
set_option maxRecDepth 20000 in
theorem ggX2_lesserKnot_J6_numberOfTrailingZeros_0f7a4 : GoodIn wsX2_lesserKnot wsJ6_numberOfTrailingZeros_0f7a4 := goodIn_r _ [13, 14] (by decide +kernel) (by decide +kernel)
set_option maxRecDepth 20000 in
theorem gX2_lesserKnot_J6_numberOfTrailingZeros_0f7a4 : GoodIn wsX2_lesserKnot (va_wsS RX2 35 yJ6_numberOfTrailingZeros_0f7a4 wsJ6_numberOfTrailingZeros_0f7a4) := goodIn_app (goodIn_of _ (by decide +kernel)) ggX2_lesserKnot_J6_numberOfTrailingZeros_0f7a4
theorem dX2_lesserKnot_0 : decode cX2_lesserKnot 0 = .ok (.aload_n 0, 1) := by decide +kernel
theorem dX2_lesserKnot_1 : decode cX2_lesserKnot 1 = .ok (.iload_n 1, 1) := by decide +kernel
theorem dX2_lesserKnot_2 : decode cX2_lesserKnot 2 = .ok (.invokevirtual 33, 3) := by decide +kernel
theorem dX2_lesserKnot_5 : decode cX2_lesserKnot 5 = .ok (.invokestatic 35, 3) := by decide +kernel
theorem dX2_lesserKnot_8 : decode cX2_lesserKnot 8 = .ok (.ireturn, 1) := by decide +kernel
set_option maxRecDepth 20000 in
theorem ggX2_greaterKnot_X2_ends : GoodIn wsX2_greaterKnot wsX2_ends := goodIn_r _ [5, 6, 7, 8, 9, 15, 16, 17, 18] (by decide +kernel) (by decide +kernel)
set_option maxRecDepth 20000 in
theorem gX2_greaterKnot_X2_ends : GoodIn wsX2_greaterKnot (wsV RX2 33 RX2 yX2_ends wsX2_ends) := goodIn_app (goodIn_of _ (by decide +kernel)) ggX2_greaterKnot_X2_ends
set_option maxRecDepth 20000 in
theorem ggX2_greaterKnot_J6_numberOfLeadingZeros_0f7a4 : GoodIn wsX2_greaterKnot wsJ6_numberOfLeadingZeros_0f7a4 := goodIn_r _ [13, 14] (by decide +kernel) (by decide +kernel)
set_option maxRecDepth 20000 in
theorem gX2_greaterKnot_J6_numberOfLeadingZeros_0f7a4 : GoodIn wsX2_greaterKnot (va_wsS RX2 40 yJ6_numberOfLeadingZeros_0f7a4 wsJ6_numberOfLeadingZeros_0f7a4) := goodIn_app (goodIn_of _ (by decide +kernel)) ggX2_greaterKnot_J6_numberOfLeadingZeros_0f7a4
theorem dX2_greaterKnot_0 : decode cX2_greaterKnot 0 = .ok (.bipush 31, 2) := by decide +kernel
theorem dX2_greaterKnot_2 : decode cX2_greaterKnot 2 = .ok (.aload_n 0, 1) := by decide +kernel
theorem dX2_greaterKnot_3 : decode cX2_greaterKnot 3 = .ok (.iload_n 1, 1) := by decide +kernel
theorem dX2_greaterKnot_4 : decode cX2_greaterKnot 4 = .ok (.invokevirtual 33, 3) := by decide +kernel
theorem dX2_greaterKnot_7 : decode cX2_greaterKnot 7 = .ok (.invokestatic 40, 3) := by decide +kernel
theorem dX2_greaterKnot_10 : decode cX2_greaterKnot 10 = .ok (.isub, 1) := by decide +kernel
theorem dX2_greaterKnot_11 : decode cX2_greaterKnot 11 = .ok (.ireturn, 1) := by decide +kernel
set_option maxRecDepth 20000 in
theorem ggX2_colour_X6_at : GoodIn wsX2_colour wsX6_at := goodIn_r _ [4] (by decide +kernel) (by decide +kernel)
set_option maxRecDepth 20000 in
theorem gX2_colour_X6_at_n29 : GoodIn wsX2_colour (wsX6_at) := ggX2_colour_X6_at
theorem dX2_colour_0 : decode cX2_colour 0 = .ok (.aload_n 0, 1) := by decide +kernel
theorem dX2_colour_1 : decode cX2_colour 1 = .ok (.getfield 22, 3) := by decide +kernel
theorem dX2_colour_4 : decode cX2_colour 4 = .ok (.iload_n 1, 1) := by decide +kernel
theorem dX2_colour_5 : decode cX2_colour 5 = .ok (.invokestatic 29, 3) := by decide +kernel
theorem dX2_colour_8 : decode cX2_colour 8 = .ok (.ireturn, 1) := by decide +kernel
set_option maxRecDepth 20000 in
theorem ggX2_setColour_X6_put : GoodIn wsX2_setColour wsX6_put := goodIn_r _ [4] (by decide +kernel) (by decide +kernel)
set_option maxRecDepth 20000 in
theorem gX2_setColour_X6_put_n43 : GoodIn wsX2_setColour (wsX6_put) := ggX2_setColour_X6_put
theorem dX2_setColour_0 : decode cX2_setColour 0 = .ok (.aload_n 0, 1) := by decide +kernel
theorem dX2_setColour_1 : decode cX2_setColour 1 = .ok (.getfield 22, 3) := by decide +kernel
theorem dX2_setColour_4 : decode cX2_setColour 4 = .ok (.iload_n 1, 1) := by decide +kernel
theorem dX2_setColour_5 : decode cX2_setColour 5 = .ok (.iload_n 2, 1) := by decide +kernel
theorem dX2_setColour_6 : decode cX2_setColour 6 = .ok (.invokestatic 43, 3) := by decide +kernel
theorem dX2_setColour_9 : decode cX2_setColour 9 = .ok (.return_, 1) := by decide +kernel
set_option maxRecDepth 20000 in
theorem ggX2_coloured_X2_colour : GoodIn wsX2_coloured wsX2_colour := goodIn_r _ [6, 7, 8, 9, 10, 13, 14, 15, 16] (by decide +kernel) (by decide +kernel)
set_option maxRecDepth 20000 in
theorem gX2_coloured_X2_colour : GoodIn wsX2_coloured (wsV RX2 47 RX2 yX2_colour wsX2_colour) := goodIn_app (goodIn_of _ (by decide +kernel)) ggX2_coloured_X2_colour
set_option maxRecDepth 20000 in
theorem ggX2_coloured_X6_bit : GoodIn wsX2_coloured wsX6_bit := goodIn_r _ [12] (by decide +kernel) (by decide +kernel)
set_option maxRecDepth 20000 in
theorem gX2_coloured_X6_bit_n25 : GoodIn wsX2_coloured (wsX6_bit) := ggX2_coloured_X6_bit
theorem dX2_coloured_0 : decode cX2_coloured 0 = .ok (.iconst 0, 1) := by decide +kernel
theorem dX2_coloured_1 : decode cX2_coloured 1 = .ok (.istore_n 2, 1) := by decide +kernel
theorem dX2_coloured_2 : decode cX2_coloured 2 = .ok (.iconst 0, 1) := by decide +kernel
theorem dX2_coloured_3 : decode cX2_coloured 3 = .ok (.istore_n 3, 1) := by decide +kernel
theorem dX2_coloured_4 : decode cX2_coloured 4 = .ok (.iload_n 3, 1) := by decide +kernel
theorem dX2_coloured_5 : decode cX2_coloured 5 = .ok (.aload_n 0, 1) := by decide +kernel
theorem dX2_coloured_6 : decode cX2_coloured 6 = .ok (.getfield 15, 3) := by decide +kernel
theorem dX2_coloured_9 : decode cX2_coloured 9 = .ok (.if_icmp .ge 25, 3) := by decide +kernel
theorem dX2_coloured_12 : decode cX2_coloured 12 = .ok (.aload_n 0, 1) := by decide +kernel
theorem dX2_coloured_13 : decode cX2_coloured 13 = .ok (.iload_n 3, 1) := by decide +kernel
theorem dX2_coloured_14 : decode cX2_coloured 14 = .ok (.invokevirtual 47, 3) := by decide +kernel
theorem dX2_coloured_17 : decode cX2_coloured 17 = .ok (.iload_n 1, 1) := by decide +kernel
theorem dX2_coloured_18 : decode cX2_coloured 18 = .ok (.if_icmp .ne 10, 3) := by decide +kernel
theorem dX2_coloured_21 : decode cX2_coloured 21 = .ok (.iload_n 2, 1) := by decide +kernel
theorem dX2_coloured_22 : decode cX2_coloured 22 = .ok (.iload_n 3, 1) := by decide +kernel
theorem dX2_coloured_23 : decode cX2_coloured 23 = .ok (.invokestatic 25, 3) := by decide +kernel
theorem dX2_coloured_26 : decode cX2_coloured 26 = .ok (.ior, 1) := by decide +kernel
theorem dX2_coloured_27 : decode cX2_coloured 27 = .ok (.istore_n 2, 1) := by decide +kernel
theorem dX2_coloured_28 : decode cX2_coloured 28 = .ok (.iinc 3 1, 3) := by decide +kernel
theorem dX2_coloured_31 : decode cX2_coloured 31 = .ok (.goto (-27), 3) := by decide +kernel
theorem dX2_coloured_34 : decode cX2_coloured 34 = .ok (.iload_n 2, 1) := by decide +kernel
theorem dX2_coloured_35 : decode cX2_coloured 35 = .ok (.ireturn, 1) := by decide +kernel
set_option maxRecDepth 20000 in
theorem ggX2_threadsAt_X2_ends : GoodIn wsX2_threadsAt wsX2_ends := goodIn_r _ [6, 7, 8, 9, 10, 13, 14, 15, 16] (by decide +kernel) (by decide +kernel)
set_option maxRecDepth 20000 in
theorem gX2_threadsAt_X2_ends : GoodIn wsX2_threadsAt (wsV RX2 33 RX2 yX2_ends wsX2_ends) := goodIn_app (goodIn_of _ (by decide +kernel)) ggX2_threadsAt_X2_ends
set_option maxRecDepth 20000 in
theorem ggX2_threadsAt_X6_bit : GoodIn wsX2_threadsAt wsX6_bit := goodIn_r _ [12] (by decide +kernel) (by decide +kernel)
set_option maxRecDepth 20000 in
theorem gX2_threadsAt_X6_bit_n25 : GoodIn wsX2_threadsAt (wsX6_bit) := ggX2_threadsAt_X6_bit
theorem dX2_threadsAt_0 : decode cX2_threadsAt 0 = .ok (.iconst 0, 1) := by decide +kernel
theorem dX2_threadsAt_1 : decode cX2_threadsAt 1 = .ok (.istore_n 2, 1) := by decide +kernel
theorem dX2_threadsAt_2 : decode cX2_threadsAt 2 = .ok (.iconst 0, 1) := by decide +kernel
theorem dX2_threadsAt_3 : decode cX2_threadsAt 3 = .ok (.istore_n 3, 1) := by decide +kernel
theorem dX2_threadsAt_4 : decode cX2_threadsAt 4 = .ok (.iload_n 3, 1) := by decide +kernel
theorem dX2_threadsAt_5 : decode cX2_threadsAt 5 = .ok (.aload_n 0, 1) := by decide +kernel
theorem dX2_threadsAt_6 : decode cX2_threadsAt 6 = .ok (.getfield 15, 3) := by decide +kernel
theorem dX2_threadsAt_9 : decode cX2_threadsAt 9 = .ok (.if_icmp .ge 26, 3) := by decide +kernel
theorem dX2_threadsAt_12 : decode cX2_threadsAt 12 = .ok (.aload_n 0, 1) := by decide +kernel
theorem dX2_threadsAt_13 : decode cX2_threadsAt 13 = .ok (.iload_n 3, 1) := by decide +kernel
theorem dX2_threadsAt_14 : decode cX2_threadsAt 14 = .ok (.invokevirtual 33, 3) := by decide +kernel
theorem dX2_threadsAt_17 : decode cX2_threadsAt 17 = .ok (.iload_n 1, 1) := by decide +kernel
theorem dX2_threadsAt_18 : decode cX2_threadsAt 18 = .ok (.iand, 1) := by decide +kernel
theorem dX2_threadsAt_19 : decode cX2_threadsAt 19 = .ok (.ifCond .eq 10, 3) := by decide +kernel
theorem dX2_threadsAt_22 : decode cX2_threadsAt 22 = .ok (.iload_n 2, 1) := by decide +kernel
theorem dX2_threadsAt_23 : decode cX2_threadsAt 23 = .ok (.iload_n 3, 1) := by decide +kernel
theorem dX2_threadsAt_24 : decode cX2_threadsAt 24 = .ok (.invokestatic 25, 3) := by decide +kernel
theorem dX2_threadsAt_27 : decode cX2_threadsAt 27 = .ok (.ior, 1) := by decide +kernel
theorem dX2_threadsAt_28 : decode cX2_threadsAt 28 = .ok (.istore_n 2, 1) := by decide +kernel
theorem dX2_threadsAt_29 : decode cX2_threadsAt 29 = .ok (.iinc 3 1, 3) := by decide +kernel
theorem dX2_threadsAt_32 : decode cX2_threadsAt 32 = .ok (.goto (-28), 3) := by decide +kernel
theorem dX2_threadsAt_35 : decode cX2_threadsAt 35 = .ok (.iload_n 2, 1) := by decide +kernel
theorem dX2_threadsAt_36 : decode cX2_threadsAt 36 = .ok (.ireturn, 1) := by decide +kernel
set_option maxRecDepth 20000 in
theorem ggX2_neighbours_X2_ends : GoodIn wsX2_neighbours wsX2_ends := goodIn_r _ [6, 7, 8, 9, 10, 15, 16, 17, 18] (by decide +kernel) (by decide +kernel)
set_option maxRecDepth 20000 in
theorem gX2_neighbours_X2_ends : GoodIn wsX2_neighbours (wsV RX2 33 RX2 yX2_ends wsX2_ends) := goodIn_app (goodIn_of _ (by decide +kernel)) ggX2_neighbours_X2_ends
set_option maxRecDepth 20000 in
theorem ggX2_neighbours_X6_holds : GoodIn wsX2_neighbours wsX6_holds := goodIn_r _ [12] (by decide +kernel) (by decide +kernel)
set_option maxRecDepth 20000 in
theorem gX2_neighbours_X6_holds_n50 : GoodIn wsX2_neighbours (wsX6_holds) := ggX2_neighbours_X6_holds
set_option maxRecDepth 20000 in
theorem ggX2_neighbours_X6_bit : GoodIn wsX2_neighbours wsX6_bit := goodIn_r _ [14] (by decide +kernel) (by decide +kernel)
set_option maxRecDepth 20000 in
theorem gX2_neighbours_X6_bit_n25 : GoodIn wsX2_neighbours (wsX6_bit) := ggX2_neighbours_X6_bit
theorem dX2_neighbours_0 : decode cX2_neighbours 0 = .ok (.iconst 0, 1) := by decide +kernel
theorem dX2_neighbours_1 : decode cX2_neighbours 1 = .ok (.istore_n 2, 1) := by decide +kernel
theorem dX2_neighbours_2 : decode cX2_neighbours 2 = .ok (.iconst 0, 1) := by decide +kernel
theorem dX2_neighbours_3 : decode cX2_neighbours 3 = .ok (.istore_n 3, 1) := by decide +kernel
theorem dX2_neighbours_4 : decode cX2_neighbours 4 = .ok (.iload_n 3, 1) := by decide +kernel
theorem dX2_neighbours_5 : decode cX2_neighbours 5 = .ok (.aload_n 0, 1) := by decide +kernel
theorem dX2_neighbours_6 : decode cX2_neighbours 6 = .ok (.getfield 15, 3) := by decide +kernel
theorem dX2_neighbours_9 : decode cX2_neighbours 9 = .ok (.if_icmp .ge 29, 3) := by decide +kernel
theorem dX2_neighbours_12 : decode cX2_neighbours 12 = .ok (.aload_n 0, 1) := by decide +kernel
theorem dX2_neighbours_13 : decode cX2_neighbours 13 = .ok (.iload_n 3, 1) := by decide +kernel
theorem dX2_neighbours_14 : decode cX2_neighbours 14 = .ok (.invokevirtual 33, 3) := by decide +kernel
theorem dX2_neighbours_17 : decode cX2_neighbours 17 = .ok (.iload_n 1, 1) := by decide +kernel
theorem dX2_neighbours_18 : decode cX2_neighbours 18 = .ok (.invokestatic 50, 3) := by decide +kernel
theorem dX2_neighbours_21 : decode cX2_neighbours 21 = .ok (.ifCond .eq 11, 3) := by decide +kernel
theorem dX2_neighbours_24 : decode cX2_neighbours 24 = .ok (.iload_n 2, 1) := by decide +kernel
theorem dX2_neighbours_25 : decode cX2_neighbours 25 = .ok (.aload_n 0, 1) := by decide +kernel
theorem dX2_neighbours_26 : decode cX2_neighbours 26 = .ok (.iload_n 3, 1) := by decide +kernel
theorem dX2_neighbours_27 : decode cX2_neighbours 27 = .ok (.invokevirtual 33, 3) := by decide +kernel
theorem dX2_neighbours_30 : decode cX2_neighbours 30 = .ok (.ior, 1) := by decide +kernel
theorem dX2_neighbours_31 : decode cX2_neighbours 31 = .ok (.istore_n 2, 1) := by decide +kernel
theorem dX2_neighbours_32 : decode cX2_neighbours 32 = .ok (.iinc 3 1, 3) := by decide +kernel
theorem dX2_neighbours_35 : decode cX2_neighbours 35 = .ok (.goto (-31), 3) := by decide +kernel
theorem dX2_neighbours_38 : decode cX2_neighbours 38 = .ok (.iload_n 2, 1) := by decide +kernel
theorem dX2_neighbours_39 : decode cX2_neighbours 39 = .ok (.iload_n 1, 1) := by decide +kernel
theorem dX2_neighbours_40 : decode cX2_neighbours 40 = .ok (.invokestatic 25, 3) := by decide +kernel
theorem dX2_neighbours_43 : decode cX2_neighbours 43 = .ok (.iconst (-1), 1) := by decide +kernel
theorem dX2_neighbours_44 : decode cX2_neighbours 44 = .ok (.ixor, 1) := by decide +kernel
theorem dX2_neighbours_45 : decode cX2_neighbours 45 = .ok (.iand, 1) := by decide +kernel
theorem dX2_neighbours_46 : decode cX2_neighbours 46 = .ok (.ireturn, 1) := by decide +kernel
set_option maxRecDepth 20000 in
theorem ggX2_find_X2_ends : GoodIn wsX2_find wsX2_ends := goodIn_r _ [6, 7, 8, 9, 10, 11, 12, 13, 14] (by decide +kernel) (by decide +kernel)
set_option maxRecDepth 20000 in
theorem gX2_find_X2_ends : GoodIn wsX2_find (wsV RX2 33 RX2 yX2_ends wsX2_ends) := goodIn_app (goodIn_of _ (by decide +kernel)) ggX2_find_X2_ends
theorem dX2_find_0 : decode cX2_find 0 = .ok (.iconst 0, 1) := by decide +kernel
theorem dX2_find_1 : decode cX2_find 1 = .ok (.istore_n 2, 1) := by decide +kernel
theorem dX2_find_2 : decode cX2_find 2 = .ok (.iload_n 2, 1) := by decide +kernel
theorem dX2_find_3 : decode cX2_find 3 = .ok (.aload_n 0, 1) := by decide +kernel
theorem dX2_find_4 : decode cX2_find 4 = .ok (.getfield 15, 3) := by decide +kernel
theorem dX2_find_7 : decode cX2_find 7 = .ok (.if_icmp .ge 20, 3) := by decide +kernel
theorem dX2_find_10 : decode cX2_find 10 = .ok (.aload_n 0, 1) := by decide +kernel
theorem dX2_find_11 : decode cX2_find 11 = .ok (.iload_n 2, 1) := by decide +kernel
theorem dX2_find_12 : decode cX2_find 12 = .ok (.invokevirtual 33, 3) := by decide +kernel
theorem dX2_find_15 : decode cX2_find 15 = .ok (.iload_n 1, 1) := by decide +kernel
theorem dX2_find_16 : decode cX2_find 16 = .ok (.if_icmp .ne 5, 3) := by decide +kernel
theorem dX2_find_19 : decode cX2_find 19 = .ok (.iload_n 2, 1) := by decide +kernel
theorem dX2_find_20 : decode cX2_find 20 = .ok (.ireturn, 1) := by decide +kernel
theorem dX2_find_21 : decode cX2_find 21 = .ok (.iinc 2 1, 3) := by decide +kernel
theorem dX2_find_24 : decode cX2_find 24 = .ok (.goto (-22), 3) := by decide +kernel
theorem dX2_find_27 : decode cX2_find 27 = .ok (.iconst (-1), 1) := by decide +kernel
theorem dX2_find_28 : decode cX2_find 28 = .ok (.ireturn, 1) := by decide +kernel
set_option maxRecDepth 20000 in
theorem ggX2_isFullKnot_X6_bit : GoodIn wsX2_isFullKnot wsX6_bit := goodIn_r _ [3] (by decide +kernel) (by decide +kernel)
set_option maxRecDepth 20000 in
theorem gX2_isFullKnot_X6_bit_n25 : GoodIn wsX2_isFullKnot (wsX6_bit) := ggX2_isFullKnot_X6_bit
set_option maxRecDepth 20000 in
theorem ggX2_isFullKnot_X2_threadsAt : GoodIn wsX2_isFullKnot wsX2_threadsAt := goodIn_r _ [8, 9, 10, 11, 12, 7, 13, 14, 15, 2, 16, 1, 3, 24, 25, 26, 27] (by decide +kernel) (by decide +kernel)
set_option maxRecDepth 20000 in
theorem gX2_isFullKnot_X2_threadsAt : GoodIn wsX2_isFullKnot (wsV RX2 54 RX2 yX2_threadsAt wsX2_threadsAt) := goodIn_app (goodIn_of _ (by decide +kernel)) ggX2_isFullKnot_X2_threadsAt
set_option maxRecDepth 20000 in
theorem ggX2_isFullKnot_J6_bitCount_0f7a4 : GoodIn wsX2_isFullKnot wsJ6_bitCount_0f7a4 := goodIn_r _ [20, 21, 22, 23] (by decide +kernel) (by decide +kernel)
set_option maxRecDepth 20000 in
theorem gX2_isFullKnot_J6_bitCount_0f7a4 : GoodIn wsX2_isFullKnot (va_wsS RX2 57 yJ6_bitCount_0f7a4 wsJ6_bitCount_0f7a4) := goodIn_app (goodIn_of _ (by decide +kernel)) ggX2_isFullKnot_J6_bitCount_0f7a4
theorem dX2_isFullKnot_0 : decode cX2_isFullKnot 0 = .ok (.aload_n 0, 1) := by decide +kernel
theorem dX2_isFullKnot_1 : decode cX2_isFullKnot 1 = .ok (.iload_n 1, 1) := by decide +kernel
theorem dX2_isFullKnot_2 : decode cX2_isFullKnot 2 = .ok (.invokestatic 25, 3) := by decide +kernel
theorem dX2_isFullKnot_5 : decode cX2_isFullKnot 5 = .ok (.invokevirtual 54, 3) := by decide +kernel
theorem dX2_isFullKnot_8 : decode cX2_isFullKnot 8 = .ok (.invokestatic 57, 3) := by decide +kernel
