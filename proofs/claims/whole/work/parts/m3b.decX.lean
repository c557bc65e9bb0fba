theorem dX2_isFullKnot_11 : decode cX2_isFullKnot 11 = .ok (.iconst 3, 1) := by decide +kernel
theorem dX2_isFullKnot_12 : decode cX2_isFullKnot 12 = .ok (.if_icmp .lt 7, 3) := by decide +kernel
theorem dX2_isFullKnot_15 : decode cX2_isFullKnot 15 = .ok (.iconst 1, 1) := by decide +kernel
theorem dX2_isFullKnot_16 : decode cX2_isFullKnot 16 = .ok (.goto 4, 3) := by decide +kernel
theorem dX2_isFullKnot_19 : decode cX2_isFullKnot 19 = .ok (.iconst 0, 1) := by decide +kernel
theorem dX2_isFullKnot_20 : decode cX2_isFullKnot 20 = .ok (.ireturn, 1) := by decide +kernel
set_option maxRecDepth 20000 in
theorem ggX2_isFull_X2_isFullKnot : GoodIn wsX2_isFull wsX2_isFullKnot := goodIn_r _ [6, 7, 8, 9, 10, 11, 12, 5, 13, 14, 15, 16, 17, 18, 19, 20, 21, 22, 23, 24, 25, 26, 27, 28, 29, 30, 31, 32] (by decide +kernel) (by decide +kernel)
set_option maxRecDepth 20000 in
theorem gX2_isFull_X2_isFullKnot : GoodIn wsX2_isFull (wsV RX2 60 RX2 yX2_isFullKnot wsX2_isFullKnot) := goodIn_app (goodIn_of _ (by decide +kernel)) ggX2_isFull_X2_isFullKnot
theorem dX2_isFull_0 : decode cX2_isFull 0 = .ok (.iconst 0, 1) := by decide +kernel
theorem dX2_isFull_1 : decode cX2_isFull 1 = .ok (.istore_n 1, 1) := by decide +kernel
theorem dX2_isFull_2 : decode cX2_isFull 2 = .ok (.iload_n 1, 1) := by decide +kernel
theorem dX2_isFull_3 : decode cX2_isFull 3 = .ok (.aload_n 0, 1) := by decide +kernel
theorem dX2_isFull_4 : decode cX2_isFull 4 = .ok (.getfield 9, 3) := by decide +kernel
theorem dX2_isFull_7 : decode cX2_isFull 7 = .ok (.if_icmp .ge 19, 3) := by decide +kernel
theorem dX2_isFull_10 : decode cX2_isFull 10 = .ok (.aload_n 0, 1) := by decide +kernel
theorem dX2_isFull_11 : decode cX2_isFull 11 = .ok (.iload_n 1, 1) := by decide +kernel
theorem dX2_isFull_12 : decode cX2_isFull 12 = .ok (.invokevirtual 60, 3) := by decide +kernel
theorem dX2_isFull_15 : decode cX2_isFull 15 = .ok (.ifCond .ne 5, 3) := by decide +kernel
theorem dX2_isFull_18 : decode cX2_isFull 18 = .ok (.iconst 0, 1) := by decide +kernel
theorem dX2_isFull_19 : decode cX2_isFull 19 = .ok (.ireturn, 1) := by decide +kernel
theorem dX2_isFull_20 : decode cX2_isFull 20 = .ok (.iinc 1 1, 3) := by decide +kernel
theorem dX2_isFull_23 : decode cX2_isFull 23 = .ok (.goto (-21), 3) := by decide +kernel
theorem dX2_isFull_26 : decode cX2_isFull 26 = .ok (.aload_n 0, 1) := by decide +kernel
theorem dX2_isFull_27 : decode cX2_isFull 27 = .ok (.getfield 9, 3) := by decide +kernel
theorem dX2_isFull_30 : decode cX2_isFull 30 = .ok (.ifCond .le 7, 3) := by decide +kernel
theorem dX2_isFull_33 : decode cX2_isFull 33 = .ok (.iconst 1, 1) := by decide +kernel
theorem dX2_isFull_34 : decode cX2_isFull 34 = .ok (.goto 4, 3) := by decide +kernel
theorem dX2_isFull_37 : decode cX2_isFull 37 = .ok (.iconst 0, 1) := by decide +kernel
theorem dX2_isFull_38 : decode cX2_isFull 38 = .ok (.ireturn, 1) := by decide +kernel
set_option maxRecDepth 20000 in
theorem ggX2_isWrong_X2_colour : GoodIn wsX2_isWrong wsX2_colour := goodIn_r _ [6, 7, 8, 9, 10, 20, 21, 22, 23] (by decide +kernel) (by decide +kernel)
set_option maxRecDepth 20000 in
theorem gX2_isWrong_X2_colour : GoodIn wsX2_isWrong (wsV RX2 47 RX2 yX2_colour wsX2_colour) := goodIn_app (goodIn_of _ (by decide +kernel)) ggX2_isWrong_X2_colour
set_option maxRecDepth 20000 in
theorem ggX2_isWrong_X2_ends : GoodIn wsX2_isWrong wsX2_ends := goodIn_r _ [14, 15, 8, 9, 10, 20, 21, 22, 23] (by decide +kernel) (by decide +kernel)
set_option maxRecDepth 20000 in
theorem gX2_isWrong_X2_ends : GoodIn wsX2_isWrong (wsV RX2 33 RX2 yX2_ends wsX2_ends) := goodIn_app (goodIn_of _ (by decide +kernel)) ggX2_isWrong_X2_ends
set_option maxRecDepth 20000 in
theorem ggX2_isWrong_X6_holds : GoodIn wsX2_isWrong wsX6_holds := goodIn_r _ [17] (by decide +kernel) (by decide +kernel)
set_option maxRecDepth 20000 in
theorem gX2_isWrong_X6_holds_n50 : GoodIn wsX2_isWrong (wsX6_holds) := ggX2_isWrong_X6_holds
set_option maxRecDepth 20000 in
theorem ggX2_isWrong_X6_bit : GoodIn wsX2_isWrong wsX6_bit := goodIn_r _ [19] (by decide +kernel) (by decide +kernel)
set_option maxRecDepth 20000 in
theorem gX2_isWrong_X6_bit_n25 : GoodIn wsX2_isWrong (wsX6_bit) := ggX2_isWrong_X6_bit
theorem dX2_isWrong_0 : decode cX2_isWrong 0 = .ok (.iconst 0, 1) := by decide +kernel
theorem dX2_isWrong_1 : decode cX2_isWrong 1 = .ok (.istore_n 2, 1) := by decide +kernel
theorem dX2_isWrong_2 : decode cX2_isWrong 2 = .ok (.iconst 0, 1) := by decide +kernel
theorem dX2_isWrong_3 : decode cX2_isWrong 3 = .ok (.istore_n 3, 1) := by decide +kernel
theorem dX2_isWrong_4 : decode cX2_isWrong 4 = .ok (.iload_n 3, 1) := by decide +kernel
theorem dX2_isWrong_5 : decode cX2_isWrong 5 = .ok (.aload_n 0, 1) := by decide +kernel
theorem dX2_isWrong_6 : decode cX2_isWrong 6 = .ok (.getfield 15, 3) := by decide +kernel
theorem dX2_isWrong_9 : decode cX2_isWrong 9 = .ok (.if_icmp .ge 53, 3) := by decide +kernel
theorem dX2_isWrong_12 : decode cX2_isWrong 12 = .ok (.aload_n 0, 1) := by decide +kernel
theorem dX2_isWrong_13 : decode cX2_isWrong 13 = .ok (.iload_n 3, 1) := by decide +kernel
theorem dX2_isWrong_14 : decode cX2_isWrong 14 = .ok (.invokevirtual 47, 3) := by decide +kernel
theorem dX2_isWrong_17 : decode cX2_isWrong 17 = .ok (.istore 4, 2) := by decide +kernel
theorem dX2_isWrong_19 : decode cX2_isWrong 19 = .ok (.aload_n 0, 1) := by decide +kernel
theorem dX2_isWrong_20 : decode cX2_isWrong 20 = .ok (.iload_n 3, 1) := by decide +kernel
theorem dX2_isWrong_21 : decode cX2_isWrong 21 = .ok (.invokevirtual 33, 3) := by decide +kernel
theorem dX2_isWrong_24 : decode cX2_isWrong 24 = .ok (.iload_n 1, 1) := by decide +kernel
theorem dX2_isWrong_25 : decode cX2_isWrong 25 = .ok (.invokestatic 50, 3) := by decide +kernel
theorem dX2_isWrong_28 : decode cX2_isWrong 28 = .ok (.ifCond .eq 28, 3) := by decide +kernel
theorem dX2_isWrong_31 : decode cX2_isWrong 31 = .ok (.iload 4, 2) := by decide +kernel
theorem dX2_isWrong_33 : decode cX2_isWrong 33 = .ok (.iconst 3, 1) := by decide +kernel
theorem dX2_isWrong_34 : decode cX2_isWrong 34 = .ok (.if_icmp .eq 22, 3) := by decide +kernel
theorem dX2_isWrong_37 : decode cX2_isWrong 37 = .ok (.iload_n 2, 1) := by decide +kernel
theorem dX2_isWrong_38 : decode cX2_isWrong 38 = .ok (.iload 4, 2) := by decide +kernel
theorem dX2_isWrong_40 : decode cX2_isWrong 40 = .ok (.invokestatic 50, 3) := by decide +kernel
theorem dX2_isWrong_43 : decode cX2_isWrong 43 = .ok (.ifCond .eq 5, 3) := by decide +kernel
theorem dX2_isWrong_46 : decode cX2_isWrong 46 = .ok (.iconst 1, 1) := by decide +kernel
theorem dX2_isWrong_47 : decode cX2_isWrong 47 = .ok (.ireturn, 1) := by decide +kernel
theorem dX2_isWrong_48 : decode cX2_isWrong 48 = .ok (.iload_n 2, 1) := by decide +kernel
theorem dX2_isWrong_49 : decode cX2_isWrong 49 = .ok (.iload 4, 2) := by decide +kernel
theorem dX2_isWrong_51 : decode cX2_isWrong 51 = .ok (.invokestatic 25, 3) := by decide +kernel
theorem dX2_isWrong_54 : decode cX2_isWrong 54 = .ok (.ior, 1) := by decide +kernel
theorem dX2_isWrong_55 : decode cX2_isWrong 55 = .ok (.istore_n 2, 1) := by decide +kernel
theorem dX2_isWrong_56 : decode cX2_isWrong 56 = .ok (.iinc 3 1, 3) := by decide +kernel
theorem dX2_isWrong_59 : decode cX2_isWrong 59 = .ok (.goto (-55), 3) := by decide +kernel
theorem dX2_isWrong_62 : decode cX2_isWrong 62 = .ok (.iconst 0, 1) := by decide +kernel
theorem dX2_isWrong_63 : decode cX2_isWrong 63 = .ok (.ireturn, 1) := by decide +kernel
set_option maxRecDepth 20000 in
theorem ggX2_wrongKnots_X2_isWrong : GoodIn wsX2_wrongKnots wsX2_isWrong := goodIn_r _ [6, 7, 8, 9, 10, 5, 11, 12, 13, 14, 15, 16, 17, 18, 19, 20, 21, 22, 23, 24, 25, 26, 27, 28] (by decide +kernel) (by decide +kernel)
set_option maxRecDepth 20000 in
theorem gX2_wrongKnots_X2_isWrong : GoodIn wsX2_wrongKnots (wsV RX2 64 RX2 yX2_isWrong wsX2_isWrong) := goodIn_app (goodIn_of _ (by decide +kernel)) ggX2_wrongKnots_X2_isWrong
theorem dX2_wrongKnots_0 : decode cX2_wrongKnots 0 = .ok (.iconst 0, 1) := by decide +kernel
theorem dX2_wrongKnots_1 : decode cX2_wrongKnots 1 = .ok (.istore_n 1, 1) := by decide +kernel
theorem dX2_wrongKnots_2 : decode cX2_wrongKnots 2 = .ok (.iconst 0, 1) := by decide +kernel
theorem dX2_wrongKnots_3 : decode cX2_wrongKnots 3 = .ok (.istore_n 2, 1) := by decide +kernel
theorem dX2_wrongKnots_4 : decode cX2_wrongKnots 4 = .ok (.iload_n 2, 1) := by decide +kernel
theorem dX2_wrongKnots_5 : decode cX2_wrongKnots 5 = .ok (.aload_n 0, 1) := by decide +kernel
theorem dX2_wrongKnots_6 : decode cX2_wrongKnots 6 = .ok (.getfield 9, 3) := by decide +kernel
theorem dX2_wrongKnots_9 : decode cX2_wrongKnots 9 = .ok (.if_icmp .ge 20, 3) := by decide +kernel
theorem dX2_wrongKnots_12 : decode cX2_wrongKnots 12 = .ok (.aload_n 0, 1) := by decide +kernel
theorem dX2_wrongKnots_13 : decode cX2_wrongKnots 13 = .ok (.iload_n 2, 1) := by decide +kernel
theorem dX2_wrongKnots_14 : decode cX2_wrongKnots 14 = .ok (.invokevirtual 64, 3) := by decide +kernel
theorem dX2_wrongKnots_17 : decode cX2_wrongKnots 17 = .ok (.ifCond .eq 6, 3) := by decide +kernel
theorem dX2_wrongKnots_20 : decode cX2_wrongKnots 20 = .ok (.iinc 1 1, 3) := by decide +kernel
theorem dX2_wrongKnots_23 : decode cX2_wrongKnots 23 = .ok (.iinc 2 1, 3) := by decide +kernel
theorem dX2_wrongKnots_26 : decode cX2_wrongKnots 26 = .ok (.goto (-22), 3) := by decide +kernel
theorem dX2_wrongKnots_29 : decode cX2_wrongKnots 29 = .ok (.iload_n 1, 1) := by decide +kernel
theorem dX2_wrongKnots_30 : decode cX2_wrongKnots 30 = .ok (.ireturn, 1) := by decide +kernel
set_option maxRecDepth 20000 in
theorem ggX2_copyFrom_X2_ends : GoodIn wsX2_copyFrom wsX2_ends := goodIn_r _ [9, 3, 10, 11, 12, 19, 20, 21, 22] (by decide +kernel) (by decide +kernel)
set_option maxRecDepth 20000 in
theorem gX2_copyFrom_X2_ends : GoodIn wsX2_copyFrom (wsV RX2 33 RX2 yX2_ends wsX2_ends) := goodIn_app (goodIn_of _ (by decide +kernel)) ggX2_copyFrom_X2_ends
set_option maxRecDepth 20000 in
theorem ggX2_copyFrom_X6_put : GoodIn wsX2_copyFrom wsX6_put := goodIn_r _ [14] (by decide +kernel) (by decide +kernel)
set_option maxRecDepth 20000 in
theorem gX2_copyFrom_X6_put_n43 : GoodIn wsX2_copyFrom (wsX6_put) := ggX2_copyFrom_X6_put
set_option maxRecDepth 20000 in
theorem ggX2_copyFrom_X2_colour : GoodIn wsX2_copyFrom wsX2_colour := goodIn_r _ [18, 4, 10, 11, 12, 19, 20, 21, 22] (by decide +kernel) (by decide +kernel)
set_option maxRecDepth 20000 in
theorem gX2_copyFrom_X2_colour : GoodIn wsX2_copyFrom (wsV RX2 47 RX2 yX2_colour wsX2_colour) := goodIn_app (goodIn_of _ (by decide +kernel)) ggX2_copyFrom_X2_colour
theorem dX2_copyFrom_0 : decode cX2_copyFrom 0 = .ok (.aload_n 0, 1) := by decide +kernel
theorem dX2_copyFrom_1 : decode cX2_copyFrom 1 = .ok (.aload_n 1, 1) := by decide +kernel
theorem dX2_copyFrom_2 : decode cX2_copyFrom 2 = .ok (.getfield 9, 3) := by decide +kernel
theorem dX2_copyFrom_5 : decode cX2_copyFrom 5 = .ok (.putfield 9, 3) := by decide +kernel
theorem dX2_copyFrom_8 : decode cX2_copyFrom 8 = .ok (.aload_n 0, 1) := by decide +kernel
theorem dX2_copyFrom_9 : decode cX2_copyFrom 9 = .ok (.aload_n 1, 1) := by decide +kernel
theorem dX2_copyFrom_10 : decode cX2_copyFrom 10 = .ok (.getfield 15, 3) := by decide +kernel
theorem dX2_copyFrom_13 : decode cX2_copyFrom 13 = .ok (.putfield 15, 3) := by decide +kernel
theorem dX2_copyFrom_16 : decode cX2_copyFrom 16 = .ok (.iconst 0, 1) := by decide +kernel
theorem dX2_copyFrom_17 : decode cX2_copyFrom 17 = .ok (.istore_n 2, 1) := by decide +kernel
theorem dX2_copyFrom_18 : decode cX2_copyFrom 18 = .ok (.iload_n 2, 1) := by decide +kernel
theorem dX2_copyFrom_19 : decode cX2_copyFrom 19 = .ok (.aload_n 0, 1) := by decide +kernel
theorem dX2_copyFrom_20 : decode cX2_copyFrom 20 = .ok (.getfield 15, 3) := by decide +kernel
theorem dX2_copyFrom_23 : decode cX2_copyFrom 23 = .ok (.if_icmp .ge 35, 3) := by decide +kernel
theorem dX2_copyFrom_26 : decode cX2_copyFrom 26 = .ok (.aload_n 0, 1) := by decide +kernel
theorem dX2_copyFrom_27 : decode cX2_copyFrom 27 = .ok (.getfield 18, 3) := by decide +kernel
theorem dX2_copyFrom_30 : decode cX2_copyFrom 30 = .ok (.iload_n 2, 1) := by decide +kernel
theorem dX2_copyFrom_31 : decode cX2_copyFrom 31 = .ok (.aload_n 1, 1) := by decide +kernel
theorem dX2_copyFrom_32 : decode cX2_copyFrom 32 = .ok (.iload_n 2, 1) := by decide +kernel
theorem dX2_copyFrom_33 : decode cX2_copyFrom 33 = .ok (.invokevirtual 33, 3) := by decide +kernel
theorem dX2_copyFrom_36 : decode cX2_copyFrom 36 = .ok (.invokestatic 43, 3) := by decide +kernel
theorem dX2_copyFrom_39 : decode cX2_copyFrom 39 = .ok (.aload_n 0, 1) := by decide +kernel
theorem dX2_copyFrom_40 : decode cX2_copyFrom 40 = .ok (.getfield 22, 3) := by decide +kernel
theorem dX2_copyFrom_43 : decode cX2_copyFrom 43 = .ok (.iload_n 2, 1) := by decide +kernel
theorem dX2_copyFrom_44 : decode cX2_copyFrom 44 = .ok (.aload_n 1, 1) := by decide +kernel
theorem dX2_copyFrom_45 : decode cX2_copyFrom 45 = .ok (.iload_n 2, 1) := by decide +kernel
theorem dX2_copyFrom_46 : decode cX2_copyFrom 46 = .ok (.invokevirtual 47, 3) := by decide +kernel
theorem dX2_copyFrom_49 : decode cX2_copyFrom 49 = .ok (.invokestatic 43, 3) := by decide +kernel
theorem dX2_copyFrom_52 : decode cX2_copyFrom 52 = .ok (.iinc 2 1, 3) := by decide +kernel
theorem dX2_copyFrom_55 : decode cX2_copyFrom 55 = .ok (.goto (-37), 3) := by decide +kernel
theorem dX2_copyFrom_58 : decode cX2_copyFrom 58 = .ok (.return_, 1) := by decide +kernel
theorem dX2_empty_0 : decode cX2_empty 0 = .ok (.aload_n 0, 1) := by decide +kernel
theorem dX2_empty_1 : decode cX2_empty 1 = .ok (.iconst 0, 1) := by decide +kernel
theorem dX2_empty_2 : decode cX2_empty 2 = .ok (.putfield 9, 3) := by decide +kernel
theorem dX2_empty_5 : decode cX2_empty 5 = .ok (.aload_n 0, 1) := by decide +kernel
theorem dX2_empty_6 : decode cX2_empty 6 = .ok (.iconst 0, 1) := by decide +kernel
theorem dX2_empty_7 : decode cX2_empty 7 = .ok (.putfield 15, 3) := by decide +kernel
theorem dX2_empty_10 : decode cX2_empty 10 = .ok (.return_, 1) := by decide +kernel
theorem dX2_addKnots_0 : decode cX2_addKnots 0 = .ok (.aload_n 0, 1) := by decide +kernel
theorem dX2_addKnots_1 : decode cX2_addKnots 1 = .ok (.aload_n 0, 1) := by decide +kernel
theorem dX2_addKnots_2 : decode cX2_addKnots 2 = .ok (.getfield 9, 3) := by decide +kernel
theorem dX2_addKnots_5 : decode cX2_addKnots 5 = .ok (.iload_n 1, 1) := by decide +kernel
theorem dX2_addKnots_6 : decode cX2_addKnots 6 = .ok (.iadd, 1) := by decide +kernel
theorem dX2_addKnots_7 : decode cX2_addKnots 7 = .ok (.bipush 14, 2) := by decide +kernel
theorem dX2_addKnots_9 : decode cX2_addKnots 9 = .ok (.invokestatic 67, 3) := by decide +kernel
theorem dX2_addKnots_12 : decode cX2_addKnots 12 = .ok (.putfield 9, 3) := by decide +kernel
theorem dX2_addKnots_15 : decode cX2_addKnots 15 = .ok (.return_, 1) := by decide +kernel
set_option maxRecDepth 20000 in
theorem ggX2_build_X2_empty : GoodIn wsX2_build wsX2_empty := goodIn_r _ [9, 10, 11, 32, 33, 34, 35] (by decide +kernel) (by decide +kernel)
set_option maxRecDepth 20000 in
theorem gX2_build_X2_empty : GoodIn wsX2_build (wsV RX2 73 RX2 yX2_empty wsX2_empty) := goodIn_app (goodIn_of _ (by decide +kernel)) ggX2_build_X2_empty
set_option maxRecDepth 20000 in
theorem ggX2_build_X6_at : GoodIn wsX2_build wsX6_at := goodIn_r _ [14] (by decide +kernel) (by decide +kernel)
set_option maxRecDepth 20000 in
theorem gX2_build_X6_at_n29 : GoodIn wsX2_build (wsX6_at) := ggX2_build_X6_at
set_option maxRecDepth 20000 in
theorem ggX2_build_X6_bit : GoodIn wsX2_build wsX6_bit := goodIn_r _ [16] (by decide +kernel) (by decide +kernel)
set_option maxRecDepth 20000 in
theorem gX2_build_X6_bit_n25 : GoodIn wsX2_build (wsX6_bit) := ggX2_build_X6_bit
set_option maxRecDepth 20000 in
theorem ggX2_build_X2_tie : GoodIn wsX2_build wsX2_tie := goodIn_r _ [20, 11, 21, 22, 23, 13, 24, 32, 33, 34, 35] (by decide +kernel) (by decide +kernel)
set_option maxRecDepth 20000 in
theorem gX2_build_X2_tie : GoodIn wsX2_build (wsV RX2 76 RX2 yX2_tie wsX2_tie) := goodIn_app (goodIn_of _ (by decide +kernel)) ggX2_build_X2_tie
set_option maxRecDepth 20000 in
theorem ggX2_build_X2_addKnots : GoodIn wsX2_build wsX2_addKnots := goodIn_r _ [28, 10, 29, 30, 3, 31, 32, 33, 34, 35] (by decide +kernel) (by decide +kernel)
set_option maxRecDepth 20000 in
theorem gX2_build_X2_addKnots : GoodIn wsX2_build (wsV RX2 83 RX2 yX2_addKnots wsX2_addKnots) := goodIn_app (goodIn_of _ (by decide +kernel)) ggX2_build_X2_addKnots
theorem dX2_build_0 : decode cX2_build 0 = .ok (.aload_n 0, 1) := by decide +kernel
theorem dX2_build_1 : decode cX2_build 1 = .ok (.invokevirtual 73, 3) := by decide +kernel
theorem dX2_build_4 : decode cX2_build 4 = .ok (.iconst (-1), 1) := by decide +kernel
theorem dX2_build_5 : decode cX2_build 5 = .ok (.istore_n 2, 1) := by decide +kernel
theorem dX2_build_6 : decode cX2_build 6 = .ok (.iconst 0, 1) := by decide +kernel
theorem dX2_build_7 : decode cX2_build 7 = .ok (.istore_n 3, 1) := by decide +kernel
theorem dX2_build_8 : decode cX2_build 8 = .ok (.iload_n 3, 1) := by decide +kernel
theorem dX2_build_9 : decode cX2_build 9 = .ok (.iconst 1, 1) := by decide +kernel
theorem dX2_build_10 : decode cX2_build 10 = .ok (.iadd, 1) := by decide +kernel
theorem dX2_build_11 : decode cX2_build 11 = .ok (.aload_n 1, 1) := by decide +kernel
theorem dX2_build_12 : decode cX2_build 12 = .ok (.arraylength, 1) := by decide +kernel
theorem dX2_build_13 : decode cX2_build 13 = .ok (.if_icmp .ge 44, 3) := by decide +kernel
theorem dX2_build_16 : decode cX2_build 16 = .ok (.aload_n 0, 1) := by decide +kernel
theorem dX2_build_17 : decode cX2_build 17 = .ok (.aload_n 1, 1) := by decide +kernel
theorem dX2_build_18 : decode cX2_build 18 = .ok (.iload_n 3, 1) := by decide +kernel
theorem dX2_build_19 : decode cX2_build 19 = .ok (.invokestatic 29, 3) := by decide +kernel
theorem dX2_build_22 : decode cX2_build 22 = .ok (.invokestatic 25, 3) := by decide +kernel
theorem dX2_build_25 : decode cX2_build 25 = .ok (.aload_n 1, 1) := by decide +kernel
theorem dX2_build_26 : decode cX2_build 26 = .ok (.iload_n 3, 1) := by decide +kernel
theorem dX2_build_27 : decode cX2_build 27 = .ok (.iconst 1, 1) := by decide +kernel
theorem dX2_build_28 : decode cX2_build 28 = .ok (.iadd, 1) := by decide +kernel
theorem dX2_build_29 : decode cX2_build 29 = .ok (.invokestatic 29, 3) := by decide +kernel
theorem dX2_build_32 : decode cX2_build 32 = .ok (.invokestatic 25, 3) := by decide +kernel
theorem dX2_build_35 : decode cX2_build 35 = .ok (.ior, 1) := by decide +kernel
theorem dX2_build_36 : decode cX2_build 36 = .ok (.invokevirtual 76, 3) := by decide +kernel
theorem dX2_build_39 : decode cX2_build 39 = .ok (.iload_n 2, 1) := by decide +kernel
theorem dX2_build_40 : decode cX2_build 40 = .ok (.aload_n 1, 1) := by decide +kernel
theorem dX2_build_41 : decode cX2_build 41 = .ok (.iload_n 3, 1) := by decide +kernel
theorem dX2_build_42 : decode cX2_build 42 = .ok (.iconst 1, 1) := by decide +kernel
theorem dX2_build_43 : decode cX2_build 43 = .ok (.iadd, 1) := by decide +kernel
theorem dX2_build_44 : decode cX2_build 44 = .ok (.invokestatic 29, 3) := by decide +kernel
theorem dX2_build_47 : decode cX2_build 47 = .ok (.invokestatic 80, 3) := by decide +kernel
theorem dX2_build_50 : decode cX2_build 50 = .ok (.istore_n 2, 1) := by decide +kernel
theorem dX2_build_51 : decode cX2_build 51 = .ok (.iinc 3 2, 3) := by decide +kernel
theorem dX2_build_54 : decode cX2_build 54 = .ok (.goto (-46), 3) := by decide +kernel
theorem dX2_build_57 : decode cX2_build 57 = .ok (.aload_n 0, 1) := by decide +kernel
theorem dX2_build_58 : decode cX2_build 58 = .ok (.iload_n 2, 1) := by decide +kernel
theorem dX2_build_59 : decode cX2_build 59 = .ok (.iconst 1, 1) := by decide +kernel
theorem dX2_build_60 : decode cX2_build 60 = .ok (.iadd, 1) := by decide +kernel
theorem dX2_build_61 : decode cX2_build 61 = .ok (.invokevirtual 83, 3) := by decide +kernel
theorem dX2_build_64 : decode cX2_build 64 = .ok (.return_, 1) := by decide +kernel
set_option maxRecDepth 20000 in
theorem ggX2_mayTie_X2_find : GoodIn wsX2_mayTie wsX2_find := goodIn_r _ [5, 6, 7, 8, 9, 4, 10, 11, 12, 13, 14, 39, 40, 41, 42] (by decide +kernel) (by decide +kernel)
set_option maxRecDepth 20000 in
theorem gX2_mayTie_X2_find : GoodIn wsX2_mayTie (wsV RX2 86 RX2 yX2_find wsX2_find) := goodIn_app (goodIn_of _ (by decide +kernel)) ggX2_mayTie_X2_find
set_option maxRecDepth 20000 in
theorem ggX2_mayTie_J6_numberOfTrailingZeros_0f7a4 : GoodIn wsX2_mayTie wsJ6_numberOfTrailingZeros_0f7a4 := goodIn_r _ [18, 19] (by decide +kernel) (by decide +kernel)
set_option maxRecDepth 20000 in
theorem gX2_mayTie_J6_numberOfTrailingZeros_0f7a4 : GoodIn wsX2_mayTie (va_wsS RX2 35 yJ6_numberOfTrailingZeros_0f7a4 wsJ6_numberOfTrailingZeros_0f7a4) := goodIn_app (goodIn_of _ (by decide +kernel)) ggX2_mayTie_J6_numberOfTrailingZeros_0f7a4
set_option maxRecDepth 20000 in
theorem ggX2_mayTie_J6_numberOfLeadingZeros_0f7a4 : GoodIn wsX2_mayTie wsJ6_numberOfLeadingZeros_0f7a4 := goodIn_r _ [22, 19] (by decide +kernel) (by decide +kernel)
set_option maxRecDepth 20000 in
theorem gX2_mayTie_J6_numberOfLeadingZeros_0f7a4 : GoodIn wsX2_mayTie (va_wsS RX2 40 yJ6_numberOfLeadingZeros_0f7a4 wsJ6_numberOfLeadingZeros_0f7a4) := goodIn_app (goodIn_of _ (by decide +kernel)) ggX2_mayTie_J6_numberOfLeadingZeros_0f7a4
set_option maxRecDepth 20000 in
theorem ggX2_mayTie_X2_isFullKnot : GoodIn wsX2_mayTie wsX2_isFullKnot := goodIn_r _ [26, 27, 13, 28, 29, 30, 31, 4, 32, 6, 7, 8, 9, 10, 11, 12, 14, 33, 34, 17, 35, 36, 37, 38, 39, 40, 41, 42] (by decide +kernel) (by decide +kernel)
set_option maxRecDepth 20000 in
theorem gX2_mayTie_X2_isFullKnot : GoodIn wsX2_mayTie (wsV RX2 60 RX2 yX2_isFullKnot wsX2_isFullKnot) := goodIn_app (goodIn_of _ (by decide +kernel)) ggX2_mayTie_X2_isFullKnot
theorem dX2_mayTie_0 : decode cX2_mayTie 0 = .ok (.aload_n 0, 1) := by decide +kernel
theorem dX2_mayTie_1 : decode cX2_mayTie 1 = .ok (.iload_n 1, 1) := by decide +kernel
theorem dX2_mayTie_2 : decode cX2_mayTie 2 = .ok (.invokevirtual 86, 3) := by decide +kernel
theorem dX2_mayTie_5 : decode cX2_mayTie 5 = .ok (.ifCond .lt 5, 3) := by decide +kernel
theorem dX2_mayTie_8 : decode cX2_mayTie 8 = .ok (.iconst 0, 1) := by decide +kernel
theorem dX2_mayTie_9 : decode cX2_mayTie 9 = .ok (.ireturn, 1) := by decide +kernel
theorem dX2_mayTie_10 : decode cX2_mayTie 10 = .ok (.iload_n 1, 1) := by decide +kernel
theorem dX2_mayTie_11 : decode cX2_mayTie 11 = .ok (.invokestatic 35, 3) := by decide +kernel
theorem dX2_mayTie_14 : decode cX2_mayTie 14 = .ok (.istore_n 2, 1) := by decide +kernel
theorem dX2_mayTie_15 : decode cX2_mayTie 15 = .ok (.bipush 31, 2) := by decide +kernel
theorem dX2_mayTie_17 : decode cX2_mayTie 17 = .ok (.iload_n 1, 1) := by decide +kernel
theorem dX2_mayTie_18 : decode cX2_mayTie 18 = .ok (.invokestatic 40, 3) := by decide +kernel
theorem dX2_mayTie_21 : decode cX2_mayTie 21 = .ok (.isub, 1) := by decide +kernel
theorem dX2_mayTie_22 : decode cX2_mayTie 22 = .ok (.istore_n 3, 1) := by decide +kernel
theorem dX2_mayTie_23 : decode cX2_mayTie 23 = .ok (.aload_n 0, 1) := by decide +kernel
theorem dX2_mayTie_24 : decode cX2_mayTie 24 = .ok (.iload_n 2, 1) := by decide +kernel
theorem dX2_mayTie_25 : decode cX2_mayTie 25 = .ok (.invokevirtual 60, 3) := by decide +kernel
theorem dX2_mayTie_28 : decode cX2_mayTie 28 = .ok (.ifCond .ne 15, 3) := by decide +kernel
theorem dX2_mayTie_31 : decode cX2_mayTie 31 = .ok (.aload_n 0, 1) := by decide +kernel
theorem dX2_mayTie_32 : decode cX2_mayTie 32 = .ok (.iload_n 3, 1) := by decide +kernel
theorem dX2_mayTie_33 : decode cX2_mayTie 33 = .ok (.invokevirtual 60, 3) := by decide +kernel
theorem dX2_mayTie_36 : decode cX2_mayTie 36 = .ok (.ifCond .ne 7, 3) := by decide +kernel
theorem dX2_mayTie_39 : decode cX2_mayTie 39 = .ok (.iconst 1, 1) := by decide +kernel
theorem dX2_mayTie_40 : decode cX2_mayTie 40 = .ok (.goto 4, 3) := by decide +kernel
theorem dX2_mayTie_43 : decode cX2_mayTie 43 = .ok (.iconst 0, 1) := by decide +kernel
theorem dX2_mayTie_44 : decode cX2_mayTie 44 = .ok (.ireturn, 1) := by decide +kernel
set_option maxRecDepth 20000 in
theorem ggX2_tie_X6_put : GoodIn wsX2_tie wsX6_put := goodIn_r _ [6] (by decide +kernel) (by decide +kernel)
set_option maxRecDepth 20000 in
theorem gX2_tie_X6_put_n43 : GoodIn wsX2_tie (wsX6_put) := ggX2_tie_X6_put
theorem dX2_tie_0 : decode cX2_tie 0 = .ok (.aload_n 0, 1) := by decide +kernel
theorem dX2_tie_1 : decode cX2_tie 1 = .ok (.getfield 15, 3) := by decide +kernel
theorem dX2_tie_4 : decode cX2_tie 4 = .ok (.bipush 21, 2) := by decide +kernel
theorem dX2_tie_6 : decode cX2_tie 6 = .ok (.if_icmp .ge 37, 3) := by decide +kernel
theorem dX2_tie_9 : decode cX2_tie 9 = .ok (.aload_n 0, 1) := by decide +kernel
theorem dX2_tie_10 : decode cX2_tie 10 = .ok (.getfield 18, 3) := by decide +kernel
theorem dX2_tie_13 : decode cX2_tie 13 = .ok (.aload_n 0, 1) := by decide +kernel
theorem dX2_tie_14 : decode cX2_tie 14 = .ok (.getfield 15, 3) := by decide +kernel
theorem dX2_tie_17 : decode cX2_tie 17 = .ok (.iload_n 1, 1) := by decide +kernel
theorem dX2_tie_18 : decode cX2_tie 18 = .ok (.invokestatic 43, 3) := by decide +kernel
theorem dX2_tie_21 : decode cX2_tie 21 = .ok (.aload_n 0, 1) := by decide +kernel
theorem dX2_tie_22 : decode cX2_tie 22 = .ok (.getfield 22, 3) := by decide +kernel
theorem dX2_tie_25 : decode cX2_tie 25 = .ok (.aload_n 0, 1) := by decide +kernel
theorem dX2_tie_26 : decode cX2_tie 26 = .ok (.getfield 15, 3) := by decide +kernel
theorem dX2_tie_29 : decode cX2_tie 29 = .ok (.iconst 3, 1) := by decide +kernel
theorem dX2_tie_30 : decode cX2_tie 30 = .ok (.invokestatic 43, 3) := by decide +kernel
theorem dX2_tie_33 : decode cX2_tie 33 = .ok (.aload_n 0, 1) := by decide +kernel
theorem dX2_tie_34 : decode cX2_tie 34 = .ok (.dup, 1) := by decide +kernel
theorem dX2_tie_35 : decode cX2_tie 35 = .ok (.getfield 15, 3) := by decide +kernel
theorem dX2_tie_38 : decode cX2_tie 38 = .ok (.iconst 1, 1) := by decide +kernel
theorem dX2_tie_39 : decode cX2_tie 39 = .ok (.iadd, 1) := by decide +kernel
theorem dX2_tie_40 : decode cX2_tie 40 = .ok (.putfield 15, 3) := by decide +kernel
theorem dX2_tie_43 : decode cX2_tie 43 = .ok (.return_, 1) := by decide +kernel
set_option maxRecDepth 20000 in
theorem ggX2_dropThread_X2_hasThread : GoodIn wsX2_dropThread wsX2_hasThread := goodIn_r _ [8, 1, 14, 15, 16, 17] (by decide +kernel) (by decide +kernel)
set_option maxRecDepth 20000 in
theorem gX2_dropThread_X2_hasThread : GoodIn wsX2_dropThread (wsV RX2 89 RX2 yX2_hasThread wsX2_hasThread) := goodIn_app (goodIn_of _ (by decide +kernel)) ggX2_dropThread_X2_hasThread
set_option maxRecDepth 20000 in
theorem ggX2_dropThread_X6_at : GoodIn wsX2_dropThread wsX6_at := goodIn_r _ [11] (by decide +kernel) (by decide +kernel)
set_option maxRecDepth 20000 in
theorem gX2_dropThread_X6_at_n29 : GoodIn wsX2_dropThread (wsX6_at) := ggX2_dropThread_X6_at
set_option maxRecDepth 20000 in
theorem ggX2_dropThread_X6_put : GoodIn wsX2_dropThread wsX6_put := goodIn_r _ [13] (by decide +kernel) (by decide +kernel)
set_option maxRecDepth 20000 in
theorem gX2_dropThread_X6_put_n43 : GoodIn wsX2_dropThread (wsX6_put) := ggX2_dropThread_X6_put
theorem dX2_dropThread_0 : decode cX2_dropThread 0 = .ok (.aload_n 0, 1) := by decide +kernel
theorem dX2_dropThread_1 : decode cX2_dropThread 1 = .ok (.iload_n 1, 1) := by decide +kernel
theorem dX2_dropThread_2 : decode cX2_dropThread 2 = .ok (.invokevirtual 89, 3) := by decide +kernel
theorem dX2_dropThread_5 : decode cX2_dropThread 5 = .ok (.ifCond .ne 4, 3) := by decide +kernel
theorem dX2_dropThread_8 : decode cX2_dropThread 8 = .ok (.return_, 1) := by decide +kernel
theorem dX2_dropThread_9 : decode cX2_dropThread 9 = .ok (.iload_n 1, 1) := by decide +kernel
theorem dX2_dropThread_10 : decode cX2_dropThread 10 = .ok (.istore_n 2, 1) := by decide +kernel
theorem dX2_dropThread_11 : decode cX2_dropThread 11 = .ok (.iload_n 2, 1) := by decide +kernel
theorem dX2_dropThread_12 : decode cX2_dropThread 12 = .ok (.iconst 1, 1) := by decide +kernel
theorem dX2_dropThread_13 : decode cX2_dropThread 13 = .ok (.iadd, 1) := by decide +kernel
theorem dX2_dropThread_14 : decode cX2_dropThread 14 = .ok (.aload_n 0, 1) := by decide +kernel
theorem dX2_dropThread_15 : decode cX2_dropThread 15 = .ok (.getfield 15, 3) := by decide +kernel
theorem dX2_dropThread_18 : decode cX2_dropThread 18 = .ok (.if_icmp .ge 45, 3) := by decide +kernel
theorem dX2_dropThread_21 : decode cX2_dropThread 21 = .ok (.aload_n 0, 1) := by decide +kernel
theorem dX2_dropThread_22 : decode cX2_dropThread 22 = .ok (.getfield 18, 3) := by decide +kernel
theorem dX2_dropThread_25 : decode cX2_dropThread 25 = .ok (.iload_n 2, 1) := by decide +kernel
theorem dX2_dropThread_26 : decode cX2_dropThread 26 = .ok (.aload_n 0, 1) := by decide +kernel
theorem dX2_dropThread_27 : decode cX2_dropThread 27 = .ok (.getfield 18, 3) := by decide +kernel
theorem dX2_dropThread_30 : decode cX2_dropThread 30 = .ok (.iload_n 2, 1) := by decide +kernel
theorem dX2_dropThread_31 : decode cX2_dropThread 31 = .ok (.iconst 1, 1) := by decide +kernel
theorem dX2_dropThread_32 : decode cX2_dropThread 32 = .ok (.iadd, 1) := by decide +kernel
theorem dX2_dropThread_33 : decode cX2_dropThread 33 = .ok (.invokestatic 29, 3) := by decide +kernel
theorem dX2_dropThread_36 : decode cX2_dropThread 36 = .ok (.invokestatic 43, 3) := by decide +kernel
theorem dX2_dropThread_39 : decode cX2_dropThread 39 = .ok (.aload_n 0, 1) := by decide +kernel
theorem dX2_dropThread_40 : decode cX2_dropThread 40 = .ok (.getfield 22, 3) := by decide +kernel
theorem dX2_dropThread_43 : decode cX2_dropThread 43 = .ok (.iload_n 2, 1) := by decide +kernel
theorem dX2_dropThread_44 : decode cX2_dropThread 44 = .ok (.aload_n 0, 1) := by decide +kernel
theorem dX2_dropThread_45 : decode cX2_dropThread 45 = .ok (.getfield 22, 3) := by decide +kernel
theorem dX2_dropThread_48 : decode cX2_dropThread 48 = .ok (.iload_n 2, 1) := by decide +kernel
theorem dX2_dropThread_49 : decode cX2_dropThread 49 = .ok (.iconst 1, 1) := by decide +kernel
theorem dX2_dropThread_50 : decode cX2_dropThread 50 = .ok (.iadd, 1) := by decide +kernel
theorem dX2_dropThread_51 : decode cX2_dropThread 51 = .ok (.invokestatic 29, 3) := by decide +kernel
theorem dX2_dropThread_54 : decode cX2_dropThread 54 = .ok (.invokestatic 43, 3) := by decide +kernel
theorem dX2_dropThread_57 : decode cX2_dropThread 57 = .ok (.iinc 2 1, 3) := by decide +kernel
theorem dX2_dropThread_60 : decode cX2_dropThread 60 = .ok (.goto (-49), 3) := by decide +kernel
theorem dX2_dropThread_63 : decode cX2_dropThread 63 = .ok (.aload_n 0, 1) := by decide +kernel
theorem dX2_dropThread_64 : decode cX2_dropThread 64 = .ok (.dup, 1) := by decide +kernel
theorem dX2_dropThread_65 : decode cX2_dropThread 65 = .ok (.getfield 15, 3) := by decide +kernel
theorem dX2_dropThread_68 : decode cX2_dropThread 68 = .ok (.iconst 1, 1) := by decide +kernel
theorem dX2_dropThread_69 : decode cX2_dropThread 69 = .ok (.isub, 1) := by decide +kernel
theorem dX2_dropThread_70 : decode cX2_dropThread 70 = .ok (.putfield 15, 3) := by decide +kernel
theorem dX2_dropThread_73 : decode cX2_dropThread 73 = .ok (.return_, 1) := by decide +kernel
set_option maxRecDepth 20000 in
theorem ggX2_dropThreads_X6_holds : GoodIn wsX2_dropThreads wsX6_holds := goodIn_r _ [4] (by decide +kernel) (by decide +kernel)
set_option maxRecDepth 20000 in
theorem gX2_dropThreads_X6_holds_n50 : GoodIn wsX2_dropThreads (wsX6_holds) := ggX2_dropThreads_X6_holds
set_option maxRecDepth 20000 in
theorem ggX2_dropThreads_X2_dropThread : GoodIn wsX2_dropThreads wsX2_dropThread := goodIn_r _ [9, 1, 10, 11, 12, 13, 14, 8, 15, 16, 3, 17, 18, 19, 20, 21, 22, 23] (by decide +kernel) (by decide +kernel)
set_option maxRecDepth 20000 in
theorem gX2_dropThreads_X2_dropThread : GoodIn wsX2_dropThreads (wsV RX2 92 RX2 yX2_dropThread wsX2_dropThread) := goodIn_app (goodIn_of _ (by decide +kernel)) ggX2_dropThreads_X2_dropThread
theorem dX2_dropThreads_0 : decode cX2_dropThreads 0 = .ok (.aload_n 0, 1) := by decide +kernel
theorem dX2_dropThreads_1 : decode cX2_dropThreads 1 = .ok (.getfield 15, 3) := by decide +kernel
theorem dX2_dropThreads_4 : decode cX2_dropThreads 4 = .ok (.iconst 1, 1) := by decide +kernel
theorem dX2_dropThreads_5 : decode cX2_dropThreads 5 = .ok (.isub, 1) := by decide +kernel
theorem dX2_dropThreads_6 : decode cX2_dropThreads 6 = .ok (.istore_n 2, 1) := by decide +kernel
theorem dX2_dropThreads_7 : decode cX2_dropThreads 7 = .ok (.iload_n 2, 1) := by decide +kernel
theorem dX2_dropThreads_8 : decode cX2_dropThreads 8 = .ok (.ifCond .lt 22, 3) := by decide +kernel
theorem dX2_dropThreads_11 : decode cX2_dropThreads 11 = .ok (.iload_n 1, 1) := by decide +kernel
theorem dX2_dropThreads_12 : decode cX2_dropThreads 12 = .ok (.iload_n 2, 1) := by decide +kernel
theorem dX2_dropThreads_13 : decode cX2_dropThreads 13 = .ok (.invokestatic 50, 3) := by decide +kernel
theorem dX2_dropThreads_16 : decode cX2_dropThreads 16 = .ok (.ifCond .eq 8, 3) := by decide +kernel
theorem dX2_dropThreads_19 : decode cX2_dropThreads 19 = .ok (.aload_n 0, 1) := by decide +kernel
theorem dX2_dropThreads_20 : decode cX2_dropThreads 20 = .ok (.iload_n 2, 1) := by decide +kernel
theorem dX2_dropThreads_21 : decode cX2_dropThreads 21 = .ok (.invokevirtual 92, 3) := by decide +kernel
theorem dX2_dropThreads_24 : decode cX2_dropThreads 24 = .ok (.iinc 2 (-1), 3) := by decide +kernel
theorem dX2_dropThreads_27 : decode cX2_dropThreads 27 = .ok (.goto (-20), 3) := by decide +kernel
theorem dX2_dropThreads_30 : decode cX2_dropThreads 30 = .ok (.return_, 1) := by decide +kernel
set_option maxRecDepth 20000 in
theorem ggX2_dropKnot_X2_hasKnot : GoodIn wsX2_dropKnot wsX2_hasKnot := goodIn_r _ [8, 3, 39, 40, 41, 42] (by decide +kernel) (by decide +kernel)
set_option maxRecDepth 20000 in
theorem gX2_dropKnot_X2_hasKnot : GoodIn wsX2_dropKnot (wsV RX2 95 RX2 yX2_hasKnot wsX2_hasKnot) := goodIn_app (goodIn_of _ (by decide +kernel)) ggX2_dropKnot_X2_hasKnot
set_option maxRecDepth 20000 in
theorem ggX2_dropKnot_X6_bit : GoodIn wsX2_dropKnot wsX6_bit := goodIn_r _ [11] (by decide +kernel) (by decide +kernel)
set_option maxRecDepth 20000 in
theorem gX2_dropKnot_X6_bit_n25 : GoodIn wsX2_dropKnot (wsX6_bit) := ggX2_dropKnot_X6_bit
set_option maxRecDepth 20000 in
theorem ggX2_dropKnot_X2_threadsAt : GoodIn wsX2_dropKnot wsX2_threadsAt := goodIn_r _ [15, 1, 16, 17, 18, 7, 19, 2, 20, 10, 21, 9, 11, 39, 40, 41, 42] (by decide +kernel) (by decide +kernel)
set_option maxRecDepth 20000 in
theorem gX2_dropKnot_X2_threadsAt : GoodIn wsX2_dropKnot (wsV RX2 54 RX2 yX2_threadsAt wsX2_threadsAt) := goodIn_app (goodIn_of _ (by decide +kernel)) ggX2_dropKnot_X2_threadsAt
set_option maxRecDepth 20000 in
theorem ggX2_dropKnot_X2_dropThreads : GoodIn wsX2_dropKnot wsX2_dropThreads := goodIn_r _ [25, 1, 26, 10, 27, 28, 29, 30, 7, 31, 2, 32, 33, 34, 35, 36, 20, 21, 37, 38, 39, 40, 41, 42] (by decide +kernel) (by decide +kernel)
set_option maxRecDepth 20000 in
theorem gX2_dropKnot_X2_dropThreads : GoodIn wsX2_dropKnot (wsV RX2 98 RX2 yX2_dropThreads wsX2_dropThreads) := goodIn_app (goodIn_of _ (by decide +kernel)) ggX2_dropKnot_X2_dropThreads
set_option maxRecDepth 20000 in
theorem ggX2_dropKnot_X2_ends : GoodIn wsX2_dropKnot wsX2_ends := goodIn_r _ [19, 2, 20, 10, 21, 39, 40, 41, 42] (by decide +kernel) (by decide +kernel)
set_option maxRecDepth 20000 in
theorem gX2_dropKnot_X2_ends : GoodIn wsX2_dropKnot (wsV RX2 33 RX2 yX2_ends wsX2_ends) := goodIn_app (goodIn_of _ (by decide +kernel)) ggX2_dropKnot_X2_ends
set_option maxRecDepth 20000 in
theorem ggX2_dropKnot_X6_put : GoodIn wsX2_dropKnot wsX6_put := goodIn_r _ [38] (by decide +kernel) (by decide +kernel)
set_option maxRecDepth 20000 in
theorem gX2_dropKnot_X6_put_n43 : GoodIn wsX2_dropKnot (wsX6_put) := ggX2_dropKnot_X6_put
theorem dX2_dropKnot_0 : decode cX2_dropKnot 0 = .ok (.aload_n 0, 1) := by decide +kernel
theorem dX2_dropKnot_1 : decode cX2_dropKnot 1 = .ok (.iload_n 1, 1) := by decide +kernel
theorem dX2_dropKnot_2 : decode cX2_dropKnot 2 = .ok (.invokevirtual 95, 3) := by decide +kernel
theorem dX2_dropKnot_5 : decode cX2_dropKnot 5 = .ok (.ifCond .ne 4, 3) := by decide +kernel
theorem dX2_dropKnot_8 : decode cX2_dropKnot 8 = .ok (.return_, 1) := by decide +kernel
theorem dX2_dropKnot_9 : decode cX2_dropKnot 9 = .ok (.aload_n 0, 1) := by decide +kernel
theorem dX2_dropKnot_10 : decode cX2_dropKnot 10 = .ok (.aload_n 0, 1) := by decide +kernel
theorem dX2_dropKnot_11 : decode cX2_dropKnot 11 = .ok (.iload_n 1, 1) := by decide +kernel
theorem dX2_dropKnot_12 : decode cX2_dropKnot 12 = .ok (.invokestatic 25, 3) := by decide +kernel
theorem dX2_dropKnot_15 : decode cX2_dropKnot 15 = .ok (.invokevirtual 54, 3) := by decide +kernel
theorem dX2_dropKnot_18 : decode cX2_dropKnot 18 = .ok (.invokevirtual 98, 3) := by decide +kernel
theorem dX2_dropKnot_21 : decode cX2_dropKnot 21 = .ok (.iload_n 1, 1) := by decide +kernel
theorem dX2_dropKnot_22 : decode cX2_dropKnot 22 = .ok (.invokestatic 25, 3) := by decide +kernel
theorem dX2_dropKnot_25 : decode cX2_dropKnot 25 = .ok (.iconst 1, 1) := by decide +kernel
theorem dX2_dropKnot_26 : decode cX2_dropKnot 26 = .ok (.isub, 1) := by decide +kernel
theorem dX2_dropKnot_27 : decode cX2_dropKnot 27 = .ok (.istore_n 2, 1) := by decide +kernel
theorem dX2_dropKnot_28 : decode cX2_dropKnot 28 = .ok (.iconst 0, 1) := by decide +kernel
theorem dX2_dropKnot_29 : decode cX2_dropKnot 29 = .ok (.istore_n 3, 1) := by decide +kernel
theorem dX2_dropKnot_30 : decode cX2_dropKnot 30 = .ok (.iload_n 3, 1) := by decide +kernel
theorem dX2_dropKnot_31 : decode cX2_dropKnot 31 = .ok (.aload_n 0, 1) := by decide +kernel
theorem dX2_dropKnot_32 : decode cX2_dropKnot 32 = .ok (.getfield 15, 3) := by decide +kernel
theorem dX2_dropKnot_35 : decode cX2_dropKnot 35 = .ok (.if_icmp .ge 37, 3) := by decide +kernel
theorem dX2_dropKnot_38 : decode cX2_dropKnot 38 = .ok (.aload_n 0, 1) := by decide +kernel
theorem dX2_dropKnot_39 : decode cX2_dropKnot 39 = .ok (.iload_n 3, 1) := by decide +kernel
theorem dX2_dropKnot_40 : decode cX2_dropKnot 40 = .ok (.invokevirtual 33, 3) := by decide +kernel
theorem dX2_dropKnot_43 : decode cX2_dropKnot 43 = .ok (.istore 4, 2) := by decide +kernel
theorem dX2_dropKnot_45 : decode cX2_dropKnot 45 = .ok (.aload_n 0, 1) := by decide +kernel
theorem dX2_dropKnot_46 : decode cX2_dropKnot 46 = .ok (.getfield 18, 3) := by decide +kernel
theorem dX2_dropKnot_49 : decode cX2_dropKnot 49 = .ok (.iload_n 3, 1) := by decide +kernel
theorem dX2_dropKnot_50 : decode cX2_dropKnot 50 = .ok (.iload 4, 2) := by decide +kernel
theorem dX2_dropKnot_52 : decode cX2_dropKnot 52 = .ok (.iload_n 2, 1) := by decide +kernel
theorem dX2_dropKnot_53 : decode cX2_dropKnot 53 = .ok (.iand, 1) := by decide +kernel
theorem dX2_dropKnot_54 : decode cX2_dropKnot 54 = .ok (.iload 4, 2) := by decide +kernel
theorem dX2_dropKnot_56 : decode cX2_dropKnot 56 = .ok (.iconst 1, 1) := by decide +kernel
theorem dX2_dropKnot_57 : decode cX2_dropKnot 57 = .ok (.ishr, 1) := by decide +kernel
theorem dX2_dropKnot_58 : decode cX2_dropKnot 58 = .ok (.iload_n 2, 1) := by decide +kernel
theorem dX2_dropKnot_59 : decode cX2_dropKnot 59 = .ok (.iconst (-1), 1) := by decide +kernel
theorem dX2_dropKnot_60 : decode cX2_dropKnot 60 = .ok (.ixor, 1) := by decide +kernel
theorem dX2_dropKnot_61 : decode cX2_dropKnot 61 = .ok (.iand, 1) := by decide +kernel
theorem dX2_dropKnot_62 : decode cX2_dropKnot 62 = .ok (.ior, 1) := by decide +kernel
theorem dX2_dropKnot_63 : decode cX2_dropKnot 63 = .ok (.invokestatic 43, 3) := by decide +kernel
theorem dX2_dropKnot_66 : decode cX2_dropKnot 66 = .ok (.iinc 3 1, 3) := by decide +kernel
theorem dX2_dropKnot_69 : decode cX2_dropKnot 69 = .ok (.goto (-39), 3) := by decide +kernel
theorem dX2_dropKnot_72 : decode cX2_dropKnot 72 = .ok (.aload_n 0, 1) := by decide +kernel
theorem dX2_dropKnot_73 : decode cX2_dropKnot 73 = .ok (.dup, 1) := by decide +kernel
theorem dX2_dropKnot_74 : decode cX2_dropKnot 74 = .ok (.getfield 9, 3) := by decide +kernel
theorem dX2_dropKnot_77 : decode cX2_dropKnot 77 = .ok (.iconst 1, 1) := by decide +kernel
theorem dX2_dropKnot_78 : decode cX2_dropKnot 78 = .ok (.isub, 1) := by decide +kernel
theorem dX2_dropKnot_79 : decode cX2_dropKnot 79 = .ok (.putfield 9, 3) := by decide +kernel
theorem dX2_dropKnot_82 : decode cX2_dropKnot 82 = .ok (.return_, 1) := by decide +kernel
set_option maxRecDepth 20000 in
theorem ggX2_moveEnd_X2_ends : GoodIn wsX2_moveEnd wsX2_ends := goodIn_r _ [6, 1, 7, 8, 9, 14, 15, 16, 17] (by decide +kernel) (by decide +kernel)
set_option maxRecDepth 20000 in
theorem gX2_moveEnd_X2_ends : GoodIn wsX2_moveEnd (wsV RX2 33 RX2 yX2_ends wsX2_ends) := goodIn_app (goodIn_of _ (by decide +kernel)) ggX2_moveEnd_X2_ends
set_option maxRecDepth 20000 in
theorem ggX2_moveEnd_X6_bit : GoodIn wsX2_moveEnd wsX6_bit := goodIn_r _ [11] (by decide +kernel) (by decide +kernel)
set_option maxRecDepth 20000 in
theorem gX2_moveEnd_X6_bit_n25 : GoodIn wsX2_moveEnd (wsX6_bit) := ggX2_moveEnd_X6_bit
set_option maxRecDepth 20000 in
theorem ggX2_moveEnd_X6_put : GoodIn wsX2_moveEnd wsX6_put := goodIn_r _ [13] (by decide +kernel) (by decide +kernel)
set_option maxRecDepth 20000 in
theorem gX2_moveEnd_X6_put_n43 : GoodIn wsX2_moveEnd (wsX6_put) := ggX2_moveEnd_X6_put
theorem dX2_moveEnd_0 : decode cX2_moveEnd 0 = .ok (.aload_n 0, 1) := by decide +kernel
theorem dX2_moveEnd_1 : decode cX2_moveEnd 1 = .ok (.getfield 18, 3) := by decide +kernel
theorem dX2_moveEnd_4 : decode cX2_moveEnd 4 = .ok (.iload_n 1, 1) := by decide +kernel
theorem dX2_moveEnd_5 : decode cX2_moveEnd 5 = .ok (.aload_n 0, 1) := by decide +kernel
theorem dX2_moveEnd_6 : decode cX2_moveEnd 6 = .ok (.iload_n 1, 1) := by decide +kernel
theorem dX2_moveEnd_7 : decode cX2_moveEnd 7 = .ok (.invokevirtual 33, 3) := by decide +kernel
theorem dX2_moveEnd_10 : decode cX2_moveEnd 10 = .ok (.iload_n 2, 1) := by decide +kernel
theorem dX2_moveEnd_11 : decode cX2_moveEnd 11 = .ok (.invokestatic 25, 3) := by decide +kernel
theorem dX2_moveEnd_14 : decode cX2_moveEnd 14 = .ok (.iconst (-1), 1) := by decide +kernel
theorem dX2_moveEnd_15 : decode cX2_moveEnd 15 = .ok (.ixor, 1) := by decide +kernel
theorem dX2_moveEnd_16 : decode cX2_moveEnd 16 = .ok (.iand, 1) := by decide +kernel
theorem dX2_moveEnd_17 : decode cX2_moveEnd 17 = .ok (.iload_n 3, 1) := by decide +kernel
theorem dX2_moveEnd_18 : decode cX2_moveEnd 18 = .ok (.invokestatic 25, 3) := by decide +kernel
theorem dX2_moveEnd_21 : decode cX2_moveEnd 21 = .ok (.ior, 1) := by decide +kernel
theorem dX2_moveEnd_22 : decode cX2_moveEnd 22 = .ok (.invokestatic 43, 3) := by decide +kernel
theorem dX2_moveEnd_25 : decode cX2_moveEnd 25 = .ok (.return_, 1) := by decide +kernel
set_option maxRecDepth 20000 in
theorem ggX2_growInto_X6_bit : GoodIn wsX2_growInto wsX6_bit := goodIn_r _ [4] (by decide +kernel) (by decide +kernel)
set_option maxRecDepth 20000 in
theorem gX2_growInto_X6_bit_n25 : GoodIn wsX2_growInto (wsX6_bit) := ggX2_growInto_X6_bit
set_option maxRecDepth 20000 in
theorem ggX2_growInto_X2_threadsAt : GoodIn wsX2_growInto wsX2_threadsAt := goodIn_r _ [9, 10, 11, 12, 13, 8, 14, 15, 16, 3, 17, 2, 4, 42, 43, 44, 45] (by decide +kernel) (by decide +kernel)
set_option maxRecDepth 20000 in
theorem gX2_growInto_X2_threadsAt : GoodIn wsX2_growInto (wsV RX2 54 RX2 yX2_threadsAt wsX2_threadsAt) := goodIn_app (goodIn_of _ (by decide +kernel)) ggX2_growInto_X2_threadsAt
set_option maxRecDepth 20000 in
theorem ggX2_growInto_X2_addKnots : GoodIn wsX2_growInto wsX2_addKnots := goodIn_r _ [21, 1, 22, 23, 24, 25, 42, 43, 44, 45] (by decide +kernel) (by decide +kernel)
set_option maxRecDepth 20000 in
theorem gX2_growInto_X2_addKnots : GoodIn wsX2_growInto (wsV RX2 83 RX2 yX2_addKnots wsX2_addKnots) := goodIn_app (goodIn_of _ (by decide +kernel)) ggX2_growInto_X2_addKnots
set_option maxRecDepth 20000 in
theorem ggX2_growInto_J6_numberOfTrailingZeros_0f7a4 : GoodIn wsX2_growInto wsJ6_numberOfTrailingZeros_0f7a4 := goodIn_r _ [29, 30] (by decide +kernel) (by decide +kernel)
set_option maxRecDepth 20000 in
theorem gX2_growInto_J6_numberOfTrailingZeros_0f7a4 : GoodIn wsX2_growInto (va_wsS RX2 35 yJ6_numberOfTrailingZeros_0f7a4 wsJ6_numberOfTrailingZeros_0f7a4) := goodIn_app (goodIn_of _ (by decide +kernel)) ggX2_growInto_J6_numberOfTrailingZeros_0f7a4
set_option maxRecDepth 20000 in
theorem ggX2_growInto_X2_moveEnd : GoodIn wsX2_growInto wsX2_moveEnd := goodIn_r _ [34, 15, 11, 12, 13, 8, 14, 16, 3, 17, 2, 4, 35, 36, 42, 43, 44, 45] (by decide +kernel) (by decide +kernel)
set_option maxRecDepth 20000 in
theorem gX2_growInto_X2_moveEnd : GoodIn wsX2_growInto (wsV RX2 101 RX2 yX2_moveEnd wsX2_moveEnd) := goodIn_app (goodIn_of _ (by decide +kernel)) ggX2_growInto_X2_moveEnd
set_option maxRecDepth 20000 in
theorem ggX2_growInto_X2_tie : GoodIn wsX2_growInto wsX2_tie := goodIn_r _ [40, 10, 15, 41, 35, 3, 36, 42, 43, 44, 45] (by decide +kernel) (by decide +kernel)
set_option maxRecDepth 20000 in
theorem gX2_growInto_X2_tie : GoodIn wsX2_growInto (wsV RX2 76 RX2 yX2_tie wsX2_tie) := goodIn_app (goodIn_of _ (by decide +kernel)) ggX2_growInto_X2_tie
theorem dX2_growInto_0 : decode cX2_growInto 0 = .ok (.aload_n 0, 1) := by decide +kernel
theorem dX2_growInto_1 : decode cX2_growInto 1 = .ok (.getfield 9, 3) := by decide +kernel
theorem dX2_growInto_4 : decode cX2_growInto 4 = .ok (.istore_n 2, 1) := by decide +kernel
theorem dX2_growInto_5 : decode cX2_growInto 5 = .ok (.aload_n 0, 1) := by decide +kernel
theorem dX2_growInto_6 : decode cX2_growInto 6 = .ok (.getfield 9, 3) := by decide +kernel
theorem dX2_growInto_9 : decode cX2_growInto 9 = .ok (.iconst 1, 1) := by decide +kernel
theorem dX2_growInto_10 : decode cX2_growInto 10 = .ok (.iadd, 1) := by decide +kernel
theorem dX2_growInto_11 : decode cX2_growInto 11 = .ok (.istore_n 3, 1) := by decide +kernel
theorem dX2_growInto_12 : decode cX2_growInto 12 = .ok (.aload_n 0, 1) := by decide +kernel
theorem dX2_growInto_13 : decode cX2_growInto 13 = .ok (.iload_n 1, 1) := by decide +kernel
theorem dX2_growInto_14 : decode cX2_growInto 14 = .ok (.invokestatic 25, 3) := by decide +kernel
theorem dX2_growInto_17 : decode cX2_growInto 17 = .ok (.invokevirtual 54, 3) := by decide +kernel
theorem dX2_growInto_20 : decode cX2_growInto 20 = .ok (.istore 4, 2) := by decide +kernel
theorem dX2_growInto_22 : decode cX2_growInto 22 = .ok (.iload 4, 2) := by decide +kernel
theorem dX2_growInto_24 : decode cX2_growInto 24 = .ok (.iload 4, 2) := by decide +kernel
theorem dX2_growInto_26 : decode cX2_growInto 26 = .ok (.iconst 1, 1) := by decide +kernel
theorem dX2_growInto_27 : decode cX2_growInto 27 = .ok (.isub, 1) := by decide +kernel
theorem dX2_growInto_28 : decode cX2_growInto 28 = .ok (.iand, 1) := by decide +kernel
theorem dX2_growInto_29 : decode cX2_growInto 29 = .ok (.istore 5, 2) := by decide +kernel
theorem dX2_growInto_31 : decode cX2_growInto 31 = .ok (.iload 5, 2) := by decide +kernel
theorem dX2_growInto_33 : decode cX2_growInto 33 = .ok (.iload 5, 2) := by decide +kernel
theorem dX2_growInto_35 : decode cX2_growInto 35 = .ok (.iconst 1, 1) := by decide +kernel
theorem dX2_growInto_36 : decode cX2_growInto 36 = .ok (.isub, 1) := by decide +kernel
theorem dX2_growInto_37 : decode cX2_growInto 37 = .ok (.iand, 1) := by decide +kernel
theorem dX2_growInto_38 : decode cX2_growInto 38 = .ok (.istore 6, 2) := by decide +kernel
theorem dX2_growInto_40 : decode cX2_growInto 40 = .ok (.aload_n 0, 1) := by decide +kernel
theorem dX2_growInto_41 : decode cX2_growInto 41 = .ok (.iconst 2, 1) := by decide +kernel
theorem dX2_growInto_42 : decode cX2_growInto 42 = .ok (.invokevirtual 83, 3) := by decide +kernel
theorem dX2_growInto_45 : decode cX2_growInto 45 = .ok (.aload_n 0, 1) := by decide +kernel
theorem dX2_growInto_46 : decode cX2_growInto 46 = .ok (.iload 5, 2) := by decide +kernel
theorem dX2_growInto_48 : decode cX2_growInto 48 = .ok (.invokestatic 35, 3) := by decide +kernel
theorem dX2_growInto_51 : decode cX2_growInto 51 = .ok (.iload_n 1, 1) := by decide +kernel
theorem dX2_growInto_52 : decode cX2_growInto 52 = .ok (.iload_n 2, 1) := by decide +kernel
theorem dX2_growInto_53 : decode cX2_growInto 53 = .ok (.invokevirtual 101, 3) := by decide +kernel
theorem dX2_growInto_56 : decode cX2_growInto 56 = .ok (.aload_n 0, 1) := by decide +kernel
theorem dX2_growInto_57 : decode cX2_growInto 57 = .ok (.iload 6, 2) := by decide +kernel
theorem dX2_growInto_59 : decode cX2_growInto 59 = .ok (.invokestatic 35, 3) := by decide +kernel
theorem dX2_growInto_62 : decode cX2_growInto 62 = .ok (.iload_n 1, 1) := by decide +kernel
theorem dX2_growInto_63 : decode cX2_growInto 63 = .ok (.iload_n 3, 1) := by decide +kernel
theorem dX2_growInto_64 : decode cX2_growInto 64 = .ok (.invokevirtual 101, 3) := by decide +kernel
theorem dX2_growInto_67 : decode cX2_growInto 67 = .ok (.aload_n 0, 1) := by decide +kernel
theorem dX2_growInto_68 : decode cX2_growInto 68 = .ok (.iload_n 1, 1) := by decide +kernel
theorem dX2_growInto_69 : decode cX2_growInto 69 = .ok (.invokestatic 25, 3) := by decide +kernel
theorem dX2_growInto_72 : decode cX2_growInto 72 = .ok (.iload_n 2, 1) := by decide +kernel
theorem dX2_growInto_73 : decode cX2_growInto 73 = .ok (.invokestatic 25, 3) := by decide +kernel
theorem dX2_growInto_76 : decode cX2_growInto 76 = .ok (.ior, 1) := by decide +kernel
theorem dX2_growInto_77 : decode cX2_growInto 77 = .ok (.invokevirtual 76, 3) := by decide +kernel
theorem dX2_growInto_80 : decode cX2_growInto 80 = .ok (.aload_n 0, 1) := by decide +kernel
theorem dX2_growInto_81 : decode cX2_growInto 81 = .ok (.iload_n 1, 1) := by decide +kernel
theorem dX2_growInto_82 : decode cX2_growInto 82 = .ok (.invokestatic 25, 3) := by decide +kernel
theorem dX2_growInto_85 : decode cX2_growInto 85 = .ok (.iload_n 3, 1) := by decide +kernel
theorem dX2_growInto_86 : decode cX2_growInto 86 = .ok (.invokestatic 25, 3) := by decide +kernel
theorem dX2_growInto_89 : decode cX2_growInto 89 = .ok (.ior, 1) := by decide +kernel
theorem dX2_growInto_90 : decode cX2_growInto 90 = .ok (.invokevirtual 76, 3) := by decide +kernel
theorem dX2_growInto_93 : decode cX2_growInto 93 = .ok (.aload_n 0, 1) := by decide +kernel
theorem dX2_growInto_94 : decode cX2_growInto 94 = .ok (.iload_n 2, 1) := by decide +kernel
theorem dX2_growInto_95 : decode cX2_growInto 95 = .ok (.invokestatic 25, 3) := by decide +kernel
theorem dX2_growInto_98 : decode cX2_growInto 98 = .ok (.iload_n 3, 1) := by decide +kernel
theorem dX2_growInto_99 : decode cX2_growInto 99 = .ok (.invokestatic 25, 3) := by decide +kernel
theorem dX2_growInto_102 : decode cX2_growInto 102 = .ok (.ior, 1) := by decide +kernel
theorem dX2_growInto_103 : decode cX2_growInto 103 = .ok (.invokevirtual 76, 3) := by decide +kernel
theorem dX2_growInto_106 : decode cX2_growInto 106 = .ok (.return_, 1) := by decide +kernel
set_option maxRecDepth 20000 in
theorem ggX2_bridgeOver_X2_greaterKnot : GoodIn wsX2_bridgeOver wsX2_greaterKnot := goodIn_r _ [6, 7, 8, 9, 5, 10, 11, 12, 13, 14, 15, 16, 17, 18, 19, 42, 43, 44, 45] (by decide +kernel) (by decide +kernel)
set_option maxRecDepth 20000 in
theorem gX2_bridgeOver_X2_greaterKnot : GoodIn wsX2_bridgeOver (wsV RX2 105 RX2 yX2_greaterKnot wsX2_greaterKnot) := goodIn_app (goodIn_of _ (by decide +kernel)) ggX2_bridgeOver_X2_greaterKnot
set_option maxRecDepth 20000 in
theorem ggX2_bridgeOver_X2_addKnots : GoodIn wsX2_bridgeOver wsX2_addKnots := goodIn_r _ [23, 1, 24, 25, 26, 27, 42, 43, 44, 45] (by decide +kernel) (by decide +kernel)
set_option maxRecDepth 20000 in
theorem gX2_bridgeOver_X2_addKnots : GoodIn wsX2_bridgeOver (wsV RX2 83 RX2 yX2_addKnots wsX2_addKnots) := goodIn_app (goodIn_of _ (by decide +kernel)) ggX2_bridgeOver_X2_addKnots
set_option maxRecDepth 20000 in
theorem ggX2_bridgeOver_X2_moveEnd : GoodIn wsX2_bridgeOver wsX2_moveEnd := goodIn_r _ [31, 11, 7, 8, 9, 5, 10, 12, 13, 14, 32, 33, 34, 35, 42, 43, 44, 45] (by decide +kernel) (by decide +kernel)
set_option maxRecDepth 20000 in
theorem gX2_bridgeOver_X2_moveEnd : GoodIn wsX2_bridgeOver (wsV RX2 101 RX2 yX2_moveEnd wsX2_moveEnd) := goodIn_app (goodIn_of _ (by decide +kernel)) ggX2_bridgeOver_X2_moveEnd
set_option maxRecDepth 20000 in
theorem ggX2_bridgeOver_X6_bit : GoodIn wsX2_bridgeOver wsX6_bit := goodIn_r _ [33] (by decide +kernel) (by decide +kernel)
set_option maxRecDepth 20000 in
theorem gX2_bridgeOver_X6_bit_n25 : GoodIn wsX2_bridgeOver (wsX6_bit) := ggX2_bridgeOver_X6_bit
set_option maxRecDepth 20000 in
theorem ggX2_bridgeOver_X2_tie : GoodIn wsX2_bridgeOver wsX2_tie := goodIn_r _ [39, 40, 11, 41, 34, 13, 35, 42, 43, 44, 45] (by decide +kernel) (by decide +kernel)
set_option maxRecDepth 20000 in
theorem gX2_bridgeOver_X2_tie : GoodIn wsX2_bridgeOver (wsV RX2 76 RX2 yX2_tie wsX2_tie) := goodIn_app (goodIn_of _ (by decide +kernel)) ggX2_bridgeOver_X2_tie
theorem dX2_bridgeOver_0 : decode cX2_bridgeOver 0 = .ok (.aload_n 0, 1) := by decide +kernel
theorem dX2_bridgeOver_1 : decode cX2_bridgeOver 1 = .ok (.getfield 9, 3) := by decide +kernel
theorem dX2_bridgeOver_4 : decode cX2_bridgeOver 4 = .ok (.istore_n 3, 1) := by decide +kernel
theorem dX2_bridgeOver_5 : decode cX2_bridgeOver 5 = .ok (.aload_n 0, 1) := by decide +kernel
theorem dX2_bridgeOver_6 : decode cX2_bridgeOver 6 = .ok (.getfield 9, 3) := by decide +kernel
theorem dX2_bridgeOver_9 : decode cX2_bridgeOver 9 = .ok (.iconst 1, 1) := by decide +kernel
theorem dX2_bridgeOver_10 : decode cX2_bridgeOver 10 = .ok (.iadd, 1) := by decide +kernel
theorem dX2_bridgeOver_11 : decode cX2_bridgeOver 11 = .ok (.istore 4, 2) := by decide +kernel
theorem dX2_bridgeOver_13 : decode cX2_bridgeOver 13 = .ok (.aload_n 0, 1) := by decide +kernel
theorem dX2_bridgeOver_14 : decode cX2_bridgeOver 14 = .ok (.iload_n 1, 1) := by decide +kernel
theorem dX2_bridgeOver_15 : decode cX2_bridgeOver 15 = .ok (.invokevirtual 105, 3) := by decide +kernel
theorem dX2_bridgeOver_18 : decode cX2_bridgeOver 18 = .ok (.istore 5, 2) := by decide +kernel
theorem dX2_bridgeOver_20 : decode cX2_bridgeOver 20 = .ok (.aload_n 0, 1) := by decide +kernel
theorem dX2_bridgeOver_21 : decode cX2_bridgeOver 21 = .ok (.iload_n 2, 1) := by decide +kernel
theorem dX2_bridgeOver_22 : decode cX2_bridgeOver 22 = .ok (.invokevirtual 105, 3) := by decide +kernel
theorem dX2_bridgeOver_25 : decode cX2_bridgeOver 25 = .ok (.istore 6, 2) := by decide +kernel
theorem dX2_bridgeOver_27 : decode cX2_bridgeOver 27 = .ok (.aload_n 0, 1) := by decide +kernel
theorem dX2_bridgeOver_28 : decode cX2_bridgeOver 28 = .ok (.iconst 2, 1) := by decide +kernel
theorem dX2_bridgeOver_29 : decode cX2_bridgeOver 29 = .ok (.invokevirtual 83, 3) := by decide +kernel
theorem dX2_bridgeOver_32 : decode cX2_bridgeOver 32 = .ok (.aload_n 0, 1) := by decide +kernel
theorem dX2_bridgeOver_33 : decode cX2_bridgeOver 33 = .ok (.iload_n 1, 1) := by decide +kernel
theorem dX2_bridgeOver_34 : decode cX2_bridgeOver 34 = .ok (.iload 5, 2) := by decide +kernel
theorem dX2_bridgeOver_36 : decode cX2_bridgeOver 36 = .ok (.iload_n 3, 1) := by decide +kernel
theorem dX2_bridgeOver_37 : decode cX2_bridgeOver 37 = .ok (.invokevirtual 101, 3) := by decide +kernel
theorem dX2_bridgeOver_40 : decode cX2_bridgeOver 40 = .ok (.aload_n 0, 1) := by decide +kernel
theorem dX2_bridgeOver_41 : decode cX2_bridgeOver 41 = .ok (.iload_n 2, 1) := by decide +kernel
theorem dX2_bridgeOver_42 : decode cX2_bridgeOver 42 = .ok (.iload 6, 2) := by decide +kernel
theorem dX2_bridgeOver_44 : decode cX2_bridgeOver 44 = .ok (.iload 4, 2) := by decide +kernel
theorem dX2_bridgeOver_46 : decode cX2_bridgeOver 46 = .ok (.invokevirtual 101, 3) := by decide +kernel
theorem dX2_bridgeOver_49 : decode cX2_bridgeOver 49 = .ok (.aload_n 0, 1) := by decide +kernel
theorem dX2_bridgeOver_50 : decode cX2_bridgeOver 50 = .ok (.iload_n 3, 1) := by decide +kernel
theorem dX2_bridgeOver_51 : decode cX2_bridgeOver 51 = .ok (.invokestatic 25, 3) := by decide +kernel
theorem dX2_bridgeOver_54 : decode cX2_bridgeOver 54 = .ok (.iload 5, 2) := by decide +kernel
theorem dX2_bridgeOver_56 : decode cX2_bridgeOver 56 = .ok (.invokestatic 25, 3) := by decide +kernel
theorem dX2_bridgeOver_59 : decode cX2_bridgeOver 59 = .ok (.ior, 1) := by decide +kernel
theorem dX2_bridgeOver_60 : decode cX2_bridgeOver 60 = .ok (.invokevirtual 76, 3) := by decide +kernel
theorem dX2_bridgeOver_63 : decode cX2_bridgeOver 63 = .ok (.aload_n 0, 1) := by decide +kernel
theorem dX2_bridgeOver_64 : decode cX2_bridgeOver 64 = .ok (.iload 4, 2) := by decide +kernel
theorem dX2_bridgeOver_66 : decode cX2_bridgeOver 66 = .ok (.invokestatic 25, 3) := by decide +kernel
theorem dX2_bridgeOver_69 : decode cX2_bridgeOver 69 = .ok (.iload 6, 2) := by decide +kernel
theorem dX2_bridgeOver_71 : decode cX2_bridgeOver 71 = .ok (.invokestatic 25, 3) := by decide +kernel
theorem dX2_bridgeOver_74 : decode cX2_bridgeOver 74 = .ok (.ior, 1) := by decide +kernel
theorem dX2_bridgeOver_75 : decode cX2_bridgeOver 75 = .ok (.invokevirtual 76, 3) := by decide +kernel
theorem dX2_bridgeOver_78 : decode cX2_bridgeOver 78 = .ok (.aload_n 0, 1) := by decide +kernel
theorem dX2_bridgeOver_79 : decode cX2_bridgeOver 79 = .ok (.iload_n 3, 1) := by decide +kernel
theorem dX2_bridgeOver_80 : decode cX2_bridgeOver 80 = .ok (.invokestatic 25, 3) := by decide +kernel
theorem dX2_bridgeOver_83 : decode cX2_bridgeOver 83 = .ok (.iload 4, 2) := by decide +kernel
theorem dX2_bridgeOver_85 : decode cX2_bridgeOver 85 = .ok (.invokestatic 25, 3) := by decide +kernel
theorem dX2_bridgeOver_88 : decode cX2_bridgeOver 88 = .ok (.ior, 1) := by decide +kernel
theorem dX2_bridgeOver_89 : decode cX2_bridgeOver 89 = .ok (.invokevirtual 76, 3) := by decide +kernel
theorem dX2_bridgeOver_92 : decode cX2_bridgeOver 92 = .ok (.return_, 1) := by decide +kernel
set_option maxRecDepth 20000 in
theorem ggX2_cornersBeside_X2_isFullKnot : GoodIn wsX2_cornersBeside wsX2_isFullKnot := goodIn_r _ [6, 7, 8, 9, 10, 11, 12, 5, 13, 14, 15, 16, 17, 18, 19, 20, 21, 22, 23, 24, 25, 26, 27, 28, 39, 40, 41, 42] (by decide +kernel) (by decide +kernel)
set_option maxRecDepth 20000 in
theorem gX2_cornersBeside_X2_isFullKnot : GoodIn wsX2_cornersBeside (wsV RX2 60 RX2 yX2_isFullKnot wsX2_isFullKnot) := goodIn_app (goodIn_of _ (by decide +kernel)) ggX2_cornersBeside_X2_isFullKnot
set_option maxRecDepth 20000 in
theorem ggX2_cornersBeside_X2_neighbours : GoodIn wsX2_cornersBeside wsX2_neighbours := goodIn_r _ [32, 14, 15, 16, 17, 5, 18, 19, 20, 8, 21, 33, 34, 7, 9, 39, 40, 41, 42] (by decide +kernel) (by decide +kernel)
set_option maxRecDepth 20000 in
theorem gX2_cornersBeside_X2_neighbours : GoodIn wsX2_cornersBeside (wsV RX2 108 RX2 yX2_neighbours wsX2_neighbours) := goodIn_app (goodIn_of _ (by decide +kernel)) ggX2_cornersBeside_X2_neighbours
set_option maxRecDepth 20000 in
theorem ggX2_cornersBeside_X6_bit : GoodIn wsX2_cornersBeside wsX6_bit := goodIn_r _ [9] (by decide +kernel) (by decide +kernel)
set_option maxRecDepth 20000 in
theorem gX2_cornersBeside_X6_bit_n25 : GoodIn wsX2_cornersBeside (wsX6_bit) := ggX2_cornersBeside_X6_bit
set_option maxRecDepth 20000 in
theorem ggX2_cornersBeside_X2_find : GoodIn wsX2_cornersBeside wsX2_find := goodIn_r _ [38, 14, 15, 16, 17, 5, 18, 19, 20, 8, 21, 39, 40, 41, 42] (by decide +kernel) (by decide +kernel)
set_option maxRecDepth 20000 in
theorem gX2_cornersBeside_X2_find : GoodIn wsX2_cornersBeside (wsV RX2 86 RX2 yX2_find wsX2_find) := goodIn_app (goodIn_of _ (by decide +kernel)) ggX2_cornersBeside_X2_find
theorem dX2_cornersBeside_0 : decode cX2_cornersBeside 0 = .ok (.aload_n 0, 1) := by decide +kernel
theorem dX2_cornersBeside_1 : decode cX2_cornersBeside 1 = .ok (.iload_n 1, 1) := by decide +kernel
theorem dX2_cornersBeside_2 : decode cX2_cornersBeside 2 = .ok (.invokevirtual 60, 3) := by decide +kernel
theorem dX2_cornersBeside_5 : decode cX2_cornersBeside 5 = .ok (.ifCond .ne 5, 3) := by decide +kernel
theorem dX2_cornersBeside_8 : decode cX2_cornersBeside 8 = .ok (.iconst 0, 1) := by decide +kernel
theorem dX2_cornersBeside_9 : decode cX2_cornersBeside 9 = .ok (.ireturn, 1) := by decide +kernel
theorem dX2_cornersBeside_10 : decode cX2_cornersBeside 10 = .ok (.aload_n 0, 1) := by decide +kernel
theorem dX2_cornersBeside_11 : decode cX2_cornersBeside 11 = .ok (.iload_n 1, 1) := by decide +kernel
theorem dX2_cornersBeside_12 : decode cX2_cornersBeside 12 = .ok (.invokevirtual 108, 3) := by decide +kernel
theorem dX2_cornersBeside_15 : decode cX2_cornersBeside 15 = .ok (.istore_n 2, 1) := by decide +kernel
theorem dX2_cornersBeside_16 : decode cX2_cornersBeside 16 = .ok (.iconst 0, 1) := by decide +kernel
theorem dX2_cornersBeside_17 : decode cX2_cornersBeside 17 = .ok (.istore_n 3, 1) := by decide +kernel
theorem dX2_cornersBeside_18 : decode cX2_cornersBeside 18 = .ok (.iload_n 3, 1) := by decide +kernel
theorem dX2_cornersBeside_19 : decode cX2_cornersBeside 19 = .ok (.aload_n 0, 1) := by decide +kernel
theorem dX2_cornersBeside_20 : decode cX2_cornersBeside 20 = .ok (.getfield 9, 3) := by decide +kernel
theorem dX2_cornersBeside_23 : decode cX2_cornersBeside 23 = .ok (.if_icmp .ge 79, 3) := by decide +kernel
theorem dX2_cornersBeside_26 : decode cX2_cornersBeside 26 = .ok (.iload_n 3, 1) := by decide +kernel
theorem dX2_cornersBeside_27 : decode cX2_cornersBeside 27 = .ok (.iconst 1, 1) := by decide +kernel
theorem dX2_cornersBeside_28 : decode cX2_cornersBeside 28 = .ok (.iadd, 1) := by decide +kernel
theorem dX2_cornersBeside_29 : decode cX2_cornersBeside 29 = .ok (.istore 4, 2) := by decide +kernel
theorem dX2_cornersBeside_31 : decode cX2_cornersBeside 31 = .ok (.iload 4, 2) := by decide +kernel
theorem dX2_cornersBeside_33 : decode cX2_cornersBeside 33 = .ok (.aload_n 0, 1) := by decide +kernel
theorem dX2_cornersBeside_34 : decode cX2_cornersBeside 34 = .ok (.getfield 9, 3) := by decide +kernel
theorem dX2_cornersBeside_37 : decode cX2_cornersBeside 37 = .ok (.if_icmp .ge 59, 3) := by decide +kernel
theorem dX2_cornersBeside_40 : decode cX2_cornersBeside 40 = .ok (.iload_n 3, 1) := by decide +kernel
theorem dX2_cornersBeside_41 : decode cX2_cornersBeside 41 = .ok (.invokestatic 25, 3) := by decide +kernel
theorem dX2_cornersBeside_44 : decode cX2_cornersBeside 44 = .ok (.iload 4, 2) := by decide +kernel
theorem dX2_cornersBeside_46 : decode cX2_cornersBeside 46 = .ok (.invokestatic 25, 3) := by decide +kernel
theorem dX2_cornersBeside_49 : decode cX2_cornersBeside 49 = .ok (.ior, 1) := by decide +kernel
theorem dX2_cornersBeside_50 : decode cX2_cornersBeside 50 = .ok (.istore 5, 2) := by decide +kernel
theorem dX2_cornersBeside_52 : decode cX2_cornersBeside 52 = .ok (.iload_n 2, 1) := by decide +kernel
theorem dX2_cornersBeside_53 : decode cX2_cornersBeside 53 = .ok (.iload 5, 2) := by decide +kernel
theorem dX2_cornersBeside_55 : decode cX2_cornersBeside 55 = .ok (.iand, 1) := by decide +kernel
theorem dX2_cornersBeside_56 : decode cX2_cornersBeside 56 = .ok (.iload 5, 2) := by decide +kernel
theorem dX2_cornersBeside_58 : decode cX2_cornersBeside 58 = .ok (.if_icmp .ne 32, 3) := by decide +kernel
theorem dX2_cornersBeside_61 : decode cX2_cornersBeside 61 = .ok (.aload_n 0, 1) := by decide +kernel
theorem dX2_cornersBeside_62 : decode cX2_cornersBeside 62 = .ok (.iload 5, 2) := by decide +kernel
theorem dX2_cornersBeside_64 : decode cX2_cornersBeside 64 = .ok (.invokevirtual 86, 3) := by decide +kernel
theorem dX2_cornersBeside_67 : decode cX2_cornersBeside 67 = .ok (.ifCond .lt 23, 3) := by decide +kernel
theorem dX2_cornersBeside_70 : decode cX2_cornersBeside 70 = .ok (.aload_n 0, 1) := by decide +kernel
theorem dX2_cornersBeside_71 : decode cX2_cornersBeside 71 = .ok (.iload_n 3, 1) := by decide +kernel
theorem dX2_cornersBeside_72 : decode cX2_cornersBeside 72 = .ok (.invokevirtual 60, 3) := by decide +kernel
theorem dX2_cornersBeside_75 : decode cX2_cornersBeside 75 = .ok (.ifCond .eq 15, 3) := by decide +kernel
theorem dX2_cornersBeside_78 : decode cX2_cornersBeside 78 = .ok (.aload_n 0, 1) := by decide +kernel
theorem dX2_cornersBeside_79 : decode cX2_cornersBeside 79 = .ok (.iload 4, 2) := by decide +kernel
theorem dX2_cornersBeside_81 : decode cX2_cornersBeside 81 = .ok (.invokevirtual 60, 3) := by decide +kernel
theorem dX2_cornersBeside_84 : decode cX2_cornersBeside 84 = .ok (.ifCond .eq 6, 3) := by decide +kernel
theorem dX2_cornersBeside_87 : decode cX2_cornersBeside 87 = .ok (.iload 5, 2) := by decide +kernel
theorem dX2_cornersBeside_89 : decode cX2_cornersBeside 89 = .ok (.ireturn, 1) := by decide +kernel
theorem dX2_cornersBeside_90 : decode cX2_cornersBeside 90 = .ok (.iinc 4 1, 3) := by decide +kernel
theorem dX2_cornersBeside_93 : decode cX2_cornersBeside 93 = .ok (.goto (-62), 3) := by decide +kernel
theorem dX2_cornersBeside_96 : decode cX2_cornersBeside 96 = .ok (.iinc 3 1, 3) := by decide +kernel
theorem dX2_cornersBeside_99 : decode cX2_cornersBeside 99 = .ok (.goto (-81), 3) := by decide +kernel
theorem dX2_cornersBeside_102 : decode cX2_cornersBeside 102 = .ok (.iconst 0, 1) := by decide +kernel
theorem dX2_cornersBeside_103 : decode cX2_cornersBeside 103 = .ok (.ireturn, 1) := by decide +kernel
set_option maxRecDepth 20000 in
theorem ggX2_mayMerge_X2_ends : GoodIn wsX2_mayMerge wsX2_ends := goodIn_r _ [6, 7, 8, 9, 10, 11, 12, 13, 14] (by decide +kernel) (by decide +kernel)
set_option maxRecDepth 20000 in
theorem gX2_mayMerge_X2_ends : GoodIn wsX2_mayMerge (wsV RX2 33 RX2 yX2_ends wsX2_ends) := goodIn_app (goodIn_of _ (by decide +kernel)) ggX2_mayMerge_X2_ends
theorem dX2_mayMerge_0 : decode cX2_mayMerge 0 = .ok (.iconst 0, 1) := by decide +kernel
theorem dX2_mayMerge_1 : decode cX2_mayMerge 1 = .ok (.istore_n 2, 1) := by decide +kernel
theorem dX2_mayMerge_2 : decode cX2_mayMerge 2 = .ok (.iconst 0, 1) := by decide +kernel
theorem dX2_mayMerge_3 : decode cX2_mayMerge 3 = .ok (.istore_n 3, 1) := by decide +kernel
