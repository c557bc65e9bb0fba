set_option maxRecDepth 20000 in
theorem ggX5_spread_X2_threads : GoodIn wsX5_spread wsX2_threads := goodIn_r _ [5, 6, 17, 18, 19, 20] (by decide +kernel) (by decide +kernel)
set_option maxRecDepth 20000 in
theorem gX5_spread_X2_threads : GoodIn wsX5_spread (wsV RX5 9 RX2 yX2_threads wsX2_threads) := goodIn_app (goodIn_of _ (by decide +kernel)) ggX5_spread_X2_threads
set_option maxRecDepth 20000 in
theorem ggX5_spread_X6_holds : GoodIn wsX5_spread wsX6_holds := goodIn_r _ [9] (by decide +kernel) (by decide +kernel)
set_option maxRecDepth 20000 in
theorem gX5_spread_X6_holds_n15 : GoodIn wsX5_spread (wsX6_holds) := ggX5_spread_X6_holds
set_option maxRecDepth 20000 in
theorem ggX5_spread_X2_ends : GoodIn wsX5_spread wsX2_ends := goodIn_r _ [13, 14, 15, 8, 16, 17, 18, 19, 20] (by decide +kernel) (by decide +kernel)
set_option maxRecDepth 20000 in
theorem gX5_spread_X2_ends : GoodIn wsX5_spread (wsV RX5 19 RX2 yX2_ends wsX2_ends) := goodIn_app (goodIn_of _ (by decide +kernel)) ggX5_spread_X2_ends
theorem dX5_spread_0 : decode cX5_spread 0 = .ok (.iload_n 1, 1) := by decide +kernel
theorem dX5_spread_1 : decode cX5_spread 1 = .ok (.istore_n 3, 1) := by decide +kernel
theorem dX5_spread_2 : decode cX5_spread 2 = .ok (.iconst 0, 1) := by decide +kernel
theorem dX5_spread_3 : decode cX5_spread 3 = .ok (.istore 4, 2) := by decide +kernel
theorem dX5_spread_5 : decode cX5_spread 5 = .ok (.iload 4, 2) := by decide +kernel
theorem dX5_spread_7 : decode cX5_spread 7 = .ok (.aload_n 0, 1) := by decide +kernel
theorem dX5_spread_8 : decode cX5_spread 8 = .ok (.invokevirtual 9, 3) := by decide +kernel
theorem dX5_spread_11 : decode cX5_spread 11 = .ok (.if_icmp .ge 38, 3) := by decide +kernel
theorem dX5_spread_14 : decode cX5_spread 14 = .ok (.iload_n 2, 1) := by decide +kernel
theorem dX5_spread_15 : decode cX5_spread 15 = .ok (.iload 4, 2) := by decide +kernel
theorem dX5_spread_17 : decode cX5_spread 17 = .ok (.invokestatic 15, 3) := by decide +kernel
theorem dX5_spread_20 : decode cX5_spread 20 = .ok (.ifCond .eq 23, 3) := by decide +kernel
theorem dX5_spread_23 : decode cX5_spread 23 = .ok (.aload_n 0, 1) := by decide +kernel
theorem dX5_spread_24 : decode cX5_spread 24 = .ok (.iload 4, 2) := by decide +kernel
theorem dX5_spread_26 : decode cX5_spread 26 = .ok (.invokevirtual 19, 3) := by decide +kernel
theorem dX5_spread_29 : decode cX5_spread 29 = .ok (.iload_n 1, 1) := by decide +kernel
theorem dX5_spread_30 : decode cX5_spread 30 = .ok (.iand, 1) := by decide +kernel
theorem dX5_spread_31 : decode cX5_spread 31 = .ok (.ifCond .eq 12, 3) := by decide +kernel
theorem dX5_spread_34 : decode cX5_spread 34 = .ok (.iload_n 3, 1) := by decide +kernel
theorem dX5_spread_35 : decode cX5_spread 35 = .ok (.aload_n 0, 1) := by decide +kernel
theorem dX5_spread_36 : decode cX5_spread 36 = .ok (.iload 4, 2) := by decide +kernel
theorem dX5_spread_38 : decode cX5_spread 38 = .ok (.invokevirtual 19, 3) := by decide +kernel
theorem dX5_spread_41 : decode cX5_spread 41 = .ok (.ior, 1) := by decide +kernel
theorem dX5_spread_42 : decode cX5_spread 42 = .ok (.istore_n 3, 1) := by decide +kernel
theorem dX5_spread_43 : decode cX5_spread 43 = .ok (.iinc 4 1, 3) := by decide +kernel
theorem dX5_spread_46 : decode cX5_spread 46 = .ok (.goto (-41), 3) := by decide +kernel
theorem dX5_spread_49 : decode cX5_spread 49 = .ok (.iload_n 3, 1) := by decide +kernel
theorem dX5_spread_50 : decode cX5_spread 50 = .ok (.ireturn, 1) := by decide +kernel
set_option maxRecDepth 20000 in
theorem ggX5_reached_X5_spread : GoodIn wsX5_reached wsX5_spread := goodIn_r _ [4, 5, 6, 7, 8, 9, 10, 11, 12, 13, 14, 15, 16, 17, 18, 19, 20, 21, 22, 23, 24] (by decide +kernel) (by decide +kernel)
set_option maxRecDepth 20000 in
theorem gX5_reached_X5_spread : GoodIn wsX5_reached (va_wsS RX5 23 yX5_spread wsX5_spread) := goodIn_app (goodIn_of _ (by decide +kernel)) ggX5_reached_X5_spread
theorem dX5_reached_0 : decode cX5_reached 0 = .ok (.iload_n 1, 1) := by decide +kernel
theorem dX5_reached_1 : decode cX5_reached 1 = .ok (.istore_n 3, 1) := by decide +kernel
theorem dX5_reached_2 : decode cX5_reached 2 = .ok (.iconst 0, 1) := by decide +kernel
theorem dX5_reached_3 : decode cX5_reached 3 = .ok (.istore 4, 2) := by decide +kernel
theorem dX5_reached_5 : decode cX5_reached 5 = .ok (.iload 4, 2) := by decide +kernel
theorem dX5_reached_7 : decode cX5_reached 7 = .ok (.bipush 14, 2) := by decide +kernel
theorem dX5_reached_9 : decode cX5_reached 9 = .ok (.if_icmp .ge 29, 3) := by decide +kernel
theorem dX5_reached_12 : decode cX5_reached 12 = .ok (.aload_n 0, 1) := by decide +kernel
theorem dX5_reached_13 : decode cX5_reached 13 = .ok (.iload_n 3, 1) := by decide +kernel
theorem dX5_reached_14 : decode cX5_reached 14 = .ok (.iload_n 2, 1) := by decide +kernel
theorem dX5_reached_15 : decode cX5_reached 15 = .ok (.invokestatic 23, 3) := by decide +kernel
theorem dX5_reached_18 : decode cX5_reached 18 = .ok (.istore 5, 2) := by decide +kernel
theorem dX5_reached_20 : decode cX5_reached 20 = .ok (.iload 5, 2) := by decide +kernel
theorem dX5_reached_22 : decode cX5_reached 22 = .ok (.iload_n 3, 1) := by decide +kernel
theorem dX5_reached_23 : decode cX5_reached 23 = .ok (.if_icmp .ne 6, 3) := by decide +kernel
theorem dX5_reached_26 : decode cX5_reached 26 = .ok (.goto 12, 3) := by decide +kernel
theorem dX5_reached_29 : decode cX5_reached 29 = .ok (.iload 5, 2) := by decide +kernel
theorem dX5_reached_31 : decode cX5_reached 31 = .ok (.istore_n 3, 1) := by decide +kernel
theorem dX5_reached_32 : decode cX5_reached 32 = .ok (.iinc 4 1, 3) := by decide +kernel
theorem dX5_reached_35 : decode cX5_reached 35 = .ok (.goto (-30), 3) := by decide +kernel
theorem dX5_reached_38 : decode cX5_reached 38 = .ok (.iload_n 3, 1) := by decide +kernel
theorem dX5_reached_39 : decode cX5_reached 39 = .ok (.ireturn, 1) := by decide +kernel
set_option maxRecDepth 20000 in
theorem ggX5_circleThrough_X2_allThreads : GoodIn wsX5_circleThrough wsX2_allThreads := goodIn_r _ [5, 6, 7, 8, 9, 44, 45, 46, 47] (by decide +kernel) (by decide +kernel)
set_option maxRecDepth 20000 in
theorem gX5_circleThrough_X2_allThreads : GoodIn wsX5_circleThrough (wsV RX5 29 RX2 yX2_allThreads wsX2_allThreads) := goodIn_app (goodIn_of _ (by decide +kernel)) ggX5_circleThrough_X2_allThreads
set_option maxRecDepth 20000 in
theorem ggX5_circleThrough_X6_bit : GoodIn wsX5_circleThrough wsX6_bit := goodIn_r _ [9] (by decide +kernel) (by decide +kernel)
set_option maxRecDepth 20000 in
theorem gX5_circleThrough_X6_bit_n32 : GoodIn wsX5_circleThrough (wsX6_bit) := ggX5_circleThrough_X6_bit
set_option maxRecDepth 20000 in
theorem ggX5_circleThrough_X2_greaterKnot : GoodIn wsX5_circleThrough wsX2_greaterKnot := goodIn_r _ [13, 14, 15, 16, 4, 17, 18, 19, 8, 20, 21, 22, 23, 24, 25, 44, 45, 46, 47] (by decide +kernel) (by decide +kernel)
set_option maxRecDepth 20000 in
theorem gX5_circleThrough_X2_greaterKnot : GoodIn wsX5_circleThrough (wsV RX5 35 RX2 yX2_greaterKnot wsX2_greaterKnot) := goodIn_app (goodIn_of _ (by decide +kernel)) ggX5_circleThrough_X2_greaterKnot
set_option maxRecDepth 20000 in
theorem ggX5_circleThrough_X2_lesserKnot : GoodIn wsX5_circleThrough wsX2_lesserKnot := goodIn_r _ [29, 14, 15, 16, 4, 17, 18, 19, 8, 20, 30, 31, 23, 32, 25, 44, 45, 46, 47] (by decide +kernel) (by decide +kernel)
set_option maxRecDepth 20000 in
theorem gX5_circleThrough_X2_lesserKnot : GoodIn wsX5_circleThrough (wsV RX5 38 RX2 yX2_lesserKnot wsX2_lesserKnot) := goodIn_app (goodIn_of _ (by decide +kernel)) ggX5_circleThrough_X2_lesserKnot
set_option maxRecDepth 20000 in
theorem ggX5_circleThrough_X5_spread : GoodIn wsX5_circleThrough wsX5_spread := goodIn_r _ [36, 37, 38, 39, 4, 40, 6, 41, 8, 42, 43, 15, 16, 17, 18, 19, 20, 44, 45, 46, 47] (by decide +kernel) (by decide +kernel)
set_option maxRecDepth 20000 in
theorem gX5_circleThrough_X5_spread : GoodIn wsX5_circleThrough (va_wsS RX5 23 yX5_spread wsX5_spread) := goodIn_app (goodIn_of _ (by decide +kernel)) ggX5_circleThrough_X5_spread
theorem dX5_circleThrough_0 : decode cX5_circleThrough 0 = .ok (.aload_n 0, 1) := by decide +kernel
theorem dX5_circleThrough_1 : decode cX5_circleThrough 1 = .ok (.invokevirtual 29, 3) := by decide +kernel
theorem dX5_circleThrough_4 : decode cX5_circleThrough 4 = .ok (.iload_n 1, 1) := by decide +kernel
theorem dX5_circleThrough_5 : decode cX5_circleThrough 5 = .ok (.invokestatic 32, 3) := by decide +kernel
theorem dX5_circleThrough_8 : decode cX5_circleThrough 8 = .ok (.iconst (-1), 1) := by decide +kernel
theorem dX5_circleThrough_9 : decode cX5_circleThrough 9 = .ok (.ixor, 1) := by decide +kernel
theorem dX5_circleThrough_10 : decode cX5_circleThrough 10 = .ok (.iand, 1) := by decide +kernel
theorem dX5_circleThrough_11 : decode cX5_circleThrough 11 = .ok (.istore_n 2, 1) := by decide +kernel
theorem dX5_circleThrough_12 : decode cX5_circleThrough 12 = .ok (.aload_n 0, 1) := by decide +kernel
theorem dX5_circleThrough_13 : decode cX5_circleThrough 13 = .ok (.iload_n 1, 1) := by decide +kernel
theorem dX5_circleThrough_14 : decode cX5_circleThrough 14 = .ok (.invokevirtual 35, 3) := by decide +kernel
theorem dX5_circleThrough_17 : decode cX5_circleThrough 17 = .ok (.invokestatic 32, 3) := by decide +kernel
theorem dX5_circleThrough_20 : decode cX5_circleThrough 20 = .ok (.istore_n 3, 1) := by decide +kernel
theorem dX5_circleThrough_21 : decode cX5_circleThrough 21 = .ok (.aload_n 0, 1) := by decide +kernel
theorem dX5_circleThrough_22 : decode cX5_circleThrough 22 = .ok (.iload_n 1, 1) := by decide +kernel
theorem dX5_circleThrough_23 : decode cX5_circleThrough 23 = .ok (.invokevirtual 38, 3) := by decide +kernel
theorem dX5_circleThrough_26 : decode cX5_circleThrough 26 = .ok (.invokestatic 32, 3) := by decide +kernel
theorem dX5_circleThrough_29 : decode cX5_circleThrough 29 = .ok (.istore 4, 2) := by decide +kernel
theorem dX5_circleThrough_31 : decode cX5_circleThrough 31 = .ok (.iconst 1, 1) := by decide +kernel
theorem dX5_circleThrough_32 : decode cX5_circleThrough 32 = .ok (.istore 5, 2) := by decide +kernel
theorem dX5_circleThrough_34 : decode cX5_circleThrough 34 = .ok (.iload 5, 2) := by decide +kernel
theorem dX5_circleThrough_36 : decode cX5_circleThrough 36 = .ok (.bipush 14, 2) := by decide +kernel
theorem dX5_circleThrough_38 : decode cX5_circleThrough 38 = .ok (.if_icmp .ge 30, 3) := by decide +kernel
theorem dX5_circleThrough_41 : decode cX5_circleThrough 41 = .ok (.aload_n 0, 1) := by decide +kernel
theorem dX5_circleThrough_42 : decode cX5_circleThrough 42 = .ok (.iload 4, 2) := by decide +kernel
theorem dX5_circleThrough_44 : decode cX5_circleThrough 44 = .ok (.iload_n 2, 1) := by decide +kernel
theorem dX5_circleThrough_45 : decode cX5_circleThrough 45 = .ok (.invokestatic 23, 3) := by decide +kernel
theorem dX5_circleThrough_48 : decode cX5_circleThrough 48 = .ok (.istore 4, 2) := by decide +kernel
theorem dX5_circleThrough_50 : decode cX5_circleThrough 50 = .ok (.iload 4, 2) := by decide +kernel
theorem dX5_circleThrough_52 : decode cX5_circleThrough 52 = .ok (.iload_n 3, 1) := by decide +kernel
theorem dX5_circleThrough_53 : decode cX5_circleThrough 53 = .ok (.iand, 1) := by decide +kernel
theorem dX5_circleThrough_54 : decode cX5_circleThrough 54 = .ok (.ifCond .eq 8, 3) := by decide +kernel
theorem dX5_circleThrough_57 : decode cX5_circleThrough 57 = .ok (.iload 5, 2) := by decide +kernel
theorem dX5_circleThrough_59 : decode cX5_circleThrough 59 = .ok (.iconst 1, 1) := by decide +kernel
theorem dX5_circleThrough_60 : decode cX5_circleThrough 60 = .ok (.iadd, 1) := by decide +kernel
theorem dX5_circleThrough_61 : decode cX5_circleThrough 61 = .ok (.ireturn, 1) := by decide +kernel
theorem dX5_circleThrough_62 : decode cX5_circleThrough 62 = .ok (.iinc 5 1, 3) := by decide +kernel
theorem dX5_circleThrough_65 : decode cX5_circleThrough 65 = .ok (.goto (-31), 3) := by decide +kernel
theorem dX5_circleThrough_68 : decode cX5_circleThrough 68 = .ok (.iconst 0, 1) := by decide +kernel
theorem dX5_circleThrough_69 : decode cX5_circleThrough 69 = .ok (.ireturn, 1) := by decide +kernel
set_option maxRecDepth 20000 in
theorem ggX5_shortestCircle_X2_threads : GoodIn wsX5_shortestCircle wsX2_threads := goodIn_r _ [5, 6, 47, 48, 49, 50] (by decide +kernel) (by decide +kernel)
set_option maxRecDepth 20000 in
theorem gX5_shortestCircle_X2_threads : GoodIn wsX5_shortestCircle (wsV RX5 9 RX2 yX2_threads wsX2_threads) := goodIn_app (goodIn_of _ (by decide +kernel)) ggX5_shortestCircle_X2_threads
set_option maxRecDepth 20000 in
theorem ggX5_shortestCircle_X6_holds : GoodIn wsX5_shortestCircle wsX6_holds := goodIn_r _ [9] (by decide +kernel) (by decide +kernel)
set_option maxRecDepth 20000 in
theorem gX5_shortestCircle_X6_holds_n15 : GoodIn wsX5_shortestCircle (wsX6_holds) := ggX5_shortestCircle_X6_holds
set_option maxRecDepth 20000 in
theorem ggX5_shortestCircle_X5_circleThrough : GoodIn wsX5_shortestCircle wsX5_circleThrough := goodIn_r _ [13, 14, 15, 16, 4, 17, 6, 18, 8, 19, 20, 21, 22, 23, 24, 25, 26, 27, 28, 29, 30, 31, 32, 33, 34, 35, 36, 37, 38, 39, 40, 41, 42, 43, 44, 12, 45, 1, 2, 3, 5, 7, 9, 46, 47, 48, 49, 50] (by decide +kernel) (by decide +kernel)
set_option maxRecDepth 20000 in
theorem gX5_shortestCircle_X5_circleThrough : GoodIn wsX5_shortestCircle (va_wsS RX5 41 yX5_circleThrough wsX5_circleThrough) := goodIn_app (goodIn_of _ (by decide +kernel)) ggX5_shortestCircle_X5_circleThrough
theorem dX5_shortestCircle_0 : decode cX5_shortestCircle 0 = .ok (.iconst 0, 1) := by decide +kernel
theorem dX5_shortestCircle_1 : decode cX5_shortestCircle 1 = .ok (.istore_n 2, 1) := by decide +kernel
theorem dX5_shortestCircle_2 : decode cX5_shortestCircle 2 = .ok (.iconst 0, 1) := by decide +kernel
theorem dX5_shortestCircle_3 : decode cX5_shortestCircle 3 = .ok (.istore_n 3, 1) := by decide +kernel
theorem dX5_shortestCircle_4 : decode cX5_shortestCircle 4 = .ok (.iload_n 3, 1) := by decide +kernel
theorem dX5_shortestCircle_5 : decode cX5_shortestCircle 5 = .ok (.aload_n 0, 1) := by decide +kernel
theorem dX5_shortestCircle_6 : decode cX5_shortestCircle 6 = .ok (.invokevirtual 9, 3) := by decide +kernel
theorem dX5_shortestCircle_9 : decode cX5_shortestCircle 9 = .ok (.if_icmp .ge 42, 3) := by decide +kernel
theorem dX5_shortestCircle_12 : decode cX5_shortestCircle 12 = .ok (.iload_n 1, 1) := by decide +kernel
theorem dX5_shortestCircle_13 : decode cX5_shortestCircle 13 = .ok (.iload_n 3, 1) := by decide +kernel
theorem dX5_shortestCircle_14 : decode cX5_shortestCircle 14 = .ok (.invokestatic 15, 3) := by decide +kernel
theorem dX5_shortestCircle_17 : decode cX5_shortestCircle 17 = .ok (.ifCond .eq 28, 3) := by decide +kernel
theorem dX5_shortestCircle_20 : decode cX5_shortestCircle 20 = .ok (.aload_n 0, 1) := by decide +kernel
theorem dX5_shortestCircle_21 : decode cX5_shortestCircle 21 = .ok (.iload_n 3, 1) := by decide +kernel
theorem dX5_shortestCircle_22 : decode cX5_shortestCircle 22 = .ok (.invokestatic 41, 3) := by decide +kernel
theorem dX5_shortestCircle_25 : decode cX5_shortestCircle 25 = .ok (.istore 4, 2) := by decide +kernel
theorem dX5_shortestCircle_27 : decode cX5_shortestCircle 27 = .ok (.iload 4, 2) := by decide +kernel
theorem dX5_shortestCircle_29 : decode cX5_shortestCircle 29 = .ok (.ifCond .eq 16, 3) := by decide +kernel
theorem dX5_shortestCircle_32 : decode cX5_shortestCircle 32 = .ok (.iload_n 2, 1) := by decide +kernel
theorem dX5_shortestCircle_33 : decode cX5_shortestCircle 33 = .ok (.ifCond .eq 9, 3) := by decide +kernel
theorem dX5_shortestCircle_36 : decode cX5_shortestCircle 36 = .ok (.iload 4, 2) := by decide +kernel
theorem dX5_shortestCircle_38 : decode cX5_shortestCircle 38 = .ok (.iload_n 2, 1) := by decide +kernel
theorem dX5_shortestCircle_39 : decode cX5_shortestCircle 39 = .ok (.if_icmp .ge 6, 3) := by decide +kernel
theorem dX5_shortestCircle_42 : decode cX5_shortestCircle 42 = .ok (.iload 4, 2) := by decide +kernel
theorem dX5_shortestCircle_44 : decode cX5_shortestCircle 44 = .ok (.istore_n 2, 1) := by decide +kernel
theorem dX5_shortestCircle_45 : decode cX5_shortestCircle 45 = .ok (.iinc 3 1, 3) := by decide +kernel
theorem dX5_shortestCircle_48 : decode cX5_shortestCircle 48 = .ok (.goto (-44), 3) := by decide +kernel
theorem dX5_shortestCircle_51 : decode cX5_shortestCircle 51 = .ok (.iload_n 2, 1) := by decide +kernel
theorem dX5_shortestCircle_52 : decode cX5_shortestCircle 52 = .ok (.ireturn, 1) := by decide +kernel
set_option maxRecDepth 20000 in
theorem ggX5_bridges_X2_threads : GoodIn wsX5_bridges wsX2_threads := goodIn_r _ [5, 6, 47, 48, 49, 50] (by decide +kernel) (by decide +kernel)
set_option maxRecDepth 20000 in
theorem gX5_bridges_X2_threads : GoodIn wsX5_bridges (wsV RX5 9 RX2 yX2_threads wsX2_threads) := goodIn_app (goodIn_of _ (by decide +kernel)) ggX5_bridges_X2_threads
set_option maxRecDepth 20000 in
theorem ggX5_bridges_X5_circleThrough : GoodIn wsX5_bridges wsX5_circleThrough := goodIn_r _ [10, 11, 12, 13, 4, 14, 6, 15, 16, 17, 18, 19, 20, 21, 22, 23, 24, 25, 26, 27, 28, 29, 30, 31, 32, 33, 34, 35, 36, 37, 38, 39, 40, 41, 42, 9, 43, 1, 2, 3, 5, 44, 45, 46, 47, 48, 49, 50] (by decide +kernel) (by decide +kernel)
set_option maxRecDepth 20000 in
theorem gX5_bridges_X5_circleThrough : GoodIn wsX5_bridges (va_wsS RX5 41 yX5_circleThrough wsX5_circleThrough) := goodIn_app (goodIn_of _ (by decide +kernel)) ggX5_bridges_X5_circleThrough
theorem dX5_bridges_0 : decode cX5_bridges 0 = .ok (.iconst 0, 1) := by decide +kernel
theorem dX5_bridges_1 : decode cX5_bridges 1 = .ok (.istore_n 1, 1) := by decide +kernel
theorem dX5_bridges_2 : decode cX5_bridges 2 = .ok (.iconst 0, 1) := by decide +kernel
theorem dX5_bridges_3 : decode cX5_bridges 3 = .ok (.istore_n 2, 1) := by decide +kernel
theorem dX5_bridges_4 : decode cX5_bridges 4 = .ok (.iload_n 2, 1) := by decide +kernel
theorem dX5_bridges_5 : decode cX5_bridges 5 = .ok (.aload_n 0, 1) := by decide +kernel
theorem dX5_bridges_6 : decode cX5_bridges 6 = .ok (.invokevirtual 9, 3) := by decide +kernel
theorem dX5_bridges_9 : decode cX5_bridges 9 = .ok (.if_icmp .ge 20, 3) := by decide +kernel
theorem dX5_bridges_12 : decode cX5_bridges 12 = .ok (.aload_n 0, 1) := by decide +kernel
theorem dX5_bridges_13 : decode cX5_bridges 13 = .ok (.iload_n 2, 1) := by decide +kernel
theorem dX5_bridges_14 : decode cX5_bridges 14 = .ok (.invokestatic 41, 3) := by decide +kernel
theorem dX5_bridges_17 : decode cX5_bridges 17 = .ok (.ifCond .ne 6, 3) := by decide +kernel
theorem dX5_bridges_20 : decode cX5_bridges 20 = .ok (.iinc 1 1, 3) := by decide +kernel
theorem dX5_bridges_23 : decode cX5_bridges 23 = .ok (.iinc 2 1, 3) := by decide +kernel
theorem dX5_bridges_26 : decode cX5_bridges 26 = .ok (.goto (-22), 3) := by decide +kernel
theorem dX5_bridges_29 : decode cX5_bridges 29 = .ok (.iload_n 1, 1) := by decide +kernel
theorem dX5_bridges_30 : decode cX5_bridges 30 = .ok (.ireturn, 1) := by decide +kernel
set_option maxRecDepth 20000 in
theorem ggX5_parts_X2_allKnots : GoodIn wsX5_parts wsX2_allKnots := goodIn_r _ [5, 6, 7, 8, 9, 39, 40, 41, 42] (by decide +kernel) (by decide +kernel)
set_option maxRecDepth 20000 in
theorem gX5_parts_X2_allKnots : GoodIn wsX5_parts (wsV RX5 45 RX2 yX2_allKnots wsX2_allKnots) := goodIn_app (goodIn_of _ (by decide +kernel)) ggX5_parts_X2_allKnots
set_option maxRecDepth 20000 in
theorem ggX5_parts_X2_knots : GoodIn wsX5_parts wsX2_knots := goodIn_r _ [13, 6, 39, 40, 41, 42] (by decide +kernel) (by decide +kernel)
set_option maxRecDepth 20000 in
theorem gX5_parts_X2_knots : GoodIn wsX5_parts (wsV RX5 48 RX2 yX2_knots wsX2_knots) := goodIn_app (goodIn_of _ (by decide +kernel)) ggX5_parts_X2_knots
set_option maxRecDepth 20000 in
theorem ggX5_parts_X6_holds : GoodIn wsX5_parts wsX6_holds := goodIn_r _ [15] (by decide +kernel) (by decide +kernel)
set_option maxRecDepth 20000 in
theorem gX5_parts_X6_holds_n15 : GoodIn wsX5_parts (wsX6_holds) := ggX5_parts_X6_holds
set_option maxRecDepth 20000 in
theorem ggX5_parts_X6_bit : GoodIn wsX5_parts wsX6_bit := goodIn_r _ [9] (by decide +kernel) (by decide +kernel)
set_option maxRecDepth 20000 in
theorem gX5_parts_X6_bit_n32 : GoodIn wsX5_parts (wsX6_bit) := ggX5_parts_X6_bit
set_option maxRecDepth 20000 in
theorem ggX5_parts_X2_allThreads : GoodIn wsX5_parts wsX2_allThreads := goodIn_r _ [19, 20, 7, 8, 9, 39, 40, 41, 42] (by decide +kernel) (by decide +kernel)
set_option maxRecDepth 20000 in
theorem gX5_parts_X2_allThreads : GoodIn wsX5_parts (wsV RX5 29 RX2 yX2_allThreads wsX2_allThreads) := goodIn_app (goodIn_of _ (by decide +kernel)) ggX5_parts_X2_allThreads
set_option maxRecDepth 20000 in
theorem ggX5_parts_X5_reached : GoodIn wsX5_parts wsX5_reached := goodIn_r _ [24, 25, 26, 23, 27, 28, 29, 30, 4, 31, 20, 14, 8, 15, 32, 33, 34, 35, 36, 37, 38, 39, 40, 41, 42] (by decide +kernel) (by decide +kernel)
set_option maxRecDepth 20000 in
theorem gX5_parts_X5_reached : GoodIn wsX5_parts (va_wsS RX5 51 yX5_reached wsX5_reached) := goodIn_app (goodIn_of _ (by decide +kernel)) ggX5_parts_X5_reached
theorem dX5_parts_0 : decode cX5_parts 0 = .ok (.aload_n 0, 1) := by decide +kernel
theorem dX5_parts_1 : decode cX5_parts 1 = .ok (.invokevirtual 45, 3) := by decide +kernel
theorem dX5_parts_4 : decode cX5_parts 4 = .ok (.istore_n 1, 1) := by decide +kernel
theorem dX5_parts_5 : decode cX5_parts 5 = .ok (.iconst 0, 1) := by decide +kernel
theorem dX5_parts_6 : decode cX5_parts 6 = .ok (.istore_n 2, 1) := by decide +kernel
theorem dX5_parts_7 : decode cX5_parts 7 = .ok (.iconst 0, 1) := by decide +kernel
theorem dX5_parts_8 : decode cX5_parts 8 = .ok (.istore_n 3, 1) := by decide +kernel
theorem dX5_parts_9 : decode cX5_parts 9 = .ok (.iload_n 3, 1) := by decide +kernel
theorem dX5_parts_10 : decode cX5_parts 10 = .ok (.aload_n 0, 1) := by decide +kernel
theorem dX5_parts_11 : decode cX5_parts 11 = .ok (.invokevirtual 48, 3) := by decide +kernel
theorem dX5_parts_14 : decode cX5_parts 14 = .ok (.if_icmp .ge 37, 3) := by decide +kernel
theorem dX5_parts_17 : decode cX5_parts 17 = .ok (.iload_n 1, 1) := by decide +kernel
theorem dX5_parts_18 : decode cX5_parts 18 = .ok (.iload_n 3, 1) := by decide +kernel
theorem dX5_parts_19 : decode cX5_parts 19 = .ok (.invokestatic 15, 3) := by decide +kernel
theorem dX5_parts_22 : decode cX5_parts 22 = .ok (.ifCond .eq 23, 3) := by decide +kernel
theorem dX5_parts_25 : decode cX5_parts 25 = .ok (.iload_n 1, 1) := by decide +kernel
theorem dX5_parts_26 : decode cX5_parts 26 = .ok (.aload_n 0, 1) := by decide +kernel
theorem dX5_parts_27 : decode cX5_parts 27 = .ok (.iload_n 3, 1) := by decide +kernel
theorem dX5_parts_28 : decode cX5_parts 28 = .ok (.invokestatic 32, 3) := by decide +kernel
theorem dX5_parts_31 : decode cX5_parts 31 = .ok (.aload_n 0, 1) := by decide +kernel
theorem dX5_parts_32 : decode cX5_parts 32 = .ok (.invokevirtual 29, 3) := by decide +kernel
theorem dX5_parts_35 : decode cX5_parts 35 = .ok (.invokestatic 51, 3) := by decide +kernel
theorem dX5_parts_38 : decode cX5_parts 38 = .ok (.iconst (-1), 1) := by decide +kernel
theorem dX5_parts_39 : decode cX5_parts 39 = .ok (.ixor, 1) := by decide +kernel
theorem dX5_parts_40 : decode cX5_parts 40 = .ok (.iand, 1) := by decide +kernel
theorem dX5_parts_41 : decode cX5_parts 41 = .ok (.istore_n 1, 1) := by decide +kernel
theorem dX5_parts_42 : decode cX5_parts 42 = .ok (.iinc 2 1, 3) := by decide +kernel
theorem dX5_parts_45 : decode cX5_parts 45 = .ok (.iinc 3 1, 3) := by decide +kernel
theorem dX5_parts_48 : decode cX5_parts 48 = .ok (.goto (-39), 3) := by decide +kernel
theorem dX5_parts_51 : decode cX5_parts 51 = .ok (.iload_n 2, 1) := by decide +kernel
theorem dX5_parts_52 : decode cX5_parts 52 = .ok (.ireturn, 1) := by decide +kernel
set_option maxRecDepth 20000 in
theorem ggX6_init_X2_init : GoodIn wsX6_init wsX2_init := goodIn_r _ [29, 30, 2, 3, 31, 32, 33, 34, 35, 75, 76, 77, 78] (by decide +kernel) (by decide +kernel)
set_option maxRecDepth 20000 in
theorem gX6_init_X2_init : GoodIn wsX6_init (wsX2_init) := ggX6_init_X2_init
set_option maxRecDepth 20000 in
theorem ggX6_init_X1_init : GoodIn wsX6_init wsX1_init := goodIn_r _ [38, 39, 2, 3, 40, 41, 5, 6, 42, 43, 28, 29, 30, 31, 32, 33, 34, 35, 87, 88, 75, 76, 77, 78] (by decide +kernel) (by decide +kernel)
set_option maxRecDepth 20000 in
theorem gX6_init_X1_init : GoodIn wsX6_init (wsX1_init) := ggX6_init_X1_init
set_option maxRecDepth 20000 in
theorem ggX6_init_X4_init : GoodIn wsX6_init wsX4_init := goodIn_r _ [46, 47, 2, 3, 48, 49, 50, 33, 51, 52, 89, 90, 91, 92] (by decide +kernel) (by decide +kernel)
set_option maxRecDepth 20000 in
theorem gX6_init_X4_init : GoodIn wsX6_init (wsX4_init) := ggX6_init_X4_init
set_option maxRecDepth 20000 in
theorem ggX6_init_X3_init : GoodIn wsX6_init wsX3_init := goodIn_r _ [55, 56, 2, 3, 33, 57, 58, 59, 60, 61, 62, 63, 64, 93, 94, 95, 96, 97, 98, 99, 100] (by decide +kernel) (by decide +kernel)
set_option maxRecDepth 20000 in
theorem gX6_init_X3_init : GoodIn wsX6_init (wsX3_init) := ggX6_init_X3_init
set_option maxRecDepth 20000 in
theorem ggX6_init_X0_init : GoodIn wsX6_init wsX0_init := goodIn_r _ [67, 68, 2, 3, 33, 69, 70, 71, 72, 73, 74, 101, 102, 103, 104, 105, 106] (by decide +kernel) (by decide +kernel)
set_option maxRecDepth 20000 in
theorem gX6_init_X0_init : GoodIn wsX6_init (wsX0_init) := ggX6_init_X0_init
theorem dX6_init_0 : decode cX6_init 0 = .ok (.aload_n 0, 1) := by decide +kernel
theorem dX6_init_1 : decode cX6_init 1 = .ok (.invokespecial 3, 3) := by decide +kernel
theorem dX6_init_4 : decode cX6_init 4 = .ok (.aload_n 0, 1) := by decide +kernel
theorem dX6_init_5 : decode cX6_init 5 = .ok (.new 9, 3) := by decide +kernel
theorem dX6_init_8 : decode cX6_init 8 = .ok (.dup, 1) := by decide +kernel
theorem dX6_init_9 : decode cX6_init 9 = .ok (.invokespecial 11, 3) := by decide +kernel
theorem dX6_init_12 : decode cX6_init 12 = .ok (.putfield 12, 3) := by decide +kernel
theorem dX6_init_15 : decode cX6_init 15 = .ok (.aload_n 0, 1) := by decide +kernel
theorem dX6_init_16 : decode cX6_init 16 = .ok (.new 9, 3) := by decide +kernel
theorem dX6_init_19 : decode cX6_init 19 = .ok (.dup, 1) := by decide +kernel
theorem dX6_init_20 : decode cX6_init 20 = .ok (.invokespecial 11, 3) := by decide +kernel
theorem dX6_init_23 : decode cX6_init 23 = .ok (.putfield 16, 3) := by decide +kernel
theorem dX6_init_26 : decode cX6_init 26 = .ok (.aload_n 0, 1) := by decide +kernel
theorem dX6_init_27 : decode cX6_init 27 = .ok (.new 9, 3) := by decide +kernel
theorem dX6_init_30 : decode cX6_init 30 = .ok (.dup, 1) := by decide +kernel
theorem dX6_init_31 : decode cX6_init 31 = .ok (.invokespecial 11, 3) := by decide +kernel
theorem dX6_init_34 : decode cX6_init 34 = .ok (.putfield 19, 3) := by decide +kernel
theorem dX6_init_37 : decode cX6_init 37 = .ok (.aload_n 0, 1) := by decide +kernel
theorem dX6_init_38 : decode cX6_init 38 = .ok (.iconst 0, 1) := by decide +kernel
theorem dX6_init_39 : decode cX6_init 39 = .ok (.putfield 22, 3) := by decide +kernel
theorem dX6_init_42 : decode cX6_init 42 = .ok (.aload_n 0, 1) := by decide +kernel
theorem dX6_init_43 : decode cX6_init 43 = .ok (.new 26, 3) := by decide +kernel
theorem dX6_init_46 : decode cX6_init 46 = .ok (.dup, 1) := by decide +kernel
theorem dX6_init_47 : decode cX6_init 47 = .ok (.invokespecial 28, 3) := by decide +kernel
theorem dX6_init_50 : decode cX6_init 50 = .ok (.putfield 29, 3) := by decide +kernel
theorem dX6_init_53 : decode cX6_init 53 = .ok (.aload_n 0, 1) := by decide +kernel
theorem dX6_init_54 : decode cX6_init 54 = .ok (.new 33, 3) := by decide +kernel
theorem dX6_init_57 : decode cX6_init 57 = .ok (.dup, 1) := by decide +kernel
theorem dX6_init_58 : decode cX6_init 58 = .ok (.invokespecial 35, 3) := by decide +kernel
theorem dX6_init_61 : decode cX6_init 61 = .ok (.putfield 36, 3) := by decide +kernel
theorem dX6_init_64 : decode cX6_init 64 = .ok (.aload_n 0, 1) := by decide +kernel
theorem dX6_init_65 : decode cX6_init 65 = .ok (.new 40, 3) := by decide +kernel
theorem dX6_init_68 : decode cX6_init 68 = .ok (.dup, 1) := by decide +kernel
theorem dX6_init_69 : decode cX6_init 69 = .ok (.invokespecial 42, 3) := by decide +kernel
theorem dX6_init_72 : decode cX6_init 72 = .ok (.putfield 43, 3) := by decide +kernel
theorem dX6_init_75 : decode cX6_init 75 = .ok (.aload_n 0, 1) := by decide +kernel
theorem dX6_init_76 : decode cX6_init 76 = .ok (.new 47, 3) := by decide +kernel
theorem dX6_init_79 : decode cX6_init 79 = .ok (.dup, 1) := by decide +kernel
theorem dX6_init_80 : decode cX6_init 80 = .ok (.invokespecial 49, 3) := by decide +kernel
theorem dX6_init_83 : decode cX6_init 83 = .ok (.putfield 50, 3) := by decide +kernel
theorem dX6_init_86 : decode cX6_init 86 = .ok (.return_, 1) := by decide +kernel
set_option maxRecDepth 20000 in
theorem ggX6_take_X1_push : GoodIn wsX6_take wsX1_push := goodIn_r _ [7, 8, 9, 10, 11, 12, 6, 13, 14, 15, 16, 17, 18, 19, 20, 21, 22, 23, 24, 25, 26, 27, 28, 29, 30, 31, 32, 33, 34, 35, 81, 82, 83, 84, 85, 86] (by decide +kernel) (by decide +kernel)
set_option maxRecDepth 20000 in
theorem gX6_take_X1_push : GoodIn wsX6_take (wsV RX6 54 RX1 yX1_push wsX1_push) := goodIn_app (goodIn_of _ (by decide +kernel)) ggX6_take_X1_push
set_option maxRecDepth 20000 in
theorem ggX6_take_X6_builtIn : GoodIn wsX6_take wsX6_builtIn := goodIn_r _ [38, 39, 40, 41, 42, 43] (by decide +kernel) (by decide +kernel)
set_option maxRecDepth 20000 in
theorem gX6_take_X6_builtIn : GoodIn wsX6_take (va_wsS RX6 58 yX6_builtIn wsX6_builtIn) := goodIn_app (goodIn_of _ (by decide +kernel)) ggX6_take_X6_builtIn
set_option maxRecDepth 20000 in
theorem ggX6_take_X2_build : GoodIn wsX6_take wsX2_build := goodIn_r _ [47, 48, 49, 50, 51, 52, 53, 54, 17, 55, 19, 20, 27, 28, 29, 56, 57, 58, 59, 60, 61, 21, 22, 30, 31, 62, 63, 64, 65, 66, 67, 68, 83, 84, 85, 86] (by decide +kernel) (by decide +kernel)
set_option maxRecDepth 20000 in
theorem gX6_take_X2_build : GoodIn wsX6_take (wsV RX6 62 RX2 yX2_build wsX2_build) := goodIn_app (goodIn_of _ (by decide +kernel)) ggX6_take_X2_build
set_option maxRecDepth 20000 in
theorem ggX6_take_X2_knots : GoodIn wsX6_take wsX2_knots := goodIn_r _ [72, 19, 83, 84, 85, 86] (by decide +kernel) (by decide +kernel)
set_option maxRecDepth 20000 in
theorem gX6_take_X2_knots : GoodIn wsX6_take (wsV RX6 66 RX2 yX2_knots wsX2_knots) := goodIn_app (goodIn_of _ (by decide +kernel)) ggX6_take_X2_knots
theorem dX6_take_0 : decode cX6_take 0 = .ok (.iload_n 1, 1) := by decide +kernel
theorem dX6_take_1 : decode cX6_take 1 = .ok (.ifCond .lt 8, 3) := by decide +kernel
theorem dX6_take_4 : decode cX6_take 4 = .ok (.iload_n 1, 1) := by decide +kernel
theorem dX6_take_5 : decode cX6_take 5 = .ok (.iconst 4, 1) := by decide +kernel
theorem dX6_take_6 : decode cX6_take 6 = .ok (.if_icmp .le 6, 3) := by decide +kernel
theorem dX6_take_9 : decode cX6_take 9 = .ok (.bipush (-2), 2) := by decide +kernel
theorem dX6_take_11 : decode cX6_take 11 = .ok (.ireturn, 1) := by decide +kernel
theorem dX6_take_12 : decode cX6_take 12 = .ok (.aload_n 0, 1) := by decide +kernel
theorem dX6_take_13 : decode cX6_take 13 = .ok (.getfield 29, 3) := by decide +kernel
theorem dX6_take_16 : decode cX6_take 16 = .ok (.aload_n 0, 1) := by decide +kernel
theorem dX6_take_17 : decode cX6_take 17 = .ok (.getfield 12, 3) := by decide +kernel
theorem dX6_take_20 : decode cX6_take 20 = .ok (.invokevirtual 54, 3) := by decide +kernel
theorem dX6_take_23 : decode cX6_take 23 = .ok (.aload_n 0, 1) := by decide +kernel
theorem dX6_take_24 : decode cX6_take 24 = .ok (.getfield 12, 3) := by decide +kernel
theorem dX6_take_27 : decode cX6_take 27 = .ok (.iload_n 1, 1) := by decide +kernel
theorem dX6_take_28 : decode cX6_take 28 = .ok (.invokestatic 58, 3) := by decide +kernel
theorem dX6_take_31 : decode cX6_take 31 = .ok (.invokevirtual 62, 3) := by decide +kernel
theorem dX6_take_34 : decode cX6_take 34 = .ok (.aload_n 0, 1) := by decide +kernel
theorem dX6_take_35 : decode cX6_take 35 = .ok (.getfield 12, 3) := by decide +kernel
theorem dX6_take_38 : decode cX6_take 38 = .ok (.invokevirtual 66, 3) := by decide +kernel
theorem dX6_take_41 : decode cX6_take 41 = .ok (.ireturn, 1) := by decide +kernel
set_option maxRecDepth 20000 in
theorem ggX6_addKnot_X2_knots : GoodIn wsX6_addKnot wsX2_knots := goodIn_r _ [7, 8, 56, 57, 58, 59] (by decide +kernel) (by decide +kernel)
set_option maxRecDepth 20000 in
theorem gX6_addKnot_X2_knots : GoodIn wsX6_addKnot (wsV RX6 66 RX2 yX2_knots wsX2_knots) := goodIn_app (goodIn_of _ (by decide +kernel)) ggX6_addKnot_X2_knots
set_option maxRecDepth 20000 in
theorem ggX6_addKnot_X1_push : GoodIn wsX6_addKnot wsX1_push := goodIn_r _ [13, 14, 15, 16, 17, 18, 12, 19, 20, 21, 22, 6, 23, 8, 24, 25, 26, 27, 28, 29, 30, 31, 32, 33, 34, 35, 36, 37, 38, 39, 60, 61, 56, 57, 58, 59] (by decide +kernel) (by decide +kernel)
set_option maxRecDepth 20000 in
theorem gX6_addKnot_X1_push : GoodIn wsX6_addKnot (wsV RX6 54 RX1 yX1_push wsX1_push) := goodIn_app (goodIn_of _ (by decide +kernel)) ggX6_addKnot_X1_push
set_option maxRecDepth 20000 in
theorem ggX6_addKnot_X2_addKnots : GoodIn wsX6_addKnot wsX2_addKnots := goodIn_r _ [43, 8, 44, 45, 46, 47, 56, 57, 58, 59] (by decide +kernel) (by decide +kernel)
set_option maxRecDepth 20000 in
theorem gX6_addKnot_X2_addKnots : GoodIn wsX6_addKnot (wsV RX6 70 RX2 yX2_addKnots wsX2_addKnots) := goodIn_app (goodIn_of _ (by decide +kernel)) ggX6_addKnot_X2_addKnots
theorem dX6_addKnot_0 : decode cX6_addKnot 0 = .ok (.aload_n 0, 1) := by decide +kernel
theorem dX6_addKnot_1 : decode cX6_addKnot 1 = .ok (.getfield 12, 3) := by decide +kernel
theorem dX6_addKnot_4 : decode cX6_addKnot 4 = .ok (.invokevirtual 66, 3) := by decide +kernel
theorem dX6_addKnot_7 : decode cX6_addKnot 7 = .ok (.bipush 14, 2) := by decide +kernel
theorem dX6_addKnot_9 : decode cX6_addKnot 9 = .ok (.if_icmp .lt 6, 3) := by decide +kernel
theorem dX6_addKnot_12 : decode cX6_addKnot 12 = .ok (.bipush (-3), 2) := by decide +kernel
theorem dX6_addKnot_14 : decode cX6_addKnot 14 = .ok (.ireturn, 1) := by decide +kernel
theorem dX6_addKnot_15 : decode cX6_addKnot 15 = .ok (.aload_n 0, 1) := by decide +kernel
theorem dX6_addKnot_16 : decode cX6_addKnot 16 = .ok (.getfield 29, 3) := by decide +kernel
theorem dX6_addKnot_19 : decode cX6_addKnot 19 = .ok (.aload_n 0, 1) := by decide +kernel
theorem dX6_addKnot_20 : decode cX6_addKnot 20 = .ok (.getfield 12, 3) := by decide +kernel
theorem dX6_addKnot_23 : decode cX6_addKnot 23 = .ok (.invokevirtual 54, 3) := by decide +kernel
theorem dX6_addKnot_26 : decode cX6_addKnot 26 = .ok (.aload_n 0, 1) := by decide +kernel
theorem dX6_addKnot_27 : decode cX6_addKnot 27 = .ok (.getfield 12, 3) := by decide +kernel
theorem dX6_addKnot_30 : decode cX6_addKnot 30 = .ok (.iconst 1, 1) := by decide +kernel
theorem dX6_addKnot_31 : decode cX6_addKnot 31 = .ok (.invokevirtual 70, 3) := by decide +kernel
theorem dX6_addKnot_34 : decode cX6_addKnot 34 = .ok (.aload_n 0, 1) := by decide +kernel
theorem dX6_addKnot_35 : decode cX6_addKnot 35 = .ok (.getfield 12, 3) := by decide +kernel
theorem dX6_addKnot_38 : decode cX6_addKnot 38 = .ok (.invokevirtual 66, 3) := by decide +kernel
theorem dX6_addKnot_41 : decode cX6_addKnot 41 = .ok (.iconst 1, 1) := by decide +kernel
theorem dX6_addKnot_42 : decode cX6_addKnot 42 = .ok (.isub, 1) := by decide +kernel
theorem dX6_addKnot_43 : decode cX6_addKnot 43 = .ok (.ireturn, 1) := by decide +kernel
set_option maxRecDepth 20000 in
theorem ggX6_removeKnot_X2_hasKnot : GoodIn wsX6_removeKnot wsX2_hasKnot := goodIn_r _ [7, 8, 77, 78, 79, 80] (by decide +kernel) (by decide +kernel)
set_option maxRecDepth 20000 in
theorem gX6_removeKnot_X2_hasKnot : GoodIn wsX6_removeKnot (wsV RX6 74 RX2 yX2_hasKnot wsX2_hasKnot) := goodIn_app (goodIn_of _ (by decide +kernel)) ggX6_removeKnot_X2_hasKnot
set_option maxRecDepth 20000 in
theorem ggX6_removeKnot_X1_push : GoodIn wsX6_removeKnot wsX1_push := goodIn_r _ [13, 14, 15, 16, 17, 18, 12, 19, 20, 21, 22, 6, 23, 8, 24, 25, 26, 27, 28, 29, 30, 31, 32, 33, 34, 35, 36, 37, 38, 39, 81, 82, 77, 78, 79, 80] (by decide +kernel) (by decide +kernel)
set_option maxRecDepth 20000 in
theorem gX6_removeKnot_X1_push : GoodIn wsX6_removeKnot (wsV RX6 54 RX1 yX1_push wsX1_push) := goodIn_app (goodIn_of _ (by decide +kernel)) ggX6_removeKnot_X1_push
set_option maxRecDepth 20000 in
theorem ggX6_removeKnot_X2_dropKnot : GoodIn wsX6_removeKnot wsX2_dropKnot := goodIn_r _ [43, 24, 25, 8, 44, 4, 5, 6, 7, 45, 32, 46, 47, 48, 49, 50, 27, 28, 29, 30, 31, 33, 51, 52, 53, 54, 55, 56, 57, 58, 59, 60, 26, 61, 62, 63, 64, 34, 35, 77, 78, 79, 80] (by decide +kernel) (by decide +kernel)
set_option maxRecDepth 20000 in
theorem gX6_removeKnot_X2_dropKnot : GoodIn wsX6_removeKnot (wsV RX6 78 RX2 yX2_dropKnot wsX2_dropKnot) := goodIn_app (goodIn_of _ (by decide +kernel)) ggX6_removeKnot_X2_dropKnot
set_option maxRecDepth 20000 in
theorem ggX6_removeKnot_X2_threads : GoodIn wsX6_removeKnot wsX2_threads := goodIn_r _ [68, 24, 77, 78, 79, 80] (by decide +kernel) (by decide +kernel)
set_option maxRecDepth 20000 in
theorem gX6_removeKnot_X2_threads : GoodIn wsX6_removeKnot (wsV RX6 81 RX2 yX2_threads wsX2_threads) := goodIn_app (goodIn_of _ (by decide +kernel)) ggX6_removeKnot_X2_threads
theorem dX6_removeKnot_0 : decode cX6_removeKnot 0 = .ok (.aload_n 0, 1) := by decide +kernel
theorem dX6_removeKnot_1 : decode cX6_removeKnot 1 = .ok (.getfield 12, 3) := by decide +kernel
theorem dX6_removeKnot_4 : decode cX6_removeKnot 4 = .ok (.iload_n 1, 1) := by decide +kernel
theorem dX6_removeKnot_5 : decode cX6_removeKnot 5 = .ok (.invokevirtual 74, 3) := by decide +kernel
theorem dX6_removeKnot_8 : decode cX6_removeKnot 8 = .ok (.ifCond .ne 5, 3) := by decide +kernel
theorem dX6_removeKnot_11 : decode cX6_removeKnot 11 = .ok (.iconst (-1), 1) := by decide +kernel
theorem dX6_removeKnot_12 : decode cX6_removeKnot 12 = .ok (.ireturn, 1) := by decide +kernel
theorem dX6_removeKnot_13 : decode cX6_removeKnot 13 = .ok (.aload_n 0, 1) := by decide +kernel
theorem dX6_removeKnot_14 : decode cX6_removeKnot 14 = .ok (.getfield 29, 3) := by decide +kernel
theorem dX6_removeKnot_17 : decode cX6_removeKnot 17 = .ok (.aload_n 0, 1) := by decide +kernel
theorem dX6_removeKnot_18 : decode cX6_removeKnot 18 = .ok (.getfield 12, 3) := by decide +kernel
theorem dX6_removeKnot_21 : decode cX6_removeKnot 21 = .ok (.invokevirtual 54, 3) := by decide +kernel
theorem dX6_removeKnot_24 : decode cX6_removeKnot 24 = .ok (.aload_n 0, 1) := by decide +kernel
theorem dX6_removeKnot_25 : decode cX6_removeKnot 25 = .ok (.getfield 12, 3) := by decide +kernel
theorem dX6_removeKnot_28 : decode cX6_removeKnot 28 = .ok (.iload_n 1, 1) := by decide +kernel
theorem dX6_removeKnot_29 : decode cX6_removeKnot 29 = .ok (.invokevirtual 78, 3) := by decide +kernel
theorem dX6_removeKnot_32 : decode cX6_removeKnot 32 = .ok (.aload_n 0, 1) := by decide +kernel
theorem dX6_removeKnot_33 : decode cX6_removeKnot 33 = .ok (.getfield 12, 3) := by decide +kernel
theorem dX6_removeKnot_36 : decode cX6_removeKnot 36 = .ok (.invokevirtual 81, 3) := by decide +kernel
theorem dX6_removeKnot_39 : decode cX6_removeKnot 39 = .ok (.ireturn, 1) := by decide +kernel
set_option maxRecDepth 20000 in
theorem ggX6_addThread_X2_hasKnot : GoodIn wsX6_addThread wsX2_hasKnot := goodIn_r _ [7, 8, 89, 90, 91, 92] (by decide +kernel) (by decide +kernel)
set_option maxRecDepth 20000 in
theorem gX6_addThread_X2_hasKnot : GoodIn wsX6_addThread (wsV RX6 74 RX2 yX2_hasKnot wsX2_hasKnot) := goodIn_app (goodIn_of _ (by decide +kernel)) ggX6_addThread_X2_hasKnot
set_option maxRecDepth 20000 in
theorem ggX6_addThread_X6_bit : GoodIn wsX6_addThread wsX6_bit := goodIn_r _ [12] (by decide +kernel) (by decide +kernel)
set_option maxRecDepth 20000 in
theorem gX6_addThread_X6_bit : GoodIn wsX6_addThread (va_wsS RX6 84 yX6_bit wsX6_bit) := goodIn_app (goodIn_of _ (by decide +kernel)) ggX6_addThread_X6_bit
set_option maxRecDepth 20000 in
theorem ggX6_addThread_X2_mayTie : GoodIn wsX6_addThread wsX2_mayTie := goodIn_r _ [16, 17, 18, 19, 6, 20, 21, 22, 23, 24, 25, 26, 27, 11, 28, 29, 30, 31, 32, 33, 34, 35, 36, 37, 38, 39, 40, 10, 12, 41, 42, 43, 44, 45, 46, 47, 48, 49, 50, 89, 90, 91, 92] (by decide +kernel) (by decide +kernel)
set_option maxRecDepth 20000 in
theorem gX6_addThread_X2_mayTie : GoodIn wsX6_addThread (wsV RX6 88 RX2 yX2_mayTie wsX2_mayTie) := goodIn_app (goodIn_of _ (by decide +kernel)) ggX6_addThread_X2_mayTie
set_option maxRecDepth 20000 in
theorem ggX6_addThread_X1_push : GoodIn wsX6_addThread wsX1_push := goodIn_r _ [55, 56, 57, 58, 59, 60, 54, 61, 62, 63, 64, 6, 65, 8, 21, 26, 66, 22, 23, 24, 25, 27, 11, 28, 67, 68, 69, 70, 71, 72, 93, 94, 89, 90, 91, 92] (by decide +kernel) (by decide +kernel)
set_option maxRecDepth 20000 in
theorem gX6_addThread_X1_push : GoodIn wsX6_addThread (wsV RX6 54 RX1 yX1_push wsX1_push) := goodIn_app (goodIn_of _ (by decide +kernel)) ggX6_addThread_X1_push
set_option maxRecDepth 20000 in
theorem ggX6_addThread_X2_tie : GoodIn wsX6_addThread wsX2_tie := goodIn_r _ [76, 21, 26, 66, 67, 11, 68, 89, 90, 91, 92] (by decide +kernel) (by decide +kernel)
set_option maxRecDepth 20000 in
theorem gX6_addThread_X2_tie : GoodIn wsX6_addThread (wsV RX6 91 RX2 yX2_tie wsX2_tie) := goodIn_app (goodIn_of _ (by decide +kernel)) ggX6_addThread_X2_tie
set_option maxRecDepth 20000 in
theorem ggX6_addThread_X2_threads : GoodIn wsX6_addThread wsX2_threads := goodIn_r _ [80, 21, 89, 90, 91, 92] (by decide +kernel) (by decide +kernel)
set_option maxRecDepth 20000 in
theorem gX6_addThread_X2_threads : GoodIn wsX6_addThread (wsV RX6 81 RX2 yX2_threads wsX2_threads) := goodIn_app (goodIn_of _ (by decide +kernel)) ggX6_addThread_X2_threads
theorem dX6_addThread_0 : decode cX6_addThread 0 = .ok (.aload_n 0, 1) := by decide +kernel
theorem dX6_addThread_1 : decode cX6_addThread 1 = .ok (.getfield 12, 3) := by decide +kernel
theorem dX6_addThread_4 : decode cX6_addThread 4 = .ok (.iload_n 1, 1) := by decide +kernel
theorem dX6_addThread_5 : decode cX6_addThread 5 = .ok (.invokevirtual 74, 3) := by decide +kernel
theorem dX6_addThread_8 : decode cX6_addThread 8 = .ok (.ifCond .eq 14, 3) := by decide +kernel
theorem dX6_addThread_11 : decode cX6_addThread 11 = .ok (.aload_n 0, 1) := by decide +kernel
theorem dX6_addThread_12 : decode cX6_addThread 12 = .ok (.getfield 12, 3) := by decide +kernel
theorem dX6_addThread_15 : decode cX6_addThread 15 = .ok (.iload_n 2, 1) := by decide +kernel
theorem dX6_addThread_16 : decode cX6_addThread 16 = .ok (.invokevirtual 74, 3) := by decide +kernel
theorem dX6_addThread_19 : decode cX6_addThread 19 = .ok (.ifCond .ne 5, 3) := by decide +kernel
theorem dX6_addThread_22 : decode cX6_addThread 22 = .ok (.iconst (-1), 1) := by decide +kernel
theorem dX6_addThread_23 : decode cX6_addThread 23 = .ok (.ireturn, 1) := by decide +kernel
theorem dX6_addThread_24 : decode cX6_addThread 24 = .ok (.iload_n 1, 1) := by decide +kernel
theorem dX6_addThread_25 : decode cX6_addThread 25 = .ok (.iload_n 2, 1) := by decide +kernel
theorem dX6_addThread_26 : decode cX6_addThread 26 = .ok (.if_icmp .ne 6, 3) := by decide +kernel
theorem dX6_addThread_29 : decode cX6_addThread 29 = .ok (.bipush (-2), 2) := by decide +kernel
theorem dX6_addThread_31 : decode cX6_addThread 31 = .ok (.ireturn, 1) := by decide +kernel
theorem dX6_addThread_32 : decode cX6_addThread 32 = .ok (.iload_n 1, 1) := by decide +kernel
theorem dX6_addThread_33 : decode cX6_addThread 33 = .ok (.invokestatic 84, 3) := by decide +kernel
theorem dX6_addThread_36 : decode cX6_addThread 36 = .ok (.iload_n 2, 1) := by decide +kernel
theorem dX6_addThread_37 : decode cX6_addThread 37 = .ok (.invokestatic 84, 3) := by decide +kernel
theorem dX6_addThread_40 : decode cX6_addThread 40 = .ok (.ior, 1) := by decide +kernel
theorem dX6_addThread_41 : decode cX6_addThread 41 = .ok (.istore_n 3, 1) := by decide +kernel
theorem dX6_addThread_42 : decode cX6_addThread 42 = .ok (.aload_n 0, 1) := by decide +kernel
theorem dX6_addThread_43 : decode cX6_addThread 43 = .ok (.getfield 12, 3) := by decide +kernel
theorem dX6_addThread_46 : decode cX6_addThread 46 = .ok (.iload_n 3, 1) := by decide +kernel
theorem dX6_addThread_47 : decode cX6_addThread 47 = .ok (.invokevirtual 88, 3) := by decide +kernel
theorem dX6_addThread_50 : decode cX6_addThread 50 = .ok (.ifCond .ne 6, 3) := by decide +kernel
theorem dX6_addThread_53 : decode cX6_addThread 53 = .ok (.bipush (-4), 2) := by decide +kernel
theorem dX6_addThread_55 : decode cX6_addThread 55 = .ok (.ireturn, 1) := by decide +kernel
theorem dX6_addThread_56 : decode cX6_addThread 56 = .ok (.aload_n 0, 1) := by decide +kernel
theorem dX6_addThread_57 : decode cX6_addThread 57 = .ok (.getfield 29, 3) := by decide +kernel
theorem dX6_addThread_60 : decode cX6_addThread 60 = .ok (.aload_n 0, 1) := by decide +kernel
theorem dX6_addThread_61 : decode cX6_addThread 61 = .ok (.getfield 12, 3) := by decide +kernel
theorem dX6_addThread_64 : decode cX6_addThread 64 = .ok (.invokevirtual 54, 3) := by decide +kernel
theorem dX6_addThread_67 : decode cX6_addThread 67 = .ok (.aload_n 0, 1) := by decide +kernel
theorem dX6_addThread_68 : decode cX6_addThread 68 = .ok (.getfield 12, 3) := by decide +kernel
theorem dX6_addThread_71 : decode cX6_addThread 71 = .ok (.iload_n 3, 1) := by decide +kernel
theorem dX6_addThread_72 : decode cX6_addThread 72 = .ok (.invokevirtual 91, 3) := by decide +kernel
theorem dX6_addThread_75 : decode cX6_addThread 75 = .ok (.aload_n 0, 1) := by decide +kernel
theorem dX6_addThread_76 : decode cX6_addThread 76 = .ok (.getfield 12, 3) := by decide +kernel
theorem dX6_addThread_79 : decode cX6_addThread 79 = .ok (.invokevirtual 81, 3) := by decide +kernel
theorem dX6_addThread_82 : decode cX6_addThread 82 = .ok (.iconst 1, 1) := by decide +kernel
theorem dX6_addThread_83 : decode cX6_addThread 83 = .ok (.isub, 1) := by decide +kernel
theorem dX6_addThread_84 : decode cX6_addThread 84 = .ok (.ireturn, 1) := by decide +kernel
set_option maxRecDepth 20000 in
theorem ggX6_removeThread_X2_hasThread : GoodIn wsX6_removeThread wsX2_hasThread := goodIn_r _ [7, 8, 57, 58, 59, 60] (by decide +kernel) (by decide +kernel)
set_option maxRecDepth 20000 in
theorem gX6_removeThread_X2_hasThread : GoodIn wsX6_removeThread (wsV RX6 94 RX2 yX2_hasThread wsX2_hasThread) := goodIn_app (goodIn_of _ (by decide +kernel)) ggX6_removeThread_X2_hasThread
set_option maxRecDepth 20000 in
theorem ggX6_removeThread_X1_push : GoodIn wsX6_removeThread wsX1_push := goodIn_r _ [13, 14, 15, 16, 17, 18, 12, 19, 20, 21, 22, 6, 23, 24, 8, 25, 26, 27, 28, 29, 30, 31, 32, 33, 34, 35, 36, 37, 38, 39, 61, 62, 57, 58, 59, 60] (by decide +kernel) (by decide +kernel)
set_option maxRecDepth 20000 in
theorem gX6_removeThread_X1_push : GoodIn wsX6_removeThread (wsV RX6 54 RX1 yX1_push wsX1_push) := goodIn_app (goodIn_of _ (by decide +kernel)) ggX6_removeThread_X1_push
set_option maxRecDepth 20000 in
theorem ggX6_removeThread_X2_dropThread : GoodIn wsX6_removeThread wsX2_dropThread := goodIn_r _ [43, 8, 25, 26, 44, 4, 5, 6, 7, 31, 32, 33, 34, 35, 57, 58, 59, 60] (by decide +kernel) (by decide +kernel)
set_option maxRecDepth 20000 in
theorem gX6_removeThread_X2_dropThread : GoodIn wsX6_removeThread (wsV RX6 97 RX2 yX2_dropThread wsX2_dropThread) := goodIn_app (goodIn_of _ (by decide +kernel)) ggX6_removeThread_X2_dropThread
set_option maxRecDepth 20000 in
theorem ggX6_removeThread_X2_threads : GoodIn wsX6_removeThread wsX2_threads := goodIn_r _ [48, 8, 57, 58, 59, 60] (by decide +kernel) (by decide +kernel)
set_option maxRecDepth 20000 in
theorem gX6_removeThread_X2_threads : GoodIn wsX6_removeThread (wsV RX6 81 RX2 yX2_threads wsX2_threads) := goodIn_app (goodIn_of _ (by decide +kernel)) ggX6_removeThread_X2_threads
theorem dX6_removeThread_0 : decode cX6_removeThread 0 = .ok (.aload_n 0, 1) := by decide +kernel
theorem dX6_removeThread_1 : decode cX6_removeThread 1 = .ok (.getfield 12, 3) := by decide +kernel
theorem dX6_removeThread_4 : decode cX6_removeThread 4 = .ok (.iload_n 1, 1) := by decide +kernel
theorem dX6_removeThread_5 : decode cX6_removeThread 5 = .ok (.invokevirtual 94, 3) := by decide +kernel
theorem dX6_removeThread_8 : decode cX6_removeThread 8 = .ok (.ifCond .ne 5, 3) := by decide +kernel
theorem dX6_removeThread_11 : decode cX6_removeThread 11 = .ok (.iconst (-1), 1) := by decide +kernel
theorem dX6_removeThread_12 : decode cX6_removeThread 12 = .ok (.ireturn, 1) := by decide +kernel
theorem dX6_removeThread_13 : decode cX6_removeThread 13 = .ok (.aload_n 0, 1) := by decide +kernel
theorem dX6_removeThread_14 : decode cX6_removeThread 14 = .ok (.getfield 29, 3) := by decide +kernel
theorem dX6_removeThread_17 : decode cX6_removeThread 17 = .ok (.aload_n 0, 1) := by decide +kernel
theorem dX6_removeThread_18 : decode cX6_removeThread 18 = .ok (.getfield 12, 3) := by decide +kernel
theorem dX6_removeThread_21 : decode cX6_removeThread 21 = .ok (.invokevirtual 54, 3) := by decide +kernel
theorem dX6_removeThread_24 : decode cX6_removeThread 24 = .ok (.aload_n 0, 1) := by decide +kernel
theorem dX6_removeThread_25 : decode cX6_removeThread 25 = .ok (.getfield 12, 3) := by decide +kernel
theorem dX6_removeThread_28 : decode cX6_removeThread 28 = .ok (.iload_n 1, 1) := by decide +kernel
theorem dX6_removeThread_29 : decode cX6_removeThread 29 = .ok (.invokevirtual 97, 3) := by decide +kernel
theorem dX6_removeThread_32 : decode cX6_removeThread 32 = .ok (.aload_n 0, 1) := by decide +kernel
theorem dX6_removeThread_33 : decode cX6_removeThread 33 = .ok (.getfield 12, 3) := by decide +kernel
theorem dX6_removeThread_36 : decode cX6_removeThread 36 = .ok (.invokevirtual 81, 3) := by decide +kernel
theorem dX6_removeThread_39 : decode cX6_removeThread 39 = .ok (.ireturn, 1) := by decide +kernel
set_option maxRecDepth 20000 in
theorem ggX6_readNet_X4_read : GoodIn wsX6_readNet wsX4_read := goodIn_r _ [9, 10, 11, 12, 13, 14, 8, 15, 16, 17, 18, 19, 20, 21, 22, 23, 24, 25, 125, 126, 127, 128] (by decide +kernel) (by decide +kernel)
set_option maxRecDepth 20000 in
theorem gX6_readNet_X4_read : GoodIn wsX6_readNet (wsV RX6 100 RX4 yX4_read wsX4_read) := goodIn_app (goodIn_of _ (by decide +kernel)) ggX6_readNet_X4_read
set_option maxRecDepth 20000 in
theorem ggX6_readNet_X4_tiesAKnotToItself : GoodIn wsX6_readNet wsX4_tiesAKnotToItself := goodIn_r _ [29, 10, 20, 30, 22, 31, 32, 33, 34, 35, 36, 37, 38, 125, 126, 127, 128] (by decide +kernel) (by decide +kernel)
set_option maxRecDepth 20000 in
theorem gX6_readNet_X4_tiesAKnotToItself : GoodIn wsX6_readNet (wsV RX6 103 RX4 yX4_tiesAKnotToItself wsX4_tiesAKnotToItself) := goodIn_app (goodIn_of _ (by decide +kernel)) ggX6_readNet_X4_tiesAKnotToItself
set_option maxRecDepth 20000 in
theorem ggX6_readNet_X4_tieInto : GoodIn wsX6_readNet wsX4_tieInto := goodIn_r _ [42, 10, 20, 43, 44, 45, 46, 47, 48, 49, 30, 22, 31, 50, 51, 52, 53, 54, 55, 56, 57, 58, 59, 60, 61, 62, 63, 64, 34, 65, 66, 67, 68, 69, 70, 71, 72, 73, 21, 23, 74, 75, 76, 77, 78, 33, 35, 36, 37, 38, 79, 80, 81, 82, 83, 24, 25, 84, 85, 86, 87, 88, 89, 90, 91, 92, 125, 126, 127, 128, 129, 130, 131, 132] (by decide +kernel) (by decide +kernel)
set_option maxRecDepth 20000 in
theorem gX6_readNet_X4_tieInto : GoodIn wsX6_readNet (wsV RX6 107 RX4 yX4_tieInto wsX4_tieInto) := goodIn_app (goodIn_of _ (by decide +kernel)) ggX6_readNet_X4_tieInto
set_option maxRecDepth 20000 in
theorem ggX6_readNet_X1_push : GoodIn wsX6_readNet wsX1_push := goodIn_r _ [97, 98, 99, 100, 101, 102, 96, 103, 104, 105, 106, 46, 107, 48, 49, 62, 83, 58, 59, 60, 61, 30, 22, 31, 24, 25, 108, 109, 110, 111, 133, 134, 129, 130, 131, 132] (by decide +kernel) (by decide +kernel)
set_option maxRecDepth 20000 in
theorem gX6_readNet_X1_push : GoodIn wsX6_readNet (wsV RX6 54 RX1 yX1_push wsX1_push) := goodIn_app (goodIn_of _ (by decide +kernel)) ggX6_readNet_X1_push
set_option maxRecDepth 20000 in
theorem ggX6_readNet_X2_copyFrom : GoodIn wsX6_readNet wsX2_copyFrom := goodIn_r _ [107, 48, 49, 62, 83, 58, 59, 60, 46, 61, 30, 22, 31, 24, 25, 108, 109, 110, 111, 129, 130, 131, 132] (by decide +kernel) (by decide +kernel)
set_option maxRecDepth 20000 in
theorem gX6_readNet_X2_copyFrom : GoodIn wsX6_readNet (wsV RX6 111 RX2 yX2_copyFrom wsX2_copyFrom) := goodIn_app (goodIn_of _ (by decide +kernel)) ggX6_readNet_X2_copyFrom
set_option maxRecDepth 20000 in
theorem ggX6_readNet_X2_knots : GoodIn wsX6_readNet wsX2_knots := goodIn_r _ [116, 48, 129, 130, 131, 132] (by decide +kernel) (by decide +kernel)
set_option maxRecDepth 20000 in
theorem gX6_readNet_X2_knots : GoodIn wsX6_readNet (wsV RX6 66 RX2 yX2_knots wsX2_knots) := goodIn_app (goodIn_of _ (by decide +kernel)) ggX6_readNet_X2_knots
theorem dX6_readNet_0 : decode cX6_readNet 0 = .ok (.aload_n 0, 1) := by decide +kernel
theorem dX6_readNet_1 : decode cX6_readNet 1 = .ok (.getfield 36, 3) := by decide +kernel
theorem dX6_readNet_4 : decode cX6_readNet 4 = .ok (.invokevirtual 100, 3) := by decide +kernel
theorem dX6_readNet_7 : decode cX6_readNet 7 = .ok (.istore_n 1, 1) := by decide +kernel
theorem dX6_readNet_8 : decode cX6_readNet 8 = .ok (.iload_n 1, 1) := by decide +kernel
theorem dX6_readNet_9 : decode cX6_readNet 9 = .ok (.ifCond .lt 8, 3) := by decide +kernel
theorem dX6_readNet_12 : decode cX6_readNet 12 = .ok (.bipush (-100), 2) := by decide +kernel
theorem dX6_readNet_14 : decode cX6_readNet 14 = .ok (.iload_n 1, 1) := by decide +kernel
theorem dX6_readNet_15 : decode cX6_readNet 15 = .ok (.isub, 1) := by decide +kernel
theorem dX6_readNet_16 : decode cX6_readNet 16 = .ok (.ireturn, 1) := by decide +kernel
theorem dX6_readNet_17 : decode cX6_readNet 17 = .ok (.aload_n 0, 1) := by decide +kernel
theorem dX6_readNet_18 : decode cX6_readNet 18 = .ok (.getfield 36, 3) := by decide +kernel
theorem dX6_readNet_21 : decode cX6_readNet 21 = .ok (.invokevirtual 103, 3) := by decide +kernel
theorem dX6_readNet_24 : decode cX6_readNet 24 = .ok (.ifCond .eq 6, 3) := by decide +kernel
theorem dX6_readNet_27 : decode cX6_readNet 27 = .ok (.bipush (-2), 2) := by decide +kernel
theorem dX6_readNet_29 : decode cX6_readNet 29 = .ok (.ireturn, 1) := by decide +kernel
theorem dX6_readNet_30 : decode cX6_readNet 30 = .ok (.aload_n 0, 1) := by decide +kernel
theorem dX6_readNet_31 : decode cX6_readNet 31 = .ok (.getfield 36, 3) := by decide +kernel
theorem dX6_readNet_34 : decode cX6_readNet 34 = .ok (.aload_n 0, 1) := by decide +kernel
theorem dX6_readNet_35 : decode cX6_readNet 35 = .ok (.getfield 16, 3) := by decide +kernel
theorem dX6_readNet_38 : decode cX6_readNet 38 = .ok (.invokevirtual 107, 3) := by decide +kernel
theorem dX6_readNet_41 : decode cX6_readNet 41 = .ok (.ifCond .ne 6, 3) := by decide +kernel
theorem dX6_readNet_44 : decode cX6_readNet 44 = .ok (.bipush (-4), 2) := by decide +kernel
theorem dX6_readNet_46 : decode cX6_readNet 46 = .ok (.ireturn, 1) := by decide +kernel
theorem dX6_readNet_47 : decode cX6_readNet 47 = .ok (.aload_n 0, 1) := by decide +kernel
theorem dX6_readNet_48 : decode cX6_readNet 48 = .ok (.getfield 29, 3) := by decide +kernel
theorem dX6_readNet_51 : decode cX6_readNet 51 = .ok (.aload_n 0, 1) := by decide +kernel
theorem dX6_readNet_52 : decode cX6_readNet 52 = .ok (.getfield 12, 3) := by decide +kernel
theorem dX6_readNet_55 : decode cX6_readNet 55 = .ok (.invokevirtual 54, 3) := by decide +kernel
theorem dX6_readNet_58 : decode cX6_readNet 58 = .ok (.aload_n 0, 1) := by decide +kernel
theorem dX6_readNet_59 : decode cX6_readNet 59 = .ok (.getfield 12, 3) := by decide +kernel
theorem dX6_readNet_62 : decode cX6_readNet 62 = .ok (.aload_n 0, 1) := by decide +kernel
theorem dX6_readNet_63 : decode cX6_readNet 63 = .ok (.getfield 16, 3) := by decide +kernel
theorem dX6_readNet_66 : decode cX6_readNet 66 = .ok (.invokevirtual 111, 3) := by decide +kernel
theorem dX6_readNet_69 : decode cX6_readNet 69 = .ok (.aload_n 0, 1) := by decide +kernel
theorem dX6_readNet_70 : decode cX6_readNet 70 = .ok (.getfield 12, 3) := by decide +kernel
theorem dX6_readNet_73 : decode cX6_readNet 73 = .ok (.invokevirtual 66, 3) := by decide +kernel
theorem dX6_readNet_76 : decode cX6_readNet 76 = .ok (.ireturn, 1) := by decide +kernel
set_option maxRecDepth 20000 in
theorem ggX6_grow_X2_hasKnot : GoodIn wsX6_grow wsX2_hasKnot := goodIn_r _ [7, 8, 93, 94, 95, 96] (by decide +kernel) (by decide +kernel)
set_option maxRecDepth 20000 in
theorem gX6_grow_X2_hasKnot : GoodIn wsX6_grow (wsV RX6 74 RX2 yX2_hasKnot wsX2_hasKnot) := goodIn_app (goodIn_of _ (by decide +kernel)) ggX6_grow_X2_hasKnot
set_option maxRecDepth 20000 in
theorem ggX6_grow_X2_isFullKnot : GoodIn wsX6_grow wsX2_isFullKnot := goodIn_r _ [12, 13, 14, 15, 16, 17, 18, 6, 19, 20, 21, 22, 23, 24, 25, 26, 27, 28, 29, 30, 31, 32, 33, 34, 93, 94, 95, 96] (by decide +kernel) (by decide +kernel)
set_option maxRecDepth 20000 in
theorem gX6_grow_X2_isFullKnot : GoodIn wsX6_grow (wsV RX6 114 RX2 yX2_isFullKnot wsX2_isFullKnot) := goodIn_app (goodIn_of _ (by decide +kernel)) ggX6_grow_X2_isFullKnot
set_option maxRecDepth 20000 in
theorem ggX6_grow_X2_knots : GoodIn wsX6_grow wsX2_knots := goodIn_r _ [38, 8, 93, 94, 95, 96] (by decide +kernel) (by decide +kernel)
set_option maxRecDepth 20000 in
theorem gX6_grow_X2_knots : GoodIn wsX6_grow (wsV RX6 66 RX2 yX2_knots wsX2_knots) := goodIn_app (goodIn_of _ (by decide +kernel)) ggX6_grow_X2_knots
set_option maxRecDepth 20000 in
theorem ggX6_grow_X1_push : GoodIn wsX6_grow wsX1_push := goodIn_r _ [43, 44, 45, 46, 47, 48, 42, 49, 50, 51, 52, 6, 53, 8, 20, 25, 54, 21, 22, 23, 24, 26, 14, 27, 55, 56, 57, 58, 59, 60, 97, 98, 93, 94, 95, 96] (by decide +kernel) (by decide +kernel)
set_option maxRecDepth 20000 in
theorem gX6_grow_X1_push : GoodIn wsX6_grow (wsV RX6 54 RX1 yX1_push wsX1_push) := goodIn_app (goodIn_of _ (by decide +kernel)) ggX6_grow_X1_push
set_option maxRecDepth 20000 in
theorem ggX6_grow_X2_growInto : GoodIn wsX6_grow wsX2_growInto := goodIn_r _ [64, 8, 13, 14, 15, 16, 17, 18, 6, 19, 20, 21, 22, 23, 24, 25, 26, 27, 65, 66, 67, 68, 69, 70, 71, 72, 73, 74, 30, 75, 76, 77, 78, 79, 80, 55, 56, 81, 82, 83, 84, 54, 93, 94, 95, 96] (by decide +kernel) (by decide +kernel)
set_option maxRecDepth 20000 in
theorem gX6_grow_X2_growInto : GoodIn wsX6_grow (wsV RX6 117 RX2 yX2_growInto wsX2_growInto) := goodIn_app (goodIn_of _ (by decide +kernel)) ggX6_grow_X2_growInto
theorem dX6_grow_0 : decode cX6_grow 0 = .ok (.aload_n 0, 1) := by decide +kernel
theorem dX6_grow_1 : decode cX6_grow 1 = .ok (.getfield 12, 3) := by decide +kernel
theorem dX6_grow_4 : decode cX6_grow 4 = .ok (.iload_n 1, 1) := by decide +kernel
theorem dX6_grow_5 : decode cX6_grow 5 = .ok (.invokevirtual 74, 3) := by decide +kernel
theorem dX6_grow_8 : decode cX6_grow 8 = .ok (.ifCond .ne 5, 3) := by decide +kernel
theorem dX6_grow_11 : decode cX6_grow 11 = .ok (.iconst (-1), 1) := by decide +kernel
theorem dX6_grow_12 : decode cX6_grow 12 = .ok (.ireturn, 1) := by decide +kernel
theorem dX6_grow_13 : decode cX6_grow 13 = .ok (.aload_n 0, 1) := by decide +kernel
theorem dX6_grow_14 : decode cX6_grow 14 = .ok (.getfield 12, 3) := by decide +kernel
theorem dX6_grow_17 : decode cX6_grow 17 = .ok (.iload_n 1, 1) := by decide +kernel
theorem dX6_grow_18 : decode cX6_grow 18 = .ok (.invokevirtual 114, 3) := by decide +kernel
theorem dX6_grow_21 : decode cX6_grow 21 = .ok (.ifCond .ne 6, 3) := by decide +kernel
theorem dX6_grow_24 : decode cX6_grow 24 = .ok (.bipush (-4), 2) := by decide +kernel
theorem dX6_grow_26 : decode cX6_grow 26 = .ok (.ireturn, 1) := by decide +kernel
theorem dX6_grow_27 : decode cX6_grow 27 = .ok (.aload_n 0, 1) := by decide +kernel
theorem dX6_grow_28 : decode cX6_grow 28 = .ok (.getfield 12, 3) := by decide +kernel
theorem dX6_grow_31 : decode cX6_grow 31 = .ok (.invokevirtual 66, 3) := by decide +kernel
theorem dX6_grow_34 : decode cX6_grow 34 = .ok (.iconst 2, 1) := by decide +kernel
theorem dX6_grow_35 : decode cX6_grow 35 = .ok (.iadd, 1) := by decide +kernel
theorem dX6_grow_36 : decode cX6_grow 36 = .ok (.bipush 14, 2) := by decide +kernel
theorem dX6_grow_38 : decode cX6_grow 38 = .ok (.if_icmp .le 6, 3) := by decide +kernel
theorem dX6_grow_41 : decode cX6_grow 41 = .ok (.bipush (-3), 2) := by decide +kernel
theorem dX6_grow_43 : decode cX6_grow 43 = .ok (.ireturn, 1) := by decide +kernel
theorem dX6_grow_44 : decode cX6_grow 44 = .ok (.aload_n 0, 1) := by decide +kernel
theorem dX6_grow_45 : decode cX6_grow 45 = .ok (.getfield 29, 3) := by decide +kernel
theorem dX6_grow_48 : decode cX6_grow 48 = .ok (.aload_n 0, 1) := by decide +kernel
theorem dX6_grow_49 : decode cX6_grow 49 = .ok (.getfield 12, 3) := by decide +kernel
theorem dX6_grow_52 : decode cX6_grow 52 = .ok (.invokevirtual 54, 3) := by decide +kernel
theorem dX6_grow_55 : decode cX6_grow 55 = .ok (.aload_n 0, 1) := by decide +kernel
theorem dX6_grow_56 : decode cX6_grow 56 = .ok (.getfield 12, 3) := by decide +kernel
theorem dX6_grow_59 : decode cX6_grow 59 = .ok (.iload_n 1, 1) := by decide +kernel
theorem dX6_grow_60 : decode cX6_grow 60 = .ok (.invokevirtual 117, 3) := by decide +kernel
theorem dX6_grow_63 : decode cX6_grow 63 = .ok (.aload_n 0, 1) := by decide +kernel
theorem dX6_grow_64 : decode cX6_grow 64 = .ok (.getfield 12, 3) := by decide +kernel
theorem dX6_grow_67 : decode cX6_grow 67 = .ok (.invokevirtual 66, 3) := by decide +kernel
theorem dX6_grow_70 : decode cX6_grow 70 = .ok (.iconst 2, 1) := by decide +kernel
theorem dX6_grow_71 : decode cX6_grow 71 = .ok (.isub, 1) := by decide +kernel
theorem dX6_grow_72 : decode cX6_grow 72 = .ok (.ireturn, 1) := by decide +kernel
set_option maxRecDepth 20000 in
theorem ggX6_shrink_X2_hasKnot : GoodIn wsX6_shrink wsX2_hasKnot := goodIn_r _ [7, 8, 116, 117, 118, 119] (by decide +kernel) (by decide +kernel)
set_option maxRecDepth 20000 in
theorem gX6_shrink_X2_hasKnot : GoodIn wsX6_shrink (wsV RX6 74 RX2 yX2_hasKnot wsX2_hasKnot) := goodIn_app (goodIn_of _ (by decide +kernel)) ggX6_shrink_X2_hasKnot
set_option maxRecDepth 20000 in
theorem ggX6_shrink_X2_cornersBeside : GoodIn wsX6_shrink wsX2_cornersBeside := goodIn_r _ [12, 8, 13, 14, 15, 6, 16, 17, 18, 19, 20, 21, 22, 23, 24, 25, 26, 27, 28, 29, 30, 31, 32, 33, 34, 35, 36, 37, 38, 39, 40, 41, 42, 43, 44, 45, 46, 47, 48, 116, 117, 118, 119] (by decide +kernel) (by decide +kernel)
set_option maxRecDepth 20000 in
theorem gX6_shrink_X2_cornersBeside : GoodIn wsX6_shrink (wsV RX6 120 RX2 yX2_cornersBeside wsX2_cornersBeside) := goodIn_app (goodIn_of _ (by decide +kernel)) ggX6_shrink_X2_cornersBeside
set_option maxRecDepth 20000 in
theorem ggX6_shrink_X6_bit : GoodIn wsX6_shrink wsX6_bit := goodIn_r _ [19] (by decide +kernel) (by decide +kernel)
set_option maxRecDepth 20000 in
theorem gX6_shrink_X6_bit : GoodIn wsX6_shrink (va_wsS RX6 84 yX6_bit wsX6_bit) := goodIn_app (goodIn_of _ (by decide +kernel)) ggX6_shrink_X6_bit
set_option maxRecDepth 20000 in
theorem ggX6_shrink_X2_mayMerge : GoodIn wsX6_shrink wsX2_mayMerge := goodIn_r _ [53, 24, 25, 26, 27, 6, 28, 29, 30, 18, 31, 116, 117, 118, 119] (by decide +kernel) (by decide +kernel)
set_option maxRecDepth 20000 in
theorem gX6_shrink_X2_mayMerge : GoodIn wsX6_shrink (wsV RX6 123 RX2 yX2_mayMerge wsX2_mayMerge) := goodIn_app (goodIn_of _ (by decide +kernel)) ggX6_shrink_X2_mayMerge
set_option maxRecDepth 20000 in
theorem ggX6_shrink_X1_push : GoodIn wsX6_shrink wsX1_push := goodIn_r _ [58, 59, 60, 61, 62, 63, 57, 64, 65, 66, 67, 6, 68, 8, 24, 29, 69, 25, 26, 27, 28, 30, 18, 31, 70, 71, 72, 73, 74, 75, 120, 121, 116, 117, 118, 119] (by decide +kernel) (by decide +kernel)
set_option maxRecDepth 20000 in
theorem gX6_shrink_X1_push : GoodIn wsX6_shrink (wsV RX6 54 RX1 yX1_push wsX1_push) := goodIn_app (goodIn_of _ (by decide +kernel)) ggX6_shrink_X1_push
set_option maxRecDepth 20000 in
theorem ggX6_shrink_X2_merge : GoodIn wsX6_shrink wsX2_merge := goodIn_r _ [79, 24, 29, 25, 26, 27, 6, 28, 30, 18, 31, 17, 19, 70, 71, 80, 81, 34, 82, 83, 84, 85, 86, 87, 8, 88, 4, 5, 7, 20, 21, 22, 23, 89, 90, 91, 92, 43, 44, 93, 94, 95, 96, 69, 97, 98, 99, 100, 101, 102, 103, 116, 117, 118, 119] (by decide +kernel) (by decide +kernel)
set_option maxRecDepth 20000 in
theorem gX6_shrink_X2_merge : GoodIn wsX6_shrink (wsV RX6 126 RX2 yX2_merge wsX2_merge) := goodIn_app (goodIn_of _ (by decide +kernel)) ggX6_shrink_X2_merge
set_option maxRecDepth 20000 in
theorem ggX6_shrink_X2_knots : GoodIn wsX6_shrink wsX2_knots := goodIn_r _ [107, 8, 116, 117, 118, 119] (by decide +kernel) (by decide +kernel)
set_option maxRecDepth 20000 in
theorem gX6_shrink_X2_knots : GoodIn wsX6_shrink (wsV RX6 66 RX2 yX2_knots wsX2_knots) := goodIn_app (goodIn_of _ (by decide +kernel)) ggX6_shrink_X2_knots
theorem dX6_shrink_0 : decode cX6_shrink 0 = .ok (.aload_n 0, 1) := by decide +kernel
theorem dX6_shrink_1 : decode cX6_shrink 1 = .ok (.getfield 12, 3) := by decide +kernel
theorem dX6_shrink_4 : decode cX6_shrink 4 = .ok (.iload_n 1, 1) := by decide +kernel
theorem dX6_shrink_5 : decode cX6_shrink 5 = .ok (.invokevirtual 74, 3) := by decide +kernel
theorem dX6_shrink_8 : decode cX6_shrink 8 = .ok (.ifCond .ne 5, 3) := by decide +kernel
theorem dX6_shrink_11 : decode cX6_shrink 11 = .ok (.iconst (-1), 1) := by decide +kernel
theorem dX6_shrink_12 : decode cX6_shrink 12 = .ok (.ireturn, 1) := by decide +kernel
theorem dX6_shrink_13 : decode cX6_shrink 13 = .ok (.aload_n 0, 1) := by decide +kernel
theorem dX6_shrink_14 : decode cX6_shrink 14 = .ok (.getfield 12, 3) := by decide +kernel
theorem dX6_shrink_17 : decode cX6_shrink 17 = .ok (.iload_n 1, 1) := by decide +kernel
theorem dX6_shrink_18 : decode cX6_shrink 18 = .ok (.invokevirtual 120, 3) := by decide +kernel
theorem dX6_shrink_21 : decode cX6_shrink 21 = .ok (.istore_n 2, 1) := by decide +kernel
theorem dX6_shrink_22 : decode cX6_shrink 22 = .ok (.iload_n 2, 1) := by decide +kernel
theorem dX6_shrink_23 : decode cX6_shrink 23 = .ok (.ifCond .eq 19, 3) := by decide +kernel
theorem dX6_shrink_26 : decode cX6_shrink 26 = .ok (.aload_n 0, 1) := by decide +kernel
