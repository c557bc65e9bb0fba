theorem dX6_shrink_27 : decode cX6_shrink 27 = .ok (.getfield 12, 3) := by decide +kernel
theorem dX6_shrink_30 : decode cX6_shrink 30 = .ok (.iload_n 2, 1) := by decide +kernel
theorem dX6_shrink_31 : decode cX6_shrink 31 = .ok (.iload_n 1, 1) := by decide +kernel
theorem dX6_shrink_32 : decode cX6_shrink 32 = .ok (.invokestatic 84, 3) := by decide +kernel
theorem dX6_shrink_35 : decode cX6_shrink 35 = .ok (.ior, 1) := by decide +kernel
theorem dX6_shrink_36 : decode cX6_shrink 36 = .ok (.invokevirtual 123, 3) := by decide +kernel
theorem dX6_shrink_39 : decode cX6_shrink 39 = .ok (.ifCond .ne 6, 3) := by decide +kernel
theorem dX6_shrink_42 : decode cX6_shrink 42 = .ok (.bipush (-4), 2) := by decide +kernel
theorem dX6_shrink_44 : decode cX6_shrink 44 = .ok (.ireturn, 1) := by decide +kernel
theorem dX6_shrink_45 : decode cX6_shrink 45 = .ok (.aload_n 0, 1) := by decide +kernel
theorem dX6_shrink_46 : decode cX6_shrink 46 = .ok (.getfield 29, 3) := by decide +kernel
theorem dX6_shrink_49 : decode cX6_shrink 49 = .ok (.aload_n 0, 1) := by decide +kernel
theorem dX6_shrink_50 : decode cX6_shrink 50 = .ok (.getfield 12, 3) := by decide +kernel
theorem dX6_shrink_53 : decode cX6_shrink 53 = .ok (.invokevirtual 54, 3) := by decide +kernel
theorem dX6_shrink_56 : decode cX6_shrink 56 = .ok (.aload_n 0, 1) := by decide +kernel
theorem dX6_shrink_57 : decode cX6_shrink 57 = .ok (.getfield 12, 3) := by decide +kernel
theorem dX6_shrink_60 : decode cX6_shrink 60 = .ok (.iload_n 1, 1) := by decide +kernel
theorem dX6_shrink_61 : decode cX6_shrink 61 = .ok (.iload_n 2, 1) := by decide +kernel
theorem dX6_shrink_62 : decode cX6_shrink 62 = .ok (.invokevirtual 126, 3) := by decide +kernel
theorem dX6_shrink_65 : decode cX6_shrink 65 = .ok (.aload_n 0, 1) := by decide +kernel
theorem dX6_shrink_66 : decode cX6_shrink 66 = .ok (.getfield 12, 3) := by decide +kernel
theorem dX6_shrink_69 : decode cX6_shrink 69 = .ok (.invokevirtual 66, 3) := by decide +kernel
theorem dX6_shrink_72 : decode cX6_shrink 72 = .ok (.ireturn, 1) := by decide +kernel
set_option maxRecDepth 20000 in
theorem ggX6_join_X2_hasThread : GoodIn wsX6_join wsX2_hasThread := goodIn_r _ [7, 8, 87, 88, 89, 90] (by decide +kernel) (by decide +kernel)
set_option maxRecDepth 20000 in
theorem gX6_join_X2_hasThread : GoodIn wsX6_join (wsV RX6 94 RX2 yX2_hasThread wsX2_hasThread) := goodIn_app (goodIn_of _ (by decide +kernel)) ggX6_join_X2_hasThread
set_option maxRecDepth 20000 in
theorem ggX6_join_X2_knots : GoodIn wsX6_join wsX2_knots := goodIn_r _ [12, 13, 87, 88, 89, 90] (by decide +kernel) (by decide +kernel)
set_option maxRecDepth 20000 in
theorem gX6_join_X2_knots : GoodIn wsX6_join (wsV RX6 66 RX2 yX2_knots wsX2_knots) := goodIn_app (goodIn_of _ (by decide +kernel)) ggX6_join_X2_knots
set_option maxRecDepth 20000 in
theorem ggX6_join_X1_push : GoodIn wsX6_join wsX1_push := goodIn_r _ [18, 19, 20, 21, 22, 23, 17, 24, 25, 26, 27, 6, 28, 13, 8, 29, 30, 31, 32, 33, 34, 35, 36, 37, 38, 39, 40, 41, 42, 43, 91, 92, 87, 88, 89, 90] (by decide +kernel) (by decide +kernel)
set_option maxRecDepth 20000 in
theorem gX6_join_X1_push : GoodIn wsX6_join (wsV RX6 54 RX1 yX1_push wsX1_push) := goodIn_app (goodIn_of _ (by decide +kernel)) ggX6_join_X1_push
set_option maxRecDepth 20000 in
theorem ggX6_join_X2_bridgeOver : GoodIn wsX6_join wsX2_bridgeOver := goodIn_r _ [47, 13, 48, 49, 50, 6, 51, 31, 32, 33, 34, 29, 35, 36, 37, 52, 53, 54, 55, 56, 57, 58, 59, 60, 61, 62, 63, 64, 65, 66, 67, 68, 69, 70, 38, 39, 71, 72, 73, 74, 8, 30, 87, 88, 89, 90] (by decide +kernel) (by decide +kernel)
set_option maxRecDepth 20000 in
theorem gX6_join_X2_bridgeOver : GoodIn wsX6_join (wsV RX6 130 RX2 yX2_bridgeOver wsX2_bridgeOver) := goodIn_app (goodIn_of _ (by decide +kernel)) ggX6_join_X2_bridgeOver
set_option maxRecDepth 20000 in
theorem ggX6_join_X2_threads : GoodIn wsX6_join wsX2_threads := goodIn_r _ [78, 8, 87, 88, 89, 90] (by decide +kernel) (by decide +kernel)
set_option maxRecDepth 20000 in
theorem gX6_join_X2_threads : GoodIn wsX6_join (wsV RX6 81 RX2 yX2_threads wsX2_threads) := goodIn_app (goodIn_of _ (by decide +kernel)) ggX6_join_X2_threads
theorem dX6_join_0 : decode cX6_join 0 = .ok (.aload_n 0, 1) := by decide +kernel
theorem dX6_join_1 : decode cX6_join 1 = .ok (.getfield 12, 3) := by decide +kernel
theorem dX6_join_4 : decode cX6_join 4 = .ok (.iload_n 1, 1) := by decide +kernel
theorem dX6_join_5 : decode cX6_join 5 = .ok (.invokevirtual 94, 3) := by decide +kernel
theorem dX6_join_8 : decode cX6_join 8 = .ok (.ifCond .eq 14, 3) := by decide +kernel
theorem dX6_join_11 : decode cX6_join 11 = .ok (.aload_n 0, 1) := by decide +kernel
theorem dX6_join_12 : decode cX6_join 12 = .ok (.getfield 12, 3) := by decide +kernel
theorem dX6_join_15 : decode cX6_join 15 = .ok (.iload_n 2, 1) := by decide +kernel
theorem dX6_join_16 : decode cX6_join 16 = .ok (.invokevirtual 94, 3) := by decide +kernel
theorem dX6_join_19 : decode cX6_join 19 = .ok (.ifCond .ne 5, 3) := by decide +kernel
theorem dX6_join_22 : decode cX6_join 22 = .ok (.iconst (-1), 1) := by decide +kernel
theorem dX6_join_23 : decode cX6_join 23 = .ok (.ireturn, 1) := by decide +kernel
theorem dX6_join_24 : decode cX6_join 24 = .ok (.iload_n 1, 1) := by decide +kernel
theorem dX6_join_25 : decode cX6_join 25 = .ok (.iload_n 2, 1) := by decide +kernel
theorem dX6_join_26 : decode cX6_join 26 = .ok (.if_icmp .ne 6, 3) := by decide +kernel
theorem dX6_join_29 : decode cX6_join 29 = .ok (.bipush (-2), 2) := by decide +kernel
theorem dX6_join_31 : decode cX6_join 31 = .ok (.ireturn, 1) := by decide +kernel
theorem dX6_join_32 : decode cX6_join 32 = .ok (.aload_n 0, 1) := by decide +kernel
theorem dX6_join_33 : decode cX6_join 33 = .ok (.getfield 12, 3) := by decide +kernel
theorem dX6_join_36 : decode cX6_join 36 = .ok (.invokevirtual 66, 3) := by decide +kernel
theorem dX6_join_39 : decode cX6_join 39 = .ok (.iconst 2, 1) := by decide +kernel
theorem dX6_join_40 : decode cX6_join 40 = .ok (.iadd, 1) := by decide +kernel
theorem dX6_join_41 : decode cX6_join 41 = .ok (.bipush 14, 2) := by decide +kernel
theorem dX6_join_43 : decode cX6_join 43 = .ok (.if_icmp .le 6, 3) := by decide +kernel
theorem dX6_join_46 : decode cX6_join 46 = .ok (.bipush (-3), 2) := by decide +kernel
theorem dX6_join_48 : decode cX6_join 48 = .ok (.ireturn, 1) := by decide +kernel
theorem dX6_join_49 : decode cX6_join 49 = .ok (.aload_n 0, 1) := by decide +kernel
theorem dX6_join_50 : decode cX6_join 50 = .ok (.getfield 29, 3) := by decide +kernel
theorem dX6_join_53 : decode cX6_join 53 = .ok (.aload_n 0, 1) := by decide +kernel
theorem dX6_join_54 : decode cX6_join 54 = .ok (.getfield 12, 3) := by decide +kernel
theorem dX6_join_57 : decode cX6_join 57 = .ok (.invokevirtual 54, 3) := by decide +kernel
theorem dX6_join_60 : decode cX6_join 60 = .ok (.aload_n 0, 1) := by decide +kernel
theorem dX6_join_61 : decode cX6_join 61 = .ok (.getfield 12, 3) := by decide +kernel
theorem dX6_join_64 : decode cX6_join 64 = .ok (.iload_n 1, 1) := by decide +kernel
theorem dX6_join_65 : decode cX6_join 65 = .ok (.iload_n 2, 1) := by decide +kernel
theorem dX6_join_66 : decode cX6_join 66 = .ok (.invokevirtual 130, 3) := by decide +kernel
theorem dX6_join_69 : decode cX6_join 69 = .ok (.aload_n 0, 1) := by decide +kernel
theorem dX6_join_70 : decode cX6_join 70 = .ok (.getfield 12, 3) := by decide +kernel
theorem dX6_join_73 : decode cX6_join 73 = .ok (.invokevirtual 81, 3) := by decide +kernel
theorem dX6_join_76 : decode cX6_join 76 = .ok (.iconst 1, 1) := by decide +kernel
theorem dX6_join_77 : decode cX6_join 77 = .ok (.isub, 1) := by decide +kernel
theorem dX6_join_78 : decode cX6_join 78 = .ok (.ireturn, 1) := by decide +kernel
set_option maxRecDepth 20000 in
theorem ggX6_paint_X2_hasThread : GoodIn wsX6_paint wsX2_hasThread := goodIn_r _ [7, 8, 53, 54, 55, 56] (by decide +kernel) (by decide +kernel)
set_option maxRecDepth 20000 in
theorem gX6_paint_X2_hasThread : GoodIn wsX6_paint (wsV RX6 94 RX2 yX2_hasThread wsX2_hasThread) := goodIn_app (goodIn_of _ (by decide +kernel)) ggX6_paint_X2_hasThread
set_option maxRecDepth 20000 in
theorem ggX6_paint_X2_colour : GoodIn wsX6_paint wsX2_colour := goodIn_r _ [12, 13, 14, 15, 16, 53, 54, 55, 56] (by decide +kernel) (by decide +kernel)
set_option maxRecDepth 20000 in
theorem gX6_paint_X2_colour : GoodIn wsX6_paint (wsV RX6 133 RX2 yX2_colour wsX2_colour) := goodIn_app (goodIn_of _ (by decide +kernel)) ggX6_paint_X2_colour
set_option maxRecDepth 20000 in
theorem ggX6_paint_X1_push : GoodIn wsX6_paint wsX1_push := goodIn_r _ [21, 22, 23, 24, 25, 26, 20, 27, 28, 29, 30, 6, 31, 32, 8, 33, 13, 34, 35, 36, 37, 14, 15, 16, 38, 39, 40, 10, 11, 12, 57, 58, 53, 54, 55, 56] (by decide +kernel) (by decide +kernel)
set_option maxRecDepth 20000 in
theorem gX6_paint_X1_push : GoodIn wsX6_paint (wsV RX6 54 RX1 yX1_push wsX1_push) := goodIn_app (goodIn_of _ (by decide +kernel)) ggX6_paint_X1_push
set_option maxRecDepth 20000 in
theorem ggX6_paint_X2_setColour : GoodIn wsX6_paint wsX2_setColour := goodIn_r _ [44, 13, 38, 15, 39, 53, 54, 55, 56] (by decide +kernel) (by decide +kernel)
set_option maxRecDepth 20000 in
theorem gX6_paint_X2_setColour : GoodIn wsX6_paint (wsV RX6 136 RX2 yX2_setColour wsX2_setColour) := goodIn_app (goodIn_of _ (by decide +kernel)) ggX6_paint_X2_setColour
theorem dX6_paint_0 : decode cX6_paint 0 = .ok (.aload_n 0, 1) := by decide +kernel
theorem dX6_paint_1 : decode cX6_paint 1 = .ok (.getfield 12, 3) := by decide +kernel
theorem dX6_paint_4 : decode cX6_paint 4 = .ok (.iload_n 1, 1) := by decide +kernel
theorem dX6_paint_5 : decode cX6_paint 5 = .ok (.invokevirtual 94, 3) := by decide +kernel
theorem dX6_paint_8 : decode cX6_paint 8 = .ok (.ifCond .ne 5, 3) := by decide +kernel
theorem dX6_paint_11 : decode cX6_paint 11 = .ok (.iconst (-1), 1) := by decide +kernel
theorem dX6_paint_12 : decode cX6_paint 12 = .ok (.ireturn, 1) := by decide +kernel
theorem dX6_paint_13 : decode cX6_paint 13 = .ok (.iload_n 2, 1) := by decide +kernel
theorem dX6_paint_14 : decode cX6_paint 14 = .ok (.ifCond .lt 8, 3) := by decide +kernel
theorem dX6_paint_17 : decode cX6_paint 17 = .ok (.iload_n 2, 1) := by decide +kernel
theorem dX6_paint_18 : decode cX6_paint 18 = .ok (.iconst 3, 1) := by decide +kernel
theorem dX6_paint_19 : decode cX6_paint 19 = .ok (.if_icmp .le 6, 3) := by decide +kernel
theorem dX6_paint_22 : decode cX6_paint 22 = .ok (.bipush (-2), 2) := by decide +kernel
theorem dX6_paint_24 : decode cX6_paint 24 = .ok (.ireturn, 1) := by decide +kernel
theorem dX6_paint_25 : decode cX6_paint 25 = .ok (.aload_n 0, 1) := by decide +kernel
theorem dX6_paint_26 : decode cX6_paint 26 = .ok (.getfield 12, 3) := by decide +kernel
theorem dX6_paint_29 : decode cX6_paint 29 = .ok (.iload_n 1, 1) := by decide +kernel
theorem dX6_paint_30 : decode cX6_paint 30 = .ok (.invokevirtual 133, 3) := by decide +kernel
theorem dX6_paint_33 : decode cX6_paint 33 = .ok (.istore_n 3, 1) := by decide +kernel
theorem dX6_paint_34 : decode cX6_paint 34 = .ok (.iload_n 3, 1) := by decide +kernel
theorem dX6_paint_35 : decode cX6_paint 35 = .ok (.iload_n 2, 1) := by decide +kernel
theorem dX6_paint_36 : decode cX6_paint 36 = .ok (.if_icmp .ne 6, 3) := by decide +kernel
theorem dX6_paint_39 : decode cX6_paint 39 = .ok (.bipush (-5), 2) := by decide +kernel
theorem dX6_paint_41 : decode cX6_paint 41 = .ok (.ireturn, 1) := by decide +kernel
theorem dX6_paint_42 : decode cX6_paint 42 = .ok (.aload_n 0, 1) := by decide +kernel
theorem dX6_paint_43 : decode cX6_paint 43 = .ok (.getfield 29, 3) := by decide +kernel
theorem dX6_paint_46 : decode cX6_paint 46 = .ok (.aload_n 0, 1) := by decide +kernel
theorem dX6_paint_47 : decode cX6_paint 47 = .ok (.getfield 12, 3) := by decide +kernel
theorem dX6_paint_50 : decode cX6_paint 50 = .ok (.invokevirtual 54, 3) := by decide +kernel
theorem dX6_paint_53 : decode cX6_paint 53 = .ok (.aload_n 0, 1) := by decide +kernel
theorem dX6_paint_54 : decode cX6_paint 54 = .ok (.getfield 12, 3) := by decide +kernel
theorem dX6_paint_57 : decode cX6_paint 57 = .ok (.iload_n 1, 1) := by decide +kernel
theorem dX6_paint_58 : decode cX6_paint 58 = .ok (.iload_n 2, 1) := by decide +kernel
theorem dX6_paint_59 : decode cX6_paint 59 = .ok (.invokevirtual 136, 3) := by decide +kernel
theorem dX6_paint_62 : decode cX6_paint 62 = .ok (.iload_n 3, 1) := by decide +kernel
theorem dX6_paint_63 : decode cX6_paint 63 = .ok (.ireturn, 1) := by decide +kernel
set_option maxRecDepth 20000 in
theorem ggX6_exchange_X6_chain : GoodIn wsX6_exchange wsX6_chain := goodIn_r _ [7, 2, 8, 9, 10, 11, 12, 13, 14, 15, 16, 17, 18, 19, 6, 20, 21, 22, 23, 24, 25, 26, 27, 28, 29, 30, 31, 32, 33, 34, 35, 36, 37, 38, 39, 40, 41, 42, 43, 44, 45, 46, 47, 48, 49, 50, 51, 85, 86, 87, 88, 89, 90, 91, 92, 93, 94, 95, 96] (by decide +kernel) (by decide +kernel)
set_option maxRecDepth 20000 in
theorem gX6_exchange_X6_chain : GoodIn wsX6_exchange (wsV RX6 139 RX6 yX6_chain wsX6_chain) := goodIn_app (goodIn_of _ (by decide +kernel)) ggX6_exchange_X6_chain
set_option maxRecDepth 20000 in
theorem ggX6_exchange_X1_push : GoodIn wsX6_exchange wsX1_push := goodIn_r _ [56, 57, 58, 59, 60, 61, 55, 62, 63, 64, 65, 11, 66, 67, 13, 32, 18, 51, 29, 30, 31, 19, 6, 20, 68, 69, 25, 15, 16, 17, 97, 98, 93, 94, 95, 96] (by decide +kernel) (by decide +kernel)
set_option maxRecDepth 20000 in
theorem gX6_exchange_X1_push : GoodIn wsX6_exchange (wsV RX6 54 RX1 yX1_push wsX1_push) := goodIn_app (goodIn_of _ (by decide +kernel)) ggX6_exchange_X1_push
set_option maxRecDepth 20000 in
theorem ggX6_exchange_X2_colour : GoodIn wsX6_exchange wsX2_colour := goodIn_r _ [17, 18, 19, 6, 20, 93, 94, 95, 96] (by decide +kernel) (by decide +kernel)
set_option maxRecDepth 20000 in
theorem gX6_exchange_X2_colour : GoodIn wsX6_exchange (wsV RX6 133 RX2 yX2_colour wsX2_colour) := goodIn_app (goodIn_of _ (by decide +kernel)) ggX6_exchange_X2_colour
set_option maxRecDepth 20000 in
theorem ggX6_exchange_X2_swapColours : GoodIn wsX6_exchange wsX2_swapColours := goodIn_r _ [73, 13, 44, 6, 45, 25, 15, 16, 11, 17, 18, 19, 20, 74, 75, 76, 77, 68, 69, 93, 94, 95, 96] (by decide +kernel) (by decide +kernel)
set_option maxRecDepth 20000 in
theorem gX6_exchange_X2_swapColours : GoodIn wsX6_exchange (wsV RX6 143 RX2 yX2_swapColours wsX2_swapColours) := goodIn_app (goodIn_of _ (by decide +kernel)) ggX6_exchange_X2_swapColours
set_option maxRecDepth 20000 in
theorem ggX6_exchange_J6_bitCount_0f7a4 : GoodIn wsX6_exchange wsJ6_bitCount_0f7a4 := goodIn_r _ [81, 82, 83, 84] (by decide +kernel) (by decide +kernel)
set_option maxRecDepth 20000 in
theorem gX6_exchange_J6_bitCount_0f7a4 : GoodIn wsX6_exchange (va_wsS RX6 146 yJ6_bitCount_0f7a4 wsJ6_bitCount_0f7a4) := goodIn_app (goodIn_of _ (by decide +kernel)) ggX6_exchange_J6_bitCount_0f7a4
theorem dX6_exchange_0 : decode cX6_exchange 0 = .ok (.aload_n 0, 1) := by decide +kernel
theorem dX6_exchange_1 : decode cX6_exchange 1 = .ok (.iload_n 1, 1) := by decide +kernel
theorem dX6_exchange_2 : decode cX6_exchange 2 = .ok (.iload_n 2, 1) := by decide +kernel
theorem dX6_exchange_3 : decode cX6_exchange 3 = .ok (.invokevirtual 139, 3) := by decide +kernel
theorem dX6_exchange_6 : decode cX6_exchange 6 = .ok (.istore_n 3, 1) := by decide +kernel
theorem dX6_exchange_7 : decode cX6_exchange 7 = .ok (.iload_n 3, 1) := by decide +kernel
theorem dX6_exchange_8 : decode cX6_exchange 8 = .ok (.ifCond .ge 5, 3) := by decide +kernel
theorem dX6_exchange_11 : decode cX6_exchange 11 = .ok (.iload_n 3, 1) := by decide +kernel
theorem dX6_exchange_12 : decode cX6_exchange 12 = .ok (.ireturn, 1) := by decide +kernel
theorem dX6_exchange_13 : decode cX6_exchange 13 = .ok (.aload_n 0, 1) := by decide +kernel
theorem dX6_exchange_14 : decode cX6_exchange 14 = .ok (.getfield 29, 3) := by decide +kernel
theorem dX6_exchange_17 : decode cX6_exchange 17 = .ok (.aload_n 0, 1) := by decide +kernel
theorem dX6_exchange_18 : decode cX6_exchange 18 = .ok (.getfield 12, 3) := by decide +kernel
theorem dX6_exchange_21 : decode cX6_exchange 21 = .ok (.invokevirtual 54, 3) := by decide +kernel
theorem dX6_exchange_24 : decode cX6_exchange 24 = .ok (.aload_n 0, 1) := by decide +kernel
theorem dX6_exchange_25 : decode cX6_exchange 25 = .ok (.getfield 12, 3) := by decide +kernel
theorem dX6_exchange_28 : decode cX6_exchange 28 = .ok (.iload_n 3, 1) := by decide +kernel
theorem dX6_exchange_29 : decode cX6_exchange 29 = .ok (.aload_n 0, 1) := by decide +kernel
theorem dX6_exchange_30 : decode cX6_exchange 30 = .ok (.getfield 12, 3) := by decide +kernel
theorem dX6_exchange_33 : decode cX6_exchange 33 = .ok (.iload_n 1, 1) := by decide +kernel
theorem dX6_exchange_34 : decode cX6_exchange 34 = .ok (.invokevirtual 133, 3) := by decide +kernel
theorem dX6_exchange_37 : decode cX6_exchange 37 = .ok (.iload_n 2, 1) := by decide +kernel
theorem dX6_exchange_38 : decode cX6_exchange 38 = .ok (.iadd, 1) := by decide +kernel
theorem dX6_exchange_39 : decode cX6_exchange 39 = .ok (.invokevirtual 143, 3) := by decide +kernel
theorem dX6_exchange_42 : decode cX6_exchange 42 = .ok (.iload_n 3, 1) := by decide +kernel
theorem dX6_exchange_43 : decode cX6_exchange 43 = .ok (.invokestatic 146, 3) := by decide +kernel
theorem dX6_exchange_46 : decode cX6_exchange 46 = .ok (.ireturn, 1) := by decide +kernel
set_option maxRecDepth 20000 in
theorem ggX6_complete_X2_coloured : GoodIn wsX6_complete wsX2_coloured := goodIn_r _ [8, 9, 10, 11, 12, 7, 13, 14, 15, 16, 17, 18, 19, 159, 160, 161, 162] (by decide +kernel) (by decide +kernel)
set_option maxRecDepth 20000 in
theorem gX6_complete_X2_coloured : GoodIn wsX6_complete (wsV RX6 151 RX2 yX2_coloured wsX2_coloured) := goodIn_app (goodIn_of _ (by decide +kernel)) ggX6_complete_X2_coloured
set_option maxRecDepth 20000 in
theorem ggX6_complete_X3_findFirst : GoodIn wsX6_complete wsX3_findFirst := goodIn_r _ [24, 25, 26, 27, 28, 23, 29, 30, 31, 32, 7, 33, 9, 34, 11, 12, 13, 14, 15, 16, 17, 35, 36, 37, 38, 39, 40, 41, 42, 43, 44, 45, 46, 47, 48, 49, 50, 51, 52, 53, 54, 5, 6, 8, 10, 18, 19, 55, 56, 57, 58, 59, 60, 61, 62, 63, 64, 65, 66, 67, 68, 69, 70, 71, 72, 73, 74, 75, 76, 77, 78, 79, 80, 81, 82, 83, 84, 85, 86, 87, 88, 89, 90, 91, 92, 93, 94, 95, 96, 97, 98, 99, 100, 101, 102, 103, 104, 105, 106, 107, 108, 109, 110, 111, 112, 113, 114, 115, 116, 117, 118, 119, 120, 121, 122, 123, 124, 163, 164, 165, 166, 167, 168, 169, 170, 159, 160, 161, 162] (by decide +kernel) (by decide +kernel)
set_option maxRecDepth 20000 in
theorem gX6_complete_X3_findFirst : GoodIn wsX6_complete (wsV RX6 154 RX3 yX3_findFirst wsX3_findFirst) := goodIn_app (goodIn_of _ (by decide +kernel)) ggX6_complete_X3_findFirst
set_option maxRecDepth 20000 in
theorem ggX6_complete_X1_push : GoodIn wsX6_complete wsX1_push := goodIn_r _ [129, 130, 131, 132, 133, 134, 128, 135, 136, 137, 138, 7, 139, 140, 9, 39, 14, 70, 36, 37, 38, 15, 16, 17, 71, 72, 10, 11, 12, 13, 171, 172, 159, 160, 161, 162] (by decide +kernel) (by decide +kernel)
set_option maxRecDepth 20000 in
theorem gX6_complete_X1_push : GoodIn wsX6_complete (wsV RX6 54 RX1 yX1_push wsX1_push) := goodIn_app (goodIn_of _ (by decide +kernel)) ggX6_complete_X1_push
set_option maxRecDepth 20000 in
theorem ggX6_complete_X2_threads : GoodIn wsX6_complete wsX2_threads := goodIn_r _ [33, 9, 159, 160, 161, 162] (by decide +kernel) (by decide +kernel)
set_option maxRecDepth 20000 in
theorem gX6_complete_X2_threads : GoodIn wsX6_complete (wsV RX6 81 RX2 yX2_threads wsX2_threads) := goodIn_app (goodIn_of _ (by decide +kernel)) ggX6_complete_X2_threads
set_option maxRecDepth 20000 in
theorem ggX6_complete_X3_foundColour : GoodIn wsX6_complete wsX3_foundColour := goodIn_r _ [145, 26, 15, 16, 17, 163, 164, 165, 166, 167, 168, 169, 170] (by decide +kernel) (by decide +kernel)
set_option maxRecDepth 20000 in
theorem gX6_complete_X3_foundColour : GoodIn wsX6_complete (wsV RX6 158 RX3 yX3_foundColour wsX3_foundColour) := goodIn_app (goodIn_of _ (by decide +kernel)) ggX6_complete_X3_foundColour
set_option maxRecDepth 20000 in
theorem ggX6_complete_X2_setColour : GoodIn wsX6_complete wsX2_setColour := goodIn_r _ [149, 14, 71, 16, 72, 159, 160, 161, 162] (by decide +kernel) (by decide +kernel)
set_option maxRecDepth 20000 in
theorem gX6_complete_X2_setColour : GoodIn wsX6_complete (wsV RX6 136 RX2 yX2_setColour wsX2_setColour) := goodIn_app (goodIn_of _ (by decide +kernel)) ggX6_complete_X2_setColour
set_option maxRecDepth 20000 in
theorem ggX6_complete_J6_bitCount_0f7a4 : GoodIn wsX6_complete wsJ6_bitCount_0f7a4 := goodIn_r _ [89, 90, 91, 92] (by decide +kernel) (by decide +kernel)
set_option maxRecDepth 20000 in
theorem gX6_complete_J6_bitCount_0f7a4 : GoodIn wsX6_complete (va_wsS RX6 146 yJ6_bitCount_0f7a4 wsJ6_bitCount_0f7a4) := goodIn_app (goodIn_of _ (by decide +kernel)) ggX6_complete_J6_bitCount_0f7a4
theorem dX6_complete_0 : decode cX6_complete 0 = .ok (.aload_n 0, 1) := by decide +kernel
theorem dX6_complete_1 : decode cX6_complete 1 = .ok (.getfield 12, 3) := by decide +kernel
theorem dX6_complete_4 : decode cX6_complete 4 = .ok (.iconst 3, 1) := by decide +kernel
theorem dX6_complete_5 : decode cX6_complete 5 = .ok (.invokevirtual 151, 3) := by decide +kernel
theorem dX6_complete_8 : decode cX6_complete 8 = .ok (.istore_n 1, 1) := by decide +kernel
theorem dX6_complete_9 : decode cX6_complete 9 = .ok (.aload_n 0, 1) := by decide +kernel
theorem dX6_complete_10 : decode cX6_complete 10 = .ok (.getfield 43, 3) := by decide +kernel
theorem dX6_complete_13 : decode cX6_complete 13 = .ok (.aload_n 0, 1) := by decide +kernel
theorem dX6_complete_14 : decode cX6_complete 14 = .ok (.getfield 12, 3) := by decide +kernel
theorem dX6_complete_17 : decode cX6_complete 17 = .ok (.iconst 1, 1) := by decide +kernel
theorem dX6_complete_18 : decode cX6_complete 18 = .ok (.invokevirtual 154, 3) := by decide +kernel
theorem dX6_complete_21 : decode cX6_complete 21 = .ok (.ifCond .ne 6, 3) := by decide +kernel
theorem dX6_complete_24 : decode cX6_complete 24 = .ok (.bipush (-4), 2) := by decide +kernel
theorem dX6_complete_26 : decode cX6_complete 26 = .ok (.ireturn, 1) := by decide +kernel
theorem dX6_complete_27 : decode cX6_complete 27 = .ok (.iload_n 1, 1) := by decide +kernel
theorem dX6_complete_28 : decode cX6_complete 28 = .ok (.ifCond .ne 6, 3) := by decide +kernel
theorem dX6_complete_31 : decode cX6_complete 31 = .ok (.bipush (-5), 2) := by decide +kernel
theorem dX6_complete_33 : decode cX6_complete 33 = .ok (.ireturn, 1) := by decide +kernel
theorem dX6_complete_34 : decode cX6_complete 34 = .ok (.aload_n 0, 1) := by decide +kernel
theorem dX6_complete_35 : decode cX6_complete 35 = .ok (.getfield 29, 3) := by decide +kernel
theorem dX6_complete_38 : decode cX6_complete 38 = .ok (.aload_n 0, 1) := by decide +kernel
theorem dX6_complete_39 : decode cX6_complete 39 = .ok (.getfield 12, 3) := by decide +kernel
theorem dX6_complete_42 : decode cX6_complete 42 = .ok (.invokevirtual 54, 3) := by decide +kernel
theorem dX6_complete_45 : decode cX6_complete 45 = .ok (.iconst 0, 1) := by decide +kernel
theorem dX6_complete_46 : decode cX6_complete 46 = .ok (.istore_n 2, 1) := by decide +kernel
theorem dX6_complete_47 : decode cX6_complete 47 = .ok (.iload_n 2, 1) := by decide +kernel
theorem dX6_complete_48 : decode cX6_complete 48 = .ok (.aload_n 0, 1) := by decide +kernel
theorem dX6_complete_49 : decode cX6_complete 49 = .ok (.getfield 12, 3) := by decide +kernel
theorem dX6_complete_52 : decode cX6_complete 52 = .ok (.invokevirtual 81, 3) := by decide +kernel
theorem dX6_complete_55 : decode cX6_complete 55 = .ok (.if_icmp .ge 25, 3) := by decide +kernel
theorem dX6_complete_58 : decode cX6_complete 58 = .ok (.aload_n 0, 1) := by decide +kernel
theorem dX6_complete_59 : decode cX6_complete 59 = .ok (.getfield 12, 3) := by decide +kernel
theorem dX6_complete_62 : decode cX6_complete 62 = .ok (.iload_n 2, 1) := by decide +kernel
theorem dX6_complete_63 : decode cX6_complete 63 = .ok (.aload_n 0, 1) := by decide +kernel
theorem dX6_complete_64 : decode cX6_complete 64 = .ok (.getfield 43, 3) := by decide +kernel
theorem dX6_complete_67 : decode cX6_complete 67 = .ok (.iload_n 2, 1) := by decide +kernel
theorem dX6_complete_68 : decode cX6_complete 68 = .ok (.invokevirtual 158, 3) := by decide +kernel
theorem dX6_complete_71 : decode cX6_complete 71 = .ok (.invokevirtual 136, 3) := by decide +kernel
theorem dX6_complete_74 : decode cX6_complete 74 = .ok (.iinc 2 1, 3) := by decide +kernel
theorem dX6_complete_77 : decode cX6_complete 77 = .ok (.goto (-30), 3) := by decide +kernel
theorem dX6_complete_80 : decode cX6_complete 80 = .ok (.iload_n 1, 1) := by decide +kernel
theorem dX6_complete_81 : decode cX6_complete 81 = .ok (.invokestatic 146, 3) := by decide +kernel
theorem dX6_complete_84 : decode cX6_complete 84 = .ok (.ireturn, 1) := by decide +kernel
set_option maxRecDepth 20000 in
theorem ggX6_type_X4_append : GoodIn wsX6_type wsX4_append := goodIn_r _ [6, 7, 8, 21, 22, 23, 24] (by decide +kernel) (by decide +kernel)
set_option maxRecDepth 20000 in
theorem gX6_type_X4_append : GoodIn wsX6_type (wsV RX6 161 RX4 yX4_append wsX4_append) := goodIn_app (goodIn_of _ (by decide +kernel)) ggX6_type_X4_append
set_option maxRecDepth 20000 in
theorem ggX6_type_X4_length : GoodIn wsX6_type wsX4_length := goodIn_r _ [12, 7, 21, 22, 23, 24] (by decide +kernel) (by decide +kernel)
set_option maxRecDepth 20000 in
theorem gX6_type_X4_length : GoodIn wsX6_type (wsV RX6 165 RX4 yX4_length wsX4_length) := goodIn_app (goodIn_of _ (by decide +kernel)) ggX6_type_X4_length
theorem dX6_type_0 : decode cX6_type 0 = .ok (.aload_n 0, 1) := by decide +kernel
theorem dX6_type_1 : decode cX6_type 1 = .ok (.getfield 36, 3) := by decide +kernel
theorem dX6_type_4 : decode cX6_type 4 = .ok (.iload_n 1, 1) := by decide +kernel
theorem dX6_type_5 : decode cX6_type 5 = .ok (.invokevirtual 161, 3) := by decide +kernel
theorem dX6_type_8 : decode cX6_type 8 = .ok (.ifCond .ne 6, 3) := by decide +kernel
theorem dX6_type_11 : decode cX6_type 11 = .ok (.bipush (-3), 2) := by decide +kernel
theorem dX6_type_13 : decode cX6_type 13 = .ok (.ireturn, 1) := by decide +kernel
theorem dX6_type_14 : decode cX6_type 14 = .ok (.aload_n 0, 1) := by decide +kernel
theorem dX6_type_15 : decode cX6_type 15 = .ok (.getfield 36, 3) := by decide +kernel
theorem dX6_type_18 : decode cX6_type 18 = .ok (.invokevirtual 165, 3) := by decide +kernel
theorem dX6_type_21 : decode cX6_type 21 = .ok (.ireturn, 1) := by decide +kernel
set_option maxRecDepth 20000 in
theorem ggX6_clearText_X4_length : GoodIn wsX6_clearText wsX4_length := goodIn_r _ [6, 7, 20, 21, 22, 23] (by decide +kernel) (by decide +kernel)
set_option maxRecDepth 20000 in
theorem gX6_clearText_X4_length : GoodIn wsX6_clearText (wsV RX6 165 RX4 yX4_length wsX4_length) := goodIn_app (goodIn_of _ (by decide +kernel)) ggX6_clearText_X4_length
set_option maxRecDepth 20000 in
theorem ggX6_clearText_X4_empty : GoodIn wsX6_clearText wsX4_empty := goodIn_r _ [11, 7, 20, 21, 22, 23] (by decide +kernel) (by decide +kernel)
set_option maxRecDepth 20000 in
theorem gX6_clearText_X4_empty : GoodIn wsX6_clearText (wsV RX6 168 RX4 yX4_empty wsX4_empty) := goodIn_app (goodIn_of _ (by decide +kernel)) ggX6_clearText_X4_empty
theorem dX6_clearText_0 : decode cX6_clearText 0 = .ok (.aload_n 0, 1) := by decide +kernel
theorem dX6_clearText_1 : decode cX6_clearText 1 = .ok (.getfield 36, 3) := by decide +kernel
theorem dX6_clearText_4 : decode cX6_clearText 4 = .ok (.invokevirtual 165, 3) := by decide +kernel
theorem dX6_clearText_7 : decode cX6_clearText 7 = .ok (.istore_n 1, 1) := by decide +kernel
theorem dX6_clearText_8 : decode cX6_clearText 8 = .ok (.aload_n 0, 1) := by decide +kernel
theorem dX6_clearText_9 : decode cX6_clearText 9 = .ok (.getfield 36, 3) := by decide +kernel
theorem dX6_clearText_12 : decode cX6_clearText 12 = .ok (.invokevirtual 168, 3) := by decide +kernel
theorem dX6_clearText_15 : decode cX6_clearText 15 = .ok (.iload_n 1, 1) := by decide +kernel
theorem dX6_clearText_16 : decode cX6_clearText 16 = .ok (.ireturn, 1) := by decide +kernel
set_option maxRecDepth 20000 in
theorem ggX6_undo_X1_pop : GoodIn wsX6_undo wsX1_pop := goodIn_r _ [7, 8, 9, 10, 11, 12, 13, 14, 15, 16, 17, 18, 19, 20, 21, 22, 23, 24, 25, 26, 27, 28, 29, 30, 31, 44, 45, 46, 47, 48, 49] (by decide +kernel) (by decide +kernel)
set_option maxRecDepth 20000 in
theorem gX6_undo_X1_pop : GoodIn wsX6_undo (wsV RX6 171 RX1 yX1_pop wsX1_pop) := goodIn_app (goodIn_of _ (by decide +kernel)) ggX6_undo_X1_pop
set_option maxRecDepth 20000 in
theorem ggX6_undo_X1_size : GoodIn wsX6_undo wsX1_size := goodIn_r _ [35, 8, 44, 45] (by decide +kernel) (by decide +kernel)
set_option maxRecDepth 20000 in
theorem gX6_undo_X1_size : GoodIn wsX6_undo (wsV RX6 174 RX1 yX1_size wsX1_size) := goodIn_app (goodIn_of _ (by decide +kernel)) ggX6_undo_X1_size
theorem dX6_undo_0 : decode cX6_undo 0 = .ok (.aload_n 0, 1) := by decide +kernel
theorem dX6_undo_1 : decode cX6_undo 1 = .ok (.getfield 29, 3) := by decide +kernel
theorem dX6_undo_4 : decode cX6_undo 4 = .ok (.aload_n 0, 1) := by decide +kernel
theorem dX6_undo_5 : decode cX6_undo 5 = .ok (.getfield 12, 3) := by decide +kernel
theorem dX6_undo_8 : decode cX6_undo 8 = .ok (.invokevirtual 171, 3) := by decide +kernel
theorem dX6_undo_11 : decode cX6_undo 11 = .ok (.ifCond .ne 6, 3) := by decide +kernel
theorem dX6_undo_14 : decode cX6_undo 14 = .ok (.bipush (-5), 2) := by decide +kernel
theorem dX6_undo_16 : decode cX6_undo 16 = .ok (.ireturn, 1) := by decide +kernel
theorem dX6_undo_17 : decode cX6_undo 17 = .ok (.aload_n 0, 1) := by decide +kernel
theorem dX6_undo_18 : decode cX6_undo 18 = .ok (.getfield 29, 3) := by decide +kernel
theorem dX6_undo_21 : decode cX6_undo 21 = .ok (.invokevirtual 174, 3) := by decide +kernel
theorem dX6_undo_24 : decode cX6_undo 24 = .ok (.ireturn, 1) := by decide +kernel
set_option maxRecDepth 20000 in
theorem ggX6_keep_X2_copyFrom : GoodIn wsX6_keep wsX2_copyFrom := goodIn_r _ [8, 9, 10, 11, 12, 13, 14, 15, 7, 16, 17, 18, 19, 20, 21, 22, 23, 24, 25, 38, 39, 40, 41] (by decide +kernel) (by decide +kernel)
set_option maxRecDepth 20000 in
theorem gX6_keep_X2_copyFrom : GoodIn wsX6_keep (wsV RX6 111 RX2 yX2_copyFrom wsX2_copyFrom) := goodIn_app (goodIn_of _ (by decide +kernel)) ggX6_keep_X2_copyFrom
set_option maxRecDepth 20000 in
theorem ggX6_keep_X2_threads : GoodIn wsX6_keep wsX2_threads := goodIn_r _ [29, 10, 38, 39, 40, 41] (by decide +kernel) (by decide +kernel)
set_option maxRecDepth 20000 in
theorem gX6_keep_X2_threads : GoodIn wsX6_keep (wsV RX6 81 RX2 yX2_threads wsX2_threads) := goodIn_app (goodIn_of _ (by decide +kernel)) ggX6_keep_X2_threads
theorem dX6_keep_0 : decode cX6_keep 0 = .ok (.aload_n 0, 1) := by decide +kernel
theorem dX6_keep_1 : decode cX6_keep 1 = .ok (.getfield 19, 3) := by decide +kernel
theorem dX6_keep_4 : decode cX6_keep 4 = .ok (.aload_n 0, 1) := by decide +kernel
theorem dX6_keep_5 : decode cX6_keep 5 = .ok (.getfield 12, 3) := by decide +kernel
theorem dX6_keep_8 : decode cX6_keep 8 = .ok (.invokevirtual 111, 3) := by decide +kernel
theorem dX6_keep_11 : decode cX6_keep 11 = .ok (.aload_n 0, 1) := by decide +kernel
theorem dX6_keep_12 : decode cX6_keep 12 = .ok (.iconst 1, 1) := by decide +kernel
theorem dX6_keep_13 : decode cX6_keep 13 = .ok (.putfield 22, 3) := by decide +kernel
theorem dX6_keep_16 : decode cX6_keep 16 = .ok (.aload_n 0, 1) := by decide +kernel
theorem dX6_keep_17 : decode cX6_keep 17 = .ok (.getfield 12, 3) := by decide +kernel
theorem dX6_keep_20 : decode cX6_keep 20 = .ok (.invokevirtual 81, 3) := by decide +kernel
theorem dX6_keep_23 : decode cX6_keep 23 = .ok (.ireturn, 1) := by decide +kernel
set_option maxRecDepth 20000 in
theorem ggX6_restore_X1_push : GoodIn wsX6_restore wsX1_push := goodIn_r _ [9, 10, 11, 12, 13, 14, 8, 15, 16, 17, 18, 19, 20, 21, 22, 23, 24, 25, 26, 27, 28, 29, 30, 31, 32, 33, 34, 35, 36, 37, 51, 52, 53, 54, 55, 56] (by decide +kernel) (by decide +kernel)
set_option maxRecDepth 20000 in
theorem gX6_restore_X1_push : GoodIn wsX6_restore (wsV RX6 54 RX1 yX1_push wsX1_push) := goodIn_app (goodIn_of _ (by decide +kernel)) ggX6_restore_X1_push
set_option maxRecDepth 20000 in
theorem ggX6_restore_X2_copyFrom : GoodIn wsX6_restore wsX2_copyFrom := goodIn_r _ [20, 21, 22, 23, 24, 25, 26, 27, 19, 28, 29, 30, 31, 32, 33, 34, 35, 36, 37, 53, 54, 55, 56] (by decide +kernel) (by decide +kernel)
set_option maxRecDepth 20000 in
theorem gX6_restore_X2_copyFrom : GoodIn wsX6_restore (wsV RX6 111 RX2 yX2_copyFrom wsX2_copyFrom) := goodIn_app (goodIn_of _ (by decide +kernel)) ggX6_restore_X2_copyFrom
set_option maxRecDepth 20000 in
theorem ggX6_restore_X2_threads : GoodIn wsX6_restore wsX2_threads := goodIn_r _ [42, 22, 53, 54, 55, 56] (by decide +kernel) (by decide +kernel)
set_option maxRecDepth 20000 in
theorem gX6_restore_X2_threads : GoodIn wsX6_restore (wsV RX6 81 RX2 yX2_threads wsX2_threads) := goodIn_app (goodIn_of _ (by decide +kernel)) ggX6_restore_X2_threads
theorem dX6_restore_0 : decode cX6_restore 0 = .ok (.aload_n 0, 1) := by decide +kernel
theorem dX6_restore_1 : decode cX6_restore 1 = .ok (.getfield 22, 3) := by decide +kernel
theorem dX6_restore_4 : decode cX6_restore 4 = .ok (.ifCond .ne 6, 3) := by decide +kernel
theorem dX6_restore_7 : decode cX6_restore 7 = .ok (.bipush (-5), 2) := by decide +kernel
theorem dX6_restore_9 : decode cX6_restore 9 = .ok (.ireturn, 1) := by decide +kernel
theorem dX6_restore_10 : decode cX6_restore 10 = .ok (.aload_n 0, 1) := by decide +kernel
theorem dX6_restore_11 : decode cX6_restore 11 = .ok (.getfield 29, 3) := by decide +kernel
theorem dX6_restore_14 : decode cX6_restore 14 = .ok (.aload_n 0, 1) := by decide +kernel
theorem dX6_restore_15 : decode cX6_restore 15 = .ok (.getfield 12, 3) := by decide +kernel
theorem dX6_restore_18 : decode cX6_restore 18 = .ok (.invokevirtual 54, 3) := by decide +kernel
theorem dX6_restore_21 : decode cX6_restore 21 = .ok (.aload_n 0, 1) := by decide +kernel
theorem dX6_restore_22 : decode cX6_restore 22 = .ok (.getfield 12, 3) := by decide +kernel
theorem dX6_restore_25 : decode cX6_restore 25 = .ok (.aload_n 0, 1) := by decide +kernel
theorem dX6_restore_26 : decode cX6_restore 26 = .ok (.getfield 19, 3) := by decide +kernel
theorem dX6_restore_29 : decode cX6_restore 29 = .ok (.invokevirtual 111, 3) := by decide +kernel
theorem dX6_restore_32 : decode cX6_restore 32 = .ok (.aload_n 0, 1) := by decide +kernel
theorem dX6_restore_33 : decode cX6_restore 33 = .ok (.getfield 12, 3) := by decide +kernel
theorem dX6_restore_36 : decode cX6_restore 36 = .ok (.invokevirtual 81, 3) := by decide +kernel
theorem dX6_restore_39 : decode cX6_restore 39 = .ok (.ireturn, 1) := by decide +kernel
set_option maxRecDepth 20000 in
theorem ggX6_knot_X2_hasKnot : GoodIn wsX6_knot wsX2_hasKnot := goodIn_r _ [6, 7, 89, 90, 91, 92] (by decide +kernel) (by decide +kernel)
set_option maxRecDepth 20000 in
theorem gX6_knot_X2_hasKnot : GoodIn wsX6_knot (wsV RX6 74 RX2 yX2_hasKnot wsX2_hasKnot) := goodIn_app (goodIn_of _ (by decide +kernel)) ggX6_knot_X2_hasKnot
set_option maxRecDepth 20000 in
theorem ggX6_knot_X6_bit : GoodIn wsX6_knot wsX6_bit := goodIn_r _ [11] (by decide +kernel) (by decide +kernel)
set_option maxRecDepth 20000 in
theorem gX6_knot_X6_bit : GoodIn wsX6_knot (va_wsS RX6 84 yX6_bit wsX6_bit) := goodIn_app (goodIn_of _ (by decide +kernel)) ggX6_knot_X6_bit
set_option maxRecDepth 20000 in
theorem ggX6_knot_X2_threadsAt : GoodIn wsX6_knot wsX2_threadsAt := goodIn_r _ [15, 16, 17, 18, 19, 5, 20, 21, 22, 10, 23, 9, 11, 89, 90, 91, 92] (by decide +kernel) (by decide +kernel)
set_option maxRecDepth 20000 in
theorem gX6_knot_X2_threadsAt : GoodIn wsX6_knot (wsV RX6 177 RX2 yX2_threadsAt wsX2_threadsAt) := goodIn_app (goodIn_of _ (by decide +kernel)) ggX6_knot_X2_threadsAt
set_option maxRecDepth 20000 in
theorem ggX6_knot_X2_neighbours : GoodIn wsX6_knot wsX2_neighbours := goodIn_r _ [27, 16, 17, 18, 19, 5, 20, 21, 22, 10, 23, 28, 29, 9, 11, 89, 90, 91, 92] (by decide +kernel) (by decide +kernel)
set_option maxRecDepth 20000 in
theorem gX6_knot_X2_neighbours : GoodIn wsX6_knot (wsV RX6 180 RX2 yX2_neighbours wsX2_neighbours) := goodIn_app (goodIn_of _ (by decide +kernel)) ggX6_knot_X2_neighbours
set_option maxRecDepth 20000 in
theorem ggX6_knot_X2_isWrong : GoodIn wsX6_knot wsX2_isWrong := goodIn_r _ [33, 16, 34, 35, 36, 5, 37, 38, 22, 10, 23, 17, 18, 19, 20, 21, 28, 29, 9, 11, 89, 90, 91, 92] (by decide +kernel) (by decide +kernel)
set_option maxRecDepth 20000 in
theorem gX6_knot_X2_isWrong : GoodIn wsX6_knot (wsV RX6 183 RX2 yX2_isWrong wsX2_isWrong) := goodIn_app (goodIn_of _ (by decide +kernel)) ggX6_knot_X2_isWrong
set_option maxRecDepth 20000 in
theorem ggX6_knot_X2_allThreads : GoodIn wsX6_knot wsX2_allThreads := goodIn_r _ [42, 16, 9, 10, 11, 89, 90, 91, 92] (by decide +kernel) (by decide +kernel)
set_option maxRecDepth 20000 in
theorem gX6_knot_X2_allThreads : GoodIn wsX6_knot (wsV RX6 186 RX2 yX2_allThreads wsX2_allThreads) := goodIn_app (goodIn_of _ (by decide +kernel)) ggX6_knot_X2_allThreads
set_option maxRecDepth 20000 in
theorem ggX6_knot_X5_reached : GoodIn wsX6_knot wsX5_reached := goodIn_r _ [46, 47, 48, 45, 49, 50, 51, 52, 5, 53, 16, 28, 10, 29, 54, 18, 19, 20, 21, 22, 23, 89, 90, 91, 92] (by decide +kernel) (by decide +kernel)
set_option maxRecDepth 20000 in
theorem gX6_knot_X5_reached : GoodIn wsX6_knot (va_wsS RX6 189 yX5_reached wsX5_reached) := goodIn_app (goodIn_of _ (by decide +kernel)) ggX6_knot_X5_reached
set_option maxRecDepth 20000 in
theorem ggX6_knot_X5_shortestCircle : GoodIn wsX6_knot wsX5_shortestCircle := goodIn_r _ [57, 50, 51, 52, 5, 53, 16, 28, 10, 29, 58, 59, 45, 60, 61, 40, 41, 42, 9, 11, 62, 63, 64, 65, 17, 18, 19, 20, 21, 22, 23, 66, 67, 68, 69, 70, 71, 72, 73, 74, 75, 76, 77, 47, 48, 49, 54, 89, 90, 91, 92] (by decide +kernel) (by decide +kernel)
set_option maxRecDepth 20000 in
theorem gX6_knot_X5_shortestCircle : GoodIn wsX6_knot (va_wsS RX6 195 yX5_shortestCircle wsX5_shortestCircle) := goodIn_app (goodIn_of _ (by decide +kernel)) ggX6_knot_X5_shortestCircle
set_option maxRecDepth 20000 in
theorem ggX6_knot_X6_orNone : GoodIn wsX6_knot wsX6_orNone := goodIn_r _ [80] (by decide +kernel) (by decide +kernel)
set_option maxRecDepth 20000 in
theorem gX6_knot_X6_orNone : GoodIn wsX6_knot (va_wsS RX6 199 yX6_orNone wsX6_orNone) := goodIn_app (goodIn_of _ (by decide +kernel)) ggX6_knot_X6_orNone
theorem dX6_knot_0 : decode cX6_knot 0 = .ok (.aload_n 0, 1) := by decide +kernel
theorem dX6_knot_1 : decode cX6_knot 1 = .ok (.getfield 12, 3) := by decide +kernel
theorem dX6_knot_4 : decode cX6_knot 4 = .ok (.iload_n 1, 1) := by decide +kernel
theorem dX6_knot_5 : decode cX6_knot 5 = .ok (.invokevirtual 74, 3) := by decide +kernel
theorem dX6_knot_8 : decode cX6_knot 8 = .ok (.ifCond .ne 5, 3) := by decide +kernel
theorem dX6_knot_11 : decode cX6_knot 11 = .ok (.iconst (-1), 1) := by decide +kernel
theorem dX6_knot_12 : decode cX6_knot 12 = .ok (.ireturn, 1) := by decide +kernel
theorem dX6_knot_13 : decode cX6_knot 13 = .ok (.iload_n 2, 1) := by decide +kernel
theorem dX6_knot_14 : decode cX6_knot 14 = .ok (.tableswitch 113 0 4 #[34, 46, 55, 72, 91], 34) := by decide +kernel
theorem dX6_knot_48 : decode cX6_knot 48 = .ok (.aload_n 0, 1) := by decide +kernel
theorem dX6_knot_49 : decode cX6_knot 49 = .ok (.getfield 12, 3) := by decide +kernel
theorem dX6_knot_52 : decode cX6_knot 52 = .ok (.iload_n 1, 1) := by decide +kernel
theorem dX6_knot_53 : decode cX6_knot 53 = .ok (.invokestatic 84, 3) := by decide +kernel
theorem dX6_knot_56 : decode cX6_knot 56 = .ok (.invokevirtual 177, 3) := by decide +kernel
theorem dX6_knot_59 : decode cX6_knot 59 = .ok (.ireturn, 1) := by decide +kernel
theorem dX6_knot_60 : decode cX6_knot 60 = .ok (.aload_n 0, 1) := by decide +kernel
theorem dX6_knot_61 : decode cX6_knot 61 = .ok (.getfield 12, 3) := by decide +kernel
theorem dX6_knot_64 : decode cX6_knot 64 = .ok (.iload_n 1, 1) := by decide +kernel
theorem dX6_knot_65 : decode cX6_knot 65 = .ok (.invokevirtual 180, 3) := by decide +kernel
theorem dX6_knot_68 : decode cX6_knot 68 = .ok (.ireturn, 1) := by decide +kernel
theorem dX6_knot_69 : decode cX6_knot 69 = .ok (.aload_n 0, 1) := by decide +kernel
theorem dX6_knot_70 : decode cX6_knot 70 = .ok (.getfield 12, 3) := by decide +kernel
theorem dX6_knot_73 : decode cX6_knot 73 = .ok (.iload_n 1, 1) := by decide +kernel
theorem dX6_knot_74 : decode cX6_knot 74 = .ok (.invokevirtual 183, 3) := by decide +kernel
theorem dX6_knot_77 : decode cX6_knot 77 = .ok (.ifCond .eq 7, 3) := by decide +kernel
theorem dX6_knot_80 : decode cX6_knot 80 = .ok (.iconst 1, 1) := by decide +kernel
theorem dX6_knot_81 : decode cX6_knot 81 = .ok (.goto 4, 3) := by decide +kernel
theorem dX6_knot_84 : decode cX6_knot 84 = .ok (.iconst 0, 1) := by decide +kernel
theorem dX6_knot_85 : decode cX6_knot 85 = .ok (.ireturn, 1) := by decide +kernel
theorem dX6_knot_86 : decode cX6_knot 86 = .ok (.aload_n 0, 1) := by decide +kernel
theorem dX6_knot_87 : decode cX6_knot 87 = .ok (.getfield 12, 3) := by decide +kernel
theorem dX6_knot_90 : decode cX6_knot 90 = .ok (.iload_n 1, 1) := by decide +kernel
theorem dX6_knot_91 : decode cX6_knot 91 = .ok (.invokestatic 84, 3) := by decide +kernel
theorem dX6_knot_94 : decode cX6_knot 94 = .ok (.aload_n 0, 1) := by decide +kernel
theorem dX6_knot_95 : decode cX6_knot 95 = .ok (.getfield 12, 3) := by decide +kernel
theorem dX6_knot_98 : decode cX6_knot 98 = .ok (.invokevirtual 186, 3) := by decide +kernel
theorem dX6_knot_101 : decode cX6_knot 101 = .ok (.invokestatic 189, 3) := by decide +kernel
theorem dX6_knot_104 : decode cX6_knot 104 = .ok (.ireturn, 1) := by decide +kernel
theorem dX6_knot_105 : decode cX6_knot 105 = .ok (.aload_n 0, 1) := by decide +kernel
theorem dX6_knot_106 : decode cX6_knot 106 = .ok (.getfield 12, 3) := by decide +kernel
theorem dX6_knot_109 : decode cX6_knot 109 = .ok (.aload_n 0, 1) := by decide +kernel
theorem dX6_knot_110 : decode cX6_knot 110 = .ok (.getfield 12, 3) := by decide +kernel
theorem dX6_knot_113 : decode cX6_knot 113 = .ok (.iload_n 1, 1) := by decide +kernel
theorem dX6_knot_114 : decode cX6_knot 114 = .ok (.invokestatic 84, 3) := by decide +kernel
theorem dX6_knot_117 : decode cX6_knot 117 = .ok (.invokevirtual 177, 3) := by decide +kernel
theorem dX6_knot_120 : decode cX6_knot 120 = .ok (.invokestatic 195, 3) := by decide +kernel
theorem dX6_knot_123 : decode cX6_knot 123 = .ok (.invokestatic 199, 3) := by decide +kernel
theorem dX6_knot_126 : decode cX6_knot 126 = .ok (.ireturn, 1) := by decide +kernel
theorem dX6_knot_127 : decode cX6_knot 127 = .ok (.bipush (-2), 2) := by decide +kernel
theorem dX6_knot_129 : decode cX6_knot 129 = .ok (.ireturn, 1) := by decide +kernel
set_option maxRecDepth 20000 in
theorem ggX6_thread_X2_hasThread : GoodIn wsX6_thread wsX2_hasThread := goodIn_r _ [7, 8, 103, 104, 105, 106] (by decide +kernel) (by decide +kernel)
set_option maxRecDepth 20000 in
theorem gX6_thread_X2_hasThread : GoodIn wsX6_thread (wsV RX6 94 RX2 yX2_hasThread wsX2_hasThread) := goodIn_app (goodIn_of _ (by decide +kernel)) ggX6_thread_X2_hasThread
set_option maxRecDepth 20000 in
theorem ggX6_thread_X2_lesserKnot : GoodIn wsX6_thread wsX2_lesserKnot := goodIn_r _ [12, 13, 14, 15, 6, 16, 17, 18, 19, 20, 21, 22, 23, 24, 25, 103, 104, 105, 106] (by decide +kernel) (by decide +kernel)
set_option maxRecDepth 20000 in
theorem gX6_thread_X2_lesserKnot : GoodIn wsX6_thread (wsV RX6 202 RX2 yX2_lesserKnot wsX2_lesserKnot) := goodIn_app (goodIn_of _ (by decide +kernel)) ggX6_thread_X2_lesserKnot
set_option maxRecDepth 20000 in
theorem ggX6_thread_X2_greaterKnot : GoodIn wsX6_thread wsX2_greaterKnot := goodIn_r _ [29, 13, 14, 15, 6, 16, 17, 18, 19, 20, 30, 31, 23, 32, 25, 103, 104, 105, 106] (by decide +kernel) (by decide +kernel)
set_option maxRecDepth 20000 in
theorem gX6_thread_X2_greaterKnot : GoodIn wsX6_thread (wsV RX6 205 RX2 yX2_greaterKnot wsX2_greaterKnot) := goodIn_app (goodIn_of _ (by decide +kernel)) ggX6_thread_X2_greaterKnot
set_option maxRecDepth 20000 in
theorem ggX6_thread_X2_colour : GoodIn wsX6_thread wsX2_colour := goodIn_r _ [36, 37, 18, 19, 20, 103, 104, 105, 106] (by decide +kernel) (by decide +kernel)
set_option maxRecDepth 20000 in
theorem gX6_thread_X2_colour : GoodIn wsX6_thread (wsV RX6 133 RX2 yX2_colour wsX2_colour) := goodIn_app (goodIn_of _ (by decide +kernel)) ggX6_thread_X2_colour
set_option maxRecDepth 20000 in
theorem ggX6_thread_X5_circleThrough : GoodIn wsX6_thread wsX5_circleThrough := goodIn_r _ [41, 42, 43, 44, 6, 45, 8, 46, 19, 47, 48, 27, 28, 29, 13, 14, 15, 16, 17, 18, 20, 30, 31, 23, 32, 25, 49, 10, 11, 12, 21, 22, 24, 50, 51, 40, 52, 53, 54, 55, 56, 57, 58, 59, 103, 104, 105, 106] (by decide +kernel) (by decide +kernel)
set_option maxRecDepth 20000 in
theorem gX6_thread_X5_circleThrough : GoodIn wsX6_thread (va_wsS RX6 208 yX5_circleThrough wsX5_circleThrough) := goodIn_app (goodIn_of _ (by decide +kernel)) ggX6_thread_X5_circleThrough
set_option maxRecDepth 20000 in
theorem ggX6_thread_X6_orNone : GoodIn wsX6_thread wsX6_orNone := goodIn_r _ [62] (by decide +kernel) (by decide +kernel)
set_option maxRecDepth 20000 in
theorem gX6_thread_X6_orNone : GoodIn wsX6_thread (va_wsS RX6 199 yX6_orNone wsX6_orNone) := goodIn_app (goodIn_of _ (by decide +kernel)) ggX6_thread_X6_orNone
set_option maxRecDepth 20000 in
theorem ggX6_thread_X0_list : GoodIn wsX6_thread wsX0_list := goodIn_r _ [67, 68, 69, 70, 54, 55, 6, 56, 8, 71, 19, 72, 73, 14, 15, 16, 17, 18, 20, 74, 75, 76, 77, 78, 46, 47, 79, 80, 66, 81, 82, 83, 84, 85, 86, 107, 108, 109, 110, 111, 112, 103, 104, 105, 106] (by decide +kernel) (by decide +kernel)
set_option maxRecDepth 20000 in
theorem gX6_thread_X0_list : GoodIn wsX6_thread (wsV RX6 211 RX0 yX0_list wsX0_list) := goodIn_app (goodIn_of _ (by decide +kernel)) ggX6_thread_X0_list
set_option maxRecDepth 20000 in
theorem ggX6_thread_X0_howManyHold : GoodIn wsX6_thread wsX0_howManyHold := goodIn_r _ [90, 68, 91, 92, 93, 66, 94, 86, 18, 19, 20, 57, 58, 107, 108, 109, 110, 111, 112] (by decide +kernel) (by decide +kernel)
set_option maxRecDepth 20000 in
theorem gX6_thread_X0_howManyHold : GoodIn wsX6_thread (wsV RX6 214 RX0 yX0_howManyHold wsX0_howManyHold) := goodIn_app (goodIn_of _ (by decide +kernel)) ggX6_thread_X0_howManyHold
theorem dX6_thread_0 : decode cX6_thread 0 = .ok (.aload_n 0, 1) := by decide +kernel
theorem dX6_thread_1 : decode cX6_thread 1 = .ok (.getfield 12, 3) := by decide +kernel
theorem dX6_thread_4 : decode cX6_thread 4 = .ok (.iload_n 1, 1) := by decide +kernel
theorem dX6_thread_5 : decode cX6_thread 5 = .ok (.invokevirtual 94, 3) := by decide +kernel
theorem dX6_thread_8 : decode cX6_thread 8 = .ok (.ifCond .ne 5, 3) := by decide +kernel
theorem dX6_thread_11 : decode cX6_thread 11 = .ok (.iconst (-1), 1) := by decide +kernel
theorem dX6_thread_12 : decode cX6_thread 12 = .ok (.ireturn, 1) := by decide +kernel
theorem dX6_thread_13 : decode cX6_thread 13 = .ok (.iload_n 2, 1) := by decide +kernel
theorem dX6_thread_14 : decode cX6_thread 14 = .ok (.tableswitch 131 0 5 #[38, 47, 56, 82, 99, 111], 38) := by decide +kernel
theorem dX6_thread_52 : decode cX6_thread 52 = .ok (.aload_n 0, 1) := by decide +kernel
theorem dX6_thread_53 : decode cX6_thread 53 = .ok (.getfield 12, 3) := by decide +kernel
theorem dX6_thread_56 : decode cX6_thread 56 = .ok (.iload_n 1, 1) := by decide +kernel
theorem dX6_thread_57 : decode cX6_thread 57 = .ok (.invokevirtual 202, 3) := by decide +kernel
theorem dX6_thread_60 : decode cX6_thread 60 = .ok (.ireturn, 1) := by decide +kernel
theorem dX6_thread_61 : decode cX6_thread 61 = .ok (.aload_n 0, 1) := by decide +kernel
theorem dX6_thread_62 : decode cX6_thread 62 = .ok (.getfield 12, 3) := by decide +kernel
theorem dX6_thread_65 : decode cX6_thread 65 = .ok (.iload_n 1, 1) := by decide +kernel
theorem dX6_thread_66 : decode cX6_thread 66 = .ok (.invokevirtual 205, 3) := by decide +kernel
theorem dX6_thread_69 : decode cX6_thread 69 = .ok (.ireturn, 1) := by decide +kernel
theorem dX6_thread_70 : decode cX6_thread 70 = .ok (.aload_n 0, 1) := by decide +kernel
theorem dX6_thread_71 : decode cX6_thread 71 = .ok (.getfield 12, 3) := by decide +kernel
theorem dX6_thread_74 : decode cX6_thread 74 = .ok (.iload_n 1, 1) := by decide +kernel
theorem dX6_thread_75 : decode cX6_thread 75 = .ok (.invokevirtual 133, 3) := by decide +kernel
theorem dX6_thread_78 : decode cX6_thread 78 = .ok (.iconst 3, 1) := by decide +kernel
theorem dX6_thread_79 : decode cX6_thread 79 = .ok (.if_icmp .ne 8, 3) := by decide +kernel
theorem dX6_thread_82 : decode cX6_thread 82 = .ok (.bipush (-5), 2) := by decide +kernel
theorem dX6_thread_84 : decode cX6_thread 84 = .ok (.goto 11, 3) := by decide +kernel
theorem dX6_thread_87 : decode cX6_thread 87 = .ok (.aload_n 0, 1) := by decide +kernel
theorem dX6_thread_88 : decode cX6_thread 88 = .ok (.getfield 12, 3) := by decide +kernel
theorem dX6_thread_91 : decode cX6_thread 91 = .ok (.iload_n 1, 1) := by decide +kernel
theorem dX6_thread_92 : decode cX6_thread 92 = .ok (.invokevirtual 133, 3) := by decide +kernel
theorem dX6_thread_95 : decode cX6_thread 95 = .ok (.ireturn, 1) := by decide +kernel
theorem dX6_thread_96 : decode cX6_thread 96 = .ok (.aload_n 0, 1) := by decide +kernel
theorem dX6_thread_97 : decode cX6_thread 97 = .ok (.getfield 12, 3) := by decide +kernel
theorem dX6_thread_100 : decode cX6_thread 100 = .ok (.iload_n 1, 1) := by decide +kernel
theorem dX6_thread_101 : decode cX6_thread 101 = .ok (.invokestatic 208, 3) := by decide +kernel
theorem dX6_thread_104 : decode cX6_thread 104 = .ok (.ifCond .ne 7, 3) := by decide +kernel
theorem dX6_thread_107 : decode cX6_thread 107 = .ok (.iconst 1, 1) := by decide +kernel
theorem dX6_thread_108 : decode cX6_thread 108 = .ok (.goto 4, 3) := by decide +kernel
theorem dX6_thread_111 : decode cX6_thread 111 = .ok (.iconst 0, 1) := by decide +kernel
theorem dX6_thread_112 : decode cX6_thread 112 = .ok (.ireturn, 1) := by decide +kernel
theorem dX6_thread_113 : decode cX6_thread 113 = .ok (.aload_n 0, 1) := by decide +kernel
theorem dX6_thread_114 : decode cX6_thread 114 = .ok (.getfield 12, 3) := by decide +kernel
theorem dX6_thread_117 : decode cX6_thread 117 = .ok (.iload_n 1, 1) := by decide +kernel
theorem dX6_thread_118 : decode cX6_thread 118 = .ok (.invokestatic 208, 3) := by decide +kernel
theorem dX6_thread_121 : decode cX6_thread 121 = .ok (.invokestatic 199, 3) := by decide +kernel
theorem dX6_thread_124 : decode cX6_thread 124 = .ok (.ireturn, 1) := by decide +kernel
theorem dX6_thread_125 : decode cX6_thread 125 = .ok (.aload_n 0, 1) := by decide +kernel
theorem dX6_thread_126 : decode cX6_thread 126 = .ok (.getfield 50, 3) := by decide +kernel
theorem dX6_thread_129 : decode cX6_thread 129 = .ok (.aload_n 0, 1) := by decide +kernel
theorem dX6_thread_130 : decode cX6_thread 130 = .ok (.getfield 12, 3) := by decide +kernel
theorem dX6_thread_133 : decode cX6_thread 133 = .ok (.invokevirtual 211, 3) := by decide +kernel
theorem dX6_thread_136 : decode cX6_thread 136 = .ok (.aload_n 0, 1) := by decide +kernel
theorem dX6_thread_137 : decode cX6_thread 137 = .ok (.getfield 50, 3) := by decide +kernel
theorem dX6_thread_140 : decode cX6_thread 140 = .ok (.iload_n 1, 1) := by decide +kernel
theorem dX6_thread_141 : decode cX6_thread 141 = .ok (.invokevirtual 214, 3) := by decide +kernel
theorem dX6_thread_144 : decode cX6_thread 144 = .ok (.ireturn, 1) := by decide +kernel
theorem dX6_thread_145 : decode cX6_thread 145 = .ok (.bipush (-2), 2) := by decide +kernel
theorem dX6_thread_147 : decode cX6_thread 147 = .ok (.ireturn, 1) := by decide +kernel
set_option maxRecDepth 20000 in
theorem ggX6_between_X2_hasKnot : GoodIn wsX6_between wsX2_hasKnot := goodIn_r _ [6, 7, 32, 33, 34, 35] (by decide +kernel) (by decide +kernel)
set_option maxRecDepth 20000 in
theorem gX6_between_X2_hasKnot : GoodIn wsX6_between (wsV RX6 74 RX2 yX2_hasKnot wsX2_hasKnot) := goodIn_app (goodIn_of _ (by decide +kernel)) ggX6_between_X2_hasKnot
set_option maxRecDepth 20000 in
theorem ggX6_between_X6_bit : GoodIn wsX6_between wsX6_bit := goodIn_r _ [11] (by decide +kernel) (by decide +kernel)
set_option maxRecDepth 20000 in
theorem gX6_between_X6_bit : GoodIn wsX6_between (va_wsS RX6 84 yX6_bit wsX6_bit) := goodIn_app (goodIn_of _ (by decide +kernel)) ggX6_between_X6_bit
set_option maxRecDepth 20000 in
theorem ggX6_between_X2_find : GoodIn wsX6_between wsX2_find := goodIn_r _ [15, 16, 17, 18, 19, 5, 20, 21, 22, 10, 23, 32, 33, 34, 35] (by decide +kernel) (by decide +kernel)
set_option maxRecDepth 20000 in
theorem gX6_between_X2_find : GoodIn wsX6_between (wsV RX6 217 RX2 yX2_find wsX2_find) := goodIn_app (goodIn_of _ (by decide +kernel)) ggX6_between_X2_find
theorem dX6_between_0 : decode cX6_between 0 = .ok (.aload_n 0, 1) := by decide +kernel
theorem dX6_between_1 : decode cX6_between 1 = .ok (.getfield 12, 3) := by decide +kernel
theorem dX6_between_4 : decode cX6_between 4 = .ok (.iload_n 1, 1) := by decide +kernel
theorem dX6_between_5 : decode cX6_between 5 = .ok (.invokevirtual 74, 3) := by decide +kernel
theorem dX6_between_8 : decode cX6_between 8 = .ok (.ifCond .eq 14, 3) := by decide +kernel
theorem dX6_between_11 : decode cX6_between 11 = .ok (.aload_n 0, 1) := by decide +kernel
theorem dX6_between_12 : decode cX6_between 12 = .ok (.getfield 12, 3) := by decide +kernel
theorem dX6_between_15 : decode cX6_between 15 = .ok (.iload_n 2, 1) := by decide +kernel
theorem dX6_between_16 : decode cX6_between 16 = .ok (.invokevirtual 74, 3) := by decide +kernel
theorem dX6_between_19 : decode cX6_between 19 = .ok (.ifCond .ne 5, 3) := by decide +kernel
theorem dX6_between_22 : decode cX6_between 22 = .ok (.iconst (-1), 1) := by decide +kernel
theorem dX6_between_23 : decode cX6_between 23 = .ok (.ireturn, 1) := by decide +kernel
theorem dX6_between_24 : decode cX6_between 24 = .ok (.aload_n 0, 1) := by decide +kernel
theorem dX6_between_25 : decode cX6_between 25 = .ok (.getfield 12, 3) := by decide +kernel
theorem dX6_between_28 : decode cX6_between 28 = .ok (.iload_n 1, 1) := by decide +kernel
theorem dX6_between_29 : decode cX6_between 29 = .ok (.invokestatic 84, 3) := by decide +kernel
theorem dX6_between_32 : decode cX6_between 32 = .ok (.iload_n 2, 1) := by decide +kernel
theorem dX6_between_33 : decode cX6_between 33 = .ok (.invokestatic 84, 3) := by decide +kernel
theorem dX6_between_36 : decode cX6_between 36 = .ok (.ior, 1) := by decide +kernel
theorem dX6_between_37 : decode cX6_between 37 = .ok (.invokevirtual 217, 3) := by decide +kernel
theorem dX6_between_40 : decode cX6_between 40 = .ok (.istore_n 3, 1) := by decide +kernel
theorem dX6_between_41 : decode cX6_between 41 = .ok (.iload_n 3, 1) := by decide +kernel
theorem dX6_between_42 : decode cX6_between 42 = .ok (.ifCond .ge 8, 3) := by decide +kernel
theorem dX6_between_45 : decode cX6_between 45 = .ok (.bipush (-5), 2) := by decide +kernel
theorem dX6_between_47 : decode cX6_between 47 = .ok (.goto 4, 3) := by decide +kernel
theorem dX6_between_50 : decode cX6_between 50 = .ok (.iload_n 3, 1) := by decide +kernel
theorem dX6_between_51 : decode cX6_between 51 = .ok (.ireturn, 1) := by decide +kernel
set_option maxRecDepth 20000 in
theorem ggX6_chain_X2_hasThread : GoodIn wsX6_chain wsX2_hasThread := goodIn_r _ [6, 7, 55, 56, 57, 58] (by decide +kernel) (by decide +kernel)
set_option maxRecDepth 20000 in
theorem gX6_chain_X2_hasThread : GoodIn wsX6_chain (wsV RX6 94 RX2 yX2_hasThread wsX2_hasThread) := goodIn_app (goodIn_of _ (by decide +kernel)) ggX6_chain_X2_hasThread
set_option maxRecDepth 20000 in
theorem ggX6_chain_X2_colour : GoodIn wsX6_chain wsX2_colour := goodIn_r _ [11, 12, 13, 14, 15, 55, 56, 57, 58] (by decide +kernel) (by decide +kernel)
set_option maxRecDepth 20000 in
theorem gX6_chain_X2_colour : GoodIn wsX6_chain (wsV RX6 133 RX2 yX2_colour wsX2_colour) := goodIn_app (goodIn_of _ (by decide +kernel)) ggX6_chain_X2_colour
set_option maxRecDepth 20000 in
theorem ggX6_chain_X2_coloured : GoodIn wsX6_chain wsX2_coloured := goodIn_r _ [19, 7, 20, 9, 10, 5, 11, 12, 13, 14, 15, 21, 22, 55, 56, 57, 58] (by decide +kernel) (by decide +kernel)
set_option maxRecDepth 20000 in
theorem gX6_chain_X2_coloured : GoodIn wsX6_chain (wsV RX6 151 RX2 yX2_coloured wsX2_coloured) := goodIn_app (goodIn_of _ (by decide +kernel)) ggX6_chain_X2_coloured
set_option maxRecDepth 20000 in
theorem ggX6_chain_X2_ends : GoodIn wsX6_chain wsX2_ends := goodIn_r _ [26, 27, 13, 14, 15, 55, 56, 57, 58] (by decide +kernel) (by decide +kernel)
set_option maxRecDepth 20000 in
theorem gX6_chain_X2_ends : GoodIn wsX6_chain (wsV RX6 220 RX2 yX2_ends wsX2_ends) := goodIn_app (goodIn_of _ (by decide +kernel)) ggX6_chain_X2_ends
set_option maxRecDepth 20000 in
theorem ggX6_chain_X5_reached : GoodIn wsX6_chain wsX5_reached := goodIn_r _ [31, 32, 33, 30, 34, 35, 36, 37, 5, 38, 7, 39, 14, 40, 41, 24, 25, 26, 27, 13, 15, 55, 56, 57, 58] (by decide +kernel) (by decide +kernel)
set_option maxRecDepth 20000 in
theorem gX6_chain_X5_reached : GoodIn wsX6_chain (va_wsS RX6 189 yX5_reached wsX5_reached) := goodIn_app (goodIn_of _ (by decide +kernel)) ggX6_chain_X5_reached
set_option maxRecDepth 20000 in
theorem ggX6_chain_X2_threadsAt : GoodIn wsX6_chain wsX2_threadsAt := goodIn_r _ [45, 7, 46, 24, 25, 5, 26, 27, 13, 14, 15, 21, 22, 55, 56, 57, 58] (by decide +kernel) (by decide +kernel)
set_option maxRecDepth 20000 in
theorem gX6_chain_X2_threadsAt : GoodIn wsX6_chain (wsV RX6 177 RX2 yX2_threadsAt wsX2_threadsAt) := goodIn_app (goodIn_of _ (by decide +kernel)) ggX6_chain_X2_threadsAt
theorem dX6_chain_0 : decode cX6_chain 0 = .ok (.aload_n 0, 1) := by decide +kernel
theorem dX6_chain_1 : decode cX6_chain 1 = .ok (.getfield 12, 3) := by decide +kernel
theorem dX6_chain_4 : decode cX6_chain 4 = .ok (.iload_n 1, 1) := by decide +kernel
theorem dX6_chain_5 : decode cX6_chain 5 = .ok (.invokevirtual 94, 3) := by decide +kernel
theorem dX6_chain_8 : decode cX6_chain 8 = .ok (.ifCond .ne 5, 3) := by decide +kernel
theorem dX6_chain_11 : decode cX6_chain 11 = .ok (.iconst (-1), 1) := by decide +kernel
theorem dX6_chain_12 : decode cX6_chain 12 = .ok (.ireturn, 1) := by decide +kernel
theorem dX6_chain_13 : decode cX6_chain 13 = .ok (.aload_n 0, 1) := by decide +kernel
theorem dX6_chain_14 : decode cX6_chain 14 = .ok (.getfield 12, 3) := by decide +kernel
theorem dX6_chain_17 : decode cX6_chain 17 = .ok (.iload_n 1, 1) := by decide +kernel
theorem dX6_chain_18 : decode cX6_chain 18 = .ok (.invokevirtual 133, 3) := by decide +kernel
theorem dX6_chain_21 : decode cX6_chain 21 = .ok (.istore_n 3, 1) := by decide +kernel
theorem dX6_chain_22 : decode cX6_chain 22 = .ok (.iload_n 2, 1) := by decide +kernel
theorem dX6_chain_23 : decode cX6_chain 23 = .ok (.ifCond .lt 13, 3) := by decide +kernel
theorem dX6_chain_26 : decode cX6_chain 26 = .ok (.iload_n 2, 1) := by decide +kernel
theorem dX6_chain_27 : decode cX6_chain 27 = .ok (.iconst 3, 1) := by decide +kernel
theorem dX6_chain_28 : decode cX6_chain 28 = .ok (.if_icmp .ge 8, 3) := by decide +kernel
theorem dX6_chain_31 : decode cX6_chain 31 = .ok (.iload_n 2, 1) := by decide +kernel
theorem dX6_chain_32 : decode cX6_chain 32 = .ok (.iload_n 3, 1) := by decide +kernel
theorem dX6_chain_33 : decode cX6_chain 33 = .ok (.if_icmp .ne 6, 3) := by decide +kernel
theorem dX6_chain_36 : decode cX6_chain 36 = .ok (.bipush (-2), 2) := by decide +kernel
theorem dX6_chain_38 : decode cX6_chain 38 = .ok (.ireturn, 1) := by decide +kernel
theorem dX6_chain_39 : decode cX6_chain 39 = .ok (.iload_n 3, 1) := by decide +kernel
theorem dX6_chain_40 : decode cX6_chain 40 = .ok (.iconst 3, 1) := by decide +kernel
theorem dX6_chain_41 : decode cX6_chain 41 = .ok (.if_icmp .ne 6, 3) := by decide +kernel
theorem dX6_chain_44 : decode cX6_chain 44 = .ok (.bipush (-4), 2) := by decide +kernel
theorem dX6_chain_46 : decode cX6_chain 46 = .ok (.ireturn, 1) := by decide +kernel
theorem dX6_chain_47 : decode cX6_chain 47 = .ok (.aload_n 0, 1) := by decide +kernel
theorem dX6_chain_48 : decode cX6_chain 48 = .ok (.getfield 12, 3) := by decide +kernel
theorem dX6_chain_51 : decode cX6_chain 51 = .ok (.iload_n 3, 1) := by decide +kernel
theorem dX6_chain_52 : decode cX6_chain 52 = .ok (.invokevirtual 151, 3) := by decide +kernel
theorem dX6_chain_55 : decode cX6_chain 55 = .ok (.aload_n 0, 1) := by decide +kernel
theorem dX6_chain_56 : decode cX6_chain 56 = .ok (.getfield 12, 3) := by decide +kernel
theorem dX6_chain_59 : decode cX6_chain 59 = .ok (.iload_n 2, 1) := by decide +kernel
theorem dX6_chain_60 : decode cX6_chain 60 = .ok (.invokevirtual 151, 3) := by decide +kernel
theorem dX6_chain_63 : decode cX6_chain 63 = .ok (.ior, 1) := by decide +kernel
theorem dX6_chain_64 : decode cX6_chain 64 = .ok (.istore 4, 2) := by decide +kernel
theorem dX6_chain_66 : decode cX6_chain 66 = .ok (.iload 4, 2) := by decide +kernel
theorem dX6_chain_68 : decode cX6_chain 68 = .ok (.aload_n 0, 1) := by decide +kernel
theorem dX6_chain_69 : decode cX6_chain 69 = .ok (.getfield 12, 3) := by decide +kernel
theorem dX6_chain_72 : decode cX6_chain 72 = .ok (.aload_n 0, 1) := by decide +kernel
theorem dX6_chain_73 : decode cX6_chain 73 = .ok (.getfield 12, 3) := by decide +kernel
theorem dX6_chain_76 : decode cX6_chain 76 = .ok (.aload_n 0, 1) := by decide +kernel
theorem dX6_chain_77 : decode cX6_chain 77 = .ok (.getfield 12, 3) := by decide +kernel
theorem dX6_chain_80 : decode cX6_chain 80 = .ok (.iload_n 1, 1) := by decide +kernel
theorem dX6_chain_81 : decode cX6_chain 81 = .ok (.invokevirtual 220, 3) := by decide +kernel
theorem dX6_chain_84 : decode cX6_chain 84 = .ok (.iload 4, 2) := by decide +kernel
theorem dX6_chain_86 : decode cX6_chain 86 = .ok (.invokestatic 189, 3) := by decide +kernel
theorem dX6_chain_89 : decode cX6_chain 89 = .ok (.invokevirtual 177, 3) := by decide +kernel
theorem dX6_chain_92 : decode cX6_chain 92 = .ok (.iand, 1) := by decide +kernel
theorem dX6_chain_93 : decode cX6_chain 93 = .ok (.ireturn, 1) := by decide +kernel
set_option maxRecDepth 20000 in
theorem ggX6_paintings_X3_isPaintable : GoodIn wsX6_paintings wsX3_isPaintable := goodIn_r _ [7, 8, 9, 10, 11, 12, 13, 14, 15, 16, 17, 18, 19, 6, 20, 21, 22, 23, 24, 25, 26, 27, 28, 29, 30, 31, 32, 33, 34, 35, 36, 37, 38, 39, 40, 41, 42, 43, 44, 45, 46, 47, 48, 49, 50, 51, 52, 53, 54, 55, 56, 57, 58, 59, 60, 61, 62, 63, 64, 65, 66, 67, 68, 69, 70, 71, 72, 73, 74, 75, 76, 77, 78, 79, 80, 81, 82, 83, 84, 85, 86, 87, 88, 89, 90, 91, 92, 93, 94, 95, 96, 97, 98, 131, 132, 133, 134, 135, 136, 137, 138, 139, 140, 141, 142] (by decide +kernel) (by decide +kernel)
set_option maxRecDepth 20000 in
theorem gX6_paintings_X3_isPaintable : GoodIn wsX6_paintings (wsV RX6 223 RX3 yX3_isPaintable wsX3_isPaintable) := goodIn_app (goodIn_of _ (by decide +kernel)) ggX6_paintings_X3_isPaintable
set_option maxRecDepth 20000 in
theorem ggX6_paintings_X3_howMany : GoodIn wsX6_paintings wsX3_howMany := goodIn_r _ [102, 103, 104, 105, 106, 6, 107, 24, 25, 26, 11, 27, 13, 108, 109, 110, 111, 112, 33, 15, 34, 28, 29, 30, 31, 32, 113, 114, 115, 116, 68, 58, 69, 70, 117, 76, 77, 96, 97, 98, 118, 119, 120, 121, 122, 14, 16, 8, 9, 10, 12, 17, 18, 19, 20, 21, 22, 23, 35, 36, 37, 38, 39, 40, 41, 42, 43, 44, 45, 46, 47, 48, 49, 50, 51, 52, 53, 54, 55, 56, 57, 59, 60, 61, 62, 63, 64, 65, 66, 67, 71, 72, 73, 74, 75, 78, 79, 80, 81, 82, 83, 84, 85, 86, 87, 88, 89, 90, 91, 92, 93, 94, 95, 131, 132, 133, 134, 135, 136, 137, 138, 139, 140, 141, 142] (by decide +kernel) (by decide +kernel)
set_option maxRecDepth 20000 in
theorem gX6_paintings_X3_howMany : GoodIn wsX6_paintings (wsV RX6 226 RX3 yX3_howMany wsX3_howMany) := goodIn_app (goodIn_of _ (by decide +kernel)) ggX6_paintings_X3_howMany
theorem dX6_paintings_0 : decode cX6_paintings 0 = .ok (.iload_n 1, 1) := by decide +kernel
theorem dX6_paintings_1 : decode cX6_paintings 1 = .ok (.tableswitch 73 0 2 #[27, 47, 60], 27) := by decide +kernel
theorem dX6_paintings_28 : decode cX6_paintings 28 = .ok (.aload_n 0, 1) := by decide +kernel
theorem dX6_paintings_29 : decode cX6_paintings 29 = .ok (.getfield 43, 3) := by decide +kernel
theorem dX6_paintings_32 : decode cX6_paintings 32 = .ok (.aload_n 0, 1) := by decide +kernel
theorem dX6_paintings_33 : decode cX6_paintings 33 = .ok (.getfield 12, 3) := by decide +kernel
theorem dX6_paintings_36 : decode cX6_paintings 36 = .ok (.invokevirtual 223, 3) := by decide +kernel
theorem dX6_paintings_39 : decode cX6_paintings 39 = .ok (.ifCond .eq 7, 3) := by decide +kernel
theorem dX6_paintings_42 : decode cX6_paintings 42 = .ok (.iconst 1, 1) := by decide +kernel
theorem dX6_paintings_43 : decode cX6_paintings 43 = .ok (.goto 4, 3) := by decide +kernel
theorem dX6_paintings_46 : decode cX6_paintings 46 = .ok (.iconst 0, 1) := by decide +kernel
theorem dX6_paintings_47 : decode cX6_paintings 47 = .ok (.ireturn, 1) := by decide +kernel
theorem dX6_paintings_48 : decode cX6_paintings 48 = .ok (.aload_n 0, 1) := by decide +kernel
theorem dX6_paintings_49 : decode cX6_paintings 49 = .ok (.getfield 43, 3) := by decide +kernel
theorem dX6_paintings_52 : decode cX6_paintings 52 = .ok (.aload_n 0, 1) := by decide +kernel
theorem dX6_paintings_53 : decode cX6_paintings 53 = .ok (.getfield 12, 3) := by decide +kernel
theorem dX6_paintings_56 : decode cX6_paintings 56 = .ok (.iconst 1, 1) := by decide +kernel
theorem dX6_paintings_57 : decode cX6_paintings 57 = .ok (.invokevirtual 226, 3) := by decide +kernel
theorem dX6_paintings_60 : decode cX6_paintings 60 = .ok (.ireturn, 1) := by decide +kernel
theorem dX6_paintings_61 : decode cX6_paintings 61 = .ok (.aload_n 0, 1) := by decide +kernel
theorem dX6_paintings_62 : decode cX6_paintings 62 = .ok (.getfield 43, 3) := by decide +kernel
theorem dX6_paintings_65 : decode cX6_paintings 65 = .ok (.aload_n 0, 1) := by decide +kernel
