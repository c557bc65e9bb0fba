theorem dX2_mayMerge_4 : decode cX2_mayMerge 4 = .ok (.iload_n 3, 1) := by decide +kernel
theorem dX2_mayMerge_5 : decode cX2_mayMerge 5 = .ok (.aload_n 0, 1) := by decide +kernel
theorem dX2_mayMerge_6 : decode cX2_mayMerge 6 = .ok (.getfield 15, 3) := by decide +kernel
theorem dX2_mayMerge_9 : decode cX2_mayMerge 9 = .ok (.if_icmp .ge 44, 3) := by decide +kernel
theorem dX2_mayMerge_12 : decode cX2_mayMerge 12 = .ok (.aload_n 0, 1) := by decide +kernel
theorem dX2_mayMerge_13 : decode cX2_mayMerge 13 = .ok (.iload_n 3, 1) := by decide +kernel
theorem dX2_mayMerge_14 : decode cX2_mayMerge 14 = .ok (.invokevirtual 33, 3) := by decide +kernel
theorem dX2_mayMerge_17 : decode cX2_mayMerge 17 = .ok (.iload_n 1, 1) := by decide +kernel
theorem dX2_mayMerge_18 : decode cX2_mayMerge 18 = .ok (.iconst (-1), 1) := by decide +kernel
theorem dX2_mayMerge_19 : decode cX2_mayMerge 19 = .ok (.ixor, 1) := by decide +kernel
theorem dX2_mayMerge_20 : decode cX2_mayMerge 20 = .ok (.iand, 1) := by decide +kernel
theorem dX2_mayMerge_21 : decode cX2_mayMerge 21 = .ok (.istore 4, 2) := by decide +kernel
theorem dX2_mayMerge_23 : decode cX2_mayMerge 23 = .ok (.iload 4, 2) := by decide +kernel
theorem dX2_mayMerge_25 : decode cX2_mayMerge 25 = .ok (.aload_n 0, 1) := by decide +kernel
theorem dX2_mayMerge_26 : decode cX2_mayMerge 26 = .ok (.iload_n 3, 1) := by decide +kernel
theorem dX2_mayMerge_27 : decode cX2_mayMerge 27 = .ok (.invokevirtual 33, 3) := by decide +kernel
theorem dX2_mayMerge_30 : decode cX2_mayMerge 30 = .ok (.if_icmp .eq 17, 3) := by decide +kernel
theorem dX2_mayMerge_33 : decode cX2_mayMerge 33 = .ok (.iload_n 2, 1) := by decide +kernel
theorem dX2_mayMerge_34 : decode cX2_mayMerge 34 = .ok (.iload 4, 2) := by decide +kernel
theorem dX2_mayMerge_36 : decode cX2_mayMerge 36 = .ok (.iand, 1) := by decide +kernel
theorem dX2_mayMerge_37 : decode cX2_mayMerge 37 = .ok (.ifCond .eq 5, 3) := by decide +kernel
theorem dX2_mayMerge_40 : decode cX2_mayMerge 40 = .ok (.iconst 0, 1) := by decide +kernel
theorem dX2_mayMerge_41 : decode cX2_mayMerge 41 = .ok (.ireturn, 1) := by decide +kernel
theorem dX2_mayMerge_42 : decode cX2_mayMerge 42 = .ok (.iload_n 2, 1) := by decide +kernel
theorem dX2_mayMerge_43 : decode cX2_mayMerge 43 = .ok (.iload 4, 2) := by decide +kernel
theorem dX2_mayMerge_45 : decode cX2_mayMerge 45 = .ok (.ior, 1) := by decide +kernel
theorem dX2_mayMerge_46 : decode cX2_mayMerge 46 = .ok (.istore_n 2, 1) := by decide +kernel
theorem dX2_mayMerge_47 : decode cX2_mayMerge 47 = .ok (.iinc 3 1, 3) := by decide +kernel
theorem dX2_mayMerge_50 : decode cX2_mayMerge 50 = .ok (.goto (-46), 3) := by decide +kernel
theorem dX2_mayMerge_53 : decode cX2_mayMerge 53 = .ok (.iconst 1, 1) := by decide +kernel
theorem dX2_mayMerge_54 : decode cX2_mayMerge 54 = .ok (.ireturn, 1) := by decide +kernel
set_option maxRecDepth 20000 in
theorem ggX2_merge_X2_ends : GoodIn wsX2_merge wsX2_ends := goodIn_r _ [7, 2, 8, 9, 10, 51, 52, 53, 54] (by decide +kernel) (by decide +kernel)
set_option maxRecDepth 20000 in
theorem gX2_merge_X2_ends : GoodIn wsX2_merge (wsV RX2 33 RX2 yX2_ends wsX2_ends) := goodIn_app (goodIn_of _ (by decide +kernel)) ggX2_merge_X2_ends
set_option maxRecDepth 20000 in
theorem ggX2_merge_X6_bit : GoodIn wsX2_merge wsX6_bit := goodIn_r _ [12] (by decide +kernel) (by decide +kernel)
set_option maxRecDepth 20000 in
theorem gX2_merge_X6_bit_n25 : GoodIn wsX2_merge (wsX6_bit) := ggX2_merge_X6_bit
set_option maxRecDepth 20000 in
theorem ggX2_merge_X6_put : GoodIn wsX2_merge wsX6_put := goodIn_r _ [14] (by decide +kernel) (by decide +kernel)
set_option maxRecDepth 20000 in
theorem gX2_merge_X6_put_n43 : GoodIn wsX2_merge (wsX6_put) := ggX2_merge_X6_put
set_option maxRecDepth 20000 in
theorem ggX2_merge_J6_numberOfLeadingZeros_0f7a4 : GoodIn wsX2_merge wsJ6_numberOfLeadingZeros_0f7a4 := goodIn_r _ [18, 19] (by decide +kernel) (by decide +kernel)
set_option maxRecDepth 20000 in
theorem gX2_merge_J6_numberOfLeadingZeros_0f7a4 : GoodIn wsX2_merge (va_wsS RX2 40 yJ6_numberOfLeadingZeros_0f7a4 wsJ6_numberOfLeadingZeros_0f7a4) := goodIn_app (goodIn_of _ (by decide +kernel)) ggX2_merge_J6_numberOfLeadingZeros_0f7a4
set_option maxRecDepth 20000 in
theorem ggX2_merge_X2_dropKnot : GoodIn wsX2_merge wsX2_dropKnot := goodIn_r _ [23, 1, 2, 24, 25, 26, 27, 6, 28, 11, 9, 12, 29, 30, 31, 32, 3, 4, 5, 7, 8, 10, 33, 34, 35, 36, 37, 38, 39, 40, 41, 42, 43, 44, 45, 46, 47, 13, 14, 51, 52, 53, 54] (by decide +kernel) (by decide +kernel)
set_option maxRecDepth 20000 in
theorem gX2_merge_X2_dropKnot : GoodIn wsX2_merge (wsV RX2 111 RX2 yX2_dropKnot wsX2_dropKnot) := goodIn_app (goodIn_of _ (by decide +kernel)) ggX2_merge_X2_dropKnot
set_option maxRecDepth 20000 in
theorem ggX2_merge_J6_numberOfTrailingZeros_0f7a4 : GoodIn wsX2_merge wsJ6_numberOfTrailingZeros_0f7a4 := goodIn_r _ [50, 19] (by decide +kernel) (by decide +kernel)
set_option maxRecDepth 20000 in
theorem gX2_merge_J6_numberOfTrailingZeros_0f7a4 : GoodIn wsX2_merge (va_wsS RX2 35 yJ6_numberOfTrailingZeros_0f7a4 wsJ6_numberOfTrailingZeros_0f7a4) := goodIn_app (goodIn_of _ (by decide +kernel)) ggX2_merge_J6_numberOfTrailingZeros_0f7a4
theorem dX2_merge_0 : decode cX2_merge 0 = .ok (.iconst 0, 1) := by decide +kernel
theorem dX2_merge_1 : decode cX2_merge 1 = .ok (.istore_n 3, 1) := by decide +kernel
theorem dX2_merge_2 : decode cX2_merge 2 = .ok (.iload_n 3, 1) := by decide +kernel
theorem dX2_merge_3 : decode cX2_merge 3 = .ok (.aload_n 0, 1) := by decide +kernel
theorem dX2_merge_4 : decode cX2_merge 4 = .ok (.getfield 15, 3) := by decide +kernel
theorem dX2_merge_7 : decode cX2_merge 7 = .ok (.if_icmp .ge 57, 3) := by decide +kernel
theorem dX2_merge_10 : decode cX2_merge 10 = .ok (.aload_n 0, 1) := by decide +kernel
theorem dX2_merge_11 : decode cX2_merge 11 = .ok (.iload_n 3, 1) := by decide +kernel
theorem dX2_merge_12 : decode cX2_merge 12 = .ok (.invokevirtual 33, 3) := by decide +kernel
theorem dX2_merge_15 : decode cX2_merge 15 = .ok (.iload_n 2, 1) := by decide +kernel
theorem dX2_merge_16 : decode cX2_merge 16 = .ok (.iconst (-1), 1) := by decide +kernel
theorem dX2_merge_17 : decode cX2_merge 17 = .ok (.ixor, 1) := by decide +kernel
theorem dX2_merge_18 : decode cX2_merge 18 = .ok (.iand, 1) := by decide +kernel
theorem dX2_merge_19 : decode cX2_merge 19 = .ok (.iload_n 1, 1) := by decide +kernel
theorem dX2_merge_20 : decode cX2_merge 20 = .ok (.invokestatic 25, 3) := by decide +kernel
theorem dX2_merge_23 : decode cX2_merge 23 = .ok (.iconst (-1), 1) := by decide +kernel
theorem dX2_merge_24 : decode cX2_merge 24 = .ok (.ixor, 1) := by decide +kernel
theorem dX2_merge_25 : decode cX2_merge 25 = .ok (.iand, 1) := by decide +kernel
theorem dX2_merge_26 : decode cX2_merge 26 = .ok (.istore 4, 2) := by decide +kernel
theorem dX2_merge_28 : decode cX2_merge 28 = .ok (.iload 4, 2) := by decide +kernel
theorem dX2_merge_30 : decode cX2_merge 30 = .ok (.ifCond .eq 28, 3) := by decide +kernel
theorem dX2_merge_33 : decode cX2_merge 33 = .ok (.iload 4, 2) := by decide +kernel
theorem dX2_merge_35 : decode cX2_merge 35 = .ok (.aload_n 0, 1) := by decide +kernel
theorem dX2_merge_36 : decode cX2_merge 36 = .ok (.iload_n 3, 1) := by decide +kernel
theorem dX2_merge_37 : decode cX2_merge 37 = .ok (.invokevirtual 33, 3) := by decide +kernel
theorem dX2_merge_40 : decode cX2_merge 40 = .ok (.if_icmp .eq 18, 3) := by decide +kernel
theorem dX2_merge_43 : decode cX2_merge 43 = .ok (.aload_n 0, 1) := by decide +kernel
theorem dX2_merge_44 : decode cX2_merge 44 = .ok (.getfield 18, 3) := by decide +kernel
theorem dX2_merge_47 : decode cX2_merge 47 = .ok (.iload_n 3, 1) := by decide +kernel
theorem dX2_merge_48 : decode cX2_merge 48 = .ok (.iload 4, 2) := by decide +kernel
theorem dX2_merge_50 : decode cX2_merge 50 = .ok (.iload_n 1, 1) := by decide +kernel
theorem dX2_merge_51 : decode cX2_merge 51 = .ok (.invokestatic 25, 3) := by decide +kernel
theorem dX2_merge_54 : decode cX2_merge 54 = .ok (.ior, 1) := by decide +kernel
theorem dX2_merge_55 : decode cX2_merge 55 = .ok (.invokestatic 43, 3) := by decide +kernel
theorem dX2_merge_58 : decode cX2_merge 58 = .ok (.iinc 3 1, 3) := by decide +kernel
theorem dX2_merge_61 : decode cX2_merge 61 = .ok (.goto (-59), 3) := by decide +kernel
theorem dX2_merge_64 : decode cX2_merge 64 = .ok (.aload_n 0, 1) := by decide +kernel
theorem dX2_merge_65 : decode cX2_merge 65 = .ok (.bipush 31, 2) := by decide +kernel
theorem dX2_merge_67 : decode cX2_merge 67 = .ok (.iload_n 2, 1) := by decide +kernel
theorem dX2_merge_68 : decode cX2_merge 68 = .ok (.invokestatic 40, 3) := by decide +kernel
theorem dX2_merge_71 : decode cX2_merge 71 = .ok (.isub, 1) := by decide +kernel
theorem dX2_merge_72 : decode cX2_merge 72 = .ok (.invokevirtual 111, 3) := by decide +kernel
theorem dX2_merge_75 : decode cX2_merge 75 = .ok (.aload_n 0, 1) := by decide +kernel
theorem dX2_merge_76 : decode cX2_merge 76 = .ok (.iload_n 2, 1) := by decide +kernel
theorem dX2_merge_77 : decode cX2_merge 77 = .ok (.invokestatic 35, 3) := by decide +kernel
theorem dX2_merge_80 : decode cX2_merge 80 = .ok (.invokevirtual 111, 3) := by decide +kernel
theorem dX2_merge_83 : decode cX2_merge 83 = .ok (.return_, 1) := by decide +kernel
set_option maxRecDepth 20000 in
theorem ggX2_swapColours_X6_holds : GoodIn wsX2_swapColours wsX6_holds := goodIn_r _ [4] (by decide +kernel) (by decide +kernel)
set_option maxRecDepth 20000 in
theorem gX2_swapColours_X6_holds_n50 : GoodIn wsX2_swapColours (wsX6_holds) := ggX2_swapColours_X6_holds
set_option maxRecDepth 20000 in
theorem ggX2_swapColours_X2_colour : GoodIn wsX2_swapColours wsX2_colour := goodIn_r _ [9, 10, 11, 3, 12, 19, 20, 21, 22] (by decide +kernel) (by decide +kernel)
set_option maxRecDepth 20000 in
theorem gX2_swapColours_X2_colour : GoodIn wsX2_swapColours (wsV RX2 47 RX2 yX2_colour wsX2_colour) := goodIn_app (goodIn_of _ (by decide +kernel)) ggX2_swapColours_X2_colour
set_option maxRecDepth 20000 in
theorem ggX2_swapColours_X2_setColour : GoodIn wsX2_swapColours wsX2_setColour := goodIn_r _ [16, 10, 17, 3, 18, 19, 20, 21, 22] (by decide +kernel) (by decide +kernel)
set_option maxRecDepth 20000 in
theorem gX2_swapColours_X2_setColour : GoodIn wsX2_swapColours (wsV RX2 114 RX2 yX2_setColour wsX2_setColour) := goodIn_app (goodIn_of _ (by decide +kernel)) ggX2_swapColours_X2_setColour
theorem dX2_swapColours_0 : decode cX2_swapColours 0 = .ok (.iconst 0, 1) := by decide +kernel
theorem dX2_swapColours_1 : decode cX2_swapColours 1 = .ok (.istore_n 3, 1) := by decide +kernel
theorem dX2_swapColours_2 : decode cX2_swapColours 2 = .ok (.iload_n 3, 1) := by decide +kernel
theorem dX2_swapColours_3 : decode cX2_swapColours 3 = .ok (.aload_n 0, 1) := by decide +kernel
theorem dX2_swapColours_4 : decode cX2_swapColours 4 = .ok (.getfield 15, 3) := by decide +kernel
theorem dX2_swapColours_7 : decode cX2_swapColours 7 = .ok (.if_icmp .ge 29, 3) := by decide +kernel
theorem dX2_swapColours_10 : decode cX2_swapColours 10 = .ok (.iload_n 1, 1) := by decide +kernel
theorem dX2_swapColours_11 : decode cX2_swapColours 11 = .ok (.iload_n 3, 1) := by decide +kernel
theorem dX2_swapColours_12 : decode cX2_swapColours 12 = .ok (.invokestatic 50, 3) := by decide +kernel
theorem dX2_swapColours_15 : decode cX2_swapColours 15 = .ok (.ifCond .eq 15, 3) := by decide +kernel
theorem dX2_swapColours_18 : decode cX2_swapColours 18 = .ok (.aload_n 0, 1) := by decide +kernel
theorem dX2_swapColours_19 : decode cX2_swapColours 19 = .ok (.iload_n 3, 1) := by decide +kernel
theorem dX2_swapColours_20 : decode cX2_swapColours 20 = .ok (.iload_n 2, 1) := by decide +kernel
theorem dX2_swapColours_21 : decode cX2_swapColours 21 = .ok (.aload_n 0, 1) := by decide +kernel
theorem dX2_swapColours_22 : decode cX2_swapColours 22 = .ok (.iload_n 3, 1) := by decide +kernel
theorem dX2_swapColours_23 : decode cX2_swapColours 23 = .ok (.invokevirtual 47, 3) := by decide +kernel
theorem dX2_swapColours_26 : decode cX2_swapColours 26 = .ok (.isub, 1) := by decide +kernel
theorem dX2_swapColours_27 : decode cX2_swapColours 27 = .ok (.invokevirtual 114, 3) := by decide +kernel
theorem dX2_swapColours_30 : decode cX2_swapColours 30 = .ok (.iinc 3 1, 3) := by decide +kernel
theorem dX2_swapColours_33 : decode cX2_swapColours 33 = .ok (.goto (-31), 3) := by decide +kernel
theorem dX2_swapColours_36 : decode cX2_swapColours 36 = .ok (.return_, 1) := by decide +kernel
theorem dX3_init_0 : decode cX3_init 0 = .ok (.aload_n 0, 1) := by decide +kernel
theorem dX3_init_1 : decode cX3_init 1 = .ok (.invokespecial 3, 3) := by decide +kernel
theorem dX3_init_4 : decode cX3_init 4 = .ok (.aload_n 0, 1) := by decide +kernel
theorem dX3_init_5 : decode cX3_init 5 = .ok (.bipush 21, 2) := by decide +kernel
theorem dX3_init_7 : decode cX3_init 7 = .ok (.newarray .int, 2) := by decide +kernel
theorem dX3_init_9 : decode cX3_init 9 = .ok (.putfield 9, 3) := by decide +kernel
theorem dX3_init_12 : decode cX3_init 12 = .ok (.aload_n 0, 1) := by decide +kernel
theorem dX3_init_13 : decode cX3_init 13 = .ok (.bipush 21, 2) := by decide +kernel
theorem dX3_init_15 : decode cX3_init 15 = .ok (.newarray .int, 2) := by decide +kernel
theorem dX3_init_17 : decode cX3_init 17 = .ok (.putfield 15, 3) := by decide +kernel
theorem dX3_init_20 : decode cX3_init 20 = .ok (.aload_n 0, 1) := by decide +kernel
theorem dX3_init_21 : decode cX3_init 21 = .ok (.bipush 21, 2) := by decide +kernel
theorem dX3_init_23 : decode cX3_init 23 = .ok (.newarray .int, 2) := by decide +kernel
theorem dX3_init_25 : decode cX3_init 25 = .ok (.putfield 18, 3) := by decide +kernel
theorem dX3_init_28 : decode cX3_init 28 = .ok (.aload_n 0, 1) := by decide +kernel
theorem dX3_init_29 : decode cX3_init 29 = .ok (.bipush 21, 2) := by decide +kernel
theorem dX3_init_31 : decode cX3_init 31 = .ok (.newarray .int, 2) := by decide +kernel
theorem dX3_init_33 : decode cX3_init 33 = .ok (.putfield 21, 3) := by decide +kernel
theorem dX3_init_36 : decode cX3_init 36 = .ok (.aload_n 0, 1) := by decide +kernel
theorem dX3_init_37 : decode cX3_init 37 = .ok (.bipush 21, 2) := by decide +kernel
theorem dX3_init_39 : decode cX3_init 39 = .ok (.newarray .int, 2) := by decide +kernel
theorem dX3_init_41 : decode cX3_init 41 = .ok (.putfield 24, 3) := by decide +kernel
theorem dX3_init_44 : decode cX3_init 44 = .ok (.aload_n 0, 1) := by decide +kernel
theorem dX3_init_45 : decode cX3_init 45 = .ok (.bipush 21, 2) := by decide +kernel
theorem dX3_init_47 : decode cX3_init 47 = .ok (.newarray .int, 2) := by decide +kernel
theorem dX3_init_49 : decode cX3_init 49 = .ok (.putfield 27, 3) := by decide +kernel
theorem dX3_init_52 : decode cX3_init 52 = .ok (.aload_n 0, 1) := by decide +kernel
theorem dX3_init_53 : decode cX3_init 53 = .ok (.iconst 0, 1) := by decide +kernel
theorem dX3_init_54 : decode cX3_init 54 = .ok (.putfield 30, 3) := by decide +kernel
theorem dX3_init_57 : decode cX3_init 57 = .ok (.aload_n 0, 1) := by decide +kernel
theorem dX3_init_58 : decode cX3_init 58 = .ok (.iconst 0, 1) := by decide +kernel
theorem dX3_init_59 : decode cX3_init 59 = .ok (.putfield 34, 3) := by decide +kernel
theorem dX3_init_62 : decode cX3_init 62 = .ok (.return_, 1) := by decide +kernel
set_option maxRecDepth 20000 in
theorem ggX3_foundColour_X6_at : GoodIn wsX3_foundColour wsX6_at := goodIn_r _ [4] (by decide +kernel) (by decide +kernel)
set_option maxRecDepth 20000 in
theorem gX3_foundColour_X6_at_n37 : GoodIn wsX3_foundColour (wsX6_at) := ggX3_foundColour_X6_at
theorem dX3_foundColour_0 : decode cX3_foundColour 0 = .ok (.aload_n 0, 1) := by decide +kernel
theorem dX3_foundColour_1 : decode cX3_foundColour 1 = .ok (.getfield 27, 3) := by decide +kernel
theorem dX3_foundColour_4 : decode cX3_foundColour 4 = .ok (.iload_n 1, 1) := by decide +kernel
theorem dX3_foundColour_5 : decode cX3_foundColour 5 = .ok (.invokestatic 37, 3) := by decide +kernel
theorem dX3_foundColour_8 : decode cX3_foundColour 8 = .ok (.ireturn, 1) := by decide +kernel
set_option maxRecDepth 20000 in
theorem ggX3_isPaintable_X2_allThreads : GoodIn wsX3_isPaintable wsX2_allThreads := goodIn_r _ [5, 6, 7, 8, 9, 93, 94, 95, 96] (by decide +kernel) (by decide +kernel)
set_option maxRecDepth 20000 in
theorem gX3_isPaintable_X2_allThreads : GoodIn wsX3_isPaintable (wsV RX3 41 RX2 yX2_allThreads wsX2_allThreads) := goodIn_app (goodIn_of _ (by decide +kernel)) ggX3_isPaintable_X2_allThreads
set_option maxRecDepth 20000 in
theorem ggX3_isPaintable_X3_arrange : GoodIn wsX3_isPaintable wsX3_arrange := goodIn_r _ [14, 15, 16, 17, 18, 19, 20, 4, 21, 6, 22, 23, 24, 25, 26, 27, 8, 28, 29, 30, 31, 32, 33, 7, 9, 34, 35, 36, 37, 38, 13, 39, 40, 41, 42, 43, 44, 45, 46, 47, 48, 49, 50, 51, 52, 53, 54, 55, 56, 57, 58, 59, 60, 61, 62, 63, 64, 65, 66, 67, 68, 69, 70, 71, 97, 98, 99, 100, 101, 102, 103, 104, 93, 94, 95, 96] (by decide +kernel) (by decide +kernel)
set_option maxRecDepth 20000 in
theorem gX3_isPaintable_X3_arrange : GoodIn wsX3_isPaintable (wsV RX3 47 RX3 yX3_arrange wsX3_arrange) := goodIn_app (goodIn_of _ (by decide +kernel)) ggX3_isPaintable_X3_arrange
set_option maxRecDepth 20000 in
theorem ggX3_isPaintable_X3_ways : GoodIn wsX3_isPaintable wsX3_ways := goodIn_r _ [75, 17, 43, 27, 8, 28, 76, 77, 78, 13, 79, 40, 41, 42, 80, 81, 82, 83, 84, 85, 86, 87, 88, 89, 48, 49, 90, 91, 92, 97, 98, 99, 100, 101, 102, 103, 104] (by decide +kernel) (by decide +kernel)
set_option maxRecDepth 20000 in
theorem gX3_isPaintable_X3_ways : GoodIn wsX3_isPaintable (wsV RX3 51 RX3 yX3_ways wsX3_ways) := goodIn_app (goodIn_of _ (by decide +kernel)) ggX3_isPaintable_X3_ways
theorem dX3_isPaintable_0 : decode cX3_isPaintable 0 = .ok (.aload_n 0, 1) := by decide +kernel
theorem dX3_isPaintable_1 : decode cX3_isPaintable 1 = .ok (.aload_n 1, 1) := by decide +kernel
theorem dX3_isPaintable_2 : decode cX3_isPaintable 2 = .ok (.aload_n 1, 1) := by decide +kernel
theorem dX3_isPaintable_3 : decode cX3_isPaintable 3 = .ok (.invokevirtual 41, 3) := by decide +kernel
theorem dX3_isPaintable_6 : decode cX3_isPaintable 6 = .ok (.invokevirtual 47, 3) := by decide +kernel
theorem dX3_isPaintable_9 : decode cX3_isPaintable 9 = .ok (.aload_n 0, 1) := by decide +kernel
theorem dX3_isPaintable_10 : decode cX3_isPaintable 10 = .ok (.lconst 0, 1) := by decide +kernel
theorem dX3_isPaintable_11 : decode cX3_isPaintable 11 = .ok (.iconst 0, 1) := by decide +kernel
theorem dX3_isPaintable_12 : decode cX3_isPaintable 12 = .ok (.iconst 1, 1) := by decide +kernel
theorem dX3_isPaintable_13 : decode cX3_isPaintable 13 = .ok (.invokevirtual 51, 3) := by decide +kernel
theorem dX3_isPaintable_16 : decode cX3_isPaintable 16 = .ok (.ifCond .le 7, 3) := by decide +kernel
theorem dX3_isPaintable_19 : decode cX3_isPaintable 19 = .ok (.iconst 1, 1) := by decide +kernel
theorem dX3_isPaintable_20 : decode cX3_isPaintable 20 = .ok (.goto 4, 3) := by decide +kernel
theorem dX3_isPaintable_23 : decode cX3_isPaintable 23 = .ok (.iconst 0, 1) := by decide +kernel
theorem dX3_isPaintable_24 : decode cX3_isPaintable 24 = .ok (.ireturn, 1) := by decide +kernel
set_option maxRecDepth 20000 in
theorem ggX3_howMany_X3_usedColours : GoodIn wsX3_howMany wsX3_usedColours := goodIn_r _ [6, 1, 7, 8, 9, 10, 11, 12, 13, 14, 15, 16, 17, 18, 19, 20, 21, 22, 23, 24, 25, 26, 27, 5, 28, 29, 30, 31, 32, 33, 34, 35, 36, 37, 38, 39, 113, 114, 115, 116] (by decide +kernel) (by decide +kernel)
set_option maxRecDepth 20000 in
theorem gX3_howMany_X3_usedColours : GoodIn wsX3_howMany (va_wsS RX3 55 yX3_usedColours wsX3_usedColours) := goodIn_app (goodIn_of _ (by decide +kernel)) ggX3_howMany_X3_usedColours
set_option maxRecDepth 20000 in
theorem ggX3_howMany_X2_coloured : GoodIn wsX3_howMany wsX2_coloured := goodIn_r _ [43, 12, 44, 14, 15, 10, 16, 17, 18, 19, 20, 45, 46, 113, 114, 115, 116] (by decide +kernel) (by decide +kernel)
set_option maxRecDepth 20000 in
theorem gX3_howMany_X2_coloured : GoodIn wsX3_howMany (wsV RX3 61 RX2 yX2_coloured wsX2_coloured) := goodIn_app (goodIn_of _ (by decide +kernel)) ggX3_howMany_X2_coloured
set_option maxRecDepth 20000 in
theorem ggX3_howMany_X2_allThreads : GoodIn wsX3_howMany wsX2_allThreads := goodIn_r _ [50, 12, 45, 19, 46, 113, 114, 115, 116] (by decide +kernel) (by decide +kernel)
set_option maxRecDepth 20000 in
theorem gX3_howMany_X2_allThreads : GoodIn wsX3_howMany (wsV RX3 41 RX2 yX2_allThreads wsX2_allThreads) := goodIn_app (goodIn_of _ (by decide +kernel)) ggX3_howMany_X2_allThreads
set_option maxRecDepth 20000 in
theorem ggX3_howMany_X3_arrange : GoodIn wsX3_howMany wsX3_arrange := goodIn_r _ [54, 55, 56, 57, 7, 8, 9, 10, 11, 12, 21, 22, 23, 24, 25, 18, 19, 20, 58, 59, 60, 61, 62, 45, 46, 63, 64, 65, 66, 67, 5, 68, 69, 70, 71, 72, 73, 74, 75, 76, 77, 78, 79, 80, 31, 81, 82, 83, 84, 85, 86, 87, 88, 89, 30, 32, 33, 90, 91, 92, 93, 94, 35, 36, 117, 118, 119, 120, 121, 122, 123, 124, 113, 114, 115, 116] (by decide +kernel) (by decide +kernel)
set_option maxRecDepth 20000 in
theorem gX3_howMany_X3_arrange : GoodIn wsX3_howMany (wsV RX3 47 RX3 yX3_arrange wsX3_arrange) := goodIn_app (goodIn_of _ (by decide +kernel)) ggX3_howMany_X3_arrange
set_option maxRecDepth 20000 in
theorem ggX3_howMany_X3_ways : GoodIn wsX3_howMany wsX3_ways := goodIn_r _ [98, 57, 72, 18, 19, 20, 99, 100, 101, 5, 102, 69, 70, 71, 103, 104, 105, 106, 107, 108, 109, 110, 111, 112, 77, 78, 37, 38, 39, 117, 118, 119, 120, 121, 122, 123, 124] (by decide +kernel) (by decide +kernel)
set_option maxRecDepth 20000 in
theorem gX3_howMany_X3_ways : GoodIn wsX3_howMany (wsV RX3 51 RX3 yX3_ways wsX3_ways) := goodIn_app (goodIn_of _ (by decide +kernel)) ggX3_howMany_X3_ways
theorem dX3_howMany_0 : decode cX3_howMany 0 = .ok (.iload_n 2, 1) := by decide +kernel
theorem dX3_howMany_1 : decode cX3_howMany 1 = .ok (.ifCond .eq 10, 3) := by decide +kernel
theorem dX3_howMany_4 : decode cX3_howMany 4 = .ok (.aload_n 1, 1) := by decide +kernel
theorem dX3_howMany_5 : decode cX3_howMany 5 = .ok (.invokestatic 55, 3) := by decide +kernel
theorem dX3_howMany_8 : decode cX3_howMany 8 = .ok (.goto 4, 3) := by decide +kernel
theorem dX3_howMany_11 : decode cX3_howMany 11 = .ok (.lconst 0, 1) := by decide +kernel
theorem dX3_howMany_12 : decode cX3_howMany 12 = .ok (.lstore_n 3, 1) := by decide +kernel
theorem dX3_howMany_13 : decode cX3_howMany 13 = .ok (.lload_n 3, 1) := by decide +kernel
theorem dX3_howMany_14 : decode cX3_howMany 14 = .ok (.ldc2_w 59, 3) := by decide +kernel
theorem dX3_howMany_17 : decode cX3_howMany 17 = .ok (.lcmp, 1) := by decide +kernel
theorem dX3_howMany_18 : decode cX3_howMany 18 = .ok (.ifCond .ne 5, 3) := by decide +kernel
theorem dX3_howMany_21 : decode cX3_howMany 21 = .ok (.iconst 0, 1) := by decide +kernel
theorem dX3_howMany_22 : decode cX3_howMany 22 = .ok (.ireturn, 1) := by decide +kernel
theorem dX3_howMany_23 : decode cX3_howMany 23 = .ok (.aload_n 0, 1) := by decide +kernel
theorem dX3_howMany_24 : decode cX3_howMany 24 = .ok (.aload_n 1, 1) := by decide +kernel
theorem dX3_howMany_25 : decode cX3_howMany 25 = .ok (.iload_n 2, 1) := by decide +kernel
theorem dX3_howMany_26 : decode cX3_howMany 26 = .ok (.ifCond .eq 11, 3) := by decide +kernel
theorem dX3_howMany_29 : decode cX3_howMany 29 = .ok (.aload_n 1, 1) := by decide +kernel
theorem dX3_howMany_30 : decode cX3_howMany 30 = .ok (.iconst 3, 1) := by decide +kernel
theorem dX3_howMany_31 : decode cX3_howMany 31 = .ok (.invokevirtual 61, 3) := by decide +kernel
theorem dX3_howMany_34 : decode cX3_howMany 34 = .ok (.goto 7, 3) := by decide +kernel
theorem dX3_howMany_37 : decode cX3_howMany 37 = .ok (.aload_n 1, 1) := by decide +kernel
theorem dX3_howMany_38 : decode cX3_howMany 38 = .ok (.invokevirtual 41, 3) := by decide +kernel
theorem dX3_howMany_41 : decode cX3_howMany 41 = .ok (.invokevirtual 47, 3) := by decide +kernel
theorem dX3_howMany_44 : decode cX3_howMany 44 = .ok (.aload_n 0, 1) := by decide +kernel
theorem dX3_howMany_45 : decode cX3_howMany 45 = .ok (.lload_n 3, 1) := by decide +kernel
theorem dX3_howMany_46 : decode cX3_howMany 46 = .ok (.iconst 0, 1) := by decide +kernel
theorem dX3_howMany_47 : decode cX3_howMany 47 = .ok (.ldc 65, 2) := by decide +kernel
theorem dX3_howMany_49 : decode cX3_howMany 49 = .ok (.invokevirtual 51, 3) := by decide +kernel
theorem dX3_howMany_52 : decode cX3_howMany 52 = .ok (.ireturn, 1) := by decide +kernel
set_option maxRecDepth 20000 in
theorem ggX3_findFirst_X3_usedColours : GoodIn wsX3_findFirst wsX3_usedColours := goodIn_r _ [6, 1, 7, 8, 9, 10, 11, 12, 13, 14, 15, 16, 17, 18, 19, 20, 21, 22, 23, 24, 25, 26, 27, 5, 28, 29, 30, 31, 32, 33, 34, 35, 36, 37, 38, 39, 125, 126, 127, 128] (by decide +kernel) (by decide +kernel)
set_option maxRecDepth 20000 in
theorem gX3_findFirst_X3_usedColours : GoodIn wsX3_findFirst (va_wsS RX3 55 yX3_usedColours wsX3_usedColours) := goodIn_app (goodIn_of _ (by decide +kernel)) ggX3_findFirst_X3_usedColours
set_option maxRecDepth 20000 in
theorem ggX3_findFirst_X2_coloured : GoodIn wsX3_findFirst wsX2_coloured := goodIn_r _ [43, 12, 44, 14, 15, 10, 16, 17, 18, 19, 20, 45, 46, 125, 126, 127, 128] (by decide +kernel) (by decide +kernel)
set_option maxRecDepth 20000 in
theorem gX3_findFirst_X2_coloured : GoodIn wsX3_findFirst (wsV RX3 61 RX2 yX2_coloured wsX2_coloured) := goodIn_app (goodIn_of _ (by decide +kernel)) ggX3_findFirst_X2_coloured
set_option maxRecDepth 20000 in
theorem ggX3_findFirst_X2_allThreads : GoodIn wsX3_findFirst wsX2_allThreads := goodIn_r _ [50, 12, 45, 19, 46, 125, 126, 127, 128] (by decide +kernel) (by decide +kernel)
set_option maxRecDepth 20000 in
theorem gX3_findFirst_X2_allThreads : GoodIn wsX3_findFirst (wsV RX3 41 RX2 yX2_allThreads wsX2_allThreads) := goodIn_app (goodIn_of _ (by decide +kernel)) ggX3_findFirst_X2_allThreads
set_option maxRecDepth 20000 in
theorem ggX3_findFirst_X3_arrange : GoodIn wsX3_findFirst wsX3_arrange := goodIn_r _ [54, 55, 56, 57, 7, 8, 9, 10, 11, 12, 21, 22, 23, 24, 25, 18, 19, 20, 58, 59, 60, 61, 62, 45, 46, 63, 64, 65, 66, 67, 5, 68, 69, 70, 71, 72, 73, 74, 75, 76, 77, 78, 79, 80, 31, 81, 82, 83, 84, 85, 86, 87, 88, 89, 30, 32, 33, 90, 91, 92, 93, 94, 35, 36, 117, 118, 119, 120, 121, 122, 123, 124, 125, 126, 127, 128] (by decide +kernel) (by decide +kernel)
set_option maxRecDepth 20000 in
theorem gX3_findFirst_X3_arrange : GoodIn wsX3_findFirst (wsV RX3 47 RX3 yX3_arrange wsX3_arrange) := goodIn_app (goodIn_of _ (by decide +kernel)) ggX3_findFirst_X3_arrange
set_option maxRecDepth 20000 in
theorem ggX3_findFirst_X3_ways : GoodIn wsX3_findFirst wsX3_ways := goodIn_r _ [98, 57, 72, 18, 19, 20, 99, 100, 101, 5, 102, 69, 70, 71, 103, 104, 105, 106, 107, 108, 109, 110, 111, 112, 77, 78, 37, 38, 39, 117, 118, 119, 120, 121, 122, 123, 124] (by decide +kernel) (by decide +kernel)
set_option maxRecDepth 20000 in
theorem gX3_findFirst_X3_ways : GoodIn wsX3_findFirst (wsV RX3 51 RX3 yX3_ways wsX3_ways) := goodIn_app (goodIn_of _ (by decide +kernel)) ggX3_findFirst_X3_ways
set_option maxRecDepth 20000 in
theorem ggX3_findFirst_X2_threads : GoodIn wsX3_findFirst wsX2_threads := goodIn_r _ [11, 12, 125, 126, 127, 128] (by decide +kernel) (by decide +kernel)
set_option maxRecDepth 20000 in
theorem gX3_findFirst_X2_threads : GoodIn wsX3_findFirst (wsV RX3 66 RX2 yX2_threads wsX2_threads) := goodIn_app (goodIn_of _ (by decide +kernel)) ggX3_findFirst_X2_threads
set_option maxRecDepth 20000 in
theorem ggX3_findFirst_X2_colour : GoodIn wsX3_findFirst wsX2_colour := goodIn_r _ [16, 17, 18, 19, 20, 125, 126, 127, 128] (by decide +kernel) (by decide +kernel)
set_option maxRecDepth 20000 in
theorem gX3_findFirst_X2_colour : GoodIn wsX3_findFirst (wsV RX3 69 RX2 yX2_colour wsX2_colour) := goodIn_app (goodIn_of _ (by decide +kernel)) ggX3_findFirst_X2_colour
set_option maxRecDepth 20000 in
theorem ggX3_findFirst_X6_holds : GoodIn wsX3_findFirst wsX6_holds := goodIn_r _ [78] (by decide +kernel) (by decide +kernel)
set_option maxRecDepth 20000 in
theorem gX3_findFirst_X6_holds_n72 : GoodIn wsX3_findFirst (wsX6_holds) := ggX3_findFirst_X6_holds
set_option maxRecDepth 20000 in
theorem ggX3_findFirst_X6_bit : GoodIn wsX3_findFirst wsX6_bit := goodIn_r _ [46] (by decide +kernel) (by decide +kernel)
set_option maxRecDepth 20000 in
theorem gX3_findFirst_X6_bit_n76 : GoodIn wsX3_findFirst (wsX6_bit) := ggX3_findFirst_X6_bit
set_option maxRecDepth 20000 in
theorem ggX3_findFirst_X2_ends : GoodIn wsX3_findFirst wsX2_ends := goodIn_r _ [24, 25, 18, 19, 20, 125, 126, 127, 128] (by decide +kernel) (by decide +kernel)
set_option maxRecDepth 20000 in
theorem gX3_findFirst_X2_ends : GoodIn wsX3_findFirst (wsV RX3 79 RX2 yX2_ends wsX2_ends) := goodIn_app (goodIn_of _ (by decide +kernel)) ggX3_findFirst_X2_ends
set_option maxRecDepth 20000 in
theorem ggX3_findFirst_X3_lowestColour : GoodIn wsX3_findFirst wsX3_lowestColour := goodIn_r _ [116, 26, 27, 5, 28, 29, 30, 31, 32, 33, 34, 35, 36, 37, 38, 39, 95, 96, 97, 98, 57, 72, 18, 19, 20, 99, 100, 101, 102, 69, 70, 71, 103, 104, 105, 106, 107, 108, 109, 110, 111, 112, 77, 78, 117, 118, 119, 120, 121, 122, 123, 124] (by decide +kernel) (by decide +kernel)
set_option maxRecDepth 20000 in
theorem gX3_findFirst_X3_lowestColour : GoodIn wsX3_findFirst (wsV RX3 82 RX3 yX3_lowestColour wsX3_lowestColour) := goodIn_app (goodIn_of _ (by decide +kernel)) ggX3_findFirst_X3_lowestColour
set_option maxRecDepth 20000 in
theorem ggX3_findFirst_X3_usedBy : GoodIn wsX3_findFirst wsX3_usedBy := goodIn_r _ [28, 29, 30, 31, 32, 33, 34, 35, 36, 37, 38, 5, 39] (by decide +kernel) (by decide +kernel)
set_option maxRecDepth 20000 in
theorem gX3_findFirst_X3_usedBy : GoodIn wsX3_findFirst (va_wsS RX3 86 yX3_usedBy wsX3_usedBy) := goodIn_app (goodIn_of _ (by decide +kernel)) ggX3_findFirst_X3_usedBy
set_option maxRecDepth 20000 in
theorem ggX3_findFirst_X6_put : GoodIn wsX3_findFirst wsX6_put := goodIn_r _ [64] (by decide +kernel) (by decide +kernel)
set_option maxRecDepth 20000 in
theorem gX3_findFirst_X6_put_n90 : GoodIn wsX3_findFirst (wsX6_put) := ggX3_findFirst_X6_put
theorem dX3_findFirst_0 : decode cX3_findFirst 0 = .ok (.iload_n 2, 1) := by decide +kernel
theorem dX3_findFirst_1 : decode cX3_findFirst 1 = .ok (.ifCond .eq 10, 3) := by decide +kernel
theorem dX3_findFirst_4 : decode cX3_findFirst 4 = .ok (.aload_n 1, 1) := by decide +kernel
theorem dX3_findFirst_5 : decode cX3_findFirst 5 = .ok (.invokestatic 55, 3) := by decide +kernel
theorem dX3_findFirst_8 : decode cX3_findFirst 8 = .ok (.goto 4, 3) := by decide +kernel
theorem dX3_findFirst_11 : decode cX3_findFirst 11 = .ok (.lconst 0, 1) := by decide +kernel
theorem dX3_findFirst_12 : decode cX3_findFirst 12 = .ok (.lstore_n 3, 1) := by decide +kernel
theorem dX3_findFirst_13 : decode cX3_findFirst 13 = .ok (.lload_n 3, 1) := by decide +kernel
theorem dX3_findFirst_14 : decode cX3_findFirst 14 = .ok (.ldc2_w 59, 3) := by decide +kernel
theorem dX3_findFirst_17 : decode cX3_findFirst 17 = .ok (.lcmp, 1) := by decide +kernel
theorem dX3_findFirst_18 : decode cX3_findFirst 18 = .ok (.ifCond .ne 5, 3) := by decide +kernel
theorem dX3_findFirst_21 : decode cX3_findFirst 21 = .ok (.iconst 0, 1) := by decide +kernel
theorem dX3_findFirst_22 : decode cX3_findFirst 22 = .ok (.ireturn, 1) := by decide +kernel
theorem dX3_findFirst_23 : decode cX3_findFirst 23 = .ok (.iload_n 2, 1) := by decide +kernel
theorem dX3_findFirst_24 : decode cX3_findFirst 24 = .ok (.ifCond .eq 11, 3) := by decide +kernel
theorem dX3_findFirst_27 : decode cX3_findFirst 27 = .ok (.aload_n 1, 1) := by decide +kernel
theorem dX3_findFirst_28 : decode cX3_findFirst 28 = .ok (.iconst 3, 1) := by decide +kernel
theorem dX3_findFirst_29 : decode cX3_findFirst 29 = .ok (.invokevirtual 61, 3) := by decide +kernel
theorem dX3_findFirst_32 : decode cX3_findFirst 32 = .ok (.goto 7, 3) := by decide +kernel
theorem dX3_findFirst_35 : decode cX3_findFirst 35 = .ok (.aload_n 1, 1) := by decide +kernel
theorem dX3_findFirst_36 : decode cX3_findFirst 36 = .ok (.invokevirtual 41, 3) := by decide +kernel
theorem dX3_findFirst_39 : decode cX3_findFirst 39 = .ok (.istore 5, 2) := by decide +kernel
theorem dX3_findFirst_41 : decode cX3_findFirst 41 = .ok (.aload_n 0, 1) := by decide +kernel
theorem dX3_findFirst_42 : decode cX3_findFirst 42 = .ok (.aload_n 1, 1) := by decide +kernel
theorem dX3_findFirst_43 : decode cX3_findFirst 43 = .ok (.iload 5, 2) := by decide +kernel
theorem dX3_findFirst_45 : decode cX3_findFirst 45 = .ok (.invokevirtual 47, 3) := by decide +kernel
theorem dX3_findFirst_48 : decode cX3_findFirst 48 = .ok (.aload_n 0, 1) := by decide +kernel
theorem dX3_findFirst_49 : decode cX3_findFirst 49 = .ok (.lload_n 3, 1) := by decide +kernel
theorem dX3_findFirst_50 : decode cX3_findFirst 50 = .ok (.iconst 0, 1) := by decide +kernel
theorem dX3_findFirst_51 : decode cX3_findFirst 51 = .ok (.iconst 1, 1) := by decide +kernel
theorem dX3_findFirst_52 : decode cX3_findFirst 52 = .ok (.invokevirtual 51, 3) := by decide +kernel
theorem dX3_findFirst_55 : decode cX3_findFirst 55 = .ok (.ifCond .ne 5, 3) := by decide +kernel
theorem dX3_findFirst_58 : decode cX3_findFirst 58 = .ok (.iconst 0, 1) := by decide +kernel
theorem dX3_findFirst_59 : decode cX3_findFirst 59 = .ok (.ireturn, 1) := by decide +kernel
theorem dX3_findFirst_60 : decode cX3_findFirst 60 = .ok (.iconst 0, 1) := by decide +kernel
theorem dX3_findFirst_61 : decode cX3_findFirst 61 = .ok (.istore 6, 2) := by decide +kernel
theorem dX3_findFirst_63 : decode cX3_findFirst 63 = .ok (.iconst 0, 1) := by decide +kernel
theorem dX3_findFirst_64 : decode cX3_findFirst 64 = .ok (.istore 7, 2) := by decide +kernel
theorem dX3_findFirst_66 : decode cX3_findFirst 66 = .ok (.iload 7, 2) := by decide +kernel
theorem dX3_findFirst_68 : decode cX3_findFirst 68 = .ok (.aload_n 1, 1) := by decide +kernel
theorem dX3_findFirst_69 : decode cX3_findFirst 69 = .ok (.invokevirtual 66, 3) := by decide +kernel
theorem dX3_findFirst_72 : decode cX3_findFirst 72 = .ok (.if_icmp .ge 77, 3) := by decide +kernel
theorem dX3_findFirst_75 : decode cX3_findFirst 75 = .ok (.aload_n 1, 1) := by decide +kernel
theorem dX3_findFirst_76 : decode cX3_findFirst 76 = .ok (.iload 7, 2) := by decide +kernel
theorem dX3_findFirst_78 : decode cX3_findFirst 78 = .ok (.invokevirtual 69, 3) := by decide +kernel
theorem dX3_findFirst_81 : decode cX3_findFirst 81 = .ok (.istore 8, 2) := by decide +kernel
theorem dX3_findFirst_83 : decode cX3_findFirst 83 = .ok (.iload 5, 2) := by decide +kernel
theorem dX3_findFirst_85 : decode cX3_findFirst 85 = .ok (.iload 7, 2) := by decide +kernel
theorem dX3_findFirst_87 : decode cX3_findFirst 87 = .ok (.invokestatic 72, 3) := by decide +kernel
theorem dX3_findFirst_90 : decode cX3_findFirst 90 = .ok (.ifCond .eq 42, 3) := by decide +kernel
theorem dX3_findFirst_93 : decode cX3_findFirst 93 = .ok (.iload 6, 2) := by decide +kernel
theorem dX3_findFirst_95 : decode cX3_findFirst 95 = .ok (.iload 7, 2) := by decide +kernel
theorem dX3_findFirst_97 : decode cX3_findFirst 97 = .ok (.invokestatic 76, 3) := by decide +kernel
theorem dX3_findFirst_100 : decode cX3_findFirst 100 = .ok (.ior, 1) := by decide +kernel
theorem dX3_findFirst_101 : decode cX3_findFirst 101 = .ok (.istore 6, 2) := by decide +kernel
theorem dX3_findFirst_103 : decode cX3_findFirst 103 = .ok (.aload_n 0, 1) := by decide +kernel
theorem dX3_findFirst_104 : decode cX3_findFirst 104 = .ok (.aload_n 1, 1) := by decide +kernel
theorem dX3_findFirst_105 : decode cX3_findFirst 105 = .ok (.iload 7, 2) := by decide +kernel
theorem dX3_findFirst_107 : decode cX3_findFirst 107 = .ok (.invokevirtual 79, 3) := by decide +kernel
theorem dX3_findFirst_110 : decode cX3_findFirst 110 = .ok (.lload_n 3, 1) := by decide +kernel
theorem dX3_findFirst_111 : decode cX3_findFirst 111 = .ok (.iload 6, 2) := by decide +kernel
theorem dX3_findFirst_113 : decode cX3_findFirst 113 = .ok (.invokevirtual 82, 3) := by decide +kernel
theorem dX3_findFirst_116 : decode cX3_findFirst 116 = .ok (.istore 8, 2) := by decide +kernel
theorem dX3_findFirst_118 : decode cX3_findFirst 118 = .ok (.lload_n 3, 1) := by decide +kernel
theorem dX3_findFirst_119 : decode cX3_findFirst 119 = .ok (.aload_n 1, 1) := by decide +kernel
theorem dX3_findFirst_120 : decode cX3_findFirst 120 = .ok (.iload 7, 2) := by decide +kernel
theorem dX3_findFirst_122 : decode cX3_findFirst 122 = .ok (.invokevirtual 79, 3) := by decide +kernel
theorem dX3_findFirst_125 : decode cX3_findFirst 125 = .ok (.iload 8, 2) := by decide +kernel
theorem dX3_findFirst_127 : decode cX3_findFirst 127 = .ok (.invokestatic 86, 3) := by decide +kernel
theorem dX3_findFirst_130 : decode cX3_findFirst 130 = .ok (.lor, 1) := by decide +kernel
theorem dX3_findFirst_131 : decode cX3_findFirst 131 = .ok (.lstore_n 3, 1) := by decide +kernel
theorem dX3_findFirst_132 : decode cX3_findFirst 132 = .ok (.aload_n 0, 1) := by decide +kernel
theorem dX3_findFirst_133 : decode cX3_findFirst 133 = .ok (.getfield 27, 3) := by decide +kernel
theorem dX3_findFirst_136 : decode cX3_findFirst 136 = .ok (.iload 7, 2) := by decide +kernel
theorem dX3_findFirst_138 : decode cX3_findFirst 138 = .ok (.iload 8, 2) := by decide +kernel
theorem dX3_findFirst_140 : decode cX3_findFirst 140 = .ok (.invokestatic 90, 3) := by decide +kernel
theorem dX3_findFirst_143 : decode cX3_findFirst 143 = .ok (.iinc 7 1, 3) := by decide +kernel
theorem dX3_findFirst_146 : decode cX3_findFirst 146 = .ok (.goto (-80), 3) := by decide +kernel
theorem dX3_findFirst_149 : decode cX3_findFirst 149 = .ok (.iconst 1, 1) := by decide +kernel
theorem dX3_findFirst_150 : decode cX3_findFirst 150 = .ok (.ireturn, 1) := by decide +kernel
set_option maxRecDepth 20000 in
theorem ggX3_lowestColour_X3_usedBy : GoodIn wsX3_lowestColour wsX3_usedBy := goodIn_r _ [4, 5, 6, 7, 8, 9, 10, 11, 12, 13, 14, 3, 15] (by decide +kernel) (by decide +kernel)
set_option maxRecDepth 20000 in
theorem gX3_lowestColour_X3_usedBy : GoodIn wsX3_lowestColour (va_wsS RX3 86 yX3_usedBy wsX3_usedBy) := goodIn_app (goodIn_of _ (by decide +kernel)) ggX3_lowestColour_X3_usedBy
set_option maxRecDepth 20000 in
theorem ggX3_lowestColour_X3_ways : GoodIn wsX3_lowestColour wsX3_ways := goodIn_r _ [19, 20, 21, 22, 23, 24, 25, 26, 27, 3, 28, 29, 30, 31, 32, 33, 34, 35, 36, 37, 38, 39, 40, 41, 42, 43, 13, 14, 15, 44, 45, 46, 47, 48, 49, 50, 51] (by decide +kernel) (by decide +kernel)
set_option maxRecDepth 20000 in
theorem gX3_lowestColour_X3_ways : GoodIn wsX3_lowestColour (wsV RX3 51 RX3 yX3_ways wsX3_ways) := goodIn_app (goodIn_of _ (by decide +kernel)) ggX3_lowestColour_X3_ways
theorem dX3_lowestColour_0 : decode cX3_lowestColour 0 = .ok (.iconst 0, 1) := by decide +kernel
theorem dX3_lowestColour_1 : decode cX3_lowestColour 1 = .ok (.istore 5, 2) := by decide +kernel
theorem dX3_lowestColour_3 : decode cX3_lowestColour 3 = .ok (.iload 5, 2) := by decide +kernel
theorem dX3_lowestColour_5 : decode cX3_lowestColour 5 = .ok (.iconst 2, 1) := by decide +kernel
theorem dX3_lowestColour_6 : decode cX3_lowestColour 6 = .ok (.if_icmp .ge 43, 3) := by decide +kernel
theorem dX3_lowestColour_9 : decode cX3_lowestColour 9 = .ok (.iload_n 1, 1) := by decide +kernel
theorem dX3_lowestColour_10 : decode cX3_lowestColour 10 = .ok (.iload 5, 2) := by decide +kernel
theorem dX3_lowestColour_12 : decode cX3_lowestColour 12 = .ok (.invokestatic 86, 3) := by decide +kernel
theorem dX3_lowestColour_15 : decode cX3_lowestColour 15 = .ok (.lstore 6, 2) := by decide +kernel
theorem dX3_lowestColour_17 : decode cX3_lowestColour 17 = .ok (.lload_n 2, 1) := by decide +kernel
theorem dX3_lowestColour_18 : decode cX3_lowestColour 18 = .ok (.lload 6, 2) := by decide +kernel
theorem dX3_lowestColour_20 : decode cX3_lowestColour 20 = .ok (.land, 1) := by decide +kernel
theorem dX3_lowestColour_21 : decode cX3_lowestColour 21 = .ok (.lconst 0, 1) := by decide +kernel
theorem dX3_lowestColour_22 : decode cX3_lowestColour 22 = .ok (.lcmp, 1) := by decide +kernel
theorem dX3_lowestColour_23 : decode cX3_lowestColour 23 = .ok (.ifCond .ne 20, 3) := by decide +kernel
theorem dX3_lowestColour_26 : decode cX3_lowestColour 26 = .ok (.aload_n 0, 1) := by decide +kernel
theorem dX3_lowestColour_27 : decode cX3_lowestColour 27 = .ok (.lload_n 2, 1) := by decide +kernel
theorem dX3_lowestColour_28 : decode cX3_lowestColour 28 = .ok (.lload 6, 2) := by decide +kernel
theorem dX3_lowestColour_30 : decode cX3_lowestColour 30 = .ok (.lor, 1) := by decide +kernel
theorem dX3_lowestColour_31 : decode cX3_lowestColour 31 = .ok (.iload 4, 2) := by decide +kernel
theorem dX3_lowestColour_33 : decode cX3_lowestColour 33 = .ok (.iconst 1, 1) := by decide +kernel
theorem dX3_lowestColour_34 : decode cX3_lowestColour 34 = .ok (.invokevirtual 51, 3) := by decide +kernel
theorem dX3_lowestColour_37 : decode cX3_lowestColour 37 = .ok (.ifCond .le 6, 3) := by decide +kernel
theorem dX3_lowestColour_40 : decode cX3_lowestColour 40 = .ok (.iload 5, 2) := by decide +kernel
theorem dX3_lowestColour_42 : decode cX3_lowestColour 42 = .ok (.ireturn, 1) := by decide +kernel
theorem dX3_lowestColour_43 : decode cX3_lowestColour 43 = .ok (.iinc 5 1, 3) := by decide +kernel
theorem dX3_lowestColour_46 : decode cX3_lowestColour 46 = .ok (.goto (-43), 3) := by decide +kernel
theorem dX3_lowestColour_49 : decode cX3_lowestColour 49 = .ok (.iconst 2, 1) := by decide +kernel
theorem dX3_lowestColour_50 : decode cX3_lowestColour 50 = .ok (.ireturn, 1) := by decide +kernel
set_option maxRecDepth 20000 in
theorem ggX3_firstLeastSet_X2_allThreads : GoodIn wsX3_firstLeastSet wsX2_allThreads := goodIn_r _ [6, 7, 8, 9, 10, 98, 99, 100, 101] (by decide +kernel) (by decide +kernel)
set_option maxRecDepth 20000 in
theorem gX3_firstLeastSet_X2_allThreads : GoodIn wsX3_firstLeastSet (wsV RX3 41 RX2 yX2_allThreads wsX2_allThreads) := goodIn_app (goodIn_of _ (by decide +kernel)) ggX3_firstLeastSet_X2_allThreads
set_option maxRecDepth 20000 in
theorem ggX3_firstLeastSet_X3_arrange : GoodIn wsX3_firstLeastSet wsX3_arrange := goodIn_r _ [15, 16, 17, 18, 19, 20, 21, 5, 22, 7, 23, 24, 25, 26, 27, 28, 9, 29, 30, 31, 32, 33, 34, 8, 10, 35, 36, 37, 38, 39, 14, 40, 41, 42, 43, 44, 45, 46, 47, 48, 49, 50, 51, 52, 53, 54, 55, 56, 57, 58, 59, 60, 61, 62, 63, 64, 65, 66, 67, 68, 69, 70, 71, 72, 102, 103, 104, 105, 106, 107, 108, 109, 98, 99, 100, 101] (by decide +kernel) (by decide +kernel)
set_option maxRecDepth 20000 in
theorem gX3_firstLeastSet_X3_arrange : GoodIn wsX3_firstLeastSet (wsV RX3 47 RX3 yX3_arrange wsX3_arrange) := goodIn_app (goodIn_of _ (by decide +kernel)) ggX3_firstLeastSet_X3_arrange
set_option maxRecDepth 20000 in
theorem ggX3_firstLeastSet_X2_threads : GoodIn wsX3_firstLeastSet wsX2_threads := goodIn_r _ [22, 7, 98, 99, 100, 101] (by decide +kernel) (by decide +kernel)
set_option maxRecDepth 20000 in
theorem gX3_firstLeastSet_X2_threads : GoodIn wsX3_firstLeastSet (wsV RX3 66 RX2 yX2_threads wsX2_threads) := goodIn_app (goodIn_of _ (by decide +kernel)) ggX3_firstLeastSet_X2_threads
set_option maxRecDepth 20000 in
theorem ggX3_firstLeastSet_X6_bit : GoodIn wsX3_firstLeastSet wsX6_bit := goodIn_r _ [10] (by decide +kernel) (by decide +kernel)
set_option maxRecDepth 20000 in
theorem gX3_firstLeastSet_X6_bit_n76 : GoodIn wsX3_firstLeastSet (wsX6_bit) := ggX3_firstLeastSet_X6_bit
set_option maxRecDepth 20000 in
theorem ggX3_firstLeastSet_X3_ways : GoodIn wsX3_firstLeastSet wsX3_ways := goodIn_r _ [76, 18, 44, 28, 9, 29, 77, 78, 79, 14, 80, 41, 42, 43, 81, 82, 83, 84, 85, 86, 87, 88, 89, 90, 49, 50, 91, 92, 93, 102, 103, 104, 105, 106, 107, 108, 109] (by decide +kernel) (by decide +kernel)
set_option maxRecDepth 20000 in
theorem gX3_firstLeastSet_X3_ways : GoodIn wsX3_firstLeastSet (wsV RX3 51 RX3 yX3_ways wsX3_ways) := goodIn_app (goodIn_of _ (by decide +kernel)) ggX3_firstLeastSet_X3_ways
set_option maxRecDepth 20000 in
theorem ggX3_firstLeastSet_X3_nextOfItsSize : GoodIn wsX3_firstLeastSet wsX3_nextOfItsSize := goodIn_r _ [96, 97, 63, 53, 64, 65, 8, 9, 10] (by decide +kernel) (by decide +kernel)
set_option maxRecDepth 20000 in
theorem gX3_firstLeastSet_X3_nextOfItsSize : GoodIn wsX3_firstLeastSet (va_wsS RX3 95 yX3_nextOfItsSize wsX3_nextOfItsSize) := goodIn_app (goodIn_of _ (by decide +kernel)) ggX3_firstLeastSet_X3_nextOfItsSize
theorem dX3_firstLeastSet_0 : decode cX3_firstLeastSet 0 = .ok (.aload_n 1, 1) := by decide +kernel
theorem dX3_firstLeastSet_1 : decode cX3_firstLeastSet 1 = .ok (.invokevirtual 41, 3) := by decide +kernel
theorem dX3_firstLeastSet_4 : decode cX3_firstLeastSet 4 = .ok (.istore_n 2, 1) := by decide +kernel
theorem dX3_firstLeastSet_5 : decode cX3_firstLeastSet 5 = .ok (.aload_n 0, 1) := by decide +kernel
theorem dX3_firstLeastSet_6 : decode cX3_firstLeastSet 6 = .ok (.aload_n 1, 1) := by decide +kernel
theorem dX3_firstLeastSet_7 : decode cX3_firstLeastSet 7 = .ok (.iload_n 2, 1) := by decide +kernel
theorem dX3_firstLeastSet_8 : decode cX3_firstLeastSet 8 = .ok (.invokevirtual 47, 3) := by decide +kernel
theorem dX3_firstLeastSet_11 : decode cX3_firstLeastSet 11 = .ok (.iconst 0, 1) := by decide +kernel
theorem dX3_firstLeastSet_12 : decode cX3_firstLeastSet 12 = .ok (.istore_n 3, 1) := by decide +kernel
theorem dX3_firstLeastSet_13 : decode cX3_firstLeastSet 13 = .ok (.iload_n 3, 1) := by decide +kernel
theorem dX3_firstLeastSet_14 : decode cX3_firstLeastSet 14 = .ok (.aload_n 1, 1) := by decide +kernel
theorem dX3_firstLeastSet_15 : decode cX3_firstLeastSet 15 = .ok (.invokevirtual 66, 3) := by decide +kernel
theorem dX3_firstLeastSet_18 : decode cX3_firstLeastSet 18 = .ok (.if_icmp .ge 68, 3) := by decide +kernel
theorem dX3_firstLeastSet_21 : decode cX3_firstLeastSet 21 = .ok (.iload_n 3, 1) := by decide +kernel
theorem dX3_firstLeastSet_22 : decode cX3_firstLeastSet 22 = .ok (.invokestatic 76, 3) := by decide +kernel
theorem dX3_firstLeastSet_25 : decode cX3_firstLeastSet 25 = .ok (.iconst 1, 1) := by decide +kernel
theorem dX3_firstLeastSet_26 : decode cX3_firstLeastSet 26 = .ok (.isub, 1) := by decide +kernel
theorem dX3_firstLeastSet_27 : decode cX3_firstLeastSet 27 = .ok (.istore 4, 2) := by decide +kernel
theorem dX3_firstLeastSet_29 : decode cX3_firstLeastSet 29 = .ok (.iconst 0, 1) := by decide +kernel
theorem dX3_firstLeastSet_30 : decode cX3_firstLeastSet 30 = .ok (.istore 5, 2) := by decide +kernel
theorem dX3_firstLeastSet_32 : decode cX3_firstLeastSet 32 = .ok (.iload 5, 2) := by decide +kernel
theorem dX3_firstLeastSet_34 : decode cX3_firstLeastSet 34 = .ok (.ldc 94, 2) := by decide +kernel
theorem dX3_firstLeastSet_36 : decode cX3_firstLeastSet 36 = .ok (.if_icmp .ge 44, 3) := by decide +kernel
theorem dX3_firstLeastSet_39 : decode cX3_firstLeastSet 39 = .ok (.iload 4, 2) := by decide +kernel
theorem dX3_firstLeastSet_41 : decode cX3_firstLeastSet 41 = .ok (.iload_n 2, 1) := by decide +kernel
theorem dX3_firstLeastSet_42 : decode cX3_firstLeastSet 42 = .ok (.if_icmp .gt 38, 3) := by decide +kernel
theorem dX3_firstLeastSet_45 : decode cX3_firstLeastSet 45 = .ok (.aload_n 0, 1) := by decide +kernel
theorem dX3_firstLeastSet_46 : decode cX3_firstLeastSet 46 = .ok (.lconst 0, 1) := by decide +kernel
theorem dX3_firstLeastSet_47 : decode cX3_firstLeastSet 47 = .ok (.iload 4, 2) := by decide +kernel
theorem dX3_firstLeastSet_49 : decode cX3_firstLeastSet 49 = .ok (.iconst 1, 1) := by decide +kernel
theorem dX3_firstLeastSet_50 : decode cX3_firstLeastSet 50 = .ok (.invokevirtual 51, 3) := by decide +kernel
theorem dX3_firstLeastSet_53 : decode cX3_firstLeastSet 53 = .ok (.ifCond .le 6, 3) := by decide +kernel
theorem dX3_firstLeastSet_56 : decode cX3_firstLeastSet 56 = .ok (.iload 4, 2) := by decide +kernel
theorem dX3_firstLeastSet_58 : decode cX3_firstLeastSet 58 = .ok (.ireturn, 1) := by decide +kernel
theorem dX3_firstLeastSet_59 : decode cX3_firstLeastSet 59 = .ok (.iload 4, 2) := by decide +kernel
theorem dX3_firstLeastSet_61 : decode cX3_firstLeastSet 61 = .ok (.ifCond .ne 6, 3) := by decide +kernel
theorem dX3_firstLeastSet_64 : decode cX3_firstLeastSet 64 = .ok (.goto 16, 3) := by decide +kernel
theorem dX3_firstLeastSet_67 : decode cX3_firstLeastSet 67 = .ok (.iload 4, 2) := by decide +kernel
theorem dX3_firstLeastSet_69 : decode cX3_firstLeastSet 69 = .ok (.invokestatic 95, 3) := by decide +kernel
theorem dX3_firstLeastSet_72 : decode cX3_firstLeastSet 72 = .ok (.istore 4, 2) := by decide +kernel
theorem dX3_firstLeastSet_74 : decode cX3_firstLeastSet 74 = .ok (.iinc 5 1, 3) := by decide +kernel
theorem dX3_firstLeastSet_77 : decode cX3_firstLeastSet 77 = .ok (.goto (-45), 3) := by decide +kernel
theorem dX3_firstLeastSet_80 : decode cX3_firstLeastSet 80 = .ok (.iinc 3 1, 3) := by decide +kernel
theorem dX3_firstLeastSet_83 : decode cX3_firstLeastSet 83 = .ok (.goto (-70), 3) := by decide +kernel
theorem dX3_firstLeastSet_86 : decode cX3_firstLeastSet 86 = .ok (.iload_n 2, 1) := by decide +kernel
theorem dX3_firstLeastSet_87 : decode cX3_firstLeastSet 87 = .ok (.ireturn, 1) := by decide +kernel
set_option maxRecDepth 20000 in
theorem ggX3_nextOfItsSize_J6_numberOfTrailingZeros_0f7a4 : GoodIn wsX3_nextOfItsSize wsJ6_numberOfTrailingZeros_0f7a4 := goodIn_r _ [4, 5] (by decide +kernel) (by decide +kernel)
set_option maxRecDepth 20000 in
theorem gX3_nextOfItsSize_J6_numberOfTrailingZeros_0f7a4 : GoodIn wsX3_nextOfItsSize (va_wsS RX3 98 yJ6_numberOfTrailingZeros_0f7a4 wsJ6_numberOfTrailingZeros_0f7a4) := goodIn_app (goodIn_of _ (by decide +kernel)) ggX3_nextOfItsSize_J6_numberOfTrailingZeros_0f7a4
set_option maxRecDepth 20000 in
theorem ggX3_nextOfItsSize_X6_bit : GoodIn wsX3_nextOfItsSize wsX6_bit := goodIn_r _ [8] (by decide +kernel) (by decide +kernel)
set_option maxRecDepth 20000 in
theorem gX3_nextOfItsSize_X6_bit_n76 : GoodIn wsX3_nextOfItsSize (wsX6_bit) := ggX3_nextOfItsSize_X6_bit
theorem dX3_nextOfItsSize_0 : decode cX3_nextOfItsSize 0 = .ok (.iload_n 0, 1) := by decide +kernel
theorem dX3_nextOfItsSize_1 : decode cX3_nextOfItsSize 1 = .ok (.invokestatic 98, 3) := by decide +kernel
theorem dX3_nextOfItsSize_4 : decode cX3_nextOfItsSize 4 = .ok (.istore_n 1, 1) := by decide +kernel
theorem dX3_nextOfItsSize_5 : decode cX3_nextOfItsSize 5 = .ok (.iload_n 0, 1) := by decide +kernel
theorem dX3_nextOfItsSize_6 : decode cX3_nextOfItsSize 6 = .ok (.iload_n 1, 1) := by decide +kernel
theorem dX3_nextOfItsSize_7 : decode cX3_nextOfItsSize 7 = .ok (.invokestatic 76, 3) := by decide +kernel
theorem dX3_nextOfItsSize_10 : decode cX3_nextOfItsSize 10 = .ok (.iadd, 1) := by decide +kernel
theorem dX3_nextOfItsSize_11 : decode cX3_nextOfItsSize 11 = .ok (.istore_n 2, 1) := by decide +kernel
theorem dX3_nextOfItsSize_12 : decode cX3_nextOfItsSize 12 = .ok (.iload_n 2, 1) := by decide +kernel
theorem dX3_nextOfItsSize_13 : decode cX3_nextOfItsSize 13 = .ok (.iload_n 0, 1) := by decide +kernel
theorem dX3_nextOfItsSize_14 : decode cX3_nextOfItsSize 14 = .ok (.iload_n 2, 1) := by decide +kernel
theorem dX3_nextOfItsSize_15 : decode cX3_nextOfItsSize 15 = .ok (.ixor, 1) := by decide +kernel
theorem dX3_nextOfItsSize_16 : decode cX3_nextOfItsSize 16 = .ok (.iload_n 1, 1) := by decide +kernel
theorem dX3_nextOfItsSize_17 : decode cX3_nextOfItsSize 17 = .ok (.iconst 2, 1) := by decide +kernel
theorem dX3_nextOfItsSize_18 : decode cX3_nextOfItsSize 18 = .ok (.iadd, 1) := by decide +kernel
theorem dX3_nextOfItsSize_19 : decode cX3_nextOfItsSize 19 = .ok (.iushr, 1) := by decide +kernel
theorem dX3_nextOfItsSize_20 : decode cX3_nextOfItsSize 20 = .ok (.ior, 1) := by decide +kernel
theorem dX3_nextOfItsSize_21 : decode cX3_nextOfItsSize 21 = .ok (.ireturn, 1) := by decide +kernel
set_option maxRecDepth 20000 in
theorem ggX3_usedBy_J6_numberOfTrailingZeros_0f7a4 : GoodIn wsX3_usedBy wsJ6_numberOfTrailingZeros_0f7a4 := goodIn_r _ [4, 5] (by decide +kernel) (by decide +kernel)
set_option maxRecDepth 20000 in
theorem gX3_usedBy_J6_numberOfTrailingZeros_0f7a4 : GoodIn wsX3_usedBy (va_wsS RX3 98 yJ6_numberOfTrailingZeros_0f7a4 wsJ6_numberOfTrailingZeros_0f7a4) := goodIn_app (goodIn_of _ (by decide +kernel)) ggX3_usedBy_J6_numberOfTrailingZeros_0f7a4
set_option maxRecDepth 20000 in
theorem ggX3_usedBy_J6_numberOfLeadingZeros_0f7a4 : GoodIn wsX3_usedBy wsJ6_numberOfLeadingZeros_0f7a4 := goodIn_r _ [8, 5] (by decide +kernel) (by decide +kernel)
set_option maxRecDepth 20000 in
theorem gX3_usedBy_J6_numberOfLeadingZeros_0f7a4 : GoodIn wsX3_usedBy (va_wsS RX3 103 yJ6_numberOfLeadingZeros_0f7a4 wsJ6_numberOfLeadingZeros_0f7a4) := goodIn_app (goodIn_of _ (by decide +kernel)) ggX3_usedBy_J6_numberOfLeadingZeros_0f7a4
set_option maxRecDepth 20000 in
theorem ggX3_usedBy_X3_usedWith : GoodIn wsX3_usedBy wsX3_usedWith := goodIn_r _ [12] (by decide +kernel) (by decide +kernel)
set_option maxRecDepth 20000 in
theorem gX3_usedBy_X3_usedWith : GoodIn wsX3_usedBy (va_wsS RX3 106 yX3_usedWith wsX3_usedWith) := goodIn_app (goodIn_of _ (by decide +kernel)) ggX3_usedBy_X3_usedWith
theorem dX3_usedBy_0 : decode cX3_usedBy 0 = .ok (.iload_n 0, 1) := by decide +kernel
theorem dX3_usedBy_1 : decode cX3_usedBy 1 = .ok (.invokestatic 98, 3) := by decide +kernel
theorem dX3_usedBy_4 : decode cX3_usedBy 4 = .ok (.istore_n 2, 1) := by decide +kernel
theorem dX3_usedBy_5 : decode cX3_usedBy 5 = .ok (.bipush 31, 2) := by decide +kernel
theorem dX3_usedBy_7 : decode cX3_usedBy 7 = .ok (.iload_n 0, 1) := by decide +kernel
theorem dX3_usedBy_8 : decode cX3_usedBy 8 = .ok (.invokestatic 103, 3) := by decide +kernel
theorem dX3_usedBy_11 : decode cX3_usedBy 11 = .ok (.isub, 1) := by decide +kernel
theorem dX3_usedBy_12 : decode cX3_usedBy 12 = .ok (.istore_n 3, 1) := by decide +kernel
theorem dX3_usedBy_13 : decode cX3_usedBy 13 = .ok (.iconst 3, 1) := by decide +kernel
theorem dX3_usedBy_14 : decode cX3_usedBy 14 = .ok (.iload_n 2, 1) := by decide +kernel
theorem dX3_usedBy_15 : decode cX3_usedBy 15 = .ok (.imul, 1) := by decide +kernel
theorem dX3_usedBy_16 : decode cX3_usedBy 16 = .ok (.iconst 3, 1) := by decide +kernel
theorem dX3_usedBy_17 : decode cX3_usedBy 17 = .ok (.iload_n 3, 1) := by decide +kernel
theorem dX3_usedBy_18 : decode cX3_usedBy 18 = .ok (.imul, 1) := by decide +kernel
theorem dX3_usedBy_19 : decode cX3_usedBy 19 = .ok (.iload_n 1, 1) := by decide +kernel
theorem dX3_usedBy_20 : decode cX3_usedBy 20 = .ok (.invokestatic 106, 3) := by decide +kernel
theorem dX3_usedBy_23 : decode cX3_usedBy 23 = .ok (.lreturn, 1) := by decide +kernel
set_option maxRecDepth 20000 in
theorem ggX3_usedColours_X2_threads : GoodIn wsX3_usedColours wsX2_threads := goodIn_r _ [6, 7, 36, 37, 38, 39] (by decide +kernel) (by decide +kernel)
set_option maxRecDepth 20000 in
theorem gX3_usedColours_X2_threads : GoodIn wsX3_usedColours (wsV RX3 66 RX2 yX2_threads wsX2_threads) := goodIn_app (goodIn_of _ (by decide +kernel)) ggX3_usedColours_X2_threads
set_option maxRecDepth 20000 in
theorem ggX3_usedColours_X2_colour : GoodIn wsX3_usedColours wsX2_colour := goodIn_r _ [11, 12, 13, 14, 15, 36, 37, 38, 39] (by decide +kernel) (by decide +kernel)
set_option maxRecDepth 20000 in
theorem gX3_usedColours_X2_colour : GoodIn wsX3_usedColours (wsV RX3 69 RX2 yX2_colour wsX2_colour) := goodIn_app (goodIn_of _ (by decide +kernel)) ggX3_usedColours_X2_colour
set_option maxRecDepth 20000 in
theorem ggX3_usedColours_X2_ends : GoodIn wsX3_usedColours wsX2_ends := goodIn_r _ [19, 20, 13, 14, 15, 36, 37, 38, 39] (by decide +kernel) (by decide +kernel)
set_option maxRecDepth 20000 in
theorem gX3_usedColours_X2_ends : GoodIn wsX3_usedColours (wsV RX3 79 RX2 yX2_ends wsX2_ends) := goodIn_app (goodIn_of _ (by decide +kernel)) ggX3_usedColours_X2_ends
set_option maxRecDepth 20000 in
theorem ggX3_usedColours_X3_usedBy : GoodIn wsX3_usedColours wsX3_usedBy := goodIn_r _ [24, 25, 26, 27, 28, 29, 30, 31, 32, 33, 34, 23, 35] (by decide +kernel) (by decide +kernel)
set_option maxRecDepth 20000 in
theorem gX3_usedColours_X3_usedBy : GoodIn wsX3_usedColours (va_wsS RX3 86 yX3_usedBy wsX3_usedBy) := goodIn_app (goodIn_of _ (by decide +kernel)) ggX3_usedColours_X3_usedBy
theorem dX3_usedColours_0 : decode cX3_usedColours 0 = .ok (.lconst 0, 1) := by decide +kernel
theorem dX3_usedColours_1 : decode cX3_usedColours 1 = .ok (.lstore_n 1, 1) := by decide +kernel
theorem dX3_usedColours_2 : decode cX3_usedColours 2 = .ok (.iconst 0, 1) := by decide +kernel
theorem dX3_usedColours_3 : decode cX3_usedColours 3 = .ok (.istore_n 3, 1) := by decide +kernel
theorem dX3_usedColours_4 : decode cX3_usedColours 4 = .ok (.iload_n 3, 1) := by decide +kernel
theorem dX3_usedColours_5 : decode cX3_usedColours 5 = .ok (.aload_n 0, 1) := by decide +kernel
theorem dX3_usedColours_6 : decode cX3_usedColours 6 = .ok (.invokevirtual 66, 3) := by decide +kernel
theorem dX3_usedColours_9 : decode cX3_usedColours 9 = .ok (.if_icmp .ge 51, 3) := by decide +kernel
theorem dX3_usedColours_12 : decode cX3_usedColours 12 = .ok (.aload_n 0, 1) := by decide +kernel
theorem dX3_usedColours_13 : decode cX3_usedColours 13 = .ok (.iload_n 3, 1) := by decide +kernel
theorem dX3_usedColours_14 : decode cX3_usedColours 14 = .ok (.invokevirtual 69, 3) := by decide +kernel
theorem dX3_usedColours_17 : decode cX3_usedColours 17 = .ok (.iconst 3, 1) := by decide +kernel
theorem dX3_usedColours_18 : decode cX3_usedColours 18 = .ok (.if_icmp .eq 36, 3) := by decide +kernel
theorem dX3_usedColours_21 : decode cX3_usedColours 21 = .ok (.aload_n 0, 1) := by decide +kernel
theorem dX3_usedColours_22 : decode cX3_usedColours 22 = .ok (.iload_n 3, 1) := by decide +kernel
theorem dX3_usedColours_23 : decode cX3_usedColours 23 = .ok (.invokevirtual 79, 3) := by decide +kernel
theorem dX3_usedColours_26 : decode cX3_usedColours 26 = .ok (.aload_n 0, 1) := by decide +kernel
theorem dX3_usedColours_27 : decode cX3_usedColours 27 = .ok (.iload_n 3, 1) := by decide +kernel
theorem dX3_usedColours_28 : decode cX3_usedColours 28 = .ok (.invokevirtual 69, 3) := by decide +kernel
theorem dX3_usedColours_31 : decode cX3_usedColours 31 = .ok (.invokestatic 86, 3) := by decide +kernel
theorem dX3_usedColours_34 : decode cX3_usedColours 34 = .ok (.lstore 4, 2) := by decide +kernel
theorem dX3_usedColours_36 : decode cX3_usedColours 36 = .ok (.lload_n 1, 1) := by decide +kernel
theorem dX3_usedColours_37 : decode cX3_usedColours 37 = .ok (.lload 4, 2) := by decide +kernel
theorem dX3_usedColours_39 : decode cX3_usedColours 39 = .ok (.land, 1) := by decide +kernel
theorem dX3_usedColours_40 : decode cX3_usedColours 40 = .ok (.lconst 0, 1) := by decide +kernel
theorem dX3_usedColours_41 : decode cX3_usedColours 41 = .ok (.lcmp, 1) := by decide +kernel
theorem dX3_usedColours_42 : decode cX3_usedColours 42 = .ok (.ifCond .eq 7, 3) := by decide +kernel
theorem dX3_usedColours_45 : decode cX3_usedColours 45 = .ok (.ldc2_w 59, 3) := by decide +kernel
theorem dX3_usedColours_48 : decode cX3_usedColours 48 = .ok (.lreturn, 1) := by decide +kernel
theorem dX3_usedColours_49 : decode cX3_usedColours 49 = .ok (.lload_n 1, 1) := by decide +kernel
theorem dX3_usedColours_50 : decode cX3_usedColours 50 = .ok (.lload 4, 2) := by decide +kernel
theorem dX3_usedColours_52 : decode cX3_usedColours 52 = .ok (.lor, 1) := by decide +kernel
theorem dX3_usedColours_53 : decode cX3_usedColours 53 = .ok (.lstore_n 1, 1) := by decide +kernel
theorem dX3_usedColours_54 : decode cX3_usedColours 54 = .ok (.iinc 3 1, 3) := by decide +kernel
theorem dX3_usedColours_57 : decode cX3_usedColours 57 = .ok (.goto (-53), 3) := by decide +kernel
theorem dX3_usedColours_60 : decode cX3_usedColours 60 = .ok (.lload_n 1, 1) := by decide +kernel
theorem dX3_usedColours_61 : decode cX3_usedColours 61 = .ok (.lreturn, 1) := by decide +kernel
set_option maxRecDepth 20000 in
theorem ggX3_arrange_X2_threads : GoodIn wsX3_arrange wsX2_threads := goodIn_r _ [8, 9, 72, 73, 74, 75] (by decide +kernel) (by decide +kernel)
set_option maxRecDepth 20000 in
theorem gX3_arrange_X2_threads : GoodIn wsX3_arrange (wsV RX3 66 RX2 yX2_threads wsX2_threads) := goodIn_app (goodIn_of _ (by decide +kernel)) ggX3_arrange_X2_threads
set_option maxRecDepth 20000 in
theorem ggX3_arrange_X2_ends : GoodIn wsX3_arrange wsX2_ends := goodIn_r _ [13, 14, 15, 16, 17, 72, 73, 74, 75] (by decide +kernel) (by decide +kernel)
set_option maxRecDepth 20000 in
theorem gX3_arrange_X2_ends : GoodIn wsX3_arrange (wsV RX3 79 RX2 yX2_ends wsX2_ends) := goodIn_app (goodIn_of _ (by decide +kernel)) ggX3_arrange_X2_ends
set_option maxRecDepth 20000 in
theorem ggX3_arrange_X2_threadsAt : GoodIn wsX3_arrange wsX2_threadsAt := goodIn_r _ [21, 9, 22, 11, 12, 7, 13, 14, 15, 16, 17, 23, 24, 72, 73, 74, 75] (by decide +kernel) (by decide +kernel)
set_option maxRecDepth 20000 in
theorem gX3_arrange_X2_threadsAt : GoodIn wsX3_arrange (wsV RX3 110 RX2 yX2_threadsAt wsX2_threadsAt) := goodIn_app (goodIn_of _ (by decide +kernel)) ggX3_arrange_X2_threadsAt
set_option maxRecDepth 20000 in
theorem ggX3_arrange_X6_put : GoodIn wsX3_arrange wsX6_put := goodIn_r _ [26] (by decide +kernel) (by decide +kernel)
set_option maxRecDepth 20000 in
theorem gX3_arrange_X6_put_n90 : GoodIn wsX3_arrange (wsX6_put) := ggX3_arrange_X6_put
set_option maxRecDepth 20000 in
theorem ggX3_arrange_X3_arrangeGroup : GoodIn wsX3_arrange wsX3_arrangeGroup := goodIn_r _ [31, 32, 2, 33, 34, 35, 3, 4, 5, 6, 7, 8, 9, 36, 37, 38, 30, 39, 1, 15, 16, 17, 40, 41, 42, 43, 44, 45, 46, 47, 48, 23, 24, 25, 26, 49, 50, 51, 52, 22, 11, 12, 13, 14, 53, 54, 55, 56, 57, 58, 59, 60, 61, 62, 63, 64, 65, 66, 67, 68, 69, 70, 71, 72, 73, 74, 75] (by decide +kernel) (by decide +kernel)
set_option maxRecDepth 20000 in
theorem gX3_arrange_X3_arrangeGroup : GoodIn wsX3_arrange (wsV RX3 113 RX3 yX3_arrangeGroup wsX3_arrangeGroup) := goodIn_app (goodIn_of _ (by decide +kernel)) ggX3_arrange_X3_arrangeGroup
theorem dX3_arrange_0 : decode cX3_arrange 0 = .ok (.iconst 0, 1) := by decide +kernel
theorem dX3_arrange_1 : decode cX3_arrange 1 = .ok (.istore_n 3, 1) := by decide +kernel
theorem dX3_arrange_2 : decode cX3_arrange 2 = .ok (.iload_n 3, 1) := by decide +kernel
theorem dX3_arrange_3 : decode cX3_arrange 3 = .ok (.aload_n 1, 1) := by decide +kernel
theorem dX3_arrange_4 : decode cX3_arrange 4 = .ok (.invokevirtual 66, 3) := by decide +kernel
theorem dX3_arrange_7 : decode cX3_arrange 7 = .ok (.if_icmp .ge 26, 3) := by decide +kernel
theorem dX3_arrange_10 : decode cX3_arrange 10 = .ok (.aload_n 0, 1) := by decide +kernel
theorem dX3_arrange_11 : decode cX3_arrange 11 = .ok (.getfield 24, 3) := by decide +kernel
theorem dX3_arrange_14 : decode cX3_arrange 14 = .ok (.iload_n 3, 1) := by decide +kernel
theorem dX3_arrange_15 : decode cX3_arrange 15 = .ok (.aload_n 1, 1) := by decide +kernel
theorem dX3_arrange_16 : decode cX3_arrange 16 = .ok (.aload_n 1, 1) := by decide +kernel
theorem dX3_arrange_17 : decode cX3_arrange 17 = .ok (.iload_n 3, 1) := by decide +kernel
theorem dX3_arrange_18 : decode cX3_arrange 18 = .ok (.invokevirtual 79, 3) := by decide +kernel
theorem dX3_arrange_21 : decode cX3_arrange 21 = .ok (.invokevirtual 110, 3) := by decide +kernel
theorem dX3_arrange_24 : decode cX3_arrange 24 = .ok (.invokestatic 90, 3) := by decide +kernel
theorem dX3_arrange_27 : decode cX3_arrange 27 = .ok (.iinc 3 1, 3) := by decide +kernel
theorem dX3_arrange_30 : decode cX3_arrange 30 = .ok (.goto (-28), 3) := by decide +kernel
theorem dX3_arrange_33 : decode cX3_arrange 33 = .ok (.aload_n 0, 1) := by decide +kernel
theorem dX3_arrange_34 : decode cX3_arrange 34 = .ok (.iconst 0, 1) := by decide +kernel
theorem dX3_arrange_35 : decode cX3_arrange 35 = .ok (.putfield 30, 3) := by decide +kernel
theorem dX3_arrange_38 : decode cX3_arrange 38 = .ok (.aload_n 0, 1) := by decide +kernel
theorem dX3_arrange_39 : decode cX3_arrange 39 = .ok (.iconst 0, 1) := by decide +kernel
theorem dX3_arrange_40 : decode cX3_arrange 40 = .ok (.putfield 34, 3) := by decide +kernel
theorem dX3_arrange_43 : decode cX3_arrange 43 = .ok (.iload_n 2, 1) := by decide +kernel
theorem dX3_arrange_44 : decode cX3_arrange 44 = .ok (.istore_n 3, 1) := by decide +kernel
theorem dX3_arrange_45 : decode cX3_arrange 45 = .ok (.iconst 0, 1) := by decide +kernel
theorem dX3_arrange_46 : decode cX3_arrange 46 = .ok (.istore 4, 2) := by decide +kernel
theorem dX3_arrange_48 : decode cX3_arrange 48 = .ok (.iload 4, 2) := by decide +kernel
theorem dX3_arrange_50 : decode cX3_arrange 50 = .ok (.bipush 21, 2) := by decide +kernel
theorem dX3_arrange_52 : decode cX3_arrange 52 = .ok (.if_icmp .ge 20, 3) := by decide +kernel
theorem dX3_arrange_55 : decode cX3_arrange 55 = .ok (.iload_n 3, 1) := by decide +kernel
theorem dX3_arrange_56 : decode cX3_arrange 56 = .ok (.ifCond .eq 16, 3) := by decide +kernel
theorem dX3_arrange_59 : decode cX3_arrange 59 = .ok (.aload_n 0, 1) := by decide +kernel
theorem dX3_arrange_60 : decode cX3_arrange 60 = .ok (.aload_n 1, 1) := by decide +kernel
theorem dX3_arrange_61 : decode cX3_arrange 61 = .ok (.iload_n 3, 1) := by decide +kernel
theorem dX3_arrange_62 : decode cX3_arrange 62 = .ok (.invokevirtual 113, 3) := by decide +kernel
theorem dX3_arrange_65 : decode cX3_arrange 65 = .ok (.istore_n 3, 1) := by decide +kernel
theorem dX3_arrange_66 : decode cX3_arrange 66 = .ok (.iinc 4 1, 3) := by decide +kernel
theorem dX3_arrange_69 : decode cX3_arrange 69 = .ok (.goto (-21), 3) := by decide +kernel
theorem dX3_arrange_72 : decode cX3_arrange 72 = .ok (.return_, 1) := by decide +kernel
set_option maxRecDepth 20000 in
theorem ggX3_arrangeGroup_X2_threads : GoodIn wsX3_arrangeGroup wsX2_threads := goodIn_r _ [11, 12, 63, 64, 65, 66] (by decide +kernel) (by decide +kernel)
set_option maxRecDepth 20000 in
theorem gX3_arrangeGroup_X2_threads : GoodIn wsX3_arrangeGroup (wsV RX3 66 RX2 yX2_threads wsX2_threads) := goodIn_app (goodIn_of _ (by decide +kernel)) ggX3_arrangeGroup_X2_threads
set_option maxRecDepth 20000 in
theorem ggX3_arrangeGroup_X3_tightest : GoodIn wsX3_arrangeGroup wsX3_tightest := goodIn_r _ [17, 18, 19, 20, 21, 22, 23, 24, 25, 26, 27, 28, 29, 30, 55, 56, 57, 58, 59, 60, 61, 62] (by decide +kernel) (by decide +kernel)
