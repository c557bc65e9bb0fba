theorem dX7_fewestOdd_27 : decode cX7_fewestOdd 27 = .ok (.aload_n 0, 1) := by decide +kernel
theorem dX7_fewestOdd_28 : decode cX7_fewestOdd 28 = .ok (.aload_n 0, 1) := by decide +kernel
theorem dX7_fewestOdd_29 : decode cX7_fewestOdd 29 = .ok (.getfield 32, 3) := by decide +kernel
theorem dX7_fewestOdd_32 : decode cX7_fewestOdd 32 = .ok (.iload_n 2, 1) := by decide +kernel
theorem dX7_fewestOdd_33 : decode cX7_fewestOdd 33 = .ok (.iaload, 1) := by decide +kernel
theorem dX7_fewestOdd_34 : decode cX7_fewestOdd 34 = .ok (.invokevirtual 269, 3) := by decide +kernel
theorem dX7_fewestOdd_37 : decode cX7_fewestOdd 37 = .ok (.iload_n 1, 1) := by decide +kernel
theorem dX7_fewestOdd_38 : decode cX7_fewestOdd 38 = .ok (.ifCond .lt 11, 3) := by decide +kernel
theorem dX7_fewestOdd_41 : decode cX7_fewestOdd 41 = .ok (.aload_n 0, 1) := by decide +kernel
theorem dX7_fewestOdd_42 : decode cX7_fewestOdd 42 = .ok (.getfield 257, 3) := by decide +kernel
theorem dX7_fewestOdd_45 : decode cX7_fewestOdd 45 = .ok (.iload_n 1, 1) := by decide +kernel
theorem dX7_fewestOdd_46 : decode cX7_fewestOdd 46 = .ok (.if_icmp .ge 10, 3) := by decide +kernel
theorem dX7_fewestOdd_49 : decode cX7_fewestOdd 49 = .ok (.aload_n 0, 1) := by decide +kernel
theorem dX7_fewestOdd_50 : decode cX7_fewestOdd 50 = .ok (.getfield 257, 3) := by decide +kernel
theorem dX7_fewestOdd_53 : decode cX7_fewestOdd 53 = .ok (.goto 4, 3) := by decide +kernel
theorem dX7_fewestOdd_56 : decode cX7_fewestOdd 56 = .ok (.iload_n 1, 1) := by decide +kernel
theorem dX7_fewestOdd_57 : decode cX7_fewestOdd 57 = .ok (.istore_n 1, 1) := by decide +kernel
theorem dX7_fewestOdd_58 : decode cX7_fewestOdd 58 = .ok (.iinc 2 1, 3) := by decide +kernel
theorem dX7_fewestOdd_61 : decode cX7_fewestOdd 61 = .ok (.goto (-42), 3) := by decide +kernel
theorem dX7_fewestOdd_64 : decode cX7_fewestOdd 64 = .ok (.iload_n 1, 1) := by decide +kernel
theorem dX7_fewestOdd_65 : decode cX7_fewestOdd 65 = .ok (.ireturn, 1) := by decide +kernel
set_option maxRecDepth 20000 in
theorem ggX7_knot_X7_isKnot : GoodIn wsX7_knot wsX7_isKnot := goodIn_r _ [5, 6, 7, 8, 4, 9, 53, 54, 55, 56, 57, 58, 59, 60, 61, 62, 63, 64, 65, 66, 67, 68, 69, 70, 71, 72] (by decide +kernel) (by decide +kernel)
set_option maxRecDepth 20000 in
theorem gX7_knot_X7_isKnot : GoodIn wsX7_knot (wsV RX7 119 RX7 yX7_isKnot wsX7_isKnot) := goodIn_app (goodIn_of _ (by decide +kernel)) ggX7_knot_X7_isKnot
set_option maxRecDepth 20000 in
theorem ggX7_knot_X7_threadsOf : GoodIn wsX7_knot wsX7_threadsOf := goodIn_r _ [13, 6, 14, 15, 16, 4, 17, 18, 19, 20, 21, 53, 54, 55, 56, 57, 58, 59, 60, 61, 62, 63, 64, 65, 66, 67, 68, 69, 70, 71, 72] (by decide +kernel) (by decide +kernel)
set_option maxRecDepth 20000 in
theorem gX7_knot_X7_threadsOf : GoodIn wsX7_knot (wsV RX7 63 RX7 yX7_threadsOf wsX7_threadsOf) := goodIn_app (goodIn_of _ (by decide +kernel)) ggX7_knot_X7_threadsOf
set_option maxRecDepth 20000 in
theorem ggX7_knot_X7_neighbours : GoodIn wsX7_knot wsX7_neighbours := goodIn_r _ [25, 6, 14, 15, 16, 4, 17, 18, 19, 20, 21, 26, 27, 28, 29, 53, 54, 55, 56, 57, 58, 59, 60, 61, 62, 63, 64, 65, 66, 67, 68, 69, 70, 71, 72] (by decide +kernel) (by decide +kernel)
set_option maxRecDepth 20000 in
theorem gX7_knot_X7_neighbours : GoodIn wsX7_knot (wsV RX7 142 RX7 yX7_neighbours wsX7_neighbours) := goodIn_app (goodIn_of _ (by decide +kernel)) ggX7_knot_X7_neighbours
set_option maxRecDepth 20000 in
theorem ggX7_knot_X7_isWrong : GoodIn wsX7_knot wsX7_isWrong := goodIn_r _ [33, 6, 14, 15, 16, 4, 17, 18, 19, 20, 21, 34, 35, 36, 53, 54, 55, 56, 57, 58, 59, 60, 61, 62, 63, 64, 65, 66, 67, 68, 69, 70, 71, 72] (by decide +kernel) (by decide +kernel)
set_option maxRecDepth 20000 in
theorem gX7_knot_X7_isWrong : GoodIn wsX7_knot (wsV RX7 235 RX7 yX7_isWrong wsX7_isWrong) := goodIn_app (goodIn_of _ (by decide +kernel)) ggX7_knot_X7_isWrong
set_option maxRecDepth 20000 in
theorem ggX7_knot_X7_partOf : GoodIn wsX7_knot wsX7_partOf := goodIn_r _ [40, 41, 42, 43, 4, 44, 6, 18, 19, 20, 21, 34, 35, 36, 53, 54, 55, 56, 57, 58, 59, 60, 61, 62, 63, 64, 65, 66, 67, 68, 69, 70, 71, 72] (by decide +kernel) (by decide +kernel)
set_option maxRecDepth 20000 in
theorem gX7_knot_X7_partOf : GoodIn wsX7_knot (wsV RX7 232 RX7 yX7_partOf wsX7_partOf) := goodIn_app (goodIn_of _ (by decide +kernel)) ggX7_knot_X7_partOf
set_option maxRecDepth 20000 in
theorem ggX7_knot_X7_shortest : GoodIn wsX7_knot wsX7_shortest := goodIn_r _ [48, 6, 34, 35, 4, 36, 49, 50, 51, 52, 18, 19, 20, 21, 41, 42, 43, 44, 53, 54, 55, 56, 57, 58, 59, 60, 61, 62, 63, 64, 65, 66, 67, 68, 69, 70, 71, 72] (by decide +kernel) (by decide +kernel)
set_option maxRecDepth 20000 in
theorem gX7_knot_X7_shortest : GoodIn wsX7_knot (wsV RX7 272 RX7 yX7_shortest wsX7_shortest) := goodIn_app (goodIn_of _ (by decide +kernel)) ggX7_knot_X7_shortest
theorem dX7_knot_0 : decode cX7_knot 0 = .ok (.aload_n 0, 1) := by decide +kernel
theorem dX7_knot_1 : decode cX7_knot 1 = .ok (.iload_n 1, 1) := by decide +kernel
theorem dX7_knot_2 : decode cX7_knot 2 = .ok (.invokevirtual 119, 3) := by decide +kernel
theorem dX7_knot_5 : decode cX7_knot 5 = .ok (.ifCond .ne 5, 3) := by decide +kernel
theorem dX7_knot_8 : decode cX7_knot 8 = .ok (.iconst (-1), 1) := by decide +kernel
theorem dX7_knot_9 : decode cX7_knot 9 = .ok (.ireturn, 1) := by decide +kernel
theorem dX7_knot_10 : decode cX7_knot 10 = .ok (.iload_n 2, 1) := by decide +kernel
theorem dX7_knot_11 : decode cX7_knot 11 = .ok (.tableswitch 75 0 4 #[33, 39, 45, 59, 65], 33) := by decide +kernel
theorem dX7_knot_44 : decode cX7_knot 44 = .ok (.aload_n 0, 1) := by decide +kernel
theorem dX7_knot_45 : decode cX7_knot 45 = .ok (.iload_n 1, 1) := by decide +kernel
theorem dX7_knot_46 : decode cX7_knot 46 = .ok (.invokevirtual 63, 3) := by decide +kernel
theorem dX7_knot_49 : decode cX7_knot 49 = .ok (.ireturn, 1) := by decide +kernel
theorem dX7_knot_50 : decode cX7_knot 50 = .ok (.aload_n 0, 1) := by decide +kernel
theorem dX7_knot_51 : decode cX7_knot 51 = .ok (.iload_n 1, 1) := by decide +kernel
theorem dX7_knot_52 : decode cX7_knot 52 = .ok (.invokevirtual 142, 3) := by decide +kernel
theorem dX7_knot_55 : decode cX7_knot 55 = .ok (.ireturn, 1) := by decide +kernel
theorem dX7_knot_56 : decode cX7_knot 56 = .ok (.aload_n 0, 1) := by decide +kernel
theorem dX7_knot_57 : decode cX7_knot 57 = .ok (.iload_n 1, 1) := by decide +kernel
theorem dX7_knot_58 : decode cX7_knot 58 = .ok (.invokevirtual 235, 3) := by decide +kernel
theorem dX7_knot_61 : decode cX7_knot 61 = .ok (.ifCond .eq 7, 3) := by decide +kernel
theorem dX7_knot_64 : decode cX7_knot 64 = .ok (.iconst 1, 1) := by decide +kernel
theorem dX7_knot_65 : decode cX7_knot 65 = .ok (.goto 4, 3) := by decide +kernel
theorem dX7_knot_68 : decode cX7_knot 68 = .ok (.iconst 0, 1) := by decide +kernel
theorem dX7_knot_69 : decode cX7_knot 69 = .ok (.ireturn, 1) := by decide +kernel
theorem dX7_knot_70 : decode cX7_knot 70 = .ok (.aload_n 0, 1) := by decide +kernel
theorem dX7_knot_71 : decode cX7_knot 71 = .ok (.iload_n 1, 1) := by decide +kernel
theorem dX7_knot_72 : decode cX7_knot 72 = .ok (.invokevirtual 232, 3) := by decide +kernel
theorem dX7_knot_75 : decode cX7_knot 75 = .ok (.ireturn, 1) := by decide +kernel
theorem dX7_knot_76 : decode cX7_knot 76 = .ok (.aload_n 0, 1) := by decide +kernel
theorem dX7_knot_77 : decode cX7_knot 77 = .ok (.aload_n 0, 1) := by decide +kernel
theorem dX7_knot_78 : decode cX7_knot 78 = .ok (.iload_n 1, 1) := by decide +kernel
theorem dX7_knot_79 : decode cX7_knot 79 = .ok (.invokevirtual 63, 3) := by decide +kernel
theorem dX7_knot_82 : decode cX7_knot 82 = .ok (.invokevirtual 272, 3) := by decide +kernel
theorem dX7_knot_85 : decode cX7_knot 85 = .ok (.ireturn, 1) := by decide +kernel
theorem dX7_knot_86 : decode cX7_knot 86 = .ok (.bipush (-2), 2) := by decide +kernel
theorem dX7_knot_88 : decode cX7_knot 88 = .ok (.ireturn, 1) := by decide +kernel
set_option maxRecDepth 20000 in
theorem ggX7_thread_X7_isThread : GoodIn wsX7_thread wsX7_isThread := goodIn_r _ [5, 6, 7, 8, 4, 9, 61, 62, 63, 64, 65, 66, 67, 68, 69, 70, 71, 72, 73, 74, 75, 76, 77, 78, 79, 80] (by decide +kernel) (by decide +kernel)
set_option maxRecDepth 20000 in
theorem gX7_thread_X7_isThread : GoodIn wsX7_thread (wsV RX7 133 RX7 yX7_isThread wsX7_isThread) := goodIn_app (goodIn_of _ (by decide +kernel)) ggX7_thread_X7_isThread
set_option maxRecDepth 20000 in
theorem ggX7_thread_X7_of : GoodIn wsX7_thread wsX7_of := goodIn_r _ [13, 6, 61, 62, 63, 64, 65, 66, 67, 68, 69, 70, 71, 72, 73, 74, 75, 76, 77, 78, 79, 80] (by decide +kernel) (by decide +kernel)
set_option maxRecDepth 20000 in
theorem gX7_thread_X7_of : GoodIn wsX7_thread (wsV RX7 56 RX7 yX7_of wsX7_of) := goodIn_app (goodIn_of _ (by decide +kernel)) ggX7_thread_X7_of
set_option maxRecDepth 20000 in
theorem ggX7_thread_X7_round : GoodIn wsX7_thread wsX7_round := goodIn_r _ [17, 10, 11, 12, 4, 13, 6, 18, 19, 20, 21, 22, 23, 24, 61, 62, 63, 64, 65, 66, 67, 68, 69, 70, 71, 72, 73, 74, 75, 76, 77, 78, 79, 80] (by decide +kernel) (by decide +kernel)
set_option maxRecDepth 20000 in
theorem gX7_thread_X7_round : GoodIn wsX7_thread (wsV RX7 229 RX7 yX7_round wsX7_round) := goodIn_app (goodIn_of _ (by decide +kernel)) ggX7_thread_X7_round
set_option maxRecDepth 20000 in
theorem ggX7_thread_X7_coversWith : GoodIn wsX7_thread wsX7_coversWith := goodIn_r _ [28, 29, 30, 31, 32, 33, 4, 34, 6, 35, 36, 37, 38, 39, 40, 41, 42, 43, 44, 18, 19, 20, 45, 46, 47, 48, 49, 50, 51, 52, 10, 11, 12, 13, 53, 54, 55, 56, 57, 58, 59, 60, 61, 62, 63, 64, 65, 66, 67, 68, 69, 70, 71, 72, 73, 74, 75, 76, 77, 78, 79, 80] (by decide +kernel) (by decide +kernel)
set_option maxRecDepth 20000 in
theorem gX7_thread_X7_coversWith : GoodIn wsX7_thread (wsV RX7 275 RX7 yX7_coversWith wsX7_coversWith) := goodIn_app (goodIn_of _ (by decide +kernel)) ggX7_thread_X7_coversWith
theorem dX7_thread_0 : decode cX7_thread 0 = .ok (.aload_n 0, 1) := by decide +kernel
theorem dX7_thread_1 : decode cX7_thread 1 = .ok (.iload_n 1, 1) := by decide +kernel
theorem dX7_thread_2 : decode cX7_thread 2 = .ok (.invokevirtual 133, 3) := by decide +kernel
theorem dX7_thread_5 : decode cX7_thread 5 = .ok (.ifCond .ne 5, 3) := by decide +kernel
theorem dX7_thread_8 : decode cX7_thread 8 = .ok (.iconst (-1), 1) := by decide +kernel
theorem dX7_thread_9 : decode cX7_thread 9 = .ok (.ireturn, 1) := by decide +kernel
theorem dX7_thread_10 : decode cX7_thread 10 = .ok (.iload_n 2, 1) := by decide +kernel
theorem dX7_thread_11 : decode cX7_thread 11 = .ok (.tableswitch 101 0 5 #[37, 44, 51, 73, 89, 95], 37) := by decide +kernel
theorem dX7_thread_48 : decode cX7_thread 48 = .ok (.aload_n 0, 1) := by decide +kernel
theorem dX7_thread_49 : decode cX7_thread 49 = .ok (.iload_n 1, 1) := by decide +kernel
theorem dX7_thread_50 : decode cX7_thread 50 = .ok (.iconst 0, 1) := by decide +kernel
theorem dX7_thread_51 : decode cX7_thread 51 = .ok (.invokevirtual 56, 3) := by decide +kernel
theorem dX7_thread_54 : decode cX7_thread 54 = .ok (.ireturn, 1) := by decide +kernel
theorem dX7_thread_55 : decode cX7_thread 55 = .ok (.aload_n 0, 1) := by decide +kernel
theorem dX7_thread_56 : decode cX7_thread 56 = .ok (.iload_n 1, 1) := by decide +kernel
theorem dX7_thread_57 : decode cX7_thread 57 = .ok (.iconst 1, 1) := by decide +kernel
theorem dX7_thread_58 : decode cX7_thread 58 = .ok (.invokevirtual 56, 3) := by decide +kernel
theorem dX7_thread_61 : decode cX7_thread 61 = .ok (.ireturn, 1) := by decide +kernel
theorem dX7_thread_62 : decode cX7_thread 62 = .ok (.aload_n 0, 1) := by decide +kernel
theorem dX7_thread_63 : decode cX7_thread 63 = .ok (.iload_n 1, 1) := by decide +kernel
theorem dX7_thread_64 : decode cX7_thread 64 = .ok (.iconst 2, 1) := by decide +kernel
theorem dX7_thread_65 : decode cX7_thread 65 = .ok (.invokevirtual 56, 3) := by decide +kernel
theorem dX7_thread_68 : decode cX7_thread 68 = .ok (.iconst 3, 1) := by decide +kernel
theorem dX7_thread_69 : decode cX7_thread 69 = .ok (.if_icmp .ne 8, 3) := by decide +kernel
theorem dX7_thread_72 : decode cX7_thread 72 = .ok (.bipush (-5), 2) := by decide +kernel
theorem dX7_thread_74 : decode cX7_thread 74 = .ok (.goto 9, 3) := by decide +kernel
theorem dX7_thread_77 : decode cX7_thread 77 = .ok (.aload_n 0, 1) := by decide +kernel
theorem dX7_thread_78 : decode cX7_thread 78 = .ok (.iload_n 1, 1) := by decide +kernel
theorem dX7_thread_79 : decode cX7_thread 79 = .ok (.iconst 2, 1) := by decide +kernel
theorem dX7_thread_80 : decode cX7_thread 80 = .ok (.invokevirtual 56, 3) := by decide +kernel
theorem dX7_thread_83 : decode cX7_thread 83 = .ok (.ireturn, 1) := by decide +kernel
theorem dX7_thread_84 : decode cX7_thread 84 = .ok (.aload_n 0, 1) := by decide +kernel
theorem dX7_thread_85 : decode cX7_thread 85 = .ok (.iload_n 1, 1) := by decide +kernel
theorem dX7_thread_86 : decode cX7_thread 86 = .ok (.invokevirtual 229, 3) := by decide +kernel
theorem dX7_thread_89 : decode cX7_thread 89 = .ok (.bipush (-5), 2) := by decide +kernel
theorem dX7_thread_91 : decode cX7_thread 91 = .ok (.if_icmp .ne 7, 3) := by decide +kernel
theorem dX7_thread_94 : decode cX7_thread 94 = .ok (.iconst 1, 1) := by decide +kernel
theorem dX7_thread_95 : decode cX7_thread 95 = .ok (.goto 4, 3) := by decide +kernel
theorem dX7_thread_98 : decode cX7_thread 98 = .ok (.iconst 0, 1) := by decide +kernel
theorem dX7_thread_99 : decode cX7_thread 99 = .ok (.ireturn, 1) := by decide +kernel
theorem dX7_thread_100 : decode cX7_thread 100 = .ok (.aload_n 0, 1) := by decide +kernel
theorem dX7_thread_101 : decode cX7_thread 101 = .ok (.iload_n 1, 1) := by decide +kernel
theorem dX7_thread_102 : decode cX7_thread 102 = .ok (.invokevirtual 229, 3) := by decide +kernel
theorem dX7_thread_105 : decode cX7_thread 105 = .ok (.ireturn, 1) := by decide +kernel
theorem dX7_thread_106 : decode cX7_thread 106 = .ok (.aload_n 0, 1) := by decide +kernel
theorem dX7_thread_107 : decode cX7_thread 107 = .ok (.iload_n 1, 1) := by decide +kernel
theorem dX7_thread_108 : decode cX7_thread 108 = .ok (.invokevirtual 275, 3) := by decide +kernel
theorem dX7_thread_111 : decode cX7_thread 111 = .ok (.ireturn, 1) := by decide +kernel
theorem dX7_thread_112 : decode cX7_thread 112 = .ok (.bipush (-2), 2) := by decide +kernel
theorem dX7_thread_114 : decode cX7_thread 114 = .ok (.ireturn, 1) := by decide +kernel
set_option maxRecDepth 20000 in
theorem ggX7_between_X7_isKnot : GoodIn wsX7_between wsX7_isKnot := goodIn_r _ [5, 6, 7, 8, 4, 9, 22, 23, 24, 25, 26, 27, 28, 29, 30, 31, 32, 33, 34, 35, 36, 37, 38, 39, 40, 41] (by decide +kernel) (by decide +kernel)
set_option maxRecDepth 20000 in
theorem gX7_between_X7_isKnot : GoodIn wsX7_between (wsV RX7 119 RX7 yX7_isKnot wsX7_isKnot) := goodIn_app (goodIn_of _ (by decide +kernel)) ggX7_between_X7_isKnot
set_option maxRecDepth 20000 in
theorem ggX7_between_X7_threadBetween : GoodIn wsX7_between wsX7_threadBetween := goodIn_r _ [13, 6, 14, 15, 16, 4, 17, 18, 19, 20, 21, 22, 23, 24, 25, 26, 27, 28, 29, 30, 31, 32, 33, 34, 35, 36, 37, 38, 39, 40, 41] (by decide +kernel) (by decide +kernel)
set_option maxRecDepth 20000 in
theorem gX7_between_X7_threadBetween : GoodIn wsX7_between (wsV RX7 130 RX7 yX7_threadBetween wsX7_threadBetween) := goodIn_app (goodIn_of _ (by decide +kernel)) ggX7_between_X7_threadBetween
theorem dX7_between_0 : decode cX7_between 0 = .ok (.aload_n 0, 1) := by decide +kernel
theorem dX7_between_1 : decode cX7_between 1 = .ok (.iload_n 1, 1) := by decide +kernel
theorem dX7_between_2 : decode cX7_between 2 = .ok (.invokevirtual 119, 3) := by decide +kernel
theorem dX7_between_5 : decode cX7_between 5 = .ok (.ifCond .eq 20, 3) := by decide +kernel
theorem dX7_between_8 : decode cX7_between 8 = .ok (.aload_n 0, 1) := by decide +kernel
theorem dX7_between_9 : decode cX7_between 9 = .ok (.iload_n 2, 1) := by decide +kernel
theorem dX7_between_10 : decode cX7_between 10 = .ok (.invokevirtual 119, 3) := by decide +kernel
theorem dX7_between_13 : decode cX7_between 13 = .ok (.ifCond .eq 12, 3) := by decide +kernel
theorem dX7_between_16 : decode cX7_between 16 = .ok (.aload_n 0, 1) := by decide +kernel
theorem dX7_between_17 : decode cX7_between 17 = .ok (.iload_n 1, 1) := by decide +kernel
theorem dX7_between_18 : decode cX7_between 18 = .ok (.iload_n 2, 1) := by decide +kernel
theorem dX7_between_19 : decode cX7_between 19 = .ok (.invokevirtual 130, 3) := by decide +kernel
theorem dX7_between_22 : decode cX7_between 22 = .ok (.goto 4, 3) := by decide +kernel
theorem dX7_between_25 : decode cX7_between 25 = .ok (.iconst (-1), 1) := by decide +kernel
theorem dX7_between_26 : decode cX7_between 26 = .ok (.ireturn, 1) := by decide +kernel
set_option maxRecDepth 20000 in
theorem ggX7_covers_X7_findCovers : GoodIn wsX7_covers wsX7_findCovers := goodIn_r _ [6, 7, 1, 8, 9, 10, 11, 12, 13, 5, 14, 15, 16, 17, 18, 19, 20, 21, 22, 23, 24, 25, 26, 27, 28, 29, 30, 31, 32, 33, 34, 35, 36, 37, 38, 39, 40, 41, 42, 43, 44, 45, 46, 47, 48, 49, 50, 51, 52, 53, 54, 55, 56, 57, 58, 59, 60, 61] (by decide +kernel) (by decide +kernel)
set_option maxRecDepth 20000 in
theorem gX7_covers_X7_findCovers : GoodIn wsX7_covers (wsV RX7 251 RX7 yX7_findCovers wsX7_findCovers) := goodIn_app (goodIn_of _ (by decide +kernel)) ggX7_covers_X7_findCovers
theorem dX7_covers_0 : decode cX7_covers 0 = .ok (.aload_n 0, 1) := by decide +kernel
theorem dX7_covers_1 : decode cX7_covers 1 = .ok (.invokevirtual 251, 3) := by decide +kernel
theorem dX7_covers_4 : decode cX7_covers 4 = .ok (.aload_n 0, 1) := by decide +kernel
theorem dX7_covers_5 : decode cX7_covers 5 = .ok (.getfield 238, 3) := by decide +kernel
theorem dX7_covers_8 : decode cX7_covers 8 = .ok (.ireturn, 1) := by decide +kernel
set_option maxRecDepth 20000 in
theorem ggX7_count_X7_isFullNet : GoodIn wsX7_count wsX7_isFullNet := goodIn_r _ [8, 1, 9, 10, 11, 7, 12, 13, 14, 15, 16, 17, 18, 19, 20, 21, 22, 23, 24, 25, 26, 27, 99, 100, 101, 102, 103, 104, 105, 106, 107, 108, 109, 110, 111, 112, 113, 114, 115, 116, 117, 118] (by decide +kernel) (by decide +kernel)
set_option maxRecDepth 20000 in
theorem gX7_count_X7_isFullNet : GoodIn wsX7_count (wsV RX7 266 RX7 yX7_isFullNet wsX7_isFullNet) := goodIn_app (goodIn_of _ (by decide +kernel)) ggX7_count_X7_isFullNet
set_option maxRecDepth 20000 in
theorem ggX7_count_X7_parts : GoodIn wsX7_count wsX7_parts := goodIn_r _ [31, 1, 32, 33, 7, 34, 35, 36, 37, 38, 39, 40, 41, 42, 21, 22, 23, 24, 99, 100, 101, 102, 103, 104, 105, 106, 107, 108, 109, 110, 111, 112, 113, 114, 115, 116, 117, 118] (by decide +kernel) (by decide +kernel)
set_option maxRecDepth 20000 in
theorem gX7_count_X7_parts : GoodIn wsX7_count (wsV RX7 278 RX7 yX7_parts wsX7_parts) := goodIn_app (goodIn_of _ (by decide +kernel)) ggX7_count_X7_parts
set_option maxRecDepth 20000 in
theorem ggX7_count_X7_bridges : GoodIn wsX7_count wsX7_bridges := goodIn_r _ [46, 1, 47, 48, 49, 7, 50, 21, 22, 23, 24, 32, 33, 34, 39, 40, 41, 42, 99, 100, 101, 102, 103, 104, 105, 106, 107, 108, 109, 110, 111, 112, 113, 114, 115, 116, 117, 118] (by decide +kernel) (by decide +kernel)
set_option maxRecDepth 20000 in
theorem gX7_count_X7_bridges : GoodIn wsX7_count (wsV RX7 281 RX7 yX7_bridges wsX7_bridges) := goodIn_app (goodIn_of _ (by decide +kernel)) ggX7_count_X7_bridges
set_option maxRecDepth 20000 in
theorem ggX7_count_X7_shortest : GoodIn wsX7_count wsX7_shortest := goodIn_r _ [54, 1, 32, 33, 7, 34, 47, 48, 49, 50, 21, 22, 23, 24, 39, 40, 41, 42, 99, 100, 101, 102, 103, 104, 105, 106, 107, 108, 109, 110, 111, 112, 113, 114, 115, 116, 117, 118] (by decide +kernel) (by decide +kernel)
set_option maxRecDepth 20000 in
theorem gX7_count_X7_shortest : GoodIn wsX7_count (wsV RX7 272 RX7 yX7_shortest wsX7_shortest) := goodIn_app (goodIn_of _ (by decide +kernel)) ggX7_count_X7_shortest
set_option maxRecDepth 20000 in
theorem ggX7_count_X7_covers : GoodIn wsX7_count wsX7_covers := goodIn_r _ [58, 59, 60, 61, 62, 7, 63, 1, 64, 65, 66, 67, 68, 69, 70, 71, 72, 73, 74, 32, 33, 34, 75, 76, 77, 78, 17, 18, 19, 20, 21, 22, 23, 24, 79, 80, 81, 82, 83, 84, 85, 86, 99, 100, 101, 102, 103, 104, 105, 106, 107, 108, 109, 110, 111, 112, 113, 114, 115, 116, 117, 118] (by decide +kernel) (by decide +kernel)
set_option maxRecDepth 20000 in
theorem gX7_count_X7_covers : GoodIn wsX7_count (wsV RX7 284 RX7 yX7_covers wsX7_covers) := goodIn_app (goodIn_of _ (by decide +kernel)) ggX7_count_X7_covers
set_option maxRecDepth 20000 in
theorem ggX7_count_X7_wrongs : GoodIn wsX7_count wsX7_wrongs := goodIn_r _ [90, 1, 91, 92, 93, 7, 94, 17, 18, 19, 20, 21, 22, 23, 24, 32, 33, 34, 99, 100, 101, 102, 103, 104, 105, 106, 107, 108, 109, 110, 111, 112, 113, 114, 115, 116, 117, 118] (by decide +kernel) (by decide +kernel)
set_option maxRecDepth 20000 in
theorem gX7_count_X7_wrongs : GoodIn wsX7_count (wsV RX7 287 RX7 yX7_wrongs wsX7_wrongs) := goodIn_app (goodIn_of _ (by decide +kernel)) ggX7_count_X7_wrongs
set_option maxRecDepth 20000 in
theorem ggX7_count_X7_plainOnes : GoodIn wsX7_count wsX7_plainOnes := goodIn_r _ [98, 1, 21, 22, 23, 7, 24, 99, 100, 101, 102, 103, 104, 105, 106, 107, 108, 109, 110, 111, 112, 113, 114, 115, 116, 117, 118] (by decide +kernel) (by decide +kernel)
set_option maxRecDepth 20000 in
theorem gX7_count_X7_plainOnes : GoodIn wsX7_count (wsV RX7 173 RX7 yX7_plainOnes wsX7_plainOnes) := goodIn_app (goodIn_of _ (by decide +kernel)) ggX7_count_X7_plainOnes
theorem dX7_count_0 : decode cX7_count 0 = .ok (.iload_n 1, 1) := by decide +kernel
theorem dX7_count_1 : decode cX7_count 1 = .ok (.tableswitch 136 0 10 #[59, 66, 73, 86, 91, 96, 111, 116, 121, 126, 131], 59) := by decide +kernel
theorem dX7_count_60 : decode cX7_count 60 = .ok (.aload_n 0, 1) := by decide +kernel
theorem dX7_count_61 : decode cX7_count 61 = .ok (.getfield 7, 3) := by decide +kernel
theorem dX7_count_64 : decode cX7_count 64 = .ok (.iconst 0, 1) := by decide +kernel
theorem dX7_count_65 : decode cX7_count 65 = .ok (.iaload, 1) := by decide +kernel
theorem dX7_count_66 : decode cX7_count 66 = .ok (.ireturn, 1) := by decide +kernel
theorem dX7_count_67 : decode cX7_count 67 = .ok (.aload_n 0, 1) := by decide +kernel
theorem dX7_count_68 : decode cX7_count 68 = .ok (.getfield 7, 3) := by decide +kernel
theorem dX7_count_71 : decode cX7_count 71 = .ok (.iconst 1, 1) := by decide +kernel
theorem dX7_count_72 : decode cX7_count 72 = .ok (.iaload, 1) := by decide +kernel
theorem dX7_count_73 : decode cX7_count 73 = .ok (.ireturn, 1) := by decide +kernel
theorem dX7_count_74 : decode cX7_count 74 = .ok (.aload_n 0, 1) := by decide +kernel
theorem dX7_count_75 : decode cX7_count 75 = .ok (.invokevirtual 266, 3) := by decide +kernel
theorem dX7_count_78 : decode cX7_count 78 = .ok (.ifCond .eq 7, 3) := by decide +kernel
theorem dX7_count_81 : decode cX7_count 81 = .ok (.iconst 1, 1) := by decide +kernel
theorem dX7_count_82 : decode cX7_count 82 = .ok (.goto 4, 3) := by decide +kernel
theorem dX7_count_85 : decode cX7_count 85 = .ok (.iconst 0, 1) := by decide +kernel
theorem dX7_count_86 : decode cX7_count 86 = .ok (.ireturn, 1) := by decide +kernel
theorem dX7_count_87 : decode cX7_count 87 = .ok (.aload_n 0, 1) := by decide +kernel
theorem dX7_count_88 : decode cX7_count 88 = .ok (.invokevirtual 278, 3) := by decide +kernel
theorem dX7_count_91 : decode cX7_count 91 = .ok (.ireturn, 1) := by decide +kernel
theorem dX7_count_92 : decode cX7_count 92 = .ok (.aload_n 0, 1) := by decide +kernel
theorem dX7_count_93 : decode cX7_count 93 = .ok (.invokevirtual 281, 3) := by decide +kernel
theorem dX7_count_96 : decode cX7_count 96 = .ok (.ireturn, 1) := by decide +kernel
theorem dX7_count_97 : decode cX7_count 97 = .ok (.aload_n 0, 1) := by decide +kernel
theorem dX7_count_98 : decode cX7_count 98 = .ok (.iconst 1, 1) := by decide +kernel
theorem dX7_count_99 : decode cX7_count 99 = .ok (.aload_n 0, 1) := by decide +kernel
theorem dX7_count_100 : decode cX7_count 100 = .ok (.getfield 7, 3) := by decide +kernel
theorem dX7_count_103 : decode cX7_count 103 = .ok (.iconst 1, 1) := by decide +kernel
theorem dX7_count_104 : decode cX7_count 104 = .ok (.iaload, 1) := by decide +kernel
theorem dX7_count_105 : decode cX7_count 105 = .ok (.ishl, 1) := by decide +kernel
theorem dX7_count_106 : decode cX7_count 106 = .ok (.iconst 1, 1) := by decide +kernel
theorem dX7_count_107 : decode cX7_count 107 = .ok (.isub, 1) := by decide +kernel
theorem dX7_count_108 : decode cX7_count 108 = .ok (.invokevirtual 272, 3) := by decide +kernel
theorem dX7_count_111 : decode cX7_count 111 = .ok (.ireturn, 1) := by decide +kernel
theorem dX7_count_112 : decode cX7_count 112 = .ok (.aload_n 0, 1) := by decide +kernel
theorem dX7_count_113 : decode cX7_count 113 = .ok (.invokevirtual 284, 3) := by decide +kernel
theorem dX7_count_116 : decode cX7_count 116 = .ok (.ireturn, 1) := by decide +kernel
theorem dX7_count_117 : decode cX7_count 117 = .ok (.aload_n 0, 1) := by decide +kernel
theorem dX7_count_118 : decode cX7_count 118 = .ok (.invokevirtual 287, 3) := by decide +kernel
theorem dX7_count_121 : decode cX7_count 121 = .ok (.ireturn, 1) := by decide +kernel
theorem dX7_count_122 : decode cX7_count 122 = .ok (.aload_n 0, 1) := by decide +kernel
theorem dX7_count_123 : decode cX7_count 123 = .ok (.invokevirtual 173, 3) := by decide +kernel
theorem dX7_count_126 : decode cX7_count 126 = .ok (.ireturn, 1) := by decide +kernel
theorem dX7_count_127 : decode cX7_count 127 = .ok (.aload_n 0, 1) := by decide +kernel
theorem dX7_count_128 : decode cX7_count 128 = .ok (.getfield 76, 3) := by decide +kernel
theorem dX7_count_131 : decode cX7_count 131 = .ok (.ireturn, 1) := by decide +kernel
theorem dX7_count_132 : decode cX7_count 132 = .ok (.aload_n 0, 1) := by decide +kernel
theorem dX7_count_133 : decode cX7_count 133 = .ok (.getfield 192, 3) := by decide +kernel
theorem dX7_count_136 : decode cX7_count 136 = .ok (.ireturn, 1) := by decide +kernel
theorem dX7_count_137 : decode cX7_count 137 = .ok (.bipush (-2), 2) := by decide +kernel
theorem dX7_count_139 : decode cX7_count 139 = .ok (.ireturn, 1) := by decide +kernel

