theorem dX7_take_79 : decode cX7_take 79 = .ok (.ldc2_w 113, 3) := by decide +kernel
theorem dX7_take_82 : decode cX7_take 82 = .ok (.land, 1) := by decide +kernel
theorem dX7_take_83 : decode cX7_take 83 = .ok (.l2i, 1) := by decide +kernel
theorem dX7_take_84 : decode cX7_take 84 = .ok (.istore 5, 2) := by decide +kernel
theorem dX7_take_86 : decode cX7_take 86 = .ok (.aload_n 0, 1) := by decide +kernel
theorem dX7_take_87 : decode cX7_take 87 = .ok (.iload 5, 2) := by decide +kernel
theorem dX7_take_89 : decode cX7_take 89 = .ok (.bipush 16, 2) := by decide +kernel
theorem dX7_take_91 : decode cX7_take 91 = .ok (.idiv, 1) := by decide +kernel
theorem dX7_take_92 : decode cX7_take 92 = .ok (.iload 5, 2) := by decide +kernel
theorem dX7_take_94 : decode cX7_take 94 = .ok (.bipush 16, 2) := by decide +kernel
theorem dX7_take_96 : decode cX7_take 96 = .ok (.irem, 1) := by decide +kernel
theorem dX7_take_97 : decode cX7_take 97 = .ok (.invokevirtual 115, 3) := by decide +kernel
theorem dX7_take_100 : decode cX7_take 100 = .ok (.iinc 2 1, 3) := by decide +kernel
theorem dX7_take_103 : decode cX7_take 103 = .ok (.goto (-68), 3) := by decide +kernel
theorem dX7_take_106 : decode cX7_take 106 = .ok (.aload_n 0, 1) := by decide +kernel
theorem dX7_take_107 : decode cX7_take 107 = .ok (.getfield 7, 3) := by decide +kernel
theorem dX7_take_110 : decode cX7_take 110 = .ok (.iconst 0, 1) := by decide +kernel
theorem dX7_take_111 : decode cX7_take 111 = .ok (.iaload, 1) := by decide +kernel
theorem dX7_take_112 : decode cX7_take 112 = .ok (.ireturn, 1) := by decide +kernel
set_option maxRecDepth 20000 in
theorem ggX7_addKnot_X7_records : GoodIn wsX7_addKnot wsX7_records := goodIn_r _ [6, 7, 8, 1, 9, 10, 11, 12, 13, 14, 15, 16, 17, 18, 19, 20, 21, 22, 23, 24, 25, 26, 27, 28] (by decide +kernel) (by decide +kernel)
set_option maxRecDepth 20000 in
theorem gX7_addKnot_X7_records : GoodIn wsX7_addKnot (wsV RX7 84 RX7 yX7_records wsX7_records) := goodIn_app (goodIn_of _ (by decide +kernel)) ggX7_addKnot_X7_records
theorem dX7_addKnot_0 : decode cX7_addKnot 0 = .ok (.aload_n 0, 1) := by decide +kernel
theorem dX7_addKnot_1 : decode cX7_addKnot 1 = .ok (.getfield 7, 3) := by decide +kernel
theorem dX7_addKnot_4 : decode cX7_addKnot 4 = .ok (.iconst 0, 1) := by decide +kernel
theorem dX7_addKnot_5 : decode cX7_addKnot 5 = .ok (.iaload, 1) := by decide +kernel
theorem dX7_addKnot_6 : decode cX7_addKnot 6 = .ok (.bipush 14, 2) := by decide +kernel
theorem dX7_addKnot_8 : decode cX7_addKnot 8 = .ok (.if_icmp .ne 6, 3) := by decide +kernel
theorem dX7_addKnot_11 : decode cX7_addKnot 11 = .ok (.bipush (-3), 2) := by decide +kernel
theorem dX7_addKnot_13 : decode cX7_addKnot 13 = .ok (.ireturn, 1) := by decide +kernel
theorem dX7_addKnot_14 : decode cX7_addKnot 14 = .ok (.aload_n 0, 1) := by decide +kernel
theorem dX7_addKnot_15 : decode cX7_addKnot 15 = .ok (.invokevirtual 84, 3) := by decide +kernel
theorem dX7_addKnot_18 : decode cX7_addKnot 18 = .ok (.aload_n 0, 1) := by decide +kernel
theorem dX7_addKnot_19 : decode cX7_addKnot 19 = .ok (.getfield 7, 3) := by decide +kernel
theorem dX7_addKnot_22 : decode cX7_addKnot 22 = .ok (.iconst 0, 1) := by decide +kernel
theorem dX7_addKnot_23 : decode cX7_addKnot 23 = .ok (.dup2, 1) := by decide +kernel
theorem dX7_addKnot_24 : decode cX7_addKnot 24 = .ok (.iaload, 1) := by decide +kernel
theorem dX7_addKnot_25 : decode cX7_addKnot 25 = .ok (.iconst 1, 1) := by decide +kernel
theorem dX7_addKnot_26 : decode cX7_addKnot 26 = .ok (.iadd, 1) := by decide +kernel
theorem dX7_addKnot_27 : decode cX7_addKnot 27 = .ok (.iastore, 1) := by decide +kernel
theorem dX7_addKnot_28 : decode cX7_addKnot 28 = .ok (.aload_n 0, 1) := by decide +kernel
theorem dX7_addKnot_29 : decode cX7_addKnot 29 = .ok (.getfield 7, 3) := by decide +kernel
theorem dX7_addKnot_32 : decode cX7_addKnot 32 = .ok (.iconst 0, 1) := by decide +kernel
theorem dX7_addKnot_33 : decode cX7_addKnot 33 = .ok (.iaload, 1) := by decide +kernel
theorem dX7_addKnot_34 : decode cX7_addKnot 34 = .ok (.iconst 1, 1) := by decide +kernel
theorem dX7_addKnot_35 : decode cX7_addKnot 35 = .ok (.isub, 1) := by decide +kernel
theorem dX7_addKnot_36 : decode cX7_addKnot 36 = .ok (.ireturn, 1) := by decide +kernel
set_option maxRecDepth 20000 in
theorem ggX7_removeKnot_X7_isKnot : GoodIn wsX7_removeKnot wsX7_isKnot := goodIn_r _ [6, 1, 7, 8, 5, 9, 36, 37, 38, 39, 40, 41, 42, 43, 44, 45, 46, 47, 48, 49, 50, 51, 52, 53, 54, 55] (by decide +kernel) (by decide +kernel)
set_option maxRecDepth 20000 in
theorem gX7_removeKnot_X7_isKnot : GoodIn wsX7_removeKnot (wsV RX7 119 RX7 yX7_isKnot wsX7_isKnot) := goodIn_app (goodIn_of _ (by decide +kernel)) ggX7_removeKnot_X7_isKnot
set_option maxRecDepth 20000 in
theorem ggX7_removeKnot_X7_records : GoodIn wsX7_removeKnot wsX7_records := goodIn_r _ [13, 14, 15, 1, 36, 37, 38, 39, 40, 41, 42, 43, 44, 45, 46, 47, 48, 49, 50, 51, 52, 53, 54, 55] (by decide +kernel) (by decide +kernel)
set_option maxRecDepth 20000 in
theorem gX7_removeKnot_X7_records : GoodIn wsX7_removeKnot (wsV RX7 84 RX7 yX7_records wsX7_records) := goodIn_app (goodIn_of _ (by decide +kernel)) ggX7_removeKnot_X7_records
set_option maxRecDepth 20000 in
theorem ggX7_removeKnot_X7_isAt : GoodIn wsX7_removeKnot wsX7_isAt := goodIn_r _ [19, 20, 21, 22, 5, 23, 1, 36, 37, 38, 39, 40, 41, 42, 43, 44, 45, 46, 47, 48, 49, 50, 51, 52, 53, 54, 55] (by decide +kernel) (by decide +kernel)
set_option maxRecDepth 20000 in
theorem gX7_removeKnot_X7_isAt : GoodIn wsX7_removeKnot (wsV RX7 60 RX7 yX7_isAt wsX7_isAt) := goodIn_app (goodIn_of _ (by decide +kernel)) ggX7_removeKnot_X7_isAt
set_option maxRecDepth 20000 in
theorem ggX7_removeKnot_X7_dropThread : GoodIn wsX7_removeKnot wsX7_dropThread := goodIn_r _ [27, 1, 36, 37, 38, 39, 40, 41, 42, 43, 44, 45, 46, 47, 48, 49, 50, 51, 52, 53, 54, 55] (by decide +kernel) (by decide +kernel)
set_option maxRecDepth 20000 in
theorem gX7_removeKnot_X7_dropThread : GoodIn wsX7_removeKnot (wsV RX7 123 RX7 yX7_dropThread wsX7_dropThread) := goodIn_app (goodIn_of _ (by decide +kernel)) ggX7_removeKnot_X7_dropThread
set_option maxRecDepth 20000 in
theorem ggX7_removeKnot_X7_dropKnot : GoodIn wsX7_removeKnot wsX7_dropKnot := goodIn_r _ [31, 1, 20, 21, 22, 5, 23, 32, 33, 34, 35, 36, 37, 38, 39, 40, 41, 42, 43, 44, 45, 46, 47, 48, 49, 50, 51, 52, 53, 54, 55] (by decide +kernel) (by decide +kernel)
set_option maxRecDepth 20000 in
theorem gX7_removeKnot_X7_dropKnot : GoodIn wsX7_removeKnot (wsV RX7 127 RX7 yX7_dropKnot wsX7_dropKnot) := goodIn_app (goodIn_of _ (by decide +kernel)) ggX7_removeKnot_X7_dropKnot
theorem dX7_removeKnot_0 : decode cX7_removeKnot 0 = .ok (.aload_n 0, 1) := by decide +kernel
theorem dX7_removeKnot_1 : decode cX7_removeKnot 1 = .ok (.iload_n 1, 1) := by decide +kernel
theorem dX7_removeKnot_2 : decode cX7_removeKnot 2 = .ok (.invokevirtual 119, 3) := by decide +kernel
theorem dX7_removeKnot_5 : decode cX7_removeKnot 5 = .ok (.ifCond .ne 5, 3) := by decide +kernel
theorem dX7_removeKnot_8 : decode cX7_removeKnot 8 = .ok (.iconst (-1), 1) := by decide +kernel
theorem dX7_removeKnot_9 : decode cX7_removeKnot 9 = .ok (.ireturn, 1) := by decide +kernel
theorem dX7_removeKnot_10 : decode cX7_removeKnot 10 = .ok (.aload_n 0, 1) := by decide +kernel
theorem dX7_removeKnot_11 : decode cX7_removeKnot 11 = .ok (.invokevirtual 84, 3) := by decide +kernel
theorem dX7_removeKnot_14 : decode cX7_removeKnot 14 = .ok (.aload_n 0, 1) := by decide +kernel
theorem dX7_removeKnot_15 : decode cX7_removeKnot 15 = .ok (.getfield 7, 3) := by decide +kernel
theorem dX7_removeKnot_18 : decode cX7_removeKnot 18 = .ok (.iconst 1, 1) := by decide +kernel
theorem dX7_removeKnot_19 : decode cX7_removeKnot 19 = .ok (.iaload, 1) := by decide +kernel
theorem dX7_removeKnot_20 : decode cX7_removeKnot 20 = .ok (.iconst 1, 1) := by decide +kernel
theorem dX7_removeKnot_21 : decode cX7_removeKnot 21 = .ok (.isub, 1) := by decide +kernel
theorem dX7_removeKnot_22 : decode cX7_removeKnot 22 = .ok (.istore_n 2, 1) := by decide +kernel
theorem dX7_removeKnot_23 : decode cX7_removeKnot 23 = .ok (.iload_n 2, 1) := by decide +kernel
theorem dX7_removeKnot_24 : decode cX7_removeKnot 24 = .ok (.ifCond .lt 23, 3) := by decide +kernel
theorem dX7_removeKnot_27 : decode cX7_removeKnot 27 = .ok (.aload_n 0, 1) := by decide +kernel
theorem dX7_removeKnot_28 : decode cX7_removeKnot 28 = .ok (.iload_n 2, 1) := by decide +kernel
theorem dX7_removeKnot_29 : decode cX7_removeKnot 29 = .ok (.iload_n 1, 1) := by decide +kernel
theorem dX7_removeKnot_30 : decode cX7_removeKnot 30 = .ok (.invokevirtual 60, 3) := by decide +kernel
theorem dX7_removeKnot_33 : decode cX7_removeKnot 33 = .ok (.ifCond .eq 8, 3) := by decide +kernel
theorem dX7_removeKnot_36 : decode cX7_removeKnot 36 = .ok (.aload_n 0, 1) := by decide +kernel
theorem dX7_removeKnot_37 : decode cX7_removeKnot 37 = .ok (.iload_n 2, 1) := by decide +kernel
theorem dX7_removeKnot_38 : decode cX7_removeKnot 38 = .ok (.invokevirtual 123, 3) := by decide +kernel
theorem dX7_removeKnot_41 : decode cX7_removeKnot 41 = .ok (.iinc 2 (-1), 3) := by decide +kernel
theorem dX7_removeKnot_44 : decode cX7_removeKnot 44 = .ok (.goto (-21), 3) := by decide +kernel
theorem dX7_removeKnot_47 : decode cX7_removeKnot 47 = .ok (.aload_n 0, 1) := by decide +kernel
theorem dX7_removeKnot_48 : decode cX7_removeKnot 48 = .ok (.iload_n 1, 1) := by decide +kernel
theorem dX7_removeKnot_49 : decode cX7_removeKnot 49 = .ok (.invokevirtual 127, 3) := by decide +kernel
theorem dX7_removeKnot_52 : decode cX7_removeKnot 52 = .ok (.aload_n 0, 1) := by decide +kernel
theorem dX7_removeKnot_53 : decode cX7_removeKnot 53 = .ok (.getfield 7, 3) := by decide +kernel
theorem dX7_removeKnot_56 : decode cX7_removeKnot 56 = .ok (.iconst 1, 1) := by decide +kernel
theorem dX7_removeKnot_57 : decode cX7_removeKnot 57 = .ok (.iaload, 1) := by decide +kernel
theorem dX7_removeKnot_58 : decode cX7_removeKnot 58 = .ok (.ireturn, 1) := by decide +kernel
set_option maxRecDepth 20000 in
theorem ggX7_addThread_X7_isKnot : GoodIn wsX7_addThread wsX7_isKnot := goodIn_r _ [6, 1, 7, 8, 5, 9, 47, 48, 49, 50, 51, 52, 53, 54, 55, 56, 57, 58, 59, 60, 61, 62, 63, 64, 65, 66] (by decide +kernel) (by decide +kernel)
set_option maxRecDepth 20000 in
theorem gX7_addThread_X7_isKnot : GoodIn wsX7_addThread (wsV RX7 119 RX7 yX7_isKnot wsX7_isKnot) := goodIn_app (goodIn_of _ (by decide +kernel)) ggX7_addThread_X7_isKnot
set_option maxRecDepth 20000 in
theorem ggX7_addThread_X7_threadBetween : GoodIn wsX7_addThread wsX7_threadBetween := goodIn_r _ [13, 1, 14, 15, 16, 5, 17, 18, 19, 20, 21, 47, 48, 49, 50, 51, 52, 53, 54, 55, 56, 57, 58, 59, 60, 61, 62, 63, 64, 65, 66] (by decide +kernel) (by decide +kernel)
set_option maxRecDepth 20000 in
theorem gX7_addThread_X7_threadBetween : GoodIn wsX7_addThread (wsV RX7 130 RX7 yX7_threadBetween wsX7_threadBetween) := goodIn_app (goodIn_of _ (by decide +kernel)) ggX7_addThread_X7_threadBetween
set_option maxRecDepth 20000 in
theorem ggX7_addThread_X7_degree : GoodIn wsX7_addThread wsX7_degree := goodIn_r _ [25, 26, 27, 28, 5, 29, 1, 14, 15, 16, 17, 18, 19, 20, 21, 30, 31, 32, 47, 48, 49, 50, 51, 52, 53, 54, 55, 56, 57, 58, 59, 60, 61, 62, 63, 64, 65, 66] (by decide +kernel) (by decide +kernel)
set_option maxRecDepth 20000 in
theorem gX7_addThread_X7_degree : GoodIn wsX7_addThread (wsV RX7 73 RX7 yX7_degree wsX7_degree) := goodIn_app (goodIn_of _ (by decide +kernel)) ggX7_addThread_X7_degree
set_option maxRecDepth 20000 in
theorem ggX7_addThread_X7_records : GoodIn wsX7_addThread wsX7_records := goodIn_r _ [36, 37, 38, 1, 47, 48, 49, 50, 51, 52, 53, 54, 55, 56, 57, 58, 59, 60, 61, 62, 63, 64, 65, 66] (by decide +kernel) (by decide +kernel)
set_option maxRecDepth 20000 in
theorem gX7_addThread_X7_records : GoodIn wsX7_addThread (wsV RX7 84 RX7 yX7_records wsX7_records) := goodIn_app (goodIn_of _ (by decide +kernel)) ggX7_addThread_X7_records
set_option maxRecDepth 20000 in
theorem ggX7_addThread_X7_adds : GoodIn wsX7_addThread wsX7_adds := goodIn_r _ [42, 1, 43, 44, 45, 5, 46, 47, 48, 49, 50, 51, 52, 53, 54, 55, 56, 57, 58, 59, 60, 61, 62, 63, 64, 65, 66] (by decide +kernel) (by decide +kernel)
set_option maxRecDepth 20000 in
theorem gX7_addThread_X7_adds : GoodIn wsX7_addThread (wsV RX7 115 RX7 yX7_adds wsX7_adds) := goodIn_app (goodIn_of _ (by decide +kernel)) ggX7_addThread_X7_adds
theorem dX7_addThread_0 : decode cX7_addThread 0 = .ok (.aload_n 0, 1) := by decide +kernel
theorem dX7_addThread_1 : decode cX7_addThread 1 = .ok (.iload_n 1, 1) := by decide +kernel
theorem dX7_addThread_2 : decode cX7_addThread 2 = .ok (.invokevirtual 119, 3) := by decide +kernel
theorem dX7_addThread_5 : decode cX7_addThread 5 = .ok (.ifCond .eq 11, 3) := by decide +kernel
theorem dX7_addThread_8 : decode cX7_addThread 8 = .ok (.aload_n 0, 1) := by decide +kernel
theorem dX7_addThread_9 : decode cX7_addThread 9 = .ok (.iload_n 2, 1) := by decide +kernel
theorem dX7_addThread_10 : decode cX7_addThread 10 = .ok (.invokevirtual 119, 3) := by decide +kernel
theorem dX7_addThread_13 : decode cX7_addThread 13 = .ok (.ifCond .ne 5, 3) := by decide +kernel
theorem dX7_addThread_16 : decode cX7_addThread 16 = .ok (.iconst (-1), 1) := by decide +kernel
theorem dX7_addThread_17 : decode cX7_addThread 17 = .ok (.ireturn, 1) := by decide +kernel
theorem dX7_addThread_18 : decode cX7_addThread 18 = .ok (.iload_n 1, 1) := by decide +kernel
theorem dX7_addThread_19 : decode cX7_addThread 19 = .ok (.iload_n 2, 1) := by decide +kernel
theorem dX7_addThread_20 : decode cX7_addThread 20 = .ok (.if_icmp .ne 6, 3) := by decide +kernel
theorem dX7_addThread_23 : decode cX7_addThread 23 = .ok (.bipush (-2), 2) := by decide +kernel
theorem dX7_addThread_25 : decode cX7_addThread 25 = .ok (.ireturn, 1) := by decide +kernel
theorem dX7_addThread_26 : decode cX7_addThread 26 = .ok (.aload_n 0, 1) := by decide +kernel
theorem dX7_addThread_27 : decode cX7_addThread 27 = .ok (.iload_n 1, 1) := by decide +kernel
theorem dX7_addThread_28 : decode cX7_addThread 28 = .ok (.iload_n 2, 1) := by decide +kernel
theorem dX7_addThread_29 : decode cX7_addThread 29 = .ok (.invokevirtual 130, 3) := by decide +kernel
theorem dX7_addThread_32 : decode cX7_addThread 32 = .ok (.ifCond .ge 21, 3) := by decide +kernel
theorem dX7_addThread_35 : decode cX7_addThread 35 = .ok (.aload_n 0, 1) := by decide +kernel
theorem dX7_addThread_36 : decode cX7_addThread 36 = .ok (.iload_n 1, 1) := by decide +kernel
theorem dX7_addThread_37 : decode cX7_addThread 37 = .ok (.invokevirtual 73, 3) := by decide +kernel
theorem dX7_addThread_40 : decode cX7_addThread 40 = .ok (.iconst 3, 1) := by decide +kernel
theorem dX7_addThread_41 : decode cX7_addThread 41 = .ok (.if_icmp .eq 12, 3) := by decide +kernel
theorem dX7_addThread_44 : decode cX7_addThread 44 = .ok (.aload_n 0, 1) := by decide +kernel
theorem dX7_addThread_45 : decode cX7_addThread 45 = .ok (.iload_n 2, 1) := by decide +kernel
theorem dX7_addThread_46 : decode cX7_addThread 46 = .ok (.invokevirtual 73, 3) := by decide +kernel
theorem dX7_addThread_49 : decode cX7_addThread 49 = .ok (.iconst 3, 1) := by decide +kernel
theorem dX7_addThread_50 : decode cX7_addThread 50 = .ok (.if_icmp .ne 6, 3) := by decide +kernel
theorem dX7_addThread_53 : decode cX7_addThread 53 = .ok (.bipush (-4), 2) := by decide +kernel
theorem dX7_addThread_55 : decode cX7_addThread 55 = .ok (.ireturn, 1) := by decide +kernel
theorem dX7_addThread_56 : decode cX7_addThread 56 = .ok (.aload_n 0, 1) := by decide +kernel
theorem dX7_addThread_57 : decode cX7_addThread 57 = .ok (.invokevirtual 84, 3) := by decide +kernel
theorem dX7_addThread_60 : decode cX7_addThread 60 = .ok (.aload_n 0, 1) := by decide +kernel
theorem dX7_addThread_61 : decode cX7_addThread 61 = .ok (.iload_n 1, 1) := by decide +kernel
theorem dX7_addThread_62 : decode cX7_addThread 62 = .ok (.iload_n 2, 1) := by decide +kernel
theorem dX7_addThread_63 : decode cX7_addThread 63 = .ok (.invokevirtual 115, 3) := by decide +kernel
theorem dX7_addThread_66 : decode cX7_addThread 66 = .ok (.aload_n 0, 1) := by decide +kernel
theorem dX7_addThread_67 : decode cX7_addThread 67 = .ok (.getfield 7, 3) := by decide +kernel
theorem dX7_addThread_70 : decode cX7_addThread 70 = .ok (.iconst 1, 1) := by decide +kernel
theorem dX7_addThread_71 : decode cX7_addThread 71 = .ok (.iaload, 1) := by decide +kernel
theorem dX7_addThread_72 : decode cX7_addThread 72 = .ok (.iconst 1, 1) := by decide +kernel
theorem dX7_addThread_73 : decode cX7_addThread 73 = .ok (.isub, 1) := by decide +kernel
theorem dX7_addThread_74 : decode cX7_addThread 74 = .ok (.ireturn, 1) := by decide +kernel
set_option maxRecDepth 20000 in
theorem ggX7_removeThread_X7_isThread : GoodIn wsX7_removeThread wsX7_isThread := goodIn_r _ [6, 1, 7, 8, 5, 9, 20, 21, 22, 23, 24, 25, 26, 27, 28, 29, 30, 31, 32, 33, 34, 35, 36, 37, 38, 39] (by decide +kernel) (by decide +kernel)
set_option maxRecDepth 20000 in
theorem gX7_removeThread_X7_isThread : GoodIn wsX7_removeThread (wsV RX7 133 RX7 yX7_isThread wsX7_isThread) := goodIn_app (goodIn_of _ (by decide +kernel)) ggX7_removeThread_X7_isThread
set_option maxRecDepth 20000 in
theorem ggX7_removeThread_X7_records : GoodIn wsX7_removeThread wsX7_records := goodIn_r _ [13, 14, 15, 1, 20, 21, 22, 23, 24, 25, 26, 27, 28, 29, 30, 31, 32, 33, 34, 35, 36, 37, 38, 39] (by decide +kernel) (by decide +kernel)
set_option maxRecDepth 20000 in
theorem gX7_removeThread_X7_records : GoodIn wsX7_removeThread (wsV RX7 84 RX7 yX7_records wsX7_records) := goodIn_app (goodIn_of _ (by decide +kernel)) ggX7_removeThread_X7_records
set_option maxRecDepth 20000 in
theorem ggX7_removeThread_X7_dropThread : GoodIn wsX7_removeThread wsX7_dropThread := goodIn_r _ [19, 1, 20, 21, 22, 23, 24, 25, 26, 27, 28, 29, 30, 31, 32, 33, 34, 35, 36, 37, 38, 39] (by decide +kernel) (by decide +kernel)
set_option maxRecDepth 20000 in
theorem gX7_removeThread_X7_dropThread : GoodIn wsX7_removeThread (wsV RX7 123 RX7 yX7_dropThread wsX7_dropThread) := goodIn_app (goodIn_of _ (by decide +kernel)) ggX7_removeThread_X7_dropThread
theorem dX7_removeThread_0 : decode cX7_removeThread 0 = .ok (.aload_n 0, 1) := by decide +kernel
theorem dX7_removeThread_1 : decode cX7_removeThread 1 = .ok (.iload_n 1, 1) := by decide +kernel
theorem dX7_removeThread_2 : decode cX7_removeThread 2 = .ok (.invokevirtual 133, 3) := by decide +kernel
theorem dX7_removeThread_5 : decode cX7_removeThread 5 = .ok (.ifCond .ne 5, 3) := by decide +kernel
theorem dX7_removeThread_8 : decode cX7_removeThread 8 = .ok (.iconst (-1), 1) := by decide +kernel
theorem dX7_removeThread_9 : decode cX7_removeThread 9 = .ok (.ireturn, 1) := by decide +kernel
theorem dX7_removeThread_10 : decode cX7_removeThread 10 = .ok (.aload_n 0, 1) := by decide +kernel
theorem dX7_removeThread_11 : decode cX7_removeThread 11 = .ok (.invokevirtual 84, 3) := by decide +kernel
theorem dX7_removeThread_14 : decode cX7_removeThread 14 = .ok (.aload_n 0, 1) := by decide +kernel
theorem dX7_removeThread_15 : decode cX7_removeThread 15 = .ok (.iload_n 1, 1) := by decide +kernel
theorem dX7_removeThread_16 : decode cX7_removeThread 16 = .ok (.invokevirtual 123, 3) := by decide +kernel
theorem dX7_removeThread_19 : decode cX7_removeThread 19 = .ok (.aload_n 0, 1) := by decide +kernel
theorem dX7_removeThread_20 : decode cX7_removeThread 20 = .ok (.getfield 7, 3) := by decide +kernel
theorem dX7_removeThread_23 : decode cX7_removeThread 23 = .ok (.iconst 1, 1) := by decide +kernel
theorem dX7_removeThread_24 : decode cX7_removeThread 24 = .ok (.iaload, 1) := by decide +kernel
theorem dX7_removeThread_25 : decode cX7_removeThread 25 = .ok (.ireturn, 1) := by decide +kernel
set_option maxRecDepth 20000 in
theorem ggX7_threadAt_X7_threadsOf : GoodIn wsX7_threadAt wsX7_threadsOf := goodIn_r _ [5, 6, 7, 8, 9, 4, 10, 11, 12, 13, 14, 21, 22, 23, 24, 25, 26, 27, 28, 29, 30, 31, 32, 33, 34, 35, 36, 37, 38, 39, 40] (by decide +kernel) (by decide +kernel)
set_option maxRecDepth 20000 in
theorem gX7_threadAt_X7_threadsOf : GoodIn wsX7_threadAt (wsV RX7 63 RX7 yX7_threadsOf wsX7_threadsOf) := goodIn_app (goodIn_of _ (by decide +kernel)) ggX7_threadAt_X7_threadsOf
set_option maxRecDepth 20000 in
theorem ggX7_threadAt_X7_lowest : GoodIn wsX7_threadAt wsX7_lowest := goodIn_r _ [17, 18, 19, 4, 20] (by decide +kernel) (by decide +kernel)
set_option maxRecDepth 20000 in
theorem gX7_threadAt_X7_lowest : GoodIn wsX7_threadAt (va_wsS RX7 136 yX7_lowest wsX7_lowest) := goodIn_app (goodIn_of _ (by decide +kernel)) ggX7_threadAt_X7_lowest
theorem dX7_threadAt_0 : decode cX7_threadAt 0 = .ok (.aload_n 0, 1) := by decide +kernel
theorem dX7_threadAt_1 : decode cX7_threadAt 1 = .ok (.iload_n 1, 1) := by decide +kernel
theorem dX7_threadAt_2 : decode cX7_threadAt 2 = .ok (.invokevirtual 63, 3) := by decide +kernel
theorem dX7_threadAt_5 : decode cX7_threadAt 5 = .ok (.istore_n 3, 1) := by decide +kernel
theorem dX7_threadAt_6 : decode cX7_threadAt 6 = .ok (.iconst 0, 1) := by decide +kernel
theorem dX7_threadAt_7 : decode cX7_threadAt 7 = .ok (.istore 4, 2) := by decide +kernel
theorem dX7_threadAt_9 : decode cX7_threadAt 9 = .ok (.iload 4, 2) := by decide +kernel
theorem dX7_threadAt_11 : decode cX7_threadAt 11 = .ok (.iload_n 2, 1) := by decide +kernel
theorem dX7_threadAt_12 : decode cX7_threadAt 12 = .ok (.if_icmp .ge 15, 3) := by decide +kernel
theorem dX7_threadAt_15 : decode cX7_threadAt 15 = .ok (.iload_n 3, 1) := by decide +kernel
theorem dX7_threadAt_16 : decode cX7_threadAt 16 = .ok (.iload_n 3, 1) := by decide +kernel
theorem dX7_threadAt_17 : decode cX7_threadAt 17 = .ok (.iconst 1, 1) := by decide +kernel
theorem dX7_threadAt_18 : decode cX7_threadAt 18 = .ok (.isub, 1) := by decide +kernel
theorem dX7_threadAt_19 : decode cX7_threadAt 19 = .ok (.iand, 1) := by decide +kernel
theorem dX7_threadAt_20 : decode cX7_threadAt 20 = .ok (.istore_n 3, 1) := by decide +kernel
theorem dX7_threadAt_21 : decode cX7_threadAt 21 = .ok (.iinc 4 1, 3) := by decide +kernel
theorem dX7_threadAt_24 : decode cX7_threadAt 24 = .ok (.goto (-15), 3) := by decide +kernel
theorem dX7_threadAt_27 : decode cX7_threadAt 27 = .ok (.iload_n 3, 1) := by decide +kernel
theorem dX7_threadAt_28 : decode cX7_threadAt 28 = .ok (.invokestatic 136, 3) := by decide +kernel
theorem dX7_threadAt_31 : decode cX7_threadAt 31 = .ok (.ireturn, 1) := by decide +kernel
set_option maxRecDepth 20000 in
theorem ggX7_grow_X7_isKnot : GoodIn wsX7_grow wsX7_isKnot := goodIn_r _ [6, 1, 7, 8, 5, 9, 57, 58, 59, 60, 61, 62, 63, 64, 65, 66, 67, 68, 69, 70, 71, 72, 73, 74, 75, 76] (by decide +kernel) (by decide +kernel)
set_option maxRecDepth 20000 in
theorem gX7_grow_X7_isKnot : GoodIn wsX7_grow (wsV RX7 119 RX7 yX7_isKnot wsX7_isKnot) := goodIn_app (goodIn_of _ (by decide +kernel)) ggX7_grow_X7_isKnot
set_option maxRecDepth 20000 in
theorem ggX7_grow_X7_degree : GoodIn wsX7_grow wsX7_degree := goodIn_r _ [13, 14, 15, 16, 5, 17, 1, 18, 19, 20, 21, 22, 23, 24, 25, 26, 27, 28, 57, 58, 59, 60, 61, 62, 63, 64, 65, 66, 67, 68, 69, 70, 71, 72, 73, 74, 75, 76] (by decide +kernel) (by decide +kernel)
set_option maxRecDepth 20000 in
theorem gX7_grow_X7_degree : GoodIn wsX7_grow (wsV RX7 73 RX7 yX7_degree wsX7_degree) := goodIn_app (goodIn_of _ (by decide +kernel)) ggX7_grow_X7_degree
set_option maxRecDepth 20000 in
theorem ggX7_grow_X7_records : GoodIn wsX7_grow wsX7_records := goodIn_r _ [32, 33, 34, 1, 57, 58, 59, 60, 61, 62, 63, 64, 65, 66, 67, 68, 69, 70, 71, 72, 73, 74, 75, 76] (by decide +kernel) (by decide +kernel)
set_option maxRecDepth 20000 in
theorem gX7_grow_X7_records : GoodIn wsX7_grow (wsV RX7 84 RX7 yX7_records wsX7_records) := goodIn_app (goodIn_of _ (by decide +kernel)) ggX7_grow_X7_records
set_option maxRecDepth 20000 in
theorem ggX7_grow_X7_threadAt : GoodIn wsX7_grow wsX7_threadAt := goodIn_r _ [38, 14, 15, 16, 5, 17, 1, 18, 19, 20, 21, 22, 23, 24, 25, 39, 40, 41, 42, 43, 44, 57, 58, 59, 60, 61, 62, 63, 64, 65, 66, 67, 68, 69, 70, 71, 72, 73, 74, 75, 76] (by decide +kernel) (by decide +kernel)
set_option maxRecDepth 20000 in
theorem gX7_grow_X7_threadAt : GoodIn wsX7_grow (wsV RX7 139 RX7 yX7_threadAt wsX7_threadAt) := goodIn_app (goodIn_of _ (by decide +kernel)) ggX7_grow_X7_threadAt
set_option maxRecDepth 20000 in
theorem ggX7_grow_X7_across : GoodIn wsX7_grow wsX7_across := goodIn_r _ [48, 22, 23, 24, 5, 25, 1, 57, 58, 59, 60, 61, 62, 63, 64, 65, 66, 67, 68, 69, 70, 71, 72, 73, 74, 75, 76] (by decide +kernel) (by decide +kernel)
set_option maxRecDepth 20000 in
theorem gX7_grow_X7_across : GoodIn wsX7_grow (wsV RX7 70 RX7 yX7_across wsX7_across) := goodIn_app (goodIn_of _ (by decide +kernel)) ggX7_grow_X7_across
set_option maxRecDepth 20000 in
theorem ggX7_grow_X7_of : GoodIn wsX7_grow wsX7_of := goodIn_r _ [25, 1, 57, 58, 59, 60, 61, 62, 63, 64, 65, 66, 67, 68, 69, 70, 71, 72, 73, 74, 75, 76] (by decide +kernel) (by decide +kernel)
set_option maxRecDepth 20000 in
theorem gX7_grow_X7_of : GoodIn wsX7_grow (wsV RX7 56 RX7 yX7_of wsX7_of) := goodIn_app (goodIn_of _ (by decide +kernel)) ggX7_grow_X7_of
set_option maxRecDepth 20000 in
theorem ggX7_grow_X7_put : GoodIn wsX7_grow wsX7_put := goodIn_r _ [52, 1, 57, 58, 59, 60, 61, 62, 63, 64, 65, 66, 67, 68, 69, 70, 71, 72, 73, 74, 75, 76] (by decide +kernel) (by decide +kernel)
set_option maxRecDepth 20000 in
theorem gX7_grow_X7_put : GoodIn wsX7_grow (wsV RX7 48 RX7 yX7_put wsX7_put) := goodIn_app (goodIn_of _ (by decide +kernel)) ggX7_grow_X7_put
set_option maxRecDepth 20000 in
theorem ggX7_grow_X7_adds : GoodIn wsX7_grow wsX7_adds := goodIn_r _ [56, 1, 49, 50, 51, 5, 52, 57, 58, 59, 60, 61, 62, 63, 64, 65, 66, 67, 68, 69, 70, 71, 72, 73, 74, 75, 76] (by decide +kernel) (by decide +kernel)
set_option maxRecDepth 20000 in
theorem gX7_grow_X7_adds : GoodIn wsX7_grow (wsV RX7 115 RX7 yX7_adds wsX7_adds) := goodIn_app (goodIn_of _ (by decide +kernel)) ggX7_grow_X7_adds
theorem dX7_grow_0 : decode cX7_grow 0 = .ok (.aload_n 0, 1) := by decide +kernel
theorem dX7_grow_1 : decode cX7_grow 1 = .ok (.iload_n 1, 1) := by decide +kernel
theorem dX7_grow_2 : decode cX7_grow 2 = .ok (.invokevirtual 119, 3) := by decide +kernel
theorem dX7_grow_5 : decode cX7_grow 5 = .ok (.ifCond .ne 5, 3) := by decide +kernel
theorem dX7_grow_8 : decode cX7_grow 8 = .ok (.iconst (-1), 1) := by decide +kernel
theorem dX7_grow_9 : decode cX7_grow 9 = .ok (.ireturn, 1) := by decide +kernel
theorem dX7_grow_10 : decode cX7_grow 10 = .ok (.aload_n 0, 1) := by decide +kernel
theorem dX7_grow_11 : decode cX7_grow 11 = .ok (.iload_n 1, 1) := by decide +kernel
theorem dX7_grow_12 : decode cX7_grow 12 = .ok (.invokevirtual 73, 3) := by decide +kernel
theorem dX7_grow_15 : decode cX7_grow 15 = .ok (.iconst 3, 1) := by decide +kernel
theorem dX7_grow_16 : decode cX7_grow 16 = .ok (.if_icmp .eq 6, 3) := by decide +kernel
theorem dX7_grow_19 : decode cX7_grow 19 = .ok (.bipush (-4), 2) := by decide +kernel
theorem dX7_grow_21 : decode cX7_grow 21 = .ok (.ireturn, 1) := by decide +kernel
theorem dX7_grow_22 : decode cX7_grow 22 = .ok (.aload_n 0, 1) := by decide +kernel
theorem dX7_grow_23 : decode cX7_grow 23 = .ok (.getfield 7, 3) := by decide +kernel
theorem dX7_grow_26 : decode cX7_grow 26 = .ok (.iconst 0, 1) := by decide +kernel
theorem dX7_grow_27 : decode cX7_grow 27 = .ok (.iaload, 1) := by decide +kernel
theorem dX7_grow_28 : decode cX7_grow 28 = .ok (.istore_n 2, 1) := by decide +kernel
theorem dX7_grow_29 : decode cX7_grow 29 = .ok (.iload_n 2, 1) := by decide +kernel
theorem dX7_grow_30 : decode cX7_grow 30 = .ok (.iconst 2, 1) := by decide +kernel
theorem dX7_grow_31 : decode cX7_grow 31 = .ok (.iadd, 1) := by decide +kernel
theorem dX7_grow_32 : decode cX7_grow 32 = .ok (.bipush 14, 2) := by decide +kernel
theorem dX7_grow_34 : decode cX7_grow 34 = .ok (.if_icmp .le 6, 3) := by decide +kernel
theorem dX7_grow_37 : decode cX7_grow 37 = .ok (.bipush (-3), 2) := by decide +kernel
theorem dX7_grow_39 : decode cX7_grow 39 = .ok (.ireturn, 1) := by decide +kernel
theorem dX7_grow_40 : decode cX7_grow 40 = .ok (.aload_n 0, 1) := by decide +kernel
theorem dX7_grow_41 : decode cX7_grow 41 = .ok (.invokevirtual 84, 3) := by decide +kernel
theorem dX7_grow_44 : decode cX7_grow 44 = .ok (.aload_n 0, 1) := by decide +kernel
theorem dX7_grow_45 : decode cX7_grow 45 = .ok (.iload_n 1, 1) := by decide +kernel
theorem dX7_grow_46 : decode cX7_grow 46 = .ok (.iconst 1, 1) := by decide +kernel
theorem dX7_grow_47 : decode cX7_grow 47 = .ok (.invokevirtual 139, 3) := by decide +kernel
theorem dX7_grow_50 : decode cX7_grow 50 = .ok (.istore_n 3, 1) := by decide +kernel
theorem dX7_grow_51 : decode cX7_grow 51 = .ok (.aload_n 0, 1) := by decide +kernel
theorem dX7_grow_52 : decode cX7_grow 52 = .ok (.iload_n 1, 1) := by decide +kernel
theorem dX7_grow_53 : decode cX7_grow 53 = .ok (.iconst 2, 1) := by decide +kernel
theorem dX7_grow_54 : decode cX7_grow 54 = .ok (.invokevirtual 139, 3) := by decide +kernel
theorem dX7_grow_57 : decode cX7_grow 57 = .ok (.istore 4, 2) := by decide +kernel
theorem dX7_grow_59 : decode cX7_grow 59 = .ok (.aload_n 0, 1) := by decide +kernel
theorem dX7_grow_60 : decode cX7_grow 60 = .ok (.iload_n 3, 1) := by decide +kernel
theorem dX7_grow_61 : decode cX7_grow 61 = .ok (.aload_n 0, 1) := by decide +kernel
theorem dX7_grow_62 : decode cX7_grow 62 = .ok (.iload_n 3, 1) := by decide +kernel
theorem dX7_grow_63 : decode cX7_grow 63 = .ok (.iload_n 1, 1) := by decide +kernel
theorem dX7_grow_64 : decode cX7_grow 64 = .ok (.invokevirtual 70, 3) := by decide +kernel
theorem dX7_grow_67 : decode cX7_grow 67 = .ok (.iload_n 2, 1) := by decide +kernel
theorem dX7_grow_68 : decode cX7_grow 68 = .ok (.aload_n 0, 1) := by decide +kernel
theorem dX7_grow_69 : decode cX7_grow 69 = .ok (.iload_n 3, 1) := by decide +kernel
theorem dX7_grow_70 : decode cX7_grow 70 = .ok (.iconst 2, 1) := by decide +kernel
theorem dX7_grow_71 : decode cX7_grow 71 = .ok (.invokevirtual 56, 3) := by decide +kernel
theorem dX7_grow_74 : decode cX7_grow 74 = .ok (.invokevirtual 48, 3) := by decide +kernel
theorem dX7_grow_77 : decode cX7_grow 77 = .ok (.aload_n 0, 1) := by decide +kernel
theorem dX7_grow_78 : decode cX7_grow 78 = .ok (.iload 4, 2) := by decide +kernel
theorem dX7_grow_80 : decode cX7_grow 80 = .ok (.aload_n 0, 1) := by decide +kernel
theorem dX7_grow_81 : decode cX7_grow 81 = .ok (.iload 4, 2) := by decide +kernel
theorem dX7_grow_83 : decode cX7_grow 83 = .ok (.iload_n 1, 1) := by decide +kernel
theorem dX7_grow_84 : decode cX7_grow 84 = .ok (.invokevirtual 70, 3) := by decide +kernel
theorem dX7_grow_87 : decode cX7_grow 87 = .ok (.iload_n 2, 1) := by decide +kernel
theorem dX7_grow_88 : decode cX7_grow 88 = .ok (.iconst 1, 1) := by decide +kernel
theorem dX7_grow_89 : decode cX7_grow 89 = .ok (.iadd, 1) := by decide +kernel
theorem dX7_grow_90 : decode cX7_grow 90 = .ok (.aload_n 0, 1) := by decide +kernel
theorem dX7_grow_91 : decode cX7_grow 91 = .ok (.iload 4, 2) := by decide +kernel
theorem dX7_grow_93 : decode cX7_grow 93 = .ok (.iconst 2, 1) := by decide +kernel
theorem dX7_grow_94 : decode cX7_grow 94 = .ok (.invokevirtual 56, 3) := by decide +kernel
theorem dX7_grow_97 : decode cX7_grow 97 = .ok (.invokevirtual 48, 3) := by decide +kernel
theorem dX7_grow_100 : decode cX7_grow 100 = .ok (.aload_n 0, 1) := by decide +kernel
theorem dX7_grow_101 : decode cX7_grow 101 = .ok (.getfield 7, 3) := by decide +kernel
theorem dX7_grow_104 : decode cX7_grow 104 = .ok (.iconst 0, 1) := by decide +kernel
theorem dX7_grow_105 : decode cX7_grow 105 = .ok (.dup2, 1) := by decide +kernel
theorem dX7_grow_106 : decode cX7_grow 106 = .ok (.iaload, 1) := by decide +kernel
theorem dX7_grow_107 : decode cX7_grow 107 = .ok (.iconst 2, 1) := by decide +kernel
theorem dX7_grow_108 : decode cX7_grow 108 = .ok (.iadd, 1) := by decide +kernel
theorem dX7_grow_109 : decode cX7_grow 109 = .ok (.iastore, 1) := by decide +kernel
theorem dX7_grow_110 : decode cX7_grow 110 = .ok (.aload_n 0, 1) := by decide +kernel
theorem dX7_grow_111 : decode cX7_grow 111 = .ok (.iload_n 1, 1) := by decide +kernel
theorem dX7_grow_112 : decode cX7_grow 112 = .ok (.iload_n 2, 1) := by decide +kernel
theorem dX7_grow_113 : decode cX7_grow 113 = .ok (.invokevirtual 115, 3) := by decide +kernel
theorem dX7_grow_116 : decode cX7_grow 116 = .ok (.aload_n 0, 1) := by decide +kernel
theorem dX7_grow_117 : decode cX7_grow 117 = .ok (.iload_n 1, 1) := by decide +kernel
theorem dX7_grow_118 : decode cX7_grow 118 = .ok (.iload_n 2, 1) := by decide +kernel
theorem dX7_grow_119 : decode cX7_grow 119 = .ok (.iconst 1, 1) := by decide +kernel
theorem dX7_grow_120 : decode cX7_grow 120 = .ok (.iadd, 1) := by decide +kernel
theorem dX7_grow_121 : decode cX7_grow 121 = .ok (.invokevirtual 115, 3) := by decide +kernel
theorem dX7_grow_124 : decode cX7_grow 124 = .ok (.aload_n 0, 1) := by decide +kernel
theorem dX7_grow_125 : decode cX7_grow 125 = .ok (.iload_n 2, 1) := by decide +kernel
theorem dX7_grow_126 : decode cX7_grow 126 = .ok (.iload_n 2, 1) := by decide +kernel
theorem dX7_grow_127 : decode cX7_grow 127 = .ok (.iconst 1, 1) := by decide +kernel
theorem dX7_grow_128 : decode cX7_grow 128 = .ok (.iadd, 1) := by decide +kernel
theorem dX7_grow_129 : decode cX7_grow 129 = .ok (.invokevirtual 115, 3) := by decide +kernel
theorem dX7_grow_132 : decode cX7_grow 132 = .ok (.iload_n 2, 1) := by decide +kernel
theorem dX7_grow_133 : decode cX7_grow 133 = .ok (.ireturn, 1) := by decide +kernel
set_option maxRecDepth 20000 in
theorem ggX7_corners_X7_neighbours : GoodIn wsX7_corners wsX7_neighbours := goodIn_r _ [6, 1, 7, 8, 9, 5, 10, 11, 12, 13, 14, 15, 16, 17, 18, 37, 38, 39, 40, 41, 42, 43, 44, 45, 46, 47, 48, 49, 50, 51, 52, 53, 54, 55, 56] (by decide +kernel) (by decide +kernel)
set_option maxRecDepth 20000 in
theorem gX7_corners_X7_neighbours : GoodIn wsX7_corners (wsV RX7 142 RX7 yX7_neighbours wsX7_neighbours) := goodIn_app (goodIn_of _ (by decide +kernel)) ggX7_corners_X7_neighbours
set_option maxRecDepth 20000 in
theorem ggX7_corners_X7_degree : GoodIn wsX7_corners wsX7_degree := goodIn_r _ [22, 23, 24, 25, 5, 26, 1, 7, 8, 9, 10, 11, 12, 13, 14, 27, 28, 29, 37, 38, 39, 40, 41, 42, 43, 44, 45, 46, 47, 48, 49, 50, 51, 52, 53, 54, 55, 56] (by decide +kernel) (by decide +kernel)
set_option maxRecDepth 20000 in
theorem gX7_corners_X7_degree : GoodIn wsX7_corners (wsV RX7 73 RX7 yX7_degree wsX7_degree) := goodIn_app (goodIn_of _ (by decide +kernel)) ggX7_corners_X7_degree
set_option maxRecDepth 20000 in
theorem ggX7_corners_X7_has : GoodIn wsX7_corners wsX7_has := goodIn_r _ [32] (by decide +kernel) (by decide +kernel)
set_option maxRecDepth 20000 in
theorem gX7_corners_X7_has : GoodIn wsX7_corners (va_wsS RX7 44 yX7_has wsX7_has) := goodIn_app (goodIn_of _ (by decide +kernel)) ggX7_corners_X7_has
set_option maxRecDepth 20000 in
theorem ggX7_corners_X7_threadBetween : GoodIn wsX7_corners wsX7_threadBetween := goodIn_r _ [36, 1, 7, 8, 9, 5, 10, 11, 12, 13, 14, 37, 38, 39, 40, 41, 42, 43, 44, 45, 46, 47, 48, 49, 50, 51, 52, 53, 54, 55, 56] (by decide +kernel) (by decide +kernel)
set_option maxRecDepth 20000 in
theorem gX7_corners_X7_threadBetween : GoodIn wsX7_corners (wsV RX7 130 RX7 yX7_threadBetween wsX7_threadBetween) := goodIn_app (goodIn_of _ (by decide +kernel)) ggX7_corners_X7_threadBetween
theorem dX7_corners_0 : decode cX7_corners 0 = .ok (.aload_n 0, 1) := by decide +kernel
theorem dX7_corners_1 : decode cX7_corners 1 = .ok (.iload_n 1, 1) := by decide +kernel
theorem dX7_corners_2 : decode cX7_corners 2 = .ok (.invokevirtual 142, 3) := by decide +kernel
theorem dX7_corners_5 : decode cX7_corners 5 = .ok (.istore_n 2, 1) := by decide +kernel
theorem dX7_corners_6 : decode cX7_corners 6 = .ok (.iconst 0, 1) := by decide +kernel
theorem dX7_corners_7 : decode cX7_corners 7 = .ok (.istore_n 3, 1) := by decide +kernel
theorem dX7_corners_8 : decode cX7_corners 8 = .ok (.iload_n 3, 1) := by decide +kernel
theorem dX7_corners_9 : decode cX7_corners 9 = .ok (.aload_n 0, 1) := by decide +kernel
theorem dX7_corners_10 : decode cX7_corners 10 = .ok (.getfield 7, 3) := by decide +kernel
theorem dX7_corners_13 : decode cX7_corners 13 = .ok (.iconst 0, 1) := by decide +kernel
theorem dX7_corners_14 : decode cX7_corners 14 = .ok (.iaload, 1) := by decide +kernel
theorem dX7_corners_15 : decode cX7_corners 15 = .ok (.if_icmp .ge 107, 3) := by decide +kernel
theorem dX7_corners_18 : decode cX7_corners 18 = .ok (.aload_n 0, 1) := by decide +kernel
theorem dX7_corners_19 : decode cX7_corners 19 = .ok (.iload_n 1, 1) := by decide +kernel
theorem dX7_corners_20 : decode cX7_corners 20 = .ok (.invokevirtual 73, 3) := by decide +kernel
theorem dX7_corners_23 : decode cX7_corners 23 = .ok (.iconst 3, 1) := by decide +kernel
theorem dX7_corners_24 : decode cX7_corners 24 = .ok (.if_icmp .ne 98, 3) := by decide +kernel
theorem dX7_corners_27 : decode cX7_corners 27 = .ok (.iload_n 3, 1) := by decide +kernel
theorem dX7_corners_28 : decode cX7_corners 28 = .ok (.iconst 1, 1) := by decide +kernel
theorem dX7_corners_29 : decode cX7_corners 29 = .ok (.iadd, 1) := by decide +kernel
theorem dX7_corners_30 : decode cX7_corners 30 = .ok (.istore 4, 2) := by decide +kernel
theorem dX7_corners_32 : decode cX7_corners 32 = .ok (.iload 4, 2) := by decide +kernel
theorem dX7_corners_34 : decode cX7_corners 34 = .ok (.aload_n 0, 1) := by decide +kernel
theorem dX7_corners_35 : decode cX7_corners 35 = .ok (.getfield 7, 3) := by decide +kernel
theorem dX7_corners_38 : decode cX7_corners 38 = .ok (.iconst 0, 1) := by decide +kernel
theorem dX7_corners_39 : decode cX7_corners 39 = .ok (.iaload, 1) := by decide +kernel
theorem dX7_corners_40 : decode cX7_corners 40 = .ok (.if_icmp .ge 76, 3) := by decide +kernel
theorem dX7_corners_43 : decode cX7_corners 43 = .ok (.iload_n 2, 1) := by decide +kernel
theorem dX7_corners_44 : decode cX7_corners 44 = .ok (.iload_n 3, 1) := by decide +kernel
theorem dX7_corners_45 : decode cX7_corners 45 = .ok (.invokestatic 44, 3) := by decide +kernel
theorem dX7_corners_48 : decode cX7_corners 48 = .ok (.ifCond .eq 26, 3) := by decide +kernel
theorem dX7_corners_51 : decode cX7_corners 51 = .ok (.iload_n 2, 1) := by decide +kernel
theorem dX7_corners_52 : decode cX7_corners 52 = .ok (.iload 4, 2) := by decide +kernel
theorem dX7_corners_54 : decode cX7_corners 54 = .ok (.invokestatic 44, 3) := by decide +kernel
theorem dX7_corners_57 : decode cX7_corners 57 = .ok (.ifCond .eq 17, 3) := by decide +kernel
theorem dX7_corners_60 : decode cX7_corners 60 = .ok (.aload_n 0, 1) := by decide +kernel
theorem dX7_corners_61 : decode cX7_corners 61 = .ok (.iload_n 3, 1) := by decide +kernel
theorem dX7_corners_62 : decode cX7_corners 62 = .ok (.iload 4, 2) := by decide +kernel
theorem dX7_corners_64 : decode cX7_corners 64 = .ok (.invokevirtual 130, 3) := by decide +kernel
theorem dX7_corners_67 : decode cX7_corners 67 = .ok (.ifCond .lt 7, 3) := by decide +kernel
theorem dX7_corners_70 : decode cX7_corners 70 = .ok (.iconst 1, 1) := by decide +kernel
theorem dX7_corners_71 : decode cX7_corners 71 = .ok (.goto 4, 3) := by decide +kernel
theorem dX7_corners_74 : decode cX7_corners 74 = .ok (.iconst 0, 1) := by decide +kernel
theorem dX7_corners_75 : decode cX7_corners 75 = .ok (.istore 5, 2) := by decide +kernel
theorem dX7_corners_77 : decode cX7_corners 77 = .ok (.iload 5, 2) := by decide +kernel
theorem dX7_corners_79 : decode cX7_corners 79 = .ok (.ifCond .eq 31, 3) := by decide +kernel
theorem dX7_corners_82 : decode cX7_corners 82 = .ok (.aload_n 0, 1) := by decide +kernel
theorem dX7_corners_83 : decode cX7_corners 83 = .ok (.iload_n 3, 1) := by decide +kernel
theorem dX7_corners_84 : decode cX7_corners 84 = .ok (.invokevirtual 73, 3) := by decide +kernel
theorem dX7_corners_87 : decode cX7_corners 87 = .ok (.iconst 3, 1) := by decide +kernel
theorem dX7_corners_88 : decode cX7_corners 88 = .ok (.if_icmp .ne 22, 3) := by decide +kernel
theorem dX7_corners_91 : decode cX7_corners 91 = .ok (.aload_n 0, 1) := by decide +kernel
theorem dX7_corners_92 : decode cX7_corners 92 = .ok (.iload 4, 2) := by decide +kernel
theorem dX7_corners_94 : decode cX7_corners 94 = .ok (.invokevirtual 73, 3) := by decide +kernel
theorem dX7_corners_97 : decode cX7_corners 97 = .ok (.iconst 3, 1) := by decide +kernel
theorem dX7_corners_98 : decode cX7_corners 98 = .ok (.if_icmp .ne 12, 3) := by decide +kernel
theorem dX7_corners_101 : decode cX7_corners 101 = .ok (.iconst 1, 1) := by decide +kernel
theorem dX7_corners_102 : decode cX7_corners 102 = .ok (.iload_n 3, 1) := by decide +kernel
theorem dX7_corners_103 : decode cX7_corners 103 = .ok (.ishl, 1) := by decide +kernel
theorem dX7_corners_104 : decode cX7_corners 104 = .ok (.iconst 1, 1) := by decide +kernel
theorem dX7_corners_105 : decode cX7_corners 105 = .ok (.iload 4, 2) := by decide +kernel
theorem dX7_corners_107 : decode cX7_corners 107 = .ok (.ishl, 1) := by decide +kernel
theorem dX7_corners_108 : decode cX7_corners 108 = .ok (.ior, 1) := by decide +kernel
theorem dX7_corners_109 : decode cX7_corners 109 = .ok (.ireturn, 1) := by decide +kernel
theorem dX7_corners_110 : decode cX7_corners 110 = .ok (.iinc 4 1, 3) := by decide +kernel
theorem dX7_corners_113 : decode cX7_corners 113 = .ok (.goto (-81), 3) := by decide +kernel
theorem dX7_corners_116 : decode cX7_corners 116 = .ok (.iinc 3 1, 3) := by decide +kernel
theorem dX7_corners_119 : decode cX7_corners 119 = .ok (.goto (-111), 3) := by decide +kernel
theorem dX7_corners_122 : decode cX7_corners 122 = .ok (.iconst 0, 1) := by decide +kernel
theorem dX7_corners_123 : decode cX7_corners 123 = .ok (.ireturn, 1) := by decide +kernel
set_option maxRecDepth 20000 in
theorem ggX7_beyond_X7_neighbours : GoodIn wsX7_beyond wsX7_neighbours := goodIn_r _ [5, 6, 7, 8, 9, 4, 10, 11, 12, 13, 14, 15, 16, 17, 18, 25, 26, 27, 28, 29, 30, 31, 32, 33, 34, 35, 36, 37, 38, 39, 40, 41, 42, 43, 44] (by decide +kernel) (by decide +kernel)
set_option maxRecDepth 20000 in
theorem gX7_beyond_X7_neighbours : GoodIn wsX7_beyond (wsV RX7 142 RX7 yX7_neighbours wsX7_neighbours) := goodIn_app (goodIn_of _ (by decide +kernel)) ggX7_beyond_X7_neighbours
set_option maxRecDepth 20000 in
theorem ggX7_beyond_X7_lowest : GoodIn wsX7_beyond wsX7_lowest := goodIn_r _ [21, 22, 23, 4, 24] (by decide +kernel) (by decide +kernel)
set_option maxRecDepth 20000 in
theorem gX7_beyond_X7_lowest : GoodIn wsX7_beyond (va_wsS RX7 136 yX7_lowest wsX7_lowest) := goodIn_app (goodIn_of _ (by decide +kernel)) ggX7_beyond_X7_lowest
theorem dX7_beyond_0 : decode cX7_beyond 0 = .ok (.aload_n 0, 1) := by decide +kernel
theorem dX7_beyond_1 : decode cX7_beyond 1 = .ok (.iload_n 1, 1) := by decide +kernel
theorem dX7_beyond_2 : decode cX7_beyond 2 = .ok (.invokevirtual 142, 3) := by decide +kernel
theorem dX7_beyond_5 : decode cX7_beyond 5 = .ok (.iload_n 2, 1) := by decide +kernel
theorem dX7_beyond_6 : decode cX7_beyond 6 = .ok (.iconst (-1), 1) := by decide +kernel
theorem dX7_beyond_7 : decode cX7_beyond 7 = .ok (.ixor, 1) := by decide +kernel
theorem dX7_beyond_8 : decode cX7_beyond 8 = .ok (.iand, 1) := by decide +kernel
theorem dX7_beyond_9 : decode cX7_beyond 9 = .ok (.invokestatic 136, 3) := by decide +kernel
theorem dX7_beyond_12 : decode cX7_beyond 12 = .ok (.ireturn, 1) := by decide +kernel
set_option maxRecDepth 20000 in
theorem ggX7_leadsTo_X7_threadBetween : GoodIn wsX7_leadsTo wsX7_threadBetween := goodIn_r _ [5, 6, 7, 8, 9, 4, 10, 11, 12, 13, 14, 19, 20, 21, 22, 23, 24, 25, 26, 27, 28, 29, 30, 31, 32, 33, 34, 35, 36, 37, 38] (by decide +kernel) (by decide +kernel)
set_option maxRecDepth 20000 in
theorem gX7_leadsTo_X7_threadBetween : GoodIn wsX7_leadsTo (wsV RX7 130 RX7 yX7_threadBetween wsX7_threadBetween) := goodIn_app (goodIn_of _ (by decide +kernel)) ggX7_leadsTo_X7_threadBetween
set_option maxRecDepth 20000 in
theorem ggX7_leadsTo_X7_of : GoodIn wsX7_leadsTo wsX7_of := goodIn_r _ [14, 6, 19, 20, 21, 22, 23, 24, 25, 26, 27, 28, 29, 30, 31, 32, 33, 34, 35, 36, 37, 38] (by decide +kernel) (by decide +kernel)
set_option maxRecDepth 20000 in
theorem gX7_leadsTo_X7_of : GoodIn wsX7_leadsTo (wsV RX7 56 RX7 yX7_of wsX7_of) := goodIn_app (goodIn_of _ (by decide +kernel)) ggX7_leadsTo_X7_of
set_option maxRecDepth 20000 in
theorem ggX7_leadsTo_X7_put : GoodIn wsX7_leadsTo wsX7_put := goodIn_r _ [18, 6, 19, 20, 21, 22, 23, 24, 25, 26, 27, 28, 29, 30, 31, 32, 33, 34, 35, 36, 37, 38] (by decide +kernel) (by decide +kernel)
set_option maxRecDepth 20000 in
theorem gX7_leadsTo_X7_put : GoodIn wsX7_leadsTo (wsV RX7 48 RX7 yX7_put wsX7_put) := goodIn_app (goodIn_of _ (by decide +kernel)) ggX7_leadsTo_X7_put
theorem dX7_leadsTo_0 : decode cX7_leadsTo 0 = .ok (.aload_n 0, 1) := by decide +kernel
theorem dX7_leadsTo_1 : decode cX7_leadsTo 1 = .ok (.iload_n 1, 1) := by decide +kernel
theorem dX7_leadsTo_2 : decode cX7_leadsTo 2 = .ok (.iload_n 2, 1) := by decide +kernel
theorem dX7_leadsTo_3 : decode cX7_leadsTo 3 = .ok (.invokevirtual 130, 3) := by decide +kernel
theorem dX7_leadsTo_6 : decode cX7_leadsTo 6 = .ok (.istore 4, 2) := by decide +kernel
theorem dX7_leadsTo_8 : decode cX7_leadsTo 8 = .ok (.aload_n 0, 1) := by decide +kernel
theorem dX7_leadsTo_9 : decode cX7_leadsTo 9 = .ok (.iload 4, 2) := by decide +kernel
theorem dX7_leadsTo_11 : decode cX7_leadsTo 11 = .ok (.iload_n 2, 1) := by decide +kernel
theorem dX7_leadsTo_12 : decode cX7_leadsTo 12 = .ok (.iload_n 3, 1) := by decide +kernel
theorem dX7_leadsTo_13 : decode cX7_leadsTo 13 = .ok (.aload_n 0, 1) := by decide +kernel
theorem dX7_leadsTo_14 : decode cX7_leadsTo 14 = .ok (.iload 4, 2) := by decide +kernel
theorem dX7_leadsTo_16 : decode cX7_leadsTo 16 = .ok (.iconst 2, 1) := by decide +kernel
theorem dX7_leadsTo_17 : decode cX7_leadsTo 17 = .ok (.invokevirtual 56, 3) := by decide +kernel
theorem dX7_leadsTo_20 : decode cX7_leadsTo 20 = .ok (.invokevirtual 48, 3) := by decide +kernel
theorem dX7_leadsTo_23 : decode cX7_leadsTo 23 = .ok (.return_, 1) := by decide +kernel
set_option maxRecDepth 20000 in
theorem ggX7_shrink_X7_isKnot : GoodIn wsX7_shrink wsX7_isKnot := goodIn_r _ [6, 1, 7, 8, 5, 9, 77, 78, 79, 80, 81, 82, 83, 84, 85, 86, 87, 88, 89, 90, 91, 92, 93, 94, 95, 96] (by decide +kernel) (by decide +kernel)
set_option maxRecDepth 20000 in
theorem gX7_shrink_X7_isKnot : GoodIn wsX7_shrink (wsV RX7 119 RX7 yX7_isKnot wsX7_isKnot) := goodIn_app (goodIn_of _ (by decide +kernel)) ggX7_shrink_X7_isKnot
set_option maxRecDepth 20000 in
theorem ggX7_shrink_X7_corners : GoodIn wsX7_shrink wsX7_corners := goodIn_r _ [13, 1, 14, 15, 16, 5, 17, 18, 19, 20, 21, 22, 23, 24, 25, 26, 27, 28, 29, 30, 31, 32, 33, 34, 35, 36, 37, 38, 39, 40, 41, 42, 43, 44, 45, 46, 47, 77, 78, 79, 80, 81, 82, 83, 84, 85, 86, 87, 88, 89, 90, 91, 92, 93, 94, 95, 96] (by decide +kernel) (by decide +kernel)
set_option maxRecDepth 20000 in
theorem gX7_shrink_X7_corners : GoodIn wsX7_shrink (wsV RX7 145 RX7 yX7_corners wsX7_corners) := goodIn_app (goodIn_of _ (by decide +kernel)) ggX7_shrink_X7_corners
set_option maxRecDepth 20000 in
theorem ggX7_shrink_X7_lowest : GoodIn wsX7_shrink wsX7_lowest := goodIn_r _ [50, 41, 42, 5, 43] (by decide +kernel) (by decide +kernel)
set_option maxRecDepth 20000 in
theorem gX7_shrink_X7_lowest : GoodIn wsX7_shrink (va_wsS RX7 136 yX7_lowest wsX7_lowest) := goodIn_app (goodIn_of _ (by decide +kernel)) ggX7_shrink_X7_lowest
set_option maxRecDepth 20000 in
theorem ggX7_shrink_X7_beyond : GoodIn wsX7_shrink wsX7_beyond := goodIn_r _ [54, 14, 15, 16, 5, 17, 1, 18, 19, 20, 21, 22, 23, 24, 25, 26, 27, 28, 29, 48, 49, 50, 41, 42, 43, 77, 78, 79, 80, 81, 82, 83, 84, 85, 86, 87, 88, 89, 90, 91, 92, 93, 94, 95, 96] (by decide +kernel) (by decide +kernel)
set_option maxRecDepth 20000 in
theorem gX7_shrink_X7_beyond : GoodIn wsX7_shrink (wsV RX7 148 RX7 yX7_beyond wsX7_beyond) := goodIn_app (goodIn_of _ (by decide +kernel)) ggX7_shrink_X7_beyond
set_option maxRecDepth 20000 in
theorem ggX7_shrink_X7_records : GoodIn wsX7_shrink wsX7_records := goodIn_r _ [58, 59, 60, 1, 77, 78, 79, 80, 81, 82, 83, 84, 85, 86, 87, 88, 89, 90, 91, 92, 93, 94, 95, 96] (by decide +kernel) (by decide +kernel)
set_option maxRecDepth 20000 in
theorem gX7_shrink_X7_records : GoodIn wsX7_shrink (wsV RX7 84 RX7 yX7_records wsX7_records) := goodIn_app (goodIn_of _ (by decide +kernel)) ggX7_shrink_X7_records
set_option maxRecDepth 20000 in
theorem ggX7_shrink_X7_leadsTo : GoodIn wsX7_shrink wsX7_leadsTo := goodIn_r _ [64, 44, 45, 46, 5, 47, 1, 18, 19, 20, 21, 22, 23, 24, 25, 65, 66, 67, 68, 77, 78, 79, 80, 81, 82, 83, 84, 85, 86, 87, 88, 89, 90, 91, 92, 93, 94, 95, 96] (by decide +kernel) (by decide +kernel)
set_option maxRecDepth 20000 in
theorem gX7_shrink_X7_leadsTo : GoodIn wsX7_shrink (wsV RX7 151 RX7 yX7_leadsTo wsX7_leadsTo) := goodIn_app (goodIn_of _ (by decide +kernel)) ggX7_shrink_X7_leadsTo
set_option maxRecDepth 20000 in
theorem ggX7_shrink_X7_threadBetween : GoodIn wsX7_shrink wsX7_threadBetween := goodIn_r _ [47, 1, 18, 19, 20, 5, 21, 22, 23, 24, 25, 77, 78, 79, 80, 81, 82, 83, 84, 85, 86, 87, 88, 89, 90, 91, 92, 93, 94, 95, 96] (by decide +kernel) (by decide +kernel)
set_option maxRecDepth 20000 in
theorem gX7_shrink_X7_threadBetween : GoodIn wsX7_shrink (wsV RX7 130 RX7 yX7_threadBetween wsX7_threadBetween) := goodIn_app (goodIn_of _ (by decide +kernel)) ggX7_shrink_X7_threadBetween
set_option maxRecDepth 20000 in
theorem ggX7_shrink_X7_dropThread : GoodIn wsX7_shrink wsX7_dropThread := goodIn_r _ [72, 1, 77, 78, 79, 80, 81, 82, 83, 84, 85, 86, 87, 88, 89, 90, 91, 92, 93, 94, 95, 96] (by decide +kernel) (by decide +kernel)
set_option maxRecDepth 20000 in
theorem gX7_shrink_X7_dropThread : GoodIn wsX7_shrink (wsV RX7 123 RX7 yX7_dropThread wsX7_dropThread) := goodIn_app (goodIn_of _ (by decide +kernel)) ggX7_shrink_X7_dropThread
set_option maxRecDepth 20000 in
theorem ggX7_shrink_X7_dropKnot : GoodIn wsX7_shrink wsX7_dropKnot := goodIn_r _ [76, 1, 22, 23, 24, 5, 25, 65, 66, 67, 68, 77, 78, 79, 80, 81, 82, 83, 84, 85, 86, 87, 88, 89, 90, 91, 92, 93, 94, 95, 96] (by decide +kernel) (by decide +kernel)
set_option maxRecDepth 20000 in
theorem gX7_shrink_X7_dropKnot : GoodIn wsX7_shrink (wsV RX7 127 RX7 yX7_dropKnot wsX7_dropKnot) := goodIn_app (goodIn_of _ (by decide +kernel)) ggX7_shrink_X7_dropKnot
theorem dX7_shrink_0 : decode cX7_shrink 0 = .ok (.aload_n 0, 1) := by decide +kernel
theorem dX7_shrink_1 : decode cX7_shrink 1 = .ok (.iload_n 1, 1) := by decide +kernel
theorem dX7_shrink_2 : decode cX7_shrink 2 = .ok (.invokevirtual 119, 3) := by decide +kernel
theorem dX7_shrink_5 : decode cX7_shrink 5 = .ok (.ifCond .ne 5, 3) := by decide +kernel
theorem dX7_shrink_8 : decode cX7_shrink 8 = .ok (.iconst (-1), 1) := by decide +kernel
theorem dX7_shrink_9 : decode cX7_shrink 9 = .ok (.ireturn, 1) := by decide +kernel
theorem dX7_shrink_10 : decode cX7_shrink 10 = .ok (.aload_n 0, 1) := by decide +kernel
theorem dX7_shrink_11 : decode cX7_shrink 11 = .ok (.iload_n 1, 1) := by decide +kernel
theorem dX7_shrink_12 : decode cX7_shrink 12 = .ok (.invokevirtual 145, 3) := by decide +kernel
theorem dX7_shrink_15 : decode cX7_shrink 15 = .ok (.istore_n 2, 1) := by decide +kernel
theorem dX7_shrink_16 : decode cX7_shrink 16 = .ok (.iload_n 2, 1) := by decide +kernel
theorem dX7_shrink_17 : decode cX7_shrink 17 = .ok (.ifCond .ne 6, 3) := by decide +kernel
theorem dX7_shrink_20 : decode cX7_shrink 20 = .ok (.bipush (-4), 2) := by decide +kernel
theorem dX7_shrink_22 : decode cX7_shrink 22 = .ok (.ireturn, 1) := by decide +kernel
theorem dX7_shrink_23 : decode cX7_shrink 23 = .ok (.iload_n 2, 1) := by decide +kernel
theorem dX7_shrink_24 : decode cX7_shrink 24 = .ok (.iconst 1, 1) := by decide +kernel
theorem dX7_shrink_25 : decode cX7_shrink 25 = .ok (.iload_n 1, 1) := by decide +kernel
theorem dX7_shrink_26 : decode cX7_shrink 26 = .ok (.ishl, 1) := by decide +kernel
theorem dX7_shrink_27 : decode cX7_shrink 27 = .ok (.ior, 1) := by decide +kernel
theorem dX7_shrink_28 : decode cX7_shrink 28 = .ok (.istore_n 3, 1) := by decide +kernel
theorem dX7_shrink_29 : decode cX7_shrink 29 = .ok (.iload_n 2, 1) := by decide +kernel
theorem dX7_shrink_30 : decode cX7_shrink 30 = .ok (.invokestatic 136, 3) := by decide +kernel
theorem dX7_shrink_33 : decode cX7_shrink 33 = .ok (.istore 4, 2) := by decide +kernel
theorem dX7_shrink_35 : decode cX7_shrink 35 = .ok (.iload_n 2, 1) := by decide +kernel
theorem dX7_shrink_36 : decode cX7_shrink 36 = .ok (.iload_n 2, 1) := by decide +kernel
theorem dX7_shrink_37 : decode cX7_shrink 37 = .ok (.iconst 1, 1) := by decide +kernel
theorem dX7_shrink_38 : decode cX7_shrink 38 = .ok (.isub, 1) := by decide +kernel
theorem dX7_shrink_39 : decode cX7_shrink 39 = .ok (.iand, 1) := by decide +kernel
theorem dX7_shrink_40 : decode cX7_shrink 40 = .ok (.invokestatic 136, 3) := by decide +kernel
theorem dX7_shrink_43 : decode cX7_shrink 43 = .ok (.istore 5, 2) := by decide +kernel
theorem dX7_shrink_45 : decode cX7_shrink 45 = .ok (.aload_n 0, 1) := by decide +kernel
theorem dX7_shrink_46 : decode cX7_shrink 46 = .ok (.iload 4, 2) := by decide +kernel
theorem dX7_shrink_48 : decode cX7_shrink 48 = .ok (.iload_n 3, 1) := by decide +kernel
theorem dX7_shrink_49 : decode cX7_shrink 49 = .ok (.invokevirtual 148, 3) := by decide +kernel
theorem dX7_shrink_52 : decode cX7_shrink 52 = .ok (.istore 6, 2) := by decide +kernel
theorem dX7_shrink_54 : decode cX7_shrink 54 = .ok (.aload_n 0, 1) := by decide +kernel
theorem dX7_shrink_55 : decode cX7_shrink 55 = .ok (.iload 5, 2) := by decide +kernel
theorem dX7_shrink_57 : decode cX7_shrink 57 = .ok (.iload_n 3, 1) := by decide +kernel
theorem dX7_shrink_58 : decode cX7_shrink 58 = .ok (.invokevirtual 148, 3) := by decide +kernel
theorem dX7_shrink_61 : decode cX7_shrink 61 = .ok (.istore 7, 2) := by decide +kernel
theorem dX7_shrink_63 : decode cX7_shrink 63 = .ok (.aload_n 0, 1) := by decide +kernel
theorem dX7_shrink_64 : decode cX7_shrink 64 = .ok (.iload_n 1, 1) := by decide +kernel
theorem dX7_shrink_65 : decode cX7_shrink 65 = .ok (.iload_n 3, 1) := by decide +kernel
theorem dX7_shrink_66 : decode cX7_shrink 66 = .ok (.invokevirtual 148, 3) := by decide +kernel
theorem dX7_shrink_69 : decode cX7_shrink 69 = .ok (.istore 8, 2) := by decide +kernel
theorem dX7_shrink_71 : decode cX7_shrink 71 = .ok (.iload 6, 2) := by decide +kernel
theorem dX7_shrink_73 : decode cX7_shrink 73 = .ok (.iload 7, 2) := by decide +kernel
theorem dX7_shrink_75 : decode cX7_shrink 75 = .ok (.if_icmp .eq 17, 3) := by decide +kernel
theorem dX7_shrink_78 : decode cX7_shrink 78 = .ok (.iload 6, 2) := by decide +kernel
theorem dX7_shrink_80 : decode cX7_shrink 80 = .ok (.iload 8, 2) := by decide +kernel
theorem dX7_shrink_82 : decode cX7_shrink 82 = .ok (.if_icmp .eq 10, 3) := by decide +kernel
theorem dX7_shrink_85 : decode cX7_shrink 85 = .ok (.iload 7, 2) := by decide +kernel
theorem dX7_shrink_87 : decode cX7_shrink 87 = .ok (.iload 8, 2) := by decide +kernel
theorem dX7_shrink_89 : decode cX7_shrink 89 = .ok (.if_icmp .ne 6, 3) := by decide +kernel
theorem dX7_shrink_92 : decode cX7_shrink 92 = .ok (.bipush (-4), 2) := by decide +kernel
theorem dX7_shrink_94 : decode cX7_shrink 94 = .ok (.ireturn, 1) := by decide +kernel
theorem dX7_shrink_95 : decode cX7_shrink 95 = .ok (.aload_n 0, 1) := by decide +kernel
theorem dX7_shrink_96 : decode cX7_shrink 96 = .ok (.invokevirtual 84, 3) := by decide +kernel
theorem dX7_shrink_99 : decode cX7_shrink 99 = .ok (.aload_n 0, 1) := by decide +kernel
theorem dX7_shrink_100 : decode cX7_shrink 100 = .ok (.iload 4, 2) := by decide +kernel
theorem dX7_shrink_102 : decode cX7_shrink 102 = .ok (.iload 6, 2) := by decide +kernel
theorem dX7_shrink_104 : decode cX7_shrink 104 = .ok (.iload_n 1, 1) := by decide +kernel
theorem dX7_shrink_105 : decode cX7_shrink 105 = .ok (.invokevirtual 151, 3) := by decide +kernel
theorem dX7_shrink_108 : decode cX7_shrink 108 = .ok (.aload_n 0, 1) := by decide +kernel
theorem dX7_shrink_109 : decode cX7_shrink 109 = .ok (.iload 5, 2) := by decide +kernel
theorem dX7_shrink_111 : decode cX7_shrink 111 = .ok (.iload 7, 2) := by decide +kernel
theorem dX7_shrink_113 : decode cX7_shrink 113 = .ok (.iload_n 1, 1) := by decide +kernel
theorem dX7_shrink_114 : decode cX7_shrink 114 = .ok (.invokevirtual 151, 3) := by decide +kernel
theorem dX7_shrink_117 : decode cX7_shrink 117 = .ok (.aload_n 0, 1) := by decide +kernel
theorem dX7_shrink_118 : decode cX7_shrink 118 = .ok (.aload_n 0, 1) := by decide +kernel
theorem dX7_shrink_119 : decode cX7_shrink 119 = .ok (.iload_n 1, 1) := by decide +kernel
theorem dX7_shrink_120 : decode cX7_shrink 120 = .ok (.iload 4, 2) := by decide +kernel
theorem dX7_shrink_122 : decode cX7_shrink 122 = .ok (.invokevirtual 130, 3) := by decide +kernel
theorem dX7_shrink_125 : decode cX7_shrink 125 = .ok (.invokevirtual 123, 3) := by decide +kernel
theorem dX7_shrink_128 : decode cX7_shrink 128 = .ok (.aload_n 0, 1) := by decide +kernel
theorem dX7_shrink_129 : decode cX7_shrink 129 = .ok (.aload_n 0, 1) := by decide +kernel
theorem dX7_shrink_130 : decode cX7_shrink 130 = .ok (.iload_n 1, 1) := by decide +kernel
theorem dX7_shrink_131 : decode cX7_shrink 131 = .ok (.iload 5, 2) := by decide +kernel
theorem dX7_shrink_133 : decode cX7_shrink 133 = .ok (.invokevirtual 130, 3) := by decide +kernel
theorem dX7_shrink_136 : decode cX7_shrink 136 = .ok (.invokevirtual 123, 3) := by decide +kernel
theorem dX7_shrink_139 : decode cX7_shrink 139 = .ok (.aload_n 0, 1) := by decide +kernel
theorem dX7_shrink_140 : decode cX7_shrink 140 = .ok (.aload_n 0, 1) := by decide +kernel
theorem dX7_shrink_141 : decode cX7_shrink 141 = .ok (.iload 4, 2) := by decide +kernel
theorem dX7_shrink_143 : decode cX7_shrink 143 = .ok (.iload 5, 2) := by decide +kernel
theorem dX7_shrink_145 : decode cX7_shrink 145 = .ok (.invokevirtual 130, 3) := by decide +kernel
theorem dX7_shrink_148 : decode cX7_shrink 148 = .ok (.invokevirtual 123, 3) := by decide +kernel
theorem dX7_shrink_151 : decode cX7_shrink 151 = .ok (.aload_n 0, 1) := by decide +kernel
theorem dX7_shrink_152 : decode cX7_shrink 152 = .ok (.iload 5, 2) := by decide +kernel
theorem dX7_shrink_154 : decode cX7_shrink 154 = .ok (.invokevirtual 127, 3) := by decide +kernel
theorem dX7_shrink_157 : decode cX7_shrink 157 = .ok (.aload_n 0, 1) := by decide +kernel
theorem dX7_shrink_158 : decode cX7_shrink 158 = .ok (.iload 4, 2) := by decide +kernel
theorem dX7_shrink_160 : decode cX7_shrink 160 = .ok (.invokevirtual 127, 3) := by decide +kernel
theorem dX7_shrink_163 : decode cX7_shrink 163 = .ok (.aload_n 0, 1) := by decide +kernel
theorem dX7_shrink_164 : decode cX7_shrink 164 = .ok (.getfield 7, 3) := by decide +kernel
theorem dX7_shrink_167 : decode cX7_shrink 167 = .ok (.iconst 0, 1) := by decide +kernel
theorem dX7_shrink_168 : decode cX7_shrink 168 = .ok (.iaload, 1) := by decide +kernel
theorem dX7_shrink_169 : decode cX7_shrink 169 = .ok (.ireturn, 1) := by decide +kernel
set_option maxRecDepth 20000 in
theorem ggX7_join_X7_isThread : GoodIn wsX7_join wsX7_isThread := goodIn_r _ [6, 1, 7, 8, 5, 9, 28, 29, 30, 31, 32, 33, 34, 35, 36, 37, 38, 39, 40, 41, 42, 43, 44, 45, 46, 47] (by decide +kernel) (by decide +kernel)
set_option maxRecDepth 20000 in
theorem gX7_join_X7_isThread : GoodIn wsX7_join (wsV RX7 133 RX7 yX7_isThread wsX7_isThread) := goodIn_app (goodIn_of _ (by decide +kernel)) ggX7_join_X7_isThread
set_option maxRecDepth 20000 in
theorem ggX7_join_X7_records : GoodIn wsX7_join wsX7_records := goodIn_r _ [13, 14, 15, 1, 28, 29, 30, 31, 32, 33, 34, 35, 36, 37, 38, 39, 40, 41, 42, 43, 44, 45, 46, 47] (by decide +kernel) (by decide +kernel)
set_option maxRecDepth 20000 in
theorem gX7_join_X7_records : GoodIn wsX7_join (wsV RX7 84 RX7 yX7_records wsX7_records) := goodIn_app (goodIn_of _ (by decide +kernel)) ggX7_join_X7_records
set_option maxRecDepth 20000 in
theorem ggX7_join_X7_of : GoodIn wsX7_join wsX7_of := goodIn_r _ [19, 1, 28, 29, 30, 31, 32, 33, 34, 35, 36, 37, 38, 39, 40, 41, 42, 43, 44, 45, 46, 47] (by decide +kernel) (by decide +kernel)
set_option maxRecDepth 20000 in
theorem gX7_join_X7_of : GoodIn wsX7_join (wsV RX7 56 RX7 yX7_of wsX7_of) := goodIn_app (goodIn_of _ (by decide +kernel)) ggX7_join_X7_of
set_option maxRecDepth 20000 in
theorem ggX7_join_X7_put : GoodIn wsX7_join wsX7_put := goodIn_r _ [23, 1, 28, 29, 30, 31, 32, 33, 34, 35, 36, 37, 38, 39, 40, 41, 42, 43, 44, 45, 46, 47] (by decide +kernel) (by decide +kernel)
set_option maxRecDepth 20000 in
theorem gX7_join_X7_put : GoodIn wsX7_join (wsV RX7 48 RX7 yX7_put wsX7_put) := goodIn_app (goodIn_of _ (by decide +kernel)) ggX7_join_X7_put
set_option maxRecDepth 20000 in
theorem ggX7_join_X7_adds : GoodIn wsX7_join wsX7_adds := goodIn_r _ [27, 1, 20, 21, 22, 5, 23, 28, 29, 30, 31, 32, 33, 34, 35, 36, 37, 38, 39, 40, 41, 42, 43, 44, 45, 46, 47] (by decide +kernel) (by decide +kernel)
set_option maxRecDepth 20000 in
theorem gX7_join_X7_adds : GoodIn wsX7_join (wsV RX7 115 RX7 yX7_adds wsX7_adds) := goodIn_app (goodIn_of _ (by decide +kernel)) ggX7_join_X7_adds
theorem dX7_join_0 : decode cX7_join 0 = .ok (.aload_n 0, 1) := by decide +kernel
theorem dX7_join_1 : decode cX7_join 1 = .ok (.iload_n 1, 1) := by decide +kernel
theorem dX7_join_2 : decode cX7_join 2 = .ok (.invokevirtual 133, 3) := by decide +kernel
theorem dX7_join_5 : decode cX7_join 5 = .ok (.ifCond .eq 11, 3) := by decide +kernel
theorem dX7_join_8 : decode cX7_join 8 = .ok (.aload_n 0, 1) := by decide +kernel
theorem dX7_join_9 : decode cX7_join 9 = .ok (.iload_n 2, 1) := by decide +kernel
theorem dX7_join_10 : decode cX7_join 10 = .ok (.invokevirtual 133, 3) := by decide +kernel
theorem dX7_join_13 : decode cX7_join 13 = .ok (.ifCond .ne 5, 3) := by decide +kernel
theorem dX7_join_16 : decode cX7_join 16 = .ok (.iconst (-1), 1) := by decide +kernel
theorem dX7_join_17 : decode cX7_join 17 = .ok (.ireturn, 1) := by decide +kernel
theorem dX7_join_18 : decode cX7_join 18 = .ok (.iload_n 1, 1) := by decide +kernel
theorem dX7_join_19 : decode cX7_join 19 = .ok (.iload_n 2, 1) := by decide +kernel
theorem dX7_join_20 : decode cX7_join 20 = .ok (.if_icmp .ne 6, 3) := by decide +kernel
theorem dX7_join_23 : decode cX7_join 23 = .ok (.bipush (-2), 2) := by decide +kernel
theorem dX7_join_25 : decode cX7_join 25 = .ok (.ireturn, 1) := by decide +kernel
theorem dX7_join_26 : decode cX7_join 26 = .ok (.aload_n 0, 1) := by decide +kernel
theorem dX7_join_27 : decode cX7_join 27 = .ok (.getfield 7, 3) := by decide +kernel
theorem dX7_join_30 : decode cX7_join 30 = .ok (.iconst 0, 1) := by decide +kernel
theorem dX7_join_31 : decode cX7_join 31 = .ok (.iaload, 1) := by decide +kernel
theorem dX7_join_32 : decode cX7_join 32 = .ok (.istore_n 3, 1) := by decide +kernel
theorem dX7_join_33 : decode cX7_join 33 = .ok (.iload_n 3, 1) := by decide +kernel
theorem dX7_join_34 : decode cX7_join 34 = .ok (.iconst 2, 1) := by decide +kernel
theorem dX7_join_35 : decode cX7_join 35 = .ok (.iadd, 1) := by decide +kernel
theorem dX7_join_36 : decode cX7_join 36 = .ok (.bipush 14, 2) := by decide +kernel
theorem dX7_join_38 : decode cX7_join 38 = .ok (.if_icmp .le 6, 3) := by decide +kernel
theorem dX7_join_41 : decode cX7_join 41 = .ok (.bipush (-3), 2) := by decide +kernel
theorem dX7_join_43 : decode cX7_join 43 = .ok (.ireturn, 1) := by decide +kernel
theorem dX7_join_44 : decode cX7_join 44 = .ok (.aload_n 0, 1) := by decide +kernel
theorem dX7_join_45 : decode cX7_join 45 = .ok (.invokevirtual 84, 3) := by decide +kernel
theorem dX7_join_48 : decode cX7_join 48 = .ok (.aload_n 0, 1) := by decide +kernel
theorem dX7_join_49 : decode cX7_join 49 = .ok (.iload_n 1, 1) := by decide +kernel
theorem dX7_join_50 : decode cX7_join 50 = .ok (.iconst 1, 1) := by decide +kernel
theorem dX7_join_51 : decode cX7_join 51 = .ok (.invokevirtual 56, 3) := by decide +kernel
theorem dX7_join_54 : decode cX7_join 54 = .ok (.istore 4, 2) := by decide +kernel
theorem dX7_join_56 : decode cX7_join 56 = .ok (.aload_n 0, 1) := by decide +kernel
theorem dX7_join_57 : decode cX7_join 57 = .ok (.iload_n 2, 1) := by decide +kernel
theorem dX7_join_58 : decode cX7_join 58 = .ok (.iconst 1, 1) := by decide +kernel
theorem dX7_join_59 : decode cX7_join 59 = .ok (.invokevirtual 56, 3) := by decide +kernel
theorem dX7_join_62 : decode cX7_join 62 = .ok (.istore 5, 2) := by decide +kernel
theorem dX7_join_64 : decode cX7_join 64 = .ok (.aload_n 0, 1) := by decide +kernel
theorem dX7_join_65 : decode cX7_join 65 = .ok (.iload_n 1, 1) := by decide +kernel
theorem dX7_join_66 : decode cX7_join 66 = .ok (.aload_n 0, 1) := by decide +kernel
theorem dX7_join_67 : decode cX7_join 67 = .ok (.iload_n 1, 1) := by decide +kernel
theorem dX7_join_68 : decode cX7_join 68 = .ok (.iconst 0, 1) := by decide +kernel
theorem dX7_join_69 : decode cX7_join 69 = .ok (.invokevirtual 56, 3) := by decide +kernel
theorem dX7_join_72 : decode cX7_join 72 = .ok (.iload_n 3, 1) := by decide +kernel
theorem dX7_join_73 : decode cX7_join 73 = .ok (.aload_n 0, 1) := by decide +kernel
theorem dX7_join_74 : decode cX7_join 74 = .ok (.iload_n 1, 1) := by decide +kernel
theorem dX7_join_75 : decode cX7_join 75 = .ok (.iconst 2, 1) := by decide +kernel
theorem dX7_join_76 : decode cX7_join 76 = .ok (.invokevirtual 56, 3) := by decide +kernel
theorem dX7_join_79 : decode cX7_join 79 = .ok (.invokevirtual 48, 3) := by decide +kernel
theorem dX7_join_82 : decode cX7_join 82 = .ok (.aload_n 0, 1) := by decide +kernel
theorem dX7_join_83 : decode cX7_join 83 = .ok (.iload_n 2, 1) := by decide +kernel
theorem dX7_join_84 : decode cX7_join 84 = .ok (.aload_n 0, 1) := by decide +kernel
theorem dX7_join_85 : decode cX7_join 85 = .ok (.iload_n 2, 1) := by decide +kernel
theorem dX7_join_86 : decode cX7_join 86 = .ok (.iconst 0, 1) := by decide +kernel
theorem dX7_join_87 : decode cX7_join 87 = .ok (.invokevirtual 56, 3) := by decide +kernel
