set_option maxRecDepth 20000 in
theorem gX3_arrangeGroup_X3_tightest : GoodIn wsX3_arrangeGroup (wsV RX3 117 RX3 yX3_tightest wsX3_tightest) := goodIn_app (goodIn_of _ (by decide +kernel)) ggX3_arrangeGroup_X3_tightest
set_option maxRecDepth 20000 in
theorem ggX3_arrangeGroup_X6_bit : GoodIn wsX3_arrangeGroup wsX6_bit := goodIn_r _ [32] (by decide +kernel) (by decide +kernel)
set_option maxRecDepth 20000 in
theorem gX3_arrangeGroup_X6_bit_n76 : GoodIn wsX3_arrangeGroup (wsX6_bit) := ggX3_arrangeGroup_X6_bit
set_option maxRecDepth 20000 in
theorem ggX3_arrangeGroup_X6_put : GoodIn wsX3_arrangeGroup wsX6_put := goodIn_r _ [34] (by decide +kernel) (by decide +kernel)
set_option maxRecDepth 20000 in
theorem gX3_arrangeGroup_X6_put_n90 : GoodIn wsX3_arrangeGroup (wsX6_put) := ggX3_arrangeGroup_X6_put
set_option maxRecDepth 20000 in
theorem ggX3_arrangeGroup_X2_lesserKnot : GoodIn wsX3_arrangeGroup wsX2_lesserKnot := goodIn_r _ [38, 39, 40, 41, 10, 42, 43, 19, 20, 21, 44, 45, 26, 46, 47, 63, 64, 65, 66] (by decide +kernel) (by decide +kernel)
set_option maxRecDepth 20000 in
theorem gX3_arrangeGroup_X2_lesserKnot : GoodIn wsX3_arrangeGroup (wsV RX3 121 RX2 yX2_lesserKnot wsX2_lesserKnot) := goodIn_app (goodIn_of _ (by decide +kernel)) ggX3_arrangeGroup_X2_lesserKnot
set_option maxRecDepth 20000 in
theorem ggX3_arrangeGroup_X2_greaterKnot : GoodIn wsX3_arrangeGroup wsX2_greaterKnot := goodIn_r _ [51, 39, 40, 41, 10, 42, 43, 19, 20, 21, 52, 53, 26, 54, 47, 63, 64, 65, 66] (by decide +kernel) (by decide +kernel)
set_option maxRecDepth 20000 in
theorem gX3_arrangeGroup_X2_greaterKnot : GoodIn wsX3_arrangeGroup (wsV RX3 124 RX2 yX2_greaterKnot wsX2_greaterKnot) := goodIn_app (goodIn_of _ (by decide +kernel)) ggX3_arrangeGroup_X2_greaterKnot
theorem dX3_arrangeGroup_0 : decode cX3_arrangeGroup 0 = .ok (.iload_n 2, 1) := by decide +kernel
theorem dX3_arrangeGroup_1 : decode cX3_arrangeGroup 1 = .ok (.istore_n 3, 1) := by decide +kernel
theorem dX3_arrangeGroup_2 : decode cX3_arrangeGroup 2 = .ok (.iconst 0, 1) := by decide +kernel
theorem dX3_arrangeGroup_3 : decode cX3_arrangeGroup 3 = .ok (.istore 4, 2) := by decide +kernel
theorem dX3_arrangeGroup_5 : decode cX3_arrangeGroup 5 = .ok (.iconst 0, 1) := by decide +kernel
theorem dX3_arrangeGroup_6 : decode cX3_arrangeGroup 6 = .ok (.istore 5, 2) := by decide +kernel
theorem dX3_arrangeGroup_8 : decode cX3_arrangeGroup 8 = .ok (.iload 5, 2) := by decide +kernel
theorem dX3_arrangeGroup_10 : decode cX3_arrangeGroup 10 = .ok (.bipush 21, 2) := by decide +kernel
theorem dX3_arrangeGroup_12 : decode cX3_arrangeGroup 12 = .ok (.if_icmp .ge 114, 3) := by decide +kernel
theorem dX3_arrangeGroup_15 : decode cX3_arrangeGroup 15 = .ok (.aload_n 0, 1) := by decide +kernel
theorem dX3_arrangeGroup_16 : decode cX3_arrangeGroup 16 = .ok (.aload_n 1, 1) := by decide +kernel
theorem dX3_arrangeGroup_17 : decode cX3_arrangeGroup 17 = .ok (.invokevirtual 66, 3) := by decide +kernel
theorem dX3_arrangeGroup_20 : decode cX3_arrangeGroup 20 = .ok (.iload_n 3, 1) := by decide +kernel
theorem dX3_arrangeGroup_21 : decode cX3_arrangeGroup 21 = .ok (.iload 4, 2) := by decide +kernel
theorem dX3_arrangeGroup_23 : decode cX3_arrangeGroup 23 = .ok (.invokevirtual 117, 3) := by decide +kernel
theorem dX3_arrangeGroup_26 : decode cX3_arrangeGroup 26 = .ok (.istore 6, 2) := by decide +kernel
theorem dX3_arrangeGroup_28 : decode cX3_arrangeGroup 28 = .ok (.iload 6, 2) := by decide +kernel
theorem dX3_arrangeGroup_30 : decode cX3_arrangeGroup 30 = .ok (.ifCond .ge 6, 3) := by decide +kernel
theorem dX3_arrangeGroup_33 : decode cX3_arrangeGroup 33 = .ok (.goto 93, 3) := by decide +kernel
theorem dX3_arrangeGroup_36 : decode cX3_arrangeGroup 36 = .ok (.aload_n 0, 1) := by decide +kernel
theorem dX3_arrangeGroup_37 : decode cX3_arrangeGroup 37 = .ok (.getfield 9, 3) := by decide +kernel
theorem dX3_arrangeGroup_40 : decode cX3_arrangeGroup 40 = .ok (.aload_n 0, 1) := by decide +kernel
theorem dX3_arrangeGroup_41 : decode cX3_arrangeGroup 41 = .ok (.getfield 30, 3) := by decide +kernel
theorem dX3_arrangeGroup_44 : decode cX3_arrangeGroup 44 = .ok (.iload 6, 2) := by decide +kernel
theorem dX3_arrangeGroup_46 : decode cX3_arrangeGroup 46 = .ok (.invokestatic 76, 3) := by decide +kernel
theorem dX3_arrangeGroup_49 : decode cX3_arrangeGroup 49 = .ok (.invokestatic 90, 3) := by decide +kernel
theorem dX3_arrangeGroup_52 : decode cX3_arrangeGroup 52 = .ok (.aload_n 0, 1) := by decide +kernel
theorem dX3_arrangeGroup_53 : decode cX3_arrangeGroup 53 = .ok (.getfield 15, 3) := by decide +kernel
theorem dX3_arrangeGroup_56 : decode cX3_arrangeGroup 56 = .ok (.aload_n 0, 1) := by decide +kernel
theorem dX3_arrangeGroup_57 : decode cX3_arrangeGroup 57 = .ok (.getfield 30, 3) := by decide +kernel
theorem dX3_arrangeGroup_60 : decode cX3_arrangeGroup 60 = .ok (.iconst 3, 1) := by decide +kernel
theorem dX3_arrangeGroup_61 : decode cX3_arrangeGroup 61 = .ok (.aload_n 1, 1) := by decide +kernel
theorem dX3_arrangeGroup_62 : decode cX3_arrangeGroup 62 = .ok (.iload 6, 2) := by decide +kernel
theorem dX3_arrangeGroup_64 : decode cX3_arrangeGroup 64 = .ok (.invokevirtual 121, 3) := by decide +kernel
theorem dX3_arrangeGroup_67 : decode cX3_arrangeGroup 67 = .ok (.imul, 1) := by decide +kernel
theorem dX3_arrangeGroup_68 : decode cX3_arrangeGroup 68 = .ok (.invokestatic 90, 3) := by decide +kernel
theorem dX3_arrangeGroup_71 : decode cX3_arrangeGroup 71 = .ok (.aload_n 0, 1) := by decide +kernel
theorem dX3_arrangeGroup_72 : decode cX3_arrangeGroup 72 = .ok (.getfield 18, 3) := by decide +kernel
theorem dX3_arrangeGroup_75 : decode cX3_arrangeGroup 75 = .ok (.aload_n 0, 1) := by decide +kernel
theorem dX3_arrangeGroup_76 : decode cX3_arrangeGroup 76 = .ok (.getfield 30, 3) := by decide +kernel
theorem dX3_arrangeGroup_79 : decode cX3_arrangeGroup 79 = .ok (.iconst 3, 1) := by decide +kernel
theorem dX3_arrangeGroup_80 : decode cX3_arrangeGroup 80 = .ok (.aload_n 1, 1) := by decide +kernel
theorem dX3_arrangeGroup_81 : decode cX3_arrangeGroup 81 = .ok (.iload 6, 2) := by decide +kernel
theorem dX3_arrangeGroup_83 : decode cX3_arrangeGroup 83 = .ok (.invokevirtual 124, 3) := by decide +kernel
theorem dX3_arrangeGroup_86 : decode cX3_arrangeGroup 86 = .ok (.imul, 1) := by decide +kernel
theorem dX3_arrangeGroup_87 : decode cX3_arrangeGroup 87 = .ok (.invokestatic 90, 3) := by decide +kernel
theorem dX3_arrangeGroup_90 : decode cX3_arrangeGroup 90 = .ok (.aload_n 0, 1) := by decide +kernel
theorem dX3_arrangeGroup_91 : decode cX3_arrangeGroup 91 = .ok (.dup, 1) := by decide +kernel
theorem dX3_arrangeGroup_92 : decode cX3_arrangeGroup 92 = .ok (.getfield 30, 3) := by decide +kernel
theorem dX3_arrangeGroup_95 : decode cX3_arrangeGroup 95 = .ok (.iconst 1, 1) := by decide +kernel
theorem dX3_arrangeGroup_96 : decode cX3_arrangeGroup 96 = .ok (.iadd, 1) := by decide +kernel
theorem dX3_arrangeGroup_97 : decode cX3_arrangeGroup 97 = .ok (.putfield 30, 3) := by decide +kernel
theorem dX3_arrangeGroup_100 : decode cX3_arrangeGroup 100 = .ok (.iload 4, 2) := by decide +kernel
theorem dX3_arrangeGroup_102 : decode cX3_arrangeGroup 102 = .ok (.iload 6, 2) := by decide +kernel
theorem dX3_arrangeGroup_104 : decode cX3_arrangeGroup 104 = .ok (.invokestatic 76, 3) := by decide +kernel
theorem dX3_arrangeGroup_107 : decode cX3_arrangeGroup 107 = .ok (.ior, 1) := by decide +kernel
theorem dX3_arrangeGroup_108 : decode cX3_arrangeGroup 108 = .ok (.istore 4, 2) := by decide +kernel
theorem dX3_arrangeGroup_110 : decode cX3_arrangeGroup 110 = .ok (.iload_n 3, 1) := by decide +kernel
theorem dX3_arrangeGroup_111 : decode cX3_arrangeGroup 111 = .ok (.iload 6, 2) := by decide +kernel
theorem dX3_arrangeGroup_113 : decode cX3_arrangeGroup 113 = .ok (.invokestatic 76, 3) := by decide +kernel
theorem dX3_arrangeGroup_116 : decode cX3_arrangeGroup 116 = .ok (.iconst (-1), 1) := by decide +kernel
theorem dX3_arrangeGroup_117 : decode cX3_arrangeGroup 117 = .ok (.ixor, 1) := by decide +kernel
theorem dX3_arrangeGroup_118 : decode cX3_arrangeGroup 118 = .ok (.iand, 1) := by decide +kernel
theorem dX3_arrangeGroup_119 : decode cX3_arrangeGroup 119 = .ok (.istore_n 3, 1) := by decide +kernel
theorem dX3_arrangeGroup_120 : decode cX3_arrangeGroup 120 = .ok (.iinc 5 1, 3) := by decide +kernel
theorem dX3_arrangeGroup_123 : decode cX3_arrangeGroup 123 = .ok (.goto (-115), 3) := by decide +kernel
theorem dX3_arrangeGroup_126 : decode cX3_arrangeGroup 126 = .ok (.aload_n 0, 1) := by decide +kernel
theorem dX3_arrangeGroup_127 : decode cX3_arrangeGroup 127 = .ok (.getfield 21, 3) := by decide +kernel
theorem dX3_arrangeGroup_130 : decode cX3_arrangeGroup 130 = .ok (.aload_n 0, 1) := by decide +kernel
theorem dX3_arrangeGroup_131 : decode cX3_arrangeGroup 131 = .ok (.getfield 34, 3) := by decide +kernel
theorem dX3_arrangeGroup_134 : decode cX3_arrangeGroup 134 = .ok (.aload_n 0, 1) := by decide +kernel
theorem dX3_arrangeGroup_135 : decode cX3_arrangeGroup 135 = .ok (.getfield 30, 3) := by decide +kernel
theorem dX3_arrangeGroup_138 : decode cX3_arrangeGroup 138 = .ok (.invokestatic 90, 3) := by decide +kernel
theorem dX3_arrangeGroup_141 : decode cX3_arrangeGroup 141 = .ok (.aload_n 0, 1) := by decide +kernel
theorem dX3_arrangeGroup_142 : decode cX3_arrangeGroup 142 = .ok (.dup, 1) := by decide +kernel
theorem dX3_arrangeGroup_143 : decode cX3_arrangeGroup 143 = .ok (.getfield 34, 3) := by decide +kernel
theorem dX3_arrangeGroup_146 : decode cX3_arrangeGroup 146 = .ok (.iconst 1, 1) := by decide +kernel
theorem dX3_arrangeGroup_147 : decode cX3_arrangeGroup 147 = .ok (.iadd, 1) := by decide +kernel
theorem dX3_arrangeGroup_148 : decode cX3_arrangeGroup 148 = .ok (.putfield 34, 3) := by decide +kernel
theorem dX3_arrangeGroup_151 : decode cX3_arrangeGroup 151 = .ok (.iload_n 3, 1) := by decide +kernel
theorem dX3_arrangeGroup_152 : decode cX3_arrangeGroup 152 = .ok (.ireturn, 1) := by decide +kernel
set_option maxRecDepth 20000 in
theorem ggX3_tightest_X6_at : GoodIn wsX3_tightest wsX6_at := goodIn_r _ [4] (by decide +kernel) (by decide +kernel)
set_option maxRecDepth 20000 in
theorem gX3_tightest_X6_at_n37 : GoodIn wsX3_tightest (wsX6_at) := ggX3_tightest_X6_at
set_option maxRecDepth 20000 in
theorem ggX3_tightest_X6_holds : GoodIn wsX3_tightest wsX6_holds := goodIn_r _ [6] (by decide +kernel) (by decide +kernel)
set_option maxRecDepth 20000 in
theorem gX3_tightest_X6_holds_n72 : GoodIn wsX3_tightest (wsX6_holds) := ggX3_tightest_X6_holds
set_option maxRecDepth 20000 in
theorem ggX3_tightest_J6_bitCount_0f7a4 : GoodIn wsX3_tightest wsJ6_bitCount_0f7a4 := goodIn_r _ [10, 11, 12, 13] (by decide +kernel) (by decide +kernel)
set_option maxRecDepth 20000 in
theorem gX3_tightest_J6_bitCount_0f7a4 : GoodIn wsX3_tightest (va_wsS RX3 127 yJ6_bitCount_0f7a4 wsJ6_bitCount_0f7a4) := goodIn_app (goodIn_of _ (by decide +kernel)) ggX3_tightest_J6_bitCount_0f7a4
theorem dX3_tightest_0 : decode cX3_tightest 0 = .ok (.iconst (-1), 1) := by decide +kernel
theorem dX3_tightest_1 : decode cX3_tightest 1 = .ok (.istore 4, 2) := by decide +kernel
theorem dX3_tightest_3 : decode cX3_tightest 3 = .ok (.iconst (-1), 1) := by decide +kernel
theorem dX3_tightest_4 : decode cX3_tightest 4 = .ok (.istore 5, 2) := by decide +kernel
theorem dX3_tightest_6 : decode cX3_tightest 6 = .ok (.iconst 0, 1) := by decide +kernel
theorem dX3_tightest_7 : decode cX3_tightest 7 = .ok (.istore 6, 2) := by decide +kernel
theorem dX3_tightest_9 : decode cX3_tightest 9 = .ok (.iload 6, 2) := by decide +kernel
theorem dX3_tightest_11 : decode cX3_tightest 11 = .ok (.iload_n 1, 1) := by decide +kernel
theorem dX3_tightest_12 : decode cX3_tightest 12 = .ok (.if_icmp .ge 66, 3) := by decide +kernel
theorem dX3_tightest_15 : decode cX3_tightest 15 = .ok (.aload_n 0, 1) := by decide +kernel
theorem dX3_tightest_16 : decode cX3_tightest 16 = .ok (.getfield 24, 3) := by decide +kernel
theorem dX3_tightest_19 : decode cX3_tightest 19 = .ok (.iload 6, 2) := by decide +kernel
theorem dX3_tightest_21 : decode cX3_tightest 21 = .ok (.invokestatic 37, 3) := by decide +kernel
theorem dX3_tightest_24 : decode cX3_tightest 24 = .ok (.istore 7, 2) := by decide +kernel
theorem dX3_tightest_26 : decode cX3_tightest 26 = .ok (.iload_n 2, 1) := by decide +kernel
theorem dX3_tightest_27 : decode cX3_tightest 27 = .ok (.iload 6, 2) := by decide +kernel
theorem dX3_tightest_29 : decode cX3_tightest 29 = .ok (.invokestatic 72, 3) := by decide +kernel
theorem dX3_tightest_32 : decode cX3_tightest 32 = .ok (.ifCond .eq 40, 3) := by decide +kernel
theorem dX3_tightest_35 : decode cX3_tightest 35 = .ok (.iload_n 3, 1) := by decide +kernel
theorem dX3_tightest_36 : decode cX3_tightest 36 = .ok (.ifCond .eq 10, 3) := by decide +kernel
theorem dX3_tightest_39 : decode cX3_tightest 39 = .ok (.iload 7, 2) := by decide +kernel
theorem dX3_tightest_41 : decode cX3_tightest 41 = .ok (.iload_n 3, 1) := by decide +kernel
theorem dX3_tightest_42 : decode cX3_tightest 42 = .ok (.iand, 1) := by decide +kernel
theorem dX3_tightest_43 : decode cX3_tightest 43 = .ok (.ifCond .eq 29, 3) := by decide +kernel
theorem dX3_tightest_46 : decode cX3_tightest 46 = .ok (.iload 7, 2) := by decide +kernel
theorem dX3_tightest_48 : decode cX3_tightest 48 = .ok (.iload_n 2, 1) := by decide +kernel
theorem dX3_tightest_49 : decode cX3_tightest 49 = .ok (.iconst (-1), 1) := by decide +kernel
theorem dX3_tightest_50 : decode cX3_tightest 50 = .ok (.ixor, 1) := by decide +kernel
theorem dX3_tightest_51 : decode cX3_tightest 51 = .ok (.iand, 1) := by decide +kernel
theorem dX3_tightest_52 : decode cX3_tightest 52 = .ok (.invokestatic 127, 3) := by decide +kernel
theorem dX3_tightest_55 : decode cX3_tightest 55 = .ok (.istore 8, 2) := by decide +kernel
theorem dX3_tightest_57 : decode cX3_tightest 57 = .ok (.iload 8, 2) := by decide +kernel
theorem dX3_tightest_59 : decode cX3_tightest 59 = .ok (.iload 5, 2) := by decide +kernel
theorem dX3_tightest_61 : decode cX3_tightest 61 = .ok (.if_icmp .le 11, 3) := by decide +kernel
theorem dX3_tightest_64 : decode cX3_tightest 64 = .ok (.iload 6, 2) := by decide +kernel
theorem dX3_tightest_66 : decode cX3_tightest 66 = .ok (.istore 4, 2) := by decide +kernel
theorem dX3_tightest_68 : decode cX3_tightest 68 = .ok (.iload 8, 2) := by decide +kernel
theorem dX3_tightest_70 : decode cX3_tightest 70 = .ok (.istore 5, 2) := by decide +kernel
theorem dX3_tightest_72 : decode cX3_tightest 72 = .ok (.iinc 6 1, 3) := by decide +kernel
theorem dX3_tightest_75 : decode cX3_tightest 75 = .ok (.goto (-66), 3) := by decide +kernel
theorem dX3_tightest_78 : decode cX3_tightest 78 = .ok (.iload 4, 2) := by decide +kernel
theorem dX3_tightest_80 : decode cX3_tightest 80 = .ok (.ireturn, 1) := by decide +kernel
set_option maxRecDepth 20000 in
theorem ggX3_ways_X6_at : GoodIn wsX3_ways wsX6_at := goodIn_r _ [5] (by decide +kernel) (by decide +kernel)
set_option maxRecDepth 20000 in
theorem gX3_ways_X6_at_n37 : GoodIn wsX3_ways (wsX6_at) := ggX3_ways_X6_at
set_option maxRecDepth 20000 in
theorem ggX3_ways_X3_groupWays : GoodIn wsX3_ways wsX3_groupWays := goodIn_r _ [10, 11, 12, 13, 14, 15, 16, 9, 17, 3, 4, 5, 18, 19, 20, 21, 22, 23, 24, 25, 26, 27, 28, 29, 30, 31, 32, 33, 34, 35, 36] (by decide +kernel) (by decide +kernel)
set_option maxRecDepth 20000 in
theorem gX3_ways_X3_groupWays : GoodIn wsX3_ways (wsV RX3 130 RX3 yX3_groupWays wsX3_groupWays) := goodIn_app (goodIn_of _ (by decide +kernel)) ggX3_ways_X3_groupWays
theorem dX3_ways_0 : decode cX3_ways 0 = .ok (.iconst 1, 1) := by decide +kernel
theorem dX3_ways_1 : decode cX3_ways 1 = .ok (.istore 5, 2) := by decide +kernel
theorem dX3_ways_3 : decode cX3_ways 3 = .ok (.iconst 0, 1) := by decide +kernel
theorem dX3_ways_4 : decode cX3_ways 4 = .ok (.istore 6, 2) := by decide +kernel
theorem dX3_ways_6 : decode cX3_ways 6 = .ok (.iconst 0, 1) := by decide +kernel
theorem dX3_ways_7 : decode cX3_ways 7 = .ok (.istore 7, 2) := by decide +kernel
theorem dX3_ways_9 : decode cX3_ways 9 = .ok (.iload 7, 2) := by decide +kernel
theorem dX3_ways_11 : decode cX3_ways 11 = .ok (.aload_n 0, 1) := by decide +kernel
theorem dX3_ways_12 : decode cX3_ways 12 = .ok (.getfield 34, 3) := by decide +kernel
theorem dX3_ways_15 : decode cX3_ways 15 = .ok (.if_icmp .ge 46, 3) := by decide +kernel
theorem dX3_ways_18 : decode cX3_ways 18 = .ok (.iload 5, 2) := by decide +kernel
theorem dX3_ways_20 : decode cX3_ways 20 = .ok (.ifCond .le 41, 3) := by decide +kernel
theorem dX3_ways_23 : decode cX3_ways 23 = .ok (.aload_n 0, 1) := by decide +kernel
theorem dX3_ways_24 : decode cX3_ways 24 = .ok (.getfield 21, 3) := by decide +kernel
theorem dX3_ways_27 : decode cX3_ways 27 = .ok (.iload 7, 2) := by decide +kernel
theorem dX3_ways_29 : decode cX3_ways 29 = .ok (.invokestatic 37, 3) := by decide +kernel
theorem dX3_ways_32 : decode cX3_ways 32 = .ok (.istore 8, 2) := by decide +kernel
theorem dX3_ways_34 : decode cX3_ways 34 = .ok (.iload 5, 2) := by decide +kernel
theorem dX3_ways_36 : decode cX3_ways 36 = .ok (.aload_n 0, 1) := by decide +kernel
theorem dX3_ways_37 : decode cX3_ways 37 = .ok (.iload 6, 2) := by decide +kernel
theorem dX3_ways_39 : decode cX3_ways 39 = .ok (.iload 8, 2) := by decide +kernel
theorem dX3_ways_41 : decode cX3_ways 41 = .ok (.lload_n 1, 1) := by decide +kernel
theorem dX3_ways_42 : decode cX3_ways 42 = .ok (.iload_n 3, 1) := by decide +kernel
theorem dX3_ways_43 : decode cX3_ways 43 = .ok (.iload 4, 2) := by decide +kernel
theorem dX3_ways_45 : decode cX3_ways 45 = .ok (.invokevirtual 130, 3) := by decide +kernel
theorem dX3_ways_48 : decode cX3_ways 48 = .ok (.imul, 1) := by decide +kernel
theorem dX3_ways_49 : decode cX3_ways 49 = .ok (.istore 5, 2) := by decide +kernel
theorem dX3_ways_51 : decode cX3_ways 51 = .ok (.iload 8, 2) := by decide +kernel
theorem dX3_ways_53 : decode cX3_ways 53 = .ok (.istore 6, 2) := by decide +kernel
theorem dX3_ways_55 : decode cX3_ways 55 = .ok (.iinc 7 1, 3) := by decide +kernel
theorem dX3_ways_58 : decode cX3_ways 58 = .ok (.goto (-49), 3) := by decide +kernel
theorem dX3_ways_61 : decode cX3_ways 61 = .ok (.iload 5, 2) := by decide +kernel
theorem dX3_ways_63 : decode cX3_ways 63 = .ok (.ireturn, 1) := by decide +kernel
set_option maxRecDepth 20000 in
theorem ggX3_groupWays_X3_isBare : GoodIn wsX3_groupWays wsX3_isBare := goodIn_r _ [8, 1, 2, 3, 9, 10, 11, 12, 13, 7, 14, 23, 24, 25, 26, 27, 28, 29, 30] (by decide +kernel) (by decide +kernel)
set_option maxRecDepth 20000 in
theorem gX3_groupWays_X3_isBare : GoodIn wsX3_groupWays (wsV RX3 134 RX3 yX3_isBare wsX3_isBare) := goodIn_app (goodIn_of _ (by decide +kernel)) ggX3_groupWays_X3_isBare
set_option maxRecDepth 20000 in
theorem ggX3_groupWays_X3_waysFrom : GoodIn wsX3_groupWays wsX3_waysFrom := goodIn_r _ [17, 1, 2, 3, 9, 10, 11, 15, 16, 7, 12, 13, 14, 18, 19, 20, 21, 22, 23, 24, 25, 26, 27, 28, 29, 30] (by decide +kernel) (by decide +kernel)
set_option maxRecDepth 20000 in
theorem gX3_groupWays_X3_waysFrom : GoodIn wsX3_groupWays (va_wsS RX3 138 yX3_waysFrom wsX3_waysFrom) := goodIn_app (goodIn_of _ (by decide +kernel)) ggX3_groupWays_X3_waysFrom
set_option maxRecDepth 20000 in
theorem ggX3_groupWays_X6_at : GoodIn wsX3_groupWays wsX6_at := goodIn_r _ [11] (by decide +kernel) (by decide +kernel)
set_option maxRecDepth 20000 in
theorem gX3_groupWays_X6_at_n37 : GoodIn wsX3_groupWays (wsX6_at) := ggX3_groupWays_X6_at
set_option maxRecDepth 20000 in
theorem ggX3_groupWays_X3_usedWith : GoodIn wsX3_groupWays wsX3_usedWith := goodIn_r _ [22] (by decide +kernel) (by decide +kernel)
set_option maxRecDepth 20000 in
theorem gX3_groupWays_X3_usedWith : GoodIn wsX3_groupWays (va_wsS RX3 106 yX3_usedWith wsX3_usedWith) := goodIn_app (goodIn_of _ (by decide +kernel)) ggX3_groupWays_X3_usedWith
theorem dX3_groupWays_0 : decode cX3_groupWays 0 = .ok (.aload_n 0, 1) := by decide +kernel
theorem dX3_groupWays_1 : decode cX3_groupWays 1 = .ok (.iload_n 1, 1) := by decide +kernel
theorem dX3_groupWays_2 : decode cX3_groupWays 2 = .ok (.iload_n 2, 1) := by decide +kernel
theorem dX3_groupWays_3 : decode cX3_groupWays 3 = .ok (.lload_n 3, 1) := by decide +kernel
theorem dX3_groupWays_4 : decode cX3_groupWays 4 = .ok (.iload 5, 2) := by decide +kernel
theorem dX3_groupWays_6 : decode cX3_groupWays 6 = .ok (.invokevirtual 134, 3) := by decide +kernel
theorem dX3_groupWays_9 : decode cX3_groupWays 9 = .ok (.ifCond .ne 15, 3) := by decide +kernel
theorem dX3_groupWays_12 : decode cX3_groupWays 12 = .ok (.aload_n 0, 1) := by decide +kernel
theorem dX3_groupWays_13 : decode cX3_groupWays 13 = .ok (.iload_n 1, 1) := by decide +kernel
theorem dX3_groupWays_14 : decode cX3_groupWays 14 = .ok (.iload_n 2, 1) := by decide +kernel
theorem dX3_groupWays_15 : decode cX3_groupWays 15 = .ok (.lload_n 3, 1) := by decide +kernel
theorem dX3_groupWays_16 : decode cX3_groupWays 16 = .ok (.iload 5, 2) := by decide +kernel
theorem dX3_groupWays_18 : decode cX3_groupWays 18 = .ok (.iload 6, 2) := by decide +kernel
theorem dX3_groupWays_20 : decode cX3_groupWays 20 = .ok (.invokestatic 138, 3) := by decide +kernel
theorem dX3_groupWays_23 : decode cX3_groupWays 23 = .ok (.ireturn, 1) := by decide +kernel
theorem dX3_groupWays_24 : decode cX3_groupWays 24 = .ok (.iload_n 1, 1) := by decide +kernel
theorem dX3_groupWays_25 : decode cX3_groupWays 25 = .ok (.istore 7, 2) := by decide +kernel
theorem dX3_groupWays_27 : decode cX3_groupWays 27 = .ok (.iload 7, 2) := by decide +kernel
theorem dX3_groupWays_29 : decode cX3_groupWays 29 = .ok (.iload_n 2, 1) := by decide +kernel
theorem dX3_groupWays_30 : decode cX3_groupWays 30 = .ok (.if_icmp .ge 24, 3) := by decide +kernel
theorem dX3_groupWays_33 : decode cX3_groupWays 33 = .ok (.aload_n 0, 1) := by decide +kernel
theorem dX3_groupWays_34 : decode cX3_groupWays 34 = .ok (.getfield 9, 3) := by decide +kernel
theorem dX3_groupWays_37 : decode cX3_groupWays 37 = .ok (.iload 7, 2) := by decide +kernel
theorem dX3_groupWays_39 : decode cX3_groupWays 39 = .ok (.invokestatic 37, 3) := by decide +kernel
theorem dX3_groupWays_42 : decode cX3_groupWays 42 = .ok (.iload 5, 2) := by decide +kernel
theorem dX3_groupWays_44 : decode cX3_groupWays 44 = .ok (.iand, 1) := by decide +kernel
theorem dX3_groupWays_45 : decode cX3_groupWays 45 = .ok (.ifCond .eq 9, 3) := by decide +kernel
theorem dX3_groupWays_48 : decode cX3_groupWays 48 = .ok (.iinc 7 1, 3) := by decide +kernel
theorem dX3_groupWays_51 : decode cX3_groupWays 51 = .ok (.goto (-24), 3) := by decide +kernel
theorem dX3_groupWays_54 : decode cX3_groupWays 54 = .ok (.iload 7, 2) := by decide +kernel
theorem dX3_groupWays_56 : decode cX3_groupWays 56 = .ok (.iload_n 2, 1) := by decide +kernel
theorem dX3_groupWays_57 : decode cX3_groupWays 57 = .ok (.if_icmp .lt 5, 3) := by decide +kernel
theorem dX3_groupWays_60 : decode cX3_groupWays 60 = .ok (.iconst 1, 1) := by decide +kernel
theorem dX3_groupWays_61 : decode cX3_groupWays 61 = .ok (.ireturn, 1) := by decide +kernel
theorem dX3_groupWays_62 : decode cX3_groupWays 62 = .ok (.lload_n 3, 1) := by decide +kernel
theorem dX3_groupWays_63 : decode cX3_groupWays 63 = .ok (.aload_n 0, 1) := by decide +kernel
theorem dX3_groupWays_64 : decode cX3_groupWays 64 = .ok (.getfield 15, 3) := by decide +kernel
theorem dX3_groupWays_67 : decode cX3_groupWays 67 = .ok (.iload 7, 2) := by decide +kernel
theorem dX3_groupWays_69 : decode cX3_groupWays 69 = .ok (.invokestatic 37, 3) := by decide +kernel
theorem dX3_groupWays_72 : decode cX3_groupWays 72 = .ok (.aload_n 0, 1) := by decide +kernel
theorem dX3_groupWays_73 : decode cX3_groupWays 73 = .ok (.getfield 18, 3) := by decide +kernel
theorem dX3_groupWays_76 : decode cX3_groupWays 76 = .ok (.iload 7, 2) := by decide +kernel
theorem dX3_groupWays_78 : decode cX3_groupWays 78 = .ok (.invokestatic 37, 3) := by decide +kernel
theorem dX3_groupWays_81 : decode cX3_groupWays 81 = .ok (.iconst 0, 1) := by decide +kernel
theorem dX3_groupWays_82 : decode cX3_groupWays 82 = .ok (.invokestatic 106, 3) := by decide +kernel
theorem dX3_groupWays_85 : decode cX3_groupWays 85 = .ok (.lor, 1) := by decide +kernel
theorem dX3_groupWays_86 : decode cX3_groupWays 86 = .ok (.lstore 8, 2) := by decide +kernel
theorem dX3_groupWays_88 : decode cX3_groupWays 88 = .ok (.iconst 3, 1) := by decide +kernel
theorem dX3_groupWays_89 : decode cX3_groupWays 89 = .ok (.aload_n 0, 1) := by decide +kernel
theorem dX3_groupWays_90 : decode cX3_groupWays 90 = .ok (.iload 7, 2) := by decide +kernel
theorem dX3_groupWays_92 : decode cX3_groupWays 92 = .ok (.iconst 1, 1) := by decide +kernel
theorem dX3_groupWays_93 : decode cX3_groupWays 93 = .ok (.iadd, 1) := by decide +kernel
theorem dX3_groupWays_94 : decode cX3_groupWays 94 = .ok (.iload_n 2, 1) := by decide +kernel
theorem dX3_groupWays_95 : decode cX3_groupWays 95 = .ok (.lload 8, 2) := by decide +kernel
theorem dX3_groupWays_97 : decode cX3_groupWays 97 = .ok (.iload 5, 2) := by decide +kernel
theorem dX3_groupWays_99 : decode cX3_groupWays 99 = .ok (.iload 6, 2) := by decide +kernel
theorem dX3_groupWays_101 : decode cX3_groupWays 101 = .ok (.invokestatic 138, 3) := by decide +kernel
theorem dX3_groupWays_104 : decode cX3_groupWays 104 = .ok (.imul, 1) := by decide +kernel
theorem dX3_groupWays_105 : decode cX3_groupWays 105 = .ok (.ireturn, 1) := by decide +kernel
set_option maxRecDepth 20000 in
theorem ggX3_isBare_X6_at : GoodIn wsX3_isBare wsX6_at := goodIn_r _ [6] (by decide +kernel) (by decide +kernel)
set_option maxRecDepth 20000 in
theorem gX3_isBare_X6_at_n37 : GoodIn wsX3_isBare (wsX6_at) := ggX3_isBare_X6_at
set_option maxRecDepth 20000 in
theorem ggX3_isBare_X3_usedAt : GoodIn wsX3_isBare wsX3_usedAt := goodIn_r _ [10] (by decide +kernel) (by decide +kernel)
set_option maxRecDepth 20000 in
theorem gX3_isBare_X3_usedAt : GoodIn wsX3_isBare (va_wsS RX3 142 yX3_usedAt wsX3_usedAt) := goodIn_app (goodIn_of _ (by decide +kernel)) ggX3_isBare_X3_usedAt
theorem dX3_isBare_0 : decode cX3_isBare 0 = .ok (.iload_n 1, 1) := by decide +kernel
theorem dX3_isBare_1 : decode cX3_isBare 1 = .ok (.istore 6, 2) := by decide +kernel
theorem dX3_isBare_3 : decode cX3_isBare 3 = .ok (.iload 6, 2) := by decide +kernel
theorem dX3_isBare_5 : decode cX3_isBare 5 = .ok (.iload_n 2, 1) := by decide +kernel
theorem dX3_isBare_6 : decode cX3_isBare 6 = .ok (.if_icmp .ge 63, 3) := by decide +kernel
theorem dX3_isBare_9 : decode cX3_isBare 9 = .ok (.aload_n 0, 1) := by decide +kernel
theorem dX3_isBare_10 : decode cX3_isBare 10 = .ok (.getfield 9, 3) := by decide +kernel
theorem dX3_isBare_13 : decode cX3_isBare 13 = .ok (.iload 6, 2) := by decide +kernel
theorem dX3_isBare_15 : decode cX3_isBare 15 = .ok (.invokestatic 37, 3) := by decide +kernel
theorem dX3_isBare_18 : decode cX3_isBare 18 = .ok (.iload 5, 2) := by decide +kernel
theorem dX3_isBare_20 : decode cX3_isBare 20 = .ok (.iand, 1) := by decide +kernel
theorem dX3_isBare_21 : decode cX3_isBare 21 = .ok (.ifCond .eq 7, 3) := by decide +kernel
theorem dX3_isBare_24 : decode cX3_isBare 24 = .ok (.iconst 1, 1) := by decide +kernel
theorem dX3_isBare_25 : decode cX3_isBare 25 = .ok (.goto 4, 3) := by decide +kernel
theorem dX3_isBare_28 : decode cX3_isBare 28 = .ok (.iconst 0, 1) := by decide +kernel
theorem dX3_isBare_29 : decode cX3_isBare 29 = .ok (.istore 7, 2) := by decide +kernel
theorem dX3_isBare_31 : decode cX3_isBare 31 = .ok (.iload 7, 2) := by decide +kernel
theorem dX3_isBare_33 : decode cX3_isBare 33 = .ok (.ifCond .ne 30, 3) := by decide +kernel
theorem dX3_isBare_36 : decode cX3_isBare 36 = .ok (.aload_n 0, 1) := by decide +kernel
theorem dX3_isBare_37 : decode cX3_isBare 37 = .ok (.getfield 15, 3) := by decide +kernel
theorem dX3_isBare_40 : decode cX3_isBare 40 = .ok (.iload 6, 2) := by decide +kernel
theorem dX3_isBare_42 : decode cX3_isBare 42 = .ok (.invokestatic 37, 3) := by decide +kernel
theorem dX3_isBare_45 : decode cX3_isBare 45 = .ok (.aload_n 0, 1) := by decide +kernel
theorem dX3_isBare_46 : decode cX3_isBare 46 = .ok (.getfield 18, 3) := by decide +kernel
theorem dX3_isBare_49 : decode cX3_isBare 49 = .ok (.iload 6, 2) := by decide +kernel
theorem dX3_isBare_51 : decode cX3_isBare 51 = .ok (.invokestatic 37, 3) := by decide +kernel
theorem dX3_isBare_54 : decode cX3_isBare 54 = .ok (.lload_n 3, 1) := by decide +kernel
theorem dX3_isBare_55 : decode cX3_isBare 55 = .ok (.invokestatic 142, 3) := by decide +kernel
theorem dX3_isBare_58 : decode cX3_isBare 58 = .ok (.ifCond .eq 5, 3) := by decide +kernel
theorem dX3_isBare_61 : decode cX3_isBare 61 = .ok (.iconst 0, 1) := by decide +kernel
theorem dX3_isBare_62 : decode cX3_isBare 62 = .ok (.ireturn, 1) := by decide +kernel
theorem dX3_isBare_63 : decode cX3_isBare 63 = .ok (.iinc 6 1, 3) := by decide +kernel
theorem dX3_isBare_66 : decode cX3_isBare 66 = .ok (.goto (-63), 3) := by decide +kernel
theorem dX3_isBare_69 : decode cX3_isBare 69 = .ok (.iconst 1, 1) := by decide +kernel
theorem dX3_isBare_70 : decode cX3_isBare 70 = .ok (.ireturn, 1) := by decide +kernel
theorem dX3_usedAt_0 : decode cX3_usedAt 0 = .ok (.lload_n 2, 1) := by decide +kernel
theorem dX3_usedAt_1 : decode cX3_usedAt 1 = .ok (.iload_n 0, 1) := by decide +kernel
theorem dX3_usedAt_2 : decode cX3_usedAt 2 = .ok (.lushr, 1) := by decide +kernel
theorem dX3_usedAt_3 : decode cX3_usedAt 3 = .ok (.lload_n 2, 1) := by decide +kernel
theorem dX3_usedAt_4 : decode cX3_usedAt 4 = .ok (.iload_n 1, 1) := by decide +kernel
theorem dX3_usedAt_5 : decode cX3_usedAt 5 = .ok (.lushr, 1) := by decide +kernel
theorem dX3_usedAt_6 : decode cX3_usedAt 6 = .ok (.lor, 1) := by decide +kernel
theorem dX3_usedAt_7 : decode cX3_usedAt 7 = .ok (.l2i, 1) := by decide +kernel
theorem dX3_usedAt_8 : decode cX3_usedAt 8 = .ok (.bipush 7, 2) := by decide +kernel
theorem dX3_usedAt_10 : decode cX3_usedAt 10 = .ok (.iand, 1) := by decide +kernel
theorem dX3_usedAt_11 : decode cX3_usedAt 11 = .ok (.ireturn, 1) := by decide +kernel
theorem dX3_usedWith_0 : decode cX3_usedWith 0 = .ok (.lconst 1, 1) := by decide +kernel
theorem dX3_usedWith_1 : decode cX3_usedWith 1 = .ok (.iload_n 0, 1) := by decide +kernel
theorem dX3_usedWith_2 : decode cX3_usedWith 2 = .ok (.iload_n 2, 1) := by decide +kernel
theorem dX3_usedWith_3 : decode cX3_usedWith 3 = .ok (.iadd, 1) := by decide +kernel
theorem dX3_usedWith_4 : decode cX3_usedWith 4 = .ok (.lshl, 1) := by decide +kernel
theorem dX3_usedWith_5 : decode cX3_usedWith 5 = .ok (.lconst 1, 1) := by decide +kernel
theorem dX3_usedWith_6 : decode cX3_usedWith 6 = .ok (.iload_n 1, 1) := by decide +kernel
theorem dX3_usedWith_7 : decode cX3_usedWith 7 = .ok (.iload_n 2, 1) := by decide +kernel
theorem dX3_usedWith_8 : decode cX3_usedWith 8 = .ok (.iadd, 1) := by decide +kernel
theorem dX3_usedWith_9 : decode cX3_usedWith 9 = .ok (.lshl, 1) := by decide +kernel
theorem dX3_usedWith_10 : decode cX3_usedWith 10 = .ok (.lor, 1) := by decide +kernel
theorem dX3_usedWith_11 : decode cX3_usedWith 11 = .ok (.lreturn, 1) := by decide +kernel
set_option maxRecDepth 20000 in
theorem ggX3_waysFrom_X6_at : GoodIn wsX3_waysFrom wsX6_at := goodIn_r _ [6] (by decide +kernel) (by decide +kernel)
set_option maxRecDepth 20000 in
theorem gX3_waysFrom_X6_at_n37 : GoodIn wsX3_waysFrom (wsX6_at) := ggX3_waysFrom_X6_at
set_option maxRecDepth 20000 in
theorem ggX3_waysFrom_X3_waysFrom : GoodIn wsX3_waysFrom wsX3_waysFrom := goodIn_r _ [0, 1, 2, 3, 4, 5, 6, 7, 8, 9, 10, 11, 12, 13, 14, 15, 16, 17, 18, 19, 20, 21, 22, 23, 24, 25] (by decide +kernel) (by decide +kernel)
set_option maxRecDepth 20000 in
theorem gX3_waysFrom_X3_waysFrom : GoodIn wsX3_waysFrom (va_wsS RX3 138 yX3_waysFrom wsX3_waysFrom) := goodIn_app (goodIn_of _ (by decide +kernel)) ggX3_waysFrom_X3_waysFrom
set_option maxRecDepth 20000 in
theorem ggX3_waysFrom_X3_usedAt : GoodIn wsX3_waysFrom wsX3_usedAt := goodIn_r _ [12] (by decide +kernel) (by decide +kernel)
set_option maxRecDepth 20000 in
theorem gX3_waysFrom_X3_usedAt : GoodIn wsX3_waysFrom (va_wsS RX3 142 yX3_usedAt wsX3_usedAt) := goodIn_app (goodIn_of _ (by decide +kernel)) ggX3_waysFrom_X3_usedAt
set_option maxRecDepth 20000 in
theorem ggX3_waysFrom_X6_holds : GoodIn wsX3_waysFrom wsX6_holds := goodIn_r _ [14] (by decide +kernel) (by decide +kernel)
set_option maxRecDepth 20000 in
theorem gX3_waysFrom_X6_holds_n72 : GoodIn wsX3_waysFrom (wsX6_holds) := ggX3_waysFrom_X6_holds
set_option maxRecDepth 20000 in
theorem ggX3_waysFrom_X3_usedWith : GoodIn wsX3_waysFrom wsX3_usedWith := goodIn_r _ [17] (by decide +kernel) (by decide +kernel)
set_option maxRecDepth 20000 in
theorem gX3_waysFrom_X3_usedWith : GoodIn wsX3_waysFrom (va_wsS RX3 106 yX3_usedWith wsX3_usedWith) := goodIn_app (goodIn_of _ (by decide +kernel)) ggX3_waysFrom_X3_usedWith
theorem dX3_waysFrom_0 : decode cX3_waysFrom 0 = .ok (.iload_n 1, 1) := by decide +kernel
theorem dX3_waysFrom_1 : decode cX3_waysFrom 1 = .ok (.iload_n 2, 1) := by decide +kernel
theorem dX3_waysFrom_2 : decode cX3_waysFrom 2 = .ok (.if_icmp .ge 9, 3) := by decide +kernel
theorem dX3_waysFrom_5 : decode cX3_waysFrom 5 = .ok (.iload_n 1, 1) := by decide +kernel
theorem dX3_waysFrom_6 : decode cX3_waysFrom 6 = .ok (.bipush 21, 2) := by decide +kernel
theorem dX3_waysFrom_8 : decode cX3_waysFrom 8 = .ok (.if_icmp .lt 5, 3) := by decide +kernel
theorem dX3_waysFrom_11 : decode cX3_waysFrom 11 = .ok (.iconst 1, 1) := by decide +kernel
theorem dX3_waysFrom_12 : decode cX3_waysFrom 12 = .ok (.ireturn, 1) := by decide +kernel
theorem dX3_waysFrom_13 : decode cX3_waysFrom 13 = .ok (.aload_n 0, 1) := by decide +kernel
theorem dX3_waysFrom_14 : decode cX3_waysFrom 14 = .ok (.getfield 9, 3) := by decide +kernel
theorem dX3_waysFrom_17 : decode cX3_waysFrom 17 = .ok (.iload_n 1, 1) := by decide +kernel
theorem dX3_waysFrom_18 : decode cX3_waysFrom 18 = .ok (.invokestatic 37, 3) := by decide +kernel
theorem dX3_waysFrom_21 : decode cX3_waysFrom 21 = .ok (.iload 5, 2) := by decide +kernel
theorem dX3_waysFrom_23 : decode cX3_waysFrom 23 = .ok (.iand, 1) := by decide +kernel
theorem dX3_waysFrom_24 : decode cX3_waysFrom 24 = .ok (.ifCond .eq 17, 3) := by decide +kernel
theorem dX3_waysFrom_27 : decode cX3_waysFrom 27 = .ok (.aload_n 0, 1) := by decide +kernel
theorem dX3_waysFrom_28 : decode cX3_waysFrom 28 = .ok (.iload_n 1, 1) := by decide +kernel
theorem dX3_waysFrom_29 : decode cX3_waysFrom 29 = .ok (.iconst 1, 1) := by decide +kernel
theorem dX3_waysFrom_30 : decode cX3_waysFrom 30 = .ok (.iadd, 1) := by decide +kernel
theorem dX3_waysFrom_31 : decode cX3_waysFrom 31 = .ok (.iload_n 2, 1) := by decide +kernel
theorem dX3_waysFrom_32 : decode cX3_waysFrom 32 = .ok (.lload_n 3, 1) := by decide +kernel
theorem dX3_waysFrom_33 : decode cX3_waysFrom 33 = .ok (.iload 5, 2) := by decide +kernel
theorem dX3_waysFrom_35 : decode cX3_waysFrom 35 = .ok (.iload 6, 2) := by decide +kernel
theorem dX3_waysFrom_37 : decode cX3_waysFrom 37 = .ok (.invokestatic 138, 3) := by decide +kernel
theorem dX3_waysFrom_40 : decode cX3_waysFrom 40 = .ok (.ireturn, 1) := by decide +kernel
theorem dX3_waysFrom_41 : decode cX3_waysFrom 41 = .ok (.aload_n 0, 1) := by decide +kernel
theorem dX3_waysFrom_42 : decode cX3_waysFrom 42 = .ok (.getfield 15, 3) := by decide +kernel
theorem dX3_waysFrom_45 : decode cX3_waysFrom 45 = .ok (.iload_n 1, 1) := by decide +kernel
theorem dX3_waysFrom_46 : decode cX3_waysFrom 46 = .ok (.invokestatic 37, 3) := by decide +kernel
theorem dX3_waysFrom_49 : decode cX3_waysFrom 49 = .ok (.istore 7, 2) := by decide +kernel
theorem dX3_waysFrom_51 : decode cX3_waysFrom 51 = .ok (.aload_n 0, 1) := by decide +kernel
theorem dX3_waysFrom_52 : decode cX3_waysFrom 52 = .ok (.getfield 18, 3) := by decide +kernel
theorem dX3_waysFrom_55 : decode cX3_waysFrom 55 = .ok (.iload_n 1, 1) := by decide +kernel
theorem dX3_waysFrom_56 : decode cX3_waysFrom 56 = .ok (.invokestatic 37, 3) := by decide +kernel
theorem dX3_waysFrom_59 : decode cX3_waysFrom 59 = .ok (.istore 8, 2) := by decide +kernel
theorem dX3_waysFrom_61 : decode cX3_waysFrom 61 = .ok (.iload 7, 2) := by decide +kernel
theorem dX3_waysFrom_63 : decode cX3_waysFrom 63 = .ok (.iload 8, 2) := by decide +kernel
theorem dX3_waysFrom_65 : decode cX3_waysFrom 65 = .ok (.lload_n 3, 1) := by decide +kernel
theorem dX3_waysFrom_66 : decode cX3_waysFrom 66 = .ok (.invokestatic 142, 3) := by decide +kernel
theorem dX3_waysFrom_69 : decode cX3_waysFrom 69 = .ok (.istore 9, 2) := by decide +kernel
theorem dX3_waysFrom_71 : decode cX3_waysFrom 71 = .ok (.iconst 0, 1) := by decide +kernel
theorem dX3_waysFrom_72 : decode cX3_waysFrom 72 = .ok (.istore 10, 2) := by decide +kernel
theorem dX3_waysFrom_74 : decode cX3_waysFrom 74 = .ok (.iconst 0, 1) := by decide +kernel
theorem dX3_waysFrom_75 : decode cX3_waysFrom 75 = .ok (.istore 11, 2) := by decide +kernel
theorem dX3_waysFrom_77 : decode cX3_waysFrom 77 = .ok (.iload 11, 2) := by decide +kernel
theorem dX3_waysFrom_79 : decode cX3_waysFrom 79 = .ok (.iconst 3, 1) := by decide +kernel
theorem dX3_waysFrom_80 : decode cX3_waysFrom 80 = .ok (.if_icmp .ge 61, 3) := by decide +kernel
theorem dX3_waysFrom_83 : decode cX3_waysFrom 83 = .ok (.iload 10, 2) := by decide +kernel
theorem dX3_waysFrom_85 : decode cX3_waysFrom 85 = .ok (.iload 6, 2) := by decide +kernel
theorem dX3_waysFrom_87 : decode cX3_waysFrom 87 = .ok (.if_icmp .ge 54, 3) := by decide +kernel
theorem dX3_waysFrom_90 : decode cX3_waysFrom 90 = .ok (.iload 9, 2) := by decide +kernel
theorem dX3_waysFrom_92 : decode cX3_waysFrom 92 = .ok (.iload 11, 2) := by decide +kernel
theorem dX3_waysFrom_94 : decode cX3_waysFrom 94 = .ok (.invokestatic 72, 3) := by decide +kernel
theorem dX3_waysFrom_97 : decode cX3_waysFrom 97 = .ok (.ifCond .ne 38, 3) := by decide +kernel
theorem dX3_waysFrom_100 : decode cX3_waysFrom 100 = .ok (.lload_n 3, 1) := by decide +kernel
theorem dX3_waysFrom_101 : decode cX3_waysFrom 101 = .ok (.iload 7, 2) := by decide +kernel
theorem dX3_waysFrom_103 : decode cX3_waysFrom 103 = .ok (.iload 8, 2) := by decide +kernel
theorem dX3_waysFrom_105 : decode cX3_waysFrom 105 = .ok (.iload 11, 2) := by decide +kernel
theorem dX3_waysFrom_107 : decode cX3_waysFrom 107 = .ok (.invokestatic 106, 3) := by decide +kernel
theorem dX3_waysFrom_110 : decode cX3_waysFrom 110 = .ok (.lor, 1) := by decide +kernel
theorem dX3_waysFrom_111 : decode cX3_waysFrom 111 = .ok (.lstore 12, 2) := by decide +kernel
theorem dX3_waysFrom_113 : decode cX3_waysFrom 113 = .ok (.iload 10, 2) := by decide +kernel
theorem dX3_waysFrom_115 : decode cX3_waysFrom 115 = .ok (.aload_n 0, 1) := by decide +kernel
theorem dX3_waysFrom_116 : decode cX3_waysFrom 116 = .ok (.iload_n 1, 1) := by decide +kernel
theorem dX3_waysFrom_117 : decode cX3_waysFrom 117 = .ok (.iconst 1, 1) := by decide +kernel
theorem dX3_waysFrom_118 : decode cX3_waysFrom 118 = .ok (.iadd, 1) := by decide +kernel
theorem dX3_waysFrom_119 : decode cX3_waysFrom 119 = .ok (.iload_n 2, 1) := by decide +kernel
theorem dX3_waysFrom_120 : decode cX3_waysFrom 120 = .ok (.lload 12, 2) := by decide +kernel
theorem dX3_waysFrom_122 : decode cX3_waysFrom 122 = .ok (.iload 5, 2) := by decide +kernel
theorem dX3_waysFrom_124 : decode cX3_waysFrom 124 = .ok (.iload 6, 2) := by decide +kernel
theorem dX3_waysFrom_126 : decode cX3_waysFrom 126 = .ok (.iload 10, 2) := by decide +kernel
theorem dX3_waysFrom_128 : decode cX3_waysFrom 128 = .ok (.isub, 1) := by decide +kernel
theorem dX3_waysFrom_129 : decode cX3_waysFrom 129 = .ok (.invokestatic 138, 3) := by decide +kernel
theorem dX3_waysFrom_132 : decode cX3_waysFrom 132 = .ok (.iadd, 1) := by decide +kernel
theorem dX3_waysFrom_133 : decode cX3_waysFrom 133 = .ok (.istore 10, 2) := by decide +kernel
theorem dX3_waysFrom_135 : decode cX3_waysFrom 135 = .ok (.iinc 11 1, 3) := by decide +kernel
theorem dX3_waysFrom_138 : decode cX3_waysFrom 138 = .ok (.goto (-61), 3) := by decide +kernel
theorem dX3_waysFrom_141 : decode cX3_waysFrom 141 = .ok (.iload 10, 2) := by decide +kernel
theorem dX3_waysFrom_143 : decode cX3_waysFrom 143 = .ok (.ireturn, 1) := by decide +kernel
theorem dX4_init_0 : decode cX4_init 0 = .ok (.aload_n 0, 1) := by decide +kernel
theorem dX4_init_1 : decode cX4_init 1 = .ok (.invokespecial 3, 3) := by decide +kernel
theorem dX4_init_4 : decode cX4_init 4 = .ok (.aload_n 0, 1) := by decide +kernel
theorem dX4_init_5 : decode cX4_init 5 = .ok (.bipush 60, 2) := by decide +kernel
theorem dX4_init_7 : decode cX4_init 7 = .ok (.newarray .char, 2) := by decide +kernel
theorem dX4_init_9 : decode cX4_init 9 = .ok (.putfield 9, 3) := by decide +kernel
theorem dX4_init_12 : decode cX4_init 12 = .ok (.aload_n 0, 1) := by decide +kernel
theorem dX4_init_13 : decode cX4_init 13 = .ok (.iconst 0, 1) := by decide +kernel
theorem dX4_init_14 : decode cX4_init 14 = .ok (.putfield 15, 3) := by decide +kernel
theorem dX4_init_17 : decode cX4_init 17 = .ok (.aload_n 0, 1) := by decide +kernel
theorem dX4_init_18 : decode cX4_init 18 = .ok (.bipush 21, 2) := by decide +kernel
theorem dX4_init_20 : decode cX4_init 20 = .ok (.newarray .int, 2) := by decide +kernel
theorem dX4_init_22 : decode cX4_init 22 = .ok (.putfield 19, 3) := by decide +kernel
theorem dX4_init_25 : decode cX4_init 25 = .ok (.aload_n 0, 1) := by decide +kernel
theorem dX4_init_26 : decode cX4_init 26 = .ok (.iconst 0, 1) := by decide +kernel
theorem dX4_init_27 : decode cX4_init 27 = .ok (.putfield 23, 3) := by decide +kernel
theorem dX4_init_30 : decode cX4_init 30 = .ok (.return_, 1) := by decide +kernel
theorem dX4_length_0 : decode cX4_length 0 = .ok (.aload_n 0, 1) := by decide +kernel
theorem dX4_length_1 : decode cX4_length 1 = .ok (.getfield 15, 3) := by decide +kernel
theorem dX4_length_4 : decode cX4_length 4 = .ok (.ireturn, 1) := by decide +kernel
theorem dX4_empty_0 : decode cX4_empty 0 = .ok (.aload_n 0, 1) := by decide +kernel
theorem dX4_empty_1 : decode cX4_empty 1 = .ok (.iconst 0, 1) := by decide +kernel
theorem dX4_empty_2 : decode cX4_empty 2 = .ok (.putfield 15, 3) := by decide +kernel
theorem dX4_empty_5 : decode cX4_empty 5 = .ok (.return_, 1) := by decide +kernel
theorem dX4_append_0 : decode cX4_append 0 = .ok (.aload_n 0, 1) := by decide +kernel
theorem dX4_append_1 : decode cX4_append 1 = .ok (.getfield 15, 3) := by decide +kernel
theorem dX4_append_4 : decode cX4_append 4 = .ok (.ifCond .lt 15, 3) := by decide +kernel
theorem dX4_append_7 : decode cX4_append 7 = .ok (.aload_n 0, 1) := by decide +kernel
theorem dX4_append_8 : decode cX4_append 8 = .ok (.getfield 15, 3) := by decide +kernel
theorem dX4_append_11 : decode cX4_append 11 = .ok (.aload_n 0, 1) := by decide +kernel
theorem dX4_append_12 : decode cX4_append 12 = .ok (.getfield 9, 3) := by decide +kernel
theorem dX4_append_15 : decode cX4_append 15 = .ok (.arraylength, 1) := by decide +kernel
theorem dX4_append_16 : decode cX4_append 16 = .ok (.if_icmp .lt 5, 3) := by decide +kernel
theorem dX4_append_19 : decode cX4_append 19 = .ok (.iconst 0, 1) := by decide +kernel
theorem dX4_append_20 : decode cX4_append 20 = .ok (.ireturn, 1) := by decide +kernel
theorem dX4_append_21 : decode cX4_append 21 = .ok (.aload_n 0, 1) := by decide +kernel
theorem dX4_append_22 : decode cX4_append 22 = .ok (.getfield 9, 3) := by decide +kernel
theorem dX4_append_25 : decode cX4_append 25 = .ok (.aload_n 0, 1) := by decide +kernel
theorem dX4_append_26 : decode cX4_append 26 = .ok (.getfield 15, 3) := by decide +kernel
theorem dX4_append_29 : decode cX4_append 29 = .ok (.iload_n 1, 1) := by decide +kernel
theorem dX4_append_30 : decode cX4_append 30 = .ok (.castore, 1) := by decide +kernel
theorem dX4_append_31 : decode cX4_append 31 = .ok (.aload_n 0, 1) := by decide +kernel
theorem dX4_append_32 : decode cX4_append 32 = .ok (.dup, 1) := by decide +kernel
theorem dX4_append_33 : decode cX4_append 33 = .ok (.getfield 15, 3) := by decide +kernel
theorem dX4_append_36 : decode cX4_append 36 = .ok (.iconst 1, 1) := by decide +kernel
theorem dX4_append_37 : decode cX4_append 37 = .ok (.iadd, 1) := by decide +kernel
theorem dX4_append_38 : decode cX4_append 38 = .ok (.putfield 15, 3) := by decide +kernel
theorem dX4_append_41 : decode cX4_append 41 = .ok (.iconst 1, 1) := by decide +kernel
theorem dX4_append_42 : decode cX4_append 42 = .ok (.ireturn, 1) := by decide +kernel
set_option maxRecDepth 20000 in
theorem ggX4_read_X4_mayFollow : GoodIn wsX4_read wsX4_mayFollow := goodIn_r _ [7] (by decide +kernel) (by decide +kernel)
set_option maxRecDepth 20000 in
theorem gX4_read_X4_mayFollow : GoodIn wsX4_read (va_wsS RX4 26 yX4_mayFollow wsX4_mayFollow) := goodIn_app (goodIn_of _ (by decide +kernel)) ggX4_read_X4_mayFollow
set_option maxRecDepth 20000 in
theorem ggX4_read_X4_addPair : GoodIn wsX4_read wsX4_addPair := goodIn_r _ [11, 12, 1, 13, 14, 15, 16, 17, 18, 19, 20, 21] (by decide +kernel) (by decide +kernel)
set_option maxRecDepth 20000 in
theorem gX4_read_X4_addPair : GoodIn wsX4_read (wsV RX4 30 RX4 yX4_addPair wsX4_addPair) := goodIn_app (goodIn_of _ (by decide +kernel)) ggX4_read_X4_addPair
theorem dX4_read_0 : decode cX4_read 0 = .ok (.aload_n 0, 1) := by decide +kernel
theorem dX4_read_1 : decode cX4_read 1 = .ok (.iconst 0, 1) := by decide +kernel
theorem dX4_read_2 : decode cX4_read 2 = .ok (.putfield 23, 3) := by decide +kernel
theorem dX4_read_5 : decode cX4_read 5 = .ok (.iconst (-1), 1) := by decide +kernel
theorem dX4_read_6 : decode cX4_read 6 = .ok (.istore_n 1, 1) := by decide +kernel
theorem dX4_read_7 : decode cX4_read 7 = .ok (.iconst (-1), 1) := by decide +kernel
theorem dX4_read_8 : decode cX4_read 8 = .ok (.istore_n 2, 1) := by decide +kernel
theorem dX4_read_9 : decode cX4_read 9 = .ok (.iconst 0, 1) := by decide +kernel
theorem dX4_read_10 : decode cX4_read 10 = .ok (.istore_n 3, 1) := by decide +kernel
theorem dX4_read_11 : decode cX4_read 11 = .ok (.iload_n 3, 1) := by decide +kernel
theorem dX4_read_12 : decode cX4_read 12 = .ok (.aload_n 0, 1) := by decide +kernel
theorem dX4_read_13 : decode cX4_read 13 = .ok (.getfield 15, 3) := by decide +kernel
theorem dX4_read_16 : decode cX4_read 16 = .ok (.if_icmp .ge 114, 3) := by decide +kernel
theorem dX4_read_19 : decode cX4_read 19 = .ok (.iload_n 3, 1) := by decide +kernel
theorem dX4_read_20 : decode cX4_read 20 = .ok (.aload_n 0, 1) := by decide +kernel
theorem dX4_read_21 : decode cX4_read 21 = .ok (.getfield 9, 3) := by decide +kernel
theorem dX4_read_24 : decode cX4_read 24 = .ok (.arraylength, 1) := by decide +kernel
theorem dX4_read_25 : decode cX4_read 25 = .ok (.if_icmp .ge 105, 3) := by decide +kernel
theorem dX4_read_28 : decode cX4_read 28 = .ok (.aload_n 0, 1) := by decide +kernel
theorem dX4_read_29 : decode cX4_read 29 = .ok (.getfield 9, 3) := by decide +kernel
theorem dX4_read_32 : decode cX4_read 32 = .ok (.iload_n 3, 1) := by decide +kernel
theorem dX4_read_33 : decode cX4_read 33 = .ok (.caload, 1) := by decide +kernel
theorem dX4_read_34 : decode cX4_read 34 = .ok (.istore 4, 2) := by decide +kernel
theorem dX4_read_36 : decode cX4_read 36 = .ok (.iload_n 2, 1) := by decide +kernel
theorem dX4_read_37 : decode cX4_read 37 = .ok (.iload 4, 2) := by decide +kernel
theorem dX4_read_39 : decode cX4_read 39 = .ok (.invokestatic 26, 3) := by decide +kernel
theorem dX4_read_42 : decode cX4_read 42 = .ok (.ifCond .eq 26, 3) := by decide +kernel
theorem dX4_read_45 : decode cX4_read 45 = .ok (.iload_n 2, 1) := by decide +kernel
theorem dX4_read_46 : decode cX4_read 46 = .ok (.iconst (-1), 1) := by decide +kernel
theorem dX4_read_47 : decode cX4_read 47 = .ok (.if_icmp .ne 7, 3) := by decide +kernel
theorem dX4_read_50 : decode cX4_read 50 = .ok (.iconst 0, 1) := by decide +kernel
theorem dX4_read_51 : decode cX4_read 51 = .ok (.goto 7, 3) := by decide +kernel
theorem dX4_read_54 : decode cX4_read 54 = .ok (.bipush 10, 2) := by decide +kernel
theorem dX4_read_56 : decode cX4_read 56 = .ok (.iload_n 2, 1) := by decide +kernel
theorem dX4_read_57 : decode cX4_read 57 = .ok (.imul, 1) := by decide +kernel
theorem dX4_read_58 : decode cX4_read 58 = .ok (.iload 4, 2) := by decide +kernel
theorem dX4_read_60 : decode cX4_read 60 = .ok (.bipush 48, 2) := by decide +kernel
theorem dX4_read_62 : decode cX4_read 62 = .ok (.isub, 1) := by decide +kernel
theorem dX4_read_63 : decode cX4_read 63 = .ok (.iadd, 1) := by decide +kernel
theorem dX4_read_64 : decode cX4_read 64 = .ok (.istore_n 2, 1) := by decide +kernel
theorem dX4_read_65 : decode cX4_read 65 = .ok (.goto 59, 3) := by decide +kernel
theorem dX4_read_68 : decode cX4_read 68 = .ok (.iload 4, 2) := by decide +kernel
theorem dX4_read_70 : decode cX4_read 70 = .ok (.bipush 45, 2) := by decide +kernel
theorem dX4_read_72 : decode cX4_read 72 = .ok (.if_icmp .ne 20, 3) := by decide +kernel
theorem dX4_read_75 : decode cX4_read 75 = .ok (.iload_n 2, 1) := by decide +kernel
theorem dX4_read_76 : decode cX4_read 76 = .ok (.iconst (-1), 1) := by decide +kernel
theorem dX4_read_77 : decode cX4_read 77 = .ok (.if_icmp .eq 15, 3) := by decide +kernel
theorem dX4_read_80 : decode cX4_read 80 = .ok (.iload_n 1, 1) := by decide +kernel
theorem dX4_read_81 : decode cX4_read 81 = .ok (.iconst (-1), 1) := by decide +kernel
theorem dX4_read_82 : decode cX4_read 82 = .ok (.if_icmp .ne 10, 3) := by decide +kernel
theorem dX4_read_85 : decode cX4_read 85 = .ok (.iload_n 2, 1) := by decide +kernel
theorem dX4_read_86 : decode cX4_read 86 = .ok (.istore_n 1, 1) := by decide +kernel
theorem dX4_read_87 : decode cX4_read 87 = .ok (.iconst (-1), 1) := by decide +kernel
theorem dX4_read_88 : decode cX4_read 88 = .ok (.istore_n 2, 1) := by decide +kernel
theorem dX4_read_89 : decode cX4_read 89 = .ok (.goto 35, 3) := by decide +kernel
theorem dX4_read_92 : decode cX4_read 92 = .ok (.iload 4, 2) := by decide +kernel
theorem dX4_read_94 : decode cX4_read 94 = .ok (.bipush 44, 2) := by decide +kernel
theorem dX4_read_96 : decode cX4_read 96 = .ok (.if_icmp .ne 26, 3) := by decide +kernel
theorem dX4_read_99 : decode cX4_read 99 = .ok (.iload_n 2, 1) := by decide +kernel
theorem dX4_read_100 : decode cX4_read 100 = .ok (.iconst (-1), 1) := by decide +kernel
theorem dX4_read_101 : decode cX4_read 101 = .ok (.if_icmp .eq 21, 3) := by decide +kernel
theorem dX4_read_104 : decode cX4_read 104 = .ok (.iload_n 1, 1) := by decide +kernel
theorem dX4_read_105 : decode cX4_read 105 = .ok (.iconst (-1), 1) := by decide +kernel
theorem dX4_read_106 : decode cX4_read 106 = .ok (.if_icmp .eq 16, 3) := by decide +kernel
theorem dX4_read_109 : decode cX4_read 109 = .ok (.aload_n 0, 1) := by decide +kernel
theorem dX4_read_110 : decode cX4_read 110 = .ok (.iload_n 1, 1) := by decide +kernel
theorem dX4_read_111 : decode cX4_read 111 = .ok (.iload_n 2, 1) := by decide +kernel
theorem dX4_read_112 : decode cX4_read 112 = .ok (.invokevirtual 30, 3) := by decide +kernel
theorem dX4_read_115 : decode cX4_read 115 = .ok (.iconst (-1), 1) := by decide +kernel
theorem dX4_read_116 : decode cX4_read 116 = .ok (.istore_n 1, 1) := by decide +kernel
theorem dX4_read_117 : decode cX4_read 117 = .ok (.iconst (-1), 1) := by decide +kernel
theorem dX4_read_118 : decode cX4_read 118 = .ok (.istore_n 2, 1) := by decide +kernel
theorem dX4_read_119 : decode cX4_read 119 = .ok (.goto 5, 3) := by decide +kernel
theorem dX4_read_122 : decode cX4_read 122 = .ok (.iload_n 3, 1) := by decide +kernel
theorem dX4_read_123 : decode cX4_read 123 = .ok (.ireturn, 1) := by decide +kernel
theorem dX4_read_124 : decode cX4_read 124 = .ok (.iinc 3 1, 3) := by decide +kernel
theorem dX4_read_127 : decode cX4_read 127 = .ok (.goto (-116), 3) := by decide +kernel
theorem dX4_read_130 : decode cX4_read 130 = .ok (.iload_n 1, 1) := by decide +kernel
theorem dX4_read_131 : decode cX4_read 131 = .ok (.iconst (-1), 1) := by decide +kernel
theorem dX4_read_132 : decode cX4_read 132 = .ok (.if_icmp .eq 8, 3) := by decide +kernel
theorem dX4_read_135 : decode cX4_read 135 = .ok (.iload_n 2, 1) := by decide +kernel
theorem dX4_read_136 : decode cX4_read 136 = .ok (.iconst (-1), 1) := by decide +kernel
theorem dX4_read_137 : decode cX4_read 137 = .ok (.if_icmp .ne 8, 3) := by decide +kernel
theorem dX4_read_140 : decode cX4_read 140 = .ok (.aload_n 0, 1) := by decide +kernel
theorem dX4_read_141 : decode cX4_read 141 = .ok (.getfield 15, 3) := by decide +kernel
theorem dX4_read_144 : decode cX4_read 144 = .ok (.ireturn, 1) := by decide +kernel
theorem dX4_read_145 : decode cX4_read 145 = .ok (.aload_n 0, 1) := by decide +kernel
theorem dX4_read_146 : decode cX4_read 146 = .ok (.iload_n 1, 1) := by decide +kernel
theorem dX4_read_147 : decode cX4_read 147 = .ok (.iload_n 2, 1) := by decide +kernel
theorem dX4_read_148 : decode cX4_read 148 = .ok (.invokevirtual 30, 3) := by decide +kernel
theorem dX4_read_151 : decode cX4_read 151 = .ok (.iconst (-1), 1) := by decide +kernel
theorem dX4_read_152 : decode cX4_read 152 = .ok (.ireturn, 1) := by decide +kernel
theorem dX4_mayFollow_0 : decode cX4_mayFollow 0 = .ok (.iload_n 1, 1) := by decide +kernel
theorem dX4_mayFollow_1 : decode cX4_mayFollow 1 = .ok (.bipush 48, 2) := by decide +kernel
theorem dX4_mayFollow_3 : decode cX4_mayFollow 3 = .ok (.if_icmp .lt 9, 3) := by decide +kernel
theorem dX4_mayFollow_6 : decode cX4_mayFollow 6 = .ok (.iload_n 1, 1) := by decide +kernel
theorem dX4_mayFollow_7 : decode cX4_mayFollow 7 = .ok (.bipush 57, 2) := by decide +kernel
theorem dX4_mayFollow_9 : decode cX4_mayFollow 9 = .ok (.if_icmp .le 5, 3) := by decide +kernel
theorem dX4_mayFollow_12 : decode cX4_mayFollow 12 = .ok (.iconst 0, 1) := by decide +kernel
theorem dX4_mayFollow_13 : decode cX4_mayFollow 13 = .ok (.ireturn, 1) := by decide +kernel
theorem dX4_mayFollow_14 : decode cX4_mayFollow 14 = .ok (.iload_n 0, 1) := by decide +kernel
theorem dX4_mayFollow_15 : decode cX4_mayFollow 15 = .ok (.iconst (-1), 1) := by decide +kernel
theorem dX4_mayFollow_16 : decode cX4_mayFollow 16 = .ok (.if_icmp .eq 14, 3) := by decide +kernel
theorem dX4_mayFollow_19 : decode cX4_mayFollow 19 = .ok (.iload_n 0, 1) := by decide +kernel
theorem dX4_mayFollow_20 : decode cX4_mayFollow 20 = .ok (.iconst 1, 1) := by decide +kernel
theorem dX4_mayFollow_21 : decode cX4_mayFollow 21 = .ok (.if_icmp .ne 13, 3) := by decide +kernel
theorem dX4_mayFollow_24 : decode cX4_mayFollow 24 = .ok (.iload_n 1, 1) := by decide +kernel
theorem dX4_mayFollow_25 : decode cX4_mayFollow 25 = .ok (.bipush 51, 2) := by decide +kernel
theorem dX4_mayFollow_27 : decode cX4_mayFollow 27 = .ok (.if_icmp .gt 7, 3) := by decide +kernel
theorem dX4_mayFollow_30 : decode cX4_mayFollow 30 = .ok (.iconst 1, 1) := by decide +kernel
theorem dX4_mayFollow_31 : decode cX4_mayFollow 31 = .ok (.goto 4, 3) := by decide +kernel
theorem dX4_mayFollow_34 : decode cX4_mayFollow 34 = .ok (.iconst 0, 1) := by decide +kernel
theorem dX4_mayFollow_35 : decode cX4_mayFollow 35 = .ok (.ireturn, 1) := by decide +kernel
set_option maxRecDepth 20000 in
theorem ggX4_addPair_X6_bit : GoodIn wsX4_addPair wsX6_bit := goodIn_r _ [5] (by decide +kernel) (by decide +kernel)
set_option maxRecDepth 20000 in
theorem gX4_addPair_X6_bit_n34 : GoodIn wsX4_addPair (wsX6_bit) := ggX4_addPair_X6_bit
set_option maxRecDepth 20000 in
theorem ggX4_addPair_X6_put : GoodIn wsX4_addPair wsX6_put := goodIn_r _ [7] (by decide +kernel) (by decide +kernel)
set_option maxRecDepth 20000 in
theorem gX4_addPair_X6_put_n38 : GoodIn wsX4_addPair (wsX6_put) := ggX4_addPair_X6_put
theorem dX4_addPair_0 : decode cX4_addPair 0 = .ok (.aload_n 0, 1) := by decide +kernel
theorem dX4_addPair_1 : decode cX4_addPair 1 = .ok (.getfield 19, 3) := by decide +kernel
theorem dX4_addPair_4 : decode cX4_addPair 4 = .ok (.aload_n 0, 1) := by decide +kernel
theorem dX4_addPair_5 : decode cX4_addPair 5 = .ok (.getfield 23, 3) := by decide +kernel
theorem dX4_addPair_8 : decode cX4_addPair 8 = .ok (.iload_n 1, 1) := by decide +kernel
theorem dX4_addPair_9 : decode cX4_addPair 9 = .ok (.invokestatic 34, 3) := by decide +kernel
theorem dX4_addPair_12 : decode cX4_addPair 12 = .ok (.iload_n 2, 1) := by decide +kernel
theorem dX4_addPair_13 : decode cX4_addPair 13 = .ok (.invokestatic 34, 3) := by decide +kernel
theorem dX4_addPair_16 : decode cX4_addPair 16 = .ok (.ior, 1) := by decide +kernel
theorem dX4_addPair_17 : decode cX4_addPair 17 = .ok (.invokestatic 38, 3) := by decide +kernel
theorem dX4_addPair_20 : decode cX4_addPair 20 = .ok (.aload_n 0, 1) := by decide +kernel
theorem dX4_addPair_21 : decode cX4_addPair 21 = .ok (.dup, 1) := by decide +kernel
theorem dX4_addPair_22 : decode cX4_addPair 22 = .ok (.getfield 23, 3) := by decide +kernel
theorem dX4_addPair_25 : decode cX4_addPair 25 = .ok (.iconst 1, 1) := by decide +kernel
theorem dX4_addPair_26 : decode cX4_addPair 26 = .ok (.iadd, 1) := by decide +kernel
theorem dX4_addPair_27 : decode cX4_addPair 27 = .ok (.putfield 23, 3) := by decide +kernel
theorem dX4_addPair_30 : decode cX4_addPair 30 = .ok (.return_, 1) := by decide +kernel
set_option maxRecDepth 20000 in
theorem ggX4_tiesAKnotToItself_X6_at : GoodIn wsX4_tiesAKnotToItself wsX6_at := goodIn_r _ [5] (by decide +kernel) (by decide +kernel)
set_option maxRecDepth 20000 in
theorem gX4_tiesAKnotToItself_X6_at_n42 : GoodIn wsX4_tiesAKnotToItself (wsX6_at) := ggX4_tiesAKnotToItself_X6_at
set_option maxRecDepth 20000 in
theorem ggX4_tiesAKnotToItself_J6_bitCount_0f7a4 : GoodIn wsX4_tiesAKnotToItself wsJ6_bitCount_0f7a4 := goodIn_r _ [9, 10, 11, 12] (by decide +kernel) (by decide +kernel)
set_option maxRecDepth 20000 in
theorem gX4_tiesAKnotToItself_J6_bitCount_0f7a4 : GoodIn wsX4_tiesAKnotToItself (va_wsS RX4 46 yJ6_bitCount_0f7a4 wsJ6_bitCount_0f7a4) := goodIn_app (goodIn_of _ (by decide +kernel)) ggX4_tiesAKnotToItself_J6_bitCount_0f7a4
theorem dX4_tiesAKnotToItself_0 : decode cX4_tiesAKnotToItself 0 = .ok (.iconst 0, 1) := by decide +kernel
theorem dX4_tiesAKnotToItself_1 : decode cX4_tiesAKnotToItself 1 = .ok (.istore_n 1, 1) := by decide +kernel
theorem dX4_tiesAKnotToItself_2 : decode cX4_tiesAKnotToItself 2 = .ok (.iload_n 1, 1) := by decide +kernel
theorem dX4_tiesAKnotToItself_3 : decode cX4_tiesAKnotToItself 3 = .ok (.aload_n 0, 1) := by decide +kernel
theorem dX4_tiesAKnotToItself_4 : decode cX4_tiesAKnotToItself 4 = .ok (.getfield 23, 3) := by decide +kernel
theorem dX4_tiesAKnotToItself_7 : decode cX4_tiesAKnotToItself 7 = .ok (.if_icmp .ge 26, 3) := by decide +kernel
theorem dX4_tiesAKnotToItself_10 : decode cX4_tiesAKnotToItself 10 = .ok (.aload_n 0, 1) := by decide +kernel
theorem dX4_tiesAKnotToItself_11 : decode cX4_tiesAKnotToItself 11 = .ok (.getfield 19, 3) := by decide +kernel
theorem dX4_tiesAKnotToItself_14 : decode cX4_tiesAKnotToItself 14 = .ok (.iload_n 1, 1) := by decide +kernel
theorem dX4_tiesAKnotToItself_15 : decode cX4_tiesAKnotToItself 15 = .ok (.invokestatic 42, 3) := by decide +kernel
theorem dX4_tiesAKnotToItself_18 : decode cX4_tiesAKnotToItself 18 = .ok (.invokestatic 46, 3) := by decide +kernel
theorem dX4_tiesAKnotToItself_21 : decode cX4_tiesAKnotToItself 21 = .ok (.iconst 1, 1) := by decide +kernel
theorem dX4_tiesAKnotToItself_22 : decode cX4_tiesAKnotToItself 22 = .ok (.if_icmp .ne 5, 3) := by decide +kernel
theorem dX4_tiesAKnotToItself_25 : decode cX4_tiesAKnotToItself 25 = .ok (.iconst 1, 1) := by decide +kernel
theorem dX4_tiesAKnotToItself_26 : decode cX4_tiesAKnotToItself 26 = .ok (.ireturn, 1) := by decide +kernel
theorem dX4_tiesAKnotToItself_27 : decode cX4_tiesAKnotToItself 27 = .ok (.iinc 1 1, 3) := by decide +kernel
theorem dX4_tiesAKnotToItself_30 : decode cX4_tiesAKnotToItself 30 = .ok (.goto (-28), 3) := by decide +kernel
theorem dX4_tiesAKnotToItself_33 : decode cX4_tiesAKnotToItself 33 = .ok (.iconst 0, 1) := by decide +kernel
theorem dX4_tiesAKnotToItself_34 : decode cX4_tiesAKnotToItself 34 = .ok (.ireturn, 1) := by decide +kernel
set_option maxRecDepth 20000 in
theorem ggX4_tieInto_X2_empty : GoodIn wsX4_tieInto wsX2_empty := goodIn_r _ [7, 8, 9, 70, 71, 72, 73] (by decide +kernel) (by decide +kernel)
set_option maxRecDepth 20000 in
theorem gX4_tieInto_X2_empty : GoodIn wsX4_tieInto (wsV RX4 51 RX2 yX2_empty wsX2_empty) := goodIn_app (goodIn_of _ (by decide +kernel)) ggX4_tieInto_X2_empty
set_option maxRecDepth 20000 in
theorem ggX4_tieInto_X6_at : GoodIn wsX4_tieInto wsX6_at := goodIn_r _ [12] (by decide +kernel) (by decide +kernel)
set_option maxRecDepth 20000 in
theorem gX4_tieInto_X6_at_n42 : GoodIn wsX4_tieInto (wsX6_at) := ggX4_tieInto_X6_at
set_option maxRecDepth 20000 in
theorem ggX4_tieInto_X2_mayTie : GoodIn wsX4_tieInto wsX2_mayTie := goodIn_r _ [16, 17, 18, 19, 6, 20, 9, 21, 22, 23, 24, 25, 10, 11, 12, 26, 27, 28, 29, 30, 31, 32, 33, 34, 35, 36, 37, 38, 39, 40, 41, 42, 43, 44, 45, 46, 47, 48, 49, 70, 71, 72, 73] (by decide +kernel) (by decide +kernel)
set_option maxRecDepth 20000 in
theorem gX4_tieInto_X2_mayTie : GoodIn wsX4_tieInto (wsV RX4 56 RX2 yX2_mayTie wsX2_mayTie) := goodIn_app (goodIn_of _ (by decide +kernel)) ggX4_tieInto_X2_mayTie
set_option maxRecDepth 20000 in
theorem ggX4_tieInto_X2_tie : GoodIn wsX4_tieInto wsX2_tie := goodIn_r _ [53, 9, 25, 54, 55, 11, 56, 70, 71, 72, 73] (by decide +kernel) (by decide +kernel)
set_option maxRecDepth 20000 in
theorem gX4_tieInto_X2_tie : GoodIn wsX4_tieInto (wsV RX4 60 RX2 yX2_tie wsX2_tie) := goodIn_app (goodIn_of _ (by decide +kernel)) ggX4_tieInto_X2_tie
set_option maxRecDepth 20000 in
theorem ggX4_tieInto_J6_numberOfLeadingZeros_0f7a4 : GoodIn wsX4_tieInto wsJ6_numberOfLeadingZeros_0f7a4 := goodIn_r _ [33, 30] (by decide +kernel) (by decide +kernel)
set_option maxRecDepth 20000 in
theorem gX4_tieInto_J6_numberOfLeadingZeros_0f7a4 : GoodIn wsX4_tieInto (va_wsS RX4 64 yJ6_numberOfLeadingZeros_0f7a4 wsJ6_numberOfLeadingZeros_0f7a4) := goodIn_app (goodIn_of _ (by decide +kernel)) ggX4_tieInto_J6_numberOfLeadingZeros_0f7a4
set_option maxRecDepth 20000 in
theorem ggX4_tieInto_X2_addKnots : GoodIn wsX4_tieInto wsX2_addKnots := goodIn_r _ [61, 8, 62, 63, 64, 65, 70, 71, 72, 73] (by decide +kernel) (by decide +kernel)
set_option maxRecDepth 20000 in
theorem gX4_tieInto_X2_addKnots : GoodIn wsX4_tieInto (wsV RX4 67 RX2 yX2_addKnots wsX2_addKnots) := goodIn_app (goodIn_of _ (by decide +kernel)) ggX4_tieInto_X2_addKnots
theorem dX4_tieInto_0 : decode cX4_tieInto 0 = .ok (.iconst 0, 1) := by decide +kernel
theorem dX4_tieInto_1 : decode cX4_tieInto 1 = .ok (.istore_n 2, 1) := by decide +kernel
theorem dX4_tieInto_2 : decode cX4_tieInto 2 = .ok (.aload_n 1, 1) := by decide +kernel
theorem dX4_tieInto_3 : decode cX4_tieInto 3 = .ok (.invokevirtual 51, 3) := by decide +kernel
theorem dX4_tieInto_6 : decode cX4_tieInto 6 = .ok (.iconst 0, 1) := by decide +kernel
theorem dX4_tieInto_7 : decode cX4_tieInto 7 = .ok (.istore_n 3, 1) := by decide +kernel
theorem dX4_tieInto_8 : decode cX4_tieInto 8 = .ok (.iload_n 3, 1) := by decide +kernel
theorem dX4_tieInto_9 : decode cX4_tieInto 9 = .ok (.aload_n 0, 1) := by decide +kernel
theorem dX4_tieInto_10 : decode cX4_tieInto 10 = .ok (.getfield 23, 3) := by decide +kernel
theorem dX4_tieInto_13 : decode cX4_tieInto 13 = .ok (.if_icmp .ge 49, 3) := by decide +kernel
theorem dX4_tieInto_16 : decode cX4_tieInto 16 = .ok (.aload_n 1, 1) := by decide +kernel
theorem dX4_tieInto_17 : decode cX4_tieInto 17 = .ok (.aload_n 0, 1) := by decide +kernel
theorem dX4_tieInto_18 : decode cX4_tieInto 18 = .ok (.getfield 19, 3) := by decide +kernel
theorem dX4_tieInto_21 : decode cX4_tieInto 21 = .ok (.iload_n 3, 1) := by decide +kernel
theorem dX4_tieInto_22 : decode cX4_tieInto 22 = .ok (.invokestatic 42, 3) := by decide +kernel
theorem dX4_tieInto_25 : decode cX4_tieInto 25 = .ok (.invokevirtual 56, 3) := by decide +kernel
theorem dX4_tieInto_28 : decode cX4_tieInto 28 = .ok (.ifCond .ne 5, 3) := by decide +kernel
theorem dX4_tieInto_31 : decode cX4_tieInto 31 = .ok (.iconst 0, 1) := by decide +kernel
theorem dX4_tieInto_32 : decode cX4_tieInto 32 = .ok (.ireturn, 1) := by decide +kernel
theorem dX4_tieInto_33 : decode cX4_tieInto 33 = .ok (.aload_n 1, 1) := by decide +kernel
theorem dX4_tieInto_34 : decode cX4_tieInto 34 = .ok (.aload_n 0, 1) := by decide +kernel
theorem dX4_tieInto_35 : decode cX4_tieInto 35 = .ok (.getfield 19, 3) := by decide +kernel
theorem dX4_tieInto_38 : decode cX4_tieInto 38 = .ok (.iload_n 3, 1) := by decide +kernel
theorem dX4_tieInto_39 : decode cX4_tieInto 39 = .ok (.invokestatic 42, 3) := by decide +kernel
theorem dX4_tieInto_42 : decode cX4_tieInto 42 = .ok (.invokevirtual 60, 3) := by decide +kernel
theorem dX4_tieInto_45 : decode cX4_tieInto 45 = .ok (.iload_n 2, 1) := by decide +kernel
theorem dX4_tieInto_46 : decode cX4_tieInto 46 = .ok (.aload_n 0, 1) := by decide +kernel
theorem dX4_tieInto_47 : decode cX4_tieInto 47 = .ok (.getfield 19, 3) := by decide +kernel
theorem dX4_tieInto_50 : decode cX4_tieInto 50 = .ok (.iload_n 3, 1) := by decide +kernel
theorem dX4_tieInto_51 : decode cX4_tieInto 51 = .ok (.invokestatic 42, 3) := by decide +kernel
theorem dX4_tieInto_54 : decode cX4_tieInto 54 = .ok (.ior, 1) := by decide +kernel
theorem dX4_tieInto_55 : decode cX4_tieInto 55 = .ok (.istore_n 2, 1) := by decide +kernel
theorem dX4_tieInto_56 : decode cX4_tieInto 56 = .ok (.iinc 3 1, 3) := by decide +kernel
theorem dX4_tieInto_59 : decode cX4_tieInto 59 = .ok (.goto (-51), 3) := by decide +kernel
theorem dX4_tieInto_62 : decode cX4_tieInto 62 = .ok (.aload_n 1, 1) := by decide +kernel
theorem dX4_tieInto_63 : decode cX4_tieInto 63 = .ok (.bipush 32, 2) := by decide +kernel
theorem dX4_tieInto_65 : decode cX4_tieInto 65 = .ok (.iload_n 2, 1) := by decide +kernel
theorem dX4_tieInto_66 : decode cX4_tieInto 66 = .ok (.invokestatic 64, 3) := by decide +kernel
theorem dX4_tieInto_69 : decode cX4_tieInto 69 = .ok (.isub, 1) := by decide +kernel
theorem dX4_tieInto_70 : decode cX4_tieInto 70 = .ok (.invokevirtual 67, 3) := by decide +kernel
theorem dX4_tieInto_73 : decode cX4_tieInto 73 = .ok (.iconst 1, 1) := by decide +kernel
theorem dX4_tieInto_74 : decode cX4_tieInto 74 = .ok (.ireturn, 1) := by decide +kernel
