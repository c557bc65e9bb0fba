theorem dX7_join_90 : decode cX7_join 90 = .ok (.iload_n 3, 1) := by decide +kernel
theorem dX7_join_91 : decode cX7_join 91 = .ok (.iconst 1, 1) := by decide +kernel
theorem dX7_join_92 : decode cX7_join 92 = .ok (.iadd, 1) := by decide +kernel
theorem dX7_join_93 : decode cX7_join 93 = .ok (.aload_n 0, 1) := by decide +kernel
theorem dX7_join_94 : decode cX7_join 94 = .ok (.iload_n 2, 1) := by decide +kernel
theorem dX7_join_95 : decode cX7_join 95 = .ok (.iconst 2, 1) := by decide +kernel
theorem dX7_join_96 : decode cX7_join 96 = .ok (.invokevirtual 56, 3) := by decide +kernel
theorem dX7_join_99 : decode cX7_join 99 = .ok (.invokevirtual 48, 3) := by decide +kernel
theorem dX7_join_102 : decode cX7_join 102 = .ok (.aload_n 0, 1) := by decide +kernel
theorem dX7_join_103 : decode cX7_join 103 = .ok (.getfield 7, 3) := by decide +kernel
theorem dX7_join_106 : decode cX7_join 106 = .ok (.iconst 0, 1) := by decide +kernel
theorem dX7_join_107 : decode cX7_join 107 = .ok (.dup2, 1) := by decide +kernel
theorem dX7_join_108 : decode cX7_join 108 = .ok (.iaload, 1) := by decide +kernel
theorem dX7_join_109 : decode cX7_join 109 = .ok (.iconst 2, 1) := by decide +kernel
theorem dX7_join_110 : decode cX7_join 110 = .ok (.iadd, 1) := by decide +kernel
theorem dX7_join_111 : decode cX7_join 111 = .ok (.iastore, 1) := by decide +kernel
theorem dX7_join_112 : decode cX7_join 112 = .ok (.aload_n 0, 1) := by decide +kernel
theorem dX7_join_113 : decode cX7_join 113 = .ok (.iload_n 3, 1) := by decide +kernel
theorem dX7_join_114 : decode cX7_join 114 = .ok (.iload 4, 2) := by decide +kernel
theorem dX7_join_116 : decode cX7_join 116 = .ok (.invokevirtual 115, 3) := by decide +kernel
theorem dX7_join_119 : decode cX7_join 119 = .ok (.aload_n 0, 1) := by decide +kernel
theorem dX7_join_120 : decode cX7_join 120 = .ok (.iload_n 3, 1) := by decide +kernel
theorem dX7_join_121 : decode cX7_join 121 = .ok (.iconst 1, 1) := by decide +kernel
theorem dX7_join_122 : decode cX7_join 122 = .ok (.iadd, 1) := by decide +kernel
theorem dX7_join_123 : decode cX7_join 123 = .ok (.iload 5, 2) := by decide +kernel
theorem dX7_join_125 : decode cX7_join 125 = .ok (.invokevirtual 115, 3) := by decide +kernel
theorem dX7_join_128 : decode cX7_join 128 = .ok (.aload_n 0, 1) := by decide +kernel
theorem dX7_join_129 : decode cX7_join 129 = .ok (.iload_n 3, 1) := by decide +kernel
theorem dX7_join_130 : decode cX7_join 130 = .ok (.iload_n 3, 1) := by decide +kernel
theorem dX7_join_131 : decode cX7_join 131 = .ok (.iconst 1, 1) := by decide +kernel
theorem dX7_join_132 : decode cX7_join 132 = .ok (.iadd, 1) := by decide +kernel
theorem dX7_join_133 : decode cX7_join 133 = .ok (.invokevirtual 115, 3) := by decide +kernel
theorem dX7_join_136 : decode cX7_join 136 = .ok (.aload_n 0, 1) := by decide +kernel
theorem dX7_join_137 : decode cX7_join 137 = .ok (.getfield 7, 3) := by decide +kernel
theorem dX7_join_140 : decode cX7_join 140 = .ok (.iconst 1, 1) := by decide +kernel
theorem dX7_join_141 : decode cX7_join 141 = .ok (.iaload, 1) := by decide +kernel
theorem dX7_join_142 : decode cX7_join 142 = .ok (.iconst 1, 1) := by decide +kernel
theorem dX7_join_143 : decode cX7_join 143 = .ok (.isub, 1) := by decide +kernel
theorem dX7_join_144 : decode cX7_join 144 = .ok (.ireturn, 1) := by decide +kernel
set_option maxRecDepth 20000 in
theorem ggX7_touch_X7_of : GoodIn wsX7_touch wsX7_of := goodIn_r _ [5, 6, 11, 12, 13, 14, 15, 16, 17, 18, 19, 20, 21, 22, 23, 24, 25, 26, 27, 28, 29, 30] (by decide +kernel) (by decide +kernel)
set_option maxRecDepth 20000 in
theorem gX7_touch_X7_of : GoodIn wsX7_touch (wsV RX7 56 RX7 yX7_of wsX7_of) := goodIn_app (goodIn_of _ (by decide +kernel)) ggX7_touch_X7_of
set_option maxRecDepth 20000 in
theorem ggX7_touch_X7_isAt : GoodIn wsX7_touch wsX7_isAt := goodIn_r _ [10, 1, 2, 3, 4, 5, 6, 11, 12, 13, 14, 15, 16, 17, 18, 19, 20, 21, 22, 23, 24, 25, 26, 27, 28, 29, 30] (by decide +kernel) (by decide +kernel)
set_option maxRecDepth 20000 in
theorem gX7_touch_X7_isAt : GoodIn wsX7_touch (wsV RX7 60 RX7 yX7_isAt wsX7_isAt) := goodIn_app (goodIn_of _ (by decide +kernel)) ggX7_touch_X7_isAt
theorem dX7_touch_0 : decode cX7_touch 0 = .ok (.aload_n 0, 1) := by decide +kernel
theorem dX7_touch_1 : decode cX7_touch 1 = .ok (.iload_n 1, 1) := by decide +kernel
theorem dX7_touch_2 : decode cX7_touch 2 = .ok (.aload_n 0, 1) := by decide +kernel
theorem dX7_touch_3 : decode cX7_touch 3 = .ok (.iload_n 2, 1) := by decide +kernel
theorem dX7_touch_4 : decode cX7_touch 4 = .ok (.iconst 0, 1) := by decide +kernel
theorem dX7_touch_5 : decode cX7_touch 5 = .ok (.invokevirtual 56, 3) := by decide +kernel
theorem dX7_touch_8 : decode cX7_touch 8 = .ok (.invokevirtual 60, 3) := by decide +kernel
theorem dX7_touch_11 : decode cX7_touch 11 = .ok (.ifCond .ne 17, 3) := by decide +kernel
theorem dX7_touch_14 : decode cX7_touch 14 = .ok (.aload_n 0, 1) := by decide +kernel
theorem dX7_touch_15 : decode cX7_touch 15 = .ok (.iload_n 1, 1) := by decide +kernel
theorem dX7_touch_16 : decode cX7_touch 16 = .ok (.aload_n 0, 1) := by decide +kernel
theorem dX7_touch_17 : decode cX7_touch 17 = .ok (.iload_n 2, 1) := by decide +kernel
theorem dX7_touch_18 : decode cX7_touch 18 = .ok (.iconst 1, 1) := by decide +kernel
theorem dX7_touch_19 : decode cX7_touch 19 = .ok (.invokevirtual 56, 3) := by decide +kernel
theorem dX7_touch_22 : decode cX7_touch 22 = .ok (.invokevirtual 60, 3) := by decide +kernel
theorem dX7_touch_25 : decode cX7_touch 25 = .ok (.ifCond .eq 7, 3) := by decide +kernel
theorem dX7_touch_28 : decode cX7_touch 28 = .ok (.iconst 1, 1) := by decide +kernel
theorem dX7_touch_29 : decode cX7_touch 29 = .ok (.goto 4, 3) := by decide +kernel
theorem dX7_touch_32 : decode cX7_touch 32 = .ok (.iconst 0, 1) := by decide +kernel
theorem dX7_touch_33 : decode cX7_touch 33 = .ok (.ireturn, 1) := by decide +kernel
set_option maxRecDepth 20000 in
theorem ggX7_may_X7_touch : GoodIn wsX7_may wsX7_touch := goodIn_r _ [6, 7, 8, 9, 5, 10, 11, 12, 13, 14, 15, 16, 17, 18, 19, 20, 21, 22, 23, 24, 25, 26, 27, 28, 29, 30, 31, 32, 33, 34, 35] (by decide +kernel) (by decide +kernel)
set_option maxRecDepth 20000 in
theorem gX7_may_X7_touch : GoodIn wsX7_may (wsV RX7 155 RX7 yX7_touch wsX7_touch) := goodIn_app (goodIn_of _ (by decide +kernel)) ggX7_may_X7_touch
theorem dX7_may_0 : decode cX7_may 0 = .ok (.iconst 0, 1) := by decide +kernel
theorem dX7_may_1 : decode cX7_may 1 = .ok (.istore_n 3, 1) := by decide +kernel
theorem dX7_may_2 : decode cX7_may 2 = .ok (.iload_n 3, 1) := by decide +kernel
theorem dX7_may_3 : decode cX7_may 3 = .ok (.iload_n 1, 1) := by decide +kernel
theorem dX7_may_4 : decode cX7_may 4 = .ok (.if_icmp .ge 30, 3) := by decide +kernel
theorem dX7_may_7 : decode cX7_may 7 = .ok (.aload_n 0, 1) := by decide +kernel
theorem dX7_may_8 : decode cX7_may 8 = .ok (.getfield 23, 3) := by decide +kernel
theorem dX7_may_11 : decode cX7_may 11 = .ok (.iload_n 3, 1) := by decide +kernel
theorem dX7_may_12 : decode cX7_may 12 = .ok (.iaload, 1) := by decide +kernel
theorem dX7_may_13 : decode cX7_may 13 = .ok (.iload_n 2, 1) := by decide +kernel
theorem dX7_may_14 : decode cX7_may 14 = .ok (.if_icmp .ne 14, 3) := by decide +kernel
theorem dX7_may_17 : decode cX7_may 17 = .ok (.aload_n 0, 1) := by decide +kernel
theorem dX7_may_18 : decode cX7_may 18 = .ok (.iload_n 3, 1) := by decide +kernel
theorem dX7_may_19 : decode cX7_may 19 = .ok (.iload_n 1, 1) := by decide +kernel
theorem dX7_may_20 : decode cX7_may 20 = .ok (.invokevirtual 155, 3) := by decide +kernel
theorem dX7_may_23 : decode cX7_may 23 = .ok (.ifCond .eq 5, 3) := by decide +kernel
theorem dX7_may_26 : decode cX7_may 26 = .ok (.iconst 0, 1) := by decide +kernel
theorem dX7_may_27 : decode cX7_may 27 = .ok (.ireturn, 1) := by decide +kernel
theorem dX7_may_28 : decode cX7_may 28 = .ok (.iinc 3 1, 3) := by decide +kernel
theorem dX7_may_31 : decode cX7_may 31 = .ok (.goto (-29), 3) := by decide +kernel
theorem dX7_may_34 : decode cX7_may 34 = .ok (.iconst 1, 1) := by decide +kernel
theorem dX7_may_35 : decode cX7_may 35 = .ok (.ireturn, 1) := by decide +kernel
set_option maxRecDepth 20000 in
theorem ggX7_nextAt_X7_has : GoodIn wsX7_nextAt wsX7_has := goodIn_r _ [5] (by decide +kernel) (by decide +kernel)
set_option maxRecDepth 20000 in
theorem gX7_nextAt_X7_has : GoodIn wsX7_nextAt (va_wsS RX7 44 yX7_has wsX7_has) := goodIn_app (goodIn_of _ (by decide +kernel)) ggX7_nextAt_X7_has
set_option maxRecDepth 20000 in
theorem ggX7_nextAt_X7_of : GoodIn wsX7_nextAt wsX7_of := goodIn_r _ [9, 10, 23, 24, 25, 26, 27, 28, 29, 30, 31, 32, 33, 34, 35, 36, 37, 38, 39, 40, 41, 42] (by decide +kernel) (by decide +kernel)
set_option maxRecDepth 20000 in
theorem gX7_nextAt_X7_of : GoodIn wsX7_nextAt (wsV RX7 56 RX7 yX7_of wsX7_of) := goodIn_app (goodIn_of _ (by decide +kernel)) ggX7_nextAt_X7_of
set_option maxRecDepth 20000 in
theorem ggX7_nextAt_X7_may : GoodIn wsX7_nextAt wsX7_may := goodIn_r _ [14, 1, 15, 16, 17, 4, 18, 6, 7, 8, 9, 10, 19, 20, 21, 22, 23, 24, 25, 26, 27, 28, 29, 30, 31, 32, 33, 34, 35, 36, 37, 38, 39, 40, 41, 42] (by decide +kernel) (by decide +kernel)
set_option maxRecDepth 20000 in
theorem gX7_nextAt_X7_may : GoodIn wsX7_nextAt (wsV RX7 158 RX7 yX7_may wsX7_may) := goodIn_app (goodIn_of _ (by decide +kernel)) ggX7_nextAt_X7_may
theorem dX7_nextAt_0 : decode cX7_nextAt 0 = .ok (.iload_n 3, 1) := by decide +kernel
theorem dX7_nextAt_1 : decode cX7_nextAt 1 = .ok (.iload_n 1, 1) := by decide +kernel
theorem dX7_nextAt_2 : decode cX7_nextAt 2 = .ok (.invokestatic 44, 3) := by decide +kernel
theorem dX7_nextAt_5 : decode cX7_nextAt 5 = .ok (.ifCond .eq 18, 3) := by decide +kernel
theorem dX7_nextAt_8 : decode cX7_nextAt 8 = .ok (.aload_n 0, 1) := by decide +kernel
theorem dX7_nextAt_9 : decode cX7_nextAt 9 = .ok (.getfield 23, 3) := by decide +kernel
theorem dX7_nextAt_12 : decode cX7_nextAt 12 = .ok (.iload_n 1, 1) := by decide +kernel
theorem dX7_nextAt_13 : decode cX7_nextAt 13 = .ok (.iaload, 1) := by decide +kernel
theorem dX7_nextAt_14 : decode cX7_nextAt 14 = .ok (.ifCond .ge 7, 3) := by decide +kernel
theorem dX7_nextAt_17 : decode cX7_nextAt 17 = .ok (.iconst 4, 1) := by decide +kernel
theorem dX7_nextAt_18 : decode cX7_nextAt 18 = .ok (.goto 4, 3) := by decide +kernel
theorem dX7_nextAt_21 : decode cX7_nextAt 21 = .ok (.iconst 3, 1) := by decide +kernel
theorem dX7_nextAt_22 : decode cX7_nextAt 22 = .ok (.ireturn, 1) := by decide +kernel
theorem dX7_nextAt_23 : decode cX7_nextAt 23 = .ok (.iload_n 2, 1) := by decide +kernel
theorem dX7_nextAt_24 : decode cX7_nextAt 24 = .ok (.ifCond .eq 12, 3) := by decide +kernel
theorem dX7_nextAt_27 : decode cX7_nextAt 27 = .ok (.aload_n 0, 1) := by decide +kernel
theorem dX7_nextAt_28 : decode cX7_nextAt 28 = .ok (.iload_n 1, 1) := by decide +kernel
theorem dX7_nextAt_29 : decode cX7_nextAt 29 = .ok (.iconst 2, 1) := by decide +kernel
theorem dX7_nextAt_30 : decode cX7_nextAt 30 = .ok (.invokevirtual 56, 3) := by decide +kernel
theorem dX7_nextAt_33 : decode cX7_nextAt 33 = .ok (.goto 4, 3) := by decide +kernel
theorem dX7_nextAt_36 : decode cX7_nextAt 36 = .ok (.iconst 3, 1) := by decide +kernel
theorem dX7_nextAt_37 : decode cX7_nextAt 37 = .ok (.istore 4, 2) := by decide +kernel
theorem dX7_nextAt_39 : decode cX7_nextAt 39 = .ok (.aload_n 0, 1) := by decide +kernel
theorem dX7_nextAt_40 : decode cX7_nextAt 40 = .ok (.getfield 23, 3) := by decide +kernel
theorem dX7_nextAt_43 : decode cX7_nextAt 43 = .ok (.iload_n 1, 1) := by decide +kernel
theorem dX7_nextAt_44 : decode cX7_nextAt 44 = .ok (.iaload, 1) := by decide +kernel
theorem dX7_nextAt_45 : decode cX7_nextAt 45 = .ok (.iconst 1, 1) := by decide +kernel
theorem dX7_nextAt_46 : decode cX7_nextAt 46 = .ok (.iadd, 1) := by decide +kernel
theorem dX7_nextAt_47 : decode cX7_nextAt 47 = .ok (.istore 5, 2) := by decide +kernel
theorem dX7_nextAt_49 : decode cX7_nextAt 49 = .ok (.iload 5, 2) := by decide +kernel
theorem dX7_nextAt_51 : decode cX7_nextAt 51 = .ok (.iconst 3, 1) := by decide +kernel
theorem dX7_nextAt_52 : decode cX7_nextAt 52 = .ok (.if_icmp .ge 32, 3) := by decide +kernel
theorem dX7_nextAt_55 : decode cX7_nextAt 55 = .ok (.aload_n 0, 1) := by decide +kernel
theorem dX7_nextAt_56 : decode cX7_nextAt 56 = .ok (.iload_n 1, 1) := by decide +kernel
theorem dX7_nextAt_57 : decode cX7_nextAt 57 = .ok (.iload 5, 2) := by decide +kernel
theorem dX7_nextAt_59 : decode cX7_nextAt 59 = .ok (.invokevirtual 158, 3) := by decide +kernel
theorem dX7_nextAt_62 : decode cX7_nextAt 62 = .ok (.ifCond .eq 16, 3) := by decide +kernel
theorem dX7_nextAt_65 : decode cX7_nextAt 65 = .ok (.iload 4, 2) := by decide +kernel
theorem dX7_nextAt_67 : decode cX7_nextAt 67 = .ok (.iconst 3, 1) := by decide +kernel
theorem dX7_nextAt_68 : decode cX7_nextAt 68 = .ok (.if_icmp .eq 16, 3) := by decide +kernel
theorem dX7_nextAt_71 : decode cX7_nextAt 71 = .ok (.iload 4, 2) := by decide +kernel
theorem dX7_nextAt_73 : decode cX7_nextAt 73 = .ok (.iload 5, 2) := by decide +kernel
theorem dX7_nextAt_75 : decode cX7_nextAt 75 = .ok (.if_icmp .eq 9, 3) := by decide +kernel
theorem dX7_nextAt_78 : decode cX7_nextAt 78 = .ok (.iinc 5 1, 3) := by decide +kernel
theorem dX7_nextAt_81 : decode cX7_nextAt 81 = .ok (.goto (-32), 3) := by decide +kernel
theorem dX7_nextAt_84 : decode cX7_nextAt 84 = .ok (.iload 5, 2) := by decide +kernel
theorem dX7_nextAt_86 : decode cX7_nextAt 86 = .ok (.ireturn, 1) := by decide +kernel
set_option maxRecDepth 20000 in
theorem ggX7_paints_X7_laysAside : GoodIn wsX7_paints wsX7_laysAside := goodIn_r _ [7, 2, 8, 1, 32, 33, 34, 35, 36, 37, 38, 39, 40, 41, 42, 43, 44, 45, 46, 47, 48, 49, 50, 51] (by decide +kernel) (by decide +kernel)
set_option maxRecDepth 20000 in
theorem gX7_paints_X7_laysAside : GoodIn wsX7_paints (wsV RX7 161 RX7 yX7_laysAside wsX7_laysAside) := goodIn_app (goodIn_of _ (by decide +kernel)) ggX7_paints_X7_laysAside
set_option maxRecDepth 20000 in
theorem ggX7_paints_X7_nextAt : GoodIn wsX7_paints wsX7_nextAt := goodIn_r _ [12, 1, 13, 14, 6, 15, 16, 17, 18, 19, 2, 20, 21, 22, 23, 24, 25, 26, 27, 28, 29, 30, 31, 32, 33, 34, 35, 36, 37, 38, 39, 40, 41, 42, 43, 44, 45, 46, 47, 48, 49, 50, 51] (by decide +kernel) (by decide +kernel)
set_option maxRecDepth 20000 in
theorem gX7_paints_X7_nextAt : GoodIn wsX7_paints (wsV RX7 165 RX7 yX7_nextAt wsX7_nextAt) := goodIn_app (goodIn_of _ (by decide +kernel)) ggX7_paints_X7_nextAt
theorem dX7_paints_0 : decode cX7_paints 0 = .ok (.iconst 0, 1) := by decide +kernel
theorem dX7_paints_1 : decode cX7_paints 1 = .ok (.istore 4, 2) := by decide +kernel
theorem dX7_paints_3 : decode cX7_paints 3 = .ok (.iconst 0, 1) := by decide +kernel
theorem dX7_paints_4 : decode cX7_paints 4 = .ok (.istore 5, 2) := by decide +kernel
theorem dX7_paints_6 : decode cX7_paints 6 = .ok (.aload_n 0, 1) := by decide +kernel
theorem dX7_paints_7 : decode cX7_paints 7 = .ok (.getfield 23, 3) := by decide +kernel
theorem dX7_paints_10 : decode cX7_paints 10 = .ok (.iconst 0, 1) := by decide +kernel
theorem dX7_paints_11 : decode cX7_paints 11 = .ok (.iconst (-1), 1) := by decide +kernel
theorem dX7_paints_12 : decode cX7_paints 12 = .ok (.iastore, 1) := by decide +kernel
theorem dX7_paints_13 : decode cX7_paints 13 = .ok (.iload 5, 2) := by decide +kernel
theorem dX7_paints_15 : decode cX7_paints 15 = .ok (.ifCond .lt 92, 3) := by decide +kernel
theorem dX7_paints_18 : decode cX7_paints 18 = .ok (.iload_n 3, 1) := by decide +kernel
theorem dX7_paints_19 : decode cX7_paints 19 = .ok (.ifCond .eq 8, 3) := by decide +kernel
theorem dX7_paints_22 : decode cX7_paints 22 = .ok (.iload 4, 2) := by decide +kernel
theorem dX7_paints_24 : decode cX7_paints 24 = .ok (.ifCond .gt 83, 3) := by decide +kernel
theorem dX7_paints_27 : decode cX7_paints 27 = .ok (.iload 5, 2) := by decide +kernel
theorem dX7_paints_29 : decode cX7_paints 29 = .ok (.aload_n 0, 1) := by decide +kernel
theorem dX7_paints_30 : decode cX7_paints 30 = .ok (.getfield 7, 3) := by decide +kernel
theorem dX7_paints_33 : decode cX7_paints 33 = .ok (.iconst 1, 1) := by decide +kernel
theorem dX7_paints_34 : decode cX7_paints 34 = .ok (.iaload, 1) := by decide +kernel
theorem dX7_paints_35 : decode cX7_paints 35 = .ok (.if_icmp .ne 26, 3) := by decide +kernel
theorem dX7_paints_38 : decode cX7_paints 38 = .ok (.aload_n 0, 1) := by decide +kernel
theorem dX7_paints_39 : decode cX7_paints 39 = .ok (.iload 4, 2) := by decide +kernel
theorem dX7_paints_41 : decode cX7_paints 41 = .ok (.ifCond .ne 7, 3) := by decide +kernel
theorem dX7_paints_44 : decode cX7_paints 44 = .ok (.iconst 1, 1) := by decide +kernel
theorem dX7_paints_45 : decode cX7_paints 45 = .ok (.goto 4, 3) := by decide +kernel
theorem dX7_paints_48 : decode cX7_paints 48 = .ok (.iconst 0, 1) := by decide +kernel
theorem dX7_paints_49 : decode cX7_paints 49 = .ok (.invokevirtual 161, 3) := by decide +kernel
theorem dX7_paints_52 : decode cX7_paints 52 = .ok (.iinc 4 1, 3) := by decide +kernel
theorem dX7_paints_55 : decode cX7_paints 55 = .ok (.iinc 5 (-1), 3) := by decide +kernel
theorem dX7_paints_58 : decode cX7_paints 58 = .ok (.goto (-45), 3) := by decide +kernel
theorem dX7_paints_61 : decode cX7_paints 61 = .ok (.aload_n 0, 1) := by decide +kernel
theorem dX7_paints_62 : decode cX7_paints 62 = .ok (.getfield 23, 3) := by decide +kernel
theorem dX7_paints_65 : decode cX7_paints 65 = .ok (.iload 5, 2) := by decide +kernel
theorem dX7_paints_67 : decode cX7_paints 67 = .ok (.aload_n 0, 1) := by decide +kernel
theorem dX7_paints_68 : decode cX7_paints 68 = .ok (.iload 5, 2) := by decide +kernel
theorem dX7_paints_70 : decode cX7_paints 70 = .ok (.iload_n 1, 1) := by decide +kernel
theorem dX7_paints_71 : decode cX7_paints 71 = .ok (.iload_n 2, 1) := by decide +kernel
theorem dX7_paints_72 : decode cX7_paints 72 = .ok (.invokevirtual 165, 3) := by decide +kernel
theorem dX7_paints_75 : decode cX7_paints 75 = .ok (.iastore, 1) := by decide +kernel
theorem dX7_paints_76 : decode cX7_paints 76 = .ok (.aload_n 0, 1) := by decide +kernel
theorem dX7_paints_77 : decode cX7_paints 77 = .ok (.getfield 23, 3) := by decide +kernel
theorem dX7_paints_80 : decode cX7_paints 80 = .ok (.iload 5, 2) := by decide +kernel
theorem dX7_paints_82 : decode cX7_paints 82 = .ok (.iaload, 1) := by decide +kernel
theorem dX7_paints_83 : decode cX7_paints 83 = .ok (.iconst 3, 1) := by decide +kernel
theorem dX7_paints_84 : decode cX7_paints 84 = .ok (.if_icmp .ne 9, 3) := by decide +kernel
theorem dX7_paints_87 : decode cX7_paints 87 = .ok (.iinc 5 (-1), 3) := by decide +kernel
theorem dX7_paints_90 : decode cX7_paints 90 = .ok (.goto (-77), 3) := by decide +kernel
theorem dX7_paints_93 : decode cX7_paints 93 = .ok (.iinc 5 1, 3) := by decide +kernel
theorem dX7_paints_96 : decode cX7_paints 96 = .ok (.aload_n 0, 1) := by decide +kernel
theorem dX7_paints_97 : decode cX7_paints 97 = .ok (.getfield 23, 3) := by decide +kernel
theorem dX7_paints_100 : decode cX7_paints 100 = .ok (.iload 5, 2) := by decide +kernel
theorem dX7_paints_102 : decode cX7_paints 102 = .ok (.iconst (-1), 1) := by decide +kernel
theorem dX7_paints_103 : decode cX7_paints 103 = .ok (.iastore, 1) := by decide +kernel
theorem dX7_paints_104 : decode cX7_paints 104 = .ok (.goto (-91), 3) := by decide +kernel
theorem dX7_paints_107 : decode cX7_paints 107 = .ok (.iload 4, 2) := by decide +kernel
theorem dX7_paints_109 : decode cX7_paints 109 = .ok (.ireturn, 1) := by decide +kernel
theorem dX7_laysAside_0 : decode cX7_laysAside 0 = .ok (.iconst 0, 1) := by decide +kernel
theorem dX7_laysAside_1 : decode cX7_laysAside 1 = .ok (.istore_n 2, 1) := by decide +kernel
theorem dX7_laysAside_2 : decode cX7_laysAside 2 = .ok (.iload_n 2, 1) := by decide +kernel
theorem dX7_laysAside_3 : decode cX7_laysAside 3 = .ok (.aload_n 0, 1) := by decide +kernel
theorem dX7_laysAside_4 : decode cX7_laysAside 4 = .ok (.getfield 7, 3) := by decide +kernel
theorem dX7_laysAside_7 : decode cX7_laysAside 7 = .ok (.iconst 1, 1) := by decide +kernel
theorem dX7_laysAside_8 : decode cX7_laysAside 8 = .ok (.iaload, 1) := by decide +kernel
theorem dX7_laysAside_9 : decode cX7_laysAside 9 = .ok (.if_icmp .ge 25, 3) := by decide +kernel
theorem dX7_laysAside_12 : decode cX7_laysAside 12 = .ok (.iload_n 1, 1) := by decide +kernel
theorem dX7_laysAside_13 : decode cX7_laysAside 13 = .ok (.ifCond .eq 21, 3) := by decide +kernel
theorem dX7_laysAside_16 : decode cX7_laysAside 16 = .ok (.aload_n 0, 1) := by decide +kernel
theorem dX7_laysAside_17 : decode cX7_laysAside 17 = .ok (.getfield 26, 3) := by decide +kernel
theorem dX7_laysAside_20 : decode cX7_laysAside 20 = .ok (.iload_n 2, 1) := by decide +kernel
theorem dX7_laysAside_21 : decode cX7_laysAside 21 = .ok (.aload_n 0, 1) := by decide +kernel
theorem dX7_laysAside_22 : decode cX7_laysAside 22 = .ok (.getfield 23, 3) := by decide +kernel
theorem dX7_laysAside_25 : decode cX7_laysAside 25 = .ok (.iload_n 2, 1) := by decide +kernel
theorem dX7_laysAside_26 : decode cX7_laysAside 26 = .ok (.iaload, 1) := by decide +kernel
theorem dX7_laysAside_27 : decode cX7_laysAside 27 = .ok (.iastore, 1) := by decide +kernel
theorem dX7_laysAside_28 : decode cX7_laysAside 28 = .ok (.iinc 2 1, 3) := by decide +kernel
theorem dX7_laysAside_31 : decode cX7_laysAside 31 = .ok (.goto (-29), 3) := by decide +kernel
theorem dX7_laysAside_34 : decode cX7_laysAside 34 = .ok (.return_, 1) := by decide +kernel
set_option maxRecDepth 20000 in
theorem ggX7_paintings_X7_in : GoodIn wsX7_paintings wsX7_in := goodIn_r _ [4] (by decide +kernel) (by decide +kernel)
set_option maxRecDepth 20000 in
theorem gX7_paintings_X7_in : GoodIn wsX7_paintings (va_wsS RX7 52 yX7_in wsX7_in) := goodIn_app (goodIn_of _ (by decide +kernel)) ggX7_paintings_X7_in
set_option maxRecDepth 20000 in
theorem ggX7_paintings_X7_paints : GoodIn wsX7_paintings wsX7_paints := goodIn_r _ [8, 9, 10, 11, 12, 13, 3, 14, 15, 16, 17, 18, 19, 20, 21, 22, 23, 24, 25, 26, 27, 28, 29, 30, 31, 32, 33, 34, 35, 36, 37, 38, 39, 40, 41, 42, 43, 44, 45, 46, 47, 48, 49, 50, 51, 52, 53, 54, 55, 56, 57, 58] (by decide +kernel) (by decide +kernel)
set_option maxRecDepth 20000 in
theorem gX7_paintings_X7_paints : GoodIn wsX7_paintings (wsV RX7 169 RX7 yX7_paints wsX7_paints) := goodIn_app (goodIn_of _ (by decide +kernel)) ggX7_paintings_X7_paints
theorem dX7_paintings_0 : decode cX7_paintings 0 = .ok (.iload_n 1, 1) := by decide +kernel
theorem dX7_paintings_1 : decode cX7_paintings 1 = .ok (.iconst 0, 1) := by decide +kernel
theorem dX7_paintings_2 : decode cX7_paintings 2 = .ok (.iconst 2, 1) := by decide +kernel
theorem dX7_paintings_3 : decode cX7_paintings 3 = .ok (.invokestatic 52, 3) := by decide +kernel
theorem dX7_paintings_6 : decode cX7_paintings 6 = .ok (.ifCond .ne 6, 3) := by decide +kernel
theorem dX7_paintings_9 : decode cX7_paintings 9 = .ok (.bipush (-2), 2) := by decide +kernel
theorem dX7_paintings_11 : decode cX7_paintings 11 = .ok (.ireturn, 1) := by decide +kernel
theorem dX7_paintings_12 : decode cX7_paintings 12 = .ok (.aload_n 0, 1) := by decide +kernel
theorem dX7_paintings_13 : decode cX7_paintings 13 = .ok (.iload_n 1, 1) := by decide +kernel
theorem dX7_paintings_14 : decode cX7_paintings 14 = .ok (.iconst 1, 1) := by decide +kernel
theorem dX7_paintings_15 : decode cX7_paintings 15 = .ok (.if_icmp .ne 7, 3) := by decide +kernel
theorem dX7_paintings_18 : decode cX7_paintings 18 = .ok (.iconst 1, 1) := by decide +kernel
theorem dX7_paintings_19 : decode cX7_paintings 19 = .ok (.goto 4, 3) := by decide +kernel
theorem dX7_paintings_22 : decode cX7_paintings 22 = .ok (.iconst 0, 1) := by decide +kernel
theorem dX7_paintings_23 : decode cX7_paintings 23 = .ok (.iconst 0, 1) := by decide +kernel
theorem dX7_paintings_24 : decode cX7_paintings 24 = .ok (.iload_n 1, 1) := by decide +kernel
theorem dX7_paintings_25 : decode cX7_paintings 25 = .ok (.ifCond .ne 7, 3) := by decide +kernel
theorem dX7_paintings_28 : decode cX7_paintings 28 = .ok (.iconst 1, 1) := by decide +kernel
theorem dX7_paintings_29 : decode cX7_paintings 29 = .ok (.goto 4, 3) := by decide +kernel
theorem dX7_paintings_32 : decode cX7_paintings 32 = .ok (.iconst 0, 1) := by decide +kernel
theorem dX7_paintings_33 : decode cX7_paintings 33 = .ok (.invokevirtual 169, 3) := by decide +kernel
theorem dX7_paintings_36 : decode cX7_paintings 36 = .ok (.ireturn, 1) := by decide +kernel
set_option maxRecDepth 20000 in
theorem ggX7_firstPainting_X7_isThread : GoodIn wsX7_firstPainting wsX7_isThread := goodIn_r _ [6, 7, 8, 9, 5, 10, 43, 44, 45, 46, 47, 48, 49, 50, 51, 52, 53, 54, 55, 56, 57, 58, 59, 60, 61, 62] (by decide +kernel) (by decide +kernel)
set_option maxRecDepth 20000 in
theorem gX7_firstPainting_X7_isThread : GoodIn wsX7_firstPainting (wsV RX7 133 RX7 yX7_isThread wsX7_isThread) := goodIn_app (goodIn_of _ (by decide +kernel)) ggX7_firstPainting_X7_isThread
set_option maxRecDepth 20000 in
theorem ggX7_firstPainting_X7_paints : GoodIn wsX7_firstPainting wsX7_paints := goodIn_r _ [14, 15, 7, 16, 17, 18, 5, 19, 1, 20, 21, 22, 23, 24, 25, 26, 27, 28, 29, 30, 31, 32, 33, 34, 35, 36, 37, 38, 39, 40, 41, 42, 43, 44, 45, 46, 47, 48, 49, 50, 51, 52, 53, 54, 55, 56, 57, 58, 59, 60, 61, 62] (by decide +kernel) (by decide +kernel)
set_option maxRecDepth 20000 in
theorem gX7_firstPainting_X7_paints : GoodIn wsX7_firstPainting (wsV RX7 169 RX7 yX7_paints wsX7_paints) := goodIn_app (goodIn_of _ (by decide +kernel)) ggX7_firstPainting_X7_paints
theorem dX7_firstPainting_0 : decode cX7_firstPainting 0 = .ok (.aload_n 0, 1) := by decide +kernel
theorem dX7_firstPainting_1 : decode cX7_firstPainting 1 = .ok (.iload_n 1, 1) := by decide +kernel
theorem dX7_firstPainting_2 : decode cX7_firstPainting 2 = .ok (.invokevirtual 133, 3) := by decide +kernel
theorem dX7_firstPainting_5 : decode cX7_firstPainting 5 = .ok (.ifCond .ne 5, 3) := by decide +kernel
theorem dX7_firstPainting_8 : decode cX7_firstPainting 8 = .ok (.iconst (-1), 1) := by decide +kernel
theorem dX7_firstPainting_9 : decode cX7_firstPainting 9 = .ok (.ireturn, 1) := by decide +kernel
theorem dX7_firstPainting_10 : decode cX7_firstPainting 10 = .ok (.aload_n 0, 1) := by decide +kernel
theorem dX7_firstPainting_11 : decode cX7_firstPainting 11 = .ok (.iconst 0, 1) := by decide +kernel
theorem dX7_firstPainting_12 : decode cX7_firstPainting 12 = .ok (.iconst 0, 1) := by decide +kernel
theorem dX7_firstPainting_13 : decode cX7_firstPainting 13 = .ok (.iconst 1, 1) := by decide +kernel
theorem dX7_firstPainting_14 : decode cX7_firstPainting 14 = .ok (.invokevirtual 169, 3) := by decide +kernel
theorem dX7_firstPainting_17 : decode cX7_firstPainting 17 = .ok (.ifCond .ne 8, 3) := by decide +kernel
theorem dX7_firstPainting_20 : decode cX7_firstPainting 20 = .ok (.bipush (-5), 2) := by decide +kernel
theorem dX7_firstPainting_22 : decode cX7_firstPainting 22 = .ok (.goto 9, 3) := by decide +kernel
theorem dX7_firstPainting_25 : decode cX7_firstPainting 25 = .ok (.aload_n 0, 1) := by decide +kernel
theorem dX7_firstPainting_26 : decode cX7_firstPainting 26 = .ok (.getfield 26, 3) := by decide +kernel
theorem dX7_firstPainting_29 : decode cX7_firstPainting 29 = .ok (.iload_n 1, 1) := by decide +kernel
theorem dX7_firstPainting_30 : decode cX7_firstPainting 30 = .ok (.iaload, 1) := by decide +kernel
theorem dX7_firstPainting_31 : decode cX7_firstPainting 31 = .ok (.ireturn, 1) := by decide +kernel
set_option maxRecDepth 20000 in
theorem ggX7_plainOnes_X7_of : GoodIn wsX7_plainOnes wsX7_of := goodIn_r _ [6, 1, 7, 8, 9, 10, 11, 12, 13, 14, 15, 16, 17, 18, 19, 20, 21, 22, 23, 24, 25, 26] (by decide +kernel) (by decide +kernel)
set_option maxRecDepth 20000 in
theorem gX7_plainOnes_X7_of : GoodIn wsX7_plainOnes (wsV RX7 56 RX7 yX7_of wsX7_of) := goodIn_app (goodIn_of _ (by decide +kernel)) ggX7_plainOnes_X7_of
theorem dX7_plainOnes_0 : decode cX7_plainOnes 0 = .ok (.iconst 0, 1) := by decide +kernel
theorem dX7_plainOnes_1 : decode cX7_plainOnes 1 = .ok (.istore_n 1, 1) := by decide +kernel
theorem dX7_plainOnes_2 : decode cX7_plainOnes 2 = .ok (.iconst 0, 1) := by decide +kernel
theorem dX7_plainOnes_3 : decode cX7_plainOnes 3 = .ok (.istore_n 2, 1) := by decide +kernel
theorem dX7_plainOnes_4 : decode cX7_plainOnes 4 = .ok (.iload_n 2, 1) := by decide +kernel
theorem dX7_plainOnes_5 : decode cX7_plainOnes 5 = .ok (.aload_n 0, 1) := by decide +kernel
theorem dX7_plainOnes_6 : decode cX7_plainOnes 6 = .ok (.getfield 7, 3) := by decide +kernel
theorem dX7_plainOnes_9 : decode cX7_plainOnes 9 = .ok (.iconst 1, 1) := by decide +kernel
theorem dX7_plainOnes_10 : decode cX7_plainOnes 10 = .ok (.iaload, 1) := by decide +kernel
theorem dX7_plainOnes_11 : decode cX7_plainOnes 11 = .ok (.if_icmp .ge 27, 3) := by decide +kernel
theorem dX7_plainOnes_14 : decode cX7_plainOnes 14 = .ok (.iload_n 1, 1) := by decide +kernel
theorem dX7_plainOnes_15 : decode cX7_plainOnes 15 = .ok (.aload_n 0, 1) := by decide +kernel
theorem dX7_plainOnes_16 : decode cX7_plainOnes 16 = .ok (.iload_n 2, 1) := by decide +kernel
theorem dX7_plainOnes_17 : decode cX7_plainOnes 17 = .ok (.iconst 2, 1) := by decide +kernel
theorem dX7_plainOnes_18 : decode cX7_plainOnes 18 = .ok (.invokevirtual 56, 3) := by decide +kernel
theorem dX7_plainOnes_21 : decode cX7_plainOnes 21 = .ok (.iconst 3, 1) := by decide +kernel
theorem dX7_plainOnes_22 : decode cX7_plainOnes 22 = .ok (.if_icmp .ne 7, 3) := by decide +kernel
theorem dX7_plainOnes_25 : decode cX7_plainOnes 25 = .ok (.iconst 1, 1) := by decide +kernel
theorem dX7_plainOnes_26 : decode cX7_plainOnes 26 = .ok (.goto 4, 3) := by decide +kernel
theorem dX7_plainOnes_29 : decode cX7_plainOnes 29 = .ok (.iconst 0, 1) := by decide +kernel
theorem dX7_plainOnes_30 : decode cX7_plainOnes 30 = .ok (.iadd, 1) := by decide +kernel
theorem dX7_plainOnes_31 : decode cX7_plainOnes 31 = .ok (.istore_n 1, 1) := by decide +kernel
theorem dX7_plainOnes_32 : decode cX7_plainOnes 32 = .ok (.iinc 2 1, 3) := by decide +kernel
theorem dX7_plainOnes_35 : decode cX7_plainOnes 35 = .ok (.goto (-31), 3) := by decide +kernel
theorem dX7_plainOnes_38 : decode cX7_plainOnes 38 = .ok (.iload_n 1, 1) := by decide +kernel
theorem dX7_plainOnes_39 : decode cX7_plainOnes 39 = .ok (.ireturn, 1) := by decide +kernel
set_option maxRecDepth 20000 in
theorem ggX7_complete_X7_paints : GoodIn wsX7_complete wsX7_paints := goodIn_r _ [7, 8, 1, 9, 10, 11, 6, 12, 2, 13, 14, 15, 16, 17, 18, 19, 20, 21, 22, 23, 24, 25, 26, 27, 28, 29, 30, 31, 32, 33, 34, 35, 46, 47, 48, 49, 50, 51, 52, 53, 54, 55, 56, 57, 58, 59, 60, 61, 62, 63, 64, 65] (by decide +kernel) (by decide +kernel)
set_option maxRecDepth 20000 in
theorem gX7_complete_X7_paints : GoodIn wsX7_complete (wsV RX7 169 RX7 yX7_paints wsX7_paints) := goodIn_app (goodIn_of _ (by decide +kernel)) ggX7_complete_X7_paints
set_option maxRecDepth 20000 in
theorem ggX7_complete_X7_plainOnes : GoodIn wsX7_complete wsX7_plainOnes := goodIn_r _ [39, 1, 20, 21, 22, 6, 23, 46, 47, 48, 49, 50, 51, 52, 53, 54, 55, 56, 57, 58, 59, 60, 61, 62, 63, 64, 65] (by decide +kernel) (by decide +kernel)
set_option maxRecDepth 20000 in
theorem gX7_complete_X7_plainOnes : GoodIn wsX7_complete (wsV RX7 173 RX7 yX7_plainOnes wsX7_plainOnes) := goodIn_app (goodIn_of _ (by decide +kernel)) ggX7_complete_X7_plainOnes
set_option maxRecDepth 20000 in
theorem ggX7_complete_X7_records : GoodIn wsX7_complete wsX7_records := goodIn_r _ [43, 44, 45, 1, 46, 47, 48, 49, 50, 51, 52, 53, 54, 55, 56, 57, 58, 59, 60, 61, 62, 63, 64, 65] (by decide +kernel) (by decide +kernel)
set_option maxRecDepth 20000 in
theorem gX7_complete_X7_records : GoodIn wsX7_complete (wsV RX7 84 RX7 yX7_records wsX7_records) := goodIn_app (goodIn_of _ (by decide +kernel)) ggX7_complete_X7_records
theorem dX7_complete_0 : decode cX7_complete 0 = .ok (.aload_n 0, 1) := by decide +kernel
theorem dX7_complete_1 : decode cX7_complete 1 = .ok (.iconst 1, 1) := by decide +kernel
theorem dX7_complete_2 : decode cX7_complete 2 = .ok (.iconst 0, 1) := by decide +kernel
theorem dX7_complete_3 : decode cX7_complete 3 = .ok (.iconst 1, 1) := by decide +kernel
theorem dX7_complete_4 : decode cX7_complete 4 = .ok (.invokevirtual 169, 3) := by decide +kernel
theorem dX7_complete_7 : decode cX7_complete 7 = .ok (.ifCond .ne 6, 3) := by decide +kernel
theorem dX7_complete_10 : decode cX7_complete 10 = .ok (.bipush (-4), 2) := by decide +kernel
theorem dX7_complete_12 : decode cX7_complete 12 = .ok (.ireturn, 1) := by decide +kernel
theorem dX7_complete_13 : decode cX7_complete 13 = .ok (.aload_n 0, 1) := by decide +kernel
theorem dX7_complete_14 : decode cX7_complete 14 = .ok (.invokevirtual 173, 3) := by decide +kernel
theorem dX7_complete_17 : decode cX7_complete 17 = .ok (.istore_n 1, 1) := by decide +kernel
theorem dX7_complete_18 : decode cX7_complete 18 = .ok (.iload_n 1, 1) := by decide +kernel
theorem dX7_complete_19 : decode cX7_complete 19 = .ok (.ifCond .ne 6, 3) := by decide +kernel
theorem dX7_complete_22 : decode cX7_complete 22 = .ok (.bipush (-5), 2) := by decide +kernel
theorem dX7_complete_24 : decode cX7_complete 24 = .ok (.ireturn, 1) := by decide +kernel
theorem dX7_complete_25 : decode cX7_complete 25 = .ok (.aload_n 0, 1) := by decide +kernel
theorem dX7_complete_26 : decode cX7_complete 26 = .ok (.invokevirtual 84, 3) := by decide +kernel
theorem dX7_complete_29 : decode cX7_complete 29 = .ok (.iconst 0, 1) := by decide +kernel
theorem dX7_complete_30 : decode cX7_complete 30 = .ok (.istore_n 2, 1) := by decide +kernel
theorem dX7_complete_31 : decode cX7_complete 31 = .ok (.iload_n 2, 1) := by decide +kernel
theorem dX7_complete_32 : decode cX7_complete 32 = .ok (.aload_n 0, 1) := by decide +kernel
theorem dX7_complete_33 : decode cX7_complete 33 = .ok (.getfield 7, 3) := by decide +kernel
theorem dX7_complete_36 : decode cX7_complete 36 = .ok (.iconst 1, 1) := by decide +kernel
theorem dX7_complete_37 : decode cX7_complete 37 = .ok (.iaload, 1) := by decide +kernel
theorem dX7_complete_38 : decode cX7_complete 38 = .ok (.if_icmp .ge 27, 3) := by decide +kernel
theorem dX7_complete_41 : decode cX7_complete 41 = .ok (.aload_n 0, 1) := by decide +kernel
theorem dX7_complete_42 : decode cX7_complete 42 = .ok (.getfield 7, 3) := by decide +kernel
theorem dX7_complete_45 : decode cX7_complete 45 = .ok (.iconst 2, 1) := by decide +kernel
theorem dX7_complete_46 : decode cX7_complete 46 = .ok (.iconst 3, 1) := by decide +kernel
theorem dX7_complete_47 : decode cX7_complete 47 = .ok (.iload_n 2, 1) := by decide +kernel
theorem dX7_complete_48 : decode cX7_complete 48 = .ok (.imul, 1) := by decide +kernel
theorem dX7_complete_49 : decode cX7_complete 49 = .ok (.iadd, 1) := by decide +kernel
theorem dX7_complete_50 : decode cX7_complete 50 = .ok (.iconst 2, 1) := by decide +kernel
theorem dX7_complete_51 : decode cX7_complete 51 = .ok (.iadd, 1) := by decide +kernel
theorem dX7_complete_52 : decode cX7_complete 52 = .ok (.aload_n 0, 1) := by decide +kernel
theorem dX7_complete_53 : decode cX7_complete 53 = .ok (.getfield 26, 3) := by decide +kernel
theorem dX7_complete_56 : decode cX7_complete 56 = .ok (.iload_n 2, 1) := by decide +kernel
theorem dX7_complete_57 : decode cX7_complete 57 = .ok (.iaload, 1) := by decide +kernel
theorem dX7_complete_58 : decode cX7_complete 58 = .ok (.iastore, 1) := by decide +kernel
theorem dX7_complete_59 : decode cX7_complete 59 = .ok (.iinc 2 1, 3) := by decide +kernel
theorem dX7_complete_62 : decode cX7_complete 62 = .ok (.goto (-31), 3) := by decide +kernel
theorem dX7_complete_65 : decode cX7_complete 65 = .ok (.iload_n 1, 1) := by decide +kernel
theorem dX7_complete_66 : decode cX7_complete 66 = .ok (.ireturn, 1) := by decide +kernel
set_option maxRecDepth 20000 in
theorem ggX7_enough_X7_paints : GoodIn wsX7_enough wsX7_paints := goodIn_r _ [6, 7, 1, 8, 9, 10, 5, 11, 12, 13, 14, 15, 16, 17, 18, 19, 20, 21, 22, 23, 24, 25, 26, 27, 28, 29, 30, 31, 32, 33, 34, 35, 36, 37, 38, 39, 40, 41, 42, 43, 44, 45, 46, 47, 48, 49, 50, 51, 52, 53, 54, 55] (by decide +kernel) (by decide +kernel)
set_option maxRecDepth 20000 in
theorem gX7_enough_X7_paints : GoodIn wsX7_enough (wsV RX7 169 RX7 yX7_paints wsX7_paints) := goodIn_app (goodIn_of _ (by decide +kernel)) ggX7_enough_X7_paints
theorem dX7_enough_0 : decode cX7_enough 0 = .ok (.iconst 1, 1) := by decide +kernel
theorem dX7_enough_1 : decode cX7_enough 1 = .ok (.iload_n 1, 1) := by decide +kernel
theorem dX7_enough_2 : decode cX7_enough 2 = .ok (.ishl, 1) := by decide +kernel
theorem dX7_enough_3 : decode cX7_enough 3 = .ok (.iconst 1, 1) := by decide +kernel
theorem dX7_enough_4 : decode cX7_enough 4 = .ok (.isub, 1) := by decide +kernel
theorem dX7_enough_5 : decode cX7_enough 5 = .ok (.istore_n 2, 1) := by decide +kernel
theorem dX7_enough_6 : decode cX7_enough 6 = .ok (.iload_n 2, 1) := by decide +kernel
theorem dX7_enough_7 : decode cX7_enough 7 = .ok (.iconst 1, 1) := by decide +kernel
theorem dX7_enough_8 : decode cX7_enough 8 = .ok (.aload_n 0, 1) := by decide +kernel
theorem dX7_enough_9 : decode cX7_enough 9 = .ok (.getfield 7, 3) := by decide +kernel
theorem dX7_enough_12 : decode cX7_enough 12 = .ok (.iconst 1, 1) := by decide +kernel
theorem dX7_enough_13 : decode cX7_enough 13 = .ok (.iaload, 1) := by decide +kernel
theorem dX7_enough_14 : decode cX7_enough 14 = .ok (.ishl, 1) := by decide +kernel
theorem dX7_enough_15 : decode cX7_enough 15 = .ok (.if_icmp .ge 40, 3) := by decide +kernel
theorem dX7_enough_18 : decode cX7_enough 18 = .ok (.aload_n 0, 1) := by decide +kernel
theorem dX7_enough_19 : decode cX7_enough 19 = .ok (.iconst 0, 1) := by decide +kernel
theorem dX7_enough_20 : decode cX7_enough 20 = .ok (.iload_n 2, 1) := by decide +kernel
theorem dX7_enough_21 : decode cX7_enough 21 = .ok (.iconst 1, 1) := by decide +kernel
theorem dX7_enough_22 : decode cX7_enough 22 = .ok (.invokevirtual 169, 3) := by decide +kernel
theorem dX7_enough_25 : decode cX7_enough 25 = .ok (.ifCond .le 5, 3) := by decide +kernel
theorem dX7_enough_28 : decode cX7_enough 28 = .ok (.iload_n 2, 1) := by decide +kernel
theorem dX7_enough_29 : decode cX7_enough 29 = .ok (.ireturn, 1) := by decide +kernel
theorem dX7_enough_30 : decode cX7_enough 30 = .ok (.iload_n 2, 1) := by decide +kernel
theorem dX7_enough_31 : decode cX7_enough 31 = .ok (.iload_n 2, 1) := by decide +kernel
theorem dX7_enough_32 : decode cX7_enough 32 = .ok (.ineg, 1) := by decide +kernel
theorem dX7_enough_33 : decode cX7_enough 33 = .ok (.iand, 1) := by decide +kernel
theorem dX7_enough_34 : decode cX7_enough 34 = .ok (.istore_n 3, 1) := by decide +kernel
theorem dX7_enough_35 : decode cX7_enough 35 = .ok (.iload_n 2, 1) := by decide +kernel
theorem dX7_enough_36 : decode cX7_enough 36 = .ok (.iload_n 3, 1) := by decide +kernel
theorem dX7_enough_37 : decode cX7_enough 37 = .ok (.iadd, 1) := by decide +kernel
theorem dX7_enough_38 : decode cX7_enough 38 = .ok (.istore 4, 2) := by decide +kernel
theorem dX7_enough_40 : decode cX7_enough 40 = .ok (.iload 4, 2) := by decide +kernel
theorem dX7_enough_42 : decode cX7_enough 42 = .ok (.iload_n 2, 1) := by decide +kernel
theorem dX7_enough_43 : decode cX7_enough 43 = .ok (.iload 4, 2) := by decide +kernel
theorem dX7_enough_45 : decode cX7_enough 45 = .ok (.ixor, 1) := by decide +kernel
theorem dX7_enough_46 : decode cX7_enough 46 = .ok (.iload_n 3, 1) := by decide +kernel
theorem dX7_enough_47 : decode cX7_enough 47 = .ok (.idiv, 1) := by decide +kernel
theorem dX7_enough_48 : decode cX7_enough 48 = .ok (.iconst 2, 1) := by decide +kernel
theorem dX7_enough_49 : decode cX7_enough 49 = .ok (.ishr, 1) := by decide +kernel
theorem dX7_enough_50 : decode cX7_enough 50 = .ok (.ior, 1) := by decide +kernel
theorem dX7_enough_51 : decode cX7_enough 51 = .ok (.istore_n 2, 1) := by decide +kernel
theorem dX7_enough_52 : decode cX7_enough 52 = .ok (.goto (-46), 3) := by decide +kernel
theorem dX7_enough_55 : decode cX7_enough 55 = .ok (.bipush (-5), 2) := by decide +kernel
theorem dX7_enough_57 : decode cX7_enough 57 = .ok (.ireturn, 1) := by decide +kernel
set_option maxRecDepth 20000 in
theorem ggX7_leastSet_X7_paints : GoodIn wsX7_leastSet wsX7_paints := goodIn_r _ [5, 6, 7, 8, 9, 10, 4, 11, 12, 13, 14, 15, 16, 17, 18, 19, 20, 21, 22, 23, 24, 25, 26, 27, 28, 29, 30, 31, 32, 33, 34, 35, 40, 41, 42, 43, 44, 45, 46, 47, 48, 49, 50, 51, 52, 53, 54, 55, 56, 57, 58, 59] (by decide +kernel) (by decide +kernel)
set_option maxRecDepth 20000 in
theorem gX7_leastSet_X7_paints : GoodIn wsX7_leastSet (wsV RX7 169 RX7 yX7_paints wsX7_paints) := goodIn_app (goodIn_of _ (by decide +kernel)) ggX7_leastSet_X7_paints
set_option maxRecDepth 20000 in
theorem ggX7_leastSet_X7_enough : GoodIn wsX7_leastSet wsX7_enough := goodIn_r _ [39, 7, 1, 2, 3, 4, 5, 6, 8, 9, 10, 11, 12, 13, 14, 15, 16, 17, 18, 19, 20, 21, 22, 23, 24, 25, 26, 27, 28, 29, 30, 31, 32, 33, 34, 35, 40, 41, 42, 43, 44, 45, 46, 47, 48, 49, 50, 51, 52, 53, 54, 55, 56, 57, 58, 59] (by decide +kernel) (by decide +kernel)
set_option maxRecDepth 20000 in
theorem gX7_leastSet_X7_enough : GoodIn wsX7_leastSet (wsV RX7 177 RX7 yX7_enough wsX7_enough) := goodIn_app (goodIn_of _ (by decide +kernel)) ggX7_leastSet_X7_enough
theorem dX7_leastSet_0 : decode cX7_leastSet 0 = .ok (.aload_n 0, 1) := by decide +kernel
theorem dX7_leastSet_1 : decode cX7_leastSet 1 = .ok (.iconst 0, 1) := by decide +kernel
theorem dX7_leastSet_2 : decode cX7_leastSet 2 = .ok (.iconst 0, 1) := by decide +kernel
theorem dX7_leastSet_3 : decode cX7_leastSet 3 = .ok (.iconst 1, 1) := by decide +kernel
theorem dX7_leastSet_4 : decode cX7_leastSet 4 = .ok (.invokevirtual 169, 3) := by decide +kernel
theorem dX7_leastSet_7 : decode cX7_leastSet 7 = .ok (.ifCond .le 7, 3) := by decide +kernel
theorem dX7_leastSet_10 : decode cX7_leastSet 10 = .ok (.iconst 0, 1) := by decide +kernel
theorem dX7_leastSet_11 : decode cX7_leastSet 11 = .ok (.goto 5, 3) := by decide +kernel
theorem dX7_leastSet_14 : decode cX7_leastSet 14 = .ok (.bipush (-5), 2) := by decide +kernel
theorem dX7_leastSet_16 : decode cX7_leastSet 16 = .ok (.istore_n 1, 1) := by decide +kernel
theorem dX7_leastSet_17 : decode cX7_leastSet 17 = .ok (.iconst 1, 1) := by decide +kernel
theorem dX7_leastSet_18 : decode cX7_leastSet 18 = .ok (.istore_n 2, 1) := by decide +kernel
theorem dX7_leastSet_19 : decode cX7_leastSet 19 = .ok (.iload_n 1, 1) := by decide +kernel
theorem dX7_leastSet_20 : decode cX7_leastSet 20 = .ok (.ifCond .ge 15, 3) := by decide +kernel
theorem dX7_leastSet_23 : decode cX7_leastSet 23 = .ok (.aload_n 0, 1) := by decide +kernel
theorem dX7_leastSet_24 : decode cX7_leastSet 24 = .ok (.iload_n 2, 1) := by decide +kernel
theorem dX7_leastSet_25 : decode cX7_leastSet 25 = .ok (.invokevirtual 177, 3) := by decide +kernel
theorem dX7_leastSet_28 : decode cX7_leastSet 28 = .ok (.istore_n 1, 1) := by decide +kernel
theorem dX7_leastSet_29 : decode cX7_leastSet 29 = .ok (.iinc 2 1, 3) := by decide +kernel
theorem dX7_leastSet_32 : decode cX7_leastSet 32 = .ok (.goto (-13), 3) := by decide +kernel
theorem dX7_leastSet_35 : decode cX7_leastSet 35 = .ok (.iload_n 1, 1) := by decide +kernel
theorem dX7_leastSet_36 : decode cX7_leastSet 36 = .ok (.ireturn, 1) := by decide +kernel
set_option maxRecDepth 20000 in
theorem ggX7_takingOut_X7_in : GoodIn wsX7_takingOut wsX7_in := goodIn_r _ [4] (by decide +kernel) (by decide +kernel)
set_option maxRecDepth 20000 in
theorem gX7_takingOut_X7_in : GoodIn wsX7_takingOut (va_wsS RX7 52 yX7_in wsX7_in) := goodIn_app (goodIn_of _ (by decide +kernel)) ggX7_takingOut_X7_in
set_option maxRecDepth 20000 in
theorem ggX7_takingOut_X7_leastSet : GoodIn wsX7_takingOut wsX7_leastSet := goodIn_r _ [8, 9, 10, 11, 3, 12, 13, 14, 15, 16, 17, 18, 19, 20, 21, 22, 23, 24, 25, 26, 27, 28, 29, 30, 31, 32, 33, 34, 35, 36, 37, 38, 39, 40, 41, 42, 43, 44, 45, 46, 50, 51, 52, 53, 54, 55, 56, 57, 58, 59, 60, 61, 62, 63, 64, 65, 66, 67, 68, 69] (by decide +kernel) (by decide +kernel)
set_option maxRecDepth 20000 in
theorem gX7_takingOut_X7_leastSet : GoodIn wsX7_takingOut (wsV RX7 180 RX7 yX7_leastSet wsX7_leastSet) := goodIn_app (goodIn_of _ (by decide +kernel)) ggX7_takingOut_X7_leastSet
set_option maxRecDepth 20000 in
theorem ggX7_takingOut_X7_ones : GoodIn wsX7_takingOut wsX7_ones := goodIn_r _ [49] (by decide +kernel) (by decide +kernel)
set_option maxRecDepth 20000 in
theorem gX7_takingOut_X7_ones : GoodIn wsX7_takingOut (va_wsS RX7 67 yX7_ones wsX7_ones) := goodIn_app (goodIn_of _ (by decide +kernel)) ggX7_takingOut_X7_ones
theorem dX7_takingOut_0 : decode cX7_takingOut 0 = .ok (.iload_n 1, 1) := by decide +kernel
theorem dX7_takingOut_1 : decode cX7_takingOut 1 = .ok (.iconst 0, 1) := by decide +kernel
theorem dX7_takingOut_2 : decode cX7_takingOut 2 = .ok (.iconst 1, 1) := by decide +kernel
theorem dX7_takingOut_3 : decode cX7_takingOut 3 = .ok (.invokestatic 52, 3) := by decide +kernel
theorem dX7_takingOut_6 : decode cX7_takingOut 6 = .ok (.ifCond .ne 6, 3) := by decide +kernel
theorem dX7_takingOut_9 : decode cX7_takingOut 9 = .ok (.bipush (-2), 2) := by decide +kernel
theorem dX7_takingOut_11 : decode cX7_takingOut 11 = .ok (.ireturn, 1) := by decide +kernel
theorem dX7_takingOut_12 : decode cX7_takingOut 12 = .ok (.aload_n 0, 1) := by decide +kernel
theorem dX7_takingOut_13 : decode cX7_takingOut 13 = .ok (.invokevirtual 180, 3) := by decide +kernel
theorem dX7_takingOut_16 : decode cX7_takingOut 16 = .ok (.istore_n 2, 1) := by decide +kernel
theorem dX7_takingOut_17 : decode cX7_takingOut 17 = .ok (.iload_n 1, 1) := by decide +kernel
theorem dX7_takingOut_18 : decode cX7_takingOut 18 = .ok (.ifCond .ne 10, 3) := by decide +kernel
theorem dX7_takingOut_21 : decode cX7_takingOut 21 = .ok (.iload_n 2, 1) := by decide +kernel
theorem dX7_takingOut_22 : decode cX7_takingOut 22 = .ok (.invokestatic 67, 3) := by decide +kernel
theorem dX7_takingOut_25 : decode cX7_takingOut 25 = .ok (.goto 4, 3) := by decide +kernel
theorem dX7_takingOut_28 : decode cX7_takingOut 28 = .ok (.iload_n 2, 1) := by decide +kernel
theorem dX7_takingOut_29 : decode cX7_takingOut 29 = .ok (.ireturn, 1) := by decide +kernel
set_option maxRecDepth 20000 in
theorem ggX7_paint_X7_isThread : GoodIn wsX7_paint wsX7_isThread := goodIn_r _ [6, 1, 7, 8, 5, 9, 20, 21, 22, 23, 24, 25, 26, 27, 28, 29, 30, 31, 32, 33, 34, 35, 36, 37, 38, 39] (by decide +kernel) (by decide +kernel)
set_option maxRecDepth 20000 in
theorem gX7_paint_X7_isThread : GoodIn wsX7_paint (wsV RX7 133 RX7 yX7_isThread wsX7_isThread) := goodIn_app (goodIn_of _ (by decide +kernel)) ggX7_paint_X7_isThread
set_option maxRecDepth 20000 in
theorem ggX7_paint_X7_in : GoodIn wsX7_paint wsX7_in := goodIn_r _ [9] (by decide +kernel) (by decide +kernel)
set_option maxRecDepth 20000 in
theorem gX7_paint_X7_in : GoodIn wsX7_paint (va_wsS RX7 52 yX7_in wsX7_in) := goodIn_app (goodIn_of _ (by decide +kernel)) ggX7_paint_X7_in
set_option maxRecDepth 20000 in
theorem ggX7_paint_X7_of : GoodIn wsX7_paint wsX7_of := goodIn_r _ [13, 1, 20, 21, 22, 23, 24, 25, 26, 27, 28, 29, 30, 31, 32, 33, 34, 35, 36, 37, 38, 39] (by decide +kernel) (by decide +kernel)
set_option maxRecDepth 20000 in
theorem gX7_paint_X7_of : GoodIn wsX7_paint (wsV RX7 56 RX7 yX7_of wsX7_of) := goodIn_app (goodIn_of _ (by decide +kernel)) ggX7_paint_X7_of
set_option maxRecDepth 20000 in
theorem ggX7_paint_X7_records : GoodIn wsX7_paint wsX7_records := goodIn_r _ [17, 18, 19, 1, 20, 21, 22, 23, 24, 25, 26, 27, 28, 29, 30, 31, 32, 33, 34, 35, 36, 37, 38, 39] (by decide +kernel) (by decide +kernel)
set_option maxRecDepth 20000 in
theorem gX7_paint_X7_records : GoodIn wsX7_paint (wsV RX7 84 RX7 yX7_records wsX7_records) := goodIn_app (goodIn_of _ (by decide +kernel)) ggX7_paint_X7_records
theorem dX7_paint_0 : decode cX7_paint 0 = .ok (.aload_n 0, 1) := by decide +kernel
theorem dX7_paint_1 : decode cX7_paint 1 = .ok (.iload_n 1, 1) := by decide +kernel
theorem dX7_paint_2 : decode cX7_paint 2 = .ok (.invokevirtual 133, 3) := by decide +kernel
theorem dX7_paint_5 : decode cX7_paint 5 = .ok (.ifCond .ne 5, 3) := by decide +kernel
theorem dX7_paint_8 : decode cX7_paint 8 = .ok (.iconst (-1), 1) := by decide +kernel
theorem dX7_paint_9 : decode cX7_paint 9 = .ok (.ireturn, 1) := by decide +kernel
theorem dX7_paint_10 : decode cX7_paint 10 = .ok (.iload_n 2, 1) := by decide +kernel
theorem dX7_paint_11 : decode cX7_paint 11 = .ok (.iconst 0, 1) := by decide +kernel
theorem dX7_paint_12 : decode cX7_paint 12 = .ok (.iconst 3, 1) := by decide +kernel
theorem dX7_paint_13 : decode cX7_paint 13 = .ok (.invokestatic 52, 3) := by decide +kernel
theorem dX7_paint_16 : decode cX7_paint 16 = .ok (.ifCond .ne 6, 3) := by decide +kernel
theorem dX7_paint_19 : decode cX7_paint 19 = .ok (.bipush (-2), 2) := by decide +kernel
theorem dX7_paint_21 : decode cX7_paint 21 = .ok (.ireturn, 1) := by decide +kernel
theorem dX7_paint_22 : decode cX7_paint 22 = .ok (.aload_n 0, 1) := by decide +kernel
theorem dX7_paint_23 : decode cX7_paint 23 = .ok (.iload_n 1, 1) := by decide +kernel
theorem dX7_paint_24 : decode cX7_paint 24 = .ok (.iconst 2, 1) := by decide +kernel
theorem dX7_paint_25 : decode cX7_paint 25 = .ok (.invokevirtual 56, 3) := by decide +kernel
theorem dX7_paint_28 : decode cX7_paint 28 = .ok (.istore_n 3, 1) := by decide +kernel
theorem dX7_paint_29 : decode cX7_paint 29 = .ok (.iload_n 3, 1) := by decide +kernel
theorem dX7_paint_30 : decode cX7_paint 30 = .ok (.iload_n 2, 1) := by decide +kernel
theorem dX7_paint_31 : decode cX7_paint 31 = .ok (.if_icmp .ne 6, 3) := by decide +kernel
theorem dX7_paint_34 : decode cX7_paint 34 = .ok (.bipush (-5), 2) := by decide +kernel
theorem dX7_paint_36 : decode cX7_paint 36 = .ok (.ireturn, 1) := by decide +kernel
theorem dX7_paint_37 : decode cX7_paint 37 = .ok (.aload_n 0, 1) := by decide +kernel
theorem dX7_paint_38 : decode cX7_paint 38 = .ok (.invokevirtual 84, 3) := by decide +kernel
theorem dX7_paint_41 : decode cX7_paint 41 = .ok (.aload_n 0, 1) := by decide +kernel
theorem dX7_paint_42 : decode cX7_paint 42 = .ok (.getfield 7, 3) := by decide +kernel
theorem dX7_paint_45 : decode cX7_paint 45 = .ok (.iconst 2, 1) := by decide +kernel
theorem dX7_paint_46 : decode cX7_paint 46 = .ok (.iconst 3, 1) := by decide +kernel
theorem dX7_paint_47 : decode cX7_paint 47 = .ok (.iload_n 1, 1) := by decide +kernel
theorem dX7_paint_48 : decode cX7_paint 48 = .ok (.imul, 1) := by decide +kernel
theorem dX7_paint_49 : decode cX7_paint 49 = .ok (.iadd, 1) := by decide +kernel
theorem dX7_paint_50 : decode cX7_paint 50 = .ok (.iconst 2, 1) := by decide +kernel
theorem dX7_paint_51 : decode cX7_paint 51 = .ok (.iadd, 1) := by decide +kernel
theorem dX7_paint_52 : decode cX7_paint 52 = .ok (.iload_n 2, 1) := by decide +kernel
theorem dX7_paint_53 : decode cX7_paint 53 = .ok (.iastore, 1) := by decide +kernel
theorem dX7_paint_54 : decode cX7_paint 54 = .ok (.iload_n 3, 1) := by decide +kernel
theorem dX7_paint_55 : decode cX7_paint 55 = .ok (.ireturn, 1) := by decide +kernel
set_option maxRecDepth 20000 in
theorem ggX7_whyNoChain_X7_isThread : GoodIn wsX7_whyNoChain wsX7_isThread := goodIn_r _ [5, 6, 7, 8, 4, 9, 14, 15, 16, 17, 18, 19, 20, 21, 22, 23, 24, 25, 26, 27, 28, 29, 30, 31, 32, 33] (by decide +kernel) (by decide +kernel)
set_option maxRecDepth 20000 in
theorem gX7_whyNoChain_X7_isThread : GoodIn wsX7_whyNoChain (wsV RX7 133 RX7 yX7_isThread wsX7_isThread) := goodIn_app (goodIn_of _ (by decide +kernel)) ggX7_whyNoChain_X7_isThread
set_option maxRecDepth 20000 in
theorem ggX7_whyNoChain_X7_of : GoodIn wsX7_whyNoChain wsX7_of := goodIn_r _ [13, 6, 14, 15, 16, 17, 18, 19, 20, 21, 22, 23, 24, 25, 26, 27, 28, 29, 30, 31, 32, 33] (by decide +kernel) (by decide +kernel)
set_option maxRecDepth 20000 in
theorem gX7_whyNoChain_X7_of : GoodIn wsX7_whyNoChain (wsV RX7 56 RX7 yX7_of wsX7_of) := goodIn_app (goodIn_of _ (by decide +kernel)) ggX7_whyNoChain_X7_of
set_option maxRecDepth 20000 in
theorem ggX7_whyNoChain_X7_in : GoodIn wsX7_whyNoChain wsX7_in := goodIn_r _ [9] (by decide +kernel) (by decide +kernel)
set_option maxRecDepth 20000 in
theorem gX7_whyNoChain_X7_in : GoodIn wsX7_whyNoChain (va_wsS RX7 52 yX7_in wsX7_in) := goodIn_app (goodIn_of _ (by decide +kernel)) ggX7_whyNoChain_X7_in
theorem dX7_whyNoChain_0 : decode cX7_whyNoChain 0 = .ok (.aload_n 0, 1) := by decide +kernel
theorem dX7_whyNoChain_1 : decode cX7_whyNoChain 1 = .ok (.iload_n 1, 1) := by decide +kernel
theorem dX7_whyNoChain_2 : decode cX7_whyNoChain 2 = .ok (.invokevirtual 133, 3) := by decide +kernel
theorem dX7_whyNoChain_5 : decode cX7_whyNoChain 5 = .ok (.ifCond .ne 5, 3) := by decide +kernel
theorem dX7_whyNoChain_8 : decode cX7_whyNoChain 8 = .ok (.iconst (-1), 1) := by decide +kernel
theorem dX7_whyNoChain_9 : decode cX7_whyNoChain 9 = .ok (.ireturn, 1) := by decide +kernel
theorem dX7_whyNoChain_10 : decode cX7_whyNoChain 10 = .ok (.aload_n 0, 1) := by decide +kernel
theorem dX7_whyNoChain_11 : decode cX7_whyNoChain 11 = .ok (.iload_n 1, 1) := by decide +kernel
theorem dX7_whyNoChain_12 : decode cX7_whyNoChain 12 = .ok (.iconst 2, 1) := by decide +kernel
theorem dX7_whyNoChain_13 : decode cX7_whyNoChain 13 = .ok (.invokevirtual 56, 3) := by decide +kernel
theorem dX7_whyNoChain_16 : decode cX7_whyNoChain 16 = .ok (.istore_n 3, 1) := by decide +kernel
theorem dX7_whyNoChain_17 : decode cX7_whyNoChain 17 = .ok (.iload_n 2, 1) := by decide +kernel
theorem dX7_whyNoChain_18 : decode cX7_whyNoChain 18 = .ok (.iconst 0, 1) := by decide +kernel
theorem dX7_whyNoChain_19 : decode cX7_whyNoChain 19 = .ok (.iconst 2, 1) := by decide +kernel
theorem dX7_whyNoChain_20 : decode cX7_whyNoChain 20 = .ok (.invokestatic 52, 3) := by decide +kernel
theorem dX7_whyNoChain_23 : decode cX7_whyNoChain 23 = .ok (.ifCond .eq 8, 3) := by decide +kernel
theorem dX7_whyNoChain_26 : decode cX7_whyNoChain 26 = .ok (.iload_n 2, 1) := by decide +kernel
theorem dX7_whyNoChain_27 : decode cX7_whyNoChain 27 = .ok (.iload_n 3, 1) := by decide +kernel
theorem dX7_whyNoChain_28 : decode cX7_whyNoChain 28 = .ok (.if_icmp .ne 8, 3) := by decide +kernel
theorem dX7_whyNoChain_31 : decode cX7_whyNoChain 31 = .ok (.bipush (-2), 2) := by decide +kernel
theorem dX7_whyNoChain_33 : decode cX7_whyNoChain 33 = .ok (.goto 14, 3) := by decide +kernel
theorem dX7_whyNoChain_36 : decode cX7_whyNoChain 36 = .ok (.iload_n 3, 1) := by decide +kernel
theorem dX7_whyNoChain_37 : decode cX7_whyNoChain 37 = .ok (.iconst 3, 1) := by decide +kernel
theorem dX7_whyNoChain_38 : decode cX7_whyNoChain 38 = .ok (.if_icmp .ne 8, 3) := by decide +kernel
theorem dX7_whyNoChain_41 : decode cX7_whyNoChain 41 = .ok (.bipush (-4), 2) := by decide +kernel
theorem dX7_whyNoChain_43 : decode cX7_whyNoChain 43 = .ok (.goto 4, 3) := by decide +kernel
theorem dX7_whyNoChain_46 : decode cX7_whyNoChain 46 = .ok (.iconst 0, 1) := by decide +kernel
theorem dX7_whyNoChain_47 : decode cX7_whyNoChain 47 = .ok (.ireturn, 1) := by decide +kernel
set_option maxRecDepth 20000 in
theorem ggX7_touchesAny_X7_has : GoodIn wsX7_touchesAny wsX7_has := goodIn_r _ [5] (by decide +kernel) (by decide +kernel)
set_option maxRecDepth 20000 in
theorem gX7_touchesAny_X7_has : GoodIn wsX7_touchesAny (va_wsS RX7 44 yX7_has wsX7_has) := goodIn_app (goodIn_of _ (by decide +kernel)) ggX7_touchesAny_X7_has
set_option maxRecDepth 20000 in
theorem ggX7_touchesAny_X7_touch : GoodIn wsX7_touchesAny wsX7_touch := goodIn_r _ [9, 10, 11, 12, 4, 13, 1, 14, 15, 16, 17, 18, 19, 20, 21, 22, 23, 24, 25, 26, 27, 28, 29, 30, 31, 32, 33, 34, 35, 36, 37] (by decide +kernel) (by decide +kernel)
set_option maxRecDepth 20000 in
theorem gX7_touchesAny_X7_touch : GoodIn wsX7_touchesAny (wsV RX7 155 RX7 yX7_touch wsX7_touch) := goodIn_app (goodIn_of _ (by decide +kernel)) ggX7_touchesAny_X7_touch
theorem dX7_touchesAny_0 : decode cX7_touchesAny 0 = .ok (.iconst 0, 1) := by decide +kernel
theorem dX7_touchesAny_1 : decode cX7_touchesAny 1 = .ok (.istore_n 3, 1) := by decide +kernel
theorem dX7_touchesAny_2 : decode cX7_touchesAny 2 = .ok (.iconst 0, 1) := by decide +kernel
theorem dX7_touchesAny_3 : decode cX7_touchesAny 3 = .ok (.istore 4, 2) := by decide +kernel
theorem dX7_touchesAny_5 : decode cX7_touchesAny 5 = .ok (.iload 4, 2) := by decide +kernel
theorem dX7_touchesAny_7 : decode cX7_touchesAny 7 = .ok (.aload_n 0, 1) := by decide +kernel
theorem dX7_touchesAny_8 : decode cX7_touchesAny 8 = .ok (.getfield 7, 3) := by decide +kernel
theorem dX7_touchesAny_11 : decode cX7_touchesAny 11 = .ok (.iconst 1, 1) := by decide +kernel
theorem dX7_touchesAny_12 : decode cX7_touchesAny 12 = .ok (.iaload, 1) := by decide +kernel
theorem dX7_touchesAny_13 : decode cX7_touchesAny 13 = .ok (.if_icmp .ge 38, 3) := by decide +kernel
theorem dX7_touchesAny_16 : decode cX7_touchesAny 16 = .ok (.iload_n 3, 1) := by decide +kernel
theorem dX7_touchesAny_17 : decode cX7_touchesAny 17 = .ok (.ifCond .ne 22, 3) := by decide +kernel
theorem dX7_touchesAny_20 : decode cX7_touchesAny 20 = .ok (.iload_n 2, 1) := by decide +kernel
theorem dX7_touchesAny_21 : decode cX7_touchesAny 21 = .ok (.iload 4, 2) := by decide +kernel
theorem dX7_touchesAny_23 : decode cX7_touchesAny 23 = .ok (.invokestatic 44, 3) := by decide +kernel
theorem dX7_touchesAny_26 : decode cX7_touchesAny 26 = .ok (.ifCond .eq 17, 3) := by decide +kernel
theorem dX7_touchesAny_29 : decode cX7_touchesAny 29 = .ok (.aload_n 0, 1) := by decide +kernel
theorem dX7_touchesAny_30 : decode cX7_touchesAny 30 = .ok (.iload 4, 2) := by decide +kernel
theorem dX7_touchesAny_32 : decode cX7_touchesAny 32 = .ok (.iload_n 1, 1) := by decide +kernel
theorem dX7_touchesAny_33 : decode cX7_touchesAny 33 = .ok (.invokevirtual 155, 3) := by decide +kernel
theorem dX7_touchesAny_36 : decode cX7_touchesAny 36 = .ok (.ifCond .eq 7, 3) := by decide +kernel
theorem dX7_touchesAny_39 : decode cX7_touchesAny 39 = .ok (.iconst 1, 1) := by decide +kernel
theorem dX7_touchesAny_40 : decode cX7_touchesAny 40 = .ok (.goto 4, 3) := by decide +kernel
theorem dX7_touchesAny_43 : decode cX7_touchesAny 43 = .ok (.iconst 0, 1) := by decide +kernel
theorem dX7_touchesAny_44 : decode cX7_touchesAny 44 = .ok (.istore_n 3, 1) := by decide +kernel
theorem dX7_touchesAny_45 : decode cX7_touchesAny 45 = .ok (.iinc 4 1, 3) := by decide +kernel
theorem dX7_touchesAny_48 : decode cX7_touchesAny 48 = .ok (.goto (-43), 3) := by decide +kernel
theorem dX7_touchesAny_51 : decode cX7_touchesAny 51 = .ok (.iload_n 3, 1) := by decide +kernel
theorem dX7_touchesAny_52 : decode cX7_touchesAny 52 = .ok (.ireturn, 1) := by decide +kernel
set_option maxRecDepth 20000 in
theorem ggX7_chainOf_X7_of : GoodIn wsX7_chainOf wsX7_of := goodIn_r _ [6, 1, 22, 23, 24, 25, 26, 27, 28, 29, 30, 31, 32, 33, 34, 35, 36, 37, 38, 39, 40, 41] (by decide +kernel) (by decide +kernel)
set_option maxRecDepth 20000 in
theorem gX7_chainOf_X7_of : GoodIn wsX7_chainOf (wsV RX7 56 RX7 yX7_of wsX7_of) := goodIn_app (goodIn_of _ (by decide +kernel)) ggX7_chainOf_X7_of
set_option maxRecDepth 20000 in
theorem ggX7_chainOf_X7_touchesAny : GoodIn wsX7_chainOf wsX7_touchesAny := goodIn_r _ [10, 1, 11, 12, 5, 13, 14, 15, 16, 17, 2, 3, 4, 6, 18, 19, 20, 21, 22, 23, 24, 25, 26, 27, 28, 29, 30, 31, 32, 33, 34, 35, 36, 37, 38, 39, 40, 41] (by decide +kernel) (by decide +kernel)
set_option maxRecDepth 20000 in
theorem gX7_chainOf_X7_touchesAny : GoodIn wsX7_chainOf (wsV RX7 183 RX7 yX7_touchesAny wsX7_touchesAny) := goodIn_app (goodIn_of _ (by decide +kernel)) ggX7_chainOf_X7_touchesAny
theorem dX7_chainOf_0 : decode cX7_chainOf 0 = .ok (.aload_n 0, 1) := by decide +kernel
theorem dX7_chainOf_1 : decode cX7_chainOf 1 = .ok (.iload_n 1, 1) := by decide +kernel
theorem dX7_chainOf_2 : decode cX7_chainOf 2 = .ok (.iconst 2, 1) := by decide +kernel
theorem dX7_chainOf_3 : decode cX7_chainOf 3 = .ok (.invokevirtual 56, 3) := by decide +kernel
theorem dX7_chainOf_6 : decode cX7_chainOf 6 = .ok (.istore_n 3, 1) := by decide +kernel
theorem dX7_chainOf_7 : decode cX7_chainOf 7 = .ok (.iconst 0, 1) := by decide +kernel
theorem dX7_chainOf_8 : decode cX7_chainOf 8 = .ok (.istore 4, 2) := by decide +kernel
theorem dX7_chainOf_10 : decode cX7_chainOf 10 = .ok (.iconst 1, 1) := by decide +kernel
theorem dX7_chainOf_11 : decode cX7_chainOf 11 = .ok (.iload_n 1, 1) := by decide +kernel
theorem dX7_chainOf_12 : decode cX7_chainOf 12 = .ok (.ishl, 1) := by decide +kernel
theorem dX7_chainOf_13 : decode cX7_chainOf 13 = .ok (.istore 5, 2) := by decide +kernel
theorem dX7_chainOf_15 : decode cX7_chainOf 15 = .ok (.iload 5, 2) := by decide +kernel
theorem dX7_chainOf_17 : decode cX7_chainOf 17 = .ok (.iload 4, 2) := by decide +kernel
theorem dX7_chainOf_19 : decode cX7_chainOf 19 = .ok (.if_icmp .eq 88, 3) := by decide +kernel
theorem dX7_chainOf_22 : decode cX7_chainOf 22 = .ok (.iload 5, 2) := by decide +kernel
theorem dX7_chainOf_24 : decode cX7_chainOf 24 = .ok (.istore 4, 2) := by decide +kernel
theorem dX7_chainOf_26 : decode cX7_chainOf 26 = .ok (.iconst 0, 1) := by decide +kernel
theorem dX7_chainOf_27 : decode cX7_chainOf 27 = .ok (.istore 6, 2) := by decide +kernel
theorem dX7_chainOf_29 : decode cX7_chainOf 29 = .ok (.iload 6, 2) := by decide +kernel
theorem dX7_chainOf_31 : decode cX7_chainOf 31 = .ok (.aload_n 0, 1) := by decide +kernel
theorem dX7_chainOf_32 : decode cX7_chainOf 32 = .ok (.getfield 7, 3) := by decide +kernel
theorem dX7_chainOf_35 : decode cX7_chainOf 35 = .ok (.iconst 1, 1) := by decide +kernel
theorem dX7_chainOf_36 : decode cX7_chainOf 36 = .ok (.iaload, 1) := by decide +kernel
theorem dX7_chainOf_37 : decode cX7_chainOf 37 = .ok (.if_icmp .ge 67, 3) := by decide +kernel
theorem dX7_chainOf_40 : decode cX7_chainOf 40 = .ok (.aload_n 0, 1) := by decide +kernel
theorem dX7_chainOf_41 : decode cX7_chainOf 41 = .ok (.iload 6, 2) := by decide +kernel
theorem dX7_chainOf_43 : decode cX7_chainOf 43 = .ok (.iconst 2, 1) := by decide +kernel
theorem dX7_chainOf_44 : decode cX7_chainOf 44 = .ok (.invokevirtual 56, 3) := by decide +kernel
theorem dX7_chainOf_47 : decode cX7_chainOf 47 = .ok (.iload_n 3, 1) := by decide +kernel
theorem dX7_chainOf_48 : decode cX7_chainOf 48 = .ok (.if_icmp .eq 14, 3) := by decide +kernel
theorem dX7_chainOf_51 : decode cX7_chainOf 51 = .ok (.aload_n 0, 1) := by decide +kernel
theorem dX7_chainOf_52 : decode cX7_chainOf 52 = .ok (.iload 6, 2) := by decide +kernel
theorem dX7_chainOf_54 : decode cX7_chainOf 54 = .ok (.iconst 2, 1) := by decide +kernel
theorem dX7_chainOf_55 : decode cX7_chainOf 55 = .ok (.invokevirtual 56, 3) := by decide +kernel
theorem dX7_chainOf_58 : decode cX7_chainOf 58 = .ok (.iload_n 2, 1) := by decide +kernel
theorem dX7_chainOf_59 : decode cX7_chainOf 59 = .ok (.if_icmp .ne 7, 3) := by decide +kernel
theorem dX7_chainOf_62 : decode cX7_chainOf 62 = .ok (.iconst 1, 1) := by decide +kernel
theorem dX7_chainOf_63 : decode cX7_chainOf 63 = .ok (.goto 4, 3) := by decide +kernel
theorem dX7_chainOf_66 : decode cX7_chainOf 66 = .ok (.iconst 0, 1) := by decide +kernel
theorem dX7_chainOf_67 : decode cX7_chainOf 67 = .ok (.istore 7, 2) := by decide +kernel
theorem dX7_chainOf_69 : decode cX7_chainOf 69 = .ok (.iload 5, 2) := by decide +kernel
theorem dX7_chainOf_71 : decode cX7_chainOf 71 = .ok (.iload 7, 2) := by decide +kernel
theorem dX7_chainOf_73 : decode cX7_chainOf 73 = .ok (.ifCond .eq 21, 3) := by decide +kernel
theorem dX7_chainOf_76 : decode cX7_chainOf 76 = .ok (.aload_n 0, 1) := by decide +kernel
theorem dX7_chainOf_77 : decode cX7_chainOf 77 = .ok (.iload 6, 2) := by decide +kernel
theorem dX7_chainOf_79 : decode cX7_chainOf 79 = .ok (.iload 5, 2) := by decide +kernel
theorem dX7_chainOf_81 : decode cX7_chainOf 81 = .ok (.invokevirtual 183, 3) := by decide +kernel
theorem dX7_chainOf_84 : decode cX7_chainOf 84 = .ok (.ifCond .eq 10, 3) := by decide +kernel
theorem dX7_chainOf_87 : decode cX7_chainOf 87 = .ok (.iconst 1, 1) := by decide +kernel
theorem dX7_chainOf_88 : decode cX7_chainOf 88 = .ok (.iload 6, 2) := by decide +kernel
theorem dX7_chainOf_90 : decode cX7_chainOf 90 = .ok (.ishl, 1) := by decide +kernel
theorem dX7_chainOf_91 : decode cX7_chainOf 91 = .ok (.goto 4, 3) := by decide +kernel
theorem dX7_chainOf_94 : decode cX7_chainOf 94 = .ok (.iconst 0, 1) := by decide +kernel
theorem dX7_chainOf_95 : decode cX7_chainOf 95 = .ok (.ior, 1) := by decide +kernel
theorem dX7_chainOf_96 : decode cX7_chainOf 96 = .ok (.istore 5, 2) := by decide +kernel
theorem dX7_chainOf_98 : decode cX7_chainOf 98 = .ok (.iinc 6 1, 3) := by decide +kernel
theorem dX7_chainOf_101 : decode cX7_chainOf 101 = .ok (.goto (-72), 3) := by decide +kernel
theorem dX7_chainOf_104 : decode cX7_chainOf 104 = .ok (.goto (-89), 3) := by decide +kernel
theorem dX7_chainOf_107 : decode cX7_chainOf 107 = .ok (.iload 4, 2) := by decide +kernel
theorem dX7_chainOf_109 : decode cX7_chainOf 109 = .ok (.ireturn, 1) := by decide +kernel
set_option maxRecDepth 20000 in
theorem ggX7_chain_X7_whyNoChain : GoodIn wsX7_chain wsX7_whyNoChain := goodIn_r _ [5, 6, 7, 8, 4, 9, 10, 11, 12, 13, 14, 15, 16, 17, 37, 38, 39, 40, 41, 42, 43, 44, 45, 46, 47, 48, 49, 50, 51, 52, 53, 54, 55, 56] (by decide +kernel) (by decide +kernel)
set_option maxRecDepth 20000 in
theorem gX7_chain_X7_whyNoChain : GoodIn wsX7_chain (wsV RX7 186 RX7 yX7_whyNoChain wsX7_whyNoChain) := goodIn_app (goodIn_of _ (by decide +kernel)) ggX7_chain_X7_whyNoChain
set_option maxRecDepth 20000 in
theorem ggX7_chain_X7_chainOf : GoodIn wsX7_chain wsX7_chainOf := goodIn_r _ [21, 10, 14, 15, 16, 4, 17, 22, 23, 24, 25, 26, 27, 28, 29, 30, 31, 32, 33, 34, 35, 36, 37, 38, 39, 40, 41, 42, 43, 44, 45, 46, 47, 48, 49, 50, 51, 52, 53, 54, 55, 56] (by decide +kernel) (by decide +kernel)
set_option maxRecDepth 20000 in
theorem gX7_chain_X7_chainOf : GoodIn wsX7_chain (wsV RX7 189 RX7 yX7_chainOf wsX7_chainOf) := goodIn_app (goodIn_of _ (by decide +kernel)) ggX7_chain_X7_chainOf
theorem dX7_chain_0 : decode cX7_chain 0 = .ok (.aload_n 0, 1) := by decide +kernel
theorem dX7_chain_1 : decode cX7_chain 1 = .ok (.iload_n 1, 1) := by decide +kernel
