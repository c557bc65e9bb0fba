theorem dX7_chain_2 : decode cX7_chain 2 = .ok (.iload_n 2, 1) := by decide +kernel
theorem dX7_chain_3 : decode cX7_chain 3 = .ok (.invokevirtual 186, 3) := by decide +kernel
theorem dX7_chain_6 : decode cX7_chain 6 = .ok (.istore_n 3, 1) := by decide +kernel
theorem dX7_chain_7 : decode cX7_chain 7 = .ok (.iload_n 3, 1) := by decide +kernel
theorem dX7_chain_8 : decode cX7_chain 8 = .ok (.ifCond .ge 7, 3) := by decide +kernel
theorem dX7_chain_11 : decode cX7_chain 11 = .ok (.iload_n 3, 1) := by decide +kernel
theorem dX7_chain_12 : decode cX7_chain 12 = .ok (.goto 9, 3) := by decide +kernel
theorem dX7_chain_15 : decode cX7_chain 15 = .ok (.aload_n 0, 1) := by decide +kernel
theorem dX7_chain_16 : decode cX7_chain 16 = .ok (.iload_n 1, 1) := by decide +kernel
theorem dX7_chain_17 : decode cX7_chain 17 = .ok (.iload_n 2, 1) := by decide +kernel
theorem dX7_chain_18 : decode cX7_chain 18 = .ok (.invokevirtual 189, 3) := by decide +kernel
theorem dX7_chain_21 : decode cX7_chain 21 = .ok (.ireturn, 1) := by decide +kernel
set_option maxRecDepth 20000 in
theorem ggX7_exchange_X7_whyNoChain : GoodIn wsX7_exchange wsX7_whyNoChain := goodIn_r _ [6, 7, 8, 9, 5, 10, 1, 11, 12, 13, 14, 15, 16, 17, 46, 47, 48, 49, 50, 51, 52, 53, 54, 55, 56, 57, 58, 59, 60, 61, 62, 63, 64, 65] (by decide +kernel) (by decide +kernel)
set_option maxRecDepth 20000 in
theorem gX7_exchange_X7_whyNoChain : GoodIn wsX7_exchange (wsV RX7 186 RX7 yX7_whyNoChain wsX7_whyNoChain) := goodIn_app (goodIn_of _ (by decide +kernel)) ggX7_exchange_X7_whyNoChain
set_option maxRecDepth 20000 in
theorem ggX7_exchange_X7_records : GoodIn wsX7_exchange wsX7_records := goodIn_r _ [21, 22, 23, 1, 46, 47, 48, 49, 50, 51, 52, 53, 54, 55, 56, 57, 58, 59, 60, 61, 62, 63, 64, 65] (by decide +kernel) (by decide +kernel)
set_option maxRecDepth 20000 in
theorem gX7_exchange_X7_records : GoodIn wsX7_exchange (wsV RX7 84 RX7 yX7_records wsX7_records) := goodIn_app (goodIn_of _ (by decide +kernel)) ggX7_exchange_X7_records
set_option maxRecDepth 20000 in
theorem ggX7_exchange_X7_of : GoodIn wsX7_exchange wsX7_of := goodIn_r _ [17, 1, 46, 47, 48, 49, 50, 51, 52, 53, 54, 55, 56, 57, 58, 59, 60, 61, 62, 63, 64, 65] (by decide +kernel) (by decide +kernel)
set_option maxRecDepth 20000 in
theorem gX7_exchange_X7_of : GoodIn wsX7_exchange (wsV RX7 56 RX7 yX7_of wsX7_of) := goodIn_app (goodIn_of _ (by decide +kernel)) ggX7_exchange_X7_of
set_option maxRecDepth 20000 in
theorem ggX7_exchange_X7_chainOf : GoodIn wsX7_exchange wsX7_chainOf := goodIn_r _ [27, 1, 14, 15, 16, 5, 17, 28, 29, 30, 31, 32, 33, 34, 35, 36, 37, 38, 39, 40, 41, 42, 46, 47, 48, 49, 50, 51, 52, 53, 54, 55, 56, 57, 58, 59, 60, 61, 62, 63, 64, 65] (by decide +kernel) (by decide +kernel)
set_option maxRecDepth 20000 in
theorem gX7_exchange_X7_chainOf : GoodIn wsX7_exchange (wsV RX7 189 RX7 yX7_chainOf wsX7_chainOf) := goodIn_app (goodIn_of _ (by decide +kernel)) ggX7_exchange_X7_chainOf
set_option maxRecDepth 20000 in
theorem ggX7_exchange_X7_has : GoodIn wsX7_exchange wsX7_has := goodIn_r _ [34] (by decide +kernel) (by decide +kernel)
set_option maxRecDepth 20000 in
theorem gX7_exchange_X7_has : GoodIn wsX7_exchange (va_wsS RX7 44 yX7_has wsX7_has) := goodIn_app (goodIn_of _ (by decide +kernel)) ggX7_exchange_X7_has
set_option maxRecDepth 20000 in
theorem ggX7_exchange_X7_ones : GoodIn wsX7_exchange wsX7_ones := goodIn_r _ [45] (by decide +kernel) (by decide +kernel)
set_option maxRecDepth 20000 in
theorem gX7_exchange_X7_ones : GoodIn wsX7_exchange (va_wsS RX7 67 yX7_ones wsX7_ones) := goodIn_app (goodIn_of _ (by decide +kernel)) ggX7_exchange_X7_ones
theorem dX7_exchange_0 : decode cX7_exchange 0 = .ok (.aload_n 0, 1) := by decide +kernel
theorem dX7_exchange_1 : decode cX7_exchange 1 = .ok (.iload_n 1, 1) := by decide +kernel
theorem dX7_exchange_2 : decode cX7_exchange 2 = .ok (.iload_n 2, 1) := by decide +kernel
theorem dX7_exchange_3 : decode cX7_exchange 3 = .ok (.invokevirtual 186, 3) := by decide +kernel
theorem dX7_exchange_6 : decode cX7_exchange 6 = .ok (.istore_n 3, 1) := by decide +kernel
theorem dX7_exchange_7 : decode cX7_exchange 7 = .ok (.iload_n 3, 1) := by decide +kernel
theorem dX7_exchange_8 : decode cX7_exchange 8 = .ok (.ifCond .ge 5, 3) := by decide +kernel
theorem dX7_exchange_11 : decode cX7_exchange 11 = .ok (.iload_n 3, 1) := by decide +kernel
theorem dX7_exchange_12 : decode cX7_exchange 12 = .ok (.ireturn, 1) := by decide +kernel
theorem dX7_exchange_13 : decode cX7_exchange 13 = .ok (.aload_n 0, 1) := by decide +kernel
theorem dX7_exchange_14 : decode cX7_exchange 14 = .ok (.invokevirtual 84, 3) := by decide +kernel
theorem dX7_exchange_17 : decode cX7_exchange 17 = .ok (.aload_n 0, 1) := by decide +kernel
theorem dX7_exchange_18 : decode cX7_exchange 18 = .ok (.iload_n 1, 1) := by decide +kernel
theorem dX7_exchange_19 : decode cX7_exchange 19 = .ok (.iconst 2, 1) := by decide +kernel
theorem dX7_exchange_20 : decode cX7_exchange 20 = .ok (.invokevirtual 56, 3) := by decide +kernel
theorem dX7_exchange_23 : decode cX7_exchange 23 = .ok (.istore 4, 2) := by decide +kernel
theorem dX7_exchange_25 : decode cX7_exchange 25 = .ok (.aload_n 0, 1) := by decide +kernel
theorem dX7_exchange_26 : decode cX7_exchange 26 = .ok (.iload_n 1, 1) := by decide +kernel
theorem dX7_exchange_27 : decode cX7_exchange 27 = .ok (.iload_n 2, 1) := by decide +kernel
theorem dX7_exchange_28 : decode cX7_exchange 28 = .ok (.invokevirtual 189, 3) := by decide +kernel
theorem dX7_exchange_31 : decode cX7_exchange 31 = .ok (.istore 5, 2) := by decide +kernel
theorem dX7_exchange_33 : decode cX7_exchange 33 = .ok (.iconst 0, 1) := by decide +kernel
theorem dX7_exchange_34 : decode cX7_exchange 34 = .ok (.istore 6, 2) := by decide +kernel
theorem dX7_exchange_36 : decode cX7_exchange 36 = .ok (.iload 6, 2) := by decide +kernel
theorem dX7_exchange_38 : decode cX7_exchange 38 = .ok (.aload_n 0, 1) := by decide +kernel
theorem dX7_exchange_39 : decode cX7_exchange 39 = .ok (.getfield 7, 3) := by decide +kernel
theorem dX7_exchange_42 : decode cX7_exchange 42 = .ok (.iconst 1, 1) := by decide +kernel
theorem dX7_exchange_43 : decode cX7_exchange 43 = .ok (.iaload, 1) := by decide +kernel
theorem dX7_exchange_44 : decode cX7_exchange 44 = .ok (.if_icmp .ge 50, 3) := by decide +kernel
theorem dX7_exchange_47 : decode cX7_exchange 47 = .ok (.iload 5, 2) := by decide +kernel
theorem dX7_exchange_49 : decode cX7_exchange 49 = .ok (.iload 6, 2) := by decide +kernel
theorem dX7_exchange_51 : decode cX7_exchange 51 = .ok (.invokestatic 44, 3) := by decide +kernel
theorem dX7_exchange_54 : decode cX7_exchange 54 = .ok (.ifCond .eq 34, 3) := by decide +kernel
theorem dX7_exchange_57 : decode cX7_exchange 57 = .ok (.aload_n 0, 1) := by decide +kernel
theorem dX7_exchange_58 : decode cX7_exchange 58 = .ok (.getfield 7, 3) := by decide +kernel
theorem dX7_exchange_61 : decode cX7_exchange 61 = .ok (.iconst 2, 1) := by decide +kernel
theorem dX7_exchange_62 : decode cX7_exchange 62 = .ok (.iconst 3, 1) := by decide +kernel
theorem dX7_exchange_63 : decode cX7_exchange 63 = .ok (.iload 6, 2) := by decide +kernel
theorem dX7_exchange_65 : decode cX7_exchange 65 = .ok (.imul, 1) := by decide +kernel
theorem dX7_exchange_66 : decode cX7_exchange 66 = .ok (.iadd, 1) := by decide +kernel
theorem dX7_exchange_67 : decode cX7_exchange 67 = .ok (.iconst 2, 1) := by decide +kernel
theorem dX7_exchange_68 : decode cX7_exchange 68 = .ok (.iadd, 1) := by decide +kernel
theorem dX7_exchange_69 : decode cX7_exchange 69 = .ok (.aload_n 0, 1) := by decide +kernel
theorem dX7_exchange_70 : decode cX7_exchange 70 = .ok (.iload 6, 2) := by decide +kernel
theorem dX7_exchange_72 : decode cX7_exchange 72 = .ok (.iconst 2, 1) := by decide +kernel
theorem dX7_exchange_73 : decode cX7_exchange 73 = .ok (.invokevirtual 56, 3) := by decide +kernel
theorem dX7_exchange_76 : decode cX7_exchange 76 = .ok (.iload 4, 2) := by decide +kernel
theorem dX7_exchange_78 : decode cX7_exchange 78 = .ok (.if_icmp .ne 7, 3) := by decide +kernel
theorem dX7_exchange_81 : decode cX7_exchange 81 = .ok (.iload_n 2, 1) := by decide +kernel
theorem dX7_exchange_82 : decode cX7_exchange 82 = .ok (.goto 5, 3) := by decide +kernel
theorem dX7_exchange_85 : decode cX7_exchange 85 = .ok (.iload 4, 2) := by decide +kernel
theorem dX7_exchange_87 : decode cX7_exchange 87 = .ok (.iastore, 1) := by decide +kernel
theorem dX7_exchange_88 : decode cX7_exchange 88 = .ok (.iinc 6 1, 3) := by decide +kernel
theorem dX7_exchange_91 : decode cX7_exchange 91 = .ok (.goto (-55), 3) := by decide +kernel
theorem dX7_exchange_94 : decode cX7_exchange 94 = .ok (.iload 5, 2) := by decide +kernel
theorem dX7_exchange_96 : decode cX7_exchange 96 = .ok (.invokestatic 67, 3) := by decide +kernel
theorem dX7_exchange_99 : decode cX7_exchange 99 = .ok (.ireturn, 1) := by decide +kernel
theorem dX7_type_0 : decode cX7_type 0 = .ok (.aload_n 0, 1) := by decide +kernel
theorem dX7_type_1 : decode cX7_type 1 = .ok (.getfield 192, 3) := by decide +kernel
theorem dX7_type_4 : decode cX7_type 4 = .ok (.bipush 60, 2) := by decide +kernel
theorem dX7_type_6 : decode cX7_type 6 = .ok (.if_icmp .ne 6, 3) := by decide +kernel
theorem dX7_type_9 : decode cX7_type 9 = .ok (.bipush (-3), 2) := by decide +kernel
theorem dX7_type_11 : decode cX7_type 11 = .ok (.ireturn, 1) := by decide +kernel
theorem dX7_type_12 : decode cX7_type 12 = .ok (.aload_n 0, 1) := by decide +kernel
theorem dX7_type_13 : decode cX7_type 13 = .ok (.getfield 19, 3) := by decide +kernel
theorem dX7_type_16 : decode cX7_type 16 = .ok (.aload_n 0, 1) := by decide +kernel
theorem dX7_type_17 : decode cX7_type 17 = .ok (.getfield 192, 3) := by decide +kernel
theorem dX7_type_20 : decode cX7_type 20 = .ok (.iload_n 1, 1) := by decide +kernel
theorem dX7_type_21 : decode cX7_type 21 = .ok (.castore, 1) := by decide +kernel
theorem dX7_type_22 : decode cX7_type 22 = .ok (.aload_n 0, 1) := by decide +kernel
theorem dX7_type_23 : decode cX7_type 23 = .ok (.dup, 1) := by decide +kernel
theorem dX7_type_24 : decode cX7_type 24 = .ok (.getfield 192, 3) := by decide +kernel
theorem dX7_type_27 : decode cX7_type 27 = .ok (.iconst 1, 1) := by decide +kernel
theorem dX7_type_28 : decode cX7_type 28 = .ok (.iadd, 1) := by decide +kernel
theorem dX7_type_29 : decode cX7_type 29 = .ok (.putfield 192, 3) := by decide +kernel
theorem dX7_type_32 : decode cX7_type 32 = .ok (.aload_n 0, 1) := by decide +kernel
theorem dX7_type_33 : decode cX7_type 33 = .ok (.getfield 192, 3) := by decide +kernel
theorem dX7_type_36 : decode cX7_type 36 = .ok (.ireturn, 1) := by decide +kernel
theorem dX7_clearText_0 : decode cX7_clearText 0 = .ok (.aload_n 0, 1) := by decide +kernel
theorem dX7_clearText_1 : decode cX7_clearText 1 = .ok (.getfield 192, 3) := by decide +kernel
theorem dX7_clearText_4 : decode cX7_clearText 4 = .ok (.istore_n 1, 1) := by decide +kernel
theorem dX7_clearText_5 : decode cX7_clearText 5 = .ok (.aload_n 0, 1) := by decide +kernel
theorem dX7_clearText_6 : decode cX7_clearText 6 = .ok (.iconst 0, 1) := by decide +kernel
theorem dX7_clearText_7 : decode cX7_clearText 7 = .ok (.putfield 192, 3) := by decide +kernel
theorem dX7_clearText_10 : decode cX7_clearText 10 = .ok (.iload_n 1, 1) := by decide +kernel
theorem dX7_clearText_11 : decode cX7_clearText 11 = .ok (.ireturn, 1) := by decide +kernel
set_option maxRecDepth 20000 in
theorem ggX7_sees_X7_in : GoodIn wsX7_sees wsX7_in := goodIn_r _ [7] (by decide +kernel) (by decide +kernel)
set_option maxRecDepth 20000 in
theorem gX7_sees_X7_in : GoodIn wsX7_sees (va_wsS RX7 52 yX7_in wsX7_in) := goodIn_app (goodIn_of _ (by decide +kernel)) ggX7_sees_X7_in
theorem dX7_sees_0 : decode cX7_sees 0 = .ok (.aload_n 0, 1) := by decide +kernel
theorem dX7_sees_1 : decode cX7_sees 1 = .ok (.getfield 195, 3) := by decide +kernel
theorem dX7_sees_4 : decode cX7_sees 4 = .ok (.aload_n 0, 1) := by decide +kernel
theorem dX7_sees_5 : decode cX7_sees 5 = .ok (.getfield 192, 3) := by decide +kernel
theorem dX7_sees_8 : decode cX7_sees 8 = .ok (.if_icmp .ge 24, 3) := by decide +kernel
theorem dX7_sees_11 : decode cX7_sees 11 = .ok (.aload_n 0, 1) := by decide +kernel
theorem dX7_sees_12 : decode cX7_sees 12 = .ok (.getfield 19, 3) := by decide +kernel
theorem dX7_sees_15 : decode cX7_sees 15 = .ok (.aload_n 0, 1) := by decide +kernel
theorem dX7_sees_16 : decode cX7_sees 16 = .ok (.getfield 195, 3) := by decide +kernel
theorem dX7_sees_19 : decode cX7_sees 19 = .ok (.caload, 1) := by decide +kernel
theorem dX7_sees_20 : decode cX7_sees 20 = .ok (.iload_n 1, 1) := by decide +kernel
theorem dX7_sees_21 : decode cX7_sees 21 = .ok (.iload_n 2, 1) := by decide +kernel
theorem dX7_sees_22 : decode cX7_sees 22 = .ok (.invokestatic 52, 3) := by decide +kernel
theorem dX7_sees_25 : decode cX7_sees 25 = .ok (.ifCond .eq 7, 3) := by decide +kernel
theorem dX7_sees_28 : decode cX7_sees 28 = .ok (.iconst 1, 1) := by decide +kernel
theorem dX7_sees_29 : decode cX7_sees 29 = .ok (.goto 4, 3) := by decide +kernel
theorem dX7_sees_32 : decode cX7_sees 32 = .ok (.iconst 0, 1) := by decide +kernel
theorem dX7_sees_33 : decode cX7_sees 33 = .ok (.ireturn, 1) := by decide +kernel
set_option maxRecDepth 20000 in
theorem ggX7_takes_X7_sees : GoodIn wsX7_takes wsX7_sees := goodIn_r _ [6, 1, 7, 8, 9, 10, 5, 11, 12, 13, 14, 15, 16, 17, 18, 19, 20, 21, 22, 23, 24, 25, 26, 27, 28, 29, 30, 31] (by decide +kernel) (by decide +kernel)
set_option maxRecDepth 20000 in
theorem gX7_takes_X7_sees : GoodIn wsX7_takes (wsV RX7 198 RX7 yX7_sees wsX7_sees) := goodIn_app (goodIn_of _ (by decide +kernel)) ggX7_takes_X7_sees
theorem dX7_takes_0 : decode cX7_takes 0 = .ok (.aload_n 0, 1) := by decide +kernel
theorem dX7_takes_1 : decode cX7_takes 1 = .ok (.iload_n 1, 1) := by decide +kernel
theorem dX7_takes_2 : decode cX7_takes 2 = .ok (.iload_n 1, 1) := by decide +kernel
theorem dX7_takes_3 : decode cX7_takes 3 = .ok (.invokevirtual 198, 3) := by decide +kernel
theorem dX7_takes_6 : decode cX7_takes 6 = .ok (.istore_n 2, 1) := by decide +kernel
theorem dX7_takes_7 : decode cX7_takes 7 = .ok (.aload_n 0, 1) := by decide +kernel
theorem dX7_takes_8 : decode cX7_takes 8 = .ok (.dup, 1) := by decide +kernel
theorem dX7_takes_9 : decode cX7_takes 9 = .ok (.getfield 195, 3) := by decide +kernel
theorem dX7_takes_12 : decode cX7_takes 12 = .ok (.iload_n 2, 1) := by decide +kernel
theorem dX7_takes_13 : decode cX7_takes 13 = .ok (.ifCond .eq 7, 3) := by decide +kernel
theorem dX7_takes_16 : decode cX7_takes 16 = .ok (.iconst 1, 1) := by decide +kernel
theorem dX7_takes_17 : decode cX7_takes 17 = .ok (.goto 4, 3) := by decide +kernel
theorem dX7_takes_20 : decode cX7_takes 20 = .ok (.iconst 0, 1) := by decide +kernel
theorem dX7_takes_21 : decode cX7_takes 21 = .ok (.iadd, 1) := by decide +kernel
theorem dX7_takes_22 : decode cX7_takes 22 = .ok (.putfield 195, 3) := by decide +kernel
theorem dX7_takes_25 : decode cX7_takes 25 = .ok (.iload_n 2, 1) := by decide +kernel
theorem dX7_takes_26 : decode cX7_takes 26 = .ok (.ireturn, 1) := by decide +kernel
set_option maxRecDepth 20000 in
theorem ggX7_takesKnot_X7_sees : GoodIn wsX7_takesKnot wsX7_sees := goodIn_r _ [9, 2, 10, 1, 11, 12, 8, 13, 14, 15, 16, 17, 18, 19, 20, 21, 22, 23, 24, 25, 26, 27, 28, 29, 30, 31, 32, 33] (by decide +kernel) (by decide +kernel)
set_option maxRecDepth 20000 in
theorem gX7_takesKnot_X7_sees : GoodIn wsX7_takesKnot (wsV RX7 198 RX7 yX7_sees wsX7_sees) := goodIn_app (goodIn_of _ (by decide +kernel)) ggX7_takesKnot_X7_sees
theorem dX7_takesKnot_0 : decode cX7_takesKnot 0 = .ok (.aload_n 0, 1) := by decide +kernel
theorem dX7_takesKnot_1 : decode cX7_takesKnot 1 = .ok (.bipush 48, 2) := by decide +kernel
theorem dX7_takesKnot_3 : decode cX7_takesKnot 3 = .ok (.bipush 57, 2) := by decide +kernel
theorem dX7_takesKnot_5 : decode cX7_takesKnot 5 = .ok (.invokevirtual 198, 3) := by decide +kernel
theorem dX7_takesKnot_8 : decode cX7_takesKnot 8 = .ok (.ifCond .ne 5, 3) := by decide +kernel
theorem dX7_takesKnot_11 : decode cX7_takesKnot 11 = .ok (.iconst 0, 1) := by decide +kernel
theorem dX7_takesKnot_12 : decode cX7_takesKnot 12 = .ok (.ireturn, 1) := by decide +kernel
theorem dX7_takesKnot_13 : decode cX7_takesKnot 13 = .ok (.aload_n 0, 1) := by decide +kernel
theorem dX7_takesKnot_14 : decode cX7_takesKnot 14 = .ok (.getfield 19, 3) := by decide +kernel
theorem dX7_takesKnot_17 : decode cX7_takesKnot 17 = .ok (.aload_n 0, 1) := by decide +kernel
theorem dX7_takesKnot_18 : decode cX7_takesKnot 18 = .ok (.getfield 195, 3) := by decide +kernel
theorem dX7_takesKnot_21 : decode cX7_takesKnot 21 = .ok (.caload, 1) := by decide +kernel
theorem dX7_takesKnot_22 : decode cX7_takesKnot 22 = .ok (.bipush 48, 2) := by decide +kernel
theorem dX7_takesKnot_24 : decode cX7_takesKnot 24 = .ok (.isub, 1) := by decide +kernel
theorem dX7_takesKnot_25 : decode cX7_takesKnot 25 = .ok (.istore_n 1, 1) := by decide +kernel
theorem dX7_takesKnot_26 : decode cX7_takesKnot 26 = .ok (.aload_n 0, 1) := by decide +kernel
theorem dX7_takesKnot_27 : decode cX7_takesKnot 27 = .ok (.dup, 1) := by decide +kernel
theorem dX7_takesKnot_28 : decode cX7_takesKnot 28 = .ok (.getfield 195, 3) := by decide +kernel
theorem dX7_takesKnot_31 : decode cX7_takesKnot 31 = .ok (.iconst 1, 1) := by decide +kernel
theorem dX7_takesKnot_32 : decode cX7_takesKnot 32 = .ok (.iadd, 1) := by decide +kernel
theorem dX7_takesKnot_33 : decode cX7_takesKnot 33 = .ok (.putfield 195, 3) := by decide +kernel
theorem dX7_takesKnot_36 : decode cX7_takesKnot 36 = .ok (.iload_n 1, 1) := by decide +kernel
theorem dX7_takesKnot_37 : decode cX7_takesKnot 37 = .ok (.iconst 1, 1) := by decide +kernel
theorem dX7_takesKnot_38 : decode cX7_takesKnot 38 = .ok (.if_icmp .ne 40, 3) := by decide +kernel
theorem dX7_takesKnot_41 : decode cX7_takesKnot 41 = .ok (.aload_n 0, 1) := by decide +kernel
theorem dX7_takesKnot_42 : decode cX7_takesKnot 42 = .ok (.bipush 48, 2) := by decide +kernel
theorem dX7_takesKnot_44 : decode cX7_takesKnot 44 = .ok (.bipush 51, 2) := by decide +kernel
theorem dX7_takesKnot_46 : decode cX7_takesKnot 46 = .ok (.invokevirtual 198, 3) := by decide +kernel
theorem dX7_takesKnot_49 : decode cX7_takesKnot 49 = .ok (.ifCond .eq 29, 3) := by decide +kernel
theorem dX7_takesKnot_52 : decode cX7_takesKnot 52 = .ok (.bipush 10, 2) := by decide +kernel
theorem dX7_takesKnot_54 : decode cX7_takesKnot 54 = .ok (.aload_n 0, 1) := by decide +kernel
theorem dX7_takesKnot_55 : decode cX7_takesKnot 55 = .ok (.getfield 19, 3) := by decide +kernel
theorem dX7_takesKnot_58 : decode cX7_takesKnot 58 = .ok (.aload_n 0, 1) := by decide +kernel
theorem dX7_takesKnot_59 : decode cX7_takesKnot 59 = .ok (.getfield 195, 3) := by decide +kernel
theorem dX7_takesKnot_62 : decode cX7_takesKnot 62 = .ok (.caload, 1) := by decide +kernel
theorem dX7_takesKnot_63 : decode cX7_takesKnot 63 = .ok (.iadd, 1) := by decide +kernel
theorem dX7_takesKnot_64 : decode cX7_takesKnot 64 = .ok (.bipush 48, 2) := by decide +kernel
theorem dX7_takesKnot_66 : decode cX7_takesKnot 66 = .ok (.isub, 1) := by decide +kernel
theorem dX7_takesKnot_67 : decode cX7_takesKnot 67 = .ok (.istore_n 1, 1) := by decide +kernel
theorem dX7_takesKnot_68 : decode cX7_takesKnot 68 = .ok (.aload_n 0, 1) := by decide +kernel
theorem dX7_takesKnot_69 : decode cX7_takesKnot 69 = .ok (.dup, 1) := by decide +kernel
theorem dX7_takesKnot_70 : decode cX7_takesKnot 70 = .ok (.getfield 195, 3) := by decide +kernel
theorem dX7_takesKnot_73 : decode cX7_takesKnot 73 = .ok (.iconst 1, 1) := by decide +kernel
theorem dX7_takesKnot_74 : decode cX7_takesKnot 74 = .ok (.iadd, 1) := by decide +kernel
theorem dX7_takesKnot_75 : decode cX7_takesKnot 75 = .ok (.putfield 195, 3) := by decide +kernel
theorem dX7_takesKnot_78 : decode cX7_takesKnot 78 = .ok (.aload_n 0, 1) := by decide +kernel
theorem dX7_takesKnot_79 : decode cX7_takesKnot 79 = .ok (.getfield 29, 3) := by decide +kernel
theorem dX7_takesKnot_82 : decode cX7_takesKnot 82 = .ok (.aload_n 0, 1) := by decide +kernel
theorem dX7_takesKnot_83 : decode cX7_takesKnot 83 = .ok (.getfield 201, 3) := by decide +kernel
theorem dX7_takesKnot_86 : decode cX7_takesKnot 86 = .ok (.iload_n 1, 1) := by decide +kernel
theorem dX7_takesKnot_87 : decode cX7_takesKnot 87 = .ok (.iastore, 1) := by decide +kernel
theorem dX7_takesKnot_88 : decode cX7_takesKnot 88 = .ok (.aload_n 0, 1) := by decide +kernel
theorem dX7_takesKnot_89 : decode cX7_takesKnot 89 = .ok (.dup, 1) := by decide +kernel
theorem dX7_takesKnot_90 : decode cX7_takesKnot 90 = .ok (.getfield 201, 3) := by decide +kernel
theorem dX7_takesKnot_93 : decode cX7_takesKnot 93 = .ok (.iconst 1, 1) := by decide +kernel
theorem dX7_takesKnot_94 : decode cX7_takesKnot 94 = .ok (.iadd, 1) := by decide +kernel
theorem dX7_takesKnot_95 : decode cX7_takesKnot 95 = .ok (.putfield 201, 3) := by decide +kernel
theorem dX7_takesKnot_98 : decode cX7_takesKnot 98 = .ok (.iconst 1, 1) := by decide +kernel
theorem dX7_takesKnot_99 : decode cX7_takesKnot 99 = .ok (.ireturn, 1) := by decide +kernel
set_option maxRecDepth 20000 in
theorem ggX7_readsThreads_X7_takesKnot : GoodIn wsX7_readsThreads wsX7_takesKnot := goodIn_r _ [8, 9, 1, 10, 2, 11, 12, 13, 7, 14, 3, 15, 16, 17, 22, 23, 24, 25, 26, 27, 28, 29, 30, 31, 32, 33, 34, 35, 36, 37, 38, 39, 40, 41] (by decide +kernel) (by decide +kernel)
set_option maxRecDepth 20000 in
theorem gX7_readsThreads_X7_takesKnot : GoodIn wsX7_readsThreads (wsV RX7 204 RX7 yX7_takesKnot wsX7_takesKnot) := goodIn_app (goodIn_of _ (by decide +kernel)) ggX7_readsThreads_X7_takesKnot
set_option maxRecDepth 20000 in
theorem ggX7_readsThreads_X7_takes : GoodIn wsX7_readsThreads wsX7_takes := goodIn_r _ [21, 1, 11, 12, 13, 7, 14, 3, 9, 15, 16, 17, 22, 23, 24, 25, 26, 27, 28, 29, 30, 31, 32, 33, 34, 35, 36, 37, 38, 39, 40, 41] (by decide +kernel) (by decide +kernel)
set_option maxRecDepth 20000 in
theorem gX7_readsThreads_X7_takes : GoodIn wsX7_readsThreads (wsV RX7 208 RX7 yX7_takes wsX7_takes) := goodIn_app (goodIn_of _ (by decide +kernel)) ggX7_readsThreads_X7_takes
theorem dX7_readsThreads_0 : decode cX7_readsThreads 0 = .ok (.aload_n 0, 1) := by decide +kernel
theorem dX7_readsThreads_1 : decode cX7_readsThreads 1 = .ok (.iconst 0, 1) := by decide +kernel
theorem dX7_readsThreads_2 : decode cX7_readsThreads 2 = .ok (.putfield 195, 3) := by decide +kernel
theorem dX7_readsThreads_5 : decode cX7_readsThreads 5 = .ok (.aload_n 0, 1) := by decide +kernel
theorem dX7_readsThreads_6 : decode cX7_readsThreads 6 = .ok (.iconst 0, 1) := by decide +kernel
theorem dX7_readsThreads_7 : decode cX7_readsThreads 7 = .ok (.putfield 201, 3) := by decide +kernel
theorem dX7_readsThreads_10 : decode cX7_readsThreads 10 = .ok (.iconst 1, 1) := by decide +kernel
theorem dX7_readsThreads_11 : decode cX7_readsThreads 11 = .ok (.istore_n 1, 1) := by decide +kernel
theorem dX7_readsThreads_12 : decode cX7_readsThreads 12 = .ok (.iload_n 1, 1) := by decide +kernel
theorem dX7_readsThreads_13 : decode cX7_readsThreads 13 = .ok (.ifCond .eq 38, 3) := by decide +kernel
theorem dX7_readsThreads_16 : decode cX7_readsThreads 16 = .ok (.aload_n 0, 1) := by decide +kernel
theorem dX7_readsThreads_17 : decode cX7_readsThreads 17 = .ok (.invokevirtual 204, 3) := by decide +kernel
theorem dX7_readsThreads_20 : decode cX7_readsThreads 20 = .ok (.ifCond .eq 19, 3) := by decide +kernel
theorem dX7_readsThreads_23 : decode cX7_readsThreads 23 = .ok (.aload_n 0, 1) := by decide +kernel
theorem dX7_readsThreads_24 : decode cX7_readsThreads 24 = .ok (.bipush 45, 2) := by decide +kernel
theorem dX7_readsThreads_26 : decode cX7_readsThreads 26 = .ok (.invokevirtual 208, 3) := by decide +kernel
theorem dX7_readsThreads_29 : decode cX7_readsThreads 29 = .ok (.ifCond .eq 10, 3) := by decide +kernel
theorem dX7_readsThreads_32 : decode cX7_readsThreads 32 = .ok (.aload_n 0, 1) := by decide +kernel
theorem dX7_readsThreads_33 : decode cX7_readsThreads 33 = .ok (.invokevirtual 204, 3) := by decide +kernel
theorem dX7_readsThreads_36 : decode cX7_readsThreads 36 = .ok (.ifCond .ne 5, 3) := by decide +kernel
theorem dX7_readsThreads_39 : decode cX7_readsThreads 39 = .ok (.iconst 0, 1) := by decide +kernel
theorem dX7_readsThreads_40 : decode cX7_readsThreads 40 = .ok (.ireturn, 1) := by decide +kernel
theorem dX7_readsThreads_41 : decode cX7_readsThreads 41 = .ok (.aload_n 0, 1) := by decide +kernel
theorem dX7_readsThreads_42 : decode cX7_readsThreads 42 = .ok (.bipush 44, 2) := by decide +kernel
theorem dX7_readsThreads_44 : decode cX7_readsThreads 44 = .ok (.invokevirtual 208, 3) := by decide +kernel
theorem dX7_readsThreads_47 : decode cX7_readsThreads 47 = .ok (.istore_n 1, 1) := by decide +kernel
theorem dX7_readsThreads_48 : decode cX7_readsThreads 48 = .ok (.goto (-36), 3) := by decide +kernel
theorem dX7_readsThreads_51 : decode cX7_readsThreads 51 = .ok (.aload_n 0, 1) := by decide +kernel
theorem dX7_readsThreads_52 : decode cX7_readsThreads 52 = .ok (.getfield 195, 3) := by decide +kernel
theorem dX7_readsThreads_55 : decode cX7_readsThreads 55 = .ok (.aload_n 0, 1) := by decide +kernel
theorem dX7_readsThreads_56 : decode cX7_readsThreads 56 = .ok (.getfield 192, 3) := by decide +kernel
theorem dX7_readsThreads_59 : decode cX7_readsThreads 59 = .ok (.if_icmp .ne 7, 3) := by decide +kernel
theorem dX7_readsThreads_62 : decode cX7_readsThreads 62 = .ok (.iconst 1, 1) := by decide +kernel
theorem dX7_readsThreads_63 : decode cX7_readsThreads 63 = .ok (.goto 4, 3) := by decide +kernel
theorem dX7_readsThreads_66 : decode cX7_readsThreads 66 = .ok (.iconst 0, 1) := by decide +kernel
theorem dX7_readsThreads_67 : decode cX7_readsThreads 67 = .ok (.ireturn, 1) := by decide +kernel
theorem dX7_isLoop_0 : decode cX7_isLoop 0 = .ok (.iconst 0, 1) := by decide +kernel
theorem dX7_isLoop_1 : decode cX7_isLoop 1 = .ok (.istore_n 1, 1) := by decide +kernel
theorem dX7_isLoop_2 : decode cX7_isLoop 2 = .ok (.iconst 0, 1) := by decide +kernel
theorem dX7_isLoop_3 : decode cX7_isLoop 3 = .ok (.istore_n 2, 1) := by decide +kernel
theorem dX7_isLoop_4 : decode cX7_isLoop 4 = .ok (.iload_n 2, 1) := by decide +kernel
theorem dX7_isLoop_5 : decode cX7_isLoop 5 = .ok (.aload_n 0, 1) := by decide +kernel
theorem dX7_isLoop_6 : decode cX7_isLoop 6 = .ok (.getfield 201, 3) := by decide +kernel
theorem dX7_isLoop_9 : decode cX7_isLoop 9 = .ok (.if_icmp .ge 36, 3) := by decide +kernel
theorem dX7_isLoop_12 : decode cX7_isLoop 12 = .ok (.iload_n 1, 1) := by decide +kernel
theorem dX7_isLoop_13 : decode cX7_isLoop 13 = .ok (.ifCond .ne 20, 3) := by decide +kernel
theorem dX7_isLoop_16 : decode cX7_isLoop 16 = .ok (.aload_n 0, 1) := by decide +kernel
theorem dX7_isLoop_17 : decode cX7_isLoop 17 = .ok (.getfield 29, 3) := by decide +kernel
theorem dX7_isLoop_20 : decode cX7_isLoop 20 = .ok (.iload_n 2, 1) := by decide +kernel
theorem dX7_isLoop_21 : decode cX7_isLoop 21 = .ok (.iaload, 1) := by decide +kernel
theorem dX7_isLoop_22 : decode cX7_isLoop 22 = .ok (.aload_n 0, 1) := by decide +kernel
theorem dX7_isLoop_23 : decode cX7_isLoop 23 = .ok (.getfield 29, 3) := by decide +kernel
theorem dX7_isLoop_26 : decode cX7_isLoop 26 = .ok (.iload_n 2, 1) := by decide +kernel
theorem dX7_isLoop_27 : decode cX7_isLoop 27 = .ok (.iconst 1, 1) := by decide +kernel
theorem dX7_isLoop_28 : decode cX7_isLoop 28 = .ok (.iadd, 1) := by decide +kernel
theorem dX7_isLoop_29 : decode cX7_isLoop 29 = .ok (.iaload, 1) := by decide +kernel
theorem dX7_isLoop_30 : decode cX7_isLoop 30 = .ok (.if_icmp .ne 7, 3) := by decide +kernel
theorem dX7_isLoop_33 : decode cX7_isLoop 33 = .ok (.iconst 1, 1) := by decide +kernel
theorem dX7_isLoop_34 : decode cX7_isLoop 34 = .ok (.goto 4, 3) := by decide +kernel
theorem dX7_isLoop_37 : decode cX7_isLoop 37 = .ok (.iconst 0, 1) := by decide +kernel
theorem dX7_isLoop_38 : decode cX7_isLoop 38 = .ok (.istore_n 1, 1) := by decide +kernel
theorem dX7_isLoop_39 : decode cX7_isLoop 39 = .ok (.iinc 2 2, 3) := by decide +kernel
theorem dX7_isLoop_42 : decode cX7_isLoop 42 = .ok (.goto (-38), 3) := by decide +kernel
theorem dX7_isLoop_45 : decode cX7_isLoop 45 = .ok (.iload_n 1, 1) := by decide +kernel
theorem dX7_isLoop_46 : decode cX7_isLoop 46 = .ok (.ireturn, 1) := by decide +kernel
theorem dX7_isTwice_0 : decode cX7_isTwice 0 = .ok (.iconst 0, 1) := by decide +kernel
theorem dX7_isTwice_1 : decode cX7_isTwice 1 = .ok (.istore_n 1, 1) := by decide +kernel
theorem dX7_isTwice_2 : decode cX7_isTwice 2 = .ok (.iconst 0, 1) := by decide +kernel
theorem dX7_isTwice_3 : decode cX7_isTwice 3 = .ok (.istore_n 2, 1) := by decide +kernel
theorem dX7_isTwice_4 : decode cX7_isTwice 4 = .ok (.iload_n 2, 1) := by decide +kernel
theorem dX7_isTwice_5 : decode cX7_isTwice 5 = .ok (.aload_n 0, 1) := by decide +kernel
theorem dX7_isTwice_6 : decode cX7_isTwice 6 = .ok (.getfield 201, 3) := by decide +kernel
theorem dX7_isTwice_9 : decode cX7_isTwice 9 = .ok (.if_icmp .ge 100, 3) := by decide +kernel
theorem dX7_isTwice_12 : decode cX7_isTwice 12 = .ok (.iconst 0, 1) := by decide +kernel
theorem dX7_isTwice_13 : decode cX7_isTwice 13 = .ok (.istore_n 3, 1) := by decide +kernel
theorem dX7_isTwice_14 : decode cX7_isTwice 14 = .ok (.iload_n 3, 1) := by decide +kernel
theorem dX7_isTwice_15 : decode cX7_isTwice 15 = .ok (.iload_n 2, 1) := by decide +kernel
theorem dX7_isTwice_16 : decode cX7_isTwice 16 = .ok (.if_icmp .ge 87, 3) := by decide +kernel
theorem dX7_isTwice_19 : decode cX7_isTwice 19 = .ok (.iload_n 1, 1) := by decide +kernel
theorem dX7_isTwice_20 : decode cX7_isTwice 20 = .ok (.ifCond .ne 71, 3) := by decide +kernel
theorem dX7_isTwice_23 : decode cX7_isTwice 23 = .ok (.aload_n 0, 1) := by decide +kernel
theorem dX7_isTwice_24 : decode cX7_isTwice 24 = .ok (.getfield 29, 3) := by decide +kernel
theorem dX7_isTwice_27 : decode cX7_isTwice 27 = .ok (.iload_n 2, 1) := by decide +kernel
theorem dX7_isTwice_28 : decode cX7_isTwice 28 = .ok (.iaload, 1) := by decide +kernel
theorem dX7_isTwice_29 : decode cX7_isTwice 29 = .ok (.aload_n 0, 1) := by decide +kernel
theorem dX7_isTwice_30 : decode cX7_isTwice 30 = .ok (.getfield 29, 3) := by decide +kernel
theorem dX7_isTwice_33 : decode cX7_isTwice 33 = .ok (.iload_n 3, 1) := by decide +kernel
theorem dX7_isTwice_34 : decode cX7_isTwice 34 = .ok (.iaload, 1) := by decide +kernel
theorem dX7_isTwice_35 : decode cX7_isTwice 35 = .ok (.if_icmp .ne 22, 3) := by decide +kernel
theorem dX7_isTwice_38 : decode cX7_isTwice 38 = .ok (.aload_n 0, 1) := by decide +kernel
theorem dX7_isTwice_39 : decode cX7_isTwice 39 = .ok (.getfield 29, 3) := by decide +kernel
theorem dX7_isTwice_42 : decode cX7_isTwice 42 = .ok (.iload_n 2, 1) := by decide +kernel
theorem dX7_isTwice_43 : decode cX7_isTwice 43 = .ok (.iconst 1, 1) := by decide +kernel
theorem dX7_isTwice_44 : decode cX7_isTwice 44 = .ok (.iadd, 1) := by decide +kernel
theorem dX7_isTwice_45 : decode cX7_isTwice 45 = .ok (.iaload, 1) := by decide +kernel
theorem dX7_isTwice_46 : decode cX7_isTwice 46 = .ok (.aload_n 0, 1) := by decide +kernel
theorem dX7_isTwice_47 : decode cX7_isTwice 47 = .ok (.getfield 29, 3) := by decide +kernel
theorem dX7_isTwice_50 : decode cX7_isTwice 50 = .ok (.iload_n 3, 1) := by decide +kernel
theorem dX7_isTwice_51 : decode cX7_isTwice 51 = .ok (.iconst 1, 1) := by decide +kernel
theorem dX7_isTwice_52 : decode cX7_isTwice 52 = .ok (.iadd, 1) := by decide +kernel
theorem dX7_isTwice_53 : decode cX7_isTwice 53 = .ok (.iaload, 1) := by decide +kernel
theorem dX7_isTwice_54 : decode cX7_isTwice 54 = .ok (.if_icmp .eq 37, 3) := by decide +kernel
theorem dX7_isTwice_57 : decode cX7_isTwice 57 = .ok (.aload_n 0, 1) := by decide +kernel
theorem dX7_isTwice_58 : decode cX7_isTwice 58 = .ok (.getfield 29, 3) := by decide +kernel
theorem dX7_isTwice_61 : decode cX7_isTwice 61 = .ok (.iload_n 2, 1) := by decide +kernel
theorem dX7_isTwice_62 : decode cX7_isTwice 62 = .ok (.iaload, 1) := by decide +kernel
theorem dX7_isTwice_63 : decode cX7_isTwice 63 = .ok (.aload_n 0, 1) := by decide +kernel
theorem dX7_isTwice_64 : decode cX7_isTwice 64 = .ok (.getfield 29, 3) := by decide +kernel
theorem dX7_isTwice_67 : decode cX7_isTwice 67 = .ok (.iload_n 3, 1) := by decide +kernel
theorem dX7_isTwice_68 : decode cX7_isTwice 68 = .ok (.iconst 1, 1) := by decide +kernel
theorem dX7_isTwice_69 : decode cX7_isTwice 69 = .ok (.iadd, 1) := by decide +kernel
theorem dX7_isTwice_70 : decode cX7_isTwice 70 = .ok (.iaload, 1) := by decide +kernel
theorem dX7_isTwice_71 : decode cX7_isTwice 71 = .ok (.if_icmp .ne 24, 3) := by decide +kernel
theorem dX7_isTwice_74 : decode cX7_isTwice 74 = .ok (.aload_n 0, 1) := by decide +kernel
theorem dX7_isTwice_75 : decode cX7_isTwice 75 = .ok (.getfield 29, 3) := by decide +kernel
theorem dX7_isTwice_78 : decode cX7_isTwice 78 = .ok (.iload_n 2, 1) := by decide +kernel
theorem dX7_isTwice_79 : decode cX7_isTwice 79 = .ok (.iconst 1, 1) := by decide +kernel
theorem dX7_isTwice_80 : decode cX7_isTwice 80 = .ok (.iadd, 1) := by decide +kernel
theorem dX7_isTwice_81 : decode cX7_isTwice 81 = .ok (.iaload, 1) := by decide +kernel
theorem dX7_isTwice_82 : decode cX7_isTwice 82 = .ok (.aload_n 0, 1) := by decide +kernel
theorem dX7_isTwice_83 : decode cX7_isTwice 83 = .ok (.getfield 29, 3) := by decide +kernel
theorem dX7_isTwice_86 : decode cX7_isTwice 86 = .ok (.iload_n 3, 1) := by decide +kernel
theorem dX7_isTwice_87 : decode cX7_isTwice 87 = .ok (.iaload, 1) := by decide +kernel
theorem dX7_isTwice_88 : decode cX7_isTwice 88 = .ok (.if_icmp .ne 7, 3) := by decide +kernel
theorem dX7_isTwice_91 : decode cX7_isTwice 91 = .ok (.iconst 1, 1) := by decide +kernel
theorem dX7_isTwice_92 : decode cX7_isTwice 92 = .ok (.goto 4, 3) := by decide +kernel
theorem dX7_isTwice_95 : decode cX7_isTwice 95 = .ok (.iconst 0, 1) := by decide +kernel
theorem dX7_isTwice_96 : decode cX7_isTwice 96 = .ok (.istore_n 1, 1) := by decide +kernel
theorem dX7_isTwice_97 : decode cX7_isTwice 97 = .ok (.iinc 3 2, 3) := by decide +kernel
theorem dX7_isTwice_100 : decode cX7_isTwice 100 = .ok (.goto (-86), 3) := by decide +kernel
theorem dX7_isTwice_103 : decode cX7_isTwice 103 = .ok (.iinc 2 2, 3) := by decide +kernel
theorem dX7_isTwice_106 : decode cX7_isTwice 106 = .ok (.goto (-102), 3) := by decide +kernel
theorem dX7_isTwice_109 : decode cX7_isTwice 109 = .ok (.iload_n 1, 1) := by decide +kernel
theorem dX7_isTwice_110 : decode cX7_isTwice 110 = .ok (.ireturn, 1) := by decide +kernel
theorem dX7_timesRead_0 : decode cX7_timesRead 0 = .ok (.iconst 0, 1) := by decide +kernel
theorem dX7_timesRead_1 : decode cX7_timesRead 1 = .ok (.istore_n 2, 1) := by decide +kernel
theorem dX7_timesRead_2 : decode cX7_timesRead 2 = .ok (.iconst 0, 1) := by decide +kernel
theorem dX7_timesRead_3 : decode cX7_timesRead 3 = .ok (.istore_n 3, 1) := by decide +kernel
theorem dX7_timesRead_4 : decode cX7_timesRead 4 = .ok (.iload_n 3, 1) := by decide +kernel
theorem dX7_timesRead_5 : decode cX7_timesRead 5 = .ok (.aload_n 0, 1) := by decide +kernel
theorem dX7_timesRead_6 : decode cX7_timesRead 6 = .ok (.getfield 201, 3) := by decide +kernel
theorem dX7_timesRead_9 : decode cX7_timesRead 9 = .ok (.if_icmp .ge 27, 3) := by decide +kernel
theorem dX7_timesRead_12 : decode cX7_timesRead 12 = .ok (.iload_n 2, 1) := by decide +kernel
theorem dX7_timesRead_13 : decode cX7_timesRead 13 = .ok (.aload_n 0, 1) := by decide +kernel
theorem dX7_timesRead_14 : decode cX7_timesRead 14 = .ok (.getfield 29, 3) := by decide +kernel
theorem dX7_timesRead_17 : decode cX7_timesRead 17 = .ok (.iload_n 3, 1) := by decide +kernel
theorem dX7_timesRead_18 : decode cX7_timesRead 18 = .ok (.iaload, 1) := by decide +kernel
theorem dX7_timesRead_19 : decode cX7_timesRead 19 = .ok (.iload_n 1, 1) := by decide +kernel
theorem dX7_timesRead_20 : decode cX7_timesRead 20 = .ok (.if_icmp .ne 7, 3) := by decide +kernel
theorem dX7_timesRead_23 : decode cX7_timesRead 23 = .ok (.iconst 1, 1) := by decide +kernel
theorem dX7_timesRead_24 : decode cX7_timesRead 24 = .ok (.goto 4, 3) := by decide +kernel
theorem dX7_timesRead_27 : decode cX7_timesRead 27 = .ok (.iconst 0, 1) := by decide +kernel
theorem dX7_timesRead_28 : decode cX7_timesRead 28 = .ok (.iadd, 1) := by decide +kernel
theorem dX7_timesRead_29 : decode cX7_timesRead 29 = .ok (.istore_n 2, 1) := by decide +kernel
theorem dX7_timesRead_30 : decode cX7_timesRead 30 = .ok (.iinc 3 1, 3) := by decide +kernel
theorem dX7_timesRead_33 : decode cX7_timesRead 33 = .ok (.goto (-29), 3) := by decide +kernel
theorem dX7_timesRead_36 : decode cX7_timesRead 36 = .ok (.iload_n 2, 1) := by decide +kernel
theorem dX7_timesRead_37 : decode cX7_timesRead 37 = .ok (.ireturn, 1) := by decide +kernel
set_option maxRecDepth 20000 in
theorem ggX7_isTooMuch_X7_timesRead : GoodIn wsX7_isTooMuch wsX7_timesRead := goodIn_r _ [5, 6, 7, 8, 9, 10, 11, 12, 13, 14, 15, 16, 17, 18, 19, 20, 21, 22, 23, 24, 25, 26, 27] (by decide +kernel) (by decide +kernel)
set_option maxRecDepth 20000 in
theorem gX7_isTooMuch_X7_timesRead : GoodIn wsX7_isTooMuch (wsV RX7 211 RX7 yX7_timesRead wsX7_timesRead) := goodIn_app (goodIn_of _ (by decide +kernel)) ggX7_isTooMuch_X7_timesRead
theorem dX7_isTooMuch_0 : decode cX7_isTooMuch 0 = .ok (.iconst 0, 1) := by decide +kernel
theorem dX7_isTooMuch_1 : decode cX7_isTooMuch 1 = .ok (.istore_n 1, 1) := by decide +kernel
theorem dX7_isTooMuch_2 : decode cX7_isTooMuch 2 = .ok (.iconst 0, 1) := by decide +kernel
theorem dX7_isTooMuch_3 : decode cX7_isTooMuch 3 = .ok (.istore_n 2, 1) := by decide +kernel
theorem dX7_isTooMuch_4 : decode cX7_isTooMuch 4 = .ok (.iload_n 2, 1) := by decide +kernel
theorem dX7_isTooMuch_5 : decode cX7_isTooMuch 5 = .ok (.bipush 14, 2) := by decide +kernel
theorem dX7_isTooMuch_7 : decode cX7_isTooMuch 7 = .ok (.if_icmp .ge 28, 3) := by decide +kernel
theorem dX7_isTooMuch_10 : decode cX7_isTooMuch 10 = .ok (.iload_n 1, 1) := by decide +kernel
theorem dX7_isTooMuch_11 : decode cX7_isTooMuch 11 = .ok (.ifCond .ne 12, 3) := by decide +kernel
theorem dX7_isTooMuch_14 : decode cX7_isTooMuch 14 = .ok (.aload_n 0, 1) := by decide +kernel
theorem dX7_isTooMuch_15 : decode cX7_isTooMuch 15 = .ok (.iload_n 2, 1) := by decide +kernel
theorem dX7_isTooMuch_16 : decode cX7_isTooMuch 16 = .ok (.invokevirtual 211, 3) := by decide +kernel
theorem dX7_isTooMuch_19 : decode cX7_isTooMuch 19 = .ok (.iconst 3, 1) := by decide +kernel
theorem dX7_isTooMuch_20 : decode cX7_isTooMuch 20 = .ok (.if_icmp .le 7, 3) := by decide +kernel
theorem dX7_isTooMuch_23 : decode cX7_isTooMuch 23 = .ok (.iconst 1, 1) := by decide +kernel
theorem dX7_isTooMuch_24 : decode cX7_isTooMuch 24 = .ok (.goto 4, 3) := by decide +kernel
theorem dX7_isTooMuch_27 : decode cX7_isTooMuch 27 = .ok (.iconst 0, 1) := by decide +kernel
theorem dX7_isTooMuch_28 : decode cX7_isTooMuch 28 = .ok (.istore_n 1, 1) := by decide +kernel
theorem dX7_isTooMuch_29 : decode cX7_isTooMuch 29 = .ok (.iinc 2 1, 3) := by decide +kernel
theorem dX7_isTooMuch_32 : decode cX7_isTooMuch 32 = .ok (.goto (-28), 3) := by decide +kernel
theorem dX7_isTooMuch_35 : decode cX7_isTooMuch 35 = .ok (.iload_n 1, 1) := by decide +kernel
theorem dX7_isTooMuch_36 : decode cX7_isTooMuch 36 = .ok (.ireturn, 1) := by decide +kernel
set_option maxRecDepth 20000 in
theorem ggX7_readNet_X7_readsThreads : GoodIn wsX7_readNet wsX7_readsThreads := goodIn_r _ [9, 1, 3, 10, 11, 12, 13, 8, 14, 15, 4, 16, 17, 18, 19, 20, 21, 22, 23, 24, 25, 26, 61, 62, 63, 64, 65, 66, 67, 68, 69, 70, 71, 72, 73, 74, 75, 76, 77, 78, 79, 80] (by decide +kernel) (by decide +kernel)
set_option maxRecDepth 20000 in
theorem gX7_readNet_X7_readsThreads : GoodIn wsX7_readNet (wsV RX7 214 RX7 yX7_readsThreads wsX7_readsThreads) := goodIn_app (goodIn_of _ (by decide +kernel)) ggX7_readNet_X7_readsThreads
set_option maxRecDepth 20000 in
theorem ggX7_readNet_X7_isLoop : GoodIn wsX7_readNet wsX7_isLoop := goodIn_r _ [30, 3, 4, 61, 62, 63, 64, 65, 66, 67, 68, 69, 70, 71, 72, 73, 74, 75, 76, 77, 78, 79, 80] (by decide +kernel) (by decide +kernel)
set_option maxRecDepth 20000 in
theorem gX7_readNet_X7_isLoop : GoodIn wsX7_readNet (wsV RX7 217 RX7 yX7_isLoop wsX7_isLoop) := goodIn_app (goodIn_of _ (by decide +kernel)) ggX7_readNet_X7_isLoop
set_option maxRecDepth 20000 in
theorem ggX7_readNet_X7_isTwice : GoodIn wsX7_readNet wsX7_isTwice := goodIn_r _ [34, 3, 4, 61, 62, 63, 64, 65, 66, 67, 68, 69, 70, 71, 72, 73, 74, 75, 76, 77, 78, 79, 80] (by decide +kernel) (by decide +kernel)
set_option maxRecDepth 20000 in
theorem gX7_readNet_X7_isTwice : GoodIn wsX7_readNet (wsV RX7 220 RX7 yX7_isTwice wsX7_isTwice) := goodIn_app (goodIn_of _ (by decide +kernel)) ggX7_readNet_X7_isTwice
set_option maxRecDepth 20000 in
theorem ggX7_readNet_X7_isTooMuch : GoodIn wsX7_readNet wsX7_isTooMuch := goodIn_r _ [38, 39, 40, 41, 8, 42, 3, 4, 61, 62, 63, 64, 65, 66, 67, 68, 69, 70, 71, 72, 73, 74, 75, 76, 77, 78, 79, 80] (by decide +kernel) (by decide +kernel)
set_option maxRecDepth 20000 in
theorem gX7_readNet_X7_isTooMuch : GoodIn wsX7_readNet (wsV RX7 223 RX7 yX7_isTooMuch wsX7_isTooMuch) := goodIn_app (goodIn_of _ (by decide +kernel)) ggX7_readNet_X7_isTooMuch
set_option maxRecDepth 20000 in
theorem ggX7_readNet_X7_records : GoodIn wsX7_readNet wsX7_records := goodIn_r _ [46, 47, 48, 2, 61, 62, 63, 64, 65, 66, 67, 68, 69, 70, 71, 72, 73, 74, 75, 76, 77, 78, 79, 80] (by decide +kernel) (by decide +kernel)
set_option maxRecDepth 20000 in
theorem gX7_readNet_X7_records : GoodIn wsX7_readNet (wsV RX7 84 RX7 yX7_records wsX7_records) := goodIn_app (goodIn_of _ (by decide +kernel)) ggX7_readNet_X7_records
set_option maxRecDepth 20000 in
theorem ggX7_readNet_X7_adds : GoodIn wsX7_readNet wsX7_adds := goodIn_r _ [52, 2, 53, 54, 55, 8, 56, 61, 62, 63, 64, 65, 66, 67, 68, 69, 70, 71, 72, 73, 74, 75, 76, 77, 78, 79, 80] (by decide +kernel) (by decide +kernel)
set_option maxRecDepth 20000 in
theorem gX7_readNet_X7_adds : GoodIn wsX7_readNet (wsV RX7 115 RX7 yX7_adds wsX7_adds) := goodIn_app (goodIn_of _ (by decide +kernel)) ggX7_readNet_X7_adds
set_option maxRecDepth 20000 in
theorem ggX7_readNet_X7_of : GoodIn wsX7_readNet wsX7_of := goodIn_r _ [60, 2, 61, 62, 63, 64, 65, 66, 67, 68, 69, 70, 71, 72, 73, 74, 75, 76, 77, 78, 79, 80] (by decide +kernel) (by decide +kernel)
set_option maxRecDepth 20000 in
theorem gX7_readNet_X7_of : GoodIn wsX7_readNet (wsV RX7 56 RX7 yX7_of wsX7_of) := goodIn_app (goodIn_of _ (by decide +kernel)) ggX7_readNet_X7_of
theorem dX7_readNet_0 : decode cX7_readNet 0 = .ok (.aload_n 0, 1) := by decide +kernel
theorem dX7_readNet_1 : decode cX7_readNet 1 = .ok (.invokevirtual 214, 3) := by decide +kernel
theorem dX7_readNet_4 : decode cX7_readNet 4 = .ok (.ifCond .ne 11, 3) := by decide +kernel
theorem dX7_readNet_7 : decode cX7_readNet 7 = .ok (.bipush (-100), 2) := by decide +kernel
theorem dX7_readNet_9 : decode cX7_readNet 9 = .ok (.aload_n 0, 1) := by decide +kernel
theorem dX7_readNet_10 : decode cX7_readNet 10 = .ok (.getfield 195, 3) := by decide +kernel
theorem dX7_readNet_13 : decode cX7_readNet 13 = .ok (.isub, 1) := by decide +kernel
theorem dX7_readNet_14 : decode cX7_readNet 14 = .ok (.ireturn, 1) := by decide +kernel
theorem dX7_readNet_15 : decode cX7_readNet 15 = .ok (.aload_n 0, 1) := by decide +kernel
theorem dX7_readNet_16 : decode cX7_readNet 16 = .ok (.invokevirtual 217, 3) := by decide +kernel
theorem dX7_readNet_19 : decode cX7_readNet 19 = .ok (.ifCond .eq 6, 3) := by decide +kernel
theorem dX7_readNet_22 : decode cX7_readNet 22 = .ok (.bipush (-2), 2) := by decide +kernel
theorem dX7_readNet_24 : decode cX7_readNet 24 = .ok (.ireturn, 1) := by decide +kernel
theorem dX7_readNet_25 : decode cX7_readNet 25 = .ok (.aload_n 0, 1) := by decide +kernel
theorem dX7_readNet_26 : decode cX7_readNet 26 = .ok (.invokevirtual 220, 3) := by decide +kernel
theorem dX7_readNet_29 : decode cX7_readNet 29 = .ok (.ifCond .ne 10, 3) := by decide +kernel
theorem dX7_readNet_32 : decode cX7_readNet 32 = .ok (.aload_n 0, 1) := by decide +kernel
theorem dX7_readNet_33 : decode cX7_readNet 33 = .ok (.invokevirtual 223, 3) := by decide +kernel
theorem dX7_readNet_36 : decode cX7_readNet 36 = .ok (.ifCond .eq 6, 3) := by decide +kernel
theorem dX7_readNet_39 : decode cX7_readNet 39 = .ok (.bipush (-4), 2) := by decide +kernel
theorem dX7_readNet_41 : decode cX7_readNet 41 = .ok (.ireturn, 1) := by decide +kernel
theorem dX7_readNet_42 : decode cX7_readNet 42 = .ok (.aload_n 0, 1) := by decide +kernel
theorem dX7_readNet_43 : decode cX7_readNet 43 = .ok (.invokevirtual 84, 3) := by decide +kernel
theorem dX7_readNet_46 : decode cX7_readNet 46 = .ok (.aload_n 0, 1) := by decide +kernel
theorem dX7_readNet_47 : decode cX7_readNet 47 = .ok (.getfield 7, 3) := by decide +kernel
theorem dX7_readNet_50 : decode cX7_readNet 50 = .ok (.iconst 0, 1) := by decide +kernel
theorem dX7_readNet_51 : decode cX7_readNet 51 = .ok (.iconst 0, 1) := by decide +kernel
theorem dX7_readNet_52 : decode cX7_readNet 52 = .ok (.iastore, 1) := by decide +kernel
theorem dX7_readNet_53 : decode cX7_readNet 53 = .ok (.aload_n 0, 1) := by decide +kernel
theorem dX7_readNet_54 : decode cX7_readNet 54 = .ok (.getfield 7, 3) := by decide +kernel
theorem dX7_readNet_57 : decode cX7_readNet 57 = .ok (.iconst 1, 1) := by decide +kernel
theorem dX7_readNet_58 : decode cX7_readNet 58 = .ok (.iconst 0, 1) := by decide +kernel
theorem dX7_readNet_59 : decode cX7_readNet 59 = .ok (.iastore, 1) := by decide +kernel
theorem dX7_readNet_60 : decode cX7_readNet 60 = .ok (.iconst 0, 1) := by decide +kernel
theorem dX7_readNet_61 : decode cX7_readNet 61 = .ok (.istore_n 1, 1) := by decide +kernel
theorem dX7_readNet_62 : decode cX7_readNet 62 = .ok (.iload_n 1, 1) := by decide +kernel
theorem dX7_readNet_63 : decode cX7_readNet 63 = .ok (.aload_n 0, 1) := by decide +kernel
theorem dX7_readNet_64 : decode cX7_readNet 64 = .ok (.getfield 201, 3) := by decide +kernel
theorem dX7_readNet_67 : decode cX7_readNet 67 = .ok (.if_icmp .ge 69, 3) := by decide +kernel
theorem dX7_readNet_70 : decode cX7_readNet 70 = .ok (.aload_n 0, 1) := by decide +kernel
theorem dX7_readNet_71 : decode cX7_readNet 71 = .ok (.aload_n 0, 1) := by decide +kernel
theorem dX7_readNet_72 : decode cX7_readNet 72 = .ok (.getfield 29, 3) := by decide +kernel
theorem dX7_readNet_75 : decode cX7_readNet 75 = .ok (.iload_n 1, 1) := by decide +kernel
theorem dX7_readNet_76 : decode cX7_readNet 76 = .ok (.iaload, 1) := by decide +kernel
theorem dX7_readNet_77 : decode cX7_readNet 77 = .ok (.aload_n 0, 1) := by decide +kernel
theorem dX7_readNet_78 : decode cX7_readNet 78 = .ok (.getfield 29, 3) := by decide +kernel
theorem dX7_readNet_81 : decode cX7_readNet 81 = .ok (.iload_n 1, 1) := by decide +kernel
theorem dX7_readNet_82 : decode cX7_readNet 82 = .ok (.iconst 1, 1) := by decide +kernel
theorem dX7_readNet_83 : decode cX7_readNet 83 = .ok (.iadd, 1) := by decide +kernel
theorem dX7_readNet_84 : decode cX7_readNet 84 = .ok (.iaload, 1) := by decide +kernel
theorem dX7_readNet_85 : decode cX7_readNet 85 = .ok (.invokevirtual 115, 3) := by decide +kernel
theorem dX7_readNet_88 : decode cX7_readNet 88 = .ok (.aload_n 0, 1) := by decide +kernel
theorem dX7_readNet_89 : decode cX7_readNet 89 = .ok (.aload_n 0, 1) := by decide +kernel
theorem dX7_readNet_90 : decode cX7_readNet 90 = .ok (.getfield 7, 3) := by decide +kernel
theorem dX7_readNet_93 : decode cX7_readNet 93 = .ok (.iconst 1, 1) := by decide +kernel
theorem dX7_readNet_94 : decode cX7_readNet 94 = .ok (.iaload, 1) := by decide +kernel
theorem dX7_readNet_95 : decode cX7_readNet 95 = .ok (.iconst 1, 1) := by decide +kernel
theorem dX7_readNet_96 : decode cX7_readNet 96 = .ok (.isub, 1) := by decide +kernel
theorem dX7_readNet_97 : decode cX7_readNet 97 = .ok (.iconst 1, 1) := by decide +kernel
theorem dX7_readNet_98 : decode cX7_readNet 98 = .ok (.invokevirtual 56, 3) := by decide +kernel
theorem dX7_readNet_101 : decode cX7_readNet 101 = .ok (.istore_n 2, 1) := by decide +kernel
theorem dX7_readNet_102 : decode cX7_readNet 102 = .ok (.aload_n 0, 1) := by decide +kernel
theorem dX7_readNet_103 : decode cX7_readNet 103 = .ok (.getfield 7, 3) := by decide +kernel
theorem dX7_readNet_106 : decode cX7_readNet 106 = .ok (.iconst 0, 1) := by decide +kernel
theorem dX7_readNet_107 : decode cX7_readNet 107 = .ok (.iload_n 2, 1) := by decide +kernel
theorem dX7_readNet_108 : decode cX7_readNet 108 = .ok (.aload_n 0, 1) := by decide +kernel
theorem dX7_readNet_109 : decode cX7_readNet 109 = .ok (.getfield 7, 3) := by decide +kernel
theorem dX7_readNet_112 : decode cX7_readNet 112 = .ok (.iconst 0, 1) := by decide +kernel
theorem dX7_readNet_113 : decode cX7_readNet 113 = .ok (.iaload, 1) := by decide +kernel
theorem dX7_readNet_114 : decode cX7_readNet 114 = .ok (.if_icmp .lt 9, 3) := by decide +kernel
theorem dX7_readNet_117 : decode cX7_readNet 117 = .ok (.iload_n 2, 1) := by decide +kernel
theorem dX7_readNet_118 : decode cX7_readNet 118 = .ok (.iconst 1, 1) := by decide +kernel
theorem dX7_readNet_119 : decode cX7_readNet 119 = .ok (.iadd, 1) := by decide +kernel
theorem dX7_readNet_120 : decode cX7_readNet 120 = .ok (.goto 9, 3) := by decide +kernel
theorem dX7_readNet_123 : decode cX7_readNet 123 = .ok (.aload_n 0, 1) := by decide +kernel
theorem dX7_readNet_124 : decode cX7_readNet 124 = .ok (.getfield 7, 3) := by decide +kernel
theorem dX7_readNet_127 : decode cX7_readNet 127 = .ok (.iconst 0, 1) := by decide +kernel
theorem dX7_readNet_128 : decode cX7_readNet 128 = .ok (.iaload, 1) := by decide +kernel
theorem dX7_readNet_129 : decode cX7_readNet 129 = .ok (.iastore, 1) := by decide +kernel
theorem dX7_readNet_130 : decode cX7_readNet 130 = .ok (.iinc 1 2, 3) := by decide +kernel
theorem dX7_readNet_133 : decode cX7_readNet 133 = .ok (.goto (-71), 3) := by decide +kernel
theorem dX7_readNet_136 : decode cX7_readNet 136 = .ok (.aload_n 0, 1) := by decide +kernel
theorem dX7_readNet_137 : decode cX7_readNet 137 = .ok (.getfield 7, 3) := by decide +kernel
theorem dX7_readNet_140 : decode cX7_readNet 140 = .ok (.iconst 0, 1) := by decide +kernel
theorem dX7_readNet_141 : decode cX7_readNet 141 = .ok (.iaload, 1) := by decide +kernel
theorem dX7_readNet_142 : decode cX7_readNet 142 = .ok (.ireturn, 1) := by decide +kernel
set_option maxRecDepth 20000 in
theorem ggX7_reach_X7_of : GoodIn wsX7_reach wsX7_of := goodIn_r _ [6, 1, 10, 11, 12, 13, 14, 15, 16, 17, 18, 19, 20, 21, 22, 23, 24, 25, 26, 27, 28, 29] (by decide +kernel) (by decide +kernel)
set_option maxRecDepth 20000 in
theorem gX7_reach_X7_of : GoodIn wsX7_reach (wsV RX7 56 RX7 yX7_of wsX7_of) := goodIn_app (goodIn_of _ (by decide +kernel)) ggX7_reach_X7_of
set_option maxRecDepth 20000 in
theorem ggX7_reach_X7_has : GoodIn wsX7_reach wsX7_has := goodIn_r _ [9] (by decide +kernel) (by decide +kernel)
set_option maxRecDepth 20000 in
theorem gX7_reach_X7_has : GoodIn wsX7_reach (va_wsS RX7 44 yX7_has wsX7_has) := goodIn_app (goodIn_of _ (by decide +kernel)) ggX7_reach_X7_has
theorem dX7_reach_0 : decode cX7_reach 0 = .ok (.iload_n 1, 1) := by decide +kernel
theorem dX7_reach_1 : decode cX7_reach 1 = .ok (.istore_n 3, 1) := by decide +kernel
theorem dX7_reach_2 : decode cX7_reach 2 = .ok (.iconst 0, 1) := by decide +kernel
theorem dX7_reach_3 : decode cX7_reach 3 = .ok (.istore 4, 2) := by decide +kernel
theorem dX7_reach_5 : decode cX7_reach 5 = .ok (.iload 4, 2) := by decide +kernel
theorem dX7_reach_7 : decode cX7_reach 7 = .ok (.aload_n 0, 1) := by decide +kernel
theorem dX7_reach_8 : decode cX7_reach 8 = .ok (.getfield 7, 3) := by decide +kernel
theorem dX7_reach_11 : decode cX7_reach 11 = .ok (.iconst 1, 1) := by decide +kernel
theorem dX7_reach_12 : decode cX7_reach 12 = .ok (.iaload, 1) := by decide +kernel
theorem dX7_reach_13 : decode cX7_reach 13 = .ok (.if_icmp .ge 81, 3) := by decide +kernel
theorem dX7_reach_16 : decode cX7_reach 16 = .ok (.iload 4, 2) := by decide +kernel
theorem dX7_reach_18 : decode cX7_reach 18 = .ok (.iload_n 2, 1) := by decide +kernel
theorem dX7_reach_19 : decode cX7_reach 19 = .ok (.if_icmp .eq 35, 3) := by decide +kernel
theorem dX7_reach_22 : decode cX7_reach 22 = .ok (.iload_n 1, 1) := by decide +kernel
theorem dX7_reach_23 : decode cX7_reach 23 = .ok (.aload_n 0, 1) := by decide +kernel
theorem dX7_reach_24 : decode cX7_reach 24 = .ok (.iload 4, 2) := by decide +kernel
theorem dX7_reach_26 : decode cX7_reach 26 = .ok (.iconst 0, 1) := by decide +kernel
theorem dX7_reach_27 : decode cX7_reach 27 = .ok (.invokevirtual 56, 3) := by decide +kernel
theorem dX7_reach_30 : decode cX7_reach 30 = .ok (.invokestatic 44, 3) := by decide +kernel
theorem dX7_reach_33 : decode cX7_reach 33 = .ok (.ifCond .ne 17, 3) := by decide +kernel
theorem dX7_reach_36 : decode cX7_reach 36 = .ok (.iload_n 1, 1) := by decide +kernel
theorem dX7_reach_37 : decode cX7_reach 37 = .ok (.aload_n 0, 1) := by decide +kernel
theorem dX7_reach_38 : decode cX7_reach 38 = .ok (.iload 4, 2) := by decide +kernel
theorem dX7_reach_40 : decode cX7_reach 40 = .ok (.iconst 1, 1) := by decide +kernel
theorem dX7_reach_41 : decode cX7_reach 41 = .ok (.invokevirtual 56, 3) := by decide +kernel
theorem dX7_reach_44 : decode cX7_reach 44 = .ok (.invokestatic 44, 3) := by decide +kernel
theorem dX7_reach_47 : decode cX7_reach 47 = .ok (.ifCond .eq 7, 3) := by decide +kernel
theorem dX7_reach_50 : decode cX7_reach 50 = .ok (.iconst 1, 1) := by decide +kernel
theorem dX7_reach_51 : decode cX7_reach 51 = .ok (.goto 4, 3) := by decide +kernel
theorem dX7_reach_54 : decode cX7_reach 54 = .ok (.iconst 0, 1) := by decide +kernel
theorem dX7_reach_55 : decode cX7_reach 55 = .ok (.istore 5, 2) := by decide +kernel
theorem dX7_reach_57 : decode cX7_reach 57 = .ok (.iload_n 3, 1) := by decide +kernel
theorem dX7_reach_58 : decode cX7_reach 58 = .ok (.iload 5, 2) := by decide +kernel
theorem dX7_reach_60 : decode cX7_reach 60 = .ok (.ifCond .eq 25, 3) := by decide +kernel
theorem dX7_reach_63 : decode cX7_reach 63 = .ok (.iconst 1, 1) := by decide +kernel
theorem dX7_reach_64 : decode cX7_reach 64 = .ok (.aload_n 0, 1) := by decide +kernel
theorem dX7_reach_65 : decode cX7_reach 65 = .ok (.iload 4, 2) := by decide +kernel
theorem dX7_reach_67 : decode cX7_reach 67 = .ok (.iconst 0, 1) := by decide +kernel
theorem dX7_reach_68 : decode cX7_reach 68 = .ok (.invokevirtual 56, 3) := by decide +kernel
theorem dX7_reach_71 : decode cX7_reach 71 = .ok (.ishl, 1) := by decide +kernel
theorem dX7_reach_72 : decode cX7_reach 72 = .ok (.iconst 1, 1) := by decide +kernel
theorem dX7_reach_73 : decode cX7_reach 73 = .ok (.aload_n 0, 1) := by decide +kernel
theorem dX7_reach_74 : decode cX7_reach 74 = .ok (.iload 4, 2) := by decide +kernel
theorem dX7_reach_76 : decode cX7_reach 76 = .ok (.iconst 1, 1) := by decide +kernel
theorem dX7_reach_77 : decode cX7_reach 77 = .ok (.invokevirtual 56, 3) := by decide +kernel
theorem dX7_reach_80 : decode cX7_reach 80 = .ok (.ishl, 1) := by decide +kernel
theorem dX7_reach_81 : decode cX7_reach 81 = .ok (.ior, 1) := by decide +kernel
theorem dX7_reach_82 : decode cX7_reach 82 = .ok (.goto 4, 3) := by decide +kernel
theorem dX7_reach_85 : decode cX7_reach 85 = .ok (.iconst 0, 1) := by decide +kernel
theorem dX7_reach_86 : decode cX7_reach 86 = .ok (.ior, 1) := by decide +kernel
theorem dX7_reach_87 : decode cX7_reach 87 = .ok (.istore_n 3, 1) := by decide +kernel
theorem dX7_reach_88 : decode cX7_reach 88 = .ok (.iinc 4 1, 3) := by decide +kernel
theorem dX7_reach_91 : decode cX7_reach 91 = .ok (.goto (-86), 3) := by decide +kernel
theorem dX7_reach_94 : decode cX7_reach 94 = .ok (.iload_n 3, 1) := by decide +kernel
theorem dX7_reach_95 : decode cX7_reach 95 = .ok (.ireturn, 1) := by decide +kernel
set_option maxRecDepth 20000 in
theorem ggX7_round_X7_of : GoodIn wsX7_round wsX7_of := goodIn_r _ [5, 6, 14, 15, 16, 17, 18, 19, 20, 21, 22, 23, 24, 25, 26, 27, 28, 29, 30, 31, 32, 33] (by decide +kernel) (by decide +kernel)
set_option maxRecDepth 20000 in
theorem gX7_round_X7_of : GoodIn wsX7_round (wsV RX7 56 RX7 yX7_of wsX7_of) := goodIn_app (goodIn_of _ (by decide +kernel)) ggX7_round_X7_of
set_option maxRecDepth 20000 in
theorem ggX7_round_X7_has : GoodIn wsX7_round wsX7_has := goodIn_r _ [9] (by decide +kernel) (by decide +kernel)
set_option maxRecDepth 20000 in
theorem gX7_round_X7_has : GoodIn wsX7_round (va_wsS RX7 44 yX7_has wsX7_has) := goodIn_app (goodIn_of _ (by decide +kernel)) ggX7_round_X7_has
set_option maxRecDepth 20000 in
theorem ggX7_round_X7_reach : GoodIn wsX7_round wsX7_reach := goodIn_r _ [13, 6, 1, 2, 3, 4, 5, 7, 8, 9, 14, 15, 16, 17, 18, 19, 20, 21, 22, 23, 24, 25, 26, 27, 28, 29, 30, 31, 32, 33] (by decide +kernel) (by decide +kernel)
set_option maxRecDepth 20000 in
theorem gX7_round_X7_reach : GoodIn wsX7_round (wsV RX7 226 RX7 yX7_reach wsX7_reach) := goodIn_app (goodIn_of _ (by decide +kernel)) ggX7_round_X7_reach
theorem dX7_round_0 : decode cX7_round 0 = .ok (.iconst 1, 1) := by decide +kernel
theorem dX7_round_1 : decode cX7_round 1 = .ok (.aload_n 0, 1) := by decide +kernel
theorem dX7_round_2 : decode cX7_round 2 = .ok (.iload_n 1, 1) := by decide +kernel
theorem dX7_round_3 : decode cX7_round 3 = .ok (.iconst 0, 1) := by decide +kernel
theorem dX7_round_4 : decode cX7_round 4 = .ok (.invokevirtual 56, 3) := by decide +kernel
theorem dX7_round_7 : decode cX7_round 7 = .ok (.ishl, 1) := by decide +kernel
theorem dX7_round_8 : decode cX7_round 8 = .ok (.istore_n 2, 1) := by decide +kernel
theorem dX7_round_9 : decode cX7_round 9 = .ok (.iconst 1, 1) := by decide +kernel
theorem dX7_round_10 : decode cX7_round 10 = .ok (.istore_n 3, 1) := by decide +kernel
theorem dX7_round_11 : decode cX7_round 11 = .ok (.iload_n 2, 1) := by decide +kernel
theorem dX7_round_12 : decode cX7_round 12 = .ok (.aload_n 0, 1) := by decide +kernel
theorem dX7_round_13 : decode cX7_round 13 = .ok (.iload_n 1, 1) := by decide +kernel
theorem dX7_round_14 : decode cX7_round 14 = .ok (.iconst 1, 1) := by decide +kernel
theorem dX7_round_15 : decode cX7_round 15 = .ok (.invokevirtual 56, 3) := by decide +kernel
theorem dX7_round_18 : decode cX7_round 18 = .ok (.invokestatic 44, 3) := by decide +kernel
theorem dX7_round_21 : decode cX7_round 21 = .ok (.ifCond .ne 29, 3) := by decide +kernel
theorem dX7_round_24 : decode cX7_round 24 = .ok (.aload_n 0, 1) := by decide +kernel
theorem dX7_round_25 : decode cX7_round 25 = .ok (.iload_n 2, 1) := by decide +kernel
theorem dX7_round_26 : decode cX7_round 26 = .ok (.iload_n 1, 1) := by decide +kernel
theorem dX7_round_27 : decode cX7_round 27 = .ok (.invokevirtual 226, 3) := by decide +kernel
theorem dX7_round_30 : decode cX7_round 30 = .ok (.istore 4, 2) := by decide +kernel
theorem dX7_round_32 : decode cX7_round 32 = .ok (.iload 4, 2) := by decide +kernel
theorem dX7_round_34 : decode cX7_round 34 = .ok (.iload_n 2, 1) := by decide +kernel
theorem dX7_round_35 : decode cX7_round 35 = .ok (.if_icmp .ne 6, 3) := by decide +kernel
theorem dX7_round_38 : decode cX7_round 38 = .ok (.bipush (-5), 2) := by decide +kernel
theorem dX7_round_40 : decode cX7_round 40 = .ok (.ireturn, 1) := by decide +kernel
theorem dX7_round_41 : decode cX7_round 41 = .ok (.iload 4, 2) := by decide +kernel
theorem dX7_round_43 : decode cX7_round 43 = .ok (.istore_n 2, 1) := by decide +kernel
theorem dX7_round_44 : decode cX7_round 44 = .ok (.iinc 3 1, 3) := by decide +kernel
theorem dX7_round_47 : decode cX7_round 47 = .ok (.goto (-36), 3) := by decide +kernel
theorem dX7_round_50 : decode cX7_round 50 = .ok (.iload_n 3, 1) := by decide +kernel
theorem dX7_round_51 : decode cX7_round 51 = .ok (.ireturn, 1) := by decide +kernel
set_option maxRecDepth 20000 in
theorem ggX7_shortest_X7_has : GoodIn wsX7_shortest wsX7_has := goodIn_r _ [5] (by decide +kernel) (by decide +kernel)
set_option maxRecDepth 20000 in
theorem gX7_shortest_X7_has : GoodIn wsX7_shortest (va_wsS RX7 44 yX7_has wsX7_has) := goodIn_app (goodIn_of _ (by decide +kernel)) ggX7_shortest_X7_has
set_option maxRecDepth 20000 in
theorem ggX7_shortest_X7_round : GoodIn wsX7_shortest wsX7_round := goodIn_r _ [9, 10, 11, 12, 4, 13, 1, 2, 3, 5, 14, 15, 16, 17, 18, 19, 20, 21, 22, 23, 24, 25, 26, 27, 28, 29, 30, 31, 32, 33, 34, 35, 36, 37] (by decide +kernel) (by decide +kernel)
set_option maxRecDepth 20000 in
theorem gX7_shortest_X7_round : GoodIn wsX7_shortest (wsV RX7 229 RX7 yX7_round wsX7_round) := goodIn_app (goodIn_of _ (by decide +kernel)) ggX7_shortest_X7_round
theorem dX7_shortest_0 : decode cX7_shortest 0 = .ok (.bipush (-5), 2) := by decide +kernel
theorem dX7_shortest_2 : decode cX7_shortest 2 = .ok (.istore_n 2, 1) := by decide +kernel
theorem dX7_shortest_3 : decode cX7_shortest 3 = .ok (.iconst 0, 1) := by decide +kernel
theorem dX7_shortest_4 : decode cX7_shortest 4 = .ok (.istore_n 3, 1) := by decide +kernel
theorem dX7_shortest_5 : decode cX7_shortest 5 = .ok (.iload_n 3, 1) := by decide +kernel
theorem dX7_shortest_6 : decode cX7_shortest 6 = .ok (.aload_n 0, 1) := by decide +kernel
theorem dX7_shortest_7 : decode cX7_shortest 7 = .ok (.getfield 7, 3) := by decide +kernel
theorem dX7_shortest_10 : decode cX7_shortest 10 = .ok (.iconst 1, 1) := by decide +kernel
theorem dX7_shortest_11 : decode cX7_shortest 11 = .ok (.iaload, 1) := by decide +kernel
theorem dX7_shortest_12 : decode cX7_shortest 12 = .ok (.if_icmp .ge 51, 3) := by decide +kernel
theorem dX7_shortest_15 : decode cX7_shortest 15 = .ok (.iload_n 1, 1) := by decide +kernel
theorem dX7_shortest_16 : decode cX7_shortest 16 = .ok (.iload_n 3, 1) := by decide +kernel
theorem dX7_shortest_17 : decode cX7_shortest 17 = .ok (.invokestatic 44, 3) := by decide +kernel
theorem dX7_shortest_20 : decode cX7_shortest 20 = .ok (.ifCond .eq 11, 3) := by decide +kernel
theorem dX7_shortest_23 : decode cX7_shortest 23 = .ok (.aload_n 0, 1) := by decide +kernel
theorem dX7_shortest_24 : decode cX7_shortest 24 = .ok (.iload_n 3, 1) := by decide +kernel
theorem dX7_shortest_25 : decode cX7_shortest 25 = .ok (.invokevirtual 229, 3) := by decide +kernel
theorem dX7_shortest_28 : decode cX7_shortest 28 = .ok (.goto 5, 3) := by decide +kernel
theorem dX7_shortest_31 : decode cX7_shortest 31 = .ok (.bipush (-5), 2) := by decide +kernel
theorem dX7_shortest_33 : decode cX7_shortest 33 = .ok (.istore 4, 2) := by decide +kernel
theorem dX7_shortest_35 : decode cX7_shortest 35 = .ok (.iload 4, 2) := by decide +kernel
theorem dX7_shortest_37 : decode cX7_shortest 37 = .ok (.ifCond .le 18, 3) := by decide +kernel
theorem dX7_shortest_40 : decode cX7_shortest 40 = .ok (.iload_n 2, 1) := by decide +kernel
theorem dX7_shortest_41 : decode cX7_shortest 41 = .ok (.ifCond .lt 9, 3) := by decide +kernel
theorem dX7_shortest_44 : decode cX7_shortest 44 = .ok (.iload 4, 2) := by decide +kernel
theorem dX7_shortest_46 : decode cX7_shortest 46 = .ok (.iload_n 2, 1) := by decide +kernel
theorem dX7_shortest_47 : decode cX7_shortest 47 = .ok (.if_icmp .ge 8, 3) := by decide +kernel
theorem dX7_shortest_50 : decode cX7_shortest 50 = .ok (.iload 4, 2) := by decide +kernel
theorem dX7_shortest_52 : decode cX7_shortest 52 = .ok (.goto 4, 3) := by decide +kernel
theorem dX7_shortest_55 : decode cX7_shortest 55 = .ok (.iload_n 2, 1) := by decide +kernel
theorem dX7_shortest_56 : decode cX7_shortest 56 = .ok (.istore_n 2, 1) := by decide +kernel
theorem dX7_shortest_57 : decode cX7_shortest 57 = .ok (.iinc 3 1, 3) := by decide +kernel
theorem dX7_shortest_60 : decode cX7_shortest 60 = .ok (.goto (-55), 3) := by decide +kernel
theorem dX7_shortest_63 : decode cX7_shortest 63 = .ok (.iload_n 2, 1) := by decide +kernel
theorem dX7_shortest_64 : decode cX7_shortest 64 = .ok (.ireturn, 1) := by decide +kernel
set_option maxRecDepth 20000 in
theorem ggX7_partOf_X7_reach : GoodIn wsX7_partOf wsX7_reach := goodIn_r _ [5, 6, 7, 8, 9, 4, 10, 11, 12, 13, 14, 15, 16, 17, 18, 19, 20, 21, 22, 23, 24, 25, 26, 27, 28, 29, 30, 31, 32, 33] (by decide +kernel) (by decide +kernel)
set_option maxRecDepth 20000 in
theorem gX7_partOf_X7_reach : GoodIn wsX7_partOf (wsV RX7 226 RX7 yX7_reach wsX7_reach) := goodIn_app (goodIn_of _ (by decide +kernel)) ggX7_partOf_X7_reach
theorem dX7_partOf_0 : decode cX7_partOf 0 = .ok (.iconst 1, 1) := by decide +kernel
theorem dX7_partOf_1 : decode cX7_partOf 1 = .ok (.iload_n 1, 1) := by decide +kernel
theorem dX7_partOf_2 : decode cX7_partOf 2 = .ok (.ishl, 1) := by decide +kernel
theorem dX7_partOf_3 : decode cX7_partOf 3 = .ok (.istore_n 2, 1) := by decide +kernel
theorem dX7_partOf_4 : decode cX7_partOf 4 = .ok (.aload_n 0, 1) := by decide +kernel
theorem dX7_partOf_5 : decode cX7_partOf 5 = .ok (.iload_n 2, 1) := by decide +kernel
theorem dX7_partOf_6 : decode cX7_partOf 6 = .ok (.bipush (-5), 2) := by decide +kernel
theorem dX7_partOf_8 : decode cX7_partOf 8 = .ok (.invokevirtual 226, 3) := by decide +kernel
theorem dX7_partOf_11 : decode cX7_partOf 11 = .ok (.istore_n 3, 1) := by decide +kernel
theorem dX7_partOf_12 : decode cX7_partOf 12 = .ok (.iload_n 3, 1) := by decide +kernel
theorem dX7_partOf_13 : decode cX7_partOf 13 = .ok (.iload_n 2, 1) := by decide +kernel
theorem dX7_partOf_14 : decode cX7_partOf 14 = .ok (.if_icmp .eq 16, 3) := by decide +kernel
theorem dX7_partOf_17 : decode cX7_partOf 17 = .ok (.iload_n 3, 1) := by decide +kernel
theorem dX7_partOf_18 : decode cX7_partOf 18 = .ok (.istore_n 2, 1) := by decide +kernel
theorem dX7_partOf_19 : decode cX7_partOf 19 = .ok (.aload_n 0, 1) := by decide +kernel
theorem dX7_partOf_20 : decode cX7_partOf 20 = .ok (.iload_n 2, 1) := by decide +kernel
theorem dX7_partOf_21 : decode cX7_partOf 21 = .ok (.bipush (-5), 2) := by decide +kernel
theorem dX7_partOf_23 : decode cX7_partOf 23 = .ok (.invokevirtual 226, 3) := by decide +kernel
theorem dX7_partOf_26 : decode cX7_partOf 26 = .ok (.istore_n 3, 1) := by decide +kernel
theorem dX7_partOf_27 : decode cX7_partOf 27 = .ok (.goto (-15), 3) := by decide +kernel
theorem dX7_partOf_30 : decode cX7_partOf 30 = .ok (.iload_n 2, 1) := by decide +kernel
