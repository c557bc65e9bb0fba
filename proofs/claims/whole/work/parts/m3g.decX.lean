theorem dX6_paintings_66 : decode cX6_paintings 66 = .ok (.getfield 12, 3) := by decide +kernel
theorem dX6_paintings_69 : decode cX6_paintings 69 = .ok (.iconst 0, 1) := by decide +kernel
theorem dX6_paintings_70 : decode cX6_paintings 70 = .ok (.invokevirtual 226, 3) := by decide +kernel
theorem dX6_paintings_73 : decode cX6_paintings 73 = .ok (.ireturn, 1) := by decide +kernel
theorem dX6_paintings_74 : decode cX6_paintings 74 = .ok (.bipush (-2), 2) := by decide +kernel
theorem dX6_paintings_76 : decode cX6_paintings 76 = .ok (.ireturn, 1) := by decide +kernel
set_option maxRecDepth 20000 in
theorem ggX6_firstPainting_X2_hasThread : GoodIn wsX6_firstPainting wsX2_hasThread := goodIn_r _ [7, 8, 139, 140, 141, 142] (by decide +kernel) (by decide +kernel)
set_option maxRecDepth 20000 in
theorem gX6_firstPainting_X2_hasThread : GoodIn wsX6_firstPainting (wsV RX6 94 RX2 yX2_hasThread wsX2_hasThread) := goodIn_app (goodIn_of _ (by decide +kernel)) ggX6_firstPainting_X2_hasThread
set_option maxRecDepth 20000 in
theorem ggX6_firstPainting_X3_findFirst : GoodIn wsX6_firstPainting wsX3_findFirst := goodIn_r _ [13, 14, 15, 16, 17, 12, 18, 19, 20, 21, 6, 22, 8, 23, 24, 25, 26, 27, 28, 29, 30, 31, 32, 33, 34, 35, 36, 37, 38, 39, 40, 41, 42, 43, 44, 45, 46, 47, 48, 49, 50, 51, 52, 53, 54, 55, 56, 57, 58, 59, 60, 61, 62, 63, 64, 65, 66, 67, 68, 69, 70, 71, 72, 73, 74, 75, 76, 77, 78, 79, 80, 81, 82, 83, 84, 85, 86, 87, 88, 89, 90, 91, 92, 93, 94, 95, 96, 97, 98, 99, 100, 101, 102, 103, 104, 105, 106, 107, 108, 109, 110, 111, 112, 113, 114, 115, 116, 117, 118, 119, 120, 121, 122, 123, 124, 125, 126, 143, 144, 145, 146, 147, 148, 149, 150, 139, 140, 141, 142] (by decide +kernel) (by decide +kernel)
set_option maxRecDepth 20000 in
theorem gX6_firstPainting_X3_findFirst : GoodIn wsX6_firstPainting (wsV RX6 154 RX3 yX3_findFirst wsX3_findFirst) := goodIn_app (goodIn_of _ (by decide +kernel)) ggX6_firstPainting_X3_findFirst
set_option maxRecDepth 20000 in
theorem ggX6_firstPainting_X3_foundColour : GoodIn wsX6_firstPainting wsX3_foundColour := goodIn_r _ [130, 15, 28, 29, 30, 143, 144, 145, 146, 147, 148, 149, 150] (by decide +kernel) (by decide +kernel)
set_option maxRecDepth 20000 in
theorem gX6_firstPainting_X3_foundColour : GoodIn wsX6_firstPainting (wsV RX6 158 RX3 yX3_foundColour wsX3_foundColour) := goodIn_app (goodIn_of _ (by decide +kernel)) ggX6_firstPainting_X3_foundColour
theorem dX6_firstPainting_0 : decode cX6_firstPainting 0 = .ok (.aload_n 0, 1) := by decide +kernel
theorem dX6_firstPainting_1 : decode cX6_firstPainting 1 = .ok (.getfield 12, 3) := by decide +kernel
theorem dX6_firstPainting_4 : decode cX6_firstPainting 4 = .ok (.iload_n 1, 1) := by decide +kernel
theorem dX6_firstPainting_5 : decode cX6_firstPainting 5 = .ok (.invokevirtual 94, 3) := by decide +kernel
theorem dX6_firstPainting_8 : decode cX6_firstPainting 8 = .ok (.ifCond .ne 5, 3) := by decide +kernel
theorem dX6_firstPainting_11 : decode cX6_firstPainting 11 = .ok (.iconst (-1), 1) := by decide +kernel
theorem dX6_firstPainting_12 : decode cX6_firstPainting 12 = .ok (.ireturn, 1) := by decide +kernel
theorem dX6_firstPainting_13 : decode cX6_firstPainting 13 = .ok (.aload_n 0, 1) := by decide +kernel
theorem dX6_firstPainting_14 : decode cX6_firstPainting 14 = .ok (.getfield 43, 3) := by decide +kernel
theorem dX6_firstPainting_17 : decode cX6_firstPainting 17 = .ok (.aload_n 0, 1) := by decide +kernel
theorem dX6_firstPainting_18 : decode cX6_firstPainting 18 = .ok (.getfield 12, 3) := by decide +kernel
theorem dX6_firstPainting_21 : decode cX6_firstPainting 21 = .ok (.iconst 0, 1) := by decide +kernel
theorem dX6_firstPainting_22 : decode cX6_firstPainting 22 = .ok (.invokevirtual 154, 3) := by decide +kernel
theorem dX6_firstPainting_25 : decode cX6_firstPainting 25 = .ok (.ifCond .eq 14, 3) := by decide +kernel
theorem dX6_firstPainting_28 : decode cX6_firstPainting 28 = .ok (.aload_n 0, 1) := by decide +kernel
theorem dX6_firstPainting_29 : decode cX6_firstPainting 29 = .ok (.getfield 43, 3) := by decide +kernel
theorem dX6_firstPainting_32 : decode cX6_firstPainting 32 = .ok (.iload_n 1, 1) := by decide +kernel
theorem dX6_firstPainting_33 : decode cX6_firstPainting 33 = .ok (.invokevirtual 158, 3) := by decide +kernel
theorem dX6_firstPainting_36 : decode cX6_firstPainting 36 = .ok (.goto 5, 3) := by decide +kernel
theorem dX6_firstPainting_39 : decode cX6_firstPainting 39 = .ok (.bipush (-5), 2) := by decide +kernel
theorem dX6_firstPainting_41 : decode cX6_firstPainting 41 = .ok (.ireturn, 1) := by decide +kernel
set_option maxRecDepth 20000 in
theorem ggX6_takingOut_X3_firstLeastSet : GoodIn wsX6_takingOut wsX3_firstLeastSet := goodIn_r _ [7, 8, 9, 10, 11, 12, 13, 14, 15, 16, 17, 18, 19, 20, 6, 21, 22, 23, 24, 25, 26, 27, 28, 29, 30, 31, 32, 33, 34, 35, 36, 37, 38, 39, 40, 41, 42, 43, 44, 45, 46, 47, 48, 49, 50, 51, 52, 53, 54, 55, 56, 57, 58, 59, 60, 61, 62, 63, 64, 65, 66, 67, 68, 69, 70, 71, 72, 73, 74, 75, 76, 77, 78, 79, 80, 81, 82, 83, 84, 85, 86, 87, 88, 89, 90, 91, 92, 93, 94, 95, 96, 97, 98, 99, 100, 101, 102, 103, 113, 114, 115, 116, 117, 118, 119, 120, 121, 122, 123, 124] (by decide +kernel) (by decide +kernel)
set_option maxRecDepth 20000 in
theorem gX6_takingOut_X3_firstLeastSet : GoodIn wsX6_takingOut (wsV RX6 230 RX3 yX3_firstLeastSet wsX3_firstLeastSet) := goodIn_app (goodIn_of _ (by decide +kernel)) ggX6_takingOut_X3_firstLeastSet
set_option maxRecDepth 20000 in
theorem ggX6_takingOut_J6_bitCount_0f7a4 : GoodIn wsX6_takingOut wsJ6_bitCount_0f7a4 := goodIn_r _ [60, 61, 62, 63] (by decide +kernel) (by decide +kernel)
set_option maxRecDepth 20000 in
theorem gX6_takingOut_J6_bitCount_0f7a4 : GoodIn wsX6_takingOut (va_wsS RX6 146 yJ6_bitCount_0f7a4 wsJ6_bitCount_0f7a4) := goodIn_app (goodIn_of _ (by decide +kernel)) ggX6_takingOut_J6_bitCount_0f7a4
theorem dX6_takingOut_0 : decode cX6_takingOut 0 = .ok (.iload_n 1, 1) := by decide +kernel
theorem dX6_takingOut_1 : decode cX6_takingOut 1 = .ok (.ifCond .eq 11, 3) := by decide +kernel
theorem dX6_takingOut_4 : decode cX6_takingOut 4 = .ok (.iload_n 1, 1) := by decide +kernel
theorem dX6_takingOut_5 : decode cX6_takingOut 5 = .ok (.iconst 1, 1) := by decide +kernel
theorem dX6_takingOut_6 : decode cX6_takingOut 6 = .ok (.if_icmp .eq 6, 3) := by decide +kernel
theorem dX6_takingOut_9 : decode cX6_takingOut 9 = .ok (.bipush (-2), 2) := by decide +kernel
theorem dX6_takingOut_11 : decode cX6_takingOut 11 = .ok (.ireturn, 1) := by decide +kernel
theorem dX6_takingOut_12 : decode cX6_takingOut 12 = .ok (.aload_n 0, 1) := by decide +kernel
theorem dX6_takingOut_13 : decode cX6_takingOut 13 = .ok (.getfield 43, 3) := by decide +kernel
theorem dX6_takingOut_16 : decode cX6_takingOut 16 = .ok (.aload_n 0, 1) := by decide +kernel
theorem dX6_takingOut_17 : decode cX6_takingOut 17 = .ok (.getfield 12, 3) := by decide +kernel
theorem dX6_takingOut_20 : decode cX6_takingOut 20 = .ok (.invokevirtual 230, 3) := by decide +kernel
theorem dX6_takingOut_23 : decode cX6_takingOut 23 = .ok (.istore_n 2, 1) := by decide +kernel
theorem dX6_takingOut_24 : decode cX6_takingOut 24 = .ok (.iload_n 1, 1) := by decide +kernel
theorem dX6_takingOut_25 : decode cX6_takingOut 25 = .ok (.ifCond .ne 10, 3) := by decide +kernel
theorem dX6_takingOut_28 : decode cX6_takingOut 28 = .ok (.iload_n 2, 1) := by decide +kernel
theorem dX6_takingOut_29 : decode cX6_takingOut 29 = .ok (.invokestatic 146, 3) := by decide +kernel
theorem dX6_takingOut_32 : decode cX6_takingOut 32 = .ok (.goto 4, 3) := by decide +kernel
theorem dX6_takingOut_35 : decode cX6_takingOut 35 = .ok (.iload_n 2, 1) := by decide +kernel
theorem dX6_takingOut_36 : decode cX6_takingOut 36 = .ok (.ireturn, 1) := by decide +kernel
set_option maxRecDepth 20000 in
theorem ggX6_cover_X0_list : GoodIn wsX6_cover wsX0_list := goodIn_r _ [7, 8, 9, 10, 11, 12, 13, 14, 15, 16, 17, 18, 19, 20, 21, 22, 23, 24, 25, 26, 27, 28, 29, 30, 31, 32, 33, 34, 6, 35, 36, 37, 38, 39, 40, 57, 58, 59, 60, 61, 62, 63, 64, 65, 66] (by decide +kernel) (by decide +kernel)
set_option maxRecDepth 20000 in
theorem gX6_cover_X0_list : GoodIn wsX6_cover (wsV RX6 211 RX0 yX0_list wsX0_list) := goodIn_app (goodIn_of _ (by decide +kernel)) ggX6_cover_X0_list
set_option maxRecDepth 20000 in
theorem ggX6_cover_X0_size : GoodIn wsX6_cover wsX0_size := goodIn_r _ [44, 8, 57, 58, 59, 60, 61, 62] (by decide +kernel) (by decide +kernel)
set_option maxRecDepth 20000 in
theorem gX6_cover_X0_size : GoodIn wsX6_cover (wsV RX6 234 RX0 yX0_size wsX0_size) := goodIn_app (goodIn_of _ (by decide +kernel)) ggX6_cover_X0_size
set_option maxRecDepth 20000 in
theorem ggX6_cover_X0_get : GoodIn wsX6_cover wsX0_get := goodIn_r _ [48, 40, 24, 17, 25, 57, 58, 59, 60, 61, 62] (by decide +kernel) (by decide +kernel)
set_option maxRecDepth 20000 in
theorem gX6_cover_X0_get : GoodIn wsX6_cover (wsV RX6 235 RX0 yX0_get wsX0_get) := goodIn_app (goodIn_of _ (by decide +kernel)) ggX6_cover_X0_get
theorem dX6_cover_0 : decode cX6_cover 0 = .ok (.iload_n 1, 1) := by decide +kernel
theorem dX6_cover_1 : decode cX6_cover 1 = .ok (.ifCond .ge 6, 3) := by decide +kernel
theorem dX6_cover_4 : decode cX6_cover 4 = .ok (.bipush (-2), 2) := by decide +kernel
theorem dX6_cover_6 : decode cX6_cover 6 = .ok (.ireturn, 1) := by decide +kernel
theorem dX6_cover_7 : decode cX6_cover 7 = .ok (.aload_n 0, 1) := by decide +kernel
theorem dX6_cover_8 : decode cX6_cover 8 = .ok (.getfield 50, 3) := by decide +kernel
theorem dX6_cover_11 : decode cX6_cover 11 = .ok (.aload_n 0, 1) := by decide +kernel
theorem dX6_cover_12 : decode cX6_cover 12 = .ok (.getfield 12, 3) := by decide +kernel
theorem dX6_cover_15 : decode cX6_cover 15 = .ok (.invokevirtual 211, 3) := by decide +kernel
theorem dX6_cover_18 : decode cX6_cover 18 = .ok (.iload_n 1, 1) := by decide +kernel
theorem dX6_cover_19 : decode cX6_cover 19 = .ok (.aload_n 0, 1) := by decide +kernel
theorem dX6_cover_20 : decode cX6_cover 20 = .ok (.getfield 50, 3) := by decide +kernel
theorem dX6_cover_23 : decode cX6_cover 23 = .ok (.invokevirtual 234, 3) := by decide +kernel
theorem dX6_cover_26 : decode cX6_cover 26 = .ok (.if_icmp .ge 14, 3) := by decide +kernel
theorem dX6_cover_29 : decode cX6_cover 29 = .ok (.aload_n 0, 1) := by decide +kernel
theorem dX6_cover_30 : decode cX6_cover 30 = .ok (.getfield 50, 3) := by decide +kernel
theorem dX6_cover_33 : decode cX6_cover 33 = .ok (.iload_n 1, 1) := by decide +kernel
theorem dX6_cover_34 : decode cX6_cover 34 = .ok (.invokevirtual 235, 3) := by decide +kernel
theorem dX6_cover_37 : decode cX6_cover 37 = .ok (.goto 5, 3) := by decide +kernel
theorem dX6_cover_40 : decode cX6_cover 40 = .ok (.bipush (-5), 2) := by decide +kernel
theorem dX6_cover_42 : decode cX6_cover 42 = .ok (.ireturn, 1) := by decide +kernel
set_option maxRecDepth 20000 in
theorem ggX6_circles_X2_isFull : GoodIn wsX6_circles wsX2_isFull := goodIn_r _ [7, 8, 9, 10, 11, 6, 12, 13, 14, 15, 16, 17, 18, 19, 20, 21, 22, 23, 24, 25, 26, 27, 28, 29, 30, 31, 32, 33, 34, 120, 121, 122, 123] (by decide +kernel) (by decide +kernel)
set_option maxRecDepth 20000 in
theorem gX6_circles_X2_isFull : GoodIn wsX6_circles (wsV RX6 238 RX2 yX2_isFull wsX2_isFull) := goodIn_app (goodIn_of _ (by decide +kernel)) ggX6_circles_X2_isFull
set_option maxRecDepth 20000 in
theorem ggX6_circles_X0_list : GoodIn wsX6_circles wsX0_list := goodIn_r _ [39, 40, 41, 42, 43, 44, 6, 45, 20, 46, 14, 47, 48, 22, 23, 24, 25, 26, 27, 49, 50, 51, 52, 8, 13, 15, 53, 54, 38, 55, 56, 57, 58, 59, 60, 124, 125, 126, 127, 128, 129, 120, 121, 122, 123] (by decide +kernel) (by decide +kernel)
set_option maxRecDepth 20000 in
theorem gX6_circles_X0_list : GoodIn wsX6_circles (wsV RX6 211 RX0 yX0_list wsX0_list) := goodIn_app (goodIn_of _ (by decide +kernel)) ggX6_circles_X0_list
set_option maxRecDepth 20000 in
theorem ggX6_circles_X0_size : GoodIn wsX6_circles wsX0_size := goodIn_r _ [64, 40, 124, 125, 126, 127, 128, 129] (by decide +kernel) (by decide +kernel)
set_option maxRecDepth 20000 in
theorem gX6_circles_X0_size : GoodIn wsX6_circles (wsV RX6 234 RX0 yX0_size wsX0_size) := goodIn_app (goodIn_of _ (by decide +kernel)) ggX6_circles_X0_size
set_option maxRecDepth 20000 in
theorem ggX6_circles_X0_leave : GoodIn wsX6_circles wsX0_leave := goodIn_r _ [68, 69, 70, 71, 72, 73, 74, 75, 76, 77, 78, 6, 79, 20, 13, 14, 15, 80, 81, 82, 38, 83, 60, 26, 27, 49, 50, 51, 52, 8, 84, 85, 86, 87, 88, 89, 90, 91, 92, 93, 94, 95, 96, 97, 43, 44, 45, 98, 22, 23, 24, 25, 99, 29, 30, 31, 32, 33, 34, 124, 125, 126, 127, 128, 129, 120, 121, 122, 123] (by decide +kernel) (by decide +kernel)
set_option maxRecDepth 20000 in
theorem gX6_circles_X0_leave : GoodIn wsX6_circles (wsV RX6 241 RX0 yX0_leave wsX0_leave) := goodIn_app (goodIn_of _ (by decide +kernel)) ggX6_circles_X0_leave
set_option maxRecDepth 20000 in
theorem ggX6_circles_X0_circlesLeft : GoodIn wsX6_circles wsX0_circlesLeft := goodIn_r _ [103, 69, 124, 125, 126, 127, 128, 129] (by decide +kernel) (by decide +kernel)
set_option maxRecDepth 20000 in
theorem gX6_circles_X0_circlesLeft : GoodIn wsX6_circles (wsV RX6 245 RX0 yX0_circlesLeft wsX0_circlesLeft) := goodIn_app (goodIn_of _ (by decide +kernel)) ggX6_circles_X0_circlesLeft
set_option maxRecDepth 20000 in
theorem ggX6_circles_X0_oddCirclesLeft : GoodIn wsX6_circles wsX0_oddCirclesLeft := goodIn_r _ [107, 70, 124, 125, 126, 127, 128, 129] (by decide +kernel) (by decide +kernel)
set_option maxRecDepth 20000 in
theorem gX6_circles_X0_oddCirclesLeft : GoodIn wsX6_circles (wsV RX6 248 RX0 yX0_oddCirclesLeft wsX0_oddCirclesLeft) := goodIn_app (goodIn_of _ (by decide +kernel)) ggX6_circles_X0_oddCirclesLeft
set_option maxRecDepth 20000 in
theorem ggX6_circles_X0_longestLeft : GoodIn wsX6_circles wsX0_longestLeft := goodIn_r _ [111, 71, 124, 125, 126, 127, 128, 129] (by decide +kernel) (by decide +kernel)
set_option maxRecDepth 20000 in
theorem gX6_circles_X0_longestLeft : GoodIn wsX6_circles (wsV RX6 251 RX0 yX0_longestLeft wsX0_longestLeft) := goodIn_app (goodIn_of _ (by decide +kernel)) ggX6_circles_X0_longestLeft
theorem dX6_circles_0 : decode cX6_circles 0 = .ok (.aload_n 0, 1) := by decide +kernel
theorem dX6_circles_1 : decode cX6_circles 1 = .ok (.getfield 12, 3) := by decide +kernel
theorem dX6_circles_4 : decode cX6_circles 4 = .ok (.invokevirtual 238, 3) := by decide +kernel
theorem dX6_circles_7 : decode cX6_circles 7 = .ok (.ifCond .ne 6, 3) := by decide +kernel
theorem dX6_circles_10 : decode cX6_circles 10 = .ok (.bipush (-4), 2) := by decide +kernel
theorem dX6_circles_12 : decode cX6_circles 12 = .ok (.ireturn, 1) := by decide +kernel
theorem dX6_circles_13 : decode cX6_circles 13 = .ok (.iload_n 1, 1) := by decide +kernel
theorem dX6_circles_14 : decode cX6_circles 14 = .ok (.ifCond .lt 12, 3) := by decide +kernel
theorem dX6_circles_17 : decode cX6_circles 17 = .ok (.iload_n 2, 1) := by decide +kernel
theorem dX6_circles_18 : decode cX6_circles 18 = .ok (.ifCond .lt 8, 3) := by decide +kernel
theorem dX6_circles_21 : decode cX6_circles 21 = .ok (.iload_n 2, 1) := by decide +kernel
theorem dX6_circles_22 : decode cX6_circles 22 = .ok (.iconst 2, 1) := by decide +kernel
theorem dX6_circles_23 : decode cX6_circles 23 = .ok (.if_icmp .le 6, 3) := by decide +kernel
theorem dX6_circles_26 : decode cX6_circles 26 = .ok (.bipush (-2), 2) := by decide +kernel
theorem dX6_circles_28 : decode cX6_circles 28 = .ok (.ireturn, 1) := by decide +kernel
theorem dX6_circles_29 : decode cX6_circles 29 = .ok (.aload_n 0, 1) := by decide +kernel
theorem dX6_circles_30 : decode cX6_circles 30 = .ok (.getfield 50, 3) := by decide +kernel
theorem dX6_circles_33 : decode cX6_circles 33 = .ok (.aload_n 0, 1) := by decide +kernel
theorem dX6_circles_34 : decode cX6_circles 34 = .ok (.getfield 12, 3) := by decide +kernel
theorem dX6_circles_37 : decode cX6_circles 37 = .ok (.invokevirtual 211, 3) := by decide +kernel
theorem dX6_circles_40 : decode cX6_circles 40 = .ok (.iload_n 1, 1) := by decide +kernel
theorem dX6_circles_41 : decode cX6_circles 41 = .ok (.aload_n 0, 1) := by decide +kernel
theorem dX6_circles_42 : decode cX6_circles 42 = .ok (.getfield 50, 3) := by decide +kernel
theorem dX6_circles_45 : decode cX6_circles 45 = .ok (.invokevirtual 234, 3) := by decide +kernel
theorem dX6_circles_48 : decode cX6_circles 48 = .ok (.if_icmp .lt 6, 3) := by decide +kernel
theorem dX6_circles_51 : decode cX6_circles 51 = .ok (.bipush (-5), 2) := by decide +kernel
theorem dX6_circles_53 : decode cX6_circles 53 = .ok (.ireturn, 1) := by decide +kernel
theorem dX6_circles_54 : decode cX6_circles 54 = .ok (.aload_n 0, 1) := by decide +kernel
theorem dX6_circles_55 : decode cX6_circles 55 = .ok (.getfield 50, 3) := by decide +kernel
theorem dX6_circles_58 : decode cX6_circles 58 = .ok (.aload_n 0, 1) := by decide +kernel
theorem dX6_circles_59 : decode cX6_circles 59 = .ok (.getfield 12, 3) := by decide +kernel
theorem dX6_circles_62 : decode cX6_circles 62 = .ok (.iload_n 1, 1) := by decide +kernel
theorem dX6_circles_63 : decode cX6_circles 63 = .ok (.invokevirtual 241, 3) := by decide +kernel
theorem dX6_circles_66 : decode cX6_circles 66 = .ok (.iload_n 2, 1) := by decide +kernel
theorem dX6_circles_67 : decode cX6_circles 67 = .ok (.lookupswitch 41 #[(0, 25), (1, 33)], 25) := by decide +kernel
theorem dX6_circles_92 : decode cX6_circles 92 = .ok (.aload_n 0, 1) := by decide +kernel
theorem dX6_circles_93 : decode cX6_circles 93 = .ok (.getfield 50, 3) := by decide +kernel
theorem dX6_circles_96 : decode cX6_circles 96 = .ok (.invokevirtual 245, 3) := by decide +kernel
theorem dX6_circles_99 : decode cX6_circles 99 = .ok (.ireturn, 1) := by decide +kernel
theorem dX6_circles_100 : decode cX6_circles 100 = .ok (.aload_n 0, 1) := by decide +kernel
theorem dX6_circles_101 : decode cX6_circles 101 = .ok (.getfield 50, 3) := by decide +kernel
theorem dX6_circles_104 : decode cX6_circles 104 = .ok (.invokevirtual 248, 3) := by decide +kernel
theorem dX6_circles_107 : decode cX6_circles 107 = .ok (.ireturn, 1) := by decide +kernel
theorem dX6_circles_108 : decode cX6_circles 108 = .ok (.aload_n 0, 1) := by decide +kernel
theorem dX6_circles_109 : decode cX6_circles 109 = .ok (.getfield 50, 3) := by decide +kernel
theorem dX6_circles_112 : decode cX6_circles 112 = .ok (.invokevirtual 251, 3) := by decide +kernel
theorem dX6_circles_115 : decode cX6_circles 115 = .ok (.ireturn, 1) := by decide +kernel
set_option maxRecDepth 20000 in
theorem ggX6_fewestOdd_X2_isFull : GoodIn wsX6_fewestOdd wsX2_isFull := goodIn_r _ [11, 12, 13, 14, 15, 10, 16, 17, 18, 19, 20, 21, 22, 23, 24, 25, 26, 27, 28, 29, 30, 31, 32, 33, 34, 35, 36, 37, 38, 115, 116, 117, 118] (by decide +kernel) (by decide +kernel)
set_option maxRecDepth 20000 in
theorem gX6_fewestOdd_X2_isFull : GoodIn wsX6_fewestOdd (wsV RX6 238 RX2 yX2_isFull wsX2_isFull) := goodIn_app (goodIn_of _ (by decide +kernel)) ggX6_fewestOdd_X2_isFull
set_option maxRecDepth 20000 in
theorem ggX6_fewestOdd_X0_list : GoodIn wsX6_fewestOdd wsX0_list := goodIn_r _ [43, 44, 45, 46, 47, 48, 10, 49, 24, 50, 18, 51, 52, 26, 27, 28, 29, 30, 31, 53, 54, 55, 56, 12, 17, 19, 57, 58, 42, 59, 60, 61, 62, 63, 64, 119, 120, 121, 122, 123, 124, 115, 116, 117, 118] (by decide +kernel) (by decide +kernel)
set_option maxRecDepth 20000 in
theorem gX6_fewestOdd_X0_list : GoodIn wsX6_fewestOdd (wsV RX6 211 RX0 yX0_list wsX0_list) := goodIn_app (goodIn_of _ (by decide +kernel)) ggX6_fewestOdd_X0_list
set_option maxRecDepth 20000 in
theorem ggX6_fewestOdd_X0_size : GoodIn wsX6_fewestOdd wsX0_size := goodIn_r _ [68, 44, 119, 120, 121, 122, 123, 124] (by decide +kernel) (by decide +kernel)
set_option maxRecDepth 20000 in
theorem gX6_fewestOdd_X0_size : GoodIn wsX6_fewestOdd (wsV RX6 234 RX0 yX0_size wsX0_size) := goodIn_app (goodIn_of _ (by decide +kernel)) ggX6_fewestOdd_X0_size
set_option maxRecDepth 20000 in
theorem ggX6_fewestOdd_X0_leave : GoodIn wsX6_fewestOdd wsX0_leave := goodIn_r _ [72, 73, 74, 75, 76, 77, 5, 78, 79, 80, 81, 10, 82, 24, 17, 18, 19, 83, 84, 85, 42, 86, 64, 30, 31, 53, 54, 55, 56, 12, 87, 88, 89, 90, 91, 92, 93, 94, 95, 96, 97, 98, 99, 100, 47, 48, 49, 101, 26, 27, 28, 29, 102, 33, 34, 35, 36, 37, 38, 119, 120, 121, 122, 123, 124, 115, 116, 117, 118] (by decide +kernel) (by decide +kernel)
set_option maxRecDepth 20000 in
theorem gX6_fewestOdd_X0_leave : GoodIn wsX6_fewestOdd (wsV RX6 241 RX0 yX0_leave wsX0_leave) := goodIn_app (goodIn_of _ (by decide +kernel)) ggX6_fewestOdd_X0_leave
set_option maxRecDepth 20000 in
theorem ggX6_fewestOdd_X0_oddCirclesLeft : GoodIn wsX6_fewestOdd wsX0_oddCirclesLeft := goodIn_r _ [106, 74, 119, 120, 121, 122, 123, 124] (by decide +kernel) (by decide +kernel)
set_option maxRecDepth 20000 in
theorem gX6_fewestOdd_X0_oddCirclesLeft : GoodIn wsX6_fewestOdd (wsV RX6 248 RX0 yX0_oddCirclesLeft wsX0_oddCirclesLeft) := goodIn_app (goodIn_of _ (by decide +kernel)) ggX6_fewestOdd_X0_oddCirclesLeft
theorem dX6_fewestOdd_0 : decode cX6_fewestOdd 0 = .ok (.aload_n 0, 1) := by decide +kernel
theorem dX6_fewestOdd_1 : decode cX6_fewestOdd 1 = .ok (.getfield 12, 3) := by decide +kernel
theorem dX6_fewestOdd_4 : decode cX6_fewestOdd 4 = .ok (.invokevirtual 238, 3) := by decide +kernel
theorem dX6_fewestOdd_7 : decode cX6_fewestOdd 7 = .ok (.ifCond .ne 6, 3) := by decide +kernel
theorem dX6_fewestOdd_10 : decode cX6_fewestOdd 10 = .ok (.bipush (-4), 2) := by decide +kernel
theorem dX6_fewestOdd_12 : decode cX6_fewestOdd 12 = .ok (.ireturn, 1) := by decide +kernel
theorem dX6_fewestOdd_13 : decode cX6_fewestOdd 13 = .ok (.aload_n 0, 1) := by decide +kernel
theorem dX6_fewestOdd_14 : decode cX6_fewestOdd 14 = .ok (.getfield 50, 3) := by decide +kernel
theorem dX6_fewestOdd_17 : decode cX6_fewestOdd 17 = .ok (.aload_n 0, 1) := by decide +kernel
theorem dX6_fewestOdd_18 : decode cX6_fewestOdd 18 = .ok (.getfield 12, 3) := by decide +kernel
theorem dX6_fewestOdd_21 : decode cX6_fewestOdd 21 = .ok (.invokevirtual 211, 3) := by decide +kernel
theorem dX6_fewestOdd_24 : decode cX6_fewestOdd 24 = .ok (.aload_n 0, 1) := by decide +kernel
theorem dX6_fewestOdd_25 : decode cX6_fewestOdd 25 = .ok (.getfield 50, 3) := by decide +kernel
theorem dX6_fewestOdd_28 : decode cX6_fewestOdd 28 = .ok (.invokevirtual 234, 3) := by decide +kernel
theorem dX6_fewestOdd_31 : decode cX6_fewestOdd 31 = .ok (.ifCond .ne 6, 3) := by decide +kernel
theorem dX6_fewestOdd_34 : decode cX6_fewestOdd 34 = .ok (.bipush (-5), 2) := by decide +kernel
theorem dX6_fewestOdd_36 : decode cX6_fewestOdd 36 = .ok (.ireturn, 1) := by decide +kernel
theorem dX6_fewestOdd_37 : decode cX6_fewestOdd 37 = .ok (.bipush 14, 2) := by decide +kernel
theorem dX6_fewestOdd_39 : decode cX6_fewestOdd 39 = .ok (.istore_n 1, 1) := by decide +kernel
theorem dX6_fewestOdd_40 : decode cX6_fewestOdd 40 = .ok (.iconst 0, 1) := by decide +kernel
theorem dX6_fewestOdd_41 : decode cX6_fewestOdd 41 = .ok (.istore_n 2, 1) := by decide +kernel
theorem dX6_fewestOdd_42 : decode cX6_fewestOdd 42 = .ok (.iload_n 2, 1) := by decide +kernel
theorem dX6_fewestOdd_43 : decode cX6_fewestOdd 43 = .ok (.aload_n 0, 1) := by decide +kernel
theorem dX6_fewestOdd_44 : decode cX6_fewestOdd 44 = .ok (.getfield 50, 3) := by decide +kernel
theorem dX6_fewestOdd_47 : decode cX6_fewestOdd 47 = .ok (.invokevirtual 234, 3) := by decide +kernel
theorem dX6_fewestOdd_50 : decode cX6_fewestOdd 50 = .ok (.if_icmp .ge 33, 3) := by decide +kernel
theorem dX6_fewestOdd_53 : decode cX6_fewestOdd 53 = .ok (.aload_n 0, 1) := by decide +kernel
theorem dX6_fewestOdd_54 : decode cX6_fewestOdd 54 = .ok (.getfield 50, 3) := by decide +kernel
theorem dX6_fewestOdd_57 : decode cX6_fewestOdd 57 = .ok (.aload_n 0, 1) := by decide +kernel
theorem dX6_fewestOdd_58 : decode cX6_fewestOdd 58 = .ok (.getfield 12, 3) := by decide +kernel
theorem dX6_fewestOdd_61 : decode cX6_fewestOdd 61 = .ok (.iload_n 2, 1) := by decide +kernel
theorem dX6_fewestOdd_62 : decode cX6_fewestOdd 62 = .ok (.invokevirtual 241, 3) := by decide +kernel
theorem dX6_fewestOdd_65 : decode cX6_fewestOdd 65 = .ok (.iload_n 1, 1) := by decide +kernel
theorem dX6_fewestOdd_66 : decode cX6_fewestOdd 66 = .ok (.aload_n 0, 1) := by decide +kernel
theorem dX6_fewestOdd_67 : decode cX6_fewestOdd 67 = .ok (.getfield 50, 3) := by decide +kernel
theorem dX6_fewestOdd_70 : decode cX6_fewestOdd 70 = .ok (.invokevirtual 248, 3) := by decide +kernel
theorem dX6_fewestOdd_73 : decode cX6_fewestOdd 73 = .ok (.invokestatic 254, 3) := by decide +kernel
theorem dX6_fewestOdd_76 : decode cX6_fewestOdd 76 = .ok (.istore_n 1, 1) := by decide +kernel
theorem dX6_fewestOdd_77 : decode cX6_fewestOdd 77 = .ok (.iinc 2 1, 3) := by decide +kernel
theorem dX6_fewestOdd_80 : decode cX6_fewestOdd 80 = .ok (.goto (-38), 3) := by decide +kernel
theorem dX6_fewestOdd_83 : decode cX6_fewestOdd 83 = .ok (.iload_n 1, 1) := by decide +kernel
theorem dX6_fewestOdd_84 : decode cX6_fewestOdd 84 = .ok (.ireturn, 1) := by decide +kernel
set_option maxRecDepth 20000 in
theorem ggX6_count_X2_knots : GoodIn wsX6_count wsX2_knots := goodIn_r _ [9, 10, 158, 159, 160, 161] (by decide +kernel) (by decide +kernel)
set_option maxRecDepth 20000 in
theorem gX6_count_X2_knots : GoodIn wsX6_count (wsV RX6 66 RX2 yX2_knots wsX2_knots) := goodIn_app (goodIn_of _ (by decide +kernel)) ggX6_count_X2_knots
set_option maxRecDepth 20000 in
theorem ggX6_count_X2_threads : GoodIn wsX6_count wsX2_threads := goodIn_r _ [14, 15, 158, 159, 160, 161] (by decide +kernel) (by decide +kernel)
set_option maxRecDepth 20000 in
theorem gX6_count_X2_threads : GoodIn wsX6_count (wsV RX6 81 RX2 yX2_threads wsX2_threads) := goodIn_app (goodIn_of _ (by decide +kernel)) ggX6_count_X2_threads
set_option maxRecDepth 20000 in
theorem ggX6_count_X2_isFull : GoodIn wsX6_count wsX2_isFull := goodIn_r _ [19, 10, 20, 21, 22, 8, 23, 24, 25, 26, 27, 28, 29, 30, 15, 31, 32, 33, 34, 35, 36, 37, 38, 39, 40, 41, 42, 43, 44, 158, 159, 160, 161] (by decide +kernel) (by decide +kernel)
set_option maxRecDepth 20000 in
theorem gX6_count_X2_isFull : GoodIn wsX6_count (wsV RX6 238 RX2 yX2_isFull wsX2_isFull) := goodIn_app (goodIn_of _ (by decide +kernel)) ggX6_count_X2_isFull
set_option maxRecDepth 20000 in
theorem ggX6_count_X5_parts : GoodIn wsX6_count wsX5_parts := goodIn_r _ [48, 49, 50, 51, 8, 52, 10, 24, 25, 26, 53, 6, 7, 9, 54, 55, 56, 57, 58, 59, 15, 60, 61, 47, 62, 63, 64, 65, 66, 12, 13, 14, 67, 32, 33, 34, 35, 36, 37, 158, 159, 160, 161] (by decide +kernel) (by decide +kernel)
set_option maxRecDepth 20000 in
theorem gX6_count_X5_parts : GoodIn wsX6_count (va_wsS RX6 259 yX5_parts wsX5_parts) := goodIn_app (goodIn_of _ (by decide +kernel)) ggX6_count_X5_parts
set_option maxRecDepth 20000 in
theorem ggX6_count_X5_bridges : GoodIn wsX6_count wsX5_bridges := goodIn_r _ [70, 66, 12, 13, 8, 14, 15, 71, 72, 47, 73, 56, 57, 58, 59, 24, 25, 26, 74, 75, 76, 77, 31, 32, 33, 34, 35, 36, 37, 78, 79, 40, 80, 81, 82, 83, 84, 85, 86, 87, 88, 63, 64, 65, 54, 55, 67, 158, 159, 160, 161] (by decide +kernel) (by decide +kernel)
set_option maxRecDepth 20000 in
theorem gX6_count_X5_bridges : GoodIn wsX6_count (va_wsS RX6 262 yX5_bridges wsX5_bridges) := goodIn_app (goodIn_of _ (by decide +kernel)) ggX6_count_X5_bridges
set_option maxRecDepth 20000 in
theorem ggX6_count_X2_allThreads : GoodIn wsX6_count wsX2_allThreads := goodIn_r _ [59, 15, 24, 25, 26, 158, 159, 160, 161] (by decide +kernel) (by decide +kernel)
set_option maxRecDepth 20000 in
theorem gX6_count_X2_allThreads : GoodIn wsX6_count (wsV RX6 186 RX2 yX2_allThreads wsX2_allThreads) := goodIn_app (goodIn_of _ (by decide +kernel)) ggX6_count_X2_allThreads
set_option maxRecDepth 20000 in
theorem ggX6_count_X5_shortestCircle : GoodIn wsX6_count wsX5_shortestCircle := goodIn_r _ [92, 66, 12, 13, 8, 14, 15, 54, 25, 55, 71, 72, 47, 73, 56, 57, 58, 59, 24, 26, 74, 75, 76, 77, 31, 32, 33, 34, 35, 36, 37, 78, 79, 40, 80, 81, 82, 83, 84, 85, 86, 87, 88, 63, 64, 65, 67, 158, 159, 160, 161] (by decide +kernel) (by decide +kernel)
set_option maxRecDepth 20000 in
theorem gX6_count_X5_shortestCircle : GoodIn wsX6_count (va_wsS RX6 195 yX5_shortestCircle wsX5_shortestCircle) := goodIn_app (goodIn_of _ (by decide +kernel)) ggX6_count_X5_shortestCircle
set_option maxRecDepth 20000 in
theorem ggX6_count_X6_orNone : GoodIn wsX6_count wsX6_orNone := goodIn_r _ [95] (by decide +kernel) (by decide +kernel)
set_option maxRecDepth 20000 in
theorem gX6_count_X6_orNone : GoodIn wsX6_count (va_wsS RX6 199 yX6_orNone wsX6_orNone) := goodIn_app (goodIn_of _ (by decide +kernel)) ggX6_count_X6_orNone
set_option maxRecDepth 20000 in
theorem ggX6_count_X0_list : GoodIn wsX6_count wsX0_list := goodIn_r _ [100, 101, 102, 103, 12, 13, 8, 14, 15, 104, 25, 105, 106, 32, 33, 34, 35, 36, 37, 107, 50, 51, 52, 10, 24, 26, 108, 109, 99, 110, 111, 112, 113, 114, 115, 162, 163, 164, 165, 166, 167, 158, 159, 160, 161] (by decide +kernel) (by decide +kernel)
set_option maxRecDepth 20000 in
theorem gX6_count_X0_list : GoodIn wsX6_count (wsV RX6 211 RX0 yX0_list wsX0_list) := goodIn_app (goodIn_of _ (by decide +kernel)) ggX6_count_X0_list
set_option maxRecDepth 20000 in
theorem ggX6_count_X0_size : GoodIn wsX6_count wsX0_size := goodIn_r _ [119, 101, 162, 163, 164, 165, 166, 167] (by decide +kernel) (by decide +kernel)
set_option maxRecDepth 20000 in
theorem gX6_count_X0_size : GoodIn wsX6_count (wsV RX6 234 RX0 yX0_size wsX0_size) := goodIn_app (goodIn_of _ (by decide +kernel)) ggX6_count_X0_size
set_option maxRecDepth 20000 in
theorem ggX6_count_X2_wrongKnots : GoodIn wsX6_count wsX2_wrongKnots := goodIn_r _ [123, 10, 124, 125, 126, 8, 127, 15, 128, 129, 130, 131, 132, 36, 25, 37, 31, 32, 33, 34, 35, 54, 55, 24, 26, 158, 159, 160, 161] (by decide +kernel) (by decide +kernel)
set_option maxRecDepth 20000 in
theorem gX6_count_X2_wrongKnots : GoodIn wsX6_count (wsV RX6 265 RX2 yX2_wrongKnots wsX2_wrongKnots) := goodIn_app (goodIn_of _ (by decide +kernel)) ggX6_count_X2_wrongKnots
set_option maxRecDepth 20000 in
theorem ggX6_count_X2_coloured : GoodIn wsX6_count wsX2_coloured := goodIn_r _ [136, 15, 128, 129, 130, 8, 131, 132, 36, 25, 37, 24, 26, 158, 159, 160, 161] (by decide +kernel) (by decide +kernel)
set_option maxRecDepth 20000 in
theorem gX6_count_X2_coloured : GoodIn wsX6_count (wsV RX6 151 RX2 yX2_coloured wsX2_coloured) := goodIn_app (goodIn_of _ (by decide +kernel)) ggX6_count_X2_coloured
set_option maxRecDepth 20000 in
theorem ggX6_count_J6_bitCount_0f7a4 : GoodIn wsX6_count wsJ6_bitCount_0f7a4 := goodIn_r _ [41, 42, 43, 44] (by decide +kernel) (by decide +kernel)
set_option maxRecDepth 20000 in
theorem gX6_count_J6_bitCount_0f7a4 : GoodIn wsX6_count (va_wsS RX6 146 yJ6_bitCount_0f7a4 wsJ6_bitCount_0f7a4) := goodIn_app (goodIn_of _ (by decide +kernel)) ggX6_count_J6_bitCount_0f7a4
set_option maxRecDepth 20000 in
theorem ggX6_count_X1_size : GoodIn wsX6_count wsX1_size := goodIn_r _ [142, 143, 168, 169] (by decide +kernel) (by decide +kernel)
set_option maxRecDepth 20000 in
theorem gX6_count_X1_size : GoodIn wsX6_count (wsV RX6 174 RX1 yX1_size wsX1_size) := goodIn_app (goodIn_of _ (by decide +kernel)) ggX6_count_X1_size
set_option maxRecDepth 20000 in
theorem ggX6_count_X4_length : GoodIn wsX6_count wsX4_length := goodIn_r _ [148, 149, 170, 171, 172, 173] (by decide +kernel) (by decide +kernel)
set_option maxRecDepth 20000 in
theorem gX6_count_X4_length : GoodIn wsX6_count (wsV RX6 165 RX4 yX4_length wsX4_length) := goodIn_app (goodIn_of _ (by decide +kernel)) ggX6_count_X4_length
theorem dX6_count_0 : decode cX6_count 0 = .ok (.iload_n 1, 1) := by decide +kernel
theorem dX6_count_1 : decode cX6_count 1 = .ok (.tableswitch 180 0 10 #[59, 67, 75, 91, 99, 107, 125, 144, 152, 164, 172], 59) := by decide +kernel
theorem dX6_count_60 : decode cX6_count 60 = .ok (.aload_n 0, 1) := by decide +kernel
theorem dX6_count_61 : decode cX6_count 61 = .ok (.getfield 12, 3) := by decide +kernel
theorem dX6_count_64 : decode cX6_count 64 = .ok (.invokevirtual 66, 3) := by decide +kernel
theorem dX6_count_67 : decode cX6_count 67 = .ok (.ireturn, 1) := by decide +kernel
theorem dX6_count_68 : decode cX6_count 68 = .ok (.aload_n 0, 1) := by decide +kernel
theorem dX6_count_69 : decode cX6_count 69 = .ok (.getfield 12, 3) := by decide +kernel
theorem dX6_count_72 : decode cX6_count 72 = .ok (.invokevirtual 81, 3) := by decide +kernel
theorem dX6_count_75 : decode cX6_count 75 = .ok (.ireturn, 1) := by decide +kernel
theorem dX6_count_76 : decode cX6_count 76 = .ok (.aload_n 0, 1) := by decide +kernel
theorem dX6_count_77 : decode cX6_count 77 = .ok (.getfield 12, 3) := by decide +kernel
theorem dX6_count_80 : decode cX6_count 80 = .ok (.invokevirtual 238, 3) := by decide +kernel
theorem dX6_count_83 : decode cX6_count 83 = .ok (.ifCond .eq 7, 3) := by decide +kernel
theorem dX6_count_86 : decode cX6_count 86 = .ok (.iconst 1, 1) := by decide +kernel
theorem dX6_count_87 : decode cX6_count 87 = .ok (.goto 4, 3) := by decide +kernel
theorem dX6_count_90 : decode cX6_count 90 = .ok (.iconst 0, 1) := by decide +kernel
theorem dX6_count_91 : decode cX6_count 91 = .ok (.ireturn, 1) := by decide +kernel
theorem dX6_count_92 : decode cX6_count 92 = .ok (.aload_n 0, 1) := by decide +kernel
theorem dX6_count_93 : decode cX6_count 93 = .ok (.getfield 12, 3) := by decide +kernel
theorem dX6_count_96 : decode cX6_count 96 = .ok (.invokestatic 259, 3) := by decide +kernel
theorem dX6_count_99 : decode cX6_count 99 = .ok (.ireturn, 1) := by decide +kernel
theorem dX6_count_100 : decode cX6_count 100 = .ok (.aload_n 0, 1) := by decide +kernel
theorem dX6_count_101 : decode cX6_count 101 = .ok (.getfield 12, 3) := by decide +kernel
theorem dX6_count_104 : decode cX6_count 104 = .ok (.invokestatic 262, 3) := by decide +kernel
theorem dX6_count_107 : decode cX6_count 107 = .ok (.ireturn, 1) := by decide +kernel
theorem dX6_count_108 : decode cX6_count 108 = .ok (.aload_n 0, 1) := by decide +kernel
theorem dX6_count_109 : decode cX6_count 109 = .ok (.getfield 12, 3) := by decide +kernel
theorem dX6_count_112 : decode cX6_count 112 = .ok (.aload_n 0, 1) := by decide +kernel
theorem dX6_count_113 : decode cX6_count 113 = .ok (.getfield 12, 3) := by decide +kernel
theorem dX6_count_116 : decode cX6_count 116 = .ok (.invokevirtual 186, 3) := by decide +kernel
theorem dX6_count_119 : decode cX6_count 119 = .ok (.invokestatic 195, 3) := by decide +kernel
theorem dX6_count_122 : decode cX6_count 122 = .ok (.invokestatic 199, 3) := by decide +kernel
theorem dX6_count_125 : decode cX6_count 125 = .ok (.ireturn, 1) := by decide +kernel
theorem dX6_count_126 : decode cX6_count 126 = .ok (.aload_n 0, 1) := by decide +kernel
theorem dX6_count_127 : decode cX6_count 127 = .ok (.getfield 50, 3) := by decide +kernel
theorem dX6_count_130 : decode cX6_count 130 = .ok (.aload_n 0, 1) := by decide +kernel
theorem dX6_count_131 : decode cX6_count 131 = .ok (.getfield 12, 3) := by decide +kernel
theorem dX6_count_134 : decode cX6_count 134 = .ok (.invokevirtual 211, 3) := by decide +kernel
theorem dX6_count_137 : decode cX6_count 137 = .ok (.aload_n 0, 1) := by decide +kernel
theorem dX6_count_138 : decode cX6_count 138 = .ok (.getfield 50, 3) := by decide +kernel
theorem dX6_count_141 : decode cX6_count 141 = .ok (.invokevirtual 234, 3) := by decide +kernel
theorem dX6_count_144 : decode cX6_count 144 = .ok (.ireturn, 1) := by decide +kernel
theorem dX6_count_145 : decode cX6_count 145 = .ok (.aload_n 0, 1) := by decide +kernel
theorem dX6_count_146 : decode cX6_count 146 = .ok (.getfield 12, 3) := by decide +kernel
theorem dX6_count_149 : decode cX6_count 149 = .ok (.invokevirtual 265, 3) := by decide +kernel
theorem dX6_count_152 : decode cX6_count 152 = .ok (.ireturn, 1) := by decide +kernel
theorem dX6_count_153 : decode cX6_count 153 = .ok (.aload_n 0, 1) := by decide +kernel
theorem dX6_count_154 : decode cX6_count 154 = .ok (.getfield 12, 3) := by decide +kernel
theorem dX6_count_157 : decode cX6_count 157 = .ok (.iconst 3, 1) := by decide +kernel
theorem dX6_count_158 : decode cX6_count 158 = .ok (.invokevirtual 151, 3) := by decide +kernel
theorem dX6_count_161 : decode cX6_count 161 = .ok (.invokestatic 146, 3) := by decide +kernel
theorem dX6_count_164 : decode cX6_count 164 = .ok (.ireturn, 1) := by decide +kernel
theorem dX6_count_165 : decode cX6_count 165 = .ok (.aload_n 0, 1) := by decide +kernel
theorem dX6_count_166 : decode cX6_count 166 = .ok (.getfield 29, 3) := by decide +kernel
theorem dX6_count_169 : decode cX6_count 169 = .ok (.invokevirtual 174, 3) := by decide +kernel
theorem dX6_count_172 : decode cX6_count 172 = .ok (.ireturn, 1) := by decide +kernel
theorem dX6_count_173 : decode cX6_count 173 = .ok (.aload_n 0, 1) := by decide +kernel
theorem dX6_count_174 : decode cX6_count 174 = .ok (.getfield 36, 3) := by decide +kernel
theorem dX6_count_177 : decode cX6_count 177 = .ok (.invokevirtual 165, 3) := by decide +kernel
theorem dX6_count_180 : decode cX6_count 180 = .ok (.ireturn, 1) := by decide +kernel
theorem dX6_count_181 : decode cX6_count 181 = .ok (.bipush (-2), 2) := by decide +kernel
theorem dX6_count_183 : decode cX6_count 183 = .ok (.ireturn, 1) := by decide +kernel
theorem dX6_orNone_0 : decode cX6_orNone 0 = .ok (.iload_n 0, 1) := by decide +kernel
theorem dX6_orNone_1 : decode cX6_orNone 1 = .ok (.ifCond .ne 8, 3) := by decide +kernel
theorem dX6_orNone_4 : decode cX6_orNone 4 = .ok (.bipush (-5), 2) := by decide +kernel
theorem dX6_orNone_6 : decode cX6_orNone 6 = .ok (.goto 4, 3) := by decide +kernel
theorem dX6_orNone_9 : decode cX6_orNone 9 = .ok (.iload_n 0, 1) := by decide +kernel
theorem dX6_orNone_10 : decode cX6_orNone 10 = .ok (.ireturn, 1) := by decide +kernel
theorem dX6_builtIn_0 : decode cX6_builtIn 0 = .ok (.iload_n 0, 1) := by decide +kernel
theorem dX6_builtIn_1 : decode cX6_builtIn 1 = .ok (.tableswitch 47 0 3 #[31, 35, 39, 43], 31) := by decide +kernel
theorem dX6_builtIn_32 : decode cX6_builtIn 32 = .ok (.getstatic 268, 3) := by decide +kernel
theorem dX6_builtIn_35 : decode cX6_builtIn 35 = .ok (.areturn, 1) := by decide +kernel
theorem dX6_builtIn_36 : decode cX6_builtIn 36 = .ok (.getstatic 272, 3) := by decide +kernel
theorem dX6_builtIn_39 : decode cX6_builtIn 39 = .ok (.areturn, 1) := by decide +kernel
theorem dX6_builtIn_40 : decode cX6_builtIn 40 = .ok (.getstatic 275, 3) := by decide +kernel
theorem dX6_builtIn_43 : decode cX6_builtIn 43 = .ok (.areturn, 1) := by decide +kernel
theorem dX6_builtIn_44 : decode cX6_builtIn 44 = .ok (.getstatic 278, 3) := by decide +kernel
theorem dX6_builtIn_47 : decode cX6_builtIn 47 = .ok (.areturn, 1) := by decide +kernel
theorem dX6_builtIn_48 : decode cX6_builtIn 48 = .ok (.getstatic 281, 3) := by decide +kernel
theorem dX6_builtIn_51 : decode cX6_builtIn 51 = .ok (.areturn, 1) := by decide +kernel
theorem dX6_bit_0 : decode cX6_bit 0 = .ok (.iconst 1, 1) := by decide +kernel
theorem dX6_bit_1 : decode cX6_bit 1 = .ok (.iload_n 0, 1) := by decide +kernel
theorem dX6_bit_2 : decode cX6_bit 2 = .ok (.ishl, 1) := by decide +kernel
theorem dX6_bit_3 : decode cX6_bit 3 = .ok (.ireturn, 1) := by decide +kernel
theorem dX6_holds_0 : decode cX6_holds 0 = .ok (.iload_n 0, 1) := by decide +kernel
theorem dX6_holds_1 : decode cX6_holds 1 = .ok (.iload_n 1, 1) := by decide +kernel
theorem dX6_holds_2 : decode cX6_holds 2 = .ok (.ishr, 1) := by decide +kernel
theorem dX6_holds_3 : decode cX6_holds 3 = .ok (.iconst 1, 1) := by decide +kernel
theorem dX6_holds_4 : decode cX6_holds 4 = .ok (.iand, 1) := by decide +kernel
theorem dX6_holds_5 : decode cX6_holds 5 = .ok (.ifCond .eq 7, 3) := by decide +kernel
theorem dX6_holds_8 : decode cX6_holds 8 = .ok (.iconst 1, 1) := by decide +kernel
theorem dX6_holds_9 : decode cX6_holds 9 = .ok (.goto 4, 3) := by decide +kernel
theorem dX6_holds_12 : decode cX6_holds 12 = .ok (.iconst 0, 1) := by decide +kernel
theorem dX6_holds_13 : decode cX6_holds 13 = .ok (.ireturn, 1) := by decide +kernel
theorem dX6_at_0 : decode cX6_at 0 = .ok (.iload_n 1, 1) := by decide +kernel
theorem dX6_at_1 : decode cX6_at 1 = .ok (.ifCond .lt 15, 3) := by decide +kernel
theorem dX6_at_4 : decode cX6_at 4 = .ok (.iload_n 1, 1) := by decide +kernel
theorem dX6_at_5 : decode cX6_at 5 = .ok (.aload_n 0, 1) := by decide +kernel
theorem dX6_at_6 : decode cX6_at 6 = .ok (.arraylength, 1) := by decide +kernel
theorem dX6_at_7 : decode cX6_at 7 = .ok (.if_icmp .ge 9, 3) := by decide +kernel
theorem dX6_at_10 : decode cX6_at 10 = .ok (.aload_n 0, 1) := by decide +kernel
theorem dX6_at_11 : decode cX6_at 11 = .ok (.iload_n 1, 1) := by decide +kernel
theorem dX6_at_12 : decode cX6_at 12 = .ok (.iaload, 1) := by decide +kernel
theorem dX6_at_13 : decode cX6_at 13 = .ok (.goto 4, 3) := by decide +kernel
theorem dX6_at_16 : decode cX6_at 16 = .ok (.iconst 0, 1) := by decide +kernel
theorem dX6_at_17 : decode cX6_at 17 = .ok (.ireturn, 1) := by decide +kernel
theorem dX6_put_0 : decode cX6_put 0 = .ok (.iload_n 1, 1) := by decide +kernel
theorem dX6_put_1 : decode cX6_put 1 = .ok (.ifCond .lt 13, 3) := by decide +kernel
theorem dX6_put_4 : decode cX6_put 4 = .ok (.iload_n 1, 1) := by decide +kernel
theorem dX6_put_5 : decode cX6_put 5 = .ok (.aload_n 0, 1) := by decide +kernel
theorem dX6_put_6 : decode cX6_put 6 = .ok (.arraylength, 1) := by decide +kernel
theorem dX6_put_7 : decode cX6_put 7 = .ok (.if_icmp .ge 7, 3) := by decide +kernel
theorem dX6_put_10 : decode cX6_put 10 = .ok (.aload_n 0, 1) := by decide +kernel
theorem dX6_put_11 : decode cX6_put 11 = .ok (.iload_n 1, 1) := by decide +kernel
theorem dX6_put_12 : decode cX6_put 12 = .ok (.iload_n 2, 1) := by decide +kernel
theorem dX6_put_13 : decode cX6_put 13 = .ok (.iastore, 1) := by decide +kernel
theorem dX6_put_14 : decode cX6_put 14 = .ok (.return_, 1) := by decide +kernel
theorem dJ6_numberOfLeadingZeros_0f7a4_0 : decode cJ6_numberOfLeadingZeros_0f7a4 0 = .ok (.iload_n 0, 1) := by decide +kernel
theorem dJ6_numberOfLeadingZeros_0f7a4_1 : decode cJ6_numberOfLeadingZeros_0f7a4 1 = .ok (.ifCond .gt 14, 3) := by decide +kernel
theorem dJ6_numberOfLeadingZeros_0f7a4_4 : decode cJ6_numberOfLeadingZeros_0f7a4 4 = .ok (.iload_n 0, 1) := by decide +kernel
theorem dJ6_numberOfLeadingZeros_0f7a4_5 : decode cJ6_numberOfLeadingZeros_0f7a4 5 = .ok (.ifCond .ne 8, 3) := by decide +kernel
theorem dJ6_numberOfLeadingZeros_0f7a4_8 : decode cJ6_numberOfLeadingZeros_0f7a4 8 = .ok (.bipush 32, 2) := by decide +kernel
theorem dJ6_numberOfLeadingZeros_0f7a4_10 : decode cJ6_numberOfLeadingZeros_0f7a4 10 = .ok (.goto 4, 3) := by decide +kernel
theorem dJ6_numberOfLeadingZeros_0f7a4_13 : decode cJ6_numberOfLeadingZeros_0f7a4 13 = .ok (.iconst 0, 1) := by decide +kernel
theorem dJ6_numberOfLeadingZeros_0f7a4_14 : decode cJ6_numberOfLeadingZeros_0f7a4 14 = .ok (.ireturn, 1) := by decide +kernel
theorem dJ6_numberOfLeadingZeros_0f7a4_15 : decode cJ6_numberOfLeadingZeros_0f7a4 15 = .ok (.bipush 31, 2) := by decide +kernel
theorem dJ6_numberOfLeadingZeros_0f7a4_17 : decode cJ6_numberOfLeadingZeros_0f7a4 17 = .ok (.istore_n 1, 1) := by decide +kernel
theorem dJ6_numberOfLeadingZeros_0f7a4_18 : decode cJ6_numberOfLeadingZeros_0f7a4 18 = .ok (.iload_n 0, 1) := by decide +kernel
theorem dJ6_numberOfLeadingZeros_0f7a4_19 : decode cJ6_numberOfLeadingZeros_0f7a4 19 = .ok (.ldc_w 264, 3) := by decide +kernel
theorem dJ6_numberOfLeadingZeros_0f7a4_22 : decode cJ6_numberOfLeadingZeros_0f7a4 22 = .ok (.if_icmp .lt 11, 3) := by decide +kernel
theorem dJ6_numberOfLeadingZeros_0f7a4_25 : decode cJ6_numberOfLeadingZeros_0f7a4 25 = .ok (.iinc 1 (-16), 3) := by decide +kernel
theorem dJ6_numberOfLeadingZeros_0f7a4_28 : decode cJ6_numberOfLeadingZeros_0f7a4 28 = .ok (.iload_n 0, 1) := by decide +kernel
theorem dJ6_numberOfLeadingZeros_0f7a4_29 : decode cJ6_numberOfLeadingZeros_0f7a4 29 = .ok (.bipush 16, 2) := by decide +kernel
theorem dJ6_numberOfLeadingZeros_0f7a4_31 : decode cJ6_numberOfLeadingZeros_0f7a4 31 = .ok (.iushr, 1) := by decide +kernel
theorem dJ6_numberOfLeadingZeros_0f7a4_32 : decode cJ6_numberOfLeadingZeros_0f7a4 32 = .ok (.istore_n 0, 1) := by decide +kernel
theorem dJ6_numberOfLeadingZeros_0f7a4_33 : decode cJ6_numberOfLeadingZeros_0f7a4 33 = .ok (.iload_n 0, 1) := by decide +kernel
theorem dJ6_numberOfLeadingZeros_0f7a4_34 : decode cJ6_numberOfLeadingZeros_0f7a4 34 = .ok (.sipush 256, 3) := by decide +kernel
theorem dJ6_numberOfLeadingZeros_0f7a4_37 : decode cJ6_numberOfLeadingZeros_0f7a4 37 = .ok (.if_icmp .lt 11, 3) := by decide +kernel
theorem dJ6_numberOfLeadingZeros_0f7a4_40 : decode cJ6_numberOfLeadingZeros_0f7a4 40 = .ok (.iinc 1 (-8), 3) := by decide +kernel
theorem dJ6_numberOfLeadingZeros_0f7a4_43 : decode cJ6_numberOfLeadingZeros_0f7a4 43 = .ok (.iload_n 0, 1) := by decide +kernel
theorem dJ6_numberOfLeadingZeros_0f7a4_44 : decode cJ6_numberOfLeadingZeros_0f7a4 44 = .ok (.bipush 8, 2) := by decide +kernel
theorem dJ6_numberOfLeadingZeros_0f7a4_46 : decode cJ6_numberOfLeadingZeros_0f7a4 46 = .ok (.iushr, 1) := by decide +kernel
theorem dJ6_numberOfLeadingZeros_0f7a4_47 : decode cJ6_numberOfLeadingZeros_0f7a4 47 = .ok (.istore_n 0, 1) := by decide +kernel
theorem dJ6_numberOfLeadingZeros_0f7a4_48 : decode cJ6_numberOfLeadingZeros_0f7a4 48 = .ok (.iload_n 0, 1) := by decide +kernel
theorem dJ6_numberOfLeadingZeros_0f7a4_49 : decode cJ6_numberOfLeadingZeros_0f7a4 49 = .ok (.bipush 16, 2) := by decide +kernel
theorem dJ6_numberOfLeadingZeros_0f7a4_51 : decode cJ6_numberOfLeadingZeros_0f7a4 51 = .ok (.if_icmp .lt 10, 3) := by decide +kernel
theorem dJ6_numberOfLeadingZeros_0f7a4_54 : decode cJ6_numberOfLeadingZeros_0f7a4 54 = .ok (.iinc 1 (-4), 3) := by decide +kernel
theorem dJ6_numberOfLeadingZeros_0f7a4_57 : decode cJ6_numberOfLeadingZeros_0f7a4 57 = .ok (.iload_n 0, 1) := by decide +kernel
theorem dJ6_numberOfLeadingZeros_0f7a4_58 : decode cJ6_numberOfLeadingZeros_0f7a4 58 = .ok (.iconst 4, 1) := by decide +kernel
theorem dJ6_numberOfLeadingZeros_0f7a4_59 : decode cJ6_numberOfLeadingZeros_0f7a4 59 = .ok (.iushr, 1) := by decide +kernel
theorem dJ6_numberOfLeadingZeros_0f7a4_60 : decode cJ6_numberOfLeadingZeros_0f7a4 60 = .ok (.istore_n 0, 1) := by decide +kernel
theorem dJ6_numberOfLeadingZeros_0f7a4_61 : decode cJ6_numberOfLeadingZeros_0f7a4 61 = .ok (.iload_n 0, 1) := by decide +kernel
theorem dJ6_numberOfLeadingZeros_0f7a4_62 : decode cJ6_numberOfLeadingZeros_0f7a4 62 = .ok (.iconst 4, 1) := by decide +kernel
theorem dJ6_numberOfLeadingZeros_0f7a4_63 : decode cJ6_numberOfLeadingZeros_0f7a4 63 = .ok (.if_icmp .lt 10, 3) := by decide +kernel
theorem dJ6_numberOfLeadingZeros_0f7a4_66 : decode cJ6_numberOfLeadingZeros_0f7a4 66 = .ok (.iinc 1 (-2), 3) := by decide +kernel
theorem dJ6_numberOfLeadingZeros_0f7a4_69 : decode cJ6_numberOfLeadingZeros_0f7a4 69 = .ok (.iload_n 0, 1) := by decide +kernel
theorem dJ6_numberOfLeadingZeros_0f7a4_70 : decode cJ6_numberOfLeadingZeros_0f7a4 70 = .ok (.iconst 2, 1) := by decide +kernel
theorem dJ6_numberOfLeadingZeros_0f7a4_71 : decode cJ6_numberOfLeadingZeros_0f7a4 71 = .ok (.iushr, 1) := by decide +kernel
theorem dJ6_numberOfLeadingZeros_0f7a4_72 : decode cJ6_numberOfLeadingZeros_0f7a4 72 = .ok (.istore_n 0, 1) := by decide +kernel
theorem dJ6_numberOfLeadingZeros_0f7a4_73 : decode cJ6_numberOfLeadingZeros_0f7a4 73 = .ok (.iload_n 1, 1) := by decide +kernel
theorem dJ6_numberOfLeadingZeros_0f7a4_74 : decode cJ6_numberOfLeadingZeros_0f7a4 74 = .ok (.iload_n 0, 1) := by decide +kernel
theorem dJ6_numberOfLeadingZeros_0f7a4_75 : decode cJ6_numberOfLeadingZeros_0f7a4 75 = .ok (.iconst 1, 1) := by decide +kernel
theorem dJ6_numberOfLeadingZeros_0f7a4_76 : decode cJ6_numberOfLeadingZeros_0f7a4 76 = .ok (.iushr, 1) := by decide +kernel
theorem dJ6_numberOfLeadingZeros_0f7a4_77 : decode cJ6_numberOfLeadingZeros_0f7a4 77 = .ok (.isub, 1) := by decide +kernel
theorem dJ6_numberOfLeadingZeros_0f7a4_78 : decode cJ6_numberOfLeadingZeros_0f7a4 78 = .ok (.ireturn, 1) := by decide +kernel
theorem dJ6_numberOfTrailingZeros_0f7a4_0 : decode cJ6_numberOfTrailingZeros_0f7a4 0 = .ok (.iload_n 0, 1) := by decide +kernel
theorem dJ6_numberOfTrailingZeros_0f7a4_1 : decode cJ6_numberOfTrailingZeros_0f7a4 1 = .ok (.iconst (-1), 1) := by decide +kernel
theorem dJ6_numberOfTrailingZeros_0f7a4_2 : decode cJ6_numberOfTrailingZeros_0f7a4 2 = .ok (.ixor, 1) := by decide +kernel
theorem dJ6_numberOfTrailingZeros_0f7a4_3 : decode cJ6_numberOfTrailingZeros_0f7a4 3 = .ok (.iload_n 0, 1) := by decide +kernel
theorem dJ6_numberOfTrailingZeros_0f7a4_4 : decode cJ6_numberOfTrailingZeros_0f7a4 4 = .ok (.iconst 1, 1) := by decide +kernel
theorem dJ6_numberOfTrailingZeros_0f7a4_5 : decode cJ6_numberOfTrailingZeros_0f7a4 5 = .ok (.isub, 1) := by decide +kernel
theorem dJ6_numberOfTrailingZeros_0f7a4_6 : decode cJ6_numberOfTrailingZeros_0f7a4 6 = .ok (.iand, 1) := by decide +kernel
theorem dJ6_numberOfTrailingZeros_0f7a4_7 : decode cJ6_numberOfTrailingZeros_0f7a4 7 = .ok (.istore_n 0, 1) := by decide +kernel
theorem dJ6_numberOfTrailingZeros_0f7a4_8 : decode cJ6_numberOfTrailingZeros_0f7a4 8 = .ok (.iload_n 0, 1) := by decide +kernel
theorem dJ6_numberOfTrailingZeros_0f7a4_9 : decode cJ6_numberOfTrailingZeros_0f7a4 9 = .ok (.ifCond .gt 8, 3) := by decide +kernel
theorem dJ6_numberOfTrailingZeros_0f7a4_12 : decode cJ6_numberOfTrailingZeros_0f7a4 12 = .ok (.iload_n 0, 1) := by decide +kernel
theorem dJ6_numberOfTrailingZeros_0f7a4_13 : decode cJ6_numberOfTrailingZeros_0f7a4 13 = .ok (.bipush 32, 2) := by decide +kernel
theorem dJ6_numberOfTrailingZeros_0f7a4_15 : decode cJ6_numberOfTrailingZeros_0f7a4 15 = .ok (.iand, 1) := by decide +kernel
theorem dJ6_numberOfTrailingZeros_0f7a4_16 : decode cJ6_numberOfTrailingZeros_0f7a4 16 = .ok (.ireturn, 1) := by decide +kernel
theorem dJ6_numberOfTrailingZeros_0f7a4_17 : decode cJ6_numberOfTrailingZeros_0f7a4 17 = .ok (.iconst 1, 1) := by decide +kernel
theorem dJ6_numberOfTrailingZeros_0f7a4_18 : decode cJ6_numberOfTrailingZeros_0f7a4 18 = .ok (.istore_n 1, 1) := by decide +kernel
theorem dJ6_numberOfTrailingZeros_0f7a4_19 : decode cJ6_numberOfTrailingZeros_0f7a4 19 = .ok (.iload_n 0, 1) := by decide +kernel
theorem dJ6_numberOfTrailingZeros_0f7a4_20 : decode cJ6_numberOfTrailingZeros_0f7a4 20 = .ok (.ldc_w 264, 3) := by decide +kernel
theorem dJ6_numberOfTrailingZeros_0f7a4_23 : decode cJ6_numberOfTrailingZeros_0f7a4 23 = .ok (.if_icmp .le 11, 3) := by decide +kernel
theorem dJ6_numberOfTrailingZeros_0f7a4_26 : decode cJ6_numberOfTrailingZeros_0f7a4 26 = .ok (.iinc 1 16, 3) := by decide +kernel
theorem dJ6_numberOfTrailingZeros_0f7a4_29 : decode cJ6_numberOfTrailingZeros_0f7a4 29 = .ok (.iload_n 0, 1) := by decide +kernel
theorem dJ6_numberOfTrailingZeros_0f7a4_30 : decode cJ6_numberOfTrailingZeros_0f7a4 30 = .ok (.bipush 16, 2) := by decide +kernel
theorem dJ6_numberOfTrailingZeros_0f7a4_32 : decode cJ6_numberOfTrailingZeros_0f7a4 32 = .ok (.iushr, 1) := by decide +kernel
theorem dJ6_numberOfTrailingZeros_0f7a4_33 : decode cJ6_numberOfTrailingZeros_0f7a4 33 = .ok (.istore_n 0, 1) := by decide +kernel
theorem dJ6_numberOfTrailingZeros_0f7a4_34 : decode cJ6_numberOfTrailingZeros_0f7a4 34 = .ok (.iload_n 0, 1) := by decide +kernel
theorem dJ6_numberOfTrailingZeros_0f7a4_35 : decode cJ6_numberOfTrailingZeros_0f7a4 35 = .ok (.sipush 256, 3) := by decide +kernel
theorem dJ6_numberOfTrailingZeros_0f7a4_38 : decode cJ6_numberOfTrailingZeros_0f7a4 38 = .ok (.if_icmp .le 11, 3) := by decide +kernel
theorem dJ6_numberOfTrailingZeros_0f7a4_41 : decode cJ6_numberOfTrailingZeros_0f7a4 41 = .ok (.iinc 1 8, 3) := by decide +kernel
theorem dJ6_numberOfTrailingZeros_0f7a4_44 : decode cJ6_numberOfTrailingZeros_0f7a4 44 = .ok (.iload_n 0, 1) := by decide +kernel
theorem dJ6_numberOfTrailingZeros_0f7a4_45 : decode cJ6_numberOfTrailingZeros_0f7a4 45 = .ok (.bipush 8, 2) := by decide +kernel
theorem dJ6_numberOfTrailingZeros_0f7a4_47 : decode cJ6_numberOfTrailingZeros_0f7a4 47 = .ok (.iushr, 1) := by decide +kernel
theorem dJ6_numberOfTrailingZeros_0f7a4_48 : decode cJ6_numberOfTrailingZeros_0f7a4 48 = .ok (.istore_n 0, 1) := by decide +kernel
theorem dJ6_numberOfTrailingZeros_0f7a4_49 : decode cJ6_numberOfTrailingZeros_0f7a4 49 = .ok (.iload_n 0, 1) := by decide +kernel
theorem dJ6_numberOfTrailingZeros_0f7a4_50 : decode cJ6_numberOfTrailingZeros_0f7a4 50 = .ok (.bipush 16, 2) := by decide +kernel
theorem dJ6_numberOfTrailingZeros_0f7a4_52 : decode cJ6_numberOfTrailingZeros_0f7a4 52 = .ok (.if_icmp .le 10, 3) := by decide +kernel
theorem dJ6_numberOfTrailingZeros_0f7a4_55 : decode cJ6_numberOfTrailingZeros_0f7a4 55 = .ok (.iinc 1 4, 3) := by decide +kernel
theorem dJ6_numberOfTrailingZeros_0f7a4_58 : decode cJ6_numberOfTrailingZeros_0f7a4 58 = .ok (.iload_n 0, 1) := by decide +kernel
theorem dJ6_numberOfTrailingZeros_0f7a4_59 : decode cJ6_numberOfTrailingZeros_0f7a4 59 = .ok (.iconst 4, 1) := by decide +kernel
theorem dJ6_numberOfTrailingZeros_0f7a4_60 : decode cJ6_numberOfTrailingZeros_0f7a4 60 = .ok (.iushr, 1) := by decide +kernel
theorem dJ6_numberOfTrailingZeros_0f7a4_61 : decode cJ6_numberOfTrailingZeros_0f7a4 61 = .ok (.istore_n 0, 1) := by decide +kernel
theorem dJ6_numberOfTrailingZeros_0f7a4_62 : decode cJ6_numberOfTrailingZeros_0f7a4 62 = .ok (.iload_n 0, 1) := by decide +kernel
theorem dJ6_numberOfTrailingZeros_0f7a4_63 : decode cJ6_numberOfTrailingZeros_0f7a4 63 = .ok (.iconst 4, 1) := by decide +kernel
theorem dJ6_numberOfTrailingZeros_0f7a4_64 : decode cJ6_numberOfTrailingZeros_0f7a4 64 = .ok (.if_icmp .le 10, 3) := by decide +kernel
theorem dJ6_numberOfTrailingZeros_0f7a4_67 : decode cJ6_numberOfTrailingZeros_0f7a4 67 = .ok (.iinc 1 2, 3) := by decide +kernel
theorem dJ6_numberOfTrailingZeros_0f7a4_70 : decode cJ6_numberOfTrailingZeros_0f7a4 70 = .ok (.iload_n 0, 1) := by decide +kernel
theorem dJ6_numberOfTrailingZeros_0f7a4_71 : decode cJ6_numberOfTrailingZeros_0f7a4 71 = .ok (.iconst 2, 1) := by decide +kernel
theorem dJ6_numberOfTrailingZeros_0f7a4_72 : decode cJ6_numberOfTrailingZeros_0f7a4 72 = .ok (.iushr, 1) := by decide +kernel
theorem dJ6_numberOfTrailingZeros_0f7a4_73 : decode cJ6_numberOfTrailingZeros_0f7a4 73 = .ok (.istore_n 0, 1) := by decide +kernel
theorem dJ6_numberOfTrailingZeros_0f7a4_74 : decode cJ6_numberOfTrailingZeros_0f7a4 74 = .ok (.iload_n 1, 1) := by decide +kernel
theorem dJ6_numberOfTrailingZeros_0f7a4_75 : decode cJ6_numberOfTrailingZeros_0f7a4 75 = .ok (.iload_n 0, 1) := by decide +kernel
theorem dJ6_numberOfTrailingZeros_0f7a4_76 : decode cJ6_numberOfTrailingZeros_0f7a4 76 = .ok (.iconst 1, 1) := by decide +kernel
theorem dJ6_numberOfTrailingZeros_0f7a4_77 : decode cJ6_numberOfTrailingZeros_0f7a4 77 = .ok (.iushr, 1) := by decide +kernel
theorem dJ6_numberOfTrailingZeros_0f7a4_78 : decode cJ6_numberOfTrailingZeros_0f7a4 78 = .ok (.iadd, 1) := by decide +kernel
theorem dJ6_numberOfTrailingZeros_0f7a4_79 : decode cJ6_numberOfTrailingZeros_0f7a4 79 = .ok (.ireturn, 1) := by decide +kernel
theorem dJ6_bitCount_0f7a4_0 : decode cJ6_bitCount_0f7a4 0 = .ok (.iload_n 0, 1) := by decide +kernel
theorem dJ6_bitCount_0f7a4_1 : decode cJ6_bitCount_0f7a4 1 = .ok (.iload_n 0, 1) := by decide +kernel
theorem dJ6_bitCount_0f7a4_2 : decode cJ6_bitCount_0f7a4 2 = .ok (.iconst 1, 1) := by decide +kernel
theorem dJ6_bitCount_0f7a4_3 : decode cJ6_bitCount_0f7a4 3 = .ok (.iushr, 1) := by decide +kernel
theorem dJ6_bitCount_0f7a4_4 : decode cJ6_bitCount_0f7a4 4 = .ok (.ldc_w 265, 3) := by decide +kernel
theorem dJ6_bitCount_0f7a4_7 : decode cJ6_bitCount_0f7a4 7 = .ok (.iand, 1) := by decide +kernel
theorem dJ6_bitCount_0f7a4_8 : decode cJ6_bitCount_0f7a4 8 = .ok (.isub, 1) := by decide +kernel
theorem dJ6_bitCount_0f7a4_9 : decode cJ6_bitCount_0f7a4 9 = .ok (.istore_n 0, 1) := by decide +kernel
theorem dJ6_bitCount_0f7a4_10 : decode cJ6_bitCount_0f7a4 10 = .ok (.iload_n 0, 1) := by decide +kernel
theorem dJ6_bitCount_0f7a4_11 : decode cJ6_bitCount_0f7a4 11 = .ok (.ldc_w 266, 3) := by decide +kernel
theorem dJ6_bitCount_0f7a4_14 : decode cJ6_bitCount_0f7a4 14 = .ok (.iand, 1) := by decide +kernel
theorem dJ6_bitCount_0f7a4_15 : decode cJ6_bitCount_0f7a4 15 = .ok (.iload_n 0, 1) := by decide +kernel
theorem dJ6_bitCount_0f7a4_16 : decode cJ6_bitCount_0f7a4 16 = .ok (.iconst 2, 1) := by decide +kernel
theorem dJ6_bitCount_0f7a4_17 : decode cJ6_bitCount_0f7a4 17 = .ok (.iushr, 1) := by decide +kernel
theorem dJ6_bitCount_0f7a4_18 : decode cJ6_bitCount_0f7a4 18 = .ok (.ldc_w 266, 3) := by decide +kernel
theorem dJ6_bitCount_0f7a4_21 : decode cJ6_bitCount_0f7a4 21 = .ok (.iand, 1) := by decide +kernel
theorem dJ6_bitCount_0f7a4_22 : decode cJ6_bitCount_0f7a4 22 = .ok (.iadd, 1) := by decide +kernel
theorem dJ6_bitCount_0f7a4_23 : decode cJ6_bitCount_0f7a4 23 = .ok (.istore_n 0, 1) := by decide +kernel
theorem dJ6_bitCount_0f7a4_24 : decode cJ6_bitCount_0f7a4 24 = .ok (.iload_n 0, 1) := by decide +kernel
theorem dJ6_bitCount_0f7a4_25 : decode cJ6_bitCount_0f7a4 25 = .ok (.iload_n 0, 1) := by decide +kernel
theorem dJ6_bitCount_0f7a4_26 : decode cJ6_bitCount_0f7a4 26 = .ok (.iconst 4, 1) := by decide +kernel
theorem dJ6_bitCount_0f7a4_27 : decode cJ6_bitCount_0f7a4 27 = .ok (.iushr, 1) := by decide +kernel
theorem dJ6_bitCount_0f7a4_28 : decode cJ6_bitCount_0f7a4 28 = .ok (.iadd, 1) := by decide +kernel
theorem dJ6_bitCount_0f7a4_29 : decode cJ6_bitCount_0f7a4 29 = .ok (.ldc_w 267, 3) := by decide +kernel
theorem dJ6_bitCount_0f7a4_32 : decode cJ6_bitCount_0f7a4 32 = .ok (.iand, 1) := by decide +kernel
theorem dJ6_bitCount_0f7a4_33 : decode cJ6_bitCount_0f7a4 33 = .ok (.istore_n 0, 1) := by decide +kernel
theorem dJ6_bitCount_0f7a4_34 : decode cJ6_bitCount_0f7a4 34 = .ok (.iload_n 0, 1) := by decide +kernel
theorem dJ6_bitCount_0f7a4_35 : decode cJ6_bitCount_0f7a4 35 = .ok (.iload_n 0, 1) := by decide +kernel
theorem dJ6_bitCount_0f7a4_36 : decode cJ6_bitCount_0f7a4 36 = .ok (.bipush 8, 2) := by decide +kernel
theorem dJ6_bitCount_0f7a4_38 : decode cJ6_bitCount_0f7a4 38 = .ok (.iushr, 1) := by decide +kernel
theorem dJ6_bitCount_0f7a4_39 : decode cJ6_bitCount_0f7a4 39 = .ok (.iadd, 1) := by decide +kernel
theorem dJ6_bitCount_0f7a4_40 : decode cJ6_bitCount_0f7a4 40 = .ok (.istore_n 0, 1) := by decide +kernel
theorem dJ6_bitCount_0f7a4_41 : decode cJ6_bitCount_0f7a4 41 = .ok (.iload_n 0, 1) := by decide +kernel
theorem dJ6_bitCount_0f7a4_42 : decode cJ6_bitCount_0f7a4 42 = .ok (.iload_n 0, 1) := by decide +kernel
theorem dJ6_bitCount_0f7a4_43 : decode cJ6_bitCount_0f7a4 43 = .ok (.bipush 16, 2) := by decide +kernel
theorem dJ6_bitCount_0f7a4_45 : decode cJ6_bitCount_0f7a4 45 = .ok (.iushr, 1) := by decide +kernel
theorem dJ6_bitCount_0f7a4_46 : decode cJ6_bitCount_0f7a4 46 = .ok (.iadd, 1) := by decide +kernel
theorem dJ6_bitCount_0f7a4_47 : decode cJ6_bitCount_0f7a4 47 = .ok (.istore_n 0, 1) := by decide +kernel
theorem dJ6_bitCount_0f7a4_48 : decode cJ6_bitCount_0f7a4 48 = .ok (.iload_n 0, 1) := by decide +kernel
theorem dJ6_bitCount_0f7a4_49 : decode cJ6_bitCount_0f7a4 49 = .ok (.bipush 63, 2) := by decide +kernel
theorem dJ6_bitCount_0f7a4_51 : decode cJ6_bitCount_0f7a4 51 = .ok (.iand, 1) := by decide +kernel
theorem dJ6_bitCount_0f7a4_52 : decode cJ6_bitCount_0f7a4 52 = .ok (.ireturn, 1) := by decide +kernel
theorem dJ9_max_7cf53_0 : decode cJ9_max_7cf53 0 = .ok (.iload_n 0, 1) := by decide +kernel
theorem dJ9_max_7cf53_1 : decode cJ9_max_7cf53 1 = .ok (.iload_n 1, 1) := by decide +kernel
theorem dJ9_max_7cf53_2 : decode cJ9_max_7cf53 2 = .ok (.if_icmp .lt 7, 3) := by decide +kernel
theorem dJ9_max_7cf53_5 : decode cJ9_max_7cf53 5 = .ok (.iload_n 0, 1) := by decide +kernel
theorem dJ9_max_7cf53_6 : decode cJ9_max_7cf53 6 = .ok (.goto 4, 3) := by decide +kernel
theorem dJ9_max_7cf53_9 : decode cJ9_max_7cf53 9 = .ok (.iload_n 1, 1) := by decide +kernel
theorem dJ9_max_7cf53_10 : decode cJ9_max_7cf53 10 = .ok (.ireturn, 1) := by decide +kernel
theorem dJ9_min_7cf53_0 : decode cJ9_min_7cf53 0 = .ok (.iload_n 0, 1) := by decide +kernel
theorem dJ9_min_7cf53_1 : decode cJ9_min_7cf53 1 = .ok (.iload_n 1, 1) := by decide +kernel
theorem dJ9_min_7cf53_2 : decode cJ9_min_7cf53 2 = .ok (.if_icmp .gt 7, 3) := by decide +kernel
theorem dJ9_min_7cf53_5 : decode cJ9_min_7cf53 5 = .ok (.iload_n 0, 1) := by decide +kernel
theorem dJ9_min_7cf53_6 : decode cJ9_min_7cf53 6 = .ok (.goto 4, 3) := by decide +kernel
theorem dJ9_min_7cf53_9 : decode cJ9_min_7cf53 9 = .ok (.iload_n 1, 1) := by decide +kernel
theorem dJ9_min_7cf53_10 : decode cJ9_min_7cf53 10 = .ok (.ireturn, 1) := by decide +kernel

