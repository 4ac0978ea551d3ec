theorem dX0_firstSample_0 : decode cX0_firstSample 0 = .ok (.iload_n 1, 1) := by decide +kernel
theorem dX0_firstSample_1 : decode cX0_firstSample 1 = .ok (.aload_n 0, 1) := by decide +kernel
theorem dX0_firstSample_2 : decode cX0_firstSample 2 = .ok (.invokevirtual 127, 3) := by decide +kernel
theorem dX0_firstSample_5 : decode cX0_firstSample 5 = .ok (.if_icmp .lt 10, 3) := by decide +kernel
theorem dX0_firstSample_8 : decode cX0_firstSample 8 = .ok (.iload_n 1, 1) := by decide +kernel
theorem dX0_firstSample_9 : decode cX0_firstSample 9 = .ok (.aload_n 0, 1) := by decide +kernel
theorem dX0_firstSample_10 : decode cX0_firstSample 10 = .ok (.invokevirtual 127, 3) := by decide +kernel
theorem dX0_firstSample_13 : decode cX0_firstSample 13 = .ok (.isub, 1) := by decide +kernel
theorem dX0_firstSample_14 : decode cX0_firstSample 14 = .ok (.ireturn, 1) := by decide +kernel
theorem dX0_firstSample_15 : decode cX0_firstSample 15 = .ok (.iload_n 1, 1) := by decide +kernel
theorem dX0_firstSample_16 : decode cX0_firstSample 16 = .ok (.iload_n 1, 1) := by decide +kernel
theorem dX0_firstSample_17 : decode cX0_firstSample 17 = .ok (.aload_n 0, 1) := by decide +kernel
theorem dX0_firstSample_18 : decode cX0_firstSample 18 = .ok (.getfield 9, 3) := by decide +kernel
theorem dX0_firstSample_21 : decode cX0_firstSample 21 = .ok (.iconst 1, 1) := by decide +kernel
theorem dX0_firstSample_22 : decode cX0_firstSample 22 = .ok (.isub, 1) := by decide +kernel
theorem dX0_firstSample_23 : decode cX0_firstSample 23 = .ok (.idiv, 1) := by decide +kernel
theorem dX0_firstSample_24 : decode cX0_firstSample 24 = .ok (.iadd, 1) := by decide +kernel
theorem dX0_firstSample_25 : decode cX0_firstSample 25 = .ok (.ireturn, 1) := by decide +kernel
set_option maxRecDepth 20000 in
theorem ggX0_secondSample_X0_firstSample : GoodIn wsX0_secondSample wsX0_firstSample := goodIn_r _ [6, 1, 7, 8, 9, 5, 10, 11, 12, 13, 14, 15, 16, 17, 18, 19, 20, 21, 22] (by decide +kernel) (by decide +kernel)
set_option maxRecDepth 20000 in
theorem gX0_secondSample_X0_firstSample : GoodIn wsX0_secondSample (wsV RX0 96 RX0 yX0_firstSample wsX0_firstSample) := goodIn_app (goodIn_of _ (by decide +kernel)) ggX0_secondSample_X0_firstSample
set_option maxRecDepth 20000 in
theorem ggX0_secondSample_X0_rightwardEdges : GoodIn wsX0_secondSample wsX0_rightwardEdges := goodIn_r _ [10, 11, 1, 12, 13, 14, 15, 16, 17, 18, 19, 20, 21, 22] (by decide +kernel) (by decide +kernel)
set_option maxRecDepth 20000 in
theorem gX0_secondSample_X0_rightwardEdges : GoodIn wsX0_secondSample (wsV RX0 127 RX0 yX0_rightwardEdges wsX0_rightwardEdges) := goodIn_app (goodIn_of _ (by decide +kernel)) ggX0_secondSample_X0_rightwardEdges
theorem dX0_secondSample_0 : decode cX0_secondSample 0 = .ok (.aload_n 0, 1) := by decide +kernel
theorem dX0_secondSample_1 : decode cX0_secondSample 1 = .ok (.iload_n 1, 1) := by decide +kernel
theorem dX0_secondSample_2 : decode cX0_secondSample 2 = .ok (.invokevirtual 96, 3) := by decide +kernel
theorem dX0_secondSample_5 : decode cX0_secondSample 5 = .ok (.iload_n 1, 1) := by decide +kernel
theorem dX0_secondSample_6 : decode cX0_secondSample 6 = .ok (.aload_n 0, 1) := by decide +kernel
theorem dX0_secondSample_7 : decode cX0_secondSample 7 = .ok (.invokevirtual 127, 3) := by decide +kernel
theorem dX0_secondSample_10 : decode cX0_secondSample 10 = .ok (.if_icmp .ge 7, 3) := by decide +kernel
theorem dX0_secondSample_13 : decode cX0_secondSample 13 = .ok (.iconst 1, 1) := by decide +kernel
theorem dX0_secondSample_14 : decode cX0_secondSample 14 = .ok (.goto 7, 3) := by decide +kernel
theorem dX0_secondSample_17 : decode cX0_secondSample 17 = .ok (.aload_n 0, 1) := by decide +kernel
theorem dX0_secondSample_18 : decode cX0_secondSample 18 = .ok (.getfield 9, 3) := by decide +kernel
theorem dX0_secondSample_21 : decode cX0_secondSample 21 = .ok (.iadd, 1) := by decide +kernel
theorem dX0_secondSample_22 : decode cX0_secondSample 22 = .ok (.ireturn, 1) := by decide +kernel
set_option maxRecDepth 20000 in
theorem ggX0_isCrossed_X0_firstSample : GoodIn wsX0_isCrossed wsX0_firstSample := goodIn_r _ [5, 6, 7, 8, 9, 4, 10, 11, 22, 23, 24, 25, 26, 27, 28, 29, 30, 31, 32] (by decide +kernel) (by decide +kernel)
set_option maxRecDepth 20000 in
theorem gX0_isCrossed_X0_firstSample : GoodIn wsX0_isCrossed (wsV RX0 96 RX0 yX0_firstSample wsX0_firstSample) := goodIn_app (goodIn_of _ (by decide +kernel)) ggX0_isCrossed_X0_firstSample
set_option maxRecDepth 20000 in
theorem ggX0_isCrossed_X0_isAbove : GoodIn wsX0_isCrossed wsX0_isAbove := goodIn_r _ [15, 16, 17, 22, 23, 24, 25, 26, 27, 28, 29, 30, 31, 32] (by decide +kernel) (by decide +kernel)
set_option maxRecDepth 20000 in
theorem gX0_isCrossed_X0_isAbove : GoodIn wsX0_isCrossed (wsV RX0 130 RX0 yX0_isAbove wsX0_isAbove) := goodIn_app (goodIn_of _ (by decide +kernel)) ggX0_isCrossed_X0_isAbove
set_option maxRecDepth 20000 in
theorem ggX0_isCrossed_X0_secondSample : GoodIn wsX0_isCrossed wsX0_secondSample := goodIn_r _ [21, 6, 1, 2, 3, 4, 5, 7, 8, 9, 10, 11, 22, 23, 24, 25, 26, 27, 28, 29, 30, 31, 32] (by decide +kernel) (by decide +kernel)
set_option maxRecDepth 20000 in
theorem gX0_isCrossed_X0_secondSample : GoodIn wsX0_isCrossed (wsV RX0 99 RX0 yX0_secondSample wsX0_secondSample) := goodIn_app (goodIn_of _ (by decide +kernel)) ggX0_isCrossed_X0_secondSample
theorem dX0_isCrossed_0 : decode cX0_isCrossed 0 = .ok (.aload_n 0, 1) := by decide +kernel
theorem dX0_isCrossed_1 : decode cX0_isCrossed 1 = .ok (.aload_n 0, 1) := by decide +kernel
theorem dX0_isCrossed_2 : decode cX0_isCrossed 2 = .ok (.iload_n 1, 1) := by decide +kernel
theorem dX0_isCrossed_3 : decode cX0_isCrossed 3 = .ok (.invokevirtual 96, 3) := by decide +kernel
theorem dX0_isCrossed_6 : decode cX0_isCrossed 6 = .ok (.invokevirtual 130, 3) := by decide +kernel
theorem dX0_isCrossed_9 : decode cX0_isCrossed 9 = .ok (.aload_n 0, 1) := by decide +kernel
theorem dX0_isCrossed_10 : decode cX0_isCrossed 10 = .ok (.aload_n 0, 1) := by decide +kernel
theorem dX0_isCrossed_11 : decode cX0_isCrossed 11 = .ok (.iload_n 1, 1) := by decide +kernel
theorem dX0_isCrossed_12 : decode cX0_isCrossed 12 = .ok (.invokevirtual 99, 3) := by decide +kernel
theorem dX0_isCrossed_15 : decode cX0_isCrossed 15 = .ok (.invokevirtual 130, 3) := by decide +kernel
theorem dX0_isCrossed_18 : decode cX0_isCrossed 18 = .ok (.if_icmp .eq 7, 3) := by decide +kernel
theorem dX0_isCrossed_21 : decode cX0_isCrossed 21 = .ok (.iconst 1, 1) := by decide +kernel
theorem dX0_isCrossed_22 : decode cX0_isCrossed 22 = .ok (.goto 4, 3) := by decide +kernel
theorem dX0_isCrossed_25 : decode cX0_isCrossed 25 = .ok (.iconst 0, 1) := by decide +kernel
theorem dX0_isCrossed_26 : decode cX0_isCrossed 26 = .ok (.ireturn, 1) := by decide +kernel
set_option maxRecDepth 20000 in
theorem ggX0_drawLines_J7_fill_53178 : GoodIn wsX0_drawLines wsJ7_fill_53178 := goodIn_r _ [8] (by decide +kernel) (by decide +kernel)
set_option maxRecDepth 20000 in
theorem gX0_drawLines_J7_fill_53178 : GoodIn wsX0_drawLines (va_wsS RX0 48 yJ7_fill_53178 wsJ7_fill_53178) := goodIn_app (goodIn_of _ (by decide +kernel)) ggX0_drawLines_J7_fill_53178
set_option maxRecDepth 20000 in
theorem ggX0_drawLines_X0_drawCell : GoodIn wsX0_drawLines wsX0_drawCell := goodIn_r _ [13, 1, 2, 14, 15, 16, 12, 17, 18, 19, 20, 21, 22, 23, 24, 25, 4, 26, 27, 28, 29, 30, 31, 32, 33, 34, 35, 36, 37, 38, 39, 40, 41, 42, 43, 44, 45, 46, 47, 48, 49, 50, 51, 52, 53, 54, 55, 56, 57, 58, 3, 59, 60, 61, 62, 63, 64, 65, 66, 67, 68, 69, 70, 71, 72, 73, 74, 75] (by decide +kernel) (by decide +kernel)
set_option maxRecDepth 20000 in
theorem gX0_drawLines_X0_drawCell : GoodIn wsX0_drawLines (wsV RX0 133 RX0 yX0_drawCell wsX0_drawCell) := goodIn_app (goodIn_of _ (by decide +kernel)) ggX0_drawLines_X0_drawCell
theorem dX0_drawLines_0 : decode cX0_drawLines 0 = .ok (.aload_n 0, 1) := by decide +kernel
theorem dX0_drawLines_1 : decode cX0_drawLines 1 = .ok (.getfield 23, 3) := by decide +kernel
theorem dX0_drawLines_4 : decode cX0_drawLines 4 = .ok (.iconst (-1), 1) := by decide +kernel
theorem dX0_drawLines_5 : decode cX0_drawLines 5 = .ok (.invokestatic 48, 3) := by decide +kernel
theorem dX0_drawLines_8 : decode cX0_drawLines 8 = .ok (.aload_n 0, 1) := by decide +kernel
theorem dX0_drawLines_9 : decode cX0_drawLines 9 = .ok (.getfield 26, 3) := by decide +kernel
theorem dX0_drawLines_12 : decode cX0_drawLines 12 = .ok (.iconst (-1), 1) := by decide +kernel
theorem dX0_drawLines_13 : decode cX0_drawLines 13 = .ok (.invokestatic 48, 3) := by decide +kernel
theorem dX0_drawLines_16 : decode cX0_drawLines 16 = .ok (.iconst 0, 1) := by decide +kernel
theorem dX0_drawLines_17 : decode cX0_drawLines 17 = .ok (.istore_n 1, 1) := by decide +kernel
theorem dX0_drawLines_18 : decode cX0_drawLines 18 = .ok (.iload_n 1, 1) := by decide +kernel
theorem dX0_drawLines_19 : decode cX0_drawLines 19 = .ok (.iconst 1, 1) := by decide +kernel
theorem dX0_drawLines_20 : decode cX0_drawLines 20 = .ok (.iadd, 1) := by decide +kernel
theorem dX0_drawLines_21 : decode cX0_drawLines 21 = .ok (.aload_n 0, 1) := by decide +kernel
theorem dX0_drawLines_22 : decode cX0_drawLines 22 = .ok (.getfield 13, 3) := by decide +kernel
theorem dX0_drawLines_25 : decode cX0_drawLines 25 = .ok (.if_icmp .ge 33, 3) := by decide +kernel
theorem dX0_drawLines_28 : decode cX0_drawLines 28 = .ok (.iconst 0, 1) := by decide +kernel
theorem dX0_drawLines_29 : decode cX0_drawLines 29 = .ok (.istore_n 2, 1) := by decide +kernel
theorem dX0_drawLines_30 : decode cX0_drawLines 30 = .ok (.iload_n 2, 1) := by decide +kernel
theorem dX0_drawLines_31 : decode cX0_drawLines 31 = .ok (.iconst 1, 1) := by decide +kernel
theorem dX0_drawLines_32 : decode cX0_drawLines 32 = .ok (.iadd, 1) := by decide +kernel
theorem dX0_drawLines_33 : decode cX0_drawLines 33 = .ok (.aload_n 0, 1) := by decide +kernel
theorem dX0_drawLines_34 : decode cX0_drawLines 34 = .ok (.getfield 9, 3) := by decide +kernel
theorem dX0_drawLines_37 : decode cX0_drawLines 37 = .ok (.if_icmp .ge 15, 3) := by decide +kernel
theorem dX0_drawLines_40 : decode cX0_drawLines 40 = .ok (.aload_n 0, 1) := by decide +kernel
theorem dX0_drawLines_41 : decode cX0_drawLines 41 = .ok (.iload_n 2, 1) := by decide +kernel
theorem dX0_drawLines_42 : decode cX0_drawLines 42 = .ok (.iload_n 1, 1) := by decide +kernel
theorem dX0_drawLines_43 : decode cX0_drawLines 43 = .ok (.invokevirtual 133, 3) := by decide +kernel
theorem dX0_drawLines_46 : decode cX0_drawLines 46 = .ok (.iinc 2 1, 3) := by decide +kernel
theorem dX0_drawLines_49 : decode cX0_drawLines 49 = .ok (.goto (-19), 3) := by decide +kernel
theorem dX0_drawLines_52 : decode cX0_drawLines 52 = .ok (.iinc 1 1, 3) := by decide +kernel
theorem dX0_drawLines_55 : decode cX0_drawLines 55 = .ok (.goto (-37), 3) := by decide +kernel
theorem dX0_drawLines_58 : decode cX0_drawLines 58 = .ok (.return_, 1) := by decide +kernel
set_option maxRecDepth 20000 in
theorem ggX0_drawCell_X0_cornersAbove : GoodIn wsX0_drawCell wsX0_cornersAbove := goodIn_r _ [7, 8, 9, 10, 6, 11, 12, 13, 14, 15, 16, 17, 18, 19, 20, 21, 22, 57, 58, 59, 60, 61, 62, 63, 64, 65, 66, 67] (by decide +kernel) (by decide +kernel)
set_option maxRecDepth 20000 in
theorem gX0_drawCell_X0_cornersAbove : GoodIn wsX0_drawCell (wsV RX0 137 RX0 yX0_cornersAbove wsX0_cornersAbove) := goodIn_app (goodIn_of _ (by decide +kernel)) ggX0_drawCell_X0_cornersAbove
set_option maxRecDepth 20000 in
theorem ggX0_drawCell_X0_isMiddleAbove : GoodIn wsX0_drawCell wsX0_isMiddleAbove := goodIn_r _ [26, 21, 27, 22, 8, 9, 10, 6, 11, 12, 13, 14, 15, 16, 57, 58, 59, 60, 61, 62, 63, 64, 65, 66, 67] (by decide +kernel) (by decide +kernel)
set_option maxRecDepth 20000 in
theorem gX0_drawCell_X0_isMiddleAbove : GoodIn wsX0_drawCell (wsV RX0 140 RX0 yX0_isMiddleAbove wsX0_isMiddleAbove) := goodIn_app (goodIn_of _ (by decide +kernel)) ggX0_drawCell_X0_isMiddleAbove
set_option maxRecDepth 20000 in
theorem ggX0_drawCell_X0_entersAt : GoodIn wsX0_drawCell wsX0_entersAt := goodIn_r _ [30, 31, 32, 6, 33] (by decide +kernel) (by decide +kernel)
set_option maxRecDepth 20000 in
theorem gX0_drawCell_X0_entersAt : GoodIn wsX0_drawCell (va_wsS RX0 144 yX0_entersAt wsX0_entersAt) := goodIn_app (goodIn_of _ (by decide +kernel)) ggX0_drawCell_X0_entersAt
set_option maxRecDepth 20000 in
theorem ggX0_drawCell_X0_sideEdge : GoodIn wsX0_drawCell wsX0_sideEdge := goodIn_r _ [37, 38, 39, 40, 6, 41, 16, 42, 43, 44, 45, 46, 47, 48, 49, 50, 57, 58, 59, 60, 61, 62, 63, 64, 65, 66, 67] (by decide +kernel) (by decide +kernel)
set_option maxRecDepth 20000 in
theorem gX0_drawCell_X0_sideEdge : GoodIn wsX0_drawCell (wsV RX0 147 RX0 yX0_sideEdge wsX0_sideEdge) := goodIn_app (goodIn_of _ (by decide +kernel)) ggX0_drawCell_X0_sideEdge
set_option maxRecDepth 20000 in
theorem ggX0_drawCell_X0_exitFrom : GoodIn wsX0_drawCell wsX0_exitFrom := goodIn_r _ [53, 54, 55, 6, 56, 31, 32, 33] (by decide +kernel) (by decide +kernel)
set_option maxRecDepth 20000 in
theorem gX0_drawCell_X0_exitFrom : GoodIn wsX0_drawCell (va_wsS RX0 151 yX0_exitFrom wsX0_exitFrom) := goodIn_app (goodIn_of _ (by decide +kernel)) ggX0_drawCell_X0_exitFrom
theorem dX0_drawCell_0 : decode cX0_drawCell 0 = .ok (.aload_n 0, 1) := by decide +kernel
theorem dX0_drawCell_1 : decode cX0_drawCell 1 = .ok (.iload_n 1, 1) := by decide +kernel
theorem dX0_drawCell_2 : decode cX0_drawCell 2 = .ok (.iload_n 2, 1) := by decide +kernel
theorem dX0_drawCell_3 : decode cX0_drawCell 3 = .ok (.invokevirtual 137, 3) := by decide +kernel
theorem dX0_drawCell_6 : decode cX0_drawCell 6 = .ok (.istore_n 3, 1) := by decide +kernel
theorem dX0_drawCell_7 : decode cX0_drawCell 7 = .ok (.iload_n 3, 1) := by decide +kernel
theorem dX0_drawCell_8 : decode cX0_drawCell 8 = .ok (.iconst 5, 1) := by decide +kernel
theorem dX0_drawCell_9 : decode cX0_drawCell 9 = .ok (.if_icmp .eq 9, 3) := by decide +kernel
theorem dX0_drawCell_12 : decode cX0_drawCell 12 = .ok (.iload_n 3, 1) := by decide +kernel
theorem dX0_drawCell_13 : decode cX0_drawCell 13 = .ok (.bipush 10, 2) := by decide +kernel
theorem dX0_drawCell_15 : decode cX0_drawCell 15 = .ok (.if_icmp .ne 7, 3) := by decide +kernel
theorem dX0_drawCell_18 : decode cX0_drawCell 18 = .ok (.iconst 1, 1) := by decide +kernel
theorem dX0_drawCell_19 : decode cX0_drawCell 19 = .ok (.goto 4, 3) := by decide +kernel
theorem dX0_drawCell_22 : decode cX0_drawCell 22 = .ok (.iconst 0, 1) := by decide +kernel
theorem dX0_drawCell_23 : decode cX0_drawCell 23 = .ok (.istore 4, 2) := by decide +kernel
theorem dX0_drawCell_25 : decode cX0_drawCell 25 = .ok (.iload 4, 2) := by decide +kernel
theorem dX0_drawCell_27 : decode cX0_drawCell 27 = .ok (.ifCond .eq 16, 3) := by decide +kernel
theorem dX0_drawCell_30 : decode cX0_drawCell 30 = .ok (.aload_n 0, 1) := by decide +kernel
theorem dX0_drawCell_31 : decode cX0_drawCell 31 = .ok (.iload_n 1, 1) := by decide +kernel
theorem dX0_drawCell_32 : decode cX0_drawCell 32 = .ok (.iload_n 2, 1) := by decide +kernel
theorem dX0_drawCell_33 : decode cX0_drawCell 33 = .ok (.invokevirtual 140, 3) := by decide +kernel
theorem dX0_drawCell_36 : decode cX0_drawCell 36 = .ok (.ifCond .eq 7, 3) := by decide +kernel
theorem dX0_drawCell_39 : decode cX0_drawCell 39 = .ok (.iconst 1, 1) := by decide +kernel
theorem dX0_drawCell_40 : decode cX0_drawCell 40 = .ok (.goto 4, 3) := by decide +kernel
theorem dX0_drawCell_43 : decode cX0_drawCell 43 = .ok (.iconst 3, 1) := by decide +kernel
theorem dX0_drawCell_44 : decode cX0_drawCell 44 = .ok (.istore 5, 2) := by decide +kernel
theorem dX0_drawCell_46 : decode cX0_drawCell 46 = .ok (.iconst 0, 1) := by decide +kernel
theorem dX0_drawCell_47 : decode cX0_drawCell 47 = .ok (.istore 6, 2) := by decide +kernel
theorem dX0_drawCell_49 : decode cX0_drawCell 49 = .ok (.iload 6, 2) := by decide +kernel
theorem dX0_drawCell_51 : decode cX0_drawCell 51 = .ok (.iconst 4, 1) := by decide +kernel
theorem dX0_drawCell_52 : decode cX0_drawCell 52 = .ok (.if_icmp .ge 62, 3) := by decide +kernel
theorem dX0_drawCell_55 : decode cX0_drawCell 55 = .ok (.iload_n 3, 1) := by decide +kernel
theorem dX0_drawCell_56 : decode cX0_drawCell 56 = .ok (.iload 6, 2) := by decide +kernel
theorem dX0_drawCell_58 : decode cX0_drawCell 58 = .ok (.invokestatic 144, 3) := by decide +kernel
theorem dX0_drawCell_61 : decode cX0_drawCell 61 = .ok (.ifCond .eq 47, 3) := by decide +kernel
theorem dX0_drawCell_64 : decode cX0_drawCell 64 = .ok (.aload_n 0, 1) := by decide +kernel
theorem dX0_drawCell_65 : decode cX0_drawCell 65 = .ok (.iload_n 1, 1) := by decide +kernel
theorem dX0_drawCell_66 : decode cX0_drawCell 66 = .ok (.iload_n 2, 1) := by decide +kernel
theorem dX0_drawCell_67 : decode cX0_drawCell 67 = .ok (.iload 6, 2) := by decide +kernel
theorem dX0_drawCell_69 : decode cX0_drawCell 69 = .ok (.invokevirtual 147, 3) := by decide +kernel
theorem dX0_drawCell_72 : decode cX0_drawCell 72 = .ok (.istore 7, 2) := by decide +kernel
theorem dX0_drawCell_74 : decode cX0_drawCell 74 = .ok (.aload_n 0, 1) := by decide +kernel
theorem dX0_drawCell_75 : decode cX0_drawCell 75 = .ok (.iload_n 1, 1) := by decide +kernel
theorem dX0_drawCell_76 : decode cX0_drawCell 76 = .ok (.iload_n 2, 1) := by decide +kernel
theorem dX0_drawCell_77 : decode cX0_drawCell 77 = .ok (.iload_n 3, 1) := by decide +kernel
theorem dX0_drawCell_78 : decode cX0_drawCell 78 = .ok (.iload 6, 2) := by decide +kernel
theorem dX0_drawCell_80 : decode cX0_drawCell 80 = .ok (.iload 5, 2) := by decide +kernel
theorem dX0_drawCell_82 : decode cX0_drawCell 82 = .ok (.invokestatic 151, 3) := by decide +kernel
theorem dX0_drawCell_85 : decode cX0_drawCell 85 = .ok (.invokevirtual 147, 3) := by decide +kernel
theorem dX0_drawCell_88 : decode cX0_drawCell 88 = .ok (.istore 8, 2) := by decide +kernel
theorem dX0_drawCell_90 : decode cX0_drawCell 90 = .ok (.aload_n 0, 1) := by decide +kernel
theorem dX0_drawCell_91 : decode cX0_drawCell 91 = .ok (.getfield 23, 3) := by decide +kernel
theorem dX0_drawCell_94 : decode cX0_drawCell 94 = .ok (.iload 7, 2) := by decide +kernel
theorem dX0_drawCell_96 : decode cX0_drawCell 96 = .ok (.iload 8, 2) := by decide +kernel
theorem dX0_drawCell_98 : decode cX0_drawCell 98 = .ok (.iastore, 1) := by decide +kernel
theorem dX0_drawCell_99 : decode cX0_drawCell 99 = .ok (.aload_n 0, 1) := by decide +kernel
theorem dX0_drawCell_100 : decode cX0_drawCell 100 = .ok (.getfield 26, 3) := by decide +kernel
theorem dX0_drawCell_103 : decode cX0_drawCell 103 = .ok (.iload 8, 2) := by decide +kernel
theorem dX0_drawCell_105 : decode cX0_drawCell 105 = .ok (.iload 7, 2) := by decide +kernel
theorem dX0_drawCell_107 : decode cX0_drawCell 107 = .ok (.iastore, 1) := by decide +kernel
theorem dX0_drawCell_108 : decode cX0_drawCell 108 = .ok (.iinc 6 1, 3) := by decide +kernel
theorem dX0_drawCell_111 : decode cX0_drawCell 111 = .ok (.goto (-62), 3) := by decide +kernel
theorem dX0_drawCell_114 : decode cX0_drawCell 114 = .ok (.return_, 1) := by decide +kernel
set_option maxRecDepth 20000 in
theorem ggX0_cornersAbove_X0_cornerSample : GoodIn wsX0_cornersAbove wsX0_cornerSample := goodIn_r _ [5, 6, 7, 8, 4, 9, 10, 17, 18, 19, 20, 21, 22, 23, 24, 25, 26, 27] (by decide +kernel) (by decide +kernel)
set_option maxRecDepth 20000 in
theorem gX0_cornersAbove_X0_cornerSample : GoodIn wsX0_cornersAbove (wsV RX0 154 RX0 yX0_cornerSample wsX0_cornerSample) := goodIn_app (goodIn_of _ (by decide +kernel)) ggX0_cornersAbove_X0_cornerSample
set_option maxRecDepth 20000 in
theorem ggX0_cornersAbove_X0_isAbove : GoodIn wsX0_cornersAbove wsX0_isAbove := goodIn_r _ [14, 15, 16, 17, 18, 19, 20, 21, 22, 23, 24, 25, 26, 27] (by decide +kernel) (by decide +kernel)
set_option maxRecDepth 20000 in
theorem gX0_cornersAbove_X0_isAbove : GoodIn wsX0_cornersAbove (wsV RX0 130 RX0 yX0_isAbove wsX0_isAbove) := goodIn_app (goodIn_of _ (by decide +kernel)) ggX0_cornersAbove_X0_isAbove
theorem dX0_cornersAbove_0 : decode cX0_cornersAbove 0 = .ok (.iconst 0, 1) := by decide +kernel
theorem dX0_cornersAbove_1 : decode cX0_cornersAbove 1 = .ok (.istore_n 3, 1) := by decide +kernel
theorem dX0_cornersAbove_2 : decode cX0_cornersAbove 2 = .ok (.iconst 0, 1) := by decide +kernel
theorem dX0_cornersAbove_3 : decode cX0_cornersAbove 3 = .ok (.istore 4, 2) := by decide +kernel
theorem dX0_cornersAbove_5 : decode cX0_cornersAbove 5 = .ok (.iload 4, 2) := by decide +kernel
theorem dX0_cornersAbove_7 : decode cX0_cornersAbove 7 = .ok (.iconst 4, 1) := by decide +kernel
theorem dX0_cornersAbove_8 : decode cX0_cornersAbove 8 = .ok (.if_icmp .ge 31, 3) := by decide +kernel
theorem dX0_cornersAbove_11 : decode cX0_cornersAbove 11 = .ok (.aload_n 0, 1) := by decide +kernel
theorem dX0_cornersAbove_12 : decode cX0_cornersAbove 12 = .ok (.aload_n 0, 1) := by decide +kernel
theorem dX0_cornersAbove_13 : decode cX0_cornersAbove 13 = .ok (.iload_n 1, 1) := by decide +kernel
theorem dX0_cornersAbove_14 : decode cX0_cornersAbove 14 = .ok (.iload_n 2, 1) := by decide +kernel
theorem dX0_cornersAbove_15 : decode cX0_cornersAbove 15 = .ok (.iload 4, 2) := by decide +kernel
theorem dX0_cornersAbove_17 : decode cX0_cornersAbove 17 = .ok (.invokevirtual 154, 3) := by decide +kernel
theorem dX0_cornersAbove_20 : decode cX0_cornersAbove 20 = .ok (.invokevirtual 130, 3) := by decide +kernel
theorem dX0_cornersAbove_23 : decode cX0_cornersAbove 23 = .ok (.ifCond .eq 10, 3) := by decide +kernel
theorem dX0_cornersAbove_26 : decode cX0_cornersAbove 26 = .ok (.iload_n 3, 1) := by decide +kernel
theorem dX0_cornersAbove_27 : decode cX0_cornersAbove 27 = .ok (.iconst 1, 1) := by decide +kernel
theorem dX0_cornersAbove_28 : decode cX0_cornersAbove 28 = .ok (.iload 4, 2) := by decide +kernel
theorem dX0_cornersAbove_30 : decode cX0_cornersAbove 30 = .ok (.ishl, 1) := by decide +kernel
theorem dX0_cornersAbove_31 : decode cX0_cornersAbove 31 = .ok (.ior, 1) := by decide +kernel
theorem dX0_cornersAbove_32 : decode cX0_cornersAbove 32 = .ok (.istore_n 3, 1) := by decide +kernel
theorem dX0_cornersAbove_33 : decode cX0_cornersAbove 33 = .ok (.iinc 4 1, 3) := by decide +kernel
theorem dX0_cornersAbove_36 : decode cX0_cornersAbove 36 = .ok (.goto (-31), 3) := by decide +kernel
theorem dX0_cornersAbove_39 : decode cX0_cornersAbove 39 = .ok (.iload_n 3, 1) := by decide +kernel
theorem dX0_cornersAbove_40 : decode cX0_cornersAbove 40 = .ok (.ireturn, 1) := by decide +kernel
set_option maxRecDepth 20000 in
theorem ggX0_cornerSample_X0_sampleAt : GoodIn wsX0_cornerSample wsX0_sampleAt := goodIn_r _ [5, 6, 7, 8, 9, 10, 11, 12, 13, 14, 15, 16, 17] (by decide +kernel) (by decide +kernel)
set_option maxRecDepth 20000 in
theorem gX0_cornerSample_X0_sampleAt : GoodIn wsX0_cornerSample (wsV RX0 64 RX0 yX0_sampleAt wsX0_sampleAt) := goodIn_app (goodIn_of _ (by decide +kernel)) ggX0_cornerSample_X0_sampleAt
theorem dX0_cornerSample_0 : decode cX0_cornerSample 0 = .ok (.iload_n 3, 1) := by decide +kernel
theorem dX0_cornerSample_1 : decode cX0_cornerSample 1 = .ok (.tableswitch 54 0 2 #[27, 34, 43], 27) := by decide +kernel
theorem dX0_cornerSample_28 : decode cX0_cornerSample 28 = .ok (.aload_n 0, 1) := by decide +kernel
theorem dX0_cornerSample_29 : decode cX0_cornerSample 29 = .ok (.iload_n 1, 1) := by decide +kernel
theorem dX0_cornerSample_30 : decode cX0_cornerSample 30 = .ok (.iload_n 2, 1) := by decide +kernel
theorem dX0_cornerSample_31 : decode cX0_cornerSample 31 = .ok (.invokevirtual 64, 3) := by decide +kernel
theorem dX0_cornerSample_34 : decode cX0_cornerSample 34 = .ok (.ireturn, 1) := by decide +kernel
theorem dX0_cornerSample_35 : decode cX0_cornerSample 35 = .ok (.aload_n 0, 1) := by decide +kernel
theorem dX0_cornerSample_36 : decode cX0_cornerSample 36 = .ok (.iload_n 1, 1) := by decide +kernel
theorem dX0_cornerSample_37 : decode cX0_cornerSample 37 = .ok (.iconst 1, 1) := by decide +kernel
theorem dX0_cornerSample_38 : decode cX0_cornerSample 38 = .ok (.iadd, 1) := by decide +kernel
theorem dX0_cornerSample_39 : decode cX0_cornerSample 39 = .ok (.iload_n 2, 1) := by decide +kernel
theorem dX0_cornerSample_40 : decode cX0_cornerSample 40 = .ok (.invokevirtual 64, 3) := by decide +kernel
theorem dX0_cornerSample_43 : decode cX0_cornerSample 43 = .ok (.ireturn, 1) := by decide +kernel
theorem dX0_cornerSample_44 : decode cX0_cornerSample 44 = .ok (.aload_n 0, 1) := by decide +kernel
theorem dX0_cornerSample_45 : decode cX0_cornerSample 45 = .ok (.iload_n 1, 1) := by decide +kernel
theorem dX0_cornerSample_46 : decode cX0_cornerSample 46 = .ok (.iconst 1, 1) := by decide +kernel
theorem dX0_cornerSample_47 : decode cX0_cornerSample 47 = .ok (.iadd, 1) := by decide +kernel
theorem dX0_cornerSample_48 : decode cX0_cornerSample 48 = .ok (.iload_n 2, 1) := by decide +kernel
theorem dX0_cornerSample_49 : decode cX0_cornerSample 49 = .ok (.iconst 1, 1) := by decide +kernel
theorem dX0_cornerSample_50 : decode cX0_cornerSample 50 = .ok (.iadd, 1) := by decide +kernel
theorem dX0_cornerSample_51 : decode cX0_cornerSample 51 = .ok (.invokevirtual 64, 3) := by decide +kernel
theorem dX0_cornerSample_54 : decode cX0_cornerSample 54 = .ok (.ireturn, 1) := by decide +kernel
theorem dX0_cornerSample_55 : decode cX0_cornerSample 55 = .ok (.aload_n 0, 1) := by decide +kernel
theorem dX0_cornerSample_56 : decode cX0_cornerSample 56 = .ok (.iload_n 1, 1) := by decide +kernel
theorem dX0_cornerSample_57 : decode cX0_cornerSample 57 = .ok (.iload_n 2, 1) := by decide +kernel
theorem dX0_cornerSample_58 : decode cX0_cornerSample 58 = .ok (.iconst 1, 1) := by decide +kernel
theorem dX0_cornerSample_59 : decode cX0_cornerSample 59 = .ok (.iadd, 1) := by decide +kernel
theorem dX0_cornerSample_60 : decode cX0_cornerSample 60 = .ok (.invokevirtual 64, 3) := by decide +kernel
theorem dX0_cornerSample_63 : decode cX0_cornerSample 63 = .ok (.ireturn, 1) := by decide +kernel
set_option maxRecDepth 20000 in
theorem ggX0_sideEdge_X0_rightwardEdge : GoodIn wsX0_sideEdge wsX0_rightwardEdge := goodIn_r _ [5, 6, 16, 17, 18, 19, 20, 21, 22, 23, 24, 25, 26] (by decide +kernel) (by decide +kernel)
set_option maxRecDepth 20000 in
theorem gX0_sideEdge_X0_rightwardEdge : GoodIn wsX0_sideEdge (wsV RX0 157 RX0 yX0_rightwardEdge wsX0_rightwardEdge) := goodIn_app (goodIn_of _ (by decide +kernel)) ggX0_sideEdge_X0_rightwardEdge
set_option maxRecDepth 20000 in
theorem ggX0_sideEdge_X0_upwardEdge : GoodIn wsX0_sideEdge wsX0_upwardEdge := goodIn_r _ [10, 6, 11, 12, 13, 4, 14, 15, 16, 17, 18, 19, 20, 21, 22, 23, 24, 25, 26] (by decide +kernel) (by decide +kernel)
set_option maxRecDepth 20000 in
theorem gX0_sideEdge_X0_upwardEdge : GoodIn wsX0_sideEdge (wsV RX0 160 RX0 yX0_upwardEdge wsX0_upwardEdge) := goodIn_app (goodIn_of _ (by decide +kernel)) ggX0_sideEdge_X0_upwardEdge
theorem dX0_sideEdge_0 : decode cX0_sideEdge 0 = .ok (.iload_n 3, 1) := by decide +kernel
theorem dX0_sideEdge_1 : decode cX0_sideEdge 1 = .ok (.tableswitch 52 0 2 #[27, 34, 43], 27) := by decide +kernel
theorem dX0_sideEdge_28 : decode cX0_sideEdge 28 = .ok (.aload_n 0, 1) := by decide +kernel
theorem dX0_sideEdge_29 : decode cX0_sideEdge 29 = .ok (.iload_n 1, 1) := by decide +kernel
theorem dX0_sideEdge_30 : decode cX0_sideEdge 30 = .ok (.iload_n 2, 1) := by decide +kernel
theorem dX0_sideEdge_31 : decode cX0_sideEdge 31 = .ok (.invokevirtual 157, 3) := by decide +kernel
theorem dX0_sideEdge_34 : decode cX0_sideEdge 34 = .ok (.ireturn, 1) := by decide +kernel
theorem dX0_sideEdge_35 : decode cX0_sideEdge 35 = .ok (.aload_n 0, 1) := by decide +kernel
theorem dX0_sideEdge_36 : decode cX0_sideEdge 36 = .ok (.iload_n 1, 1) := by decide +kernel
theorem dX0_sideEdge_37 : decode cX0_sideEdge 37 = .ok (.iconst 1, 1) := by decide +kernel
theorem dX0_sideEdge_38 : decode cX0_sideEdge 38 = .ok (.iadd, 1) := by decide +kernel
theorem dX0_sideEdge_39 : decode cX0_sideEdge 39 = .ok (.iload_n 2, 1) := by decide +kernel
theorem dX0_sideEdge_40 : decode cX0_sideEdge 40 = .ok (.invokevirtual 160, 3) := by decide +kernel
theorem dX0_sideEdge_43 : decode cX0_sideEdge 43 = .ok (.ireturn, 1) := by decide +kernel
theorem dX0_sideEdge_44 : decode cX0_sideEdge 44 = .ok (.aload_n 0, 1) := by decide +kernel
theorem dX0_sideEdge_45 : decode cX0_sideEdge 45 = .ok (.iload_n 1, 1) := by decide +kernel
theorem dX0_sideEdge_46 : decode cX0_sideEdge 46 = .ok (.iload_n 2, 1) := by decide +kernel
theorem dX0_sideEdge_47 : decode cX0_sideEdge 47 = .ok (.iconst 1, 1) := by decide +kernel
theorem dX0_sideEdge_48 : decode cX0_sideEdge 48 = .ok (.iadd, 1) := by decide +kernel
theorem dX0_sideEdge_49 : decode cX0_sideEdge 49 = .ok (.invokevirtual 157, 3) := by decide +kernel
theorem dX0_sideEdge_52 : decode cX0_sideEdge 52 = .ok (.ireturn, 1) := by decide +kernel
theorem dX0_sideEdge_53 : decode cX0_sideEdge 53 = .ok (.aload_n 0, 1) := by decide +kernel
theorem dX0_sideEdge_54 : decode cX0_sideEdge 54 = .ok (.iload_n 1, 1) := by decide +kernel
theorem dX0_sideEdge_55 : decode cX0_sideEdge 55 = .ok (.iload_n 2, 1) := by decide +kernel
theorem dX0_sideEdge_56 : decode cX0_sideEdge 56 = .ok (.invokevirtual 160, 3) := by decide +kernel
theorem dX0_sideEdge_59 : decode cX0_sideEdge 59 = .ok (.ireturn, 1) := by decide +kernel
theorem dX0_hasCorner_0 : decode cX0_hasCorner 0 = .ok (.iload_n 0, 1) := by decide +kernel
theorem dX0_hasCorner_1 : decode cX0_hasCorner 1 = .ok (.iload_n 1, 1) := by decide +kernel
theorem dX0_hasCorner_2 : decode cX0_hasCorner 2 = .ok (.iconst 4, 1) := by decide +kernel
theorem dX0_hasCorner_3 : decode cX0_hasCorner 3 = .ok (.irem, 1) := by decide +kernel
theorem dX0_hasCorner_4 : decode cX0_hasCorner 4 = .ok (.ishr, 1) := by decide +kernel
theorem dX0_hasCorner_5 : decode cX0_hasCorner 5 = .ok (.iconst 1, 1) := by decide +kernel
theorem dX0_hasCorner_6 : decode cX0_hasCorner 6 = .ok (.iand, 1) := by decide +kernel
theorem dX0_hasCorner_7 : decode cX0_hasCorner 7 = .ok (.iconst 1, 1) := by decide +kernel
theorem dX0_hasCorner_8 : decode cX0_hasCorner 8 = .ok (.if_icmp .ne 7, 3) := by decide +kernel
theorem dX0_hasCorner_11 : decode cX0_hasCorner 11 = .ok (.iconst 1, 1) := by decide +kernel
theorem dX0_hasCorner_12 : decode cX0_hasCorner 12 = .ok (.goto 4, 3) := by decide +kernel
theorem dX0_hasCorner_15 : decode cX0_hasCorner 15 = .ok (.iconst 0, 1) := by decide +kernel
theorem dX0_hasCorner_16 : decode cX0_hasCorner 16 = .ok (.ireturn, 1) := by decide +kernel
set_option maxRecDepth 20000 in
theorem ggX0_entersAt_X0_hasCorner : GoodIn wsX0_entersAt wsX0_hasCorner := goodIn_r _ [4] (by decide +kernel) (by decide +kernel)
set_option maxRecDepth 20000 in
theorem gX0_entersAt_X0_hasCorner : GoodIn wsX0_entersAt (va_wsS RX0 163 yX0_hasCorner wsX0_hasCorner) := goodIn_app (goodIn_of _ (by decide +kernel)) ggX0_entersAt_X0_hasCorner
theorem dX0_entersAt_0 : decode cX0_entersAt 0 = .ok (.iload_n 0, 1) := by decide +kernel
theorem dX0_entersAt_1 : decode cX0_entersAt 1 = .ok (.iload_n 1, 1) := by decide +kernel
theorem dX0_entersAt_2 : decode cX0_entersAt 2 = .ok (.invokestatic 163, 3) := by decide +kernel
theorem dX0_entersAt_5 : decode cX0_entersAt 5 = .ok (.ifCond .eq 17, 3) := by decide +kernel
theorem dX0_entersAt_8 : decode cX0_entersAt 8 = .ok (.iload_n 0, 1) := by decide +kernel
theorem dX0_entersAt_9 : decode cX0_entersAt 9 = .ok (.iload_n 1, 1) := by decide +kernel
theorem dX0_entersAt_10 : decode cX0_entersAt 10 = .ok (.iconst 1, 1) := by decide +kernel
theorem dX0_entersAt_11 : decode cX0_entersAt 11 = .ok (.iadd, 1) := by decide +kernel
theorem dX0_entersAt_12 : decode cX0_entersAt 12 = .ok (.invokestatic 163, 3) := by decide +kernel
theorem dX0_entersAt_15 : decode cX0_entersAt 15 = .ok (.ifCond .ne 7, 3) := by decide +kernel
theorem dX0_entersAt_18 : decode cX0_entersAt 18 = .ok (.iconst 1, 1) := by decide +kernel
theorem dX0_entersAt_19 : decode cX0_entersAt 19 = .ok (.goto 4, 3) := by decide +kernel
theorem dX0_entersAt_22 : decode cX0_entersAt 22 = .ok (.iconst 0, 1) := by decide +kernel
theorem dX0_entersAt_23 : decode cX0_entersAt 23 = .ok (.ireturn, 1) := by decide +kernel
set_option maxRecDepth 20000 in
theorem ggX0_leavesAt_X0_hasCorner : GoodIn wsX0_leavesAt wsX0_hasCorner := goodIn_r _ [4] (by decide +kernel) (by decide +kernel)
set_option maxRecDepth 20000 in
theorem gX0_leavesAt_X0_hasCorner : GoodIn wsX0_leavesAt (va_wsS RX0 163 yX0_hasCorner wsX0_hasCorner) := goodIn_app (goodIn_of _ (by decide +kernel)) ggX0_leavesAt_X0_hasCorner
theorem dX0_leavesAt_0 : decode cX0_leavesAt 0 = .ok (.iload_n 0, 1) := by decide +kernel
theorem dX0_leavesAt_1 : decode cX0_leavesAt 1 = .ok (.iload_n 1, 1) := by decide +kernel
theorem dX0_leavesAt_2 : decode cX0_leavesAt 2 = .ok (.invokestatic 163, 3) := by decide +kernel
theorem dX0_leavesAt_5 : decode cX0_leavesAt 5 = .ok (.ifCond .ne 17, 3) := by decide +kernel
theorem dX0_leavesAt_8 : decode cX0_leavesAt 8 = .ok (.iload_n 0, 1) := by decide +kernel
theorem dX0_leavesAt_9 : decode cX0_leavesAt 9 = .ok (.iload_n 1, 1) := by decide +kernel
theorem dX0_leavesAt_10 : decode cX0_leavesAt 10 = .ok (.iconst 1, 1) := by decide +kernel
theorem dX0_leavesAt_11 : decode cX0_leavesAt 11 = .ok (.iadd, 1) := by decide +kernel
theorem dX0_leavesAt_12 : decode cX0_leavesAt 12 = .ok (.invokestatic 163, 3) := by decide +kernel
theorem dX0_leavesAt_15 : decode cX0_leavesAt 15 = .ok (.ifCond .eq 7, 3) := by decide +kernel
theorem dX0_leavesAt_18 : decode cX0_leavesAt 18 = .ok (.iconst 1, 1) := by decide +kernel
theorem dX0_leavesAt_19 : decode cX0_leavesAt 19 = .ok (.goto 4, 3) := by decide +kernel
theorem dX0_leavesAt_22 : decode cX0_leavesAt 22 = .ok (.iconst 0, 1) := by decide +kernel
theorem dX0_leavesAt_23 : decode cX0_leavesAt 23 = .ok (.ireturn, 1) := by decide +kernel
set_option maxRecDepth 20000 in
theorem ggX0_exitFrom_X0_leavesAt : GoodIn wsX0_exitFrom wsX0_leavesAt := goodIn_r _ [4, 5, 6, 3, 7] (by decide +kernel) (by decide +kernel)
set_option maxRecDepth 20000 in
theorem gX0_exitFrom_X0_leavesAt : GoodIn wsX0_exitFrom (va_wsS RX0 166 yX0_leavesAt wsX0_leavesAt) := goodIn_app (goodIn_of _ (by decide +kernel)) ggX0_exitFrom_X0_leavesAt
theorem dX0_exitFrom_0 : decode cX0_exitFrom 0 = .ok (.iload_n 1, 1) := by decide +kernel
theorem dX0_exitFrom_1 : decode cX0_exitFrom 1 = .ok (.iload_n 2, 1) := by decide +kernel
theorem dX0_exitFrom_2 : decode cX0_exitFrom 2 = .ok (.iadd, 1) := by decide +kernel
theorem dX0_exitFrom_3 : decode cX0_exitFrom 3 = .ok (.iconst 4, 1) := by decide +kernel
theorem dX0_exitFrom_4 : decode cX0_exitFrom 4 = .ok (.irem, 1) := by decide +kernel
theorem dX0_exitFrom_5 : decode cX0_exitFrom 5 = .ok (.istore_n 3, 1) := by decide +kernel
theorem dX0_exitFrom_6 : decode cX0_exitFrom 6 = .ok (.iconst 0, 1) := by decide +kernel
theorem dX0_exitFrom_7 : decode cX0_exitFrom 7 = .ok (.istore 4, 2) := by decide +kernel
theorem dX0_exitFrom_9 : decode cX0_exitFrom 9 = .ok (.iload 4, 2) := by decide +kernel
theorem dX0_exitFrom_11 : decode cX0_exitFrom 11 = .ok (.iconst 4, 1) := by decide +kernel
theorem dX0_exitFrom_12 : decode cX0_exitFrom 12 = .ok (.if_icmp .ge 23, 3) := by decide +kernel
theorem dX0_exitFrom_15 : decode cX0_exitFrom 15 = .ok (.iload_n 0, 1) := by decide +kernel
theorem dX0_exitFrom_16 : decode cX0_exitFrom 16 = .ok (.iload_n 3, 1) := by decide +kernel
theorem dX0_exitFrom_17 : decode cX0_exitFrom 17 = .ok (.invokestatic 166, 3) := by decide +kernel
theorem dX0_exitFrom_20 : decode cX0_exitFrom 20 = .ok (.ifCond .ne 15, 3) := by decide +kernel
theorem dX0_exitFrom_23 : decode cX0_exitFrom 23 = .ok (.iload_n 3, 1) := by decide +kernel
theorem dX0_exitFrom_24 : decode cX0_exitFrom 24 = .ok (.iload_n 2, 1) := by decide +kernel
theorem dX0_exitFrom_25 : decode cX0_exitFrom 25 = .ok (.iadd, 1) := by decide +kernel
theorem dX0_exitFrom_26 : decode cX0_exitFrom 26 = .ok (.iconst 4, 1) := by decide +kernel
theorem dX0_exitFrom_27 : decode cX0_exitFrom 27 = .ok (.irem, 1) := by decide +kernel
theorem dX0_exitFrom_28 : decode cX0_exitFrom 28 = .ok (.istore_n 3, 1) := by decide +kernel
theorem dX0_exitFrom_29 : decode cX0_exitFrom 29 = .ok (.iinc 4 1, 3) := by decide +kernel
theorem dX0_exitFrom_32 : decode cX0_exitFrom 32 = .ok (.goto (-23), 3) := by decide +kernel
theorem dX0_exitFrom_35 : decode cX0_exitFrom 35 = .ok (.iload_n 3, 1) := by decide +kernel
theorem dX0_exitFrom_36 : decode cX0_exitFrom 36 = .ok (.ireturn, 1) := by decide +kernel
set_option maxRecDepth 20000 in
theorem ggX0_isMiddleAbove_X0_cornerSample : GoodIn wsX0_isMiddleAbove wsX0_cornerSample := goodIn_r _ [8, 9, 10, 11, 7, 12, 13, 14, 15, 16, 17, 18, 19, 20, 21, 22, 23, 24] (by decide +kernel) (by decide +kernel)
set_option maxRecDepth 20000 in
theorem gX0_isMiddleAbove_X0_cornerSample : GoodIn wsX0_isMiddleAbove (wsV RX0 154 RX0 yX0_cornerSample wsX0_cornerSample) := goodIn_app (goodIn_of _ (by decide +kernel)) ggX0_isMiddleAbove_X0_cornerSample
theorem dX0_isMiddleAbove_0 : decode cX0_isMiddleAbove 0 = .ok (.aload_n 0, 1) := by decide +kernel
theorem dX0_isMiddleAbove_1 : decode cX0_isMiddleAbove 1 = .ok (.getfield 19, 3) := by decide +kernel
theorem dX0_isMiddleAbove_4 : decode cX0_isMiddleAbove 4 = .ok (.aload_n 0, 1) := by decide +kernel
theorem dX0_isMiddleAbove_5 : decode cX0_isMiddleAbove 5 = .ok (.iload_n 1, 1) := by decide +kernel
theorem dX0_isMiddleAbove_6 : decode cX0_isMiddleAbove 6 = .ok (.iload_n 2, 1) := by decide +kernel
theorem dX0_isMiddleAbove_7 : decode cX0_isMiddleAbove 7 = .ok (.iconst 0, 1) := by decide +kernel
theorem dX0_isMiddleAbove_8 : decode cX0_isMiddleAbove 8 = .ok (.invokevirtual 154, 3) := by decide +kernel
theorem dX0_isMiddleAbove_11 : decode cX0_isMiddleAbove 11 = .ok (.iaload, 1) := by decide +kernel
theorem dX0_isMiddleAbove_12 : decode cX0_isMiddleAbove 12 = .ok (.i2l, 1) := by decide +kernel
theorem dX0_isMiddleAbove_13 : decode cX0_isMiddleAbove 13 = .ok (.lstore_n 3, 1) := by decide +kernel
theorem dX0_isMiddleAbove_14 : decode cX0_isMiddleAbove 14 = .ok (.aload_n 0, 1) := by decide +kernel
theorem dX0_isMiddleAbove_15 : decode cX0_isMiddleAbove 15 = .ok (.getfield 19, 3) := by decide +kernel
theorem dX0_isMiddleAbove_18 : decode cX0_isMiddleAbove 18 = .ok (.aload_n 0, 1) := by decide +kernel
theorem dX0_isMiddleAbove_19 : decode cX0_isMiddleAbove 19 = .ok (.iload_n 1, 1) := by decide +kernel
theorem dX0_isMiddleAbove_20 : decode cX0_isMiddleAbove 20 = .ok (.iload_n 2, 1) := by decide +kernel
theorem dX0_isMiddleAbove_21 : decode cX0_isMiddleAbove 21 = .ok (.iconst 1, 1) := by decide +kernel
theorem dX0_isMiddleAbove_22 : decode cX0_isMiddleAbove 22 = .ok (.invokevirtual 154, 3) := by decide +kernel
theorem dX0_isMiddleAbove_25 : decode cX0_isMiddleAbove 25 = .ok (.iaload, 1) := by decide +kernel
theorem dX0_isMiddleAbove_26 : decode cX0_isMiddleAbove 26 = .ok (.i2l, 1) := by decide +kernel
theorem dX0_isMiddleAbove_27 : decode cX0_isMiddleAbove 27 = .ok (.lstore 5, 2) := by decide +kernel
theorem dX0_isMiddleAbove_29 : decode cX0_isMiddleAbove 29 = .ok (.aload_n 0, 1) := by decide +kernel
theorem dX0_isMiddleAbove_30 : decode cX0_isMiddleAbove 30 = .ok (.getfield 19, 3) := by decide +kernel
theorem dX0_isMiddleAbove_33 : decode cX0_isMiddleAbove 33 = .ok (.aload_n 0, 1) := by decide +kernel
theorem dX0_isMiddleAbove_34 : decode cX0_isMiddleAbove 34 = .ok (.iload_n 1, 1) := by decide +kernel
theorem dX0_isMiddleAbove_35 : decode cX0_isMiddleAbove 35 = .ok (.iload_n 2, 1) := by decide +kernel
theorem dX0_isMiddleAbove_36 : decode cX0_isMiddleAbove 36 = .ok (.iconst 2, 1) := by decide +kernel
theorem dX0_isMiddleAbove_37 : decode cX0_isMiddleAbove 37 = .ok (.invokevirtual 154, 3) := by decide +kernel
theorem dX0_isMiddleAbove_40 : decode cX0_isMiddleAbove 40 = .ok (.iaload, 1) := by decide +kernel
theorem dX0_isMiddleAbove_41 : decode cX0_isMiddleAbove 41 = .ok (.i2l, 1) := by decide +kernel
theorem dX0_isMiddleAbove_42 : decode cX0_isMiddleAbove 42 = .ok (.lstore 7, 2) := by decide +kernel
theorem dX0_isMiddleAbove_44 : decode cX0_isMiddleAbove 44 = .ok (.aload_n 0, 1) := by decide +kernel
theorem dX0_isMiddleAbove_45 : decode cX0_isMiddleAbove 45 = .ok (.getfield 19, 3) := by decide +kernel
theorem dX0_isMiddleAbove_48 : decode cX0_isMiddleAbove 48 = .ok (.aload_n 0, 1) := by decide +kernel
theorem dX0_isMiddleAbove_49 : decode cX0_isMiddleAbove 49 = .ok (.iload_n 1, 1) := by decide +kernel
theorem dX0_isMiddleAbove_50 : decode cX0_isMiddleAbove 50 = .ok (.iload_n 2, 1) := by decide +kernel
theorem dX0_isMiddleAbove_51 : decode cX0_isMiddleAbove 51 = .ok (.iconst 3, 1) := by decide +kernel
theorem dX0_isMiddleAbove_52 : decode cX0_isMiddleAbove 52 = .ok (.invokevirtual 154, 3) := by decide +kernel
theorem dX0_isMiddleAbove_55 : decode cX0_isMiddleAbove 55 = .ok (.iaload, 1) := by decide +kernel
theorem dX0_isMiddleAbove_56 : decode cX0_isMiddleAbove 56 = .ok (.i2l, 1) := by decide +kernel
theorem dX0_isMiddleAbove_57 : decode cX0_isMiddleAbove 57 = .ok (.lstore 9, 2) := by decide +kernel
theorem dX0_isMiddleAbove_59 : decode cX0_isMiddleAbove 59 = .ok (.lload_n 3, 1) := by decide +kernel
theorem dX0_isMiddleAbove_60 : decode cX0_isMiddleAbove 60 = .ok (.lload 7, 2) := by decide +kernel
theorem dX0_isMiddleAbove_62 : decode cX0_isMiddleAbove 62 = .ok (.ladd, 1) := by decide +kernel
theorem dX0_isMiddleAbove_63 : decode cX0_isMiddleAbove 63 = .ok (.lload 5, 2) := by decide +kernel
theorem dX0_isMiddleAbove_65 : decode cX0_isMiddleAbove 65 = .ok (.lsub, 1) := by decide +kernel
theorem dX0_isMiddleAbove_66 : decode cX0_isMiddleAbove 66 = .ok (.lload 9, 2) := by decide +kernel
theorem dX0_isMiddleAbove_68 : decode cX0_isMiddleAbove 68 = .ok (.lsub, 1) := by decide +kernel
theorem dX0_isMiddleAbove_69 : decode cX0_isMiddleAbove 69 = .ok (.lstore 11, 2) := by decide +kernel
theorem dX0_isMiddleAbove_71 : decode cX0_isMiddleAbove 71 = .ok (.ldc2_w 169, 3) := by decide +kernel
theorem dX0_isMiddleAbove_74 : decode cX0_isMiddleAbove 74 = .ok (.lload_n 3, 1) := by decide +kernel
theorem dX0_isMiddleAbove_75 : decode cX0_isMiddleAbove 75 = .ok (.lload 7, 2) := by decide +kernel
theorem dX0_isMiddleAbove_77 : decode cX0_isMiddleAbove 77 = .ok (.lmul, 1) := by decide +kernel
theorem dX0_isMiddleAbove_78 : decode cX0_isMiddleAbove 78 = .ok (.lload 5, 2) := by decide +kernel
theorem dX0_isMiddleAbove_80 : decode cX0_isMiddleAbove 80 = .ok (.lload 9, 2) := by decide +kernel
theorem dX0_isMiddleAbove_82 : decode cX0_isMiddleAbove 82 = .ok (.lmul, 1) := by decide +kernel
theorem dX0_isMiddleAbove_83 : decode cX0_isMiddleAbove 83 = .ok (.lsub, 1) := by decide +kernel
theorem dX0_isMiddleAbove_84 : decode cX0_isMiddleAbove 84 = .ok (.lmul, 1) := by decide +kernel
theorem dX0_isMiddleAbove_85 : decode cX0_isMiddleAbove 85 = .ok (.lstore 13, 2) := by decide +kernel
theorem dX0_isMiddleAbove_87 : decode cX0_isMiddleAbove 87 = .ok (.aload_n 0, 1) := by decide +kernel
theorem dX0_isMiddleAbove_88 : decode cX0_isMiddleAbove 88 = .ok (.getfield 16, 3) := by decide +kernel
theorem dX0_isMiddleAbove_91 : decode cX0_isMiddleAbove 91 = .ok (.i2l, 1) := by decide +kernel
theorem dX0_isMiddleAbove_92 : decode cX0_isMiddleAbove 92 = .ok (.lload 11, 2) := by decide +kernel
theorem dX0_isMiddleAbove_94 : decode cX0_isMiddleAbove 94 = .ok (.lmul, 1) := by decide +kernel
theorem dX0_isMiddleAbove_95 : decode cX0_isMiddleAbove 95 = .ok (.lstore 15, 2) := by decide +kernel
theorem dX0_isMiddleAbove_97 : decode cX0_isMiddleAbove 97 = .ok (.lload 11, 2) := by decide +kernel
theorem dX0_isMiddleAbove_99 : decode cX0_isMiddleAbove 99 = .ok (.lconst 0, 1) := by decide +kernel
theorem dX0_isMiddleAbove_100 : decode cX0_isMiddleAbove 100 = .ok (.lcmp, 1) := by decide +kernel
theorem dX0_isMiddleAbove_101 : decode cX0_isMiddleAbove 101 = .ok (.ifCond .le 19, 3) := by decide +kernel
theorem dX0_isMiddleAbove_104 : decode cX0_isMiddleAbove 104 = .ok (.lload 13, 2) := by decide +kernel
theorem dX0_isMiddleAbove_106 : decode cX0_isMiddleAbove 106 = .ok (.lload 15, 2) := by decide +kernel
theorem dX0_isMiddleAbove_108 : decode cX0_isMiddleAbove 108 = .ok (.lcmp, 1) := by decide +kernel
theorem dX0_isMiddleAbove_109 : decode cX0_isMiddleAbove 109 = .ok (.ifCond .le 7, 3) := by decide +kernel
theorem dX0_isMiddleAbove_112 : decode cX0_isMiddleAbove 112 = .ok (.iconst 1, 1) := by decide +kernel
theorem dX0_isMiddleAbove_113 : decode cX0_isMiddleAbove 113 = .ok (.goto 20, 3) := by decide +kernel
theorem dX0_isMiddleAbove_116 : decode cX0_isMiddleAbove 116 = .ok (.iconst 0, 1) := by decide +kernel
theorem dX0_isMiddleAbove_117 : decode cX0_isMiddleAbove 117 = .ok (.goto 16, 3) := by decide +kernel
theorem dX0_isMiddleAbove_120 : decode cX0_isMiddleAbove 120 = .ok (.lload 13, 2) := by decide +kernel
theorem dX0_isMiddleAbove_122 : decode cX0_isMiddleAbove 122 = .ok (.lload 15, 2) := by decide +kernel
theorem dX0_isMiddleAbove_124 : decode cX0_isMiddleAbove 124 = .ok (.lcmp, 1) := by decide +kernel
theorem dX0_isMiddleAbove_125 : decode cX0_isMiddleAbove 125 = .ok (.ifCond .ge 7, 3) := by decide +kernel
theorem dX0_isMiddleAbove_128 : decode cX0_isMiddleAbove 128 = .ok (.iconst 1, 1) := by decide +kernel
theorem dX0_isMiddleAbove_129 : decode cX0_isMiddleAbove 129 = .ok (.goto 4, 3) := by decide +kernel
theorem dX0_isMiddleAbove_132 : decode cX0_isMiddleAbove 132 = .ok (.iconst 0, 1) := by decide +kernel
theorem dX0_isMiddleAbove_133 : decode cX0_isMiddleAbove 133 = .ok (.ireturn, 1) := by decide +kernel
theorem dX0_hasChain_0 : decode cX0_hasChain 0 = .ok (.iload_n 1, 1) := by decide +kernel
theorem dX0_hasChain_1 : decode cX0_hasChain 1 = .ok (.ifCond .lt 15, 3) := by decide +kernel
theorem dX0_hasChain_4 : decode cX0_hasChain 4 = .ok (.iload_n 1, 1) := by decide +kernel
theorem dX0_hasChain_5 : decode cX0_hasChain 5 = .ok (.aload_n 0, 1) := by decide +kernel
theorem dX0_hasChain_6 : decode cX0_hasChain 6 = .ok (.getfield 41, 3) := by decide +kernel
theorem dX0_hasChain_9 : decode cX0_hasChain 9 = .ok (.if_icmp .ge 7, 3) := by decide +kernel
theorem dX0_hasChain_12 : decode cX0_hasChain 12 = .ok (.iconst 1, 1) := by decide +kernel
theorem dX0_hasChain_13 : decode cX0_hasChain 13 = .ok (.goto 4, 3) := by decide +kernel
theorem dX0_hasChain_16 : decode cX0_hasChain 16 = .ok (.iconst 0, 1) := by decide +kernel
theorem dX0_hasChain_17 : decode cX0_hasChain 17 = .ok (.ireturn, 1) := by decide +kernel
set_option maxRecDepth 20000 in
theorem ggX0_forgetChains_J7_fill_53178 : GoodIn wsX0_forgetChains wsJ7_fill_53178 := goodIn_r _ [7] (by decide +kernel) (by decide +kernel)
set_option maxRecDepth 20000 in
theorem gX0_forgetChains_J7_fill_53178 : GoodIn wsX0_forgetChains (va_wsS RX0 48 yJ7_fill_53178 wsJ7_fill_53178) := goodIn_app (goodIn_of _ (by decide +kernel)) ggX0_forgetChains_J7_fill_53178
theorem dX0_forgetChains_0 : decode cX0_forgetChains 0 = .ok (.aload_n 0, 1) := by decide +kernel
theorem dX0_forgetChains_1 : decode cX0_forgetChains 1 = .ok (.iconst 0, 1) := by decide +kernel
theorem dX0_forgetChains_2 : decode cX0_forgetChains 2 = .ok (.putfield 41, 3) := by decide +kernel
theorem dX0_forgetChains_5 : decode cX0_forgetChains 5 = .ok (.aload_n 0, 1) := by decide +kernel
theorem dX0_forgetChains_6 : decode cX0_forgetChains 6 = .ok (.iconst 0, 1) := by decide +kernel
theorem dX0_forgetChains_7 : decode cX0_forgetChains 7 = .ok (.putfield 38, 3) := by decide +kernel
theorem dX0_forgetChains_10 : decode cX0_forgetChains 10 = .ok (.aload_n 0, 1) := by decide +kernel
theorem dX0_forgetChains_11 : decode cX0_forgetChains 11 = .ok (.getfield 35, 3) := by decide +kernel
theorem dX0_forgetChains_14 : decode cX0_forgetChains 14 = .ok (.iconst (-1), 1) := by decide +kernel
theorem dX0_forgetChains_15 : decode cX0_forgetChains 15 = .ok (.invokestatic 48, 3) := by decide +kernel
theorem dX0_forgetChains_18 : decode cX0_forgetChains 18 = .ok (.return_, 1) := by decide +kernel
set_option maxRecDepth 20000 in
theorem ggX0_gatherOpenChains_X0_edgeCount : GoodIn wsX0_gatherOpenChains wsX0_edgeCount := goodIn_r _ [9, 10, 11, 12, 13, 14, 8, 15, 23, 24, 25, 26, 27, 28, 29, 30, 31, 32, 33] (by decide +kernel) (by decide +kernel)
set_option maxRecDepth 20000 in
theorem gX0_gatherOpenChains_X0_edgeCount : GoodIn wsX0_gatherOpenChains (wsV RX0 86 RX0 yX0_edgeCount wsX0_edgeCount) := goodIn_app (goodIn_of _ (by decide +kernel)) ggX0_gatherOpenChains_X0_edgeCount
set_option maxRecDepth 20000 in
theorem ggX0_gatherOpenChains_X0_gatherChain : GoodIn wsX0_gatherOpenChains wsX0_gatherChain := goodIn_r _ [19, 20, 3, 21, 22, 1, 23, 24, 25, 26, 27, 28, 29, 30, 31, 32, 33] (by decide +kernel) (by decide +kernel)
set_option maxRecDepth 20000 in
theorem gX0_gatherOpenChains_X0_gatherChain : GoodIn wsX0_gatherOpenChains (wsV RX0 171 RX0 yX0_gatherChain wsX0_gatherChain) := goodIn_app (goodIn_of _ (by decide +kernel)) ggX0_gatherOpenChains_X0_gatherChain
theorem dX0_gatherOpenChains_0 : decode cX0_gatherOpenChains 0 = .ok (.iconst 0, 1) := by decide +kernel
theorem dX0_gatherOpenChains_1 : decode cX0_gatherOpenChains 1 = .ok (.istore_n 1, 1) := by decide +kernel
theorem dX0_gatherOpenChains_2 : decode cX0_gatherOpenChains 2 = .ok (.iload_n 1, 1) := by decide +kernel
theorem dX0_gatherOpenChains_3 : decode cX0_gatherOpenChains 3 = .ok (.aload_n 0, 1) := by decide +kernel
theorem dX0_gatherOpenChains_4 : decode cX0_gatherOpenChains 4 = .ok (.invokevirtual 86, 3) := by decide +kernel
theorem dX0_gatherOpenChains_7 : decode cX0_gatherOpenChains 7 = .ok (.if_icmp .ge 34, 3) := by decide +kernel
theorem dX0_gatherOpenChains_10 : decode cX0_gatherOpenChains 10 = .ok (.aload_n 0, 1) := by decide +kernel
theorem dX0_gatherOpenChains_11 : decode cX0_gatherOpenChains 11 = .ok (.getfield 23, 3) := by decide +kernel
theorem dX0_gatherOpenChains_14 : decode cX0_gatherOpenChains 14 = .ok (.iload_n 1, 1) := by decide +kernel
theorem dX0_gatherOpenChains_15 : decode cX0_gatherOpenChains 15 = .ok (.iaload, 1) := by decide +kernel
theorem dX0_gatherOpenChains_16 : decode cX0_gatherOpenChains 16 = .ok (.iconst (-1), 1) := by decide +kernel
theorem dX0_gatherOpenChains_17 : decode cX0_gatherOpenChains 17 = .ok (.if_icmp .eq 18, 3) := by decide +kernel
theorem dX0_gatherOpenChains_20 : decode cX0_gatherOpenChains 20 = .ok (.aload_n 0, 1) := by decide +kernel
theorem dX0_gatherOpenChains_21 : decode cX0_gatherOpenChains 21 = .ok (.getfield 26, 3) := by decide +kernel
theorem dX0_gatherOpenChains_24 : decode cX0_gatherOpenChains 24 = .ok (.iload_n 1, 1) := by decide +kernel
theorem dX0_gatherOpenChains_25 : decode cX0_gatherOpenChains 25 = .ok (.iaload, 1) := by decide +kernel
theorem dX0_gatherOpenChains_26 : decode cX0_gatherOpenChains 26 = .ok (.iconst (-1), 1) := by decide +kernel
theorem dX0_gatherOpenChains_27 : decode cX0_gatherOpenChains 27 = .ok (.if_icmp .ne 8, 3) := by decide +kernel
theorem dX0_gatherOpenChains_30 : decode cX0_gatherOpenChains 30 = .ok (.aload_n 0, 1) := by decide +kernel
theorem dX0_gatherOpenChains_31 : decode cX0_gatherOpenChains 31 = .ok (.iload_n 1, 1) := by decide +kernel
theorem dX0_gatherOpenChains_32 : decode cX0_gatherOpenChains 32 = .ok (.invokevirtual 171, 3) := by decide +kernel
theorem dX0_gatherOpenChains_35 : decode cX0_gatherOpenChains 35 = .ok (.iinc 1 1, 3) := by decide +kernel
theorem dX0_gatherOpenChains_38 : decode cX0_gatherOpenChains 38 = .ok (.goto (-36), 3) := by decide +kernel
theorem dX0_gatherOpenChains_41 : decode cX0_gatherOpenChains 41 = .ok (.aload_n 0, 1) := by decide +kernel
theorem dX0_gatherOpenChains_42 : decode cX0_gatherOpenChains 42 = .ok (.aload_n 0, 1) := by decide +kernel
theorem dX0_gatherOpenChains_43 : decode cX0_gatherOpenChains 43 = .ok (.getfield 41, 3) := by decide +kernel
theorem dX0_gatherOpenChains_46 : decode cX0_gatherOpenChains 46 = .ok (.putfield 38, 3) := by decide +kernel
theorem dX0_gatherOpenChains_49 : decode cX0_gatherOpenChains 49 = .ok (.return_, 1) := by decide +kernel
set_option maxRecDepth 20000 in
theorem ggX0_gatherClosedChains_X0_edgeCount : GoodIn wsX0_gatherClosedChains wsX0_edgeCount := goodIn_r _ [7, 8, 9, 10, 11, 12, 6, 13, 21, 22, 23, 24, 25, 26, 27, 28, 29, 30, 31] (by decide +kernel) (by decide +kernel)
set_option maxRecDepth 20000 in
theorem gX0_gatherClosedChains_X0_edgeCount : GoodIn wsX0_gatherClosedChains (wsV RX0 86 RX0 yX0_edgeCount wsX0_edgeCount) := goodIn_app (goodIn_of _ (by decide +kernel)) ggX0_gatherClosedChains_X0_edgeCount
set_option maxRecDepth 20000 in
theorem ggX0_gatherClosedChains_X0_gatherChain : GoodIn wsX0_gatherClosedChains wsX0_gatherChain := goodIn_r _ [17, 18, 19, 2, 20, 1, 21, 22, 23, 24, 25, 26, 27, 28, 29, 30, 31] (by decide +kernel) (by decide +kernel)
set_option maxRecDepth 20000 in
theorem gX0_gatherClosedChains_X0_gatherChain : GoodIn wsX0_gatherClosedChains (wsV RX0 171 RX0 yX0_gatherChain wsX0_gatherChain) := goodIn_app (goodIn_of _ (by decide +kernel)) ggX0_gatherClosedChains_X0_gatherChain
theorem dX0_gatherClosedChains_0 : decode cX0_gatherClosedChains 0 = .ok (.iconst 0, 1) := by decide +kernel
theorem dX0_gatherClosedChains_1 : decode cX0_gatherClosedChains 1 = .ok (.istore_n 1, 1) := by decide +kernel
theorem dX0_gatherClosedChains_2 : decode cX0_gatherClosedChains 2 = .ok (.iload_n 1, 1) := by decide +kernel
theorem dX0_gatherClosedChains_3 : decode cX0_gatherClosedChains 3 = .ok (.aload_n 0, 1) := by decide +kernel
theorem dX0_gatherClosedChains_4 : decode cX0_gatherClosedChains 4 = .ok (.invokevirtual 86, 3) := by decide +kernel
theorem dX0_gatherClosedChains_7 : decode cX0_gatherClosedChains 7 = .ok (.if_icmp .ge 34, 3) := by decide +kernel
theorem dX0_gatherClosedChains_10 : decode cX0_gatherClosedChains 10 = .ok (.aload_n 0, 1) := by decide +kernel
theorem dX0_gatherClosedChains_11 : decode cX0_gatherClosedChains 11 = .ok (.getfield 23, 3) := by decide +kernel
theorem dX0_gatherClosedChains_14 : decode cX0_gatherClosedChains 14 = .ok (.iload_n 1, 1) := by decide +kernel
theorem dX0_gatherClosedChains_15 : decode cX0_gatherClosedChains 15 = .ok (.iaload, 1) := by decide +kernel
theorem dX0_gatherClosedChains_16 : decode cX0_gatherClosedChains 16 = .ok (.iconst (-1), 1) := by decide +kernel
theorem dX0_gatherClosedChains_17 : decode cX0_gatherClosedChains 17 = .ok (.if_icmp .eq 18, 3) := by decide +kernel
theorem dX0_gatherClosedChains_20 : decode cX0_gatherClosedChains 20 = .ok (.aload_n 0, 1) := by decide +kernel
theorem dX0_gatherClosedChains_21 : decode cX0_gatherClosedChains 21 = .ok (.getfield 35, 3) := by decide +kernel
theorem dX0_gatherClosedChains_24 : decode cX0_gatherClosedChains 24 = .ok (.iload_n 1, 1) := by decide +kernel
theorem dX0_gatherClosedChains_25 : decode cX0_gatherClosedChains 25 = .ok (.iaload, 1) := by decide +kernel
theorem dX0_gatherClosedChains_26 : decode cX0_gatherClosedChains 26 = .ok (.iconst (-1), 1) := by decide +kernel
theorem dX0_gatherClosedChains_27 : decode cX0_gatherClosedChains 27 = .ok (.if_icmp .ne 8, 3) := by decide +kernel
theorem dX0_gatherClosedChains_30 : decode cX0_gatherClosedChains 30 = .ok (.aload_n 0, 1) := by decide +kernel
theorem dX0_gatherClosedChains_31 : decode cX0_gatherClosedChains 31 = .ok (.iload_n 1, 1) := by decide +kernel
theorem dX0_gatherClosedChains_32 : decode cX0_gatherClosedChains 32 = .ok (.invokevirtual 171, 3) := by decide +kernel
theorem dX0_gatherClosedChains_35 : decode cX0_gatherClosedChains 35 = .ok (.iinc 1 1, 3) := by decide +kernel
theorem dX0_gatherClosedChains_38 : decode cX0_gatherClosedChains 38 = .ok (.goto (-36), 3) := by decide +kernel
theorem dX0_gatherClosedChains_41 : decode cX0_gatherClosedChains 41 = .ok (.return_, 1) := by decide +kernel
theorem dX0_gatherChain_0 : decode cX0_gatherChain 0 = .ok (.aload_n 0, 1) := by decide +kernel
theorem dX0_gatherChain_1 : decode cX0_gatherChain 1 = .ok (.getfield 32, 3) := by decide +kernel
theorem dX0_gatherChain_4 : decode cX0_gatherChain 4 = .ok (.aload_n 0, 1) := by decide +kernel
theorem dX0_gatherChain_5 : decode cX0_gatherChain 5 = .ok (.getfield 41, 3) := by decide +kernel
theorem dX0_gatherChain_8 : decode cX0_gatherChain 8 = .ok (.iaload, 1) := by decide +kernel
theorem dX0_gatherChain_9 : decode cX0_gatherChain 9 = .ok (.istore_n 2, 1) := by decide +kernel
theorem dX0_gatherChain_10 : decode cX0_gatherChain 10 = .ok (.iload_n 1, 1) := by decide +kernel
theorem dX0_gatherChain_11 : decode cX0_gatherChain 11 = .ok (.istore_n 3, 1) := by decide +kernel
theorem dX0_gatherChain_12 : decode cX0_gatherChain 12 = .ok (.iconst 0, 1) := by decide +kernel
theorem dX0_gatherChain_13 : decode cX0_gatherChain 13 = .ok (.istore 4, 2) := by decide +kernel
theorem dX0_gatherChain_15 : decode cX0_gatherChain 15 = .ok (.iload 4, 2) := by decide +kernel
theorem dX0_gatherChain_17 : decode cX0_gatherChain 17 = .ok (.sipush 264, 3) := by decide +kernel
theorem dX0_gatherChain_20 : decode cX0_gatherChain 20 = .ok (.if_icmp .ge 51, 3) := by decide +kernel
theorem dX0_gatherChain_23 : decode cX0_gatherChain 23 = .ok (.iload_n 3, 1) := by decide +kernel
theorem dX0_gatherChain_24 : decode cX0_gatherChain 24 = .ok (.iconst (-1), 1) := by decide +kernel
theorem dX0_gatherChain_25 : decode cX0_gatherChain 25 = .ok (.if_icmp .eq 46, 3) := by decide +kernel
theorem dX0_gatherChain_28 : decode cX0_gatherChain 28 = .ok (.aload_n 0, 1) := by decide +kernel
theorem dX0_gatherChain_29 : decode cX0_gatherChain 29 = .ok (.getfield 35, 3) := by decide +kernel
theorem dX0_gatherChain_32 : decode cX0_gatherChain 32 = .ok (.iload_n 3, 1) := by decide +kernel
theorem dX0_gatherChain_33 : decode cX0_gatherChain 33 = .ok (.iaload, 1) := by decide +kernel
theorem dX0_gatherChain_34 : decode cX0_gatherChain 34 = .ok (.iconst (-1), 1) := by decide +kernel
theorem dX0_gatherChain_35 : decode cX0_gatherChain 35 = .ok (.if_icmp .ne 36, 3) := by decide +kernel
theorem dX0_gatherChain_38 : decode cX0_gatherChain 38 = .ok (.aload_n 0, 1) := by decide +kernel
theorem dX0_gatherChain_39 : decode cX0_gatherChain 39 = .ok (.getfield 35, 3) := by decide +kernel
theorem dX0_gatherChain_42 : decode cX0_gatherChain 42 = .ok (.iload_n 3, 1) := by decide +kernel
theorem dX0_gatherChain_43 : decode cX0_gatherChain 43 = .ok (.aload_n 0, 1) := by decide +kernel
theorem dX0_gatherChain_44 : decode cX0_gatherChain 44 = .ok (.getfield 41, 3) := by decide +kernel
theorem dX0_gatherChain_47 : decode cX0_gatherChain 47 = .ok (.iastore, 1) := by decide +kernel
theorem dX0_gatherChain_48 : decode cX0_gatherChain 48 = .ok (.aload_n 0, 1) := by decide +kernel
theorem dX0_gatherChain_49 : decode cX0_gatherChain 49 = .ok (.getfield 29, 3) := by decide +kernel
theorem dX0_gatherChain_52 : decode cX0_gatherChain 52 = .ok (.iload_n 2, 1) := by decide +kernel
theorem dX0_gatherChain_53 : decode cX0_gatherChain 53 = .ok (.iload_n 3, 1) := by decide +kernel
theorem dX0_gatherChain_54 : decode cX0_gatherChain 54 = .ok (.iastore, 1) := by decide +kernel
theorem dX0_gatherChain_55 : decode cX0_gatherChain 55 = .ok (.iinc 2 1, 3) := by decide +kernel
theorem dX0_gatherChain_58 : decode cX0_gatherChain 58 = .ok (.aload_n 0, 1) := by decide +kernel
theorem dX0_gatherChain_59 : decode cX0_gatherChain 59 = .ok (.getfield 23, 3) := by decide +kernel
theorem dX0_gatherChain_62 : decode cX0_gatherChain 62 = .ok (.iload_n 3, 1) := by decide +kernel
theorem dX0_gatherChain_63 : decode cX0_gatherChain 63 = .ok (.iaload, 1) := by decide +kernel
theorem dX0_gatherChain_64 : decode cX0_gatherChain 64 = .ok (.istore_n 3, 1) := by decide +kernel
theorem dX0_gatherChain_65 : decode cX0_gatherChain 65 = .ok (.iinc 4 1, 3) := by decide +kernel
theorem dX0_gatherChain_68 : decode cX0_gatherChain 68 = .ok (.goto (-53), 3) := by decide +kernel
theorem dX0_gatherChain_71 : decode cX0_gatherChain 71 = .ok (.aload_n 0, 1) := by decide +kernel
theorem dX0_gatherChain_72 : decode cX0_gatherChain 72 = .ok (.dup, 1) := by decide +kernel
theorem dX0_gatherChain_73 : decode cX0_gatherChain 73 = .ok (.getfield 41, 3) := by decide +kernel
theorem dX0_gatherChain_76 : decode cX0_gatherChain 76 = .ok (.iconst 1, 1) := by decide +kernel
theorem dX0_gatherChain_77 : decode cX0_gatherChain 77 = .ok (.iadd, 1) := by decide +kernel
theorem dX0_gatherChain_78 : decode cX0_gatherChain 78 = .ok (.putfield 41, 3) := by decide +kernel
theorem dX0_gatherChain_81 : decode cX0_gatherChain 81 = .ok (.aload_n 0, 1) := by decide +kernel
theorem dX0_gatherChain_82 : decode cX0_gatherChain 82 = .ok (.getfield 32, 3) := by decide +kernel
theorem dX0_gatherChain_85 : decode cX0_gatherChain 85 = .ok (.aload_n 0, 1) := by decide +kernel
theorem dX0_gatherChain_86 : decode cX0_gatherChain 86 = .ok (.getfield 41, 3) := by decide +kernel
theorem dX0_gatherChain_89 : decode cX0_gatherChain 89 = .ok (.iload_n 2, 1) := by decide +kernel
theorem dX0_gatherChain_90 : decode cX0_gatherChain 90 = .ok (.iastore, 1) := by decide +kernel
theorem dX0_gatherChain_91 : decode cX0_gatherChain 91 = .ok (.return_, 1) := by decide +kernel
set_option maxRecDepth 20000 in
theorem ggX0_withinInRow_X0_rightwardEdge : GoodIn wsX0_withinInRow wsX0_rightwardEdge := goodIn_r _ [7, 1, 8, 9, 10, 11, 12, 13, 14, 15, 16, 17, 18] (by decide +kernel) (by decide +kernel)
set_option maxRecDepth 20000 in
theorem gX0_withinInRow_X0_rightwardEdge : GoodIn wsX0_withinInRow (wsV RX0 157 RX0 yX0_rightwardEdge wsX0_rightwardEdge) := goodIn_app (goodIn_of _ (by decide +kernel)) ggX0_withinInRow_X0_rightwardEdge
theorem dX0_withinInRow_0 : decode cX0_withinInRow 0 = .ok (.iconst 0, 1) := by decide +kernel
theorem dX0_withinInRow_1 : decode cX0_withinInRow 1 = .ok (.istore_n 3, 1) := by decide +kernel
theorem dX0_withinInRow_2 : decode cX0_withinInRow 2 = .ok (.iconst 0, 1) := by decide +kernel
theorem dX0_withinInRow_3 : decode cX0_withinInRow 3 = .ok (.istore 4, 2) := by decide +kernel
theorem dX0_withinInRow_5 : decode cX0_withinInRow 5 = .ok (.iconst 1, 1) := by decide +kernel
theorem dX0_withinInRow_6 : decode cX0_withinInRow 6 = .ok (.istore 5, 2) := by decide +kernel
theorem dX0_withinInRow_8 : decode cX0_withinInRow 8 = .ok (.iload 5, 2) := by decide +kernel
theorem dX0_withinInRow_10 : decode cX0_withinInRow 10 = .ok (.aload_n 0, 1) := by decide +kernel
theorem dX0_withinInRow_11 : decode cX0_withinInRow 11 = .ok (.getfield 9, 3) := by decide +kernel
theorem dX0_withinInRow_14 : decode cX0_withinInRow 14 = .ok (.if_icmp .ge 47, 3) := by decide +kernel
theorem dX0_withinInRow_17 : decode cX0_withinInRow 17 = .ok (.aload_n 0, 1) := by decide +kernel
theorem dX0_withinInRow_18 : decode cX0_withinInRow 18 = .ok (.getfield 35, 3) := by decide +kernel
theorem dX0_withinInRow_21 : decode cX0_withinInRow 21 = .ok (.aload_n 0, 1) := by decide +kernel
theorem dX0_withinInRow_22 : decode cX0_withinInRow 22 = .ok (.iload 5, 2) := by decide +kernel
theorem dX0_withinInRow_24 : decode cX0_withinInRow 24 = .ok (.iconst 1, 1) := by decide +kernel
theorem dX0_withinInRow_25 : decode cX0_withinInRow 25 = .ok (.isub, 1) := by decide +kernel
theorem dX0_withinInRow_26 : decode cX0_withinInRow 26 = .ok (.iload_n 2, 1) := by decide +kernel
theorem dX0_withinInRow_27 : decode cX0_withinInRow 27 = .ok (.invokevirtual 157, 3) := by decide +kernel
theorem dX0_withinInRow_30 : decode cX0_withinInRow 30 = .ok (.iaload, 1) := by decide +kernel
theorem dX0_withinInRow_31 : decode cX0_withinInRow 31 = .ok (.iload_n 1, 1) := by decide +kernel
theorem dX0_withinInRow_32 : decode cX0_withinInRow 32 = .ok (.if_icmp .ne 15, 3) := by decide +kernel
theorem dX0_withinInRow_35 : decode cX0_withinInRow 35 = .ok (.iload 4, 2) := by decide +kernel
theorem dX0_withinInRow_37 : decode cX0_withinInRow 37 = .ok (.ifCond .ne 7, 3) := by decide +kernel
theorem dX0_withinInRow_40 : decode cX0_withinInRow 40 = .ok (.iconst 1, 1) := by decide +kernel
theorem dX0_withinInRow_41 : decode cX0_withinInRow 41 = .ok (.goto 4, 3) := by decide +kernel
theorem dX0_withinInRow_44 : decode cX0_withinInRow 44 = .ok (.iconst 0, 1) := by decide +kernel
theorem dX0_withinInRow_45 : decode cX0_withinInRow 45 = .ok (.istore 4, 2) := by decide +kernel
theorem dX0_withinInRow_47 : decode cX0_withinInRow 47 = .ok (.iload 4, 2) := by decide +kernel
theorem dX0_withinInRow_49 : decode cX0_withinInRow 49 = .ok (.ifCond .eq 6, 3) := by decide +kernel
theorem dX0_withinInRow_52 : decode cX0_withinInRow 52 = .ok (.iinc 3 1, 3) := by decide +kernel
theorem dX0_withinInRow_55 : decode cX0_withinInRow 55 = .ok (.iinc 5 1, 3) := by decide +kernel
theorem dX0_withinInRow_58 : decode cX0_withinInRow 58 = .ok (.goto (-50), 3) := by decide +kernel
theorem dX0_withinInRow_61 : decode cX0_withinInRow 61 = .ok (.iload_n 3, 1) := by decide +kernel
theorem dX0_withinInRow_62 : decode cX0_withinInRow 62 = .ok (.ireturn, 1) := by decide +kernel
theorem dX1_init_0 : decode cX1_init 0 = .ok (.aload_n 0, 1) := by decide +kernel
theorem dX1_init_1 : decode cX1_init 1 = .ok (.invokespecial 1, 3) := by decide +kernel
theorem dX1_init_4 : decode cX1_init 4 = .ok (.aload_n 0, 1) := by decide +kernel
theorem dX1_init_5 : decode cX1_init 5 = .ok (.iconst 2, 1) := by decide +kernel
theorem dX1_init_6 : decode cX1_init 6 = .ok (.putfield 7, 3) := by decide +kernel
theorem dX1_init_9 : decode cX1_init 9 = .ok (.aload_n 0, 1) := by decide +kernel
theorem dX1_init_10 : decode cX1_init 10 = .ok (.iconst 2, 1) := by decide +kernel
theorem dX1_init_11 : decode cX1_init 11 = .ok (.putfield 13, 3) := by decide +kernel
theorem dX1_init_14 : decode cX1_init 14 = .ok (.aload_n 0, 1) := by decide +kernel
theorem dX1_init_15 : decode cX1_init 15 = .ok (.iconst 1, 1) := by decide +kernel
theorem dX1_init_16 : decode cX1_init 16 = .ok (.putfield 16, 3) := by decide +kernel
theorem dX1_init_19 : decode cX1_init 19 = .ok (.aload_n 0, 1) := by decide +kernel
theorem dX1_init_20 : decode cX1_init 20 = .ok (.sipush 144, 3) := by decide +kernel
theorem dX1_init_23 : decode cX1_init 23 = .ok (.newarray .int, 2) := by decide +kernel
theorem dX1_init_25 : decode cX1_init 25 = .ok (.putfield 19, 3) := by decide +kernel
theorem dX1_init_28 : decode cX1_init 28 = .ok (.aload_n 0, 1) := by decide +kernel
theorem dX1_init_29 : decode cX1_init 29 = .ok (.sipush 264, 3) := by decide +kernel
theorem dX1_init_32 : decode cX1_init 32 = .ok (.newarray .int, 2) := by decide +kernel
theorem dX1_init_34 : decode cX1_init 34 = .ok (.putfield 23, 3) := by decide +kernel
theorem dX1_init_37 : decode cX1_init 37 = .ok (.aload_n 0, 1) := by decide +kernel
theorem dX1_init_38 : decode cX1_init 38 = .ok (.sipush 266, 3) := by decide +kernel
theorem dX1_init_41 : decode cX1_init 41 = .ok (.newarray .int, 2) := by decide +kernel
theorem dX1_init_43 : decode cX1_init 43 = .ok (.putfield 26, 3) := by decide +kernel
theorem dX1_init_46 : decode cX1_init 46 = .ok (.aload_n 0, 1) := by decide +kernel
theorem dX1_init_47 : decode cX1_init 47 = .ok (.sipush 265, 3) := by decide +kernel
theorem dX1_init_50 : decode cX1_init 50 = .ok (.newarray .boolean, 2) := by decide +kernel
theorem dX1_init_52 : decode cX1_init 52 = .ok (.putfield 29, 3) := by decide +kernel
theorem dX1_init_55 : decode cX1_init 55 = .ok (.aload_n 0, 1) := by decide +kernel
theorem dX1_init_56 : decode cX1_init 56 = .ok (.sipush 264, 3) := by decide +kernel
theorem dX1_init_59 : decode cX1_init 59 = .ok (.newarray .boolean, 2) := by decide +kernel
theorem dX1_init_61 : decode cX1_init 61 = .ok (.putfield 33, 3) := by decide +kernel
theorem dX1_init_64 : decode cX1_init 64 = .ok (.return_, 1) := by decide +kernel
theorem dX1_thrown_0 : decode cX1_thrown 0 = .ok (.aload_n 0, 1) := by decide +kernel
theorem dX1_thrown_1 : decode cX1_thrown 1 = .ok (.getfield 36, 3) := by decide +kernel
theorem dX1_thrown_4 : decode cX1_thrown 4 = .ok (.ireturn, 1) := by decide +kernel
theorem dX1_field_0 : decode cX1_field 0 = .ok (.aload_n 0, 1) := by decide +kernel
theorem dX1_field_1 : decode cX1_field 1 = .ok (.iconst 0, 1) := by decide +kernel
theorem dX1_field_2 : decode cX1_field 2 = .ok (.putfield 36, 3) := by decide +kernel
theorem dX1_field_5 : decode cX1_field 5 = .ok (.iload_n 1, 1) := by decide +kernel
theorem dX1_field_6 : decode cX1_field 6 = .ok (.iconst 2, 1) := by decide +kernel
theorem dX1_field_7 : decode cX1_field 7 = .ok (.if_icmp .lt 20, 3) := by decide +kernel
theorem dX1_field_10 : decode cX1_field 10 = .ok (.iload_n 1, 1) := by decide +kernel
theorem dX1_field_11 : decode cX1_field 11 = .ok (.bipush 12, 2) := by decide +kernel
theorem dX1_field_13 : decode cX1_field 13 = .ok (.if_icmp .gt 14, 3) := by decide +kernel
theorem dX1_field_16 : decode cX1_field 16 = .ok (.iload_n 2, 1) := by decide +kernel
theorem dX1_field_17 : decode cX1_field 17 = .ok (.iconst 2, 1) := by decide +kernel
theorem dX1_field_18 : decode cX1_field 18 = .ok (.if_icmp .lt 9, 3) := by decide +kernel
theorem dX1_field_21 : decode cX1_field 21 = .ok (.iload_n 2, 1) := by decide +kernel
theorem dX1_field_22 : decode cX1_field 22 = .ok (.bipush 12, 2) := by decide +kernel
theorem dX1_field_24 : decode cX1_field 24 = .ok (.if_icmp .le 5, 3) := by decide +kernel
theorem dX1_field_27 : decode cX1_field 27 = .ok (.iconst 0, 1) := by decide +kernel
theorem dX1_field_28 : decode cX1_field 28 = .ok (.ireturn, 1) := by decide +kernel
theorem dX1_field_29 : decode cX1_field 29 = .ok (.aload_n 0, 1) := by decide +kernel
theorem dX1_field_30 : decode cX1_field 30 = .ok (.iload_n 1, 1) := by decide +kernel
theorem dX1_field_31 : decode cX1_field 31 = .ok (.putfield 7, 3) := by decide +kernel
theorem dX1_field_34 : decode cX1_field 34 = .ok (.aload_n 0, 1) := by decide +kernel
theorem dX1_field_35 : decode cX1_field 35 = .ok (.iload_n 2, 1) := by decide +kernel
theorem dX1_field_36 : decode cX1_field 36 = .ok (.putfield 13, 3) := by decide +kernel
theorem dX1_field_39 : decode cX1_field 39 = .ok (.aload_n 0, 1) := by decide +kernel
theorem dX1_field_40 : decode cX1_field 40 = .ok (.iconst 0, 1) := by decide +kernel
theorem dX1_field_41 : decode cX1_field 41 = .ok (.putfield 39, 3) := by decide +kernel
theorem dX1_field_44 : decode cX1_field 44 = .ok (.iconst 0, 1) := by decide +kernel
theorem dX1_field_45 : decode cX1_field 45 = .ok (.istore_n 3, 1) := by decide +kernel
theorem dX1_field_46 : decode cX1_field 46 = .ok (.iload_n 3, 1) := by decide +kernel
theorem dX1_field_47 : decode cX1_field 47 = .ok (.sipush 144, 3) := by decide +kernel
theorem dX1_field_50 : decode cX1_field 50 = .ok (.if_icmp .ge 16, 3) := by decide +kernel
theorem dX1_field_53 : decode cX1_field 53 = .ok (.aload_n 0, 1) := by decide +kernel
theorem dX1_field_54 : decode cX1_field 54 = .ok (.getfield 19, 3) := by decide +kernel
theorem dX1_field_57 : decode cX1_field 57 = .ok (.iload_n 3, 1) := by decide +kernel
theorem dX1_field_58 : decode cX1_field 58 = .ok (.iconst 0, 1) := by decide +kernel
theorem dX1_field_59 : decode cX1_field 59 = .ok (.iastore, 1) := by decide +kernel
theorem dX1_field_60 : decode cX1_field 60 = .ok (.iinc 3 1, 3) := by decide +kernel
theorem dX1_field_63 : decode cX1_field 63 = .ok (.goto (-17), 3) := by decide +kernel
theorem dX1_field_66 : decode cX1_field 66 = .ok (.iconst 1, 1) := by decide +kernel
theorem dX1_field_67 : decode cX1_field 67 = .ok (.ireturn, 1) := by decide +kernel
theorem dX1_set_0 : decode cX1_set 0 = .ok (.aload_n 0, 1) := by decide +kernel
theorem dX1_set_1 : decode cX1_set 1 = .ok (.iconst 0, 1) := by decide +kernel
theorem dX1_set_2 : decode cX1_set 2 = .ok (.putfield 36, 3) := by decide +kernel
theorem dX1_set_5 : decode cX1_set 5 = .ok (.iload_n 1, 1) := by decide +kernel
theorem dX1_set_6 : decode cX1_set 6 = .ok (.ifCond .lt 35, 3) := by decide +kernel
theorem dX1_set_9 : decode cX1_set 9 = .ok (.iload_n 1, 1) := by decide +kernel
theorem dX1_set_10 : decode cX1_set 10 = .ok (.aload_n 0, 1) := by decide +kernel
theorem dX1_set_11 : decode cX1_set 11 = .ok (.getfield 7, 3) := by decide +kernel
theorem dX1_set_14 : decode cX1_set 14 = .ok (.if_icmp .ge 27, 3) := by decide +kernel
theorem dX1_set_17 : decode cX1_set 17 = .ok (.iload_n 2, 1) := by decide +kernel
theorem dX1_set_18 : decode cX1_set 18 = .ok (.ifCond .lt 23, 3) := by decide +kernel
theorem dX1_set_21 : decode cX1_set 21 = .ok (.iload_n 2, 1) := by decide +kernel
theorem dX1_set_22 : decode cX1_set 22 = .ok (.aload_n 0, 1) := by decide +kernel
theorem dX1_set_23 : decode cX1_set 23 = .ok (.getfield 13, 3) := by decide +kernel
theorem dX1_set_26 : decode cX1_set 26 = .ok (.if_icmp .ge 15, 3) := by decide +kernel
theorem dX1_set_29 : decode cX1_set 29 = .ok (.iload_n 3, 1) := by decide +kernel
theorem dX1_set_30 : decode cX1_set 30 = .ok (.ldc 42, 2) := by decide +kernel
theorem dX1_set_32 : decode cX1_set 32 = .ok (.if_icmp .lt 9, 3) := by decide +kernel
theorem dX1_set_35 : decode cX1_set 35 = .ok (.iload_n 3, 1) := by decide +kernel
theorem dX1_set_36 : decode cX1_set 36 = .ok (.ldc 43, 2) := by decide +kernel
theorem dX1_set_38 : decode cX1_set 38 = .ok (.if_icmp .le 5, 3) := by decide +kernel
theorem dX1_set_41 : decode cX1_set 41 = .ok (.iconst 0, 1) := by decide +kernel
theorem dX1_set_42 : decode cX1_set 42 = .ok (.ireturn, 1) := by decide +kernel
theorem dX1_set_43 : decode cX1_set 43 = .ok (.aload_n 0, 1) := by decide +kernel
theorem dX1_set_44 : decode cX1_set 44 = .ok (.getfield 19, 3) := by decide +kernel
theorem dX1_set_47 : decode cX1_set 47 = .ok (.bipush 12, 2) := by decide +kernel
theorem dX1_set_49 : decode cX1_set 49 = .ok (.iload_n 2, 1) := by decide +kernel
theorem dX1_set_50 : decode cX1_set 50 = .ok (.imul, 1) := by decide +kernel
theorem dX1_set_51 : decode cX1_set 51 = .ok (.iload_n 1, 1) := by decide +kernel
theorem dX1_set_52 : decode cX1_set 52 = .ok (.iadd, 1) := by decide +kernel
theorem dX1_set_53 : decode cX1_set 53 = .ok (.iload_n 3, 1) := by decide +kernel
theorem dX1_set_54 : decode cX1_set 54 = .ok (.iastore, 1) := by decide +kernel
theorem dX1_set_55 : decode cX1_set 55 = .ok (.iconst 1, 1) := by decide +kernel
theorem dX1_set_56 : decode cX1_set 56 = .ok (.ireturn, 1) := by decide +kernel
theorem dX1_row_0 : decode cX1_row 0 = .ok (.aload_n 0, 1) := by decide +kernel
theorem dX1_row_1 : decode cX1_row 1 = .ok (.iconst 0, 1) := by decide +kernel
theorem dX1_row_2 : decode cX1_row 2 = .ok (.putfield 36, 3) := by decide +kernel
theorem dX1_row_5 : decode cX1_row 5 = .ok (.iload_n 1, 1) := by decide +kernel
theorem dX1_row_6 : decode cX1_row 6 = .ok (.ifCond .lt 11, 3) := by decide +kernel
theorem dX1_row_9 : decode cX1_row 9 = .ok (.iload_n 1, 1) := by decide +kernel
theorem dX1_row_10 : decode cX1_row 10 = .ok (.aload_n 0, 1) := by decide +kernel
theorem dX1_row_11 : decode cX1_row 11 = .ok (.getfield 13, 3) := by decide +kernel
theorem dX1_row_14 : decode cX1_row 14 = .ok (.if_icmp .lt 5, 3) := by decide +kernel
theorem dX1_row_17 : decode cX1_row 17 = .ok (.iconst 0, 1) := by decide +kernel
theorem dX1_row_18 : decode cX1_row 18 = .ok (.ireturn, 1) := by decide +kernel
theorem dX1_row_19 : decode cX1_row 19 = .ok (.iconst 0, 1) := by decide +kernel
theorem dX1_row_20 : decode cX1_row 20 = .ok (.istore 4, 2) := by decide +kernel
theorem dX1_row_22 : decode cX1_row 22 = .ok (.iload 4, 2) := by decide +kernel
theorem dX1_row_24 : decode cX1_row 24 = .ok (.aload_n 0, 1) := by decide +kernel
theorem dX1_row_25 : decode cX1_row 25 = .ok (.getfield 7, 3) := by decide +kernel
theorem dX1_row_28 : decode cX1_row 28 = .ok (.if_icmp .ge 63, 3) := by decide +kernel
theorem dX1_row_31 : decode cX1_row 31 = .ok (.iload_n 2, 1) := by decide +kernel
theorem dX1_row_32 : decode cX1_row 32 = .ok (.i2l, 1) := by decide +kernel
theorem dX1_row_33 : decode cX1_row 33 = .ok (.iload_n 3, 1) := by decide +kernel
theorem dX1_row_34 : decode cX1_row 34 = .ok (.i2l, 1) := by decide +kernel
theorem dX1_row_35 : decode cX1_row 35 = .ok (.iload 4, 2) := by decide +kernel
theorem dX1_row_37 : decode cX1_row 37 = .ok (.i2l, 1) := by decide +kernel
theorem dX1_row_38 : decode cX1_row 38 = .ok (.lmul, 1) := by decide +kernel
theorem dX1_row_39 : decode cX1_row 39 = .ok (.ladd, 1) := by decide +kernel
theorem dX1_row_40 : decode cX1_row 40 = .ok (.lstore 5, 2) := by decide +kernel
theorem dX1_row_42 : decode cX1_row 42 = .ok (.aload_n 0, 1) := by decide +kernel
theorem dX1_row_43 : decode cX1_row 43 = .ok (.getfield 19, 3) := by decide +kernel
theorem dX1_row_46 : decode cX1_row 46 = .ok (.bipush 12, 2) := by decide +kernel
theorem dX1_row_48 : decode cX1_row 48 = .ok (.iload_n 1, 1) := by decide +kernel
theorem dX1_row_49 : decode cX1_row 49 = .ok (.imul, 1) := by decide +kernel
theorem dX1_row_50 : decode cX1_row 50 = .ok (.iload 4, 2) := by decide +kernel
theorem dX1_row_52 : decode cX1_row 52 = .ok (.iadd, 1) := by decide +kernel
theorem dX1_row_53 : decode cX1_row 53 = .ok (.lload 5, 2) := by decide +kernel
theorem dX1_row_55 : decode cX1_row 55 = .ok (.ldc2_w 44, 3) := by decide +kernel
theorem dX1_row_58 : decode cX1_row 58 = .ok (.lcmp, 1) := by decide +kernel
theorem dX1_row_59 : decode cX1_row 59 = .ok (.ifCond .ge 8, 3) := by decide +kernel
theorem dX1_row_62 : decode cX1_row 62 = .ok (.ldc 42, 2) := by decide +kernel
theorem dX1_row_64 : decode cX1_row 64 = .ok (.goto 20, 3) := by decide +kernel
theorem dX1_row_67 : decode cX1_row 67 = .ok (.lload 5, 2) := by decide +kernel
theorem dX1_row_69 : decode cX1_row 69 = .ok (.ldc2_w 46, 3) := by decide +kernel
theorem dX1_row_72 : decode cX1_row 72 = .ok (.lcmp, 1) := by decide +kernel
theorem dX1_row_73 : decode cX1_row 73 = .ok (.ifCond .le 8, 3) := by decide +kernel
theorem dX1_row_76 : decode cX1_row 76 = .ok (.ldc 43, 2) := by decide +kernel
theorem dX1_row_78 : decode cX1_row 78 = .ok (.goto 6, 3) := by decide +kernel
theorem dX1_row_81 : decode cX1_row 81 = .ok (.lload 5, 2) := by decide +kernel
theorem dX1_row_83 : decode cX1_row 83 = .ok (.l2i, 1) := by decide +kernel
theorem dX1_row_84 : decode cX1_row 84 = .ok (.iastore, 1) := by decide +kernel
theorem dX1_row_85 : decode cX1_row 85 = .ok (.iinc 4 1, 3) := by decide +kernel
theorem dX1_row_88 : decode cX1_row 88 = .ok (.goto (-66), 3) := by decide +kernel
theorem dX1_row_91 : decode cX1_row 91 = .ok (.iconst 1, 1) := by decide +kernel
theorem dX1_row_92 : decode cX1_row 92 = .ok (.ireturn, 1) := by decide +kernel
theorem dX1_height_0 : decode cX1_height 0 = .ok (.aload_n 0, 1) := by decide +kernel
theorem dX1_height_1 : decode cX1_height 1 = .ok (.iconst 0, 1) := by decide +kernel
theorem dX1_height_2 : decode cX1_height 2 = .ok (.putfield 36, 3) := by decide +kernel
theorem dX1_height_5 : decode cX1_height 5 = .ok (.iload_n 1, 1) := by decide +kernel
theorem dX1_height_6 : decode cX1_height 6 = .ok (.ldc 48, 2) := by decide +kernel
theorem dX1_height_8 : decode cX1_height 8 = .ok (.if_icmp .lt 15, 3) := by decide +kernel
theorem dX1_height_11 : decode cX1_height 11 = .ok (.iload_n 1, 1) := by decide +kernel
theorem dX1_height_12 : decode cX1_height 12 = .ok (.ldc 49, 2) := by decide +kernel
theorem dX1_height_14 : decode cX1_height 14 = .ok (.if_icmp .gt 9, 3) := by decide +kernel
theorem dX1_height_17 : decode cX1_height 17 = .ok (.iload_n 1, 1) := by decide +kernel
theorem dX1_height_18 : decode cX1_height 18 = .ok (.iconst 2, 1) := by decide +kernel
theorem dX1_height_19 : decode cX1_height 19 = .ok (.irem, 1) := by decide +kernel
theorem dX1_height_20 : decode cX1_height 20 = .ok (.ifCond .ne 5, 3) := by decide +kernel
theorem dX1_height_23 : decode cX1_height 23 = .ok (.iconst 0, 1) := by decide +kernel
theorem dX1_height_24 : decode cX1_height 24 = .ok (.ireturn, 1) := by decide +kernel
theorem dX1_height_25 : decode cX1_height 25 = .ok (.aload_n 0, 1) := by decide +kernel
theorem dX1_height_26 : decode cX1_height 26 = .ok (.iload_n 1, 1) := by decide +kernel
theorem dX1_height_27 : decode cX1_height 27 = .ok (.putfield 16, 3) := by decide +kernel
theorem dX1_height_30 : decode cX1_height 30 = .ok (.iconst 1, 1) := by decide +kernel
theorem dX1_height_31 : decode cX1_height 31 = .ok (.ireturn, 1) := by decide +kernel
theorem dX1_all_0 : decode cX1_all 0 = .ok (.aload_n 0, 1) := by decide +kernel
theorem dX1_all_1 : decode cX1_all 1 = .ok (.getfield 13, 3) := by decide +kernel
theorem dX1_all_4 : decode cX1_all 4 = .ok (.aload_n 0, 1) := by decide +kernel
theorem dX1_all_5 : decode cX1_all 5 = .ok (.getfield 7, 3) := by decide +kernel
theorem dX1_all_8 : decode cX1_all 8 = .ok (.iconst 1, 1) := by decide +kernel
theorem dX1_all_9 : decode cX1_all 9 = .ok (.isub, 1) := by decide +kernel
theorem dX1_all_10 : decode cX1_all 10 = .ok (.imul, 1) := by decide +kernel
theorem dX1_all_11 : decode cX1_all 11 = .ok (.aload_n 0, 1) := by decide +kernel
theorem dX1_all_12 : decode cX1_all 12 = .ok (.getfield 13, 3) := by decide +kernel
theorem dX1_all_15 : decode cX1_all 15 = .ok (.iconst 1, 1) := by decide +kernel
theorem dX1_all_16 : decode cX1_all 16 = .ok (.isub, 1) := by decide +kernel
theorem dX1_all_17 : decode cX1_all 17 = .ok (.aload_n 0, 1) := by decide +kernel
theorem dX1_all_18 : decode cX1_all 18 = .ok (.getfield 7, 3) := by decide +kernel
theorem dX1_all_21 : decode cX1_all 21 = .ok (.imul, 1) := by decide +kernel
theorem dX1_all_22 : decode cX1_all 22 = .ok (.iadd, 1) := by decide +kernel
theorem dX1_all_23 : decode cX1_all 23 = .ok (.ireturn, 1) := by decide +kernel
theorem dX1_isAcross_0 : decode cX1_isAcross 0 = .ok (.iload_n 1, 1) := by decide +kernel
theorem dX1_isAcross_1 : decode cX1_isAcross 1 = .ok (.aload_n 0, 1) := by decide +kernel
theorem dX1_isAcross_2 : decode cX1_isAcross 2 = .ok (.getfield 13, 3) := by decide +kernel
theorem dX1_isAcross_5 : decode cX1_isAcross 5 = .ok (.aload_n 0, 1) := by decide +kernel
theorem dX1_isAcross_6 : decode cX1_isAcross 6 = .ok (.getfield 7, 3) := by decide +kernel
theorem dX1_isAcross_9 : decode cX1_isAcross 9 = .ok (.iconst 1, 1) := by decide +kernel
theorem dX1_isAcross_10 : decode cX1_isAcross 10 = .ok (.isub, 1) := by decide +kernel
theorem dX1_isAcross_11 : decode cX1_isAcross 11 = .ok (.imul, 1) := by decide +kernel
theorem dX1_isAcross_12 : decode cX1_isAcross 12 = .ok (.if_icmp .ge 7, 3) := by decide +kernel
theorem dX1_isAcross_15 : decode cX1_isAcross 15 = .ok (.iconst 1, 1) := by decide +kernel
theorem dX1_isAcross_16 : decode cX1_isAcross 16 = .ok (.goto 4, 3) := by decide +kernel
theorem dX1_isAcross_19 : decode cX1_isAcross 19 = .ok (.iconst 0, 1) := by decide +kernel
theorem dX1_isAcross_20 : decode cX1_isAcross 20 = .ok (.ireturn, 1) := by decide +kernel
set_option maxRecDepth 20000 in
theorem ggX1_xOf_X1_isAcross : GoodIn wsX1_xOf wsX1_isAcross := goodIn_r _ [7, 2, 1, 8, 9, 10, 11, 12, 13, 14, 15, 16, 17] (by decide +kernel) (by decide +kernel)
set_option maxRecDepth 20000 in
theorem gX1_xOf_X1_isAcross : GoodIn wsX1_xOf (wsV RX1 50 RX1 yX1_isAcross wsX1_isAcross) := goodIn_app (goodIn_of _ (by decide +kernel)) ggX1_xOf_X1_isAcross
theorem dX1_xOf_0 : decode cX1_xOf 0 = .ok (.aload_n 0, 1) := by decide +kernel
theorem dX1_xOf_1 : decode cX1_xOf 1 = .ok (.iload_n 1, 1) := by decide +kernel
theorem dX1_xOf_2 : decode cX1_xOf 2 = .ok (.invokevirtual 50, 3) := by decide +kernel
theorem dX1_xOf_5 : decode cX1_xOf 5 = .ok (.ifCond .eq 14, 3) := by decide +kernel
theorem dX1_xOf_8 : decode cX1_xOf 8 = .ok (.iload_n 1, 1) := by decide +kernel
theorem dX1_xOf_9 : decode cX1_xOf 9 = .ok (.aload_n 0, 1) := by decide +kernel
theorem dX1_xOf_10 : decode cX1_xOf 10 = .ok (.getfield 7, 3) := by decide +kernel
theorem dX1_xOf_13 : decode cX1_xOf 13 = .ok (.iconst 1, 1) := by decide +kernel
theorem dX1_xOf_14 : decode cX1_xOf 14 = .ok (.isub, 1) := by decide +kernel
theorem dX1_xOf_15 : decode cX1_xOf 15 = .ok (.irem, 1) := by decide +kernel
theorem dX1_xOf_16 : decode cX1_xOf 16 = .ok (.goto 21, 3) := by decide +kernel
theorem dX1_xOf_19 : decode cX1_xOf 19 = .ok (.iload_n 1, 1) := by decide +kernel
theorem dX1_xOf_20 : decode cX1_xOf 20 = .ok (.aload_n 0, 1) := by decide +kernel
theorem dX1_xOf_21 : decode cX1_xOf 21 = .ok (.getfield 13, 3) := by decide +kernel
theorem dX1_xOf_24 : decode cX1_xOf 24 = .ok (.aload_n 0, 1) := by decide +kernel
theorem dX1_xOf_25 : decode cX1_xOf 25 = .ok (.getfield 7, 3) := by decide +kernel
theorem dX1_xOf_28 : decode cX1_xOf 28 = .ok (.iconst 1, 1) := by decide +kernel
theorem dX1_xOf_29 : decode cX1_xOf 29 = .ok (.isub, 1) := by decide +kernel
theorem dX1_xOf_30 : decode cX1_xOf 30 = .ok (.imul, 1) := by decide +kernel
theorem dX1_xOf_31 : decode cX1_xOf 31 = .ok (.isub, 1) := by decide +kernel
theorem dX1_xOf_32 : decode cX1_xOf 32 = .ok (.aload_n 0, 1) := by decide +kernel
theorem dX1_xOf_33 : decode cX1_xOf 33 = .ok (.getfield 7, 3) := by decide +kernel
theorem dX1_xOf_36 : decode cX1_xOf 36 = .ok (.irem, 1) := by decide +kernel
theorem dX1_xOf_37 : decode cX1_xOf 37 = .ok (.ireturn, 1) := by decide +kernel
set_option maxRecDepth 20000 in
theorem ggX1_yOf_X1_isAcross : GoodIn wsX1_yOf wsX1_isAcross := goodIn_r _ [7, 2, 1, 8, 9, 10, 11, 12, 13, 14, 15, 16, 17] (by decide +kernel) (by decide +kernel)
set_option maxRecDepth 20000 in
theorem gX1_yOf_X1_isAcross : GoodIn wsX1_yOf (wsV RX1 50 RX1 yX1_isAcross wsX1_isAcross) := goodIn_app (goodIn_of _ (by decide +kernel)) ggX1_yOf_X1_isAcross
theorem dX1_yOf_0 : decode cX1_yOf 0 = .ok (.aload_n 0, 1) := by decide +kernel
theorem dX1_yOf_1 : decode cX1_yOf 1 = .ok (.iload_n 1, 1) := by decide +kernel
theorem dX1_yOf_2 : decode cX1_yOf 2 = .ok (.invokevirtual 50, 3) := by decide +kernel
theorem dX1_yOf_5 : decode cX1_yOf 5 = .ok (.ifCond .eq 14, 3) := by decide +kernel
theorem dX1_yOf_8 : decode cX1_yOf 8 = .ok (.iload_n 1, 1) := by decide +kernel
theorem dX1_yOf_9 : decode cX1_yOf 9 = .ok (.aload_n 0, 1) := by decide +kernel
theorem dX1_yOf_10 : decode cX1_yOf 10 = .ok (.getfield 7, 3) := by decide +kernel
theorem dX1_yOf_13 : decode cX1_yOf 13 = .ok (.iconst 1, 1) := by decide +kernel
theorem dX1_yOf_14 : decode cX1_yOf 14 = .ok (.isub, 1) := by decide +kernel
theorem dX1_yOf_15 : decode cX1_yOf 15 = .ok (.idiv, 1) := by decide +kernel
theorem dX1_yOf_16 : decode cX1_yOf 16 = .ok (.goto 21, 3) := by decide +kernel
theorem dX1_yOf_19 : decode cX1_yOf 19 = .ok (.iload_n 1, 1) := by decide +kernel
theorem dX1_yOf_20 : decode cX1_yOf 20 = .ok (.aload_n 0, 1) := by decide +kernel
theorem dX1_yOf_21 : decode cX1_yOf 21 = .ok (.getfield 13, 3) := by decide +kernel
theorem dX1_yOf_24 : decode cX1_yOf 24 = .ok (.aload_n 0, 1) := by decide +kernel
theorem dX1_yOf_25 : decode cX1_yOf 25 = .ok (.getfield 7, 3) := by decide +kernel
