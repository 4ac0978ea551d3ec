theorem dX1_yOf_28 : decode cX1_yOf 28 = .ok (.iconst 1, 1) := by decide +kernel
theorem dX1_yOf_29 : decode cX1_yOf 29 = .ok (.isub, 1) := by decide +kernel
theorem dX1_yOf_30 : decode cX1_yOf 30 = .ok (.imul, 1) := by decide +kernel
theorem dX1_yOf_31 : decode cX1_yOf 31 = .ok (.isub, 1) := by decide +kernel
theorem dX1_yOf_32 : decode cX1_yOf 32 = .ok (.aload_n 0, 1) := by decide +kernel
theorem dX1_yOf_33 : decode cX1_yOf 33 = .ok (.getfield 7, 3) := by decide +kernel
theorem dX1_yOf_36 : decode cX1_yOf 36 = .ok (.idiv, 1) := by decide +kernel
theorem dX1_yOf_37 : decode cX1_yOf 37 = .ok (.ireturn, 1) := by decide +kernel
theorem dX1_at_0 : decode cX1_at 0 = .ok (.aload_n 0, 1) := by decide +kernel
theorem dX1_at_1 : decode cX1_at 1 = .ok (.getfield 19, 3) := by decide +kernel
theorem dX1_at_4 : decode cX1_at 4 = .ok (.bipush 12, 2) := by decide +kernel
theorem dX1_at_6 : decode cX1_at 6 = .ok (.iload_n 2, 1) := by decide +kernel
theorem dX1_at_7 : decode cX1_at 7 = .ok (.imul, 1) := by decide +kernel
theorem dX1_at_8 : decode cX1_at 8 = .ok (.iload_n 1, 1) := by decide +kernel
theorem dX1_at_9 : decode cX1_at 9 = .ok (.iadd, 1) := by decide +kernel
theorem dX1_at_10 : decode cX1_at 10 = .ok (.iaload, 1) := by decide +kernel
theorem dX1_at_11 : decode cX1_at 11 = .ok (.ireturn, 1) := by decide +kernel
set_option maxRecDepth 20000 in
theorem ggX1_first_X1_xOf : GoodIn wsX1_first wsX1_xOf := goodIn_r _ [5, 6, 7, 8, 9, 10, 4, 11, 21, 22, 23, 24, 25, 26, 27, 28, 29, 30] (by decide +kernel) (by decide +kernel)
set_option maxRecDepth 20000 in
theorem gX1_first_X1_xOf : GoodIn wsX1_first (wsV RX1 54 RX1 yX1_xOf wsX1_xOf) := goodIn_app (goodIn_of _ (by decide +kernel)) ggX1_first_X1_xOf
set_option maxRecDepth 20000 in
theorem ggX1_first_X1_yOf : GoodIn wsX1_first wsX1_yOf := goodIn_r _ [15, 6, 7, 8, 9, 10, 4, 11, 21, 22, 23, 24, 25, 26, 27, 28, 29, 30] (by decide +kernel) (by decide +kernel)
set_option maxRecDepth 20000 in
theorem gX1_first_X1_yOf : GoodIn wsX1_first (wsV RX1 58 RX1 yX1_yOf wsX1_yOf) := goodIn_app (goodIn_of _ (by decide +kernel)) ggX1_first_X1_yOf
set_option maxRecDepth 20000 in
theorem ggX1_first_X1_at : GoodIn wsX1_first wsX1_at := goodIn_r _ [19, 20, 21, 22, 23, 24, 25, 26, 27, 28, 29, 30] (by decide +kernel) (by decide +kernel)
set_option maxRecDepth 20000 in
theorem gX1_first_X1_at : GoodIn wsX1_first (wsV RX1 61 RX1 yX1_at wsX1_at) := goodIn_app (goodIn_of _ (by decide +kernel)) ggX1_first_X1_at
theorem dX1_first_0 : decode cX1_first 0 = .ok (.aload_n 0, 1) := by decide +kernel
theorem dX1_first_1 : decode cX1_first 1 = .ok (.aload_n 0, 1) := by decide +kernel
theorem dX1_first_2 : decode cX1_first 2 = .ok (.iload_n 1, 1) := by decide +kernel
theorem dX1_first_3 : decode cX1_first 3 = .ok (.invokevirtual 54, 3) := by decide +kernel
theorem dX1_first_6 : decode cX1_first 6 = .ok (.aload_n 0, 1) := by decide +kernel
theorem dX1_first_7 : decode cX1_first 7 = .ok (.iload_n 1, 1) := by decide +kernel
theorem dX1_first_8 : decode cX1_first 8 = .ok (.invokevirtual 58, 3) := by decide +kernel
theorem dX1_first_11 : decode cX1_first 11 = .ok (.invokevirtual 61, 3) := by decide +kernel
theorem dX1_first_14 : decode cX1_first 14 = .ok (.ireturn, 1) := by decide +kernel
set_option maxRecDepth 20000 in
theorem ggX1_second_X1_isAcross : GoodIn wsX1_second wsX1_isAcross := goodIn_r _ [5, 6, 7, 21, 22, 23, 24, 25, 26, 27, 28, 29, 30] (by decide +kernel) (by decide +kernel)
set_option maxRecDepth 20000 in
theorem gX1_second_X1_isAcross : GoodIn wsX1_second (wsV RX1 50 RX1 yX1_isAcross wsX1_isAcross) := goodIn_app (goodIn_of _ (by decide +kernel)) ggX1_second_X1_isAcross
set_option maxRecDepth 20000 in
theorem ggX1_second_X1_xOf : GoodIn wsX1_second wsX1_xOf := goodIn_r _ [11, 7, 6, 1, 2, 3, 4, 5, 21, 22, 23, 24, 25, 26, 27, 28, 29, 30] (by decide +kernel) (by decide +kernel)
set_option maxRecDepth 20000 in
theorem gX1_second_X1_xOf : GoodIn wsX1_second (wsV RX1 54 RX1 yX1_xOf wsX1_xOf) := goodIn_app (goodIn_of _ (by decide +kernel)) ggX1_second_X1_xOf
set_option maxRecDepth 20000 in
theorem ggX1_second_X1_yOf : GoodIn wsX1_second wsX1_yOf := goodIn_r _ [15, 7, 6, 1, 2, 3, 4, 5, 21, 22, 23, 24, 25, 26, 27, 28, 29, 30] (by decide +kernel) (by decide +kernel)
set_option maxRecDepth 20000 in
theorem gX1_second_X1_yOf : GoodIn wsX1_second (wsV RX1 58 RX1 yX1_yOf wsX1_yOf) := goodIn_app (goodIn_of _ (by decide +kernel)) ggX1_second_X1_yOf
set_option maxRecDepth 20000 in
theorem ggX1_second_X1_at : GoodIn wsX1_second wsX1_at := goodIn_r _ [19, 20, 21, 22, 23, 24, 25, 26, 27, 28, 29, 30] (by decide +kernel) (by decide +kernel)
set_option maxRecDepth 20000 in
theorem gX1_second_X1_at : GoodIn wsX1_second (wsV RX1 61 RX1 yX1_at wsX1_at) := goodIn_app (goodIn_of _ (by decide +kernel)) ggX1_second_X1_at
theorem dX1_second_0 : decode cX1_second 0 = .ok (.aload_n 0, 1) := by decide +kernel
theorem dX1_second_1 : decode cX1_second 1 = .ok (.iload_n 1, 1) := by decide +kernel
theorem dX1_second_2 : decode cX1_second 2 = .ok (.invokevirtual 50, 3) := by decide +kernel
theorem dX1_second_5 : decode cX1_second 5 = .ok (.ifCond .eq 22, 3) := by decide +kernel
theorem dX1_second_8 : decode cX1_second 8 = .ok (.aload_n 0, 1) := by decide +kernel
theorem dX1_second_9 : decode cX1_second 9 = .ok (.aload_n 0, 1) := by decide +kernel
theorem dX1_second_10 : decode cX1_second 10 = .ok (.iload_n 1, 1) := by decide +kernel
theorem dX1_second_11 : decode cX1_second 11 = .ok (.invokevirtual 54, 3) := by decide +kernel
theorem dX1_second_14 : decode cX1_second 14 = .ok (.iconst 1, 1) := by decide +kernel
theorem dX1_second_15 : decode cX1_second 15 = .ok (.iadd, 1) := by decide +kernel
theorem dX1_second_16 : decode cX1_second 16 = .ok (.aload_n 0, 1) := by decide +kernel
theorem dX1_second_17 : decode cX1_second 17 = .ok (.iload_n 1, 1) := by decide +kernel
theorem dX1_second_18 : decode cX1_second 18 = .ok (.invokevirtual 58, 3) := by decide +kernel
theorem dX1_second_21 : decode cX1_second 21 = .ok (.invokevirtual 61, 3) := by decide +kernel
theorem dX1_second_24 : decode cX1_second 24 = .ok (.goto 19, 3) := by decide +kernel
theorem dX1_second_27 : decode cX1_second 27 = .ok (.aload_n 0, 1) := by decide +kernel
theorem dX1_second_28 : decode cX1_second 28 = .ok (.aload_n 0, 1) := by decide +kernel
theorem dX1_second_29 : decode cX1_second 29 = .ok (.iload_n 1, 1) := by decide +kernel
theorem dX1_second_30 : decode cX1_second 30 = .ok (.invokevirtual 54, 3) := by decide +kernel
theorem dX1_second_33 : decode cX1_second 33 = .ok (.aload_n 0, 1) := by decide +kernel
theorem dX1_second_34 : decode cX1_second 34 = .ok (.iload_n 1, 1) := by decide +kernel
theorem dX1_second_35 : decode cX1_second 35 = .ok (.invokevirtual 58, 3) := by decide +kernel
theorem dX1_second_38 : decode cX1_second 38 = .ok (.iconst 1, 1) := by decide +kernel
theorem dX1_second_39 : decode cX1_second 39 = .ok (.iadd, 1) := by decide +kernel
theorem dX1_second_40 : decode cX1_second 40 = .ok (.invokevirtual 61, 3) := by decide +kernel
theorem dX1_second_43 : decode cX1_second 43 = .ok (.ireturn, 1) := by decide +kernel
theorem dX1_isAbove_0 : decode cX1_isAbove 0 = .ok (.iconst 2, 1) := by decide +kernel
theorem dX1_isAbove_1 : decode cX1_isAbove 1 = .ok (.iload_n 1, 1) := by decide +kernel
theorem dX1_isAbove_2 : decode cX1_isAbove 2 = .ok (.imul, 1) := by decide +kernel
theorem dX1_isAbove_3 : decode cX1_isAbove 3 = .ok (.aload_n 0, 1) := by decide +kernel
theorem dX1_isAbove_4 : decode cX1_isAbove 4 = .ok (.getfield 16, 3) := by decide +kernel
theorem dX1_isAbove_7 : decode cX1_isAbove 7 = .ok (.if_icmp .le 7, 3) := by decide +kernel
theorem dX1_isAbove_10 : decode cX1_isAbove 10 = .ok (.iconst 1, 1) := by decide +kernel
theorem dX1_isAbove_11 : decode cX1_isAbove 11 = .ok (.goto 4, 3) := by decide +kernel
theorem dX1_isAbove_14 : decode cX1_isAbove 14 = .ok (.iconst 0, 1) := by decide +kernel
theorem dX1_isAbove_15 : decode cX1_isAbove 15 = .ok (.ireturn, 1) := by decide +kernel
set_option maxRecDepth 20000 in
theorem ggX1_isCrossed_X1_first : GoodIn wsX1_isCrossed wsX1_first := goodIn_r _ [5, 6, 7, 8, 4, 9, 10, 11, 12, 13, 14, 15, 16, 17, 18, 19, 20, 21, 22, 23, 24, 34, 35, 36, 37, 38, 39, 40, 41, 42, 43] (by decide +kernel) (by decide +kernel)
set_option maxRecDepth 20000 in
theorem gX1_isCrossed_X1_first : GoodIn wsX1_isCrossed (wsV RX1 65 RX1 yX1_first wsX1_first) := goodIn_app (goodIn_of _ (by decide +kernel)) ggX1_isCrossed_X1_first
set_option maxRecDepth 20000 in
theorem ggX1_isCrossed_X1_isAbove : GoodIn wsX1_isCrossed wsX1_isAbove := goodIn_r _ [28, 29, 34, 35, 36, 37, 38, 39, 40, 41, 42, 43] (by decide +kernel) (by decide +kernel)
set_option maxRecDepth 20000 in
theorem gX1_isCrossed_X1_isAbove : GoodIn wsX1_isCrossed (wsV RX1 68 RX1 yX1_isAbove wsX1_isAbove) := goodIn_app (goodIn_of _ (by decide +kernel)) ggX1_isCrossed_X1_isAbove
set_option maxRecDepth 20000 in
theorem ggX1_isCrossed_X1_second : GoodIn wsX1_isCrossed wsX1_second := goodIn_r _ [33, 12, 13, 14, 4, 15, 11, 10, 6, 7, 8, 9, 16, 17, 18, 19, 20, 21, 22, 23, 24, 34, 35, 36, 37, 38, 39, 40, 41, 42, 43] (by decide +kernel) (by decide +kernel)
set_option maxRecDepth 20000 in
theorem gX1_isCrossed_X1_second : GoodIn wsX1_isCrossed (wsV RX1 71 RX1 yX1_second wsX1_second) := goodIn_app (goodIn_of _ (by decide +kernel)) ggX1_isCrossed_X1_second
theorem dX1_isCrossed_0 : decode cX1_isCrossed 0 = .ok (.aload_n 0, 1) := by decide +kernel
theorem dX1_isCrossed_1 : decode cX1_isCrossed 1 = .ok (.aload_n 0, 1) := by decide +kernel
theorem dX1_isCrossed_2 : decode cX1_isCrossed 2 = .ok (.iload_n 1, 1) := by decide +kernel
theorem dX1_isCrossed_3 : decode cX1_isCrossed 3 = .ok (.invokevirtual 65, 3) := by decide +kernel
theorem dX1_isCrossed_6 : decode cX1_isCrossed 6 = .ok (.invokevirtual 68, 3) := by decide +kernel
theorem dX1_isCrossed_9 : decode cX1_isCrossed 9 = .ok (.aload_n 0, 1) := by decide +kernel
theorem dX1_isCrossed_10 : decode cX1_isCrossed 10 = .ok (.aload_n 0, 1) := by decide +kernel
theorem dX1_isCrossed_11 : decode cX1_isCrossed 11 = .ok (.iload_n 1, 1) := by decide +kernel
theorem dX1_isCrossed_12 : decode cX1_isCrossed 12 = .ok (.invokevirtual 71, 3) := by decide +kernel
theorem dX1_isCrossed_15 : decode cX1_isCrossed 15 = .ok (.invokevirtual 68, 3) := by decide +kernel
theorem dX1_isCrossed_18 : decode cX1_isCrossed 18 = .ok (.if_icmp .eq 7, 3) := by decide +kernel
theorem dX1_isCrossed_21 : decode cX1_isCrossed 21 = .ok (.iconst 1, 1) := by decide +kernel
theorem dX1_isCrossed_22 : decode cX1_isCrossed 22 = .ok (.goto 4, 3) := by decide +kernel
theorem dX1_isCrossed_25 : decode cX1_isCrossed 25 = .ok (.iconst 0, 1) := by decide +kernel
theorem dX1_isCrossed_26 : decode cX1_isCrossed 26 = .ok (.ireturn, 1) := by decide +kernel
set_option maxRecDepth 20000 in
theorem ggX1_corner_X1_at : GoodIn wsX1_corner wsX1_at := goodIn_r _ [5, 6, 7, 8, 9, 10, 11, 12, 13, 14, 15, 16] (by decide +kernel) (by decide +kernel)
set_option maxRecDepth 20000 in
theorem gX1_corner_X1_at : GoodIn wsX1_corner (wsV RX1 61 RX1 yX1_at wsX1_at) := goodIn_app (goodIn_of _ (by decide +kernel)) ggX1_corner_X1_at
theorem dX1_corner_0 : decode cX1_corner 0 = .ok (.iload_n 3, 1) := by decide +kernel
theorem dX1_corner_1 : decode cX1_corner 1 = .ok (.iconst 3, 1) := by decide +kernel
theorem dX1_corner_2 : decode cX1_corner 2 = .ok (.iand, 1) := by decide +kernel
theorem dX1_corner_3 : decode cX1_corner 3 = .ok (.tableswitch 52 0 2 #[25, 32, 41], 25) := by decide +kernel
theorem dX1_corner_28 : decode cX1_corner 28 = .ok (.aload_n 0, 1) := by decide +kernel
theorem dX1_corner_29 : decode cX1_corner 29 = .ok (.iload_n 1, 1) := by decide +kernel
theorem dX1_corner_30 : decode cX1_corner 30 = .ok (.iload_n 2, 1) := by decide +kernel
theorem dX1_corner_31 : decode cX1_corner 31 = .ok (.invokevirtual 61, 3) := by decide +kernel
theorem dX1_corner_34 : decode cX1_corner 34 = .ok (.ireturn, 1) := by decide +kernel
theorem dX1_corner_35 : decode cX1_corner 35 = .ok (.aload_n 0, 1) := by decide +kernel
theorem dX1_corner_36 : decode cX1_corner 36 = .ok (.iload_n 1, 1) := by decide +kernel
theorem dX1_corner_37 : decode cX1_corner 37 = .ok (.iconst 1, 1) := by decide +kernel
theorem dX1_corner_38 : decode cX1_corner 38 = .ok (.iadd, 1) := by decide +kernel
theorem dX1_corner_39 : decode cX1_corner 39 = .ok (.iload_n 2, 1) := by decide +kernel
theorem dX1_corner_40 : decode cX1_corner 40 = .ok (.invokevirtual 61, 3) := by decide +kernel
theorem dX1_corner_43 : decode cX1_corner 43 = .ok (.ireturn, 1) := by decide +kernel
theorem dX1_corner_44 : decode cX1_corner 44 = .ok (.aload_n 0, 1) := by decide +kernel
theorem dX1_corner_45 : decode cX1_corner 45 = .ok (.iload_n 1, 1) := by decide +kernel
theorem dX1_corner_46 : decode cX1_corner 46 = .ok (.iconst 1, 1) := by decide +kernel
theorem dX1_corner_47 : decode cX1_corner 47 = .ok (.iadd, 1) := by decide +kernel
theorem dX1_corner_48 : decode cX1_corner 48 = .ok (.iload_n 2, 1) := by decide +kernel
theorem dX1_corner_49 : decode cX1_corner 49 = .ok (.iconst 1, 1) := by decide +kernel
theorem dX1_corner_50 : decode cX1_corner 50 = .ok (.iadd, 1) := by decide +kernel
theorem dX1_corner_51 : decode cX1_corner 51 = .ok (.invokevirtual 61, 3) := by decide +kernel
theorem dX1_corner_54 : decode cX1_corner 54 = .ok (.ireturn, 1) := by decide +kernel
theorem dX1_corner_55 : decode cX1_corner 55 = .ok (.aload_n 0, 1) := by decide +kernel
theorem dX1_corner_56 : decode cX1_corner 56 = .ok (.iload_n 1, 1) := by decide +kernel
theorem dX1_corner_57 : decode cX1_corner 57 = .ok (.iload_n 2, 1) := by decide +kernel
theorem dX1_corner_58 : decode cX1_corner 58 = .ok (.iconst 1, 1) := by decide +kernel
theorem dX1_corner_59 : decode cX1_corner 59 = .ok (.iadd, 1) := by decide +kernel
theorem dX1_corner_60 : decode cX1_corner 60 = .ok (.invokevirtual 61, 3) := by decide +kernel
theorem dX1_corner_63 : decode cX1_corner 63 = .ok (.ireturn, 1) := by decide +kernel
theorem dX1_edgeOf_0 : decode cX1_edgeOf 0 = .ok (.aload_n 0, 1) := by decide +kernel
theorem dX1_edgeOf_1 : decode cX1_edgeOf 1 = .ok (.getfield 13, 3) := by decide +kernel
theorem dX1_edgeOf_4 : decode cX1_edgeOf 4 = .ok (.aload_n 0, 1) := by decide +kernel
theorem dX1_edgeOf_5 : decode cX1_edgeOf 5 = .ok (.getfield 7, 3) := by decide +kernel
theorem dX1_edgeOf_8 : decode cX1_edgeOf 8 = .ok (.iconst 1, 1) := by decide +kernel
theorem dX1_edgeOf_9 : decode cX1_edgeOf 9 = .ok (.isub, 1) := by decide +kernel
theorem dX1_edgeOf_10 : decode cX1_edgeOf 10 = .ok (.imul, 1) := by decide +kernel
theorem dX1_edgeOf_11 : decode cX1_edgeOf 11 = .ok (.istore 4, 2) := by decide +kernel
theorem dX1_edgeOf_13 : decode cX1_edgeOf 13 = .ok (.iload_n 3, 1) := by decide +kernel
theorem dX1_edgeOf_14 : decode cX1_edgeOf 14 = .ok (.iconst 3, 1) := by decide +kernel
theorem dX1_edgeOf_15 : decode cX1_edgeOf 15 = .ok (.iand, 1) := by decide +kernel
theorem dX1_edgeOf_16 : decode cX1_edgeOf 16 = .ok (.tableswitch 66 0 2 #[28, 39, 53], 28) := by decide +kernel
theorem dX1_edgeOf_44 : decode cX1_edgeOf 44 = .ok (.iload_n 2, 1) := by decide +kernel
theorem dX1_edgeOf_45 : decode cX1_edgeOf 45 = .ok (.aload_n 0, 1) := by decide +kernel
theorem dX1_edgeOf_46 : decode cX1_edgeOf 46 = .ok (.getfield 7, 3) := by decide +kernel
theorem dX1_edgeOf_49 : decode cX1_edgeOf 49 = .ok (.iconst 1, 1) := by decide +kernel
theorem dX1_edgeOf_50 : decode cX1_edgeOf 50 = .ok (.isub, 1) := by decide +kernel
theorem dX1_edgeOf_51 : decode cX1_edgeOf 51 = .ok (.imul, 1) := by decide +kernel
theorem dX1_edgeOf_52 : decode cX1_edgeOf 52 = .ok (.iload_n 1, 1) := by decide +kernel
theorem dX1_edgeOf_53 : decode cX1_edgeOf 53 = .ok (.iadd, 1) := by decide +kernel
theorem dX1_edgeOf_54 : decode cX1_edgeOf 54 = .ok (.ireturn, 1) := by decide +kernel
theorem dX1_edgeOf_55 : decode cX1_edgeOf 55 = .ok (.iload 4, 2) := by decide +kernel
theorem dX1_edgeOf_57 : decode cX1_edgeOf 57 = .ok (.iload_n 2, 1) := by decide +kernel
theorem dX1_edgeOf_58 : decode cX1_edgeOf 58 = .ok (.aload_n 0, 1) := by decide +kernel
theorem dX1_edgeOf_59 : decode cX1_edgeOf 59 = .ok (.getfield 7, 3) := by decide +kernel
theorem dX1_edgeOf_62 : decode cX1_edgeOf 62 = .ok (.imul, 1) := by decide +kernel
theorem dX1_edgeOf_63 : decode cX1_edgeOf 63 = .ok (.iadd, 1) := by decide +kernel
theorem dX1_edgeOf_64 : decode cX1_edgeOf 64 = .ok (.iload_n 1, 1) := by decide +kernel
theorem dX1_edgeOf_65 : decode cX1_edgeOf 65 = .ok (.iadd, 1) := by decide +kernel
theorem dX1_edgeOf_66 : decode cX1_edgeOf 66 = .ok (.iconst 1, 1) := by decide +kernel
theorem dX1_edgeOf_67 : decode cX1_edgeOf 67 = .ok (.iadd, 1) := by decide +kernel
theorem dX1_edgeOf_68 : decode cX1_edgeOf 68 = .ok (.ireturn, 1) := by decide +kernel
theorem dX1_edgeOf_69 : decode cX1_edgeOf 69 = .ok (.iload_n 2, 1) := by decide +kernel
theorem dX1_edgeOf_70 : decode cX1_edgeOf 70 = .ok (.iconst 1, 1) := by decide +kernel
theorem dX1_edgeOf_71 : decode cX1_edgeOf 71 = .ok (.iadd, 1) := by decide +kernel
theorem dX1_edgeOf_72 : decode cX1_edgeOf 72 = .ok (.aload_n 0, 1) := by decide +kernel
theorem dX1_edgeOf_73 : decode cX1_edgeOf 73 = .ok (.getfield 7, 3) := by decide +kernel
theorem dX1_edgeOf_76 : decode cX1_edgeOf 76 = .ok (.iconst 1, 1) := by decide +kernel
theorem dX1_edgeOf_77 : decode cX1_edgeOf 77 = .ok (.isub, 1) := by decide +kernel
theorem dX1_edgeOf_78 : decode cX1_edgeOf 78 = .ok (.imul, 1) := by decide +kernel
theorem dX1_edgeOf_79 : decode cX1_edgeOf 79 = .ok (.iload_n 1, 1) := by decide +kernel
theorem dX1_edgeOf_80 : decode cX1_edgeOf 80 = .ok (.iadd, 1) := by decide +kernel
theorem dX1_edgeOf_81 : decode cX1_edgeOf 81 = .ok (.ireturn, 1) := by decide +kernel
theorem dX1_edgeOf_82 : decode cX1_edgeOf 82 = .ok (.iload 4, 2) := by decide +kernel
theorem dX1_edgeOf_84 : decode cX1_edgeOf 84 = .ok (.iload_n 2, 1) := by decide +kernel
theorem dX1_edgeOf_85 : decode cX1_edgeOf 85 = .ok (.aload_n 0, 1) := by decide +kernel
theorem dX1_edgeOf_86 : decode cX1_edgeOf 86 = .ok (.getfield 7, 3) := by decide +kernel
theorem dX1_edgeOf_89 : decode cX1_edgeOf 89 = .ok (.imul, 1) := by decide +kernel
theorem dX1_edgeOf_90 : decode cX1_edgeOf 90 = .ok (.iadd, 1) := by decide +kernel
theorem dX1_edgeOf_91 : decode cX1_edgeOf 91 = .ok (.iload_n 1, 1) := by decide +kernel
theorem dX1_edgeOf_92 : decode cX1_edgeOf 92 = .ok (.iadd, 1) := by decide +kernel
theorem dX1_edgeOf_93 : decode cX1_edgeOf 93 = .ok (.ireturn, 1) := by decide +kernel
set_option maxRecDepth 20000 in
theorem ggX1_isDown_X1_corner : GoodIn wsX1_isDown wsX1_corner := goodIn_r _ [5, 6, 7, 8, 4, 9, 10, 16, 17, 18, 19, 20, 21, 22, 23, 24, 25] (by decide +kernel) (by decide +kernel)
set_option maxRecDepth 20000 in
theorem gX1_isDown_X1_corner : GoodIn wsX1_isDown (wsV RX1 74 RX1 yX1_corner wsX1_corner) := goodIn_app (goodIn_of _ (by decide +kernel)) ggX1_isDown_X1_corner
set_option maxRecDepth 20000 in
theorem ggX1_isDown_X1_isAbove : GoodIn wsX1_isDown wsX1_isAbove := goodIn_r _ [14, 15, 16, 17, 18, 19, 20, 21, 22, 23, 24, 25] (by decide +kernel) (by decide +kernel)
set_option maxRecDepth 20000 in
theorem gX1_isDown_X1_isAbove : GoodIn wsX1_isDown (wsV RX1 68 RX1 yX1_isAbove wsX1_isAbove) := goodIn_app (goodIn_of _ (by decide +kernel)) ggX1_isDown_X1_isAbove
theorem dX1_isDown_0 : decode cX1_isDown 0 = .ok (.aload_n 0, 1) := by decide +kernel
theorem dX1_isDown_1 : decode cX1_isDown 1 = .ok (.aload_n 0, 1) := by decide +kernel
theorem dX1_isDown_2 : decode cX1_isDown 2 = .ok (.iload_n 1, 1) := by decide +kernel
theorem dX1_isDown_3 : decode cX1_isDown 3 = .ok (.iload_n 2, 1) := by decide +kernel
theorem dX1_isDown_4 : decode cX1_isDown 4 = .ok (.iload_n 3, 1) := by decide +kernel
theorem dX1_isDown_5 : decode cX1_isDown 5 = .ok (.invokevirtual 74, 3) := by decide +kernel
theorem dX1_isDown_8 : decode cX1_isDown 8 = .ok (.invokevirtual 68, 3) := by decide +kernel
theorem dX1_isDown_11 : decode cX1_isDown 11 = .ok (.ifCond .eq 23, 3) := by decide +kernel
theorem dX1_isDown_14 : decode cX1_isDown 14 = .ok (.aload_n 0, 1) := by decide +kernel
theorem dX1_isDown_15 : decode cX1_isDown 15 = .ok (.aload_n 0, 1) := by decide +kernel
theorem dX1_isDown_16 : decode cX1_isDown 16 = .ok (.iload_n 1, 1) := by decide +kernel
theorem dX1_isDown_17 : decode cX1_isDown 17 = .ok (.iload_n 2, 1) := by decide +kernel
theorem dX1_isDown_18 : decode cX1_isDown 18 = .ok (.iload_n 3, 1) := by decide +kernel
theorem dX1_isDown_19 : decode cX1_isDown 19 = .ok (.iconst 1, 1) := by decide +kernel
theorem dX1_isDown_20 : decode cX1_isDown 20 = .ok (.iadd, 1) := by decide +kernel
theorem dX1_isDown_21 : decode cX1_isDown 21 = .ok (.invokevirtual 74, 3) := by decide +kernel
theorem dX1_isDown_24 : decode cX1_isDown 24 = .ok (.invokevirtual 68, 3) := by decide +kernel
theorem dX1_isDown_27 : decode cX1_isDown 27 = .ok (.ifCond .ne 7, 3) := by decide +kernel
theorem dX1_isDown_30 : decode cX1_isDown 30 = .ok (.iconst 1, 1) := by decide +kernel
theorem dX1_isDown_31 : decode cX1_isDown 31 = .ok (.goto 4, 3) := by decide +kernel
theorem dX1_isDown_34 : decode cX1_isDown 34 = .ok (.iconst 0, 1) := by decide +kernel
theorem dX1_isDown_35 : decode cX1_isDown 35 = .ok (.ireturn, 1) := by decide +kernel
set_option maxRecDepth 20000 in
theorem ggX1_isUp_X1_corner : GoodIn wsX1_isUp wsX1_corner := goodIn_r _ [5, 6, 7, 8, 4, 9, 10, 16, 17, 18, 19, 20, 21, 22, 23, 24, 25] (by decide +kernel) (by decide +kernel)
set_option maxRecDepth 20000 in
theorem gX1_isUp_X1_corner : GoodIn wsX1_isUp (wsV RX1 74 RX1 yX1_corner wsX1_corner) := goodIn_app (goodIn_of _ (by decide +kernel)) ggX1_isUp_X1_corner
set_option maxRecDepth 20000 in
theorem ggX1_isUp_X1_isAbove : GoodIn wsX1_isUp wsX1_isAbove := goodIn_r _ [14, 15, 16, 17, 18, 19, 20, 21, 22, 23, 24, 25] (by decide +kernel) (by decide +kernel)
set_option maxRecDepth 20000 in
theorem gX1_isUp_X1_isAbove : GoodIn wsX1_isUp (wsV RX1 68 RX1 yX1_isAbove wsX1_isAbove) := goodIn_app (goodIn_of _ (by decide +kernel)) ggX1_isUp_X1_isAbove
theorem dX1_isUp_0 : decode cX1_isUp 0 = .ok (.aload_n 0, 1) := by decide +kernel
theorem dX1_isUp_1 : decode cX1_isUp 1 = .ok (.aload_n 0, 1) := by decide +kernel
theorem dX1_isUp_2 : decode cX1_isUp 2 = .ok (.iload_n 1, 1) := by decide +kernel
theorem dX1_isUp_3 : decode cX1_isUp 3 = .ok (.iload_n 2, 1) := by decide +kernel
theorem dX1_isUp_4 : decode cX1_isUp 4 = .ok (.iload_n 3, 1) := by decide +kernel
theorem dX1_isUp_5 : decode cX1_isUp 5 = .ok (.invokevirtual 74, 3) := by decide +kernel
theorem dX1_isUp_8 : decode cX1_isUp 8 = .ok (.invokevirtual 68, 3) := by decide +kernel
theorem dX1_isUp_11 : decode cX1_isUp 11 = .ok (.ifCond .ne 23, 3) := by decide +kernel
theorem dX1_isUp_14 : decode cX1_isUp 14 = .ok (.aload_n 0, 1) := by decide +kernel
theorem dX1_isUp_15 : decode cX1_isUp 15 = .ok (.aload_n 0, 1) := by decide +kernel
theorem dX1_isUp_16 : decode cX1_isUp 16 = .ok (.iload_n 1, 1) := by decide +kernel
theorem dX1_isUp_17 : decode cX1_isUp 17 = .ok (.iload_n 2, 1) := by decide +kernel
theorem dX1_isUp_18 : decode cX1_isUp 18 = .ok (.iload_n 3, 1) := by decide +kernel
theorem dX1_isUp_19 : decode cX1_isUp 19 = .ok (.iconst 1, 1) := by decide +kernel
theorem dX1_isUp_20 : decode cX1_isUp 20 = .ok (.iadd, 1) := by decide +kernel
theorem dX1_isUp_21 : decode cX1_isUp 21 = .ok (.invokevirtual 74, 3) := by decide +kernel
theorem dX1_isUp_24 : decode cX1_isUp 24 = .ok (.invokevirtual 68, 3) := by decide +kernel
theorem dX1_isUp_27 : decode cX1_isUp 27 = .ok (.ifCond .eq 7, 3) := by decide +kernel
theorem dX1_isUp_30 : decode cX1_isUp 30 = .ok (.iconst 1, 1) := by decide +kernel
theorem dX1_isUp_31 : decode cX1_isUp 31 = .ok (.goto 4, 3) := by decide +kernel
theorem dX1_isUp_34 : decode cX1_isUp 34 = .ok (.iconst 0, 1) := by decide +kernel
theorem dX1_isUp_35 : decode cX1_isUp 35 = .ok (.ireturn, 1) := by decide +kernel
set_option maxRecDepth 20000 in
theorem ggX1_isMiddleAbove_X1_corner : GoodIn wsX1_isMiddleAbove wsX1_corner := goodIn_r _ [7, 8, 9, 10, 6, 11, 12, 13, 14, 15, 16, 17, 18, 19, 20, 21, 22] (by decide +kernel) (by decide +kernel)
set_option maxRecDepth 20000 in
theorem gX1_isMiddleAbove_X1_corner : GoodIn wsX1_isMiddleAbove (wsV RX1 74 RX1 yX1_corner wsX1_corner) := goodIn_app (goodIn_of _ (by decide +kernel)) ggX1_isMiddleAbove_X1_corner
theorem dX1_isMiddleAbove_0 : decode cX1_isMiddleAbove 0 = .ok (.aload_n 0, 1) := by decide +kernel
theorem dX1_isMiddleAbove_1 : decode cX1_isMiddleAbove 1 = .ok (.iload_n 1, 1) := by decide +kernel
theorem dX1_isMiddleAbove_2 : decode cX1_isMiddleAbove 2 = .ok (.iload_n 2, 1) := by decide +kernel
theorem dX1_isMiddleAbove_3 : decode cX1_isMiddleAbove 3 = .ok (.iconst 0, 1) := by decide +kernel
theorem dX1_isMiddleAbove_4 : decode cX1_isMiddleAbove 4 = .ok (.invokevirtual 74, 3) := by decide +kernel
theorem dX1_isMiddleAbove_7 : decode cX1_isMiddleAbove 7 = .ok (.i2l, 1) := by decide +kernel
theorem dX1_isMiddleAbove_8 : decode cX1_isMiddleAbove 8 = .ok (.lstore_n 3, 1) := by decide +kernel
theorem dX1_isMiddleAbove_9 : decode cX1_isMiddleAbove 9 = .ok (.aload_n 0, 1) := by decide +kernel
theorem dX1_isMiddleAbove_10 : decode cX1_isMiddleAbove 10 = .ok (.iload_n 1, 1) := by decide +kernel
theorem dX1_isMiddleAbove_11 : decode cX1_isMiddleAbove 11 = .ok (.iload_n 2, 1) := by decide +kernel
theorem dX1_isMiddleAbove_12 : decode cX1_isMiddleAbove 12 = .ok (.iconst 1, 1) := by decide +kernel
theorem dX1_isMiddleAbove_13 : decode cX1_isMiddleAbove 13 = .ok (.invokevirtual 74, 3) := by decide +kernel
theorem dX1_isMiddleAbove_16 : decode cX1_isMiddleAbove 16 = .ok (.i2l, 1) := by decide +kernel
theorem dX1_isMiddleAbove_17 : decode cX1_isMiddleAbove 17 = .ok (.lstore 5, 2) := by decide +kernel
theorem dX1_isMiddleAbove_19 : decode cX1_isMiddleAbove 19 = .ok (.aload_n 0, 1) := by decide +kernel
theorem dX1_isMiddleAbove_20 : decode cX1_isMiddleAbove 20 = .ok (.iload_n 1, 1) := by decide +kernel
theorem dX1_isMiddleAbove_21 : decode cX1_isMiddleAbove 21 = .ok (.iload_n 2, 1) := by decide +kernel
theorem dX1_isMiddleAbove_22 : decode cX1_isMiddleAbove 22 = .ok (.iconst 2, 1) := by decide +kernel
theorem dX1_isMiddleAbove_23 : decode cX1_isMiddleAbove 23 = .ok (.invokevirtual 74, 3) := by decide +kernel
theorem dX1_isMiddleAbove_26 : decode cX1_isMiddleAbove 26 = .ok (.i2l, 1) := by decide +kernel
theorem dX1_isMiddleAbove_27 : decode cX1_isMiddleAbove 27 = .ok (.lstore 7, 2) := by decide +kernel
theorem dX1_isMiddleAbove_29 : decode cX1_isMiddleAbove 29 = .ok (.aload_n 0, 1) := by decide +kernel
theorem dX1_isMiddleAbove_30 : decode cX1_isMiddleAbove 30 = .ok (.iload_n 1, 1) := by decide +kernel
theorem dX1_isMiddleAbove_31 : decode cX1_isMiddleAbove 31 = .ok (.iload_n 2, 1) := by decide +kernel
theorem dX1_isMiddleAbove_32 : decode cX1_isMiddleAbove 32 = .ok (.iconst 3, 1) := by decide +kernel
theorem dX1_isMiddleAbove_33 : decode cX1_isMiddleAbove 33 = .ok (.invokevirtual 74, 3) := by decide +kernel
theorem dX1_isMiddleAbove_36 : decode cX1_isMiddleAbove 36 = .ok (.i2l, 1) := by decide +kernel
theorem dX1_isMiddleAbove_37 : decode cX1_isMiddleAbove 37 = .ok (.lstore 9, 2) := by decide +kernel
theorem dX1_isMiddleAbove_39 : decode cX1_isMiddleAbove 39 = .ok (.lload_n 3, 1) := by decide +kernel
theorem dX1_isMiddleAbove_40 : decode cX1_isMiddleAbove 40 = .ok (.lload 7, 2) := by decide +kernel
theorem dX1_isMiddleAbove_42 : decode cX1_isMiddleAbove 42 = .ok (.ladd, 1) := by decide +kernel
theorem dX1_isMiddleAbove_43 : decode cX1_isMiddleAbove 43 = .ok (.lload 5, 2) := by decide +kernel
theorem dX1_isMiddleAbove_45 : decode cX1_isMiddleAbove 45 = .ok (.lsub, 1) := by decide +kernel
theorem dX1_isMiddleAbove_46 : decode cX1_isMiddleAbove 46 = .ok (.lload 9, 2) := by decide +kernel
theorem dX1_isMiddleAbove_48 : decode cX1_isMiddleAbove 48 = .ok (.lsub, 1) := by decide +kernel
theorem dX1_isMiddleAbove_49 : decode cX1_isMiddleAbove 49 = .ok (.lstore 11, 2) := by decide +kernel
theorem dX1_isMiddleAbove_51 : decode cX1_isMiddleAbove 51 = .ok (.ldc2_w 78, 3) := by decide +kernel
theorem dX1_isMiddleAbove_54 : decode cX1_isMiddleAbove 54 = .ok (.lload_n 3, 1) := by decide +kernel
theorem dX1_isMiddleAbove_55 : decode cX1_isMiddleAbove 55 = .ok (.lload 7, 2) := by decide +kernel
theorem dX1_isMiddleAbove_57 : decode cX1_isMiddleAbove 57 = .ok (.lmul, 1) := by decide +kernel
theorem dX1_isMiddleAbove_58 : decode cX1_isMiddleAbove 58 = .ok (.lload 5, 2) := by decide +kernel
theorem dX1_isMiddleAbove_60 : decode cX1_isMiddleAbove 60 = .ok (.lload 9, 2) := by decide +kernel
theorem dX1_isMiddleAbove_62 : decode cX1_isMiddleAbove 62 = .ok (.lmul, 1) := by decide +kernel
theorem dX1_isMiddleAbove_63 : decode cX1_isMiddleAbove 63 = .ok (.lsub, 1) := by decide +kernel
theorem dX1_isMiddleAbove_64 : decode cX1_isMiddleAbove 64 = .ok (.lmul, 1) := by decide +kernel
theorem dX1_isMiddleAbove_65 : decode cX1_isMiddleAbove 65 = .ok (.lstore 13, 2) := by decide +kernel
theorem dX1_isMiddleAbove_67 : decode cX1_isMiddleAbove 67 = .ok (.lload 11, 2) := by decide +kernel
theorem dX1_isMiddleAbove_69 : decode cX1_isMiddleAbove 69 = .ok (.lconst 0, 1) := by decide +kernel
theorem dX1_isMiddleAbove_70 : decode cX1_isMiddleAbove 70 = .ok (.lcmp, 1) := by decide +kernel
theorem dX1_isMiddleAbove_71 : decode cX1_isMiddleAbove 71 = .ok (.ifCond .le 25, 3) := by decide +kernel
theorem dX1_isMiddleAbove_74 : decode cX1_isMiddleAbove 74 = .ok (.lload 13, 2) := by decide +kernel
theorem dX1_isMiddleAbove_76 : decode cX1_isMiddleAbove 76 = .ok (.aload_n 0, 1) := by decide +kernel
theorem dX1_isMiddleAbove_77 : decode cX1_isMiddleAbove 77 = .ok (.getfield 16, 3) := by decide +kernel
theorem dX1_isMiddleAbove_80 : decode cX1_isMiddleAbove 80 = .ok (.i2l, 1) := by decide +kernel
theorem dX1_isMiddleAbove_81 : decode cX1_isMiddleAbove 81 = .ok (.lload 11, 2) := by decide +kernel
theorem dX1_isMiddleAbove_83 : decode cX1_isMiddleAbove 83 = .ok (.lmul, 1) := by decide +kernel
theorem dX1_isMiddleAbove_84 : decode cX1_isMiddleAbove 84 = .ok (.lcmp, 1) := by decide +kernel
theorem dX1_isMiddleAbove_85 : decode cX1_isMiddleAbove 85 = .ok (.ifCond .le 7, 3) := by decide +kernel
theorem dX1_isMiddleAbove_88 : decode cX1_isMiddleAbove 88 = .ok (.iconst 1, 1) := by decide +kernel
theorem dX1_isMiddleAbove_89 : decode cX1_isMiddleAbove 89 = .ok (.goto 26, 3) := by decide +kernel
theorem dX1_isMiddleAbove_92 : decode cX1_isMiddleAbove 92 = .ok (.iconst 0, 1) := by decide +kernel
theorem dX1_isMiddleAbove_93 : decode cX1_isMiddleAbove 93 = .ok (.goto 22, 3) := by decide +kernel
theorem dX1_isMiddleAbove_96 : decode cX1_isMiddleAbove 96 = .ok (.lload 13, 2) := by decide +kernel
theorem dX1_isMiddleAbove_98 : decode cX1_isMiddleAbove 98 = .ok (.aload_n 0, 1) := by decide +kernel
theorem dX1_isMiddleAbove_99 : decode cX1_isMiddleAbove 99 = .ok (.getfield 16, 3) := by decide +kernel
theorem dX1_isMiddleAbove_102 : decode cX1_isMiddleAbove 102 = .ok (.i2l, 1) := by decide +kernel
theorem dX1_isMiddleAbove_103 : decode cX1_isMiddleAbove 103 = .ok (.lload 11, 2) := by decide +kernel
theorem dX1_isMiddleAbove_105 : decode cX1_isMiddleAbove 105 = .ok (.lmul, 1) := by decide +kernel
theorem dX1_isMiddleAbove_106 : decode cX1_isMiddleAbove 106 = .ok (.lcmp, 1) := by decide +kernel
theorem dX1_isMiddleAbove_107 : decode cX1_isMiddleAbove 107 = .ok (.ifCond .ge 7, 3) := by decide +kernel
theorem dX1_isMiddleAbove_110 : decode cX1_isMiddleAbove 110 = .ok (.iconst 1, 1) := by decide +kernel
theorem dX1_isMiddleAbove_111 : decode cX1_isMiddleAbove 111 = .ok (.goto 4, 3) := by decide +kernel
theorem dX1_isMiddleAbove_114 : decode cX1_isMiddleAbove 114 = .ok (.iconst 0, 1) := by decide +kernel
theorem dX1_isMiddleAbove_115 : decode cX1_isMiddleAbove 115 = .ok (.ireturn, 1) := by decide +kernel
set_option maxRecDepth 20000 in
theorem ggX1_leads_X1_isUp : GoodIn wsX1_leads wsX1_isUp := goodIn_r _ [5, 6, 7, 8, 4, 9, 10, 11, 12, 13, 14, 15, 16, 17, 18, 19, 31, 32, 33, 34, 35, 36, 37, 38, 39, 40] (by decide +kernel) (by decide +kernel)
set_option maxRecDepth 20000 in
theorem gX1_leads_X1_isUp : GoodIn wsX1_leads (wsV RX1 80 RX1 yX1_isUp wsX1_isUp) := goodIn_app (goodIn_of _ (by decide +kernel)) ggX1_leads_X1_isUp
set_option maxRecDepth 20000 in
theorem ggX1_leads_X1_isMiddleAbove : GoodIn wsX1_leads wsX1_isMiddleAbove := goodIn_r _ [23, 24, 19, 6, 7, 8, 4, 9, 10, 11, 12, 13, 14, 31, 32, 33, 34, 35, 36, 37, 38, 39, 40] (by decide +kernel) (by decide +kernel)
set_option maxRecDepth 20000 in
theorem gX1_leads_X1_isMiddleAbove : GoodIn wsX1_leads (wsV RX1 84 RX1 yX1_isMiddleAbove wsX1_isMiddleAbove) := goodIn_app (goodIn_of _ (by decide +kernel)) ggX1_leads_X1_isMiddleAbove
set_option maxRecDepth 20000 in
theorem ggX1_leads_X1_edgeOf : GoodIn wsX1_leads wsX1_edgeOf := goodIn_r _ [28, 29, 30, 31, 32, 33, 34, 35, 36, 37, 38, 39, 40] (by decide +kernel) (by decide +kernel)
set_option maxRecDepth 20000 in
theorem gX1_leads_X1_edgeOf : GoodIn wsX1_leads (wsV RX1 88 RX1 yX1_edgeOf wsX1_edgeOf) := goodIn_app (goodIn_of _ (by decide +kernel)) ggX1_leads_X1_edgeOf
theorem dX1_leads_0 : decode cX1_leads 0 = .ok (.aload_n 0, 1) := by decide +kernel
theorem dX1_leads_1 : decode cX1_leads 1 = .ok (.iload_n 1, 1) := by decide +kernel
theorem dX1_leads_2 : decode cX1_leads 2 = .ok (.iload_n 2, 1) := by decide +kernel
theorem dX1_leads_3 : decode cX1_leads 3 = .ok (.iload_n 3, 1) := by decide +kernel
theorem dX1_leads_4 : decode cX1_leads 4 = .ok (.iconst 1, 1) := by decide +kernel
theorem dX1_leads_5 : decode cX1_leads 5 = .ok (.iadd, 1) := by decide +kernel
theorem dX1_leads_6 : decode cX1_leads 6 = .ok (.invokevirtual 80, 3) := by decide +kernel
theorem dX1_leads_9 : decode cX1_leads 9 = .ok (.ifCond .eq 19, 3) := by decide +kernel
theorem dX1_leads_12 : decode cX1_leads 12 = .ok (.aload_n 0, 1) := by decide +kernel
theorem dX1_leads_13 : decode cX1_leads 13 = .ok (.iload_n 1, 1) := by decide +kernel
theorem dX1_leads_14 : decode cX1_leads 14 = .ok (.iload_n 2, 1) := by decide +kernel
theorem dX1_leads_15 : decode cX1_leads 15 = .ok (.iload_n 3, 1) := by decide +kernel
theorem dX1_leads_16 : decode cX1_leads 16 = .ok (.iconst 3, 1) := by decide +kernel
theorem dX1_leads_17 : decode cX1_leads 17 = .ok (.iadd, 1) := by decide +kernel
theorem dX1_leads_18 : decode cX1_leads 18 = .ok (.invokevirtual 80, 3) := by decide +kernel
theorem dX1_leads_21 : decode cX1_leads 21 = .ok (.ifCond .eq 7, 3) := by decide +kernel
theorem dX1_leads_24 : decode cX1_leads 24 = .ok (.iconst 1, 1) := by decide +kernel
theorem dX1_leads_25 : decode cX1_leads 25 = .ok (.goto 4, 3) := by decide +kernel
theorem dX1_leads_28 : decode cX1_leads 28 = .ok (.iconst 0, 1) := by decide +kernel
theorem dX1_leads_29 : decode cX1_leads 29 = .ok (.istore 4, 2) := by decide +kernel
theorem dX1_leads_31 : decode cX1_leads 31 = .ok (.iload 4, 2) := by decide +kernel
theorem dX1_leads_33 : decode cX1_leads 33 = .ok (.ifCond .eq 28, 3) := by decide +kernel
theorem dX1_leads_36 : decode cX1_leads 36 = .ok (.aload_n 0, 1) := by decide +kernel
theorem dX1_leads_37 : decode cX1_leads 37 = .ok (.iload_n 1, 1) := by decide +kernel
theorem dX1_leads_38 : decode cX1_leads 38 = .ok (.iload_n 2, 1) := by decide +kernel
theorem dX1_leads_39 : decode cX1_leads 39 = .ok (.aload_n 0, 1) := by decide +kernel
theorem dX1_leads_40 : decode cX1_leads 40 = .ok (.iload_n 1, 1) := by decide +kernel
theorem dX1_leads_41 : decode cX1_leads 41 = .ok (.iload_n 2, 1) := by decide +kernel
theorem dX1_leads_42 : decode cX1_leads 42 = .ok (.invokevirtual 84, 3) := by decide +kernel
theorem dX1_leads_45 : decode cX1_leads 45 = .ok (.ifCond .eq 9, 3) := by decide +kernel
theorem dX1_leads_48 : decode cX1_leads 48 = .ok (.iload_n 3, 1) := by decide +kernel
theorem dX1_leads_49 : decode cX1_leads 49 = .ok (.iconst 1, 1) := by decide +kernel
theorem dX1_leads_50 : decode cX1_leads 50 = .ok (.iadd, 1) := by decide +kernel
theorem dX1_leads_51 : decode cX1_leads 51 = .ok (.goto 6, 3) := by decide +kernel
theorem dX1_leads_54 : decode cX1_leads 54 = .ok (.iload_n 3, 1) := by decide +kernel
theorem dX1_leads_55 : decode cX1_leads 55 = .ok (.iconst 3, 1) := by decide +kernel
theorem dX1_leads_56 : decode cX1_leads 56 = .ok (.iadd, 1) := by decide +kernel
theorem dX1_leads_57 : decode cX1_leads 57 = .ok (.invokevirtual 88, 3) := by decide +kernel
theorem dX1_leads_60 : decode cX1_leads 60 = .ok (.ireturn, 1) := by decide +kernel
theorem dX1_leads_61 : decode cX1_leads 61 = .ok (.iload_n 3, 1) := by decide +kernel
theorem dX1_leads_62 : decode cX1_leads 62 = .ok (.iconst 1, 1) := by decide +kernel
theorem dX1_leads_63 : decode cX1_leads 63 = .ok (.iadd, 1) := by decide +kernel
theorem dX1_leads_64 : decode cX1_leads 64 = .ok (.istore 5, 2) := by decide +kernel
theorem dX1_leads_66 : decode cX1_leads 66 = .ok (.aload_n 0, 1) := by decide +kernel
theorem dX1_leads_67 : decode cX1_leads 67 = .ok (.iload_n 1, 1) := by decide +kernel
theorem dX1_leads_68 : decode cX1_leads 68 = .ok (.iload_n 2, 1) := by decide +kernel
theorem dX1_leads_69 : decode cX1_leads 69 = .ok (.iload 5, 2) := by decide +kernel
theorem dX1_leads_71 : decode cX1_leads 71 = .ok (.invokevirtual 80, 3) := by decide +kernel
theorem dX1_leads_74 : decode cX1_leads 74 = .ok (.ifCond .ne 9, 3) := by decide +kernel
theorem dX1_leads_77 : decode cX1_leads 77 = .ok (.iinc 5 1, 3) := by decide +kernel
theorem dX1_leads_80 : decode cX1_leads 80 = .ok (.goto (-14), 3) := by decide +kernel
theorem dX1_leads_83 : decode cX1_leads 83 = .ok (.aload_n 0, 1) := by decide +kernel
theorem dX1_leads_84 : decode cX1_leads 84 = .ok (.iload_n 1, 1) := by decide +kernel
theorem dX1_leads_85 : decode cX1_leads 85 = .ok (.iload_n 2, 1) := by decide +kernel
theorem dX1_leads_86 : decode cX1_leads 86 = .ok (.iload 5, 2) := by decide +kernel
theorem dX1_leads_88 : decode cX1_leads 88 = .ok (.invokevirtual 88, 3) := by decide +kernel
theorem dX1_leads_91 : decode cX1_leads 91 = .ok (.ireturn, 1) := by decide +kernel
theorem dX1_isCell_0 : decode cX1_isCell 0 = .ok (.iload_n 1, 1) := by decide +kernel
theorem dX1_isCell_1 : decode cX1_isCell 1 = .ok (.ifCond .lt 31, 3) := by decide +kernel
theorem dX1_isCell_4 : decode cX1_isCell 4 = .ok (.iload_n 1, 1) := by decide +kernel
theorem dX1_isCell_5 : decode cX1_isCell 5 = .ok (.aload_n 0, 1) := by decide +kernel
theorem dX1_isCell_6 : decode cX1_isCell 6 = .ok (.getfield 7, 3) := by decide +kernel
theorem dX1_isCell_9 : decode cX1_isCell 9 = .ok (.iconst 1, 1) := by decide +kernel
theorem dX1_isCell_10 : decode cX1_isCell 10 = .ok (.isub, 1) := by decide +kernel
theorem dX1_isCell_11 : decode cX1_isCell 11 = .ok (.if_icmp .ge 21, 3) := by decide +kernel
theorem dX1_isCell_14 : decode cX1_isCell 14 = .ok (.iload_n 2, 1) := by decide +kernel
theorem dX1_isCell_15 : decode cX1_isCell 15 = .ok (.ifCond .lt 17, 3) := by decide +kernel
theorem dX1_isCell_18 : decode cX1_isCell 18 = .ok (.iload_n 2, 1) := by decide +kernel
theorem dX1_isCell_19 : decode cX1_isCell 19 = .ok (.aload_n 0, 1) := by decide +kernel
theorem dX1_isCell_20 : decode cX1_isCell 20 = .ok (.getfield 13, 3) := by decide +kernel
theorem dX1_isCell_23 : decode cX1_isCell 23 = .ok (.iconst 1, 1) := by decide +kernel
theorem dX1_isCell_24 : decode cX1_isCell 24 = .ok (.isub, 1) := by decide +kernel
theorem dX1_isCell_25 : decode cX1_isCell 25 = .ok (.if_icmp .ge 7, 3) := by decide +kernel
theorem dX1_isCell_28 : decode cX1_isCell 28 = .ok (.iconst 1, 1) := by decide +kernel
theorem dX1_isCell_29 : decode cX1_isCell 29 = .ok (.goto 4, 3) := by decide +kernel
theorem dX1_isCell_32 : decode cX1_isCell 32 = .ok (.iconst 0, 1) := by decide +kernel
theorem dX1_isCell_33 : decode cX1_isCell 33 = .ok (.ireturn, 1) := by decide +kernel
set_option maxRecDepth 20000 in
theorem ggX1_next_X1_xOf : GoodIn wsX1_next wsX1_xOf := goodIn_r _ [5, 6, 7, 8, 9, 10, 4, 11, 55, 56, 57, 58, 59, 60, 61, 62, 63, 64] (by decide +kernel) (by decide +kernel)
set_option maxRecDepth 20000 in
theorem gX1_next_X1_xOf : GoodIn wsX1_next (wsV RX1 54 RX1 yX1_xOf wsX1_xOf) := goodIn_app (goodIn_of _ (by decide +kernel)) ggX1_next_X1_xOf
set_option maxRecDepth 20000 in
theorem ggX1_next_X1_yOf : GoodIn wsX1_next wsX1_yOf := goodIn_r _ [15, 6, 7, 8, 9, 10, 4, 11, 55, 56, 57, 58, 59, 60, 61, 62, 63, 64] (by decide +kernel) (by decide +kernel)
set_option maxRecDepth 20000 in
theorem gX1_next_X1_yOf : GoodIn wsX1_next (wsV RX1 58 RX1 yX1_yOf wsX1_yOf) := goodIn_app (goodIn_of _ (by decide +kernel)) ggX1_next_X1_yOf
set_option maxRecDepth 20000 in
theorem ggX1_next_X1_isAcross : GoodIn wsX1_next wsX1_isAcross := goodIn_r _ [11, 7, 6, 55, 56, 57, 58, 59, 60, 61, 62, 63, 64] (by decide +kernel) (by decide +kernel)
set_option maxRecDepth 20000 in
theorem gX1_next_X1_isAcross : GoodIn wsX1_next (wsV RX1 50 RX1 yX1_isAcross wsX1_isAcross) := goodIn_app (goodIn_of _ (by decide +kernel)) ggX1_next_X1_isAcross
set_option maxRecDepth 20000 in
theorem ggX1_next_X1_isCell : GoodIn wsX1_next wsX1_isCell := goodIn_r _ [19, 6, 7, 55, 56, 57, 58, 59, 60, 61, 62, 63, 64] (by decide +kernel) (by decide +kernel)
set_option maxRecDepth 20000 in
theorem gX1_next_X1_isCell : GoodIn wsX1_next (wsV RX1 91 RX1 yX1_isCell wsX1_isCell) := goodIn_app (goodIn_of _ (by decide +kernel)) ggX1_next_X1_isCell
set_option maxRecDepth 20000 in
theorem ggX1_next_X1_isDown : GoodIn wsX1_next wsX1_isDown := goodIn_r _ [23, 24, 25, 26, 4, 27, 28, 29, 30, 31, 32, 33, 34, 35, 36, 37, 55, 56, 57, 58, 59, 60, 61, 62, 63, 64] (by decide +kernel) (by decide +kernel)
set_option maxRecDepth 20000 in
theorem gX1_next_X1_isDown : GoodIn wsX1_next (wsV RX1 94 RX1 yX1_isDown wsX1_isDown) := goodIn_app (goodIn_of _ (by decide +kernel)) ggX1_next_X1_isDown
set_option maxRecDepth 20000 in
theorem ggX1_next_X1_leads : GoodIn wsX1_next wsX1_leads := goodIn_r _ [41, 42, 43, 44, 4, 45, 24, 25, 26, 27, 28, 29, 30, 31, 32, 33, 34, 35, 36, 37, 46, 47, 48, 49, 50, 51, 52, 53, 54, 7, 6, 55, 56, 57, 58, 59, 60, 61, 62, 63, 64] (by decide +kernel) (by decide +kernel)
set_option maxRecDepth 20000 in
theorem gX1_next_X1_leads : GoodIn wsX1_next (wsV RX1 97 RX1 yX1_leads wsX1_leads) := goodIn_app (goodIn_of _ (by decide +kernel)) ggX1_next_X1_leads
theorem dX1_next_0 : decode cX1_next 0 = .ok (.aload_n 0, 1) := by decide +kernel
theorem dX1_next_1 : decode cX1_next 1 = .ok (.iload_n 1, 1) := by decide +kernel
theorem dX1_next_2 : decode cX1_next 2 = .ok (.invokevirtual 54, 3) := by decide +kernel
theorem dX1_next_5 : decode cX1_next 5 = .ok (.istore_n 2, 1) := by decide +kernel
theorem dX1_next_6 : decode cX1_next 6 = .ok (.aload_n 0, 1) := by decide +kernel
theorem dX1_next_7 : decode cX1_next 7 = .ok (.iload_n 1, 1) := by decide +kernel
theorem dX1_next_8 : decode cX1_next 8 = .ok (.invokevirtual 58, 3) := by decide +kernel
theorem dX1_next_11 : decode cX1_next 11 = .ok (.istore_n 3, 1) := by decide +kernel
theorem dX1_next_12 : decode cX1_next 12 = .ok (.iconst (-1), 1) := by decide +kernel
theorem dX1_next_13 : decode cX1_next 13 = .ok (.istore 4, 2) := by decide +kernel
theorem dX1_next_15 : decode cX1_next 15 = .ok (.iconst 0, 1) := by decide +kernel
theorem dX1_next_16 : decode cX1_next 16 = .ok (.istore 5, 2) := by decide +kernel
theorem dX1_next_18 : decode cX1_next 18 = .ok (.iload 5, 2) := by decide +kernel
theorem dX1_next_20 : decode cX1_next 20 = .ok (.iconst 2, 1) := by decide +kernel
theorem dX1_next_21 : decode cX1_next 21 = .ok (.if_icmp .ge 104, 3) := by decide +kernel
theorem dX1_next_24 : decode cX1_next 24 = .ok (.aload_n 0, 1) := by decide +kernel
theorem dX1_next_25 : decode cX1_next 25 = .ok (.iload_n 1, 1) := by decide +kernel
theorem dX1_next_26 : decode cX1_next 26 = .ok (.invokevirtual 50, 3) := by decide +kernel
theorem dX1_next_29 : decode cX1_next 29 = .ok (.ifCond .eq 7, 3) := by decide +kernel
theorem dX1_next_32 : decode cX1_next 32 = .ok (.iload_n 2, 1) := by decide +kernel
theorem dX1_next_33 : decode cX1_next 33 = .ok (.goto 7, 3) := by decide +kernel
theorem dX1_next_36 : decode cX1_next 36 = .ok (.iload_n 2, 1) := by decide +kernel
theorem dX1_next_37 : decode cX1_next 37 = .ok (.iload 5, 2) := by decide +kernel
theorem dX1_next_39 : decode cX1_next 39 = .ok (.isub, 1) := by decide +kernel
theorem dX1_next_40 : decode cX1_next 40 = .ok (.istore 6, 2) := by decide +kernel
theorem dX1_next_42 : decode cX1_next 42 = .ok (.aload_n 0, 1) := by decide +kernel
theorem dX1_next_43 : decode cX1_next 43 = .ok (.iload_n 1, 1) := by decide +kernel
theorem dX1_next_44 : decode cX1_next 44 = .ok (.invokevirtual 50, 3) := by decide +kernel
theorem dX1_next_47 : decode cX1_next 47 = .ok (.ifCond .eq 10, 3) := by decide +kernel
theorem dX1_next_50 : decode cX1_next 50 = .ok (.iload_n 3, 1) := by decide +kernel
theorem dX1_next_51 : decode cX1_next 51 = .ok (.iload 5, 2) := by decide +kernel
theorem dX1_next_53 : decode cX1_next 53 = .ok (.isub, 1) := by decide +kernel
theorem dX1_next_54 : decode cX1_next 54 = .ok (.goto 4, 3) := by decide +kernel
theorem dX1_next_57 : decode cX1_next 57 = .ok (.iload_n 3, 1) := by decide +kernel
theorem dX1_next_58 : decode cX1_next 58 = .ok (.istore 7, 2) := by decide +kernel
theorem dX1_next_60 : decode cX1_next 60 = .ok (.aload_n 0, 1) := by decide +kernel
theorem dX1_next_61 : decode cX1_next 61 = .ok (.iload_n 1, 1) := by decide +kernel
theorem dX1_next_62 : decode cX1_next 62 = .ok (.invokevirtual 50, 3) := by decide +kernel
theorem dX1_next_65 : decode cX1_next 65 = .ok (.ifCond .eq 10, 3) := by decide +kernel
theorem dX1_next_68 : decode cX1_next 68 = .ok (.iconst 2, 1) := by decide +kernel
theorem dX1_next_69 : decode cX1_next 69 = .ok (.iload 5, 2) := by decide +kernel
theorem dX1_next_71 : decode cX1_next 71 = .ok (.imul, 1) := by decide +kernel
theorem dX1_next_72 : decode cX1_next 72 = .ok (.goto 9, 3) := by decide +kernel
theorem dX1_next_75 : decode cX1_next 75 = .ok (.iconst 3, 1) := by decide +kernel
theorem dX1_next_76 : decode cX1_next 76 = .ok (.iconst 2, 1) := by decide +kernel
theorem dX1_next_77 : decode cX1_next 77 = .ok (.iload 5, 2) := by decide +kernel
theorem dX1_next_79 : decode cX1_next 79 = .ok (.imul, 1) := by decide +kernel
theorem dX1_next_80 : decode cX1_next 80 = .ok (.isub, 1) := by decide +kernel
theorem dX1_next_81 : decode cX1_next 81 = .ok (.istore 8, 2) := by decide +kernel
theorem dX1_next_83 : decode cX1_next 83 = .ok (.aload_n 0, 1) := by decide +kernel
theorem dX1_next_84 : decode cX1_next 84 = .ok (.iload 6, 2) := by decide +kernel
theorem dX1_next_86 : decode cX1_next 86 = .ok (.iload 7, 2) := by decide +kernel
theorem dX1_next_88 : decode cX1_next 88 = .ok (.invokevirtual 91, 3) := by decide +kernel
theorem dX1_next_91 : decode cX1_next 91 = .ok (.ifCond .eq 28, 3) := by decide +kernel
theorem dX1_next_94 : decode cX1_next 94 = .ok (.aload_n 0, 1) := by decide +kernel
theorem dX1_next_95 : decode cX1_next 95 = .ok (.iload 6, 2) := by decide +kernel
theorem dX1_next_97 : decode cX1_next 97 = .ok (.iload 7, 2) := by decide +kernel
theorem dX1_next_99 : decode cX1_next 99 = .ok (.iload 8, 2) := by decide +kernel
theorem dX1_next_101 : decode cX1_next 101 = .ok (.invokevirtual 94, 3) := by decide +kernel
theorem dX1_next_104 : decode cX1_next 104 = .ok (.ifCond .eq 15, 3) := by decide +kernel
theorem dX1_next_107 : decode cX1_next 107 = .ok (.aload_n 0, 1) := by decide +kernel
theorem dX1_next_108 : decode cX1_next 108 = .ok (.iload 6, 2) := by decide +kernel
theorem dX1_next_110 : decode cX1_next 110 = .ok (.iload 7, 2) := by decide +kernel
theorem dX1_next_112 : decode cX1_next 112 = .ok (.iload 8, 2) := by decide +kernel
theorem dX1_next_114 : decode cX1_next 114 = .ok (.invokevirtual 97, 3) := by decide +kernel
theorem dX1_next_117 : decode cX1_next 117 = .ok (.istore 4, 2) := by decide +kernel
theorem dX1_next_119 : decode cX1_next 119 = .ok (.iinc 5 1, 3) := by decide +kernel
theorem dX1_next_122 : decode cX1_next 122 = .ok (.goto (-104), 3) := by decide +kernel
theorem dX1_next_125 : decode cX1_next 125 = .ok (.iload 4, 2) := by decide +kernel
theorem dX1_next_127 : decode cX1_next 127 = .ok (.ireturn, 1) := by decide +kernel
set_option maxRecDepth 20000 in
theorem ggX1_isLedTo_X1_xOf : GoodIn wsX1_isLedTo wsX1_xOf := goodIn_r _ [5, 6, 7, 8, 9, 10, 4, 11, 38, 39, 40, 41, 42, 43, 44, 45, 46, 47] (by decide +kernel) (by decide +kernel)
set_option maxRecDepth 20000 in
theorem gX1_isLedTo_X1_xOf : GoodIn wsX1_isLedTo (wsV RX1 54 RX1 yX1_xOf wsX1_xOf) := goodIn_app (goodIn_of _ (by decide +kernel)) ggX1_isLedTo_X1_xOf
set_option maxRecDepth 20000 in
theorem ggX1_isLedTo_X1_yOf : GoodIn wsX1_isLedTo wsX1_yOf := goodIn_r _ [15, 6, 7, 8, 9, 10, 4, 11, 38, 39, 40, 41, 42, 43, 44, 45, 46, 47] (by decide +kernel) (by decide +kernel)
set_option maxRecDepth 20000 in
theorem gX1_isLedTo_X1_yOf : GoodIn wsX1_isLedTo (wsV RX1 58 RX1 yX1_yOf wsX1_yOf) := goodIn_app (goodIn_of _ (by decide +kernel)) ggX1_isLedTo_X1_yOf
set_option maxRecDepth 20000 in
theorem ggX1_isLedTo_X1_isAcross : GoodIn wsX1_isLedTo wsX1_isAcross := goodIn_r _ [11, 7, 6, 38, 39, 40, 41, 42, 43, 44, 45, 46, 47] (by decide +kernel) (by decide +kernel)
set_option maxRecDepth 20000 in
theorem gX1_isLedTo_X1_isAcross : GoodIn wsX1_isLedTo (wsV RX1 50 RX1 yX1_isAcross wsX1_isAcross) := goodIn_app (goodIn_of _ (by decide +kernel)) ggX1_isLedTo_X1_isAcross
set_option maxRecDepth 20000 in
theorem ggX1_isLedTo_X1_isCell : GoodIn wsX1_isLedTo wsX1_isCell := goodIn_r _ [19, 6, 7, 38, 39, 40, 41, 42, 43, 44, 45, 46, 47] (by decide +kernel) (by decide +kernel)
set_option maxRecDepth 20000 in
theorem gX1_isLedTo_X1_isCell : GoodIn wsX1_isLedTo (wsV RX1 91 RX1 yX1_isCell wsX1_isCell) := goodIn_app (goodIn_of _ (by decide +kernel)) ggX1_isLedTo_X1_isCell
set_option maxRecDepth 20000 in
theorem ggX1_isLedTo_X1_isUp : GoodIn wsX1_isLedTo wsX1_isUp := goodIn_r _ [23, 24, 25, 26, 4, 27, 28, 29, 30, 31, 32, 33, 34, 35, 36, 37, 38, 39, 40, 41, 42, 43, 44, 45, 46, 47] (by decide +kernel) (by decide +kernel)
set_option maxRecDepth 20000 in
theorem gX1_isLedTo_X1_isUp : GoodIn wsX1_isLedTo (wsV RX1 80 RX1 yX1_isUp wsX1_isUp) := goodIn_app (goodIn_of _ (by decide +kernel)) ggX1_isLedTo_X1_isUp
theorem dX1_isLedTo_0 : decode cX1_isLedTo 0 = .ok (.aload_n 0, 1) := by decide +kernel
theorem dX1_isLedTo_1 : decode cX1_isLedTo 1 = .ok (.iload_n 1, 1) := by decide +kernel
theorem dX1_isLedTo_2 : decode cX1_isLedTo 2 = .ok (.invokevirtual 54, 3) := by decide +kernel
theorem dX1_isLedTo_5 : decode cX1_isLedTo 5 = .ok (.istore_n 2, 1) := by decide +kernel
theorem dX1_isLedTo_6 : decode cX1_isLedTo 6 = .ok (.aload_n 0, 1) := by decide +kernel
theorem dX1_isLedTo_7 : decode cX1_isLedTo 7 = .ok (.iload_n 1, 1) := by decide +kernel
theorem dX1_isLedTo_8 : decode cX1_isLedTo 8 = .ok (.invokevirtual 58, 3) := by decide +kernel
theorem dX1_isLedTo_11 : decode cX1_isLedTo 11 = .ok (.istore_n 3, 1) := by decide +kernel
theorem dX1_isLedTo_12 : decode cX1_isLedTo 12 = .ok (.iconst 0, 1) := by decide +kernel
theorem dX1_isLedTo_13 : decode cX1_isLedTo 13 = .ok (.istore 4, 2) := by decide +kernel
theorem dX1_isLedTo_15 : decode cX1_isLedTo 15 = .ok (.iconst 0, 1) := by decide +kernel
theorem dX1_isLedTo_16 : decode cX1_isLedTo 16 = .ok (.istore 5, 2) := by decide +kernel
theorem dX1_isLedTo_18 : decode cX1_isLedTo 18 = .ok (.iload 5, 2) := by decide +kernel
theorem dX1_isLedTo_20 : decode cX1_isLedTo 20 = .ok (.iconst 2, 1) := by decide +kernel
theorem dX1_isLedTo_21 : decode cX1_isLedTo 21 = .ok (.if_icmp .ge 104, 3) := by decide +kernel
theorem dX1_isLedTo_24 : decode cX1_isLedTo 24 = .ok (.aload_n 0, 1) := by decide +kernel
theorem dX1_isLedTo_25 : decode cX1_isLedTo 25 = .ok (.iload_n 1, 1) := by decide +kernel
theorem dX1_isLedTo_26 : decode cX1_isLedTo 26 = .ok (.invokevirtual 50, 3) := by decide +kernel
theorem dX1_isLedTo_29 : decode cX1_isLedTo 29 = .ok (.ifCond .eq 7, 3) := by decide +kernel
theorem dX1_isLedTo_32 : decode cX1_isLedTo 32 = .ok (.iload_n 2, 1) := by decide +kernel
theorem dX1_isLedTo_33 : decode cX1_isLedTo 33 = .ok (.goto 7, 3) := by decide +kernel
theorem dX1_isLedTo_36 : decode cX1_isLedTo 36 = .ok (.iload_n 2, 1) := by decide +kernel
theorem dX1_isLedTo_37 : decode cX1_isLedTo 37 = .ok (.iload 5, 2) := by decide +kernel
theorem dX1_isLedTo_39 : decode cX1_isLedTo 39 = .ok (.isub, 1) := by decide +kernel
theorem dX1_isLedTo_40 : decode cX1_isLedTo 40 = .ok (.istore 6, 2) := by decide +kernel
theorem dX1_isLedTo_42 : decode cX1_isLedTo 42 = .ok (.aload_n 0, 1) := by decide +kernel
theorem dX1_isLedTo_43 : decode cX1_isLedTo 43 = .ok (.iload_n 1, 1) := by decide +kernel
theorem dX1_isLedTo_44 : decode cX1_isLedTo 44 = .ok (.invokevirtual 50, 3) := by decide +kernel
theorem dX1_isLedTo_47 : decode cX1_isLedTo 47 = .ok (.ifCond .eq 10, 3) := by decide +kernel
theorem dX1_isLedTo_50 : decode cX1_isLedTo 50 = .ok (.iload_n 3, 1) := by decide +kernel
theorem dX1_isLedTo_51 : decode cX1_isLedTo 51 = .ok (.iload 5, 2) := by decide +kernel
theorem dX1_isLedTo_53 : decode cX1_isLedTo 53 = .ok (.isub, 1) := by decide +kernel
theorem dX1_isLedTo_54 : decode cX1_isLedTo 54 = .ok (.goto 4, 3) := by decide +kernel
theorem dX1_isLedTo_57 : decode cX1_isLedTo 57 = .ok (.iload_n 3, 1) := by decide +kernel
theorem dX1_isLedTo_58 : decode cX1_isLedTo 58 = .ok (.istore 7, 2) := by decide +kernel
theorem dX1_isLedTo_60 : decode cX1_isLedTo 60 = .ok (.aload_n 0, 1) := by decide +kernel
theorem dX1_isLedTo_61 : decode cX1_isLedTo 61 = .ok (.iload_n 1, 1) := by decide +kernel
theorem dX1_isLedTo_62 : decode cX1_isLedTo 62 = .ok (.invokevirtual 50, 3) := by decide +kernel
theorem dX1_isLedTo_65 : decode cX1_isLedTo 65 = .ok (.ifCond .eq 10, 3) := by decide +kernel
theorem dX1_isLedTo_68 : decode cX1_isLedTo 68 = .ok (.iconst 2, 1) := by decide +kernel
theorem dX1_isLedTo_69 : decode cX1_isLedTo 69 = .ok (.iload 5, 2) := by decide +kernel
theorem dX1_isLedTo_71 : decode cX1_isLedTo 71 = .ok (.imul, 1) := by decide +kernel
theorem dX1_isLedTo_72 : decode cX1_isLedTo 72 = .ok (.goto 9, 3) := by decide +kernel
theorem dX1_isLedTo_75 : decode cX1_isLedTo 75 = .ok (.iconst 3, 1) := by decide +kernel
theorem dX1_isLedTo_76 : decode cX1_isLedTo 76 = .ok (.iconst 2, 1) := by decide +kernel
theorem dX1_isLedTo_77 : decode cX1_isLedTo 77 = .ok (.iload 5, 2) := by decide +kernel
theorem dX1_isLedTo_79 : decode cX1_isLedTo 79 = .ok (.imul, 1) := by decide +kernel
theorem dX1_isLedTo_80 : decode cX1_isLedTo 80 = .ok (.isub, 1) := by decide +kernel
theorem dX1_isLedTo_81 : decode cX1_isLedTo 81 = .ok (.istore 8, 2) := by decide +kernel
theorem dX1_isLedTo_83 : decode cX1_isLedTo 83 = .ok (.iload 4, 2) := by decide +kernel
theorem dX1_isLedTo_85 : decode cX1_isLedTo 85 = .ok (.ifCond .ne 27, 3) := by decide +kernel
theorem dX1_isLedTo_88 : decode cX1_isLedTo 88 = .ok (.aload_n 0, 1) := by decide +kernel
theorem dX1_isLedTo_89 : decode cX1_isLedTo 89 = .ok (.iload 6, 2) := by decide +kernel
theorem dX1_isLedTo_91 : decode cX1_isLedTo 91 = .ok (.iload 7, 2) := by decide +kernel
theorem dX1_isLedTo_93 : decode cX1_isLedTo 93 = .ok (.invokevirtual 91, 3) := by decide +kernel
theorem dX1_isLedTo_96 : decode cX1_isLedTo 96 = .ok (.ifCond .eq 20, 3) := by decide +kernel
theorem dX1_isLedTo_99 : decode cX1_isLedTo 99 = .ok (.aload_n 0, 1) := by decide +kernel
theorem dX1_isLedTo_100 : decode cX1_isLedTo 100 = .ok (.iload 6, 2) := by decide +kernel
theorem dX1_isLedTo_102 : decode cX1_isLedTo 102 = .ok (.iload 7, 2) := by decide +kernel
theorem dX1_isLedTo_104 : decode cX1_isLedTo 104 = .ok (.iload 8, 2) := by decide +kernel
theorem dX1_isLedTo_106 : decode cX1_isLedTo 106 = .ok (.invokevirtual 80, 3) := by decide +kernel
theorem dX1_isLedTo_109 : decode cX1_isLedTo 109 = .ok (.ifCond .eq 7, 3) := by decide +kernel
theorem dX1_isLedTo_112 : decode cX1_isLedTo 112 = .ok (.iconst 1, 1) := by decide +kernel
theorem dX1_isLedTo_113 : decode cX1_isLedTo 113 = .ok (.goto 4, 3) := by decide +kernel
theorem dX1_isLedTo_116 : decode cX1_isLedTo 116 = .ok (.iconst 0, 1) := by decide +kernel
theorem dX1_isLedTo_117 : decode cX1_isLedTo 117 = .ok (.istore 4, 2) := by decide +kernel
theorem dX1_isLedTo_119 : decode cX1_isLedTo 119 = .ok (.iinc 5 1, 3) := by decide +kernel
theorem dX1_isLedTo_122 : decode cX1_isLedTo 122 = .ok (.goto (-104), 3) := by decide +kernel
theorem dX1_isLedTo_125 : decode cX1_isLedTo 125 = .ok (.iload 4, 2) := by decide +kernel
theorem dX1_isLedTo_127 : decode cX1_isLedTo 127 = .ok (.ireturn, 1) := by decide +kernel
set_option maxRecDepth 20000 in
theorem ggX1_chain_X1_next : GoodIn wsX1_chain wsX1_next := goodIn_r _ [10, 11, 12, 13, 9, 14, 15, 16, 17, 18, 19, 20, 21, 22, 23, 24, 25, 26, 27, 28, 29, 30, 31, 32, 33, 34, 35, 36, 37, 38, 39, 40, 41, 42, 43, 44, 45, 46, 47, 48, 49, 50, 51, 52, 53, 54, 55, 56, 57, 58, 59, 60, 61, 62, 63, 64, 65, 66, 67, 68, 69, 70, 71, 72, 73] (by decide +kernel) (by decide +kernel)
set_option maxRecDepth 20000 in
theorem gX1_chain_X1_next : GoodIn wsX1_chain (wsV RX1 100 RX1 yX1_next wsX1_next) := goodIn_app (goodIn_of _ (by decide +kernel)) ggX1_chain_X1_next
theorem dX1_chain_0 : decode cX1_chain 0 = .ok (.aload_n 0, 1) := by decide +kernel
theorem dX1_chain_1 : decode cX1_chain 1 = .ok (.getfield 26, 3) := by decide +kernel
theorem dX1_chain_4 : decode cX1_chain 4 = .ok (.aload_n 0, 1) := by decide +kernel
theorem dX1_chain_5 : decode cX1_chain 5 = .ok (.getfield 39, 3) := by decide +kernel
theorem dX1_chain_8 : decode cX1_chain 8 = .ok (.iaload, 1) := by decide +kernel
theorem dX1_chain_9 : decode cX1_chain 9 = .ok (.istore_n 3, 1) := by decide +kernel
theorem dX1_chain_10 : decode cX1_chain 10 = .ok (.iload_n 1, 1) := by decide +kernel
theorem dX1_chain_11 : decode cX1_chain 11 = .ok (.istore 4, 2) := by decide +kernel
theorem dX1_chain_13 : decode cX1_chain 13 = .ok (.iload 4, 2) := by decide +kernel
theorem dX1_chain_15 : decode cX1_chain 15 = .ok (.iconst (-1), 1) := by decide +kernel
theorem dX1_chain_16 : decode cX1_chain 16 = .ok (.if_icmp .eq 43, 3) := by decide +kernel
theorem dX1_chain_19 : decode cX1_chain 19 = .ok (.aload_n 0, 1) := by decide +kernel
theorem dX1_chain_20 : decode cX1_chain 20 = .ok (.getfield 33, 3) := by decide +kernel
theorem dX1_chain_23 : decode cX1_chain 23 = .ok (.iload 4, 2) := by decide +kernel
theorem dX1_chain_25 : decode cX1_chain 25 = .ok (.baload, 1) := by decide +kernel
theorem dX1_chain_26 : decode cX1_chain 26 = .ok (.ifCond .ne 33, 3) := by decide +kernel
theorem dX1_chain_29 : decode cX1_chain 29 = .ok (.aload_n 0, 1) := by decide +kernel
theorem dX1_chain_30 : decode cX1_chain 30 = .ok (.getfield 33, 3) := by decide +kernel
theorem dX1_chain_33 : decode cX1_chain 33 = .ok (.iload 4, 2) := by decide +kernel
theorem dX1_chain_35 : decode cX1_chain 35 = .ok (.iconst 1, 1) := by decide +kernel
theorem dX1_chain_36 : decode cX1_chain 36 = .ok (.bastore, 1) := by decide +kernel
theorem dX1_chain_37 : decode cX1_chain 37 = .ok (.aload_n 0, 1) := by decide +kernel
theorem dX1_chain_38 : decode cX1_chain 38 = .ok (.getfield 23, 3) := by decide +kernel
theorem dX1_chain_41 : decode cX1_chain 41 = .ok (.iload_n 3, 1) := by decide +kernel
theorem dX1_chain_42 : decode cX1_chain 42 = .ok (.iload 4, 2) := by decide +kernel
theorem dX1_chain_44 : decode cX1_chain 44 = .ok (.iastore, 1) := by decide +kernel
theorem dX1_chain_45 : decode cX1_chain 45 = .ok (.iinc 3 1, 3) := by decide +kernel
theorem dX1_chain_48 : decode cX1_chain 48 = .ok (.aload_n 0, 1) := by decide +kernel
theorem dX1_chain_49 : decode cX1_chain 49 = .ok (.iload 4, 2) := by decide +kernel
theorem dX1_chain_51 : decode cX1_chain 51 = .ok (.invokevirtual 100, 3) := by decide +kernel
theorem dX1_chain_54 : decode cX1_chain 54 = .ok (.istore 4, 2) := by decide +kernel
theorem dX1_chain_56 : decode cX1_chain 56 = .ok (.goto (-43), 3) := by decide +kernel
theorem dX1_chain_59 : decode cX1_chain 59 = .ok (.aload_n 0, 1) := by decide +kernel
theorem dX1_chain_60 : decode cX1_chain 60 = .ok (.getfield 29, 3) := by decide +kernel
theorem dX1_chain_63 : decode cX1_chain 63 = .ok (.aload_n 0, 1) := by decide +kernel
theorem dX1_chain_64 : decode cX1_chain 64 = .ok (.getfield 39, 3) := by decide +kernel
theorem dX1_chain_67 : decode cX1_chain 67 = .ok (.iload_n 2, 1) := by decide +kernel
theorem dX1_chain_68 : decode cX1_chain 68 = .ok (.bastore, 1) := by decide +kernel
theorem dX1_chain_69 : decode cX1_chain 69 = .ok (.aload_n 0, 1) := by decide +kernel
theorem dX1_chain_70 : decode cX1_chain 70 = .ok (.dup, 1) := by decide +kernel
theorem dX1_chain_71 : decode cX1_chain 71 = .ok (.getfield 39, 3) := by decide +kernel
theorem dX1_chain_74 : decode cX1_chain 74 = .ok (.iconst 1, 1) := by decide +kernel
theorem dX1_chain_75 : decode cX1_chain 75 = .ok (.iadd, 1) := by decide +kernel
theorem dX1_chain_76 : decode cX1_chain 76 = .ok (.putfield 39, 3) := by decide +kernel
theorem dX1_chain_79 : decode cX1_chain 79 = .ok (.aload_n 0, 1) := by decide +kernel
theorem dX1_chain_80 : decode cX1_chain 80 = .ok (.getfield 26, 3) := by decide +kernel
theorem dX1_chain_83 : decode cX1_chain 83 = .ok (.aload_n 0, 1) := by decide +kernel
theorem dX1_chain_84 : decode cX1_chain 84 = .ok (.getfield 39, 3) := by decide +kernel
theorem dX1_chain_87 : decode cX1_chain 87 = .ok (.iload_n 3, 1) := by decide +kernel
theorem dX1_chain_88 : decode cX1_chain 88 = .ok (.iastore, 1) := by decide +kernel
theorem dX1_chain_89 : decode cX1_chain 89 = .ok (.return_, 1) := by decide +kernel
set_option maxRecDepth 20000 in
theorem ggX1_make_X1_all : GoodIn wsX1_make wsX1_all := goodIn_r _ [9, 10, 11, 89, 90, 91, 92, 93, 94, 95, 96, 97, 98] (by decide +kernel) (by decide +kernel)
set_option maxRecDepth 20000 in
theorem gX1_make_X1_all : GoodIn wsX1_make (wsV RX1 103 RX1 yX1_all wsX1_all) := goodIn_app (goodIn_of _ (by decide +kernel)) ggX1_make_X1_all
set_option maxRecDepth 20000 in
theorem ggX1_make_X1_isCrossed : GoodIn wsX1_make wsX1_isCrossed := goodIn_r _ [15, 16, 17, 18, 8, 19, 20, 21, 22, 23, 11, 10, 24, 25, 26, 27, 28, 29, 30, 31, 32, 33, 34, 35, 36, 37, 38, 39, 40, 41, 42, 43, 44, 45, 89, 90, 91, 92, 93, 94, 95, 96, 97, 98] (by decide +kernel) (by decide +kernel)
set_option maxRecDepth 20000 in
theorem gX1_make_X1_isCrossed : GoodIn wsX1_make (wsV RX1 107 RX1 yX1_isCrossed wsX1_isCrossed) := goodIn_app (goodIn_of _ (by decide +kernel)) ggX1_make_X1_isCrossed
set_option maxRecDepth 20000 in
theorem ggX1_make_X1_isLedTo : GoodIn wsX1_make wsX1_isLedTo := goodIn_r _ [49, 20, 21, 22, 8, 23, 11, 10, 24, 25, 26, 27, 28, 29, 30, 31, 50, 51, 52, 53, 54, 55, 56, 57, 58, 59, 60, 61, 32, 33, 34, 35, 36, 37, 38, 39, 40, 41, 89, 90, 91, 92, 93, 94, 95, 96, 97, 98] (by decide +kernel) (by decide +kernel)
set_option maxRecDepth 20000 in
theorem gX1_make_X1_isLedTo : GoodIn wsX1_make (wsV RX1 110 RX1 yX1_isLedTo wsX1_isLedTo) := goodIn_app (goodIn_of _ (by decide +kernel)) ggX1_make_X1_isLedTo
set_option maxRecDepth 20000 in
theorem ggX1_make_X1_chain : GoodIn wsX1_make wsX1_chain := goodIn_r _ [65, 3, 2, 4, 66, 67, 68, 69, 70, 8, 71, 20, 21, 22, 23, 11, 10, 24, 25, 26, 27, 28, 29, 30, 31, 50, 51, 52, 53, 72, 73, 74, 75, 58, 59, 60, 61, 32, 33, 34, 35, 36, 37, 38, 39, 40, 41, 76, 77, 78, 79, 54, 55, 56, 57, 80, 81, 82, 83, 84, 85, 86, 87, 88, 89, 90, 91, 92, 93, 94, 95, 96, 97, 98] (by decide +kernel) (by decide +kernel)
set_option maxRecDepth 20000 in
theorem gX1_make_X1_chain : GoodIn wsX1_make (wsV RX1 113 RX1 yX1_chain wsX1_chain) := goodIn_app (goodIn_of _ (by decide +kernel)) ggX1_make_X1_chain
theorem dX1_make_0 : decode cX1_make 0 = .ok (.aload_n 0, 1) := by decide +kernel
theorem dX1_make_1 : decode cX1_make 1 = .ok (.iconst 0, 1) := by decide +kernel
theorem dX1_make_2 : decode cX1_make 2 = .ok (.putfield 36, 3) := by decide +kernel
theorem dX1_make_5 : decode cX1_make 5 = .ok (.aload_n 0, 1) := by decide +kernel
theorem dX1_make_6 : decode cX1_make 6 = .ok (.iconst 0, 1) := by decide +kernel
theorem dX1_make_7 : decode cX1_make 7 = .ok (.putfield 39, 3) := by decide +kernel
theorem dX1_make_10 : decode cX1_make 10 = .ok (.aload_n 0, 1) := by decide +kernel
theorem dX1_make_11 : decode cX1_make 11 = .ok (.getfield 26, 3) := by decide +kernel
theorem dX1_make_14 : decode cX1_make 14 = .ok (.iconst 0, 1) := by decide +kernel
theorem dX1_make_15 : decode cX1_make 15 = .ok (.iconst 0, 1) := by decide +kernel
theorem dX1_make_16 : decode cX1_make 16 = .ok (.iastore, 1) := by decide +kernel
theorem dX1_make_17 : decode cX1_make 17 = .ok (.iconst 0, 1) := by decide +kernel
theorem dX1_make_18 : decode cX1_make 18 = .ok (.istore_n 1, 1) := by decide +kernel
theorem dX1_make_19 : decode cX1_make 19 = .ok (.iload_n 1, 1) := by decide +kernel
theorem dX1_make_20 : decode cX1_make 20 = .ok (.sipush 264, 3) := by decide +kernel
theorem dX1_make_23 : decode cX1_make 23 = .ok (.if_icmp .ge 16, 3) := by decide +kernel
theorem dX1_make_26 : decode cX1_make 26 = .ok (.aload_n 0, 1) := by decide +kernel
theorem dX1_make_27 : decode cX1_make 27 = .ok (.getfield 33, 3) := by decide +kernel
theorem dX1_make_30 : decode cX1_make 30 = .ok (.iload_n 1, 1) := by decide +kernel
theorem dX1_make_31 : decode cX1_make 31 = .ok (.iconst 0, 1) := by decide +kernel
theorem dX1_make_32 : decode cX1_make 32 = .ok (.bastore, 1) := by decide +kernel
theorem dX1_make_33 : decode cX1_make 33 = .ok (.iinc 1 1, 3) := by decide +kernel
theorem dX1_make_36 : decode cX1_make 36 = .ok (.goto (-17), 3) := by decide +kernel
theorem dX1_make_39 : decode cX1_make 39 = .ok (.iconst 0, 1) := by decide +kernel
theorem dX1_make_40 : decode cX1_make 40 = .ok (.istore_n 1, 1) := by decide +kernel
theorem dX1_make_41 : decode cX1_make 41 = .ok (.iload_n 1, 1) := by decide +kernel
theorem dX1_make_42 : decode cX1_make 42 = .ok (.aload_n 0, 1) := by decide +kernel
theorem dX1_make_43 : decode cX1_make 43 = .ok (.invokevirtual 103, 3) := by decide +kernel
theorem dX1_make_46 : decode cX1_make 46 = .ok (.if_icmp .ge 31, 3) := by decide +kernel
theorem dX1_make_49 : decode cX1_make 49 = .ok (.aload_n 0, 1) := by decide +kernel
theorem dX1_make_50 : decode cX1_make 50 = .ok (.iload_n 1, 1) := by decide +kernel
theorem dX1_make_51 : decode cX1_make 51 = .ok (.invokevirtual 107, 3) := by decide +kernel
theorem dX1_make_54 : decode cX1_make 54 = .ok (.ifCond .eq 17, 3) := by decide +kernel
theorem dX1_make_57 : decode cX1_make 57 = .ok (.aload_n 0, 1) := by decide +kernel
theorem dX1_make_58 : decode cX1_make 58 = .ok (.iload_n 1, 1) := by decide +kernel
theorem dX1_make_59 : decode cX1_make 59 = .ok (.invokevirtual 110, 3) := by decide +kernel
theorem dX1_make_62 : decode cX1_make 62 = .ok (.ifCond .ne 9, 3) := by decide +kernel
theorem dX1_make_65 : decode cX1_make 65 = .ok (.aload_n 0, 1) := by decide +kernel
theorem dX1_make_66 : decode cX1_make 66 = .ok (.iload_n 1, 1) := by decide +kernel
theorem dX1_make_67 : decode cX1_make 67 = .ok (.iconst 0, 1) := by decide +kernel
theorem dX1_make_68 : decode cX1_make 68 = .ok (.invokevirtual 113, 3) := by decide +kernel
theorem dX1_make_71 : decode cX1_make 71 = .ok (.iinc 1 1, 3) := by decide +kernel
theorem dX1_make_74 : decode cX1_make 74 = .ok (.goto (-33), 3) := by decide +kernel
theorem dX1_make_77 : decode cX1_make 77 = .ok (.iconst 0, 1) := by decide +kernel
theorem dX1_make_78 : decode cX1_make 78 = .ok (.istore_n 1, 1) := by decide +kernel
theorem dX1_make_79 : decode cX1_make 79 = .ok (.iload_n 1, 1) := by decide +kernel
theorem dX1_make_80 : decode cX1_make 80 = .ok (.aload_n 0, 1) := by decide +kernel
theorem dX1_make_81 : decode cX1_make 81 = .ok (.invokevirtual 103, 3) := by decide +kernel
theorem dX1_make_84 : decode cX1_make 84 = .ok (.if_icmp .ge 32, 3) := by decide +kernel
theorem dX1_make_87 : decode cX1_make 87 = .ok (.aload_n 0, 1) := by decide +kernel
theorem dX1_make_88 : decode cX1_make 88 = .ok (.iload_n 1, 1) := by decide +kernel
theorem dX1_make_89 : decode cX1_make 89 = .ok (.invokevirtual 107, 3) := by decide +kernel
theorem dX1_make_92 : decode cX1_make 92 = .ok (.ifCond .eq 18, 3) := by decide +kernel
theorem dX1_make_95 : decode cX1_make 95 = .ok (.aload_n 0, 1) := by decide +kernel
theorem dX1_make_96 : decode cX1_make 96 = .ok (.getfield 33, 3) := by decide +kernel
theorem dX1_make_99 : decode cX1_make 99 = .ok (.iload_n 1, 1) := by decide +kernel
theorem dX1_make_100 : decode cX1_make 100 = .ok (.baload, 1) := by decide +kernel
theorem dX1_make_101 : decode cX1_make 101 = .ok (.ifCond .ne 9, 3) := by decide +kernel
theorem dX1_make_104 : decode cX1_make 104 = .ok (.aload_n 0, 1) := by decide +kernel
theorem dX1_make_105 : decode cX1_make 105 = .ok (.iload_n 1, 1) := by decide +kernel
theorem dX1_make_106 : decode cX1_make 106 = .ok (.iconst 1, 1) := by decide +kernel
theorem dX1_make_107 : decode cX1_make 107 = .ok (.invokevirtual 113, 3) := by decide +kernel
theorem dX1_make_110 : decode cX1_make 110 = .ok (.iinc 1 1, 3) := by decide +kernel
theorem dX1_make_113 : decode cX1_make 113 = .ok (.goto (-34), 3) := by decide +kernel
theorem dX1_make_116 : decode cX1_make 116 = .ok (.aload_n 0, 1) := by decide +kernel
theorem dX1_make_117 : decode cX1_make 117 = .ok (.getfield 39, 3) := by decide +kernel
theorem dX1_make_120 : decode cX1_make 120 = .ok (.ireturn, 1) := by decide +kernel
theorem dX1_isChain_0 : decode cX1_isChain 0 = .ok (.iload_n 1, 1) := by decide +kernel
theorem dX1_isChain_1 : decode cX1_isChain 1 = .ok (.ifCond .lt 15, 3) := by decide +kernel
theorem dX1_isChain_4 : decode cX1_isChain 4 = .ok (.iload_n 1, 1) := by decide +kernel
theorem dX1_isChain_5 : decode cX1_isChain 5 = .ok (.aload_n 0, 1) := by decide +kernel
theorem dX1_isChain_6 : decode cX1_isChain 6 = .ok (.getfield 39, 3) := by decide +kernel
theorem dX1_isChain_9 : decode cX1_isChain 9 = .ok (.if_icmp .ge 7, 3) := by decide +kernel
theorem dX1_isChain_12 : decode cX1_isChain 12 = .ok (.iconst 1, 1) := by decide +kernel
theorem dX1_isChain_13 : decode cX1_isChain 13 = .ok (.goto 4, 3) := by decide +kernel
theorem dX1_isChain_16 : decode cX1_isChain 16 = .ok (.iconst 0, 1) := by decide +kernel
theorem dX1_isChain_17 : decode cX1_isChain 17 = .ok (.ireturn, 1) := by decide +kernel
set_option maxRecDepth 20000 in
theorem ggX1_size_X1_isChain : GoodIn wsX1_size wsX1_isChain := goodIn_r _ [7, 8, 9, 10, 11, 12, 13, 14, 15, 16, 17, 18] (by decide +kernel) (by decide +kernel)
set_option maxRecDepth 20000 in
theorem gX1_size_X1_isChain : GoodIn wsX1_size (wsV RX1 117 RX1 yX1_isChain wsX1_isChain) := goodIn_app (goodIn_of _ (by decide +kernel)) ggX1_size_X1_isChain
theorem dX1_size_0 : decode cX1_size 0 = .ok (.aload_n 0, 1) := by decide +kernel
theorem dX1_size_1 : decode cX1_size 1 = .ok (.iconst 0, 1) := by decide +kernel
theorem dX1_size_2 : decode cX1_size 2 = .ok (.putfield 36, 3) := by decide +kernel
theorem dX1_size_5 : decode cX1_size 5 = .ok (.aload_n 0, 1) := by decide +kernel
theorem dX1_size_6 : decode cX1_size 6 = .ok (.iload_n 1, 1) := by decide +kernel
theorem dX1_size_7 : decode cX1_size 7 = .ok (.invokevirtual 117, 3) := by decide +kernel
theorem dX1_size_10 : decode cX1_size 10 = .ok (.ifCond .eq 21, 3) := by decide +kernel
theorem dX1_size_13 : decode cX1_size 13 = .ok (.aload_n 0, 1) := by decide +kernel
theorem dX1_size_14 : decode cX1_size 14 = .ok (.getfield 26, 3) := by decide +kernel
theorem dX1_size_17 : decode cX1_size 17 = .ok (.iload_n 1, 1) := by decide +kernel
theorem dX1_size_18 : decode cX1_size 18 = .ok (.iconst 1, 1) := by decide +kernel
theorem dX1_size_19 : decode cX1_size 19 = .ok (.iadd, 1) := by decide +kernel
theorem dX1_size_20 : decode cX1_size 20 = .ok (.iaload, 1) := by decide +kernel
theorem dX1_size_21 : decode cX1_size 21 = .ok (.aload_n 0, 1) := by decide +kernel
theorem dX1_size_22 : decode cX1_size 22 = .ok (.getfield 26, 3) := by decide +kernel
theorem dX1_size_25 : decode cX1_size 25 = .ok (.iload_n 1, 1) := by decide +kernel
theorem dX1_size_26 : decode cX1_size 26 = .ok (.iaload, 1) := by decide +kernel
theorem dX1_size_27 : decode cX1_size 27 = .ok (.isub, 1) := by decide +kernel
theorem dX1_size_28 : decode cX1_size 28 = .ok (.goto 4, 3) := by decide +kernel
theorem dX1_size_31 : decode cX1_size 31 = .ok (.iconst (-1), 1) := by decide +kernel
theorem dX1_size_32 : decode cX1_size 32 = .ok (.ireturn, 1) := by decide +kernel
set_option maxRecDepth 20000 in
theorem ggX1_isClosed_X1_isChain : GoodIn wsX1_isClosed wsX1_isChain := goodIn_r _ [7, 8, 9, 10, 11, 12, 13, 14, 15, 16, 17, 18] (by decide +kernel) (by decide +kernel)
set_option maxRecDepth 20000 in
theorem gX1_isClosed_X1_isChain : GoodIn wsX1_isClosed (wsV RX1 117 RX1 yX1_isChain wsX1_isChain) := goodIn_app (goodIn_of _ (by decide +kernel)) ggX1_isClosed_X1_isChain
theorem dX1_isClosed_0 : decode cX1_isClosed 0 = .ok (.aload_n 0, 1) := by decide +kernel
theorem dX1_isClosed_1 : decode cX1_isClosed 1 = .ok (.iconst 0, 1) := by decide +kernel
theorem dX1_isClosed_2 : decode cX1_isClosed 2 = .ok (.putfield 36, 3) := by decide +kernel
theorem dX1_isClosed_5 : decode cX1_isClosed 5 = .ok (.aload_n 0, 1) := by decide +kernel
theorem dX1_isClosed_6 : decode cX1_isClosed 6 = .ok (.iload_n 1, 1) := by decide +kernel
theorem dX1_isClosed_7 : decode cX1_isClosed 7 = .ok (.invokevirtual 117, 3) := by decide +kernel
theorem dX1_isClosed_10 : decode cX1_isClosed 10 = .ok (.ifCond .eq 16, 3) := by decide +kernel
theorem dX1_isClosed_13 : decode cX1_isClosed 13 = .ok (.aload_n 0, 1) := by decide +kernel
theorem dX1_isClosed_14 : decode cX1_isClosed 14 = .ok (.getfield 29, 3) := by decide +kernel
theorem dX1_isClosed_17 : decode cX1_isClosed 17 = .ok (.iload_n 1, 1) := by decide +kernel
theorem dX1_isClosed_18 : decode cX1_isClosed 18 = .ok (.baload, 1) := by decide +kernel
theorem dX1_isClosed_19 : decode cX1_isClosed 19 = .ok (.ifCond .eq 7, 3) := by decide +kernel
theorem dX1_isClosed_22 : decode cX1_isClosed 22 = .ok (.iconst 1, 1) := by decide +kernel
theorem dX1_isClosed_23 : decode cX1_isClosed 23 = .ok (.goto 4, 3) := by decide +kernel
theorem dX1_isClosed_26 : decode cX1_isClosed 26 = .ok (.iconst 0, 1) := by decide +kernel
theorem dX1_isClosed_27 : decode cX1_isClosed 27 = .ok (.ireturn, 1) := by decide +kernel
set_option maxRecDepth 20000 in
theorem ggX1_edge_X1_isChain : GoodIn wsX1_edge wsX1_isChain := goodIn_r _ [8, 9, 10, 11, 12, 13, 14, 15, 16, 17, 18, 19] (by decide +kernel) (by decide +kernel)
set_option maxRecDepth 20000 in
theorem gX1_edge_X1_isChain : GoodIn wsX1_edge (wsV RX1 117 RX1 yX1_isChain wsX1_isChain) := goodIn_app (goodIn_of _ (by decide +kernel)) ggX1_edge_X1_isChain
theorem dX1_edge_0 : decode cX1_edge 0 = .ok (.aload_n 0, 1) := by decide +kernel
theorem dX1_edge_1 : decode cX1_edge 1 = .ok (.iconst 0, 1) := by decide +kernel
theorem dX1_edge_2 : decode cX1_edge 2 = .ok (.putfield 36, 3) := by decide +kernel
theorem dX1_edge_5 : decode cX1_edge 5 = .ok (.aload_n 0, 1) := by decide +kernel
theorem dX1_edge_6 : decode cX1_edge 6 = .ok (.iload_n 1, 1) := by decide +kernel
theorem dX1_edge_7 : decode cX1_edge 7 = .ok (.invokevirtual 117, 3) := by decide +kernel
theorem dX1_edge_10 : decode cX1_edge 10 = .ok (.ifCond .eq 42, 3) := by decide +kernel
theorem dX1_edge_13 : decode cX1_edge 13 = .ok (.iload_n 2, 1) := by decide +kernel
theorem dX1_edge_14 : decode cX1_edge 14 = .ok (.ifCond .lt 38, 3) := by decide +kernel
theorem dX1_edge_17 : decode cX1_edge 17 = .ok (.iload_n 2, 1) := by decide +kernel
theorem dX1_edge_18 : decode cX1_edge 18 = .ok (.aload_n 0, 1) := by decide +kernel
theorem dX1_edge_19 : decode cX1_edge 19 = .ok (.getfield 26, 3) := by decide +kernel
theorem dX1_edge_22 : decode cX1_edge 22 = .ok (.iload_n 1, 1) := by decide +kernel
theorem dX1_edge_23 : decode cX1_edge 23 = .ok (.iconst 1, 1) := by decide +kernel
theorem dX1_edge_24 : decode cX1_edge 24 = .ok (.iadd, 1) := by decide +kernel
theorem dX1_edge_25 : decode cX1_edge 25 = .ok (.iaload, 1) := by decide +kernel
theorem dX1_edge_26 : decode cX1_edge 26 = .ok (.aload_n 0, 1) := by decide +kernel
theorem dX1_edge_27 : decode cX1_edge 27 = .ok (.getfield 26, 3) := by decide +kernel
theorem dX1_edge_30 : decode cX1_edge 30 = .ok (.iload_n 1, 1) := by decide +kernel
theorem dX1_edge_31 : decode cX1_edge 31 = .ok (.iaload, 1) := by decide +kernel
theorem dX1_edge_32 : decode cX1_edge 32 = .ok (.isub, 1) := by decide +kernel
theorem dX1_edge_33 : decode cX1_edge 33 = .ok (.if_icmp .ge 19, 3) := by decide +kernel
theorem dX1_edge_36 : decode cX1_edge 36 = .ok (.aload_n 0, 1) := by decide +kernel
theorem dX1_edge_37 : decode cX1_edge 37 = .ok (.getfield 23, 3) := by decide +kernel
theorem dX1_edge_40 : decode cX1_edge 40 = .ok (.aload_n 0, 1) := by decide +kernel
theorem dX1_edge_41 : decode cX1_edge 41 = .ok (.getfield 26, 3) := by decide +kernel
theorem dX1_edge_44 : decode cX1_edge 44 = .ok (.iload_n 1, 1) := by decide +kernel
theorem dX1_edge_45 : decode cX1_edge 45 = .ok (.iaload, 1) := by decide +kernel
theorem dX1_edge_46 : decode cX1_edge 46 = .ok (.iload_n 2, 1) := by decide +kernel
theorem dX1_edge_47 : decode cX1_edge 47 = .ok (.iadd, 1) := by decide +kernel
theorem dX1_edge_48 : decode cX1_edge 48 = .ok (.iaload, 1) := by decide +kernel
theorem dX1_edge_49 : decode cX1_edge 49 = .ok (.goto 4, 3) := by decide +kernel
theorem dX1_edge_52 : decode cX1_edge 52 = .ok (.iconst (-1), 1) := by decide +kernel
theorem dX1_edge_53 : decode cX1_edge 53 = .ok (.ireturn, 1) := by decide +kernel
set_option maxRecDepth 20000 in
theorem ggX1_crossing_X1_all : GoodIn wsX1_crossing wsX1_all := goodIn_r _ [7, 8, 9, 43, 44, 45, 46, 47, 48, 49, 50, 51, 52] (by decide +kernel) (by decide +kernel)
set_option maxRecDepth 20000 in
theorem gX1_crossing_X1_all : GoodIn wsX1_crossing (wsV RX1 103 RX1 yX1_all wsX1_all) := goodIn_app (goodIn_of _ (by decide +kernel)) ggX1_crossing_X1_all
set_option maxRecDepth 20000 in
theorem ggX1_crossing_X1_isCrossed : GoodIn wsX1_crossing wsX1_isCrossed := goodIn_r _ [13, 14, 15, 16, 6, 17, 18, 19, 20, 21, 9, 8, 22, 23, 24, 25, 26, 27, 28, 29, 30, 31, 32, 33, 34, 35, 36, 37, 38, 2, 39, 40, 41, 42, 43, 44, 45, 46, 47, 48, 49, 50, 51, 52] (by decide +kernel) (by decide +kernel)
set_option maxRecDepth 20000 in
theorem gX1_crossing_X1_isCrossed : GoodIn wsX1_crossing (wsV RX1 107 RX1 yX1_isCrossed wsX1_isCrossed) := goodIn_app (goodIn_of _ (by decide +kernel)) ggX1_crossing_X1_isCrossed
set_option maxRecDepth 20000 in
theorem ggX1_crossing_X1_first : GoodIn wsX1_crossing wsX1_first := goodIn_r _ [17, 18, 19, 20, 6, 21, 9, 8, 22, 23, 24, 25, 26, 27, 28, 29, 30, 31, 32, 33, 34, 43, 44, 45, 46, 47, 48, 49, 50, 51, 52] (by decide +kernel) (by decide +kernel)
set_option maxRecDepth 20000 in
theorem gX1_crossing_X1_first : GoodIn wsX1_crossing (wsV RX1 65 RX1 yX1_first wsX1_first) := goodIn_app (goodIn_of _ (by decide +kernel)) ggX1_crossing_X1_first
set_option maxRecDepth 20000 in
theorem ggX1_crossing_X1_second : GoodIn wsX1_crossing wsX1_second := goodIn_r _ [42, 22, 23, 24, 6, 25, 8, 9, 18, 19, 20, 21, 26, 27, 28, 29, 30, 31, 32, 33, 34, 43, 44, 45, 46, 47, 48, 49, 50, 51, 52] (by decide +kernel) (by decide +kernel)
set_option maxRecDepth 20000 in
theorem gX1_crossing_X1_second : GoodIn wsX1_crossing (wsV RX1 71 RX1 yX1_second wsX1_second) := goodIn_app (goodIn_of _ (by decide +kernel)) ggX1_crossing_X1_second
theorem dX1_crossing_0 : decode cX1_crossing 0 = .ok (.iload_n 1, 1) := by decide +kernel
theorem dX1_crossing_1 : decode cX1_crossing 1 = .ok (.ifCond .lt 32, 3) := by decide +kernel
theorem dX1_crossing_4 : decode cX1_crossing 4 = .ok (.iload_n 1, 1) := by decide +kernel
theorem dX1_crossing_5 : decode cX1_crossing 5 = .ok (.aload_n 0, 1) := by decide +kernel
theorem dX1_crossing_6 : decode cX1_crossing 6 = .ok (.invokevirtual 103, 3) := by decide +kernel
theorem dX1_crossing_9 : decode cX1_crossing 9 = .ok (.if_icmp .ge 24, 3) := by decide +kernel
theorem dX1_crossing_12 : decode cX1_crossing 12 = .ok (.iload_n 2, 1) := by decide +kernel
theorem dX1_crossing_13 : decode cX1_crossing 13 = .ok (.ifCond .lt 20, 3) := by decide +kernel
theorem dX1_crossing_16 : decode cX1_crossing 16 = .ok (.iload_n 2, 1) := by decide +kernel
theorem dX1_crossing_17 : decode cX1_crossing 17 = .ok (.iconst 2, 1) := by decide +kernel
theorem dX1_crossing_18 : decode cX1_crossing 18 = .ok (.if_icmp .ge 15, 3) := by decide +kernel
theorem dX1_crossing_21 : decode cX1_crossing 21 = .ok (.aload_n 0, 1) := by decide +kernel
theorem dX1_crossing_22 : decode cX1_crossing 22 = .ok (.iload_n 1, 1) := by decide +kernel
theorem dX1_crossing_23 : decode cX1_crossing 23 = .ok (.invokevirtual 107, 3) := by decide +kernel
theorem dX1_crossing_26 : decode cX1_crossing 26 = .ok (.ifCond .eq 7, 3) := by decide +kernel
theorem dX1_crossing_29 : decode cX1_crossing 29 = .ok (.iconst 1, 1) := by decide +kernel
theorem dX1_crossing_30 : decode cX1_crossing 30 = .ok (.goto 4, 3) := by decide +kernel
theorem dX1_crossing_33 : decode cX1_crossing 33 = .ok (.iconst 0, 1) := by decide +kernel
theorem dX1_crossing_34 : decode cX1_crossing 34 = .ok (.istore_n 3, 1) := by decide +kernel
theorem dX1_crossing_35 : decode cX1_crossing 35 = .ok (.aload_n 0, 1) := by decide +kernel
theorem dX1_crossing_36 : decode cX1_crossing 36 = .ok (.iload_n 3, 1) := by decide +kernel
theorem dX1_crossing_37 : decode cX1_crossing 37 = .ok (.ifCond .eq 7, 3) := by decide +kernel
theorem dX1_crossing_40 : decode cX1_crossing 40 = .ok (.iconst 0, 1) := by decide +kernel
theorem dX1_crossing_41 : decode cX1_crossing 41 = .ok (.goto 4, 3) := by decide +kernel
theorem dX1_crossing_44 : decode cX1_crossing 44 = .ok (.iconst 1, 1) := by decide +kernel
theorem dX1_crossing_45 : decode cX1_crossing 45 = .ok (.putfield 36, 3) := by decide +kernel
theorem dX1_crossing_48 : decode cX1_crossing 48 = .ok (.iload_n 3, 1) := by decide +kernel
theorem dX1_crossing_49 : decode cX1_crossing 49 = .ok (.ifCond .ne 5, 3) := by decide +kernel
theorem dX1_crossing_52 : decode cX1_crossing 52 = .ok (.iconst 0, 1) := by decide +kernel
theorem dX1_crossing_53 : decode cX1_crossing 53 = .ok (.ireturn, 1) := by decide +kernel
theorem dX1_crossing_54 : decode cX1_crossing 54 = .ok (.aload_n 0, 1) := by decide +kernel
theorem dX1_crossing_55 : decode cX1_crossing 55 = .ok (.getfield 16, 3) := by decide +kernel
theorem dX1_crossing_58 : decode cX1_crossing 58 = .ok (.iconst 2, 1) := by decide +kernel
theorem dX1_crossing_59 : decode cX1_crossing 59 = .ok (.aload_n 0, 1) := by decide +kernel
theorem dX1_crossing_60 : decode cX1_crossing 60 = .ok (.iload_n 1, 1) := by decide +kernel
theorem dX1_crossing_61 : decode cX1_crossing 61 = .ok (.invokevirtual 65, 3) := by decide +kernel
theorem dX1_crossing_64 : decode cX1_crossing 64 = .ok (.imul, 1) := by decide +kernel
