theorem dX1_crossing_65 : decode cX1_crossing 65 = .ok (.isub, 1) := by decide +kernel
theorem dX1_crossing_66 : decode cX1_crossing 66 = .ok (.istore 4, 2) := by decide +kernel
theorem dX1_crossing_68 : decode cX1_crossing 68 = .ok (.iconst 2, 1) := by decide +kernel
theorem dX1_crossing_69 : decode cX1_crossing 69 = .ok (.aload_n 0, 1) := by decide +kernel
theorem dX1_crossing_70 : decode cX1_crossing 70 = .ok (.iload_n 1, 1) := by decide +kernel
theorem dX1_crossing_71 : decode cX1_crossing 71 = .ok (.invokevirtual 71, 3) := by decide +kernel
theorem dX1_crossing_74 : decode cX1_crossing 74 = .ok (.aload_n 0, 1) := by decide +kernel
theorem dX1_crossing_75 : decode cX1_crossing 75 = .ok (.iload_n 1, 1) := by decide +kernel
theorem dX1_crossing_76 : decode cX1_crossing 76 = .ok (.invokevirtual 65, 3) := by decide +kernel
theorem dX1_crossing_79 : decode cX1_crossing 79 = .ok (.isub, 1) := by decide +kernel
theorem dX1_crossing_80 : decode cX1_crossing 80 = .ok (.imul, 1) := by decide +kernel
theorem dX1_crossing_81 : decode cX1_crossing 81 = .ok (.istore 5, 2) := by decide +kernel
theorem dX1_crossing_83 : decode cX1_crossing 83 = .ok (.iload 5, 2) := by decide +kernel
theorem dX1_crossing_85 : decode cX1_crossing 85 = .ok (.ifCond .ge 13, 3) := by decide +kernel
theorem dX1_crossing_88 : decode cX1_crossing 88 = .ok (.iload 4, 2) := by decide +kernel
theorem dX1_crossing_90 : decode cX1_crossing 90 = .ok (.ineg, 1) := by decide +kernel
theorem dX1_crossing_91 : decode cX1_crossing 91 = .ok (.istore 4, 2) := by decide +kernel
theorem dX1_crossing_93 : decode cX1_crossing 93 = .ok (.iload 5, 2) := by decide +kernel
theorem dX1_crossing_95 : decode cX1_crossing 95 = .ok (.ineg, 1) := by decide +kernel
theorem dX1_crossing_96 : decode cX1_crossing 96 = .ok (.istore 5, 2) := by decide +kernel
theorem dX1_crossing_98 : decode cX1_crossing 98 = .ok (.iload 4, 2) := by decide +kernel
theorem dX1_crossing_100 : decode cX1_crossing 100 = .ok (.istore 6, 2) := by decide +kernel
theorem dX1_crossing_102 : decode cX1_crossing 102 = .ok (.iload 5, 2) := by decide +kernel
theorem dX1_crossing_104 : decode cX1_crossing 104 = .ok (.istore 7, 2) := by decide +kernel
theorem dX1_crossing_106 : decode cX1_crossing 106 = .ok (.iload 7, 2) := by decide +kernel
theorem dX1_crossing_108 : decode cX1_crossing 108 = .ok (.ifCond .eq 21, 3) := by decide +kernel
theorem dX1_crossing_111 : decode cX1_crossing 111 = .ok (.iload 6, 2) := by decide +kernel
theorem dX1_crossing_113 : decode cX1_crossing 113 = .ok (.iload 7, 2) := by decide +kernel
theorem dX1_crossing_115 : decode cX1_crossing 115 = .ok (.irem, 1) := by decide +kernel
theorem dX1_crossing_116 : decode cX1_crossing 116 = .ok (.istore 8, 2) := by decide +kernel
theorem dX1_crossing_118 : decode cX1_crossing 118 = .ok (.iload 7, 2) := by decide +kernel
theorem dX1_crossing_120 : decode cX1_crossing 120 = .ok (.istore 6, 2) := by decide +kernel
theorem dX1_crossing_122 : decode cX1_crossing 122 = .ok (.iload 8, 2) := by decide +kernel
theorem dX1_crossing_124 : decode cX1_crossing 124 = .ok (.istore 7, 2) := by decide +kernel
theorem dX1_crossing_126 : decode cX1_crossing 126 = .ok (.goto (-20), 3) := by decide +kernel
theorem dX1_crossing_129 : decode cX1_crossing 129 = .ok (.iload_n 2, 1) := by decide +kernel
theorem dX1_crossing_130 : decode cX1_crossing 130 = .ok (.ifCond .ne 11, 3) := by decide +kernel
theorem dX1_crossing_133 : decode cX1_crossing 133 = .ok (.iload 4, 2) := by decide +kernel
theorem dX1_crossing_135 : decode cX1_crossing 135 = .ok (.iload 6, 2) := by decide +kernel
theorem dX1_crossing_137 : decode cX1_crossing 137 = .ok (.idiv, 1) := by decide +kernel
theorem dX1_crossing_138 : decode cX1_crossing 138 = .ok (.goto 8, 3) := by decide +kernel
theorem dX1_crossing_141 : decode cX1_crossing 141 = .ok (.iload 5, 2) := by decide +kernel
theorem dX1_crossing_143 : decode cX1_crossing 143 = .ok (.iload 6, 2) := by decide +kernel
theorem dX1_crossing_145 : decode cX1_crossing 145 = .ok (.idiv, 1) := by decide +kernel
theorem dX1_crossing_146 : decode cX1_crossing 146 = .ok (.ireturn, 1) := by decide +kernel
set_option maxRecDepth 20000 in
theorem ggX1_within_X1_isChain : GoodIn wsX1_within wsX1_isChain := goodIn_r _ [11, 12, 25, 26, 27, 28, 29, 30, 31, 32, 33, 34] (by decide +kernel) (by decide +kernel)
set_option maxRecDepth 20000 in
theorem gX1_within_X1_isChain : GoodIn wsX1_within (wsV RX1 117 RX1 yX1_isChain wsX1_isChain) := goodIn_app (goodIn_of _ (by decide +kernel)) ggX1_within_X1_isChain
set_option maxRecDepth 20000 in
theorem ggX1_within_X1_isAcross : GoodIn wsX1_within wsX1_isAcross := goodIn_r _ [16, 3, 4, 25, 26, 27, 28, 29, 30, 31, 32, 33, 34] (by decide +kernel) (by decide +kernel)
set_option maxRecDepth 20000 in
theorem gX1_within_X1_isAcross : GoodIn wsX1_within (wsV RX1 50 RX1 yX1_isAcross wsX1_isAcross) := goodIn_app (goodIn_of _ (by decide +kernel)) ggX1_within_X1_isAcross
set_option maxRecDepth 20000 in
theorem ggX1_within_X1_yOf : GoodIn wsX1_within wsX1_yOf := goodIn_r _ [20, 4, 3, 13, 14, 15, 10, 16, 25, 26, 27, 28, 29, 30, 31, 32, 33, 34] (by decide +kernel) (by decide +kernel)
set_option maxRecDepth 20000 in
theorem gX1_within_X1_yOf : GoodIn wsX1_within (wsV RX1 58 RX1 yX1_yOf wsX1_yOf) := goodIn_app (goodIn_of _ (by decide +kernel)) ggX1_within_X1_yOf
set_option maxRecDepth 20000 in
theorem ggX1_within_X1_xOf : GoodIn wsX1_within wsX1_xOf := goodIn_r _ [24, 4, 3, 13, 14, 15, 10, 16, 25, 26, 27, 28, 29, 30, 31, 32, 33, 34] (by decide +kernel) (by decide +kernel)
set_option maxRecDepth 20000 in
theorem gX1_within_X1_xOf : GoodIn wsX1_within (wsV RX1 54 RX1 yX1_xOf wsX1_xOf) := goodIn_app (goodIn_of _ (by decide +kernel)) ggX1_within_X1_xOf
theorem dX1_within_0 : decode cX1_within 0 = .ok (.aload_n 0, 1) := by decide +kernel
theorem dX1_within_1 : decode cX1_within 1 = .ok (.iconst 0, 1) := by decide +kernel
theorem dX1_within_2 : decode cX1_within 2 = .ok (.putfield 36, 3) := by decide +kernel
theorem dX1_within_5 : decode cX1_within 5 = .ok (.aload_n 0, 1) := by decide +kernel
theorem dX1_within_6 : decode cX1_within 6 = .ok (.iload_n 1, 1) := by decide +kernel
theorem dX1_within_7 : decode cX1_within 7 = .ok (.invokevirtual 117, 3) := by decide +kernel
theorem dX1_within_10 : decode cX1_within 10 = .ok (.ifCond .eq 12, 3) := by decide +kernel
theorem dX1_within_13 : decode cX1_within 13 = .ok (.aload_n 0, 1) := by decide +kernel
theorem dX1_within_14 : decode cX1_within 14 = .ok (.getfield 29, 3) := by decide +kernel
theorem dX1_within_17 : decode cX1_within 17 = .ok (.iload_n 1, 1) := by decide +kernel
theorem dX1_within_18 : decode cX1_within 18 = .ok (.baload, 1) := by decide +kernel
theorem dX1_within_19 : decode cX1_within 19 = .ok (.ifCond .ne 5, 3) := by decide +kernel
theorem dX1_within_22 : decode cX1_within 22 = .ok (.iconst (-1), 1) := by decide +kernel
theorem dX1_within_23 : decode cX1_within 23 = .ok (.ireturn, 1) := by decide +kernel
theorem dX1_within_24 : decode cX1_within 24 = .ok (.iconst 0, 1) := by decide +kernel
theorem dX1_within_25 : decode cX1_within 25 = .ok (.istore_n 2, 1) := by decide +kernel
theorem dX1_within_26 : decode cX1_within 26 = .ok (.iconst 0, 1) := by decide +kernel
theorem dX1_within_27 : decode cX1_within 27 = .ok (.istore_n 3, 1) := by decide +kernel
theorem dX1_within_28 : decode cX1_within 28 = .ok (.iload_n 3, 1) := by decide +kernel
theorem dX1_within_29 : decode cX1_within 29 = .ok (.aload_n 0, 1) := by decide +kernel
theorem dX1_within_30 : decode cX1_within 30 = .ok (.getfield 13, 3) := by decide +kernel
theorem dX1_within_33 : decode cX1_within 33 = .ok (.if_icmp .ge 119, 3) := by decide +kernel
theorem dX1_within_36 : decode cX1_within 36 = .ok (.iconst 0, 1) := by decide +kernel
theorem dX1_within_37 : decode cX1_within 37 = .ok (.istore 4, 2) := by decide +kernel
theorem dX1_within_39 : decode cX1_within 39 = .ok (.iload 4, 2) := by decide +kernel
theorem dX1_within_41 : decode cX1_within 41 = .ok (.aload_n 0, 1) := by decide +kernel
theorem dX1_within_42 : decode cX1_within 42 = .ok (.getfield 7, 3) := by decide +kernel
theorem dX1_within_45 : decode cX1_within 45 = .ok (.if_icmp .ge 101, 3) := by decide +kernel
theorem dX1_within_48 : decode cX1_within 48 = .ok (.iconst 0, 1) := by decide +kernel
theorem dX1_within_49 : decode cX1_within 49 = .ok (.istore 5, 2) := by decide +kernel
theorem dX1_within_51 : decode cX1_within 51 = .ok (.aload_n 0, 1) := by decide +kernel
theorem dX1_within_52 : decode cX1_within 52 = .ok (.getfield 26, 3) := by decide +kernel
theorem dX1_within_55 : decode cX1_within 55 = .ok (.iload_n 1, 1) := by decide +kernel
theorem dX1_within_56 : decode cX1_within 56 = .ok (.iaload, 1) := by decide +kernel
theorem dX1_within_57 : decode cX1_within 57 = .ok (.istore 6, 2) := by decide +kernel
theorem dX1_within_59 : decode cX1_within 59 = .ok (.iload 6, 2) := by decide +kernel
theorem dX1_within_61 : decode cX1_within 61 = .ok (.aload_n 0, 1) := by decide +kernel
theorem dX1_within_62 : decode cX1_within 62 = .ok (.getfield 26, 3) := by decide +kernel
theorem dX1_within_65 : decode cX1_within 65 = .ok (.iload_n 1, 1) := by decide +kernel
theorem dX1_within_66 : decode cX1_within 66 = .ok (.iconst 1, 1) := by decide +kernel
theorem dX1_within_67 : decode cX1_within 67 = .ok (.iadd, 1) := by decide +kernel
theorem dX1_within_68 : decode cX1_within 68 = .ok (.iaload, 1) := by decide +kernel
theorem dX1_within_69 : decode cX1_within 69 = .ok (.if_icmp .ge 64, 3) := by decide +kernel
theorem dX1_within_72 : decode cX1_within 72 = .ok (.iload 5, 2) := by decide +kernel
theorem dX1_within_74 : decode cX1_within 74 = .ok (.aload_n 0, 1) := by decide +kernel
theorem dX1_within_75 : decode cX1_within 75 = .ok (.aload_n 0, 1) := by decide +kernel
theorem dX1_within_76 : decode cX1_within 76 = .ok (.getfield 23, 3) := by decide +kernel
theorem dX1_within_79 : decode cX1_within 79 = .ok (.iload 6, 2) := by decide +kernel
theorem dX1_within_81 : decode cX1_within 81 = .ok (.iaload, 1) := by decide +kernel
theorem dX1_within_82 : decode cX1_within 82 = .ok (.invokevirtual 50, 3) := by decide +kernel
theorem dX1_within_85 : decode cX1_within 85 = .ok (.ifCond .eq 38, 3) := by decide +kernel
theorem dX1_within_88 : decode cX1_within 88 = .ok (.aload_n 0, 1) := by decide +kernel
theorem dX1_within_89 : decode cX1_within 89 = .ok (.aload_n 0, 1) := by decide +kernel
theorem dX1_within_90 : decode cX1_within 90 = .ok (.getfield 23, 3) := by decide +kernel
theorem dX1_within_93 : decode cX1_within 93 = .ok (.iload 6, 2) := by decide +kernel
theorem dX1_within_95 : decode cX1_within 95 = .ok (.iaload, 1) := by decide +kernel
theorem dX1_within_96 : decode cX1_within 96 = .ok (.invokevirtual 58, 3) := by decide +kernel
theorem dX1_within_99 : decode cX1_within 99 = .ok (.iload_n 3, 1) := by decide +kernel
theorem dX1_within_100 : decode cX1_within 100 = .ok (.if_icmp .ne 23, 3) := by decide +kernel
theorem dX1_within_103 : decode cX1_within 103 = .ok (.aload_n 0, 1) := by decide +kernel
theorem dX1_within_104 : decode cX1_within 104 = .ok (.aload_n 0, 1) := by decide +kernel
theorem dX1_within_105 : decode cX1_within 105 = .ok (.getfield 23, 3) := by decide +kernel
theorem dX1_within_108 : decode cX1_within 108 = .ok (.iload 6, 2) := by decide +kernel
theorem dX1_within_110 : decode cX1_within 110 = .ok (.iaload, 1) := by decide +kernel
theorem dX1_within_111 : decode cX1_within 111 = .ok (.invokevirtual 54, 3) := by decide +kernel
theorem dX1_within_114 : decode cX1_within 114 = .ok (.iload 4, 2) := by decide +kernel
theorem dX1_within_116 : decode cX1_within 116 = .ok (.if_icmp .ge 7, 3) := by decide +kernel
theorem dX1_within_119 : decode cX1_within 119 = .ok (.iconst 1, 1) := by decide +kernel
theorem dX1_within_120 : decode cX1_within 120 = .ok (.goto 4, 3) := by decide +kernel
theorem dX1_within_123 : decode cX1_within 123 = .ok (.iconst 0, 1) := by decide +kernel
theorem dX1_within_124 : decode cX1_within 124 = .ok (.iadd, 1) := by decide +kernel
theorem dX1_within_125 : decode cX1_within 125 = .ok (.istore 5, 2) := by decide +kernel
theorem dX1_within_127 : decode cX1_within 127 = .ok (.iinc 6 1, 3) := by decide +kernel
theorem dX1_within_130 : decode cX1_within 130 = .ok (.goto (-71), 3) := by decide +kernel
theorem dX1_within_133 : decode cX1_within 133 = .ok (.iload_n 2, 1) := by decide +kernel
theorem dX1_within_134 : decode cX1_within 134 = .ok (.iload 5, 2) := by decide +kernel
theorem dX1_within_136 : decode cX1_within 136 = .ok (.iconst 2, 1) := by decide +kernel
theorem dX1_within_137 : decode cX1_within 137 = .ok (.irem, 1) := by decide +kernel
theorem dX1_within_138 : decode cX1_within 138 = .ok (.iadd, 1) := by decide +kernel
theorem dX1_within_139 : decode cX1_within 139 = .ok (.istore_n 2, 1) := by decide +kernel
theorem dX1_within_140 : decode cX1_within 140 = .ok (.iinc 4 1, 3) := by decide +kernel
theorem dX1_within_143 : decode cX1_within 143 = .ok (.goto (-104), 3) := by decide +kernel
theorem dX1_within_146 : decode cX1_within 146 = .ok (.iinc 3 1, 3) := by decide +kernel
theorem dX1_within_149 : decode cX1_within 149 = .ok (.goto (-121), 3) := by decide +kernel
theorem dX1_within_152 : decode cX1_within 152 = .ok (.iload_n 2, 1) := by decide +kernel
theorem dX1_within_153 : decode cX1_within 153 = .ok (.ireturn, 1) := by decide +kernel
set_option maxRecDepth 20000 in
theorem ggX1_crossed_X1_all : GoodIn wsX1_crossed wsX1_all := goodIn_r _ [6, 7, 8, 43, 44, 45, 46, 47, 48, 49, 50, 51, 52] (by decide +kernel) (by decide +kernel)
set_option maxRecDepth 20000 in
theorem gX1_crossed_X1_all : GoodIn wsX1_crossed (wsV RX1 103 RX1 yX1_all wsX1_all) := goodIn_app (goodIn_of _ (by decide +kernel)) ggX1_crossed_X1_all
set_option maxRecDepth 20000 in
theorem ggX1_crossed_X1_isCrossed : GoodIn wsX1_crossed wsX1_isCrossed := goodIn_r _ [12, 13, 14, 15, 5, 16, 17, 18, 19, 20, 8, 7, 21, 22, 23, 24, 25, 26, 27, 28, 29, 30, 31, 32, 33, 34, 35, 36, 37, 38, 39, 40, 41, 42, 43, 44, 45, 46, 47, 48, 49, 50, 51, 52] (by decide +kernel) (by decide +kernel)
set_option maxRecDepth 20000 in
theorem gX1_crossed_X1_isCrossed : GoodIn wsX1_crossed (wsV RX1 107 RX1 yX1_isCrossed wsX1_isCrossed) := goodIn_app (goodIn_of _ (by decide +kernel)) ggX1_crossed_X1_isCrossed
theorem dX1_crossed_0 : decode cX1_crossed 0 = .ok (.aload_n 0, 1) := by decide +kernel
theorem dX1_crossed_1 : decode cX1_crossed 1 = .ok (.iconst 0, 1) := by decide +kernel
theorem dX1_crossed_2 : decode cX1_crossed 2 = .ok (.putfield 36, 3) := by decide +kernel
theorem dX1_crossed_5 : decode cX1_crossed 5 = .ok (.iconst 0, 1) := by decide +kernel
theorem dX1_crossed_6 : decode cX1_crossed 6 = .ok (.istore_n 1, 1) := by decide +kernel
theorem dX1_crossed_7 : decode cX1_crossed 7 = .ok (.iconst 0, 1) := by decide +kernel
theorem dX1_crossed_8 : decode cX1_crossed 8 = .ok (.istore_n 2, 1) := by decide +kernel
theorem dX1_crossed_9 : decode cX1_crossed 9 = .ok (.iload_n 2, 1) := by decide +kernel
theorem dX1_crossed_10 : decode cX1_crossed 10 = .ok (.aload_n 0, 1) := by decide +kernel
theorem dX1_crossed_11 : decode cX1_crossed 11 = .ok (.invokevirtual 103, 3) := by decide +kernel
theorem dX1_crossed_14 : decode cX1_crossed 14 = .ok (.if_icmp .ge 25, 3) := by decide +kernel
theorem dX1_crossed_17 : decode cX1_crossed 17 = .ok (.iload_n 1, 1) := by decide +kernel
theorem dX1_crossed_18 : decode cX1_crossed 18 = .ok (.aload_n 0, 1) := by decide +kernel
theorem dX1_crossed_19 : decode cX1_crossed 19 = .ok (.iload_n 2, 1) := by decide +kernel
theorem dX1_crossed_20 : decode cX1_crossed 20 = .ok (.invokevirtual 107, 3) := by decide +kernel
theorem dX1_crossed_23 : decode cX1_crossed 23 = .ok (.ifCond .eq 7, 3) := by decide +kernel
theorem dX1_crossed_26 : decode cX1_crossed 26 = .ok (.iconst 1, 1) := by decide +kernel
theorem dX1_crossed_27 : decode cX1_crossed 27 = .ok (.goto 4, 3) := by decide +kernel
theorem dX1_crossed_30 : decode cX1_crossed 30 = .ok (.iconst 0, 1) := by decide +kernel
theorem dX1_crossed_31 : decode cX1_crossed 31 = .ok (.iadd, 1) := by decide +kernel
theorem dX1_crossed_32 : decode cX1_crossed 32 = .ok (.istore_n 1, 1) := by decide +kernel
theorem dX1_crossed_33 : decode cX1_crossed 33 = .ok (.iinc 2 1, 3) := by decide +kernel
theorem dX1_crossed_36 : decode cX1_crossed 36 = .ok (.goto (-27), 3) := by decide +kernel
theorem dX1_crossed_39 : decode cX1_crossed 39 = .ok (.iload_n 1, 1) := by decide +kernel
theorem dX1_crossed_40 : decode cX1_crossed 40 = .ok (.ireturn, 1) := by decide +kernel
theorem dJ9_abs_0f7a4_0 : decode cJ9_abs_0f7a4 0 = .ok (.iload_n 0, 1) := by decide +kernel
theorem dJ9_abs_0f7a4_1 : decode cJ9_abs_0f7a4 1 = .ok (.ifCond .ge 8, 3) := by decide +kernel
theorem dJ9_abs_0f7a4_4 : decode cJ9_abs_0f7a4 4 = .ok (.iload_n 0, 1) := by decide +kernel
theorem dJ9_abs_0f7a4_5 : decode cJ9_abs_0f7a4 5 = .ok (.ineg, 1) := by decide +kernel
theorem dJ9_abs_0f7a4_6 : decode cJ9_abs_0f7a4 6 = .ok (.goto 4, 3) := by decide +kernel
theorem dJ9_abs_0f7a4_9 : decode cJ9_abs_0f7a4 9 = .ok (.iload_n 0, 1) := by decide +kernel
theorem dJ9_abs_0f7a4_10 : decode cJ9_abs_0f7a4 10 = .ok (.ireturn, 1) := by decide +kernel
theorem dJ9_max_f86c9_0 : decode cJ9_max_f86c9 0 = .ok (.lload_n 0, 1) := by decide +kernel
theorem dJ9_max_f86c9_1 : decode cJ9_max_f86c9 1 = .ok (.lload_n 2, 1) := by decide +kernel
theorem dJ9_max_f86c9_2 : decode cJ9_max_f86c9 2 = .ok (.lcmp, 1) := by decide +kernel
theorem dJ9_max_f86c9_3 : decode cJ9_max_f86c9 3 = .ok (.ifCond .lt 7, 3) := by decide +kernel
theorem dJ9_max_f86c9_6 : decode cJ9_max_f86c9 6 = .ok (.lload_n 0, 1) := by decide +kernel
theorem dJ9_max_f86c9_7 : decode cJ9_max_f86c9 7 = .ok (.goto 4, 3) := by decide +kernel
theorem dJ9_max_f86c9_10 : decode cJ9_max_f86c9 10 = .ok (.lload_n 2, 1) := by decide +kernel
theorem dJ9_max_f86c9_11 : decode cJ9_max_f86c9 11 = .ok (.lreturn, 1) := by decide +kernel
theorem dJ9_min_f86c9_0 : decode cJ9_min_f86c9 0 = .ok (.lload_n 0, 1) := by decide +kernel
theorem dJ9_min_f86c9_1 : decode cJ9_min_f86c9 1 = .ok (.lload_n 2, 1) := by decide +kernel
theorem dJ9_min_f86c9_2 : decode cJ9_min_f86c9 2 = .ok (.lcmp, 1) := by decide +kernel
theorem dJ9_min_f86c9_3 : decode cJ9_min_f86c9 3 = .ok (.ifCond .gt 7, 3) := by decide +kernel
theorem dJ9_min_f86c9_6 : decode cJ9_min_f86c9 6 = .ok (.lload_n 0, 1) := by decide +kernel
theorem dJ9_min_f86c9_7 : decode cJ9_min_f86c9 7 = .ok (.goto 4, 3) := by decide +kernel
theorem dJ9_min_f86c9_10 : decode cJ9_min_f86c9 10 = .ok (.lload_n 2, 1) := by decide +kernel
theorem dJ9_min_f86c9_11 : decode cJ9_min_f86c9 11 = .ok (.lreturn, 1) := by decide +kernel
theorem dJ7_fill_53178_0 : decode cJ7_fill_53178 0 = .ok (.iconst 0, 1) := by decide +kernel
theorem dJ7_fill_53178_1 : decode cJ7_fill_53178 1 = .ok (.istore_n 2, 1) := by decide +kernel
theorem dJ7_fill_53178_2 : decode cJ7_fill_53178 2 = .ok (.aload_n 0, 1) := by decide +kernel
theorem dJ7_fill_53178_3 : decode cJ7_fill_53178 3 = .ok (.arraylength, 1) := by decide +kernel
theorem dJ7_fill_53178_4 : decode cJ7_fill_53178 4 = .ok (.istore_n 3, 1) := by decide +kernel
theorem dJ7_fill_53178_5 : decode cJ7_fill_53178 5 = .ok (.iload_n 2, 1) := by decide +kernel
theorem dJ7_fill_53178_6 : decode cJ7_fill_53178 6 = .ok (.iload_n 3, 1) := by decide +kernel
theorem dJ7_fill_53178_7 : decode cJ7_fill_53178 7 = .ok (.if_icmp .ge 13, 3) := by decide +kernel
theorem dJ7_fill_53178_10 : decode cJ7_fill_53178 10 = .ok (.aload_n 0, 1) := by decide +kernel
theorem dJ7_fill_53178_11 : decode cJ7_fill_53178 11 = .ok (.iload_n 2, 1) := by decide +kernel
theorem dJ7_fill_53178_12 : decode cJ7_fill_53178 12 = .ok (.iload_n 1, 1) := by decide +kernel
theorem dJ7_fill_53178_13 : decode cJ7_fill_53178 13 = .ok (.iastore, 1) := by decide +kernel
theorem dJ7_fill_53178_14 : decode cJ7_fill_53178 14 = .ok (.iinc 2 1, 3) := by decide +kernel
theorem dJ7_fill_53178_17 : decode cJ7_fill_53178 17 = .ok (.goto (-12), 3) := by decide +kernel
theorem dJ7_fill_53178_20 : decode cJ7_fill_53178 20 = .ok (.return_, 1) := by decide +kernel
set_option maxRecDepth 20000 in
theorem ggL_crossing_X0_crossing : GoodIn wsL_crossing wsX0_crossing := goodIn_ca (goodIn_r _ [6, 7, 8, 9, 10, 11, 12, 13, 14, 15, 16, 17, 5, 18, 19, 20, 21, 22, 23, 24, 25, 26, 27, 28, 29, 30, 31, 32, 33, 34, 35, 36, 37, 38, 39, 40, 41, 42, 43, 44, 45, 46, 47, 48, 49, 50, 51, 52, 53, 54] (by decide +kernel) (by decide +kernel)) (goodIn_sub (fun _ h => List.mem_cons_of_mem _ (List.mem_append_right _ h)) (by decide +kernel))
set_option maxRecDepth 20000 in
theorem gL_crossing_X0_crossing : GoodIn wsL_crossing (wsV RL 7 RX0 yX0_crossing wsX0_crossing) := goodIn_app (goodIn_of _ (by decide +kernel)) ggL_crossing_X0_crossing
theorem dL_crossing_0 : decode cL_crossing 0 = .ok (.aload_n 3, 1) := by decide +kernel
theorem dL_crossing_1 : decode cL_crossing 1 = .ok (.iconst 0, 1) := by decide +kernel
theorem dL_crossing_2 : decode cL_crossing 2 = .ok (.aload_n 0, 1) := by decide +kernel
theorem dL_crossing_3 : decode cL_crossing 3 = .ok (.iload_n 1, 1) := by decide +kernel
theorem dL_crossing_4 : decode cL_crossing 4 = .ok (.iload_n 2, 1) := by decide +kernel
theorem dL_crossing_5 : decode cL_crossing 5 = .ok (.invokevirtual 7, 3) := by decide +kernel
theorem dL_crossing_8 : decode cL_crossing 8 = .ok (.i2l, 1) := by decide +kernel
theorem dL_crossing_9 : decode cL_crossing 9 = .ok (.lastore, 1) := by decide +kernel
theorem dL_crossing_10 : decode cL_crossing 10 = .ok (.goto 7, 3) := by decide +kernel
theorem dL_crossing_13 : decode cL_crossing 13 = .ok (.astore 4, 2) := by decide +kernel
theorem dL_crossing_15 : decode cL_crossing 15 = .ok (.iconst 1, 1) := by decide +kernel
theorem dL_crossing_16 : decode cL_crossing 16 = .ok (.ireturn, 1) := by decide +kernel
theorem dL_crossing_17 : decode cL_crossing 17 = .ok (.iconst 0, 1) := by decide +kernel
theorem dL_crossing_18 : decode cL_crossing 18 = .ok (.ireturn, 1) := by decide +kernel
set_option maxRecDepth 20000 in
theorem ggL_law_X0_init : GoodIn wsL_law wsX0_init := goodIn_r _ [9, 10, 11, 12, 13, 14, 15, 16, 17, 18, 19, 20, 21, 22, 23, 24, 356, 357, 358, 359, 360, 361, 362, 363, 364, 365, 366] (by decide +kernel) (by decide +kernel)
set_option maxRecDepth 20000 in
theorem gL_law_X0_init : GoodIn wsL_law (wsX0_init) := ggL_law_X0_init
set_option maxRecDepth 20000 in
theorem ggL_law_X1_init : GoodIn wsL_law wsX1_init := goodIn_r _ [27, 28, 11, 12, 29, 30, 31, 16, 32, 33, 34, 35, 36, 37, 367, 368, 369, 370, 371, 372, 373, 374, 375, 376] (by decide +kernel) (by decide +kernel)
set_option maxRecDepth 20000 in
theorem gL_law_X1_init : GoodIn wsL_law (wsX1_init) := ggL_law_X1_init
set_option maxRecDepth 20000 in
theorem ggL_law_X0_field : GoodIn wsL_law wsX0_field := goodIn_r _ [41, 13, 14, 17, 42, 43, 2, 44, 45, 46, 47, 48, 49, 50, 51, 52, 24, 23, 22, 356, 357, 358, 359, 360, 361, 362, 363, 364, 365, 366] (by decide +kernel) (by decide +kernel)
set_option maxRecDepth 20000 in
theorem gL_law_X0_field : GoodIn wsL_law (wsV RL 19 RX0 yX0_field wsX0_field) := goodIn_app (goodIn_of _ (by decide +kernel)) ggL_law_X0_field
set_option maxRecDepth 20000 in
theorem ggL_law_X1_field : GoodIn wsL_law wsX1_field := goodIn_r _ [56, 57, 29, 30, 58, 32, 367, 368, 369, 370, 371, 372, 373, 374, 375, 376] (by decide +kernel) (by decide +kernel)
set_option maxRecDepth 20000 in
theorem gL_law_X1_field : GoodIn wsL_law (wsV RL 23 RX1 yX1_field wsX1_field) := goodIn_app (goodIn_of _ (by decide +kernel)) ggL_law_X1_field
set_option maxRecDepth 20000 in
theorem ggL_law_X0_set : GoodIn wsL_law wsX0_set := goodIn_r _ [62, 13, 17, 63, 64, 65, 2, 66, 14, 67, 68, 69, 70, 71, 72, 73, 74, 75, 76, 77, 78, 79, 80, 81, 82, 356, 357, 358, 359, 360, 361, 362, 363, 364, 365, 366] (by decide +kernel) (by decide +kernel)
set_option maxRecDepth 20000 in
theorem gL_law_X0_set : GoodIn wsL_law (wsV RL 24 RX0 yX0_set wsX0_set) := goodIn_app (goodIn_of _ (by decide +kernel)) ggL_law_X0_set
set_option maxRecDepth 20000 in
theorem ggL_law_X1_set : GoodIn wsL_law wsX1_set := goodIn_r _ [86, 57, 29, 30, 87, 88, 32, 367, 368, 369, 370, 371, 372, 373, 374, 375, 376] (by decide +kernel) (by decide +kernel)
set_option maxRecDepth 20000 in
theorem gL_law_X1_set : GoodIn wsL_law (wsV RL 28 RX1 yX1_set wsX1_set) := goodIn_app (goodIn_of _ (by decide +kernel)) ggL_law_X1_set
set_option maxRecDepth 20000 in
theorem ggL_law_X0_row : GoodIn wsL_law wsX0_row := goodIn_r _ [92, 13, 17, 63, 64, 65, 2, 66, 14, 79, 80, 81, 82, 67, 68, 69, 70, 71, 72, 73, 74, 75, 76, 77, 78, 356, 357, 358, 359, 360, 361, 362, 363, 364, 365, 366] (by decide +kernel) (by decide +kernel)
set_option maxRecDepth 20000 in
theorem gL_law_X0_row : GoodIn wsL_law (wsV RL 29 RX0 yX0_row wsX0_row) := goodIn_app (goodIn_of _ (by decide +kernel)) ggL_law_X0_row
set_option maxRecDepth 20000 in
theorem ggL_law_X1_row : GoodIn wsL_law wsX1_row := goodIn_r _ [96, 57, 30, 29, 32, 97, 87, 98, 88, 367, 368, 369, 370, 371, 372, 373, 374, 375, 376] (by decide +kernel) (by decide +kernel)
set_option maxRecDepth 20000 in
theorem gL_law_X1_row : GoodIn wsL_law (wsV RL 32 RX1 yX1_row wsX1_row) := goodIn_app (goodIn_of _ (by decide +kernel)) ggL_law_X1_row
set_option maxRecDepth 20000 in
theorem ggL_law_X0_height : GoodIn wsL_law wsX0_height := goodIn_r _ [102, 103, 104, 15, 356, 357, 358, 359, 360, 361, 362, 363, 364, 365, 366] (by decide +kernel) (by decide +kernel)
set_option maxRecDepth 20000 in
theorem gL_law_X0_height : GoodIn wsL_law (wsV RL 33 RX0 yX0_height wsX0_height) := goodIn_app (goodIn_of _ (by decide +kernel)) ggL_law_X0_height
set_option maxRecDepth 20000 in
theorem ggL_law_X1_height : GoodIn wsL_law wsX1_height := goodIn_r _ [108, 57, 109, 110, 31, 367, 368, 369, 370, 371, 372, 373, 374, 375, 376] (by decide +kernel) (by decide +kernel)
set_option maxRecDepth 20000 in
theorem gL_law_X1_height : GoodIn wsL_law (wsV RL 37 RX1 yX1_height wsX1_height) := goodIn_app (goodIn_of _ (by decide +kernel)) ggL_law_X1_height
set_option maxRecDepth 20000 in
theorem ggL_law_X0_make : GoodIn wsL_law wsX0_make := goodIn_r _ [114, 24, 49, 50, 51, 2, 52, 23, 22, 45, 46, 47, 48, 115, 116, 117, 118, 18, 19, 14, 13, 119, 120, 121, 122, 123, 124, 125, 126, 127, 128, 129, 130, 79, 80, 81, 82, 131, 132, 133, 134, 17, 15, 135, 136, 137, 138, 139, 140, 141, 142, 143, 144, 145, 146, 147, 148, 149, 150, 151, 152, 153, 154, 155, 156, 157, 158, 159, 160, 161, 162, 163, 164, 165, 166, 167, 168, 169, 170, 171, 172, 173, 174, 175, 176, 177, 178, 179, 21, 20, 180, 181, 182, 183, 356, 357, 358, 359, 360, 361, 362, 363, 364, 365, 366] (by decide +kernel) (by decide +kernel)
set_option maxRecDepth 20000 in
theorem gL_law_X0_make : GoodIn wsL_law (wsV RL 38 RX0 yX0_make wsX0_make) := goodIn_app (goodIn_of _ (by decide +kernel)) ggL_law_X0_make
set_option maxRecDepth 20000 in
theorem ggL_law_X1_make : GoodIn wsL_law wsX1_make := goodIn_r _ [187, 57, 58, 34, 37, 188, 189, 190, 5, 191, 30, 29, 192, 193, 194, 195, 196, 197, 198, 199, 200, 201, 202, 203, 204, 205, 206, 207, 208, 209, 210, 211, 212, 213, 214, 215, 32, 216, 217, 218, 219, 31, 220, 221, 222, 223, 224, 225, 226, 227, 228, 229, 230, 231, 232, 233, 234, 235, 236, 237, 238, 239, 240, 241, 242, 243, 33, 36, 244, 245, 246, 247, 248, 249, 250, 251, 252, 253, 254, 255, 256, 257, 258, 259, 260, 261, 262, 263, 264, 367, 368, 369, 370, 371, 372, 373, 374, 375, 376] (by decide +kernel) (by decide +kernel)
set_option maxRecDepth 20000 in
theorem gL_law_X1_make : GoodIn wsL_law (wsV RL 42 RX1 yX1_make wsX1_make) := goodIn_app (goodIn_of _ (by decide +kernel)) ggL_law_X1_make
set_option maxRecDepth 20000 in
theorem ggL_law_X0_size : GoodIn wsL_law wsX0_size := goodIn_r _ [268, 21, 269, 270, 271, 2, 272, 24, 356, 357, 358, 359, 360, 361, 362, 363, 364, 365, 366] (by decide +kernel) (by decide +kernel)
set_option maxRecDepth 20000 in
theorem gL_law_X0_size : GoodIn wsL_law (wsV RL 43 RX0 yX0_size wsX0_size) := goodIn_app (goodIn_of _ (by decide +kernel)) ggL_law_X0_size
set_option maxRecDepth 20000 in
theorem ggL_law_X1_size : GoodIn wsL_law wsX1_size := goodIn_r _ [276, 57, 34, 277, 278, 279, 5, 280, 58, 367, 368, 369, 370, 371, 372, 373, 374, 375, 376] (by decide +kernel) (by decide +kernel)
set_option maxRecDepth 20000 in
theorem gL_law_X1_size : GoodIn wsL_law (wsV RL 47 RX1 yX1_size wsX1_size) := goodIn_app (goodIn_of _ (by decide +kernel)) ggL_law_X1_size
set_option maxRecDepth 20000 in
theorem ggL_law_X0_isClosed : GoodIn wsL_law wsX0_isClosed := goodIn_r _ [284, 23, 269, 270, 271, 2, 272, 24, 356, 357, 358, 359, 360, 361, 362, 363, 364, 365, 366] (by decide +kernel) (by decide +kernel)
set_option maxRecDepth 20000 in
theorem gL_law_X0_isClosed : GoodIn wsL_law (wsV RL 48 RX0 yX0_isClosed wsX0_isClosed) := goodIn_app (goodIn_of _ (by decide +kernel)) ggL_law_X0_isClosed
set_option maxRecDepth 20000 in
theorem ggL_law_X1_isClosed : GoodIn wsL_law wsX1_isClosed := goodIn_r _ [288, 57, 36, 277, 278, 279, 5, 280, 58, 367, 368, 369, 370, 371, 372, 373, 374, 375, 376] (by decide +kernel) (by decide +kernel)
set_option maxRecDepth 20000 in
theorem gL_law_X1_isClosed : GoodIn wsL_law (wsV RL 51 RX1 yX1_isClosed wsX1_isClosed) := goodIn_app (goodIn_of _ (by decide +kernel)) ggL_law_X1_isClosed
set_option maxRecDepth 20000 in
theorem ggL_law_X0_edge : GoodIn wsL_law wsX0_edge := goodIn_r _ [292, 20, 21, 293, 266, 267, 2, 268, 269, 270, 271, 272, 24, 356, 357, 358, 359, 360, 361, 362, 363, 364, 365, 366] (by decide +kernel) (by decide +kernel)
set_option maxRecDepth 20000 in
theorem gL_law_X0_edge : GoodIn wsL_law (wsV RL 52 RX0 yX0_edge wsX0_edge) := goodIn_app (goodIn_of _ (by decide +kernel)) ggL_law_X0_edge
set_option maxRecDepth 20000 in
theorem ggL_law_X1_edge : GoodIn wsL_law wsX1_edge := goodIn_r _ [297, 57, 34, 33, 277, 278, 279, 5, 280, 58, 367, 368, 369, 370, 371, 372, 373, 374, 375, 376] (by decide +kernel) (by decide +kernel)
set_option maxRecDepth 20000 in
theorem gL_law_X1_edge : GoodIn wsL_law (wsV RL 55 RX1 yX1_edge wsX1_edge) := goodIn_app (goodIn_of _ (by decide +kernel)) ggL_law_X1_edge
set_option maxRecDepth 20000 in
theorem ggL_law_L_crossing : GoodIn wsL_law wsL_crossing := goodIn_ca (goodIn_r _ [301, 302, 303, 304, 305, 2, 306, 307, 308, 17, 15, 309, 310, 74, 311, 172, 173, 174, 175, 14, 13, 158, 159, 160, 161, 312, 313, 314, 315, 316, 317, 318, 319, 131, 132, 133, 134, 320, 321, 322, 323, 324, 325, 326, 356, 357, 358, 359, 360, 361, 362, 363, 364, 365, 366] (by decide +kernel) (by decide +kernel)) (goodIn_sub (fun _ h => List.mem_append_right _ h) (by decide +kernel))
set_option maxRecDepth 20000 in
theorem gL_law_L_crossing : GoodIn wsL_law (va_wsS RL 56 yL_crossing wsL_crossing) := goodIn_app (goodIn_of _ (by decide +kernel)) ggL_law_L_crossing
set_option maxRecDepth 20000 in
theorem ggL_law_X1_crossing : GoodIn wsL_law wsX1_crossing := goodIn_r _ [330, 57, 31, 188, 189, 190, 5, 191, 30, 29, 192, 193, 194, 195, 196, 197, 198, 199, 200, 201, 202, 203, 204, 205, 206, 207, 208, 209, 210, 211, 212, 213, 214, 215, 32, 216, 217, 218, 219, 220, 221, 222, 223, 367, 368, 369, 370, 371, 372, 373, 374, 375, 376] (by decide +kernel) (by decide +kernel)
set_option maxRecDepth 20000 in
theorem gL_law_X1_crossing : GoodIn wsL_law (wsV RL 61 RX1 yX1_crossing wsX1_crossing) := goodIn_app (goodIn_of _ (by decide +kernel)) ggL_law_X1_crossing
set_option maxRecDepth 20000 in
theorem ggL_law_X1_thrown : GoodIn wsL_law wsX1_thrown := goodIn_r _ [334, 57, 367, 368, 369, 370, 371, 372, 373, 374, 375, 376] (by decide +kernel) (by decide +kernel)
set_option maxRecDepth 20000 in
theorem gL_law_X1_thrown : GoodIn wsL_law (wsV RL 62 RX1 yX1_thrown wsX1_thrown) := goodIn_app (goodIn_of _ (by decide +kernel)) ggL_law_X1_thrown
set_option maxRecDepth 20000 in
theorem ggL_law_X0_within : GoodIn wsL_law wsX0_within := goodIn_r _ [338, 14, 339, 282, 283, 2, 284, 23, 269, 270, 271, 272, 24, 340, 341, 342, 343, 13, 22, 150, 151, 152, 153, 356, 357, 358, 359, 360, 361, 362, 363, 364, 365, 366] (by decide +kernel) (by decide +kernel)
set_option maxRecDepth 20000 in
theorem gL_law_X0_within : GoodIn wsL_law (wsV RL 65 RX0 yX0_within wsX0_within) := goodIn_app (goodIn_of _ (by decide +kernel)) ggL_law_X0_within
set_option maxRecDepth 20000 in
theorem ggL_law_X1_within : GoodIn wsL_law wsX1_within := goodIn_r _ [347, 57, 36, 30, 29, 34, 33, 277, 278, 279, 5, 280, 58, 204, 205, 206, 207, 208, 209, 210, 211, 200, 201, 202, 203, 367, 368, 369, 370, 371, 372, 373, 374, 375, 376] (by decide +kernel) (by decide +kernel)
set_option maxRecDepth 20000 in
theorem gL_law_X1_within : GoodIn wsL_law (wsV RL 68 RX1 yX1_within wsX1_within) := goodIn_app (goodIn_of _ (by decide +kernel)) ggL_law_X1_within
set_option maxRecDepth 20000 in
theorem ggL_law_X0_crossed : GoodIn wsL_law wsX0_crossed := goodIn_r _ [351, 172, 173, 174, 2, 175, 14, 13, 158, 159, 160, 161, 312, 313, 314, 315, 316, 317, 318, 319, 131, 132, 133, 134, 17, 15, 320, 321, 322, 323, 356, 357, 358, 359, 360, 361, 362, 363, 364, 365, 366] (by decide +kernel) (by decide +kernel)
set_option maxRecDepth 20000 in
theorem gL_law_X0_crossed : GoodIn wsL_law (wsV RL 69 RX0 yX0_crossed wsX0_crossed) := goodIn_app (goodIn_of _ (by decide +kernel)) ggL_law_X0_crossed
set_option maxRecDepth 20000 in
theorem ggL_law_X1_crossed : GoodIn wsL_law wsX1_crossed := goodIn_r _ [355, 57, 188, 189, 190, 5, 191, 30, 29, 192, 193, 194, 195, 196, 197, 198, 199, 200, 201, 202, 203, 204, 205, 206, 207, 208, 209, 210, 211, 212, 213, 214, 215, 32, 216, 217, 218, 219, 31, 220, 221, 222, 223, 367, 368, 369, 370, 371, 372, 373, 374, 375, 376] (by decide +kernel) (by decide +kernel)
set_option maxRecDepth 20000 in
theorem gL_law_X1_crossed : GoodIn wsL_law (wsV RL 72 RX1 yX1_crossed wsX1_crossed) := goodIn_app (goodIn_of _ (by decide +kernel)) ggL_law_X1_crossed
theorem dL_law_0 : decode cL_law 0 = .ok (.new 8, 3) := by decide +kernel
theorem dL_law_3 : decode cL_law 3 = .ok (.dup, 1) := by decide +kernel
theorem dL_law_4 : decode cL_law 4 = .ok (.invokespecial 15, 3) := by decide +kernel
theorem dL_law_7 : decode cL_law 7 = .ok (.astore_n 1, 1) := by decide +kernel
theorem dL_law_8 : decode cL_law 8 = .ok (.new 16, 3) := by decide +kernel
theorem dL_law_11 : decode cL_law 11 = .ok (.dup, 1) := by decide +kernel
theorem dL_law_12 : decode cL_law 12 = .ok (.invokespecial 18, 3) := by decide +kernel
theorem dL_law_15 : decode cL_law 15 = .ok (.astore_n 2, 1) := by decide +kernel
theorem dL_law_16 : decode cL_law 16 = .ok (.iconst 1, 1) := by decide +kernel
theorem dL_law_17 : decode cL_law 17 = .ok (.newarray .long, 2) := by decide +kernel
theorem dL_law_19 : decode cL_law 19 = .ok (.astore_n 3, 1) := by decide +kernel
theorem dL_law_20 : decode cL_law 20 = .ok (.iconst 0, 1) := by decide +kernel
theorem dL_law_21 : decode cL_law 21 = .ok (.istore 4, 2) := by decide +kernel
theorem dL_law_23 : decode cL_law 23 = .ok (.iload 4, 2) := by decide +kernel
theorem dL_law_25 : decode cL_law 25 = .ok (.aload_n 0, 1) := by decide +kernel
theorem dL_law_26 : decode cL_law 26 = .ok (.arraylength, 1) := by decide +kernel
theorem dL_law_27 : decode cL_law 27 = .ok (.iconst 4, 1) := by decide +kernel
theorem dL_law_28 : decode cL_law 28 = .ok (.isub, 1) := by decide +kernel
theorem dL_law_29 : decode cL_law 29 = .ok (.if_icmp .gt 439, 3) := by decide +kernel
theorem dL_law_32 : decode cL_law 32 = .ok (.aload_n 0, 1) := by decide +kernel
theorem dL_law_33 : decode cL_law 33 = .ok (.iload 4, 2) := by decide +kernel
theorem dL_law_35 : decode cL_law 35 = .ok (.iaload, 1) := by decide +kernel
theorem dL_law_36 : decode cL_law 36 = .ok (.bipush 15, 2) := by decide +kernel
theorem dL_law_38 : decode cL_law 38 = .ok (.iand, 1) := by decide +kernel
theorem dL_law_39 : decode cL_law 39 = .ok (.tableswitch 423 0 10 #[57, 94, 143, 192, 217, 230, 255, 280, 317, 385, 410], 57) := by decide +kernel
theorem dL_law_96 : decode cL_law 96 = .ok (.aload_n 1, 1) := by decide +kernel
theorem dL_law_97 : decode cL_law 97 = .ok (.aload_n 0, 1) := by decide +kernel
theorem dL_law_98 : decode cL_law 98 = .ok (.iload 4, 2) := by decide +kernel
theorem dL_law_100 : decode cL_law 100 = .ok (.iconst 1, 1) := by decide +kernel
theorem dL_law_101 : decode cL_law 101 = .ok (.iadd, 1) := by decide +kernel
theorem dL_law_102 : decode cL_law 102 = .ok (.iaload, 1) := by decide +kernel
theorem dL_law_103 : decode cL_law 103 = .ok (.aload_n 0, 1) := by decide +kernel
theorem dL_law_104 : decode cL_law 104 = .ok (.iload 4, 2) := by decide +kernel
theorem dL_law_106 : decode cL_law 106 = .ok (.iconst 2, 1) := by decide +kernel
theorem dL_law_107 : decode cL_law 107 = .ok (.iadd, 1) := by decide +kernel
theorem dL_law_108 : decode cL_law 108 = .ok (.iaload, 1) := by decide +kernel
theorem dL_law_109 : decode cL_law 109 = .ok (.invokevirtual 19, 3) := by decide +kernel
theorem dL_law_112 : decode cL_law 112 = .ok (.aload_n 2, 1) := by decide +kernel
theorem dL_law_113 : decode cL_law 113 = .ok (.aload_n 0, 1) := by decide +kernel
theorem dL_law_114 : decode cL_law 114 = .ok (.iload 4, 2) := by decide +kernel
theorem dL_law_116 : decode cL_law 116 = .ok (.iconst 1, 1) := by decide +kernel
theorem dL_law_117 : decode cL_law 117 = .ok (.iadd, 1) := by decide +kernel
theorem dL_law_118 : decode cL_law 118 = .ok (.iaload, 1) := by decide +kernel
theorem dL_law_119 : decode cL_law 119 = .ok (.aload_n 0, 1) := by decide +kernel
theorem dL_law_120 : decode cL_law 120 = .ok (.iload 4, 2) := by decide +kernel
theorem dL_law_122 : decode cL_law 122 = .ok (.iconst 2, 1) := by decide +kernel
theorem dL_law_123 : decode cL_law 123 = .ok (.iadd, 1) := by decide +kernel
theorem dL_law_124 : decode cL_law 124 = .ok (.iaload, 1) := by decide +kernel
theorem dL_law_125 : decode cL_law 125 = .ok (.invokevirtual 23, 3) := by decide +kernel
theorem dL_law_128 : decode cL_law 128 = .ok (.if_icmp .eq 334, 3) := by decide +kernel
theorem dL_law_131 : decode cL_law 131 = .ok (.iconst 0, 1) := by decide +kernel
theorem dL_law_132 : decode cL_law 132 = .ok (.ireturn, 1) := by decide +kernel
theorem dL_law_133 : decode cL_law 133 = .ok (.aload_n 1, 1) := by decide +kernel
theorem dL_law_134 : decode cL_law 134 = .ok (.aload_n 0, 1) := by decide +kernel
theorem dL_law_135 : decode cL_law 135 = .ok (.iload 4, 2) := by decide +kernel
theorem dL_law_137 : decode cL_law 137 = .ok (.iconst 1, 1) := by decide +kernel
theorem dL_law_138 : decode cL_law 138 = .ok (.iadd, 1) := by decide +kernel
theorem dL_law_139 : decode cL_law 139 = .ok (.iaload, 1) := by decide +kernel
theorem dL_law_140 : decode cL_law 140 = .ok (.aload_n 0, 1) := by decide +kernel
theorem dL_law_141 : decode cL_law 141 = .ok (.iload 4, 2) := by decide +kernel
theorem dL_law_143 : decode cL_law 143 = .ok (.iconst 2, 1) := by decide +kernel
theorem dL_law_144 : decode cL_law 144 = .ok (.iadd, 1) := by decide +kernel
theorem dL_law_145 : decode cL_law 145 = .ok (.iaload, 1) := by decide +kernel
theorem dL_law_146 : decode cL_law 146 = .ok (.aload_n 0, 1) := by decide +kernel
theorem dL_law_147 : decode cL_law 147 = .ok (.iload 4, 2) := by decide +kernel
theorem dL_law_149 : decode cL_law 149 = .ok (.iconst 3, 1) := by decide +kernel
theorem dL_law_150 : decode cL_law 150 = .ok (.iadd, 1) := by decide +kernel
theorem dL_law_151 : decode cL_law 151 = .ok (.iaload, 1) := by decide +kernel
theorem dL_law_152 : decode cL_law 152 = .ok (.invokevirtual 24, 3) := by decide +kernel
theorem dL_law_155 : decode cL_law 155 = .ok (.aload_n 2, 1) := by decide +kernel
theorem dL_law_156 : decode cL_law 156 = .ok (.aload_n 0, 1) := by decide +kernel
theorem dL_law_157 : decode cL_law 157 = .ok (.iload 4, 2) := by decide +kernel
theorem dL_law_159 : decode cL_law 159 = .ok (.iconst 1, 1) := by decide +kernel
theorem dL_law_160 : decode cL_law 160 = .ok (.iadd, 1) := by decide +kernel
theorem dL_law_161 : decode cL_law 161 = .ok (.iaload, 1) := by decide +kernel
theorem dL_law_162 : decode cL_law 162 = .ok (.aload_n 0, 1) := by decide +kernel
theorem dL_law_163 : decode cL_law 163 = .ok (.iload 4, 2) := by decide +kernel
theorem dL_law_165 : decode cL_law 165 = .ok (.iconst 2, 1) := by decide +kernel
theorem dL_law_166 : decode cL_law 166 = .ok (.iadd, 1) := by decide +kernel
theorem dL_law_167 : decode cL_law 167 = .ok (.iaload, 1) := by decide +kernel
theorem dL_law_168 : decode cL_law 168 = .ok (.aload_n 0, 1) := by decide +kernel
theorem dL_law_169 : decode cL_law 169 = .ok (.iload 4, 2) := by decide +kernel
theorem dL_law_171 : decode cL_law 171 = .ok (.iconst 3, 1) := by decide +kernel
theorem dL_law_172 : decode cL_law 172 = .ok (.iadd, 1) := by decide +kernel
theorem dL_law_173 : decode cL_law 173 = .ok (.iaload, 1) := by decide +kernel
theorem dL_law_174 : decode cL_law 174 = .ok (.invokevirtual 28, 3) := by decide +kernel
theorem dL_law_177 : decode cL_law 177 = .ok (.if_icmp .eq 285, 3) := by decide +kernel
theorem dL_law_180 : decode cL_law 180 = .ok (.iconst 0, 1) := by decide +kernel
theorem dL_law_181 : decode cL_law 181 = .ok (.ireturn, 1) := by decide +kernel
theorem dL_law_182 : decode cL_law 182 = .ok (.aload_n 1, 1) := by decide +kernel
theorem dL_law_183 : decode cL_law 183 = .ok (.aload_n 0, 1) := by decide +kernel
theorem dL_law_184 : decode cL_law 184 = .ok (.iload 4, 2) := by decide +kernel
theorem dL_law_186 : decode cL_law 186 = .ok (.iconst 1, 1) := by decide +kernel
theorem dL_law_187 : decode cL_law 187 = .ok (.iadd, 1) := by decide +kernel
theorem dL_law_188 : decode cL_law 188 = .ok (.iaload, 1) := by decide +kernel
theorem dL_law_189 : decode cL_law 189 = .ok (.aload_n 0, 1) := by decide +kernel
theorem dL_law_190 : decode cL_law 190 = .ok (.iload 4, 2) := by decide +kernel
theorem dL_law_192 : decode cL_law 192 = .ok (.iconst 2, 1) := by decide +kernel
theorem dL_law_193 : decode cL_law 193 = .ok (.iadd, 1) := by decide +kernel
theorem dL_law_194 : decode cL_law 194 = .ok (.iaload, 1) := by decide +kernel
theorem dL_law_195 : decode cL_law 195 = .ok (.aload_n 0, 1) := by decide +kernel
theorem dL_law_196 : decode cL_law 196 = .ok (.iload 4, 2) := by decide +kernel
theorem dL_law_198 : decode cL_law 198 = .ok (.iconst 3, 1) := by decide +kernel
theorem dL_law_199 : decode cL_law 199 = .ok (.iadd, 1) := by decide +kernel
theorem dL_law_200 : decode cL_law 200 = .ok (.iaload, 1) := by decide +kernel
theorem dL_law_201 : decode cL_law 201 = .ok (.invokevirtual 29, 3) := by decide +kernel
theorem dL_law_204 : decode cL_law 204 = .ok (.aload_n 2, 1) := by decide +kernel
theorem dL_law_205 : decode cL_law 205 = .ok (.aload_n 0, 1) := by decide +kernel
theorem dL_law_206 : decode cL_law 206 = .ok (.iload 4, 2) := by decide +kernel
theorem dL_law_208 : decode cL_law 208 = .ok (.iconst 1, 1) := by decide +kernel
theorem dL_law_209 : decode cL_law 209 = .ok (.iadd, 1) := by decide +kernel
theorem dL_law_210 : decode cL_law 210 = .ok (.iaload, 1) := by decide +kernel
theorem dL_law_211 : decode cL_law 211 = .ok (.aload_n 0, 1) := by decide +kernel
theorem dL_law_212 : decode cL_law 212 = .ok (.iload 4, 2) := by decide +kernel
theorem dL_law_214 : decode cL_law 214 = .ok (.iconst 2, 1) := by decide +kernel
theorem dL_law_215 : decode cL_law 215 = .ok (.iadd, 1) := by decide +kernel
theorem dL_law_216 : decode cL_law 216 = .ok (.iaload, 1) := by decide +kernel
theorem dL_law_217 : decode cL_law 217 = .ok (.aload_n 0, 1) := by decide +kernel
theorem dL_law_218 : decode cL_law 218 = .ok (.iload 4, 2) := by decide +kernel
theorem dL_law_220 : decode cL_law 220 = .ok (.iconst 3, 1) := by decide +kernel
theorem dL_law_221 : decode cL_law 221 = .ok (.iadd, 1) := by decide +kernel
theorem dL_law_222 : decode cL_law 222 = .ok (.iaload, 1) := by decide +kernel
theorem dL_law_223 : decode cL_law 223 = .ok (.invokevirtual 32, 3) := by decide +kernel
theorem dL_law_226 : decode cL_law 226 = .ok (.if_icmp .eq 236, 3) := by decide +kernel
theorem dL_law_229 : decode cL_law 229 = .ok (.iconst 0, 1) := by decide +kernel
theorem dL_law_230 : decode cL_law 230 = .ok (.ireturn, 1) := by decide +kernel
theorem dL_law_231 : decode cL_law 231 = .ok (.aload_n 1, 1) := by decide +kernel
theorem dL_law_232 : decode cL_law 232 = .ok (.aload_n 0, 1) := by decide +kernel
theorem dL_law_233 : decode cL_law 233 = .ok (.iload 4, 2) := by decide +kernel
theorem dL_law_235 : decode cL_law 235 = .ok (.iconst 1, 1) := by decide +kernel
theorem dL_law_236 : decode cL_law 236 = .ok (.iadd, 1) := by decide +kernel
theorem dL_law_237 : decode cL_law 237 = .ok (.iaload, 1) := by decide +kernel
theorem dL_law_238 : decode cL_law 238 = .ok (.invokevirtual 33, 3) := by decide +kernel
theorem dL_law_241 : decode cL_law 241 = .ok (.aload_n 2, 1) := by decide +kernel
theorem dL_law_242 : decode cL_law 242 = .ok (.aload_n 0, 1) := by decide +kernel
theorem dL_law_243 : decode cL_law 243 = .ok (.iload 4, 2) := by decide +kernel
theorem dL_law_245 : decode cL_law 245 = .ok (.iconst 1, 1) := by decide +kernel
theorem dL_law_246 : decode cL_law 246 = .ok (.iadd, 1) := by decide +kernel
theorem dL_law_247 : decode cL_law 247 = .ok (.iaload, 1) := by decide +kernel
theorem dL_law_248 : decode cL_law 248 = .ok (.invokevirtual 37, 3) := by decide +kernel
theorem dL_law_251 : decode cL_law 251 = .ok (.if_icmp .eq 211, 3) := by decide +kernel
theorem dL_law_254 : decode cL_law 254 = .ok (.iconst 0, 1) := by decide +kernel
theorem dL_law_255 : decode cL_law 255 = .ok (.ireturn, 1) := by decide +kernel
theorem dL_law_256 : decode cL_law 256 = .ok (.aload_n 1, 1) := by decide +kernel
theorem dL_law_257 : decode cL_law 257 = .ok (.invokevirtual 38, 3) := by decide +kernel
theorem dL_law_260 : decode cL_law 260 = .ok (.aload_n 2, 1) := by decide +kernel
theorem dL_law_261 : decode cL_law 261 = .ok (.invokevirtual 42, 3) := by decide +kernel
theorem dL_law_264 : decode cL_law 264 = .ok (.if_icmp .eq 198, 3) := by decide +kernel
theorem dL_law_267 : decode cL_law 267 = .ok (.iconst 0, 1) := by decide +kernel
theorem dL_law_268 : decode cL_law 268 = .ok (.ireturn, 1) := by decide +kernel
theorem dL_law_269 : decode cL_law 269 = .ok (.aload_n 1, 1) := by decide +kernel
theorem dL_law_270 : decode cL_law 270 = .ok (.aload_n 0, 1) := by decide +kernel
theorem dL_law_271 : decode cL_law 271 = .ok (.iload 4, 2) := by decide +kernel
theorem dL_law_273 : decode cL_law 273 = .ok (.iconst 1, 1) := by decide +kernel
theorem dL_law_274 : decode cL_law 274 = .ok (.iadd, 1) := by decide +kernel
theorem dL_law_275 : decode cL_law 275 = .ok (.iaload, 1) := by decide +kernel
theorem dL_law_276 : decode cL_law 276 = .ok (.invokevirtual 43, 3) := by decide +kernel
theorem dL_law_279 : decode cL_law 279 = .ok (.aload_n 2, 1) := by decide +kernel
theorem dL_law_280 : decode cL_law 280 = .ok (.aload_n 0, 1) := by decide +kernel
theorem dL_law_281 : decode cL_law 281 = .ok (.iload 4, 2) := by decide +kernel
theorem dL_law_283 : decode cL_law 283 = .ok (.iconst 1, 1) := by decide +kernel
theorem dL_law_284 : decode cL_law 284 = .ok (.iadd, 1) := by decide +kernel
theorem dL_law_285 : decode cL_law 285 = .ok (.iaload, 1) := by decide +kernel
theorem dL_law_286 : decode cL_law 286 = .ok (.invokevirtual 47, 3) := by decide +kernel
theorem dL_law_289 : decode cL_law 289 = .ok (.if_icmp .eq 173, 3) := by decide +kernel
theorem dL_law_292 : decode cL_law 292 = .ok (.iconst 0, 1) := by decide +kernel
theorem dL_law_293 : decode cL_law 293 = .ok (.ireturn, 1) := by decide +kernel
theorem dL_law_294 : decode cL_law 294 = .ok (.aload_n 1, 1) := by decide +kernel
theorem dL_law_295 : decode cL_law 295 = .ok (.aload_n 0, 1) := by decide +kernel
theorem dL_law_296 : decode cL_law 296 = .ok (.iload 4, 2) := by decide +kernel
theorem dL_law_298 : decode cL_law 298 = .ok (.iconst 1, 1) := by decide +kernel
theorem dL_law_299 : decode cL_law 299 = .ok (.iadd, 1) := by decide +kernel
theorem dL_law_300 : decode cL_law 300 = .ok (.iaload, 1) := by decide +kernel
theorem dL_law_301 : decode cL_law 301 = .ok (.invokevirtual 48, 3) := by decide +kernel
theorem dL_law_304 : decode cL_law 304 = .ok (.aload_n 2, 1) := by decide +kernel
theorem dL_law_305 : decode cL_law 305 = .ok (.aload_n 0, 1) := by decide +kernel
theorem dL_law_306 : decode cL_law 306 = .ok (.iload 4, 2) := by decide +kernel
theorem dL_law_308 : decode cL_law 308 = .ok (.iconst 1, 1) := by decide +kernel
theorem dL_law_309 : decode cL_law 309 = .ok (.iadd, 1) := by decide +kernel
theorem dL_law_310 : decode cL_law 310 = .ok (.iaload, 1) := by decide +kernel
theorem dL_law_311 : decode cL_law 311 = .ok (.invokevirtual 51, 3) := by decide +kernel
theorem dL_law_314 : decode cL_law 314 = .ok (.if_icmp .eq 148, 3) := by decide +kernel
theorem dL_law_317 : decode cL_law 317 = .ok (.iconst 0, 1) := by decide +kernel
theorem dL_law_318 : decode cL_law 318 = .ok (.ireturn, 1) := by decide +kernel
theorem dL_law_319 : decode cL_law 319 = .ok (.aload_n 1, 1) := by decide +kernel
theorem dL_law_320 : decode cL_law 320 = .ok (.aload_n 0, 1) := by decide +kernel
theorem dL_law_321 : decode cL_law 321 = .ok (.iload 4, 2) := by decide +kernel
theorem dL_law_323 : decode cL_law 323 = .ok (.iconst 1, 1) := by decide +kernel
theorem dL_law_324 : decode cL_law 324 = .ok (.iadd, 1) := by decide +kernel
theorem dL_law_325 : decode cL_law 325 = .ok (.iaload, 1) := by decide +kernel
theorem dL_law_326 : decode cL_law 326 = .ok (.aload_n 0, 1) := by decide +kernel
theorem dL_law_327 : decode cL_law 327 = .ok (.iload 4, 2) := by decide +kernel
theorem dL_law_329 : decode cL_law 329 = .ok (.iconst 2, 1) := by decide +kernel
theorem dL_law_330 : decode cL_law 330 = .ok (.iadd, 1) := by decide +kernel
theorem dL_law_331 : decode cL_law 331 = .ok (.iaload, 1) := by decide +kernel
theorem dL_law_332 : decode cL_law 332 = .ok (.invokevirtual 52, 3) := by decide +kernel
theorem dL_law_335 : decode cL_law 335 = .ok (.aload_n 2, 1) := by decide +kernel
theorem dL_law_336 : decode cL_law 336 = .ok (.aload_n 0, 1) := by decide +kernel
theorem dL_law_337 : decode cL_law 337 = .ok (.iload 4, 2) := by decide +kernel
theorem dL_law_339 : decode cL_law 339 = .ok (.iconst 1, 1) := by decide +kernel
theorem dL_law_340 : decode cL_law 340 = .ok (.iadd, 1) := by decide +kernel
theorem dL_law_341 : decode cL_law 341 = .ok (.iaload, 1) := by decide +kernel
theorem dL_law_342 : decode cL_law 342 = .ok (.aload_n 0, 1) := by decide +kernel
theorem dL_law_343 : decode cL_law 343 = .ok (.iload 4, 2) := by decide +kernel
theorem dL_law_345 : decode cL_law 345 = .ok (.iconst 2, 1) := by decide +kernel
theorem dL_law_346 : decode cL_law 346 = .ok (.iadd, 1) := by decide +kernel
theorem dL_law_347 : decode cL_law 347 = .ok (.iaload, 1) := by decide +kernel
theorem dL_law_348 : decode cL_law 348 = .ok (.invokevirtual 55, 3) := by decide +kernel
theorem dL_law_351 : decode cL_law 351 = .ok (.if_icmp .eq 111, 3) := by decide +kernel
theorem dL_law_354 : decode cL_law 354 = .ok (.iconst 0, 1) := by decide +kernel
theorem dL_law_355 : decode cL_law 355 = .ok (.ireturn, 1) := by decide +kernel
theorem dL_law_356 : decode cL_law 356 = .ok (.aload_n 1, 1) := by decide +kernel
theorem dL_law_357 : decode cL_law 357 = .ok (.aload_n 0, 1) := by decide +kernel
theorem dL_law_358 : decode cL_law 358 = .ok (.iload 4, 2) := by decide +kernel
theorem dL_law_360 : decode cL_law 360 = .ok (.iconst 1, 1) := by decide +kernel
theorem dL_law_361 : decode cL_law 361 = .ok (.iadd, 1) := by decide +kernel
theorem dL_law_362 : decode cL_law 362 = .ok (.iaload, 1) := by decide +kernel
theorem dL_law_363 : decode cL_law 363 = .ok (.aload_n 0, 1) := by decide +kernel
theorem dL_law_364 : decode cL_law 364 = .ok (.iload 4, 2) := by decide +kernel
theorem dL_law_366 : decode cL_law 366 = .ok (.iconst 2, 1) := by decide +kernel
theorem dL_law_367 : decode cL_law 367 = .ok (.iadd, 1) := by decide +kernel
theorem dL_law_368 : decode cL_law 368 = .ok (.iaload, 1) := by decide +kernel
theorem dL_law_369 : decode cL_law 369 = .ok (.aload_n 3, 1) := by decide +kernel
theorem dL_law_370 : decode cL_law 370 = .ok (.invokestatic 56, 3) := by decide +kernel
theorem dL_law_373 : decode cL_law 373 = .ok (.istore 5, 2) := by decide +kernel
theorem dL_law_375 : decode cL_law 375 = .ok (.aload_n 2, 1) := by decide +kernel
theorem dL_law_376 : decode cL_law 376 = .ok (.aload_n 0, 1) := by decide +kernel
theorem dL_law_377 : decode cL_law 377 = .ok (.iload 4, 2) := by decide +kernel
theorem dL_law_379 : decode cL_law 379 = .ok (.iconst 1, 1) := by decide +kernel
theorem dL_law_380 : decode cL_law 380 = .ok (.iadd, 1) := by decide +kernel
theorem dL_law_381 : decode cL_law 381 = .ok (.iaload, 1) := by decide +kernel
theorem dL_law_382 : decode cL_law 382 = .ok (.aload_n 0, 1) := by decide +kernel
theorem dL_law_383 : decode cL_law 383 = .ok (.iload 4, 2) := by decide +kernel
theorem dL_law_385 : decode cL_law 385 = .ok (.iconst 2, 1) := by decide +kernel
theorem dL_law_386 : decode cL_law 386 = .ok (.iadd, 1) := by decide +kernel
theorem dL_law_387 : decode cL_law 387 = .ok (.iaload, 1) := by decide +kernel
theorem dL_law_388 : decode cL_law 388 = .ok (.invokevirtual 61, 3) := by decide +kernel
theorem dL_law_391 : decode cL_law 391 = .ok (.istore 6, 2) := by decide +kernel
theorem dL_law_393 : decode cL_law 393 = .ok (.aload_n 2, 1) := by decide +kernel
theorem dL_law_394 : decode cL_law 394 = .ok (.invokevirtual 62, 3) := by decide +kernel
theorem dL_law_397 : decode cL_law 397 = .ok (.iload 5, 2) := by decide +kernel
theorem dL_law_399 : decode cL_law 399 = .ok (.if_icmp .eq 5, 3) := by decide +kernel
theorem dL_law_402 : decode cL_law 402 = .ok (.iconst 0, 1) := by decide +kernel
theorem dL_law_403 : decode cL_law 403 = .ok (.ireturn, 1) := by decide +kernel
theorem dL_law_404 : decode cL_law 404 = .ok (.iload 5, 2) := by decide +kernel
theorem dL_law_406 : decode cL_law 406 = .ok (.ifCond .ne 15, 3) := by decide +kernel
theorem dL_law_409 : decode cL_law 409 = .ok (.aload_n 3, 1) := by decide +kernel
theorem dL_law_410 : decode cL_law 410 = .ok (.iconst 0, 1) := by decide +kernel
theorem dL_law_411 : decode cL_law 411 = .ok (.laload, 1) := by decide +kernel
theorem dL_law_412 : decode cL_law 412 = .ok (.iload 6, 2) := by decide +kernel
theorem dL_law_414 : decode cL_law 414 = .ok (.i2l, 1) := by decide +kernel
theorem dL_law_415 : decode cL_law 415 = .ok (.lcmp, 1) := by decide +kernel
theorem dL_law_416 : decode cL_law 416 = .ok (.ifCond .eq 5, 3) := by decide +kernel
theorem dL_law_419 : decode cL_law 419 = .ok (.iconst 0, 1) := by decide +kernel
theorem dL_law_420 : decode cL_law 420 = .ok (.ireturn, 1) := by decide +kernel
theorem dL_law_421 : decode cL_law 421 = .ok (.goto 41, 3) := by decide +kernel
theorem dL_law_424 : decode cL_law 424 = .ok (.aload_n 1, 1) := by decide +kernel
theorem dL_law_425 : decode cL_law 425 = .ok (.aload_n 0, 1) := by decide +kernel
theorem dL_law_426 : decode cL_law 426 = .ok (.iload 4, 2) := by decide +kernel
theorem dL_law_428 : decode cL_law 428 = .ok (.iconst 1, 1) := by decide +kernel
theorem dL_law_429 : decode cL_law 429 = .ok (.iadd, 1) := by decide +kernel
theorem dL_law_430 : decode cL_law 430 = .ok (.iaload, 1) := by decide +kernel
theorem dL_law_431 : decode cL_law 431 = .ok (.invokevirtual 65, 3) := by decide +kernel
theorem dL_law_434 : decode cL_law 434 = .ok (.aload_n 2, 1) := by decide +kernel
theorem dL_law_435 : decode cL_law 435 = .ok (.aload_n 0, 1) := by decide +kernel
theorem dL_law_436 : decode cL_law 436 = .ok (.iload 4, 2) := by decide +kernel
theorem dL_law_438 : decode cL_law 438 = .ok (.iconst 1, 1) := by decide +kernel
theorem dL_law_439 : decode cL_law 439 = .ok (.iadd, 1) := by decide +kernel
theorem dL_law_440 : decode cL_law 440 = .ok (.iaload, 1) := by decide +kernel
theorem dL_law_441 : decode cL_law 441 = .ok (.invokevirtual 68, 3) := by decide +kernel
theorem dL_law_444 : decode cL_law 444 = .ok (.if_icmp .eq 18, 3) := by decide +kernel
theorem dL_law_447 : decode cL_law 447 = .ok (.iconst 0, 1) := by decide +kernel
theorem dL_law_448 : decode cL_law 448 = .ok (.ireturn, 1) := by decide +kernel
theorem dL_law_449 : decode cL_law 449 = .ok (.aload_n 1, 1) := by decide +kernel
theorem dL_law_450 : decode cL_law 450 = .ok (.invokevirtual 69, 3) := by decide +kernel
theorem dL_law_453 : decode cL_law 453 = .ok (.aload_n 2, 1) := by decide +kernel
theorem dL_law_454 : decode cL_law 454 = .ok (.invokevirtual 72, 3) := by decide +kernel
theorem dL_law_457 : decode cL_law 457 = .ok (.if_icmp .eq 5, 3) := by decide +kernel
theorem dL_law_460 : decode cL_law 460 = .ok (.iconst 0, 1) := by decide +kernel
theorem dL_law_461 : decode cL_law 461 = .ok (.ireturn, 1) := by decide +kernel
theorem dL_law_462 : decode cL_law 462 = .ok (.iinc 4 4, 3) := by decide +kernel
theorem dL_law_465 : decode cL_law 465 = .ok (.goto (-442), 3) := by decide +kernel
theorem dL_law_468 : decode cL_law 468 = .ok (.iconst 1, 1) := by decide +kernel
theorem dL_law_469 : decode cL_law 469 = .ok (.ireturn, 1) := by decide +kernel
abbrev vwCl : List vw_C := [(RX0, TX0, 11), (RX1, TX1, 10)]
