theorem dX8_determinant_72 : decode cX8_determinant 72 = .ok (.lmul, 1) := by decide +kernel
theorem dX8_determinant_73 : decode cX8_determinant 73 = .ok (.aload_n 0, 1) := by decide +kernel
theorem dX8_determinant_74 : decode cX8_determinant 74 = .ok (.getfield 44, 3) := by decide +kernel
theorem dX8_determinant_77 : decode cX8_determinant 77 = .ok (.iconst 5, 1) := by decide +kernel
theorem dX8_determinant_78 : decode cX8_determinant 78 = .ok (.iload 5, 2) := by decide +kernel
theorem dX8_determinant_80 : decode cX8_determinant 80 = .ok (.imul, 1) := by decide +kernel
theorem dX8_determinant_81 : decode cX8_determinant 81 = .ok (.iload 4, 2) := by decide +kernel
theorem dX8_determinant_83 : decode cX8_determinant 83 = .ok (.iadd, 1) := by decide +kernel
theorem dX8_determinant_84 : decode cX8_determinant 84 = .ok (.laload, 1) := by decide +kernel
theorem dX8_determinant_85 : decode cX8_determinant 85 = .ok (.aload_n 0, 1) := by decide +kernel
theorem dX8_determinant_86 : decode cX8_determinant 86 = .ok (.getfield 44, 3) := by decide +kernel
theorem dX8_determinant_89 : decode cX8_determinant 89 = .ok (.iconst 5, 1) := by decide +kernel
theorem dX8_determinant_90 : decode cX8_determinant 90 = .ok (.iload 4, 2) := by decide +kernel
theorem dX8_determinant_92 : decode cX8_determinant 92 = .ok (.imul, 1) := by decide +kernel
theorem dX8_determinant_93 : decode cX8_determinant 93 = .ok (.iload 6, 2) := by decide +kernel
theorem dX8_determinant_95 : decode cX8_determinant 95 = .ok (.iadd, 1) := by decide +kernel
theorem dX8_determinant_96 : decode cX8_determinant 96 = .ok (.laload, 1) := by decide +kernel
theorem dX8_determinant_97 : decode cX8_determinant 97 = .ok (.lmul, 1) := by decide +kernel
theorem dX8_determinant_98 : decode cX8_determinant 98 = .ok (.lsub, 1) := by decide +kernel
theorem dX8_determinant_99 : decode cX8_determinant 99 = .ok (.lload_n 2, 1) := by decide +kernel
theorem dX8_determinant_100 : decode cX8_determinant 100 = .ok (.ldiv, 1) := by decide +kernel
theorem dX8_determinant_101 : decode cX8_determinant 101 = .ok (.lastore, 1) := by decide +kernel
theorem dX8_determinant_102 : decode cX8_determinant 102 = .ok (.iinc 6 1, 3) := by decide +kernel
theorem dX8_determinant_105 : decode cX8_determinant 105 = .ok (.goto (-74), 3) := by decide +kernel
theorem dX8_determinant_108 : decode cX8_determinant 108 = .ok (.iinc 5 1, 3) := by decide +kernel
theorem dX8_determinant_111 : decode cX8_determinant 111 = .ok (.goto (-92), 3) := by decide +kernel
theorem dX8_determinant_114 : decode cX8_determinant 114 = .ok (.aload_n 0, 1) := by decide +kernel
theorem dX8_determinant_115 : decode cX8_determinant 115 = .ok (.getfield 44, 3) := by decide +kernel
theorem dX8_determinant_118 : decode cX8_determinant 118 = .ok (.iconst 5, 1) := by decide +kernel
theorem dX8_determinant_119 : decode cX8_determinant 119 = .ok (.iload 4, 2) := by decide +kernel
theorem dX8_determinant_121 : decode cX8_determinant 121 = .ok (.imul, 1) := by decide +kernel
theorem dX8_determinant_122 : decode cX8_determinant 122 = .ok (.iload 4, 2) := by decide +kernel
theorem dX8_determinant_124 : decode cX8_determinant 124 = .ok (.iadd, 1) := by decide +kernel
theorem dX8_determinant_125 : decode cX8_determinant 125 = .ok (.laload, 1) := by decide +kernel
theorem dX8_determinant_126 : decode cX8_determinant 126 = .ok (.lstore_n 2, 1) := by decide +kernel
theorem dX8_determinant_127 : decode cX8_determinant 127 = .ok (.iinc 4 1, 3) := by decide +kernel
theorem dX8_determinant_130 : decode cX8_determinant 130 = .ok (.goto (-125), 3) := by decide +kernel
theorem dX8_determinant_133 : decode cX8_determinant 133 = .ok (.aload_n 0, 1) := by decide +kernel
theorem dX8_determinant_134 : decode cX8_determinant 134 = .ok (.getfield 44, 3) := by decide +kernel
theorem dX8_determinant_137 : decode cX8_determinant 137 = .ok (.iconst 5, 1) := by decide +kernel
theorem dX8_determinant_138 : decode cX8_determinant 138 = .ok (.iload_n 1, 1) := by decide +kernel
theorem dX8_determinant_139 : decode cX8_determinant 139 = .ok (.iconst 1, 1) := by decide +kernel
theorem dX8_determinant_140 : decode cX8_determinant 140 = .ok (.isub, 1) := by decide +kernel
theorem dX8_determinant_141 : decode cX8_determinant 141 = .ok (.imul, 1) := by decide +kernel
theorem dX8_determinant_142 : decode cX8_determinant 142 = .ok (.iload_n 1, 1) := by decide +kernel
theorem dX8_determinant_143 : decode cX8_determinant 143 = .ok (.iadd, 1) := by decide +kernel
theorem dX8_determinant_144 : decode cX8_determinant 144 = .ok (.iconst 1, 1) := by decide +kernel
theorem dX8_determinant_145 : decode cX8_determinant 145 = .ok (.isub, 1) := by decide +kernel
theorem dX8_determinant_146 : decode cX8_determinant 146 = .ok (.laload, 1) := by decide +kernel
theorem dX8_determinant_147 : decode cX8_determinant 147 = .ok (.lreturn, 1) := by decide +kernel
set_option maxRecDepth 20000 in
theorem ggX8_grows_X8_out : GoodIn wsX8_grows wsX8_out := goodIn_r _ [9, 1, 3, 14, 15, 16, 17, 18, 19, 20, 21, 22, 23, 24, 25, 26, 27, 28, 29, 30, 31, 32, 33, 34, 35, 36, 37, 38, 39] (by decide +kernel) (by decide +kernel)
set_option maxRecDepth 20000 in
theorem gX8_grows_X8_out : GoodIn wsX8_grows (wsV RX8 146 RX8 yX8_out wsX8_out) := goodIn_app (goodIn_of _ (by decide +kernel)) ggX8_grows_X8_out
set_option maxRecDepth 20000 in
theorem ggX8_grows_X8_determinant : GoodIn wsX8_grows wsX8_determinant := goodIn_r _ [13, 2, 14, 15, 16, 17, 18, 19, 20, 21, 22, 23, 24, 25, 26, 27, 28, 29, 30, 31, 32, 33, 34, 35, 36, 37, 38, 39] (by decide +kernel) (by decide +kernel)
set_option maxRecDepth 20000 in
theorem gX8_grows_X8_determinant : GoodIn wsX8_grows (wsV RX8 176 RX8 yX8_determinant wsX8_determinant) := goodIn_app (goodIn_of _ (by decide +kernel)) ggX8_grows_X8_determinant
theorem dX8_grows_0 : decode cX8_grows 0 = .ok (.iconst 0, 1) := by decide +kernel
theorem dX8_grows_1 : decode cX8_grows 1 = .ok (.istore_n 1, 1) := by decide +kernel
theorem dX8_grows_2 : decode cX8_grows 2 = .ok (.iload_n 1, 1) := by decide +kernel
theorem dX8_grows_3 : decode cX8_grows 3 = .ok (.aload_n 0, 1) := by decide +kernel
theorem dX8_grows_4 : decode cX8_grows 4 = .ok (.getfield 76, 3) := by decide +kernel
theorem dX8_grows_7 : decode cX8_grows 7 = .ok (.if_icmp .ge 121, 3) := by decide +kernel
theorem dX8_grows_10 : decode cX8_grows 10 = .ok (.iconst 0, 1) := by decide +kernel
theorem dX8_grows_11 : decode cX8_grows 11 = .ok (.istore_n 2, 1) := by decide +kernel
theorem dX8_grows_12 : decode cX8_grows 12 = .ok (.iconst 0, 1) := by decide +kernel
theorem dX8_grows_13 : decode cX8_grows 13 = .ok (.istore_n 3, 1) := by decide +kernel
theorem dX8_grows_14 : decode cX8_grows 14 = .ok (.iload_n 3, 1) := by decide +kernel
theorem dX8_grows_15 : decode cX8_grows 15 = .ok (.aload_n 0, 1) := by decide +kernel
theorem dX8_grows_16 : decode cX8_grows 16 = .ok (.getfield 76, 3) := by decide +kernel
theorem dX8_grows_19 : decode cX8_grows 19 = .ok (.if_icmp .ge 87, 3) := by decide +kernel
theorem dX8_grows_22 : decode cX8_grows 22 = .ok (.iload_n 3, 1) := by decide +kernel
theorem dX8_grows_23 : decode cX8_grows 23 = .ok (.iload_n 1, 1) := by decide +kernel
theorem dX8_grows_24 : decode cX8_grows 24 = .ok (.if_icmp .eq 76, 3) := by decide +kernel
theorem dX8_grows_27 : decode cX8_grows 27 = .ok (.iconst 0, 1) := by decide +kernel
theorem dX8_grows_28 : decode cX8_grows 28 = .ok (.istore 4, 2) := by decide +kernel
theorem dX8_grows_30 : decode cX8_grows 30 = .ok (.iconst 0, 1) := by decide +kernel
theorem dX8_grows_31 : decode cX8_grows 31 = .ok (.istore 5, 2) := by decide +kernel
theorem dX8_grows_33 : decode cX8_grows 33 = .ok (.iload 5, 2) := by decide +kernel
theorem dX8_grows_35 : decode cX8_grows 35 = .ok (.aload_n 0, 1) := by decide +kernel
theorem dX8_grows_36 : decode cX8_grows 36 = .ok (.getfield 76, 3) := by decide +kernel
theorem dX8_grows_39 : decode cX8_grows 39 = .ok (.if_icmp .ge 58, 3) := by decide +kernel
theorem dX8_grows_42 : decode cX8_grows 42 = .ok (.iload 5, 2) := by decide +kernel
theorem dX8_grows_44 : decode cX8_grows 44 = .ok (.iload_n 1, 1) := by decide +kernel
theorem dX8_grows_45 : decode cX8_grows 45 = .ok (.if_icmp .eq 46, 3) := by decide +kernel
theorem dX8_grows_48 : decode cX8_grows 48 = .ok (.aload_n 0, 1) := by decide +kernel
theorem dX8_grows_49 : decode cX8_grows 49 = .ok (.getfield 44, 3) := by decide +kernel
theorem dX8_grows_52 : decode cX8_grows 52 = .ok (.iconst 5, 1) := by decide +kernel
theorem dX8_grows_53 : decode cX8_grows 53 = .ok (.iload_n 2, 1) := by decide +kernel
theorem dX8_grows_54 : decode cX8_grows 54 = .ok (.imul, 1) := by decide +kernel
theorem dX8_grows_55 : decode cX8_grows 55 = .ok (.iload 4, 2) := by decide +kernel
theorem dX8_grows_57 : decode cX8_grows 57 = .ok (.iadd, 1) := by decide +kernel
theorem dX8_grows_58 : decode cX8_grows 58 = .ok (.iload_n 3, 1) := by decide +kernel
theorem dX8_grows_59 : decode cX8_grows 59 = .ok (.iload 5, 2) := by decide +kernel
theorem dX8_grows_61 : decode cX8_grows 61 = .ok (.if_icmp .ne 12, 3) := by decide +kernel
theorem dX8_grows_64 : decode cX8_grows 64 = .ok (.aload_n 0, 1) := by decide +kernel
theorem dX8_grows_65 : decode cX8_grows 65 = .ok (.iload_n 3, 1) := by decide +kernel
theorem dX8_grows_66 : decode cX8_grows 66 = .ok (.invokevirtual 146, 3) := by decide +kernel
theorem dX8_grows_69 : decode cX8_grows 69 = .ok (.i2l, 1) := by decide +kernel
theorem dX8_grows_70 : decode cX8_grows 70 = .ok (.goto 17, 3) := by decide +kernel
theorem dX8_grows_73 : decode cX8_grows 73 = .ok (.aload_n 0, 1) := by decide +kernel
theorem dX8_grows_74 : decode cX8_grows 74 = .ok (.getfield 13, 3) := by decide +kernel
theorem dX8_grows_77 : decode cX8_grows 77 = .ok (.bipush 6, 2) := by decide +kernel
theorem dX8_grows_79 : decode cX8_grows 79 = .ok (.iload_n 3, 1) := by decide +kernel
theorem dX8_grows_80 : decode cX8_grows 80 = .ok (.imul, 1) := by decide +kernel
theorem dX8_grows_81 : decode cX8_grows 81 = .ok (.iload 5, 2) := by decide +kernel
theorem dX8_grows_83 : decode cX8_grows 83 = .ok (.iadd, 1) := by decide +kernel
theorem dX8_grows_84 : decode cX8_grows 84 = .ok (.iaload, 1) := by decide +kernel
theorem dX8_grows_85 : decode cX8_grows 85 = .ok (.ineg, 1) := by decide +kernel
theorem dX8_grows_86 : decode cX8_grows 86 = .ok (.i2l, 1) := by decide +kernel
theorem dX8_grows_87 : decode cX8_grows 87 = .ok (.lastore, 1) := by decide +kernel
theorem dX8_grows_88 : decode cX8_grows 88 = .ok (.iinc 4 1, 3) := by decide +kernel
theorem dX8_grows_91 : decode cX8_grows 91 = .ok (.iinc 5 1, 3) := by decide +kernel
theorem dX8_grows_94 : decode cX8_grows 94 = .ok (.goto (-61), 3) := by decide +kernel
theorem dX8_grows_97 : decode cX8_grows 97 = .ok (.iinc 2 1, 3) := by decide +kernel
theorem dX8_grows_100 : decode cX8_grows 100 = .ok (.iinc 3 1, 3) := by decide +kernel
theorem dX8_grows_103 : decode cX8_grows 103 = .ok (.goto (-89), 3) := by decide +kernel
theorem dX8_grows_106 : decode cX8_grows 106 = .ok (.aload_n 0, 1) := by decide +kernel
theorem dX8_grows_107 : decode cX8_grows 107 = .ok (.getfield 40, 3) := by decide +kernel
theorem dX8_grows_110 : decode cX8_grows 110 = .ok (.iload_n 1, 1) := by decide +kernel
theorem dX8_grows_111 : decode cX8_grows 111 = .ok (.aload_n 0, 1) := by decide +kernel
theorem dX8_grows_112 : decode cX8_grows 112 = .ok (.aload_n 0, 1) := by decide +kernel
theorem dX8_grows_113 : decode cX8_grows 113 = .ok (.getfield 76, 3) := by decide +kernel
theorem dX8_grows_116 : decode cX8_grows 116 = .ok (.iconst 1, 1) := by decide +kernel
theorem dX8_grows_117 : decode cX8_grows 117 = .ok (.isub, 1) := by decide +kernel
theorem dX8_grows_118 : decode cX8_grows 118 = .ok (.invokevirtual 176, 3) := by decide +kernel
theorem dX8_grows_121 : decode cX8_grows 121 = .ok (.lastore, 1) := by decide +kernel
theorem dX8_grows_122 : decode cX8_grows 122 = .ok (.iinc 1 1, 3) := by decide +kernel
theorem dX8_grows_125 : decode cX8_grows 125 = .ok (.goto (-123), 3) := by decide +kernel
theorem dX8_grows_128 : decode cX8_grows 128 = .ok (.return_, 1) := by decide +kernel
set_option maxRecDepth 20000 in
theorem ggX8_below_X8_sum : GoodIn wsX8_below wsX8_sum := goodIn_r _ [7, 8, 9, 10, 11, 6, 12, 1, 13, 14, 15, 16, 17, 18, 19, 20, 21, 22, 23, 24, 25, 26, 27, 28, 29, 30, 31, 32, 33, 34, 35, 36, 37, 38, 39] (by decide +kernel) (by decide +kernel)
set_option maxRecDepth 20000 in
theorem gX8_below_X8_sum : GoodIn wsX8_below (wsV RX8 149 RX8 yX8_sum wsX8_sum) := goodIn_app (goodIn_of _ (by decide +kernel)) ggX8_below_X8_sum
theorem dX8_below_0 : decode cX8_below 0 = .ok (.lconst 0, 1) := by decide +kernel
theorem dX8_below_1 : decode cX8_below 1 = .ok (.lstore_n 1, 1) := by decide +kernel
theorem dX8_below_2 : decode cX8_below 2 = .ok (.iconst 0, 1) := by decide +kernel
theorem dX8_below_3 : decode cX8_below 3 = .ok (.istore_n 3, 1) := by decide +kernel
theorem dX8_below_4 : decode cX8_below 4 = .ok (.iload_n 3, 1) := by decide +kernel
theorem dX8_below_5 : decode cX8_below 5 = .ok (.aload_n 0, 1) := by decide +kernel
theorem dX8_below_6 : decode cX8_below 6 = .ok (.getfield 76, 3) := by decide +kernel
theorem dX8_below_9 : decode cX8_below 9 = .ok (.if_icmp .ge 25, 3) := by decide +kernel
theorem dX8_below_12 : decode cX8_below 12 = .ok (.lload_n 1, 1) := by decide +kernel
theorem dX8_below_13 : decode cX8_below 13 = .ok (.aload_n 0, 1) := by decide +kernel
theorem dX8_below_14 : decode cX8_below 14 = .ok (.getfield 40, 3) := by decide +kernel
theorem dX8_below_17 : decode cX8_below 17 = .ok (.iload_n 3, 1) := by decide +kernel
theorem dX8_below_18 : decode cX8_below 18 = .ok (.laload, 1) := by decide +kernel
theorem dX8_below_19 : decode cX8_below 19 = .ok (.aload_n 0, 1) := by decide +kernel
theorem dX8_below_20 : decode cX8_below 20 = .ok (.iload_n 3, 1) := by decide +kernel
theorem dX8_below_21 : decode cX8_below 21 = .ok (.invokevirtual 149, 3) := by decide +kernel
theorem dX8_below_24 : decode cX8_below 24 = .ok (.i2l, 1) := by decide +kernel
theorem dX8_below_25 : decode cX8_below 25 = .ok (.lmul, 1) := by decide +kernel
theorem dX8_below_26 : decode cX8_below 26 = .ok (.ladd, 1) := by decide +kernel
theorem dX8_below_27 : decode cX8_below 27 = .ok (.lstore_n 1, 1) := by decide +kernel
theorem dX8_below_28 : decode cX8_below 28 = .ok (.iinc 3 1, 3) := by decide +kernel
theorem dX8_below_31 : decode cX8_below 31 = .ok (.goto (-27), 3) := by decide +kernel
theorem dX8_below_34 : decode cX8_below 34 = .ok (.lload_n 1, 1) := by decide +kernel
theorem dX8_below_35 : decode cX8_below 35 = .ok (.lreturn, 1) := by decide +kernel
theorem dX8_common_0 : decode cX8_common 0 = .ok (.lload_n 0, 1) := by decide +kernel
theorem dX8_common_1 : decode cX8_common 1 = .ok (.lstore 4, 2) := by decide +kernel
theorem dX8_common_3 : decode cX8_common 3 = .ok (.lload_n 2, 1) := by decide +kernel
theorem dX8_common_4 : decode cX8_common 4 = .ok (.lstore 6, 2) := by decide +kernel
theorem dX8_common_6 : decode cX8_common 6 = .ok (.lload 6, 2) := by decide +kernel
theorem dX8_common_8 : decode cX8_common 8 = .ok (.lconst 0, 1) := by decide +kernel
theorem dX8_common_9 : decode cX8_common 9 = .ok (.lcmp, 1) := by decide +kernel
theorem dX8_common_10 : decode cX8_common 10 = .ok (.ifCond .eq 21, 3) := by decide +kernel
theorem dX8_common_13 : decode cX8_common 13 = .ok (.lload 4, 2) := by decide +kernel
theorem dX8_common_15 : decode cX8_common 15 = .ok (.lload 6, 2) := by decide +kernel
theorem dX8_common_17 : decode cX8_common 17 = .ok (.lrem, 1) := by decide +kernel
theorem dX8_common_18 : decode cX8_common 18 = .ok (.lstore 8, 2) := by decide +kernel
theorem dX8_common_20 : decode cX8_common 20 = .ok (.lload 6, 2) := by decide +kernel
theorem dX8_common_22 : decode cX8_common 22 = .ok (.lstore 4, 2) := by decide +kernel
theorem dX8_common_24 : decode cX8_common 24 = .ok (.lload 8, 2) := by decide +kernel
theorem dX8_common_26 : decode cX8_common 26 = .ok (.lstore 6, 2) := by decide +kernel
theorem dX8_common_28 : decode cX8_common 28 = .ok (.goto (-22), 3) := by decide +kernel
theorem dX8_common_31 : decode cX8_common 31 = .ok (.lload 4, 2) := by decide +kernel
theorem dX8_common_33 : decode cX8_common 33 = .ok (.lreturn, 1) := by decide +kernel
set_option maxRecDepth 20000 in
theorem ggX8_term_X8_common : GoodIn wsX8_term wsX8_common := goodIn_r _ [4] (by decide +kernel) (by decide +kernel)
set_option maxRecDepth 20000 in
theorem gX8_term_X8_common : GoodIn wsX8_term (va_wsS RX8 180 yX8_common wsX8_common) := goodIn_app (goodIn_of _ (by decide +kernel)) ggX8_term_X8_common
theorem dX8_term_0 : decode cX8_term 0 = .ok (.lload_n 0, 1) := by decide +kernel
theorem dX8_term_1 : decode cX8_term 1 = .ok (.lload_n 2, 1) := by decide +kernel
theorem dX8_term_2 : decode cX8_term 2 = .ok (.invokestatic 180, 3) := by decide +kernel
theorem dX8_term_5 : decode cX8_term 5 = .ok (.lstore 5, 2) := by decide +kernel
theorem dX8_term_7 : decode cX8_term 7 = .ok (.iload 4, 2) := by decide +kernel
theorem dX8_term_9 : decode cX8_term 9 = .ok (.ifCond .ne 10, 3) := by decide +kernel
theorem dX8_term_12 : decode cX8_term 12 = .ok (.lload_n 0, 1) := by decide +kernel
theorem dX8_term_13 : decode cX8_term 13 = .ok (.lload 5, 2) := by decide +kernel
theorem dX8_term_15 : decode cX8_term 15 = .ok (.ldiv, 1) := by decide +kernel
theorem dX8_term_16 : decode cX8_term 16 = .ok (.goto 7, 3) := by decide +kernel
theorem dX8_term_19 : decode cX8_term 19 = .ok (.lload_n 2, 1) := by decide +kernel
theorem dX8_term_20 : decode cX8_term 20 = .ok (.lload 5, 2) := by decide +kernel
theorem dX8_term_22 : decode cX8_term 22 = .ok (.ldiv, 1) := by decide +kernel
theorem dX8_term_23 : decode cX8_term 23 = .ok (.lreturn, 1) := by decide +kernel
set_option maxRecDepth 20000 in
theorem ggX8_chance_X8_isCell : GoodIn wsX8_chance wsX8_isCell := goodIn_r _ [7, 8, 9, 10, 6, 11, 41, 42, 43, 44, 45, 46, 47, 48, 49, 50, 51, 52, 53, 54, 55, 56, 57, 58, 59, 60, 61, 62, 63, 64, 65, 66] (by decide +kernel) (by decide +kernel)
set_option maxRecDepth 20000 in
theorem gX8_chance_X8_isCell : GoodIn wsX8_chance (wsV RX8 136 RX8 yX8_isCell wsX8_isCell) := goodIn_app (goodIn_of _ (by decide +kernel)) ggX8_chance_X8_isCell
set_option maxRecDepth 20000 in
theorem ggX8_chance_X8_isIn : GoodIn wsX8_chance wsX8_isIn := goodIn_r _ [11] (by decide +kernel) (by decide +kernel)
set_option maxRecDepth 20000 in
theorem gX8_chance_X8_isIn : GoodIn wsX8_chance (va_wsS RX8 98 yX8_isIn wsX8_isIn) := goodIn_app (goodIn_of _ (by decide +kernel)) ggX8_chance_X8_isIn
set_option maxRecDepth 20000 in
theorem ggX8_chance_X8_grows : GoodIn wsX8_chance wsX8_grows := goodIn_r _ [15, 8, 16, 17, 2, 18, 19, 20, 6, 21, 22, 23, 24, 25, 41, 42, 43, 44, 45, 46, 47, 48, 49, 50, 51, 52, 53, 54, 55, 56, 57, 58, 59, 60, 61, 62, 63, 64, 65, 66] (by decide +kernel) (by decide +kernel)
set_option maxRecDepth 20000 in
theorem gX8_chance_X8_grows : GoodIn wsX8_chance (wsV RX8 186 RX8 yX8_grows wsX8_grows) := goodIn_app (goodIn_of _ (by decide +kernel)) ggX8_chance_X8_grows
set_option maxRecDepth 20000 in
theorem ggX8_chance_X8_sum : GoodIn wsX8_chance wsX8_sum := goodIn_r _ [29, 30, 18, 19, 20, 6, 21, 8, 17, 41, 42, 43, 44, 45, 46, 47, 48, 49, 50, 51, 52, 53, 54, 55, 56, 57, 58, 59, 60, 61, 62, 63, 64, 65, 66] (by decide +kernel) (by decide +kernel)
set_option maxRecDepth 20000 in
theorem gX8_chance_X8_sum : GoodIn wsX8_chance (wsV RX8 149 RX8 yX8_sum wsX8_sum) := goodIn_app (goodIn_of _ (by decide +kernel)) ggX8_chance_X8_sum
set_option maxRecDepth 20000 in
theorem ggX8_chance_X8_below : GoodIn wsX8_chance wsX8_below := goodIn_r _ [34, 8, 2, 26, 27, 28, 6, 29, 30, 18, 19, 20, 21, 17, 41, 42, 43, 44, 45, 46, 47, 48, 49, 50, 51, 52, 53, 54, 55, 56, 57, 58, 59, 60, 61, 62, 63, 64, 65, 66] (by decide +kernel) (by decide +kernel)
set_option maxRecDepth 20000 in
theorem gX8_chance_X8_below : GoodIn wsX8_chance (wsV RX8 189 RX8 yX8_below wsX8_below) := goodIn_app (goodIn_of _ (by decide +kernel)) ggX8_chance_X8_below
set_option maxRecDepth 20000 in
theorem ggX8_chance_X8_term : GoodIn wsX8_chance wsX8_term := goodIn_r _ [37, 38, 39, 6, 40] (by decide +kernel) (by decide +kernel)
set_option maxRecDepth 20000 in
theorem gX8_chance_X8_term : GoodIn wsX8_chance (va_wsS RX8 193 yX8_term wsX8_term) := goodIn_app (goodIn_of _ (by decide +kernel)) ggX8_chance_X8_term
theorem dX8_chance_0 : decode cX8_chance 0 = .ok (.aload_n 0, 1) := by decide +kernel
theorem dX8_chance_1 : decode cX8_chance 1 = .ok (.iload_n 1, 1) := by decide +kernel
theorem dX8_chance_2 : decode cX8_chance 2 = .ok (.invokevirtual 136, 3) := by decide +kernel
theorem dX8_chance_5 : decode cX8_chance 5 = .ok (.ifCond .eq 12, 3) := by decide +kernel
theorem dX8_chance_8 : decode cX8_chance 8 = .ok (.iload_n 2, 1) := by decide +kernel
theorem dX8_chance_9 : decode cX8_chance 9 = .ok (.iconst 0, 1) := by decide +kernel
theorem dX8_chance_10 : decode cX8_chance 10 = .ok (.iconst 1, 1) := by decide +kernel
theorem dX8_chance_11 : decode cX8_chance 11 = .ok (.invokestatic 98, 3) := by decide +kernel
theorem dX8_chance_14 : decode cX8_chance 14 = .ok (.ifCond .ne 7, 3) := by decide +kernel
theorem dX8_chance_17 : decode cX8_chance 17 = .ok (.ldc2_w 184, 3) := by decide +kernel
theorem dX8_chance_20 : decode cX8_chance 20 = .ok (.lreturn, 1) := by decide +kernel
theorem dX8_chance_21 : decode cX8_chance 21 = .ok (.aload_n 0, 1) := by decide +kernel
theorem dX8_chance_22 : decode cX8_chance 22 = .ok (.invokevirtual 186, 3) := by decide +kernel
theorem dX8_chance_25 : decode cX8_chance 25 = .ok (.aload_n 0, 1) := by decide +kernel
theorem dX8_chance_26 : decode cX8_chance 26 = .ok (.getfield 40, 3) := by decide +kernel
theorem dX8_chance_29 : decode cX8_chance 29 = .ok (.iload_n 1, 1) := by decide +kernel
theorem dX8_chance_30 : decode cX8_chance 30 = .ok (.laload, 1) := by decide +kernel
theorem dX8_chance_31 : decode cX8_chance 31 = .ok (.aload_n 0, 1) := by decide +kernel
theorem dX8_chance_32 : decode cX8_chance 32 = .ok (.iload_n 1, 1) := by decide +kernel
theorem dX8_chance_33 : decode cX8_chance 33 = .ok (.invokevirtual 149, 3) := by decide +kernel
theorem dX8_chance_36 : decode cX8_chance 36 = .ok (.i2l, 1) := by decide +kernel
theorem dX8_chance_37 : decode cX8_chance 37 = .ok (.lmul, 1) := by decide +kernel
theorem dX8_chance_38 : decode cX8_chance 38 = .ok (.aload_n 0, 1) := by decide +kernel
theorem dX8_chance_39 : decode cX8_chance 39 = .ok (.invokevirtual 189, 3) := by decide +kernel
theorem dX8_chance_42 : decode cX8_chance 42 = .ok (.iload_n 2, 1) := by decide +kernel
theorem dX8_chance_43 : decode cX8_chance 43 = .ok (.invokestatic 193, 3) := by decide +kernel
theorem dX8_chance_46 : decode cX8_chance 46 = .ok (.lreturn, 1) := by decide +kernel
theorem dX8_crossing_0 : decode cX8_crossing 0 = .ok (.lconst 0, 1) := by decide +kernel
theorem dX8_crossing_1 : decode cX8_crossing 1 = .ok (.lstore 4, 2) := by decide +kernel
theorem dX8_crossing_3 : decode cX8_crossing 3 = .ok (.iconst 0, 1) := by decide +kernel
theorem dX8_crossing_4 : decode cX8_crossing 4 = .ok (.istore 6, 2) := by decide +kernel
theorem dX8_crossing_6 : decode cX8_crossing 6 = .ok (.iload 6, 2) := by decide +kernel
theorem dX8_crossing_8 : decode cX8_crossing 8 = .ok (.aload_n 0, 1) := by decide +kernel
theorem dX8_crossing_9 : decode cX8_crossing 9 = .ok (.getfield 76, 3) := by decide +kernel
theorem dX8_crossing_12 : decode cX8_crossing 12 = .ok (.if_icmp .ge 77, 3) := by decide +kernel
theorem dX8_crossing_15 : decode cX8_crossing 15 = .ok (.iconst 0, 1) := by decide +kernel
theorem dX8_crossing_16 : decode cX8_crossing 16 = .ok (.istore 7, 2) := by decide +kernel
theorem dX8_crossing_18 : decode cX8_crossing 18 = .ok (.iload 7, 2) := by decide +kernel
theorem dX8_crossing_20 : decode cX8_crossing 20 = .ok (.aload_n 0, 1) := by decide +kernel
theorem dX8_crossing_21 : decode cX8_crossing 21 = .ok (.getfield 76, 3) := by decide +kernel
theorem dX8_crossing_24 : decode cX8_crossing 24 = .ok (.if_icmp .ge 59, 3) := by decide +kernel
theorem dX8_crossing_27 : decode cX8_crossing 27 = .ok (.lload 4, 2) := by decide +kernel
theorem dX8_crossing_29 : decode cX8_crossing 29 = .ok (.iload_n 3, 1) := by decide +kernel
theorem dX8_crossing_30 : decode cX8_crossing 30 = .ok (.ifCond .ne 18, 3) := by decide +kernel
theorem dX8_crossing_33 : decode cX8_crossing 33 = .ok (.aload_n 1, 1) := by decide +kernel
theorem dX8_crossing_34 : decode cX8_crossing 34 = .ok (.iload_n 2, 1) := by decide +kernel
theorem dX8_crossing_35 : decode cX8_crossing 35 = .ok (.iload 6, 2) := by decide +kernel
theorem dX8_crossing_37 : decode cX8_crossing 37 = .ok (.iadd, 1) := by decide +kernel
theorem dX8_crossing_38 : decode cX8_crossing 38 = .ok (.iaload, 1) := by decide +kernel
theorem dX8_crossing_39 : decode cX8_crossing 39 = .ok (.aload_n 1, 1) := by decide +kernel
theorem dX8_crossing_40 : decode cX8_crossing 40 = .ok (.iload_n 2, 1) := by decide +kernel
theorem dX8_crossing_41 : decode cX8_crossing 41 = .ok (.iload 7, 2) := by decide +kernel
theorem dX8_crossing_43 : decode cX8_crossing 43 = .ok (.iadd, 1) := by decide +kernel
theorem dX8_crossing_44 : decode cX8_crossing 44 = .ok (.iaload, 1) := by decide +kernel
theorem dX8_crossing_45 : decode cX8_crossing 45 = .ok (.if_icmp .eq 28, 3) := by decide +kernel
theorem dX8_crossing_48 : decode cX8_crossing 48 = .ok (.aload_n 0, 1) := by decide +kernel
theorem dX8_crossing_49 : decode cX8_crossing 49 = .ok (.getfield 40, 3) := by decide +kernel
theorem dX8_crossing_52 : decode cX8_crossing 52 = .ok (.iload 6, 2) := by decide +kernel
theorem dX8_crossing_54 : decode cX8_crossing 54 = .ok (.laload, 1) := by decide +kernel
theorem dX8_crossing_55 : decode cX8_crossing 55 = .ok (.aload_n 0, 1) := by decide +kernel
theorem dX8_crossing_56 : decode cX8_crossing 56 = .ok (.getfield 13, 3) := by decide +kernel
theorem dX8_crossing_59 : decode cX8_crossing 59 = .ok (.bipush 6, 2) := by decide +kernel
theorem dX8_crossing_61 : decode cX8_crossing 61 = .ok (.iload 6, 2) := by decide +kernel
theorem dX8_crossing_63 : decode cX8_crossing 63 = .ok (.imul, 1) := by decide +kernel
theorem dX8_crossing_64 : decode cX8_crossing 64 = .ok (.iload 7, 2) := by decide +kernel
theorem dX8_crossing_66 : decode cX8_crossing 66 = .ok (.iadd, 1) := by decide +kernel
theorem dX8_crossing_67 : decode cX8_crossing 67 = .ok (.iaload, 1) := by decide +kernel
theorem dX8_crossing_68 : decode cX8_crossing 68 = .ok (.i2l, 1) := by decide +kernel
theorem dX8_crossing_69 : decode cX8_crossing 69 = .ok (.lmul, 1) := by decide +kernel
theorem dX8_crossing_70 : decode cX8_crossing 70 = .ok (.goto 4, 3) := by decide +kernel
theorem dX8_crossing_73 : decode cX8_crossing 73 = .ok (.lconst 0, 1) := by decide +kernel
theorem dX8_crossing_74 : decode cX8_crossing 74 = .ok (.ladd, 1) := by decide +kernel
theorem dX8_crossing_75 : decode cX8_crossing 75 = .ok (.lstore 4, 2) := by decide +kernel
theorem dX8_crossing_77 : decode cX8_crossing 77 = .ok (.iinc 7 1, 3) := by decide +kernel
theorem dX8_crossing_80 : decode cX8_crossing 80 = .ok (.goto (-62), 3) := by decide +kernel
theorem dX8_crossing_83 : decode cX8_crossing 83 = .ok (.iinc 6 1, 3) := by decide +kernel
theorem dX8_crossing_86 : decode cX8_crossing 86 = .ok (.goto (-80), 3) := by decide +kernel
theorem dX8_crossing_89 : decode cX8_crossing 89 = .ok (.lload 4, 2) := by decide +kernel
theorem dX8_crossing_91 : decode cX8_crossing 91 = .ok (.lreturn, 1) := by decide +kernel
set_option maxRecDepth 20000 in
theorem ggX8_expense_X8_crossing : GoodIn wsX8_expense wsX8_crossing := goodIn_r _ [9, 3, 4, 10, 20, 21, 22, 23, 24, 25, 26, 27, 28, 29, 30, 31, 32, 33, 34, 35, 36, 37, 38, 39, 40, 41, 42, 43, 44, 45] (by decide +kernel) (by decide +kernel)
set_option maxRecDepth 20000 in
theorem gX8_expense_X8_crossing : GoodIn wsX8_expense (wsV RX8 199 RX8 yX8_crossing wsX8_crossing) := goodIn_app (goodIn_of _ (by decide +kernel)) ggX8_expense_X8_crossing
set_option maxRecDepth 20000 in
theorem ggX8_expense_X8_sum : GoodIn wsX8_expense wsX8_sum := goodIn_r _ [14, 15, 16, 17, 18, 8, 19, 3, 10, 20, 21, 22, 23, 24, 25, 26, 27, 28, 29, 30, 31, 32, 33, 34, 35, 36, 37, 38, 39, 40, 41, 42, 43, 44, 45] (by decide +kernel) (by decide +kernel)
set_option maxRecDepth 20000 in
theorem gX8_expense_X8_sum : GoodIn wsX8_expense (wsV RX8 149 RX8 yX8_sum wsX8_sum) := goodIn_app (goodIn_of _ (by decide +kernel)) ggX8_expense_X8_sum
theorem dX8_expense_0 : decode cX8_expense 0 = .ok (.ldc2_w 197, 3) := by decide +kernel
theorem dX8_expense_3 : decode cX8_expense 3 = .ok (.aload_n 0, 1) := by decide +kernel
theorem dX8_expense_4 : decode cX8_expense 4 = .ok (.getfield 16, 3) := by decide +kernel
theorem dX8_expense_7 : decode cX8_expense 7 = .ok (.iconst 2, 1) := by decide +kernel
theorem dX8_expense_8 : decode cX8_expense 8 = .ok (.iaload, 1) := by decide +kernel
theorem dX8_expense_9 : decode cX8_expense 9 = .ok (.i2l, 1) := by decide +kernel
theorem dX8_expense_10 : decode cX8_expense 10 = .ok (.lmul, 1) := by decide +kernel
theorem dX8_expense_11 : decode cX8_expense 11 = .ok (.aload_n 0, 1) := by decide +kernel
theorem dX8_expense_12 : decode cX8_expense 12 = .ok (.aload_n 1, 1) := by decide +kernel
theorem dX8_expense_13 : decode cX8_expense 13 = .ok (.iload_n 2, 1) := by decide +kernel
theorem dX8_expense_14 : decode cX8_expense 14 = .ok (.iconst 0, 1) := by decide +kernel
theorem dX8_expense_15 : decode cX8_expense 15 = .ok (.invokevirtual 199, 3) := by decide +kernel
theorem dX8_expense_18 : decode cX8_expense 18 = .ok (.lmul, 1) := by decide +kernel
theorem dX8_expense_19 : decode cX8_expense 19 = .ok (.lstore_n 3, 1) := by decide +kernel
theorem dX8_expense_20 : decode cX8_expense 20 = .ok (.iconst 0, 1) := by decide +kernel
theorem dX8_expense_21 : decode cX8_expense 21 = .ok (.istore 5, 2) := by decide +kernel
theorem dX8_expense_23 : decode cX8_expense 23 = .ok (.iload 5, 2) := by decide +kernel
theorem dX8_expense_25 : decode cX8_expense 25 = .ok (.aload_n 0, 1) := by decide +kernel
theorem dX8_expense_26 : decode cX8_expense 26 = .ok (.getfield 76, 3) := by decide +kernel
theorem dX8_expense_29 : decode cX8_expense 29 = .ok (.if_icmp .ge 80, 3) := by decide +kernel
theorem dX8_expense_32 : decode cX8_expense 32 = .ok (.iconst 0, 1) := by decide +kernel
theorem dX8_expense_33 : decode cX8_expense 33 = .ok (.istore 6, 2) := by decide +kernel
theorem dX8_expense_35 : decode cX8_expense 35 = .ok (.iload 6, 2) := by decide +kernel
theorem dX8_expense_37 : decode cX8_expense 37 = .ok (.aload_n 0, 1) := by decide +kernel
theorem dX8_expense_38 : decode cX8_expense 38 = .ok (.getfield 76, 3) := by decide +kernel
theorem dX8_expense_41 : decode cX8_expense 41 = .ok (.if_icmp .ge 62, 3) := by decide +kernel
theorem dX8_expense_44 : decode cX8_expense 44 = .ok (.lload_n 3, 1) := by decide +kernel
theorem dX8_expense_45 : decode cX8_expense 45 = .ok (.aload_n 1, 1) := by decide +kernel
theorem dX8_expense_46 : decode cX8_expense 46 = .ok (.iload_n 2, 1) := by decide +kernel
theorem dX8_expense_47 : decode cX8_expense 47 = .ok (.iload 5, 2) := by decide +kernel
theorem dX8_expense_49 : decode cX8_expense 49 = .ok (.iadd, 1) := by decide +kernel
theorem dX8_expense_50 : decode cX8_expense 50 = .ok (.iaload, 1) := by decide +kernel
theorem dX8_expense_51 : decode cX8_expense 51 = .ok (.aload_n 1, 1) := by decide +kernel
theorem dX8_expense_52 : decode cX8_expense 52 = .ok (.iload_n 2, 1) := by decide +kernel
theorem dX8_expense_53 : decode cX8_expense 53 = .ok (.iload 6, 2) := by decide +kernel
theorem dX8_expense_55 : decode cX8_expense 55 = .ok (.iadd, 1) := by decide +kernel
theorem dX8_expense_56 : decode cX8_expense 56 = .ok (.iaload, 1) := by decide +kernel
theorem dX8_expense_57 : decode cX8_expense 57 = .ok (.if_icmp .ne 37, 3) := by decide +kernel
theorem dX8_expense_60 : decode cX8_expense 60 = .ok (.aload_n 0, 1) := by decide +kernel
theorem dX8_expense_61 : decode cX8_expense 61 = .ok (.getfield 40, 3) := by decide +kernel
theorem dX8_expense_64 : decode cX8_expense 64 = .ok (.iload 5, 2) := by decide +kernel
theorem dX8_expense_66 : decode cX8_expense 66 = .ok (.laload, 1) := by decide +kernel
theorem dX8_expense_67 : decode cX8_expense 67 = .ok (.aload_n 0, 1) := by decide +kernel
theorem dX8_expense_68 : decode cX8_expense 68 = .ok (.iload 5, 2) := by decide +kernel
theorem dX8_expense_70 : decode cX8_expense 70 = .ok (.invokevirtual 149, 3) := by decide +kernel
theorem dX8_expense_73 : decode cX8_expense 73 = .ok (.i2l, 1) := by decide +kernel
theorem dX8_expense_74 : decode cX8_expense 74 = .ok (.lmul, 1) := by decide +kernel
theorem dX8_expense_75 : decode cX8_expense 75 = .ok (.aload_n 0, 1) := by decide +kernel
theorem dX8_expense_76 : decode cX8_expense 76 = .ok (.getfield 16, 3) := by decide +kernel
theorem dX8_expense_79 : decode cX8_expense 79 = .ok (.iconst 1, 1) := by decide +kernel
theorem dX8_expense_80 : decode cX8_expense 80 = .ok (.iaload, 1) := by decide +kernel
theorem dX8_expense_81 : decode cX8_expense 81 = .ok (.i2l, 1) := by decide +kernel
theorem dX8_expense_82 : decode cX8_expense 82 = .ok (.lmul, 1) := by decide +kernel
theorem dX8_expense_83 : decode cX8_expense 83 = .ok (.aload_n 0, 1) := by decide +kernel
theorem dX8_expense_84 : decode cX8_expense 84 = .ok (.getfield 16, 3) := by decide +kernel
theorem dX8_expense_87 : decode cX8_expense 87 = .ok (.iconst 3, 1) := by decide +kernel
theorem dX8_expense_88 : decode cX8_expense 88 = .ok (.iaload, 1) := by decide +kernel
theorem dX8_expense_89 : decode cX8_expense 89 = .ok (.i2l, 1) := by decide +kernel
theorem dX8_expense_90 : decode cX8_expense 90 = .ok (.lmul, 1) := by decide +kernel
theorem dX8_expense_91 : decode cX8_expense 91 = .ok (.goto 4, 3) := by decide +kernel
theorem dX8_expense_94 : decode cX8_expense 94 = .ok (.lconst 0, 1) := by decide +kernel
theorem dX8_expense_95 : decode cX8_expense 95 = .ok (.ladd, 1) := by decide +kernel
theorem dX8_expense_96 : decode cX8_expense 96 = .ok (.lstore_n 3, 1) := by decide +kernel
theorem dX8_expense_97 : decode cX8_expense 97 = .ok (.iinc 6 1, 3) := by decide +kernel
theorem dX8_expense_100 : decode cX8_expense 100 = .ok (.goto (-65), 3) := by decide +kernel
theorem dX8_expense_103 : decode cX8_expense 103 = .ok (.iinc 5 1, 3) := by decide +kernel
theorem dX8_expense_106 : decode cX8_expense 106 = .ok (.goto (-83), 3) := by decide +kernel
theorem dX8_expense_109 : decode cX8_expense 109 = .ok (.lload_n 3, 1) := by decide +kernel
theorem dX8_expense_110 : decode cX8_expense 110 = .ok (.lreturn, 1) := by decide +kernel
set_option maxRecDepth 20000 in
theorem ggX8_mean_X8_isIn : GoodIn wsX8_mean wsX8_isIn := goodIn_r _ [8] (by decide +kernel) (by decide +kernel)
set_option maxRecDepth 20000 in
theorem gX8_mean_X8_isIn : GoodIn wsX8_mean (va_wsS RX8 98 yX8_isIn wsX8_isIn) := goodIn_app (goodIn_of _ (by decide +kernel)) ggX8_mean_X8_isIn
set_option maxRecDepth 20000 in
theorem ggX8_mean_X8_grows : GoodIn wsX8_mean wsX8_grows := goodIn_r _ [12, 13, 14, 15, 16, 17, 18, 19, 7, 20, 21, 22, 23, 24, 48, 49, 50, 51, 52, 53, 54, 55, 56, 57, 58, 59, 60, 61, 62, 63, 64, 65, 66, 67, 68, 69, 70, 71, 72, 73] (by decide +kernel) (by decide +kernel)
set_option maxRecDepth 20000 in
theorem gX8_mean_X8_grows : GoodIn wsX8_mean (wsV RX8 186 RX8 yX8_grows wsX8_grows) := goodIn_app (goodIn_of _ (by decide +kernel)) ggX8_mean_X8_grows
set_option maxRecDepth 20000 in
theorem ggX8_mean_X8_below : GoodIn wsX8_mean wsX8_below := goodIn_r _ [28, 13, 16, 29, 30, 31, 7, 32, 2, 17, 18, 19, 20, 15, 48, 49, 50, 51, 52, 53, 54, 55, 56, 57, 58, 59, 60, 61, 62, 63, 64, 65, 66, 67, 68, 69, 70, 71, 72, 73] (by decide +kernel) (by decide +kernel)
set_option maxRecDepth 20000 in
theorem gX8_mean_X8_below : GoodIn wsX8_mean (wsV RX8 189 RX8 yX8_below wsX8_below) := goodIn_app (goodIn_of _ (by decide +kernel)) ggX8_mean_X8_below
set_option maxRecDepth 20000 in
theorem ggX8_mean_X8_crossing : GoodIn wsX8_mean wsX8_crossing := goodIn_r _ [36, 13, 16, 15, 48, 49, 50, 51, 52, 53, 54, 55, 56, 57, 58, 59, 60, 61, 62, 63, 64, 65, 66, 67, 68, 69, 70, 71, 72, 73] (by decide +kernel) (by decide +kernel)
set_option maxRecDepth 20000 in
theorem gX8_mean_X8_crossing : GoodIn wsX8_mean (wsV RX8 199 RX8 yX8_crossing wsX8_crossing) := goodIn_app (goodIn_of _ (by decide +kernel)) ggX8_mean_X8_crossing
set_option maxRecDepth 20000 in
theorem ggX8_mean_X8_term : GoodIn wsX8_mean wsX8_term := goodIn_r _ [39, 40, 41, 7, 42] (by decide +kernel) (by decide +kernel)
set_option maxRecDepth 20000 in
theorem gX8_mean_X8_term : GoodIn wsX8_mean (va_wsS RX8 193 yX8_term wsX8_term) := goodIn_app (goodIn_of _ (by decide +kernel)) ggX8_mean_X8_term
set_option maxRecDepth 20000 in
theorem ggX8_mean_X8_expense : GoodIn wsX8_mean wsX8_expense := goodIn_r _ [46, 3, 47, 13, 16, 33, 34, 35, 7, 36, 15, 29, 30, 31, 32, 2, 17, 18, 19, 20, 48, 49, 50, 51, 52, 53, 54, 55, 56, 57, 58, 59, 60, 61, 62, 63, 64, 65, 66, 67, 68, 69, 70, 71, 72, 73] (by decide +kernel) (by decide +kernel)
set_option maxRecDepth 20000 in
theorem gX8_mean_X8_expense : GoodIn wsX8_mean (wsV RX8 203 RX8 yX8_expense wsX8_expense) := goodIn_app (goodIn_of _ (by decide +kernel)) ggX8_mean_X8_expense
theorem dX8_mean_0 : decode cX8_mean 0 = .ok (.iload_n 1, 1) := by decide +kernel
theorem dX8_mean_1 : decode cX8_mean 1 = .ok (.iconst 0, 1) := by decide +kernel
theorem dX8_mean_2 : decode cX8_mean 2 = .ok (.iconst 3, 1) := by decide +kernel
theorem dX8_mean_3 : decode cX8_mean 3 = .ok (.invokestatic 98, 3) := by decide +kernel
theorem dX8_mean_6 : decode cX8_mean 6 = .ok (.ifCond .eq 12, 3) := by decide +kernel
theorem dX8_mean_9 : decode cX8_mean 9 = .ok (.iload_n 2, 1) := by decide +kernel
theorem dX8_mean_10 : decode cX8_mean 10 = .ok (.iconst 0, 1) := by decide +kernel
theorem dX8_mean_11 : decode cX8_mean 11 = .ok (.iconst 1, 1) := by decide +kernel
theorem dX8_mean_12 : decode cX8_mean 12 = .ok (.invokestatic 98, 3) := by decide +kernel
theorem dX8_mean_15 : decode cX8_mean 15 = .ok (.ifCond .ne 7, 3) := by decide +kernel
theorem dX8_mean_18 : decode cX8_mean 18 = .ok (.ldc2_w 184, 3) := by decide +kernel
theorem dX8_mean_21 : decode cX8_mean 21 = .ok (.lreturn, 1) := by decide +kernel
theorem dX8_mean_22 : decode cX8_mean 22 = .ok (.aload_n 0, 1) := by decide +kernel
theorem dX8_mean_23 : decode cX8_mean 23 = .ok (.invokevirtual 186, 3) := by decide +kernel
theorem dX8_mean_26 : decode cX8_mean 26 = .ok (.aload_n 0, 1) := by decide +kernel
theorem dX8_mean_27 : decode cX8_mean 27 = .ok (.invokevirtual 189, 3) := by decide +kernel
theorem dX8_mean_30 : decode cX8_mean 30 = .ok (.lstore_n 3, 1) := by decide +kernel
theorem dX8_mean_31 : decode cX8_mean 31 = .ok (.iload_n 1, 1) := by decide +kernel
theorem dX8_mean_32 : decode cX8_mean 32 = .ok (.iconst 2, 1) := by decide +kernel
theorem dX8_mean_33 : decode cX8_mean 33 = .ok (.if_icmp .ge 29, 3) := by decide +kernel
theorem dX8_mean_36 : decode cX8_mean 36 = .ok (.aload_n 0, 1) := by decide +kernel
theorem dX8_mean_37 : decode cX8_mean 37 = .ok (.aload_n 0, 1) := by decide +kernel
theorem dX8_mean_38 : decode cX8_mean 38 = .ok (.getfield 19, 3) := by decide +kernel
theorem dX8_mean_41 : decode cX8_mean 41 = .ok (.bipush 6, 2) := by decide +kernel
theorem dX8_mean_43 : decode cX8_mean 43 = .ok (.iload_n 1, 1) := by decide +kernel
theorem dX8_mean_44 : decode cX8_mean 44 = .ok (.iconst 1, 1) := by decide +kernel
theorem dX8_mean_45 : decode cX8_mean 45 = .ok (.if_icmp .ne 7, 3) := by decide +kernel
theorem dX8_mean_48 : decode cX8_mean 48 = .ok (.iconst 1, 1) := by decide +kernel
theorem dX8_mean_49 : decode cX8_mean 49 = .ok (.goto 4, 3) := by decide +kernel
theorem dX8_mean_52 : decode cX8_mean 52 = .ok (.iconst 0, 1) := by decide +kernel
theorem dX8_mean_53 : decode cX8_mean 53 = .ok (.invokevirtual 199, 3) := by decide +kernel
theorem dX8_mean_56 : decode cX8_mean 56 = .ok (.lload_n 3, 1) := by decide +kernel
theorem dX8_mean_57 : decode cX8_mean 57 = .ok (.iload_n 2, 1) := by decide +kernel
theorem dX8_mean_58 : decode cX8_mean 58 = .ok (.invokestatic 193, 3) := by decide +kernel
theorem dX8_mean_61 : decode cX8_mean 61 = .ok (.lreturn, 1) := by decide +kernel
theorem dX8_mean_62 : decode cX8_mean 62 = .ok (.iload_n 1, 1) := by decide +kernel
theorem dX8_mean_63 : decode cX8_mean 63 = .ok (.iconst 3, 1) := by decide +kernel
theorem dX8_mean_64 : decode cX8_mean 64 = .ok (.if_icmp .ne 23, 3) := by decide +kernel
theorem dX8_mean_67 : decode cX8_mean 67 = .ok (.aload_n 0, 1) := by decide +kernel
theorem dX8_mean_68 : decode cX8_mean 68 = .ok (.aload_n 0, 1) := by decide +kernel
theorem dX8_mean_69 : decode cX8_mean 69 = .ok (.getfield 19, 3) := by decide +kernel
theorem dX8_mean_72 : decode cX8_mean 72 = .ok (.bipush 6, 2) := by decide +kernel
theorem dX8_mean_74 : decode cX8_mean 74 = .ok (.invokevirtual 203, 3) := by decide +kernel
theorem dX8_mean_77 : decode cX8_mean 77 = .ok (.ldc2_w 197, 3) := by decide +kernel
theorem dX8_mean_80 : decode cX8_mean 80 = .ok (.lload_n 3, 1) := by decide +kernel
theorem dX8_mean_81 : decode cX8_mean 81 = .ok (.lmul, 1) := by decide +kernel
theorem dX8_mean_82 : decode cX8_mean 82 = .ok (.iload_n 2, 1) := by decide +kernel
theorem dX8_mean_83 : decode cX8_mean 83 = .ok (.invokestatic 193, 3) := by decide +kernel
theorem dX8_mean_86 : decode cX8_mean 86 = .ok (.lreturn, 1) := by decide +kernel
theorem dX8_mean_87 : decode cX8_mean 87 = .ok (.aload_n 0, 1) := by decide +kernel
theorem dX8_mean_88 : decode cX8_mean 88 = .ok (.getfield 19, 3) := by decide +kernel
theorem dX8_mean_91 : decode cX8_mean 91 = .ok (.bipush 12, 2) := by decide +kernel
theorem dX8_mean_93 : decode cX8_mean 93 = .ok (.iaload, 1) := by decide +kernel
theorem dX8_mean_94 : decode cX8_mean 94 = .ok (.tableswitch 83 0 2 #[26, 43, 69], 26) := by decide +kernel
theorem dX8_mean_120 : decode cX8_mean 120 = .ok (.aload_n 0, 1) := by decide +kernel
theorem dX8_mean_121 : decode cX8_mean 121 = .ok (.aload_n 0, 1) := by decide +kernel
theorem dX8_mean_122 : decode cX8_mean 122 = .ok (.getfield 19, 3) := by decide +kernel
theorem dX8_mean_125 : decode cX8_mean 125 = .ok (.bipush 6, 2) := by decide +kernel
theorem dX8_mean_127 : decode cX8_mean 127 = .ok (.iconst 0, 1) := by decide +kernel
theorem dX8_mean_128 : decode cX8_mean 128 = .ok (.invokevirtual 199, 3) := by decide +kernel
theorem dX8_mean_131 : decode cX8_mean 131 = .ok (.lload_n 3, 1) := by decide +kernel
theorem dX8_mean_132 : decode cX8_mean 132 = .ok (.iload_n 2, 1) := by decide +kernel
theorem dX8_mean_133 : decode cX8_mean 133 = .ok (.invokestatic 193, 3) := by decide +kernel
theorem dX8_mean_136 : decode cX8_mean 136 = .ok (.lreturn, 1) := by decide +kernel
theorem dX8_mean_137 : decode cX8_mean 137 = .ok (.aload_n 0, 1) := by decide +kernel
theorem dX8_mean_138 : decode cX8_mean 138 = .ok (.aload_n 0, 1) := by decide +kernel
theorem dX8_mean_139 : decode cX8_mean 139 = .ok (.getfield 19, 3) := by decide +kernel
theorem dX8_mean_142 : decode cX8_mean 142 = .ok (.bipush 6, 2) := by decide +kernel
theorem dX8_mean_144 : decode cX8_mean 144 = .ok (.iconst 1, 1) := by decide +kernel
theorem dX8_mean_145 : decode cX8_mean 145 = .ok (.invokevirtual 199, 3) := by decide +kernel
theorem dX8_mean_148 : decode cX8_mean 148 = .ok (.lload_n 3, 1) := by decide +kernel
theorem dX8_mean_149 : decode cX8_mean 149 = .ok (.aload_n 0, 1) := by decide +kernel
theorem dX8_mean_150 : decode cX8_mean 150 = .ok (.getfield 19, 3) := by decide +kernel
theorem dX8_mean_153 : decode cX8_mean 153 = .ok (.bipush 13, 2) := by decide +kernel
theorem dX8_mean_155 : decode cX8_mean 155 = .ok (.iaload, 1) := by decide +kernel
theorem dX8_mean_156 : decode cX8_mean 156 = .ok (.i2l, 1) := by decide +kernel
theorem dX8_mean_157 : decode cX8_mean 157 = .ok (.lmul, 1) := by decide +kernel
theorem dX8_mean_158 : decode cX8_mean 158 = .ok (.iload_n 2, 1) := by decide +kernel
theorem dX8_mean_159 : decode cX8_mean 159 = .ok (.invokestatic 193, 3) := by decide +kernel
theorem dX8_mean_162 : decode cX8_mean 162 = .ok (.lreturn, 1) := by decide +kernel
theorem dX8_mean_163 : decode cX8_mean 163 = .ok (.lconst 1, 1) := by decide +kernel
theorem dX8_mean_164 : decode cX8_mean 164 = .ok (.aload_n 0, 1) := by decide +kernel
theorem dX8_mean_165 : decode cX8_mean 165 = .ok (.getfield 19, 3) := by decide +kernel
theorem dX8_mean_168 : decode cX8_mean 168 = .ok (.bipush 13, 2) := by decide +kernel
theorem dX8_mean_170 : decode cX8_mean 170 = .ok (.iaload, 1) := by decide +kernel
theorem dX8_mean_171 : decode cX8_mean 171 = .ok (.i2l, 1) := by decide +kernel
theorem dX8_mean_172 : decode cX8_mean 172 = .ok (.iload_n 2, 1) := by decide +kernel
theorem dX8_mean_173 : decode cX8_mean 173 = .ok (.invokestatic 193, 3) := by decide +kernel
theorem dX8_mean_176 : decode cX8_mean 176 = .ok (.lreturn, 1) := by decide +kernel
theorem dX8_mean_177 : decode cX8_mean 177 = .ok (.ldc2_w 207, 3) := by decide +kernel
theorem dX8_mean_180 : decode cX8_mean 180 = .ok (.lreturn, 1) := by decide +kernel
theorem dX8_goesOn_0 : decode cX8_goesOn 0 = .ok (.aload_n 0, 1) := by decide +kernel
theorem dX8_goesOn_1 : decode cX8_goesOn 1 = .ok (.getfield 76, 3) := by decide +kernel
theorem dX8_goesOn_4 : decode cX8_goesOn 4 = .ok (.iconst 1, 1) := by decide +kernel
theorem dX8_goesOn_5 : decode cX8_goesOn 5 = .ok (.isub, 1) := by decide +kernel
theorem dX8_goesOn_6 : decode cX8_goesOn 6 = .ok (.istore_n 1, 1) := by decide +kernel
theorem dX8_goesOn_7 : decode cX8_goesOn 7 = .ok (.iload_n 1, 1) := by decide +kernel
theorem dX8_goesOn_8 : decode cX8_goesOn 8 = .ok (.ifCond .le 92, 3) := by decide +kernel
theorem dX8_goesOn_11 : decode cX8_goesOn 11 = .ok (.iconst 0, 1) := by decide +kernel
theorem dX8_goesOn_12 : decode cX8_goesOn 12 = .ok (.istore_n 2, 1) := by decide +kernel
theorem dX8_goesOn_13 : decode cX8_goesOn 13 = .ok (.iconst 0, 1) := by decide +kernel
theorem dX8_goesOn_14 : decode cX8_goesOn 14 = .ok (.istore_n 3, 1) := by decide +kernel
theorem dX8_goesOn_15 : decode cX8_goesOn 15 = .ok (.iload_n 3, 1) := by decide +kernel
theorem dX8_goesOn_16 : decode cX8_goesOn 16 = .ok (.iload_n 1, 1) := by decide +kernel
theorem dX8_goesOn_17 : decode cX8_goesOn 17 = .ok (.if_icmp .ge 30, 3) := by decide +kernel
theorem dX8_goesOn_20 : decode cX8_goesOn 20 = .ok (.aload_n 0, 1) := by decide +kernel
theorem dX8_goesOn_21 : decode cX8_goesOn 21 = .ok (.getfield 47, 3) := by decide +kernel
theorem dX8_goesOn_24 : decode cX8_goesOn 24 = .ok (.iload_n 3, 1) := by decide +kernel
theorem dX8_goesOn_25 : decode cX8_goesOn 25 = .ok (.iaload, 1) := by decide +kernel
theorem dX8_goesOn_26 : decode cX8_goesOn 26 = .ok (.iload_n 2, 1) := by decide +kernel
theorem dX8_goesOn_27 : decode cX8_goesOn 27 = .ok (.if_icmp .le 12, 3) := by decide +kernel
theorem dX8_goesOn_30 : decode cX8_goesOn 30 = .ok (.aload_n 0, 1) := by decide +kernel
theorem dX8_goesOn_31 : decode cX8_goesOn 31 = .ok (.getfield 47, 3) := by decide +kernel
theorem dX8_goesOn_34 : decode cX8_goesOn 34 = .ok (.iload_n 3, 1) := by decide +kernel
theorem dX8_goesOn_35 : decode cX8_goesOn 35 = .ok (.iaload, 1) := by decide +kernel
theorem dX8_goesOn_36 : decode cX8_goesOn 36 = .ok (.goto 4, 3) := by decide +kernel
theorem dX8_goesOn_39 : decode cX8_goesOn 39 = .ok (.iload_n 2, 1) := by decide +kernel
theorem dX8_goesOn_40 : decode cX8_goesOn 40 = .ok (.istore_n 2, 1) := by decide +kernel
theorem dX8_goesOn_41 : decode cX8_goesOn 41 = .ok (.iinc 3 1, 3) := by decide +kernel
theorem dX8_goesOn_44 : decode cX8_goesOn 44 = .ok (.goto (-29), 3) := by decide +kernel
theorem dX8_goesOn_47 : decode cX8_goesOn 47 = .ok (.aload_n 0, 1) := by decide +kernel
theorem dX8_goesOn_48 : decode cX8_goesOn 48 = .ok (.getfield 47, 3) := by decide +kernel
theorem dX8_goesOn_51 : decode cX8_goesOn 51 = .ok (.iload_n 1, 1) := by decide +kernel
theorem dX8_goesOn_52 : decode cX8_goesOn 52 = .ok (.iaload, 1) := by decide +kernel
theorem dX8_goesOn_53 : decode cX8_goesOn 53 = .ok (.iload_n 2, 1) := by decide +kernel
theorem dX8_goesOn_54 : decode cX8_goesOn 54 = .ok (.if_icmp .gt 40, 3) := by decide +kernel
theorem dX8_goesOn_57 : decode cX8_goesOn 57 = .ok (.aload_n 0, 1) := by decide +kernel
theorem dX8_goesOn_58 : decode cX8_goesOn 58 = .ok (.getfield 47, 3) := by decide +kernel
theorem dX8_goesOn_61 : decode cX8_goesOn 61 = .ok (.iload_n 1, 1) := by decide +kernel
theorem dX8_goesOn_62 : decode cX8_goesOn 62 = .ok (.dup2, 1) := by decide +kernel
theorem dX8_goesOn_63 : decode cX8_goesOn 63 = .ok (.iaload, 1) := by decide +kernel
theorem dX8_goesOn_64 : decode cX8_goesOn 64 = .ok (.iconst 1, 1) := by decide +kernel
theorem dX8_goesOn_65 : decode cX8_goesOn 65 = .ok (.iadd, 1) := by decide +kernel
theorem dX8_goesOn_66 : decode cX8_goesOn 66 = .ok (.iastore, 1) := by decide +kernel
theorem dX8_goesOn_67 : decode cX8_goesOn 67 = .ok (.iload_n 1, 1) := by decide +kernel
theorem dX8_goesOn_68 : decode cX8_goesOn 68 = .ok (.iconst 1, 1) := by decide +kernel
theorem dX8_goesOn_69 : decode cX8_goesOn 69 = .ok (.iadd, 1) := by decide +kernel
theorem dX8_goesOn_70 : decode cX8_goesOn 70 = .ok (.istore_n 3, 1) := by decide +kernel
theorem dX8_goesOn_71 : decode cX8_goesOn 71 = .ok (.iload_n 3, 1) := by decide +kernel
theorem dX8_goesOn_72 : decode cX8_goesOn 72 = .ok (.aload_n 0, 1) := by decide +kernel
theorem dX8_goesOn_73 : decode cX8_goesOn 73 = .ok (.getfield 76, 3) := by decide +kernel
theorem dX8_goesOn_76 : decode cX8_goesOn 76 = .ok (.if_icmp .ge 16, 3) := by decide +kernel
theorem dX8_goesOn_79 : decode cX8_goesOn 79 = .ok (.aload_n 0, 1) := by decide +kernel
theorem dX8_goesOn_80 : decode cX8_goesOn 80 = .ok (.getfield 47, 3) := by decide +kernel
theorem dX8_goesOn_83 : decode cX8_goesOn 83 = .ok (.iload_n 3, 1) := by decide +kernel
theorem dX8_goesOn_84 : decode cX8_goesOn 84 = .ok (.iconst 0, 1) := by decide +kernel
theorem dX8_goesOn_85 : decode cX8_goesOn 85 = .ok (.iastore, 1) := by decide +kernel
theorem dX8_goesOn_86 : decode cX8_goesOn 86 = .ok (.iinc 3 1, 3) := by decide +kernel
theorem dX8_goesOn_89 : decode cX8_goesOn 89 = .ok (.goto (-18), 3) := by decide +kernel
theorem dX8_goesOn_92 : decode cX8_goesOn 92 = .ok (.iconst 1, 1) := by decide +kernel
theorem dX8_goesOn_93 : decode cX8_goesOn 93 = .ok (.ireturn, 1) := by decide +kernel
theorem dX8_goesOn_94 : decode cX8_goesOn 94 = .ok (.iinc 1 (-1), 3) := by decide +kernel
theorem dX8_goesOn_97 : decode cX8_goesOn 97 = .ok (.goto (-90), 3) := by decide +kernel
theorem dX8_goesOn_100 : decode cX8_goesOn 100 = .ok (.iconst 0, 1) := by decide +kernel
theorem dX8_goesOn_101 : decode cX8_goesOn 101 = .ok (.ireturn, 1) := by decide +kernel
set_option maxRecDepth 20000 in
theorem ggX8_finds_X8_grows : GoodIn wsX8_finds wsX8_grows := goodIn_r _ [7, 8, 9, 10, 11, 12, 13, 14, 6, 15, 16, 17, 18, 19, 39, 40, 41, 42, 43, 44, 45, 46, 47, 48, 49, 50, 51, 52, 53, 54, 55, 56, 57, 58, 59, 60, 61, 62, 63, 64] (by decide +kernel) (by decide +kernel)
set_option maxRecDepth 20000 in
theorem gX8_finds_X8_grows : GoodIn wsX8_finds (wsV RX8 186 RX8 yX8_grows wsX8_grows) := goodIn_app (goodIn_of _ (by decide +kernel)) ggX8_finds_X8_grows
set_option maxRecDepth 20000 in
theorem ggX8_finds_X8_expense : GoodIn wsX8_finds wsX8_expense := goodIn_r _ [23, 24, 25, 8, 11, 26, 27, 28, 6, 29, 10, 30, 31, 32, 33, 34, 12, 13, 14, 15, 39, 40, 41, 42, 43, 44, 45, 46, 47, 48, 49, 50, 51, 52, 53, 54, 55, 56, 57, 58, 59, 60, 61, 62, 63, 64] (by decide +kernel) (by decide +kernel)
set_option maxRecDepth 20000 in
theorem gX8_finds_X8_expense : GoodIn wsX8_finds (wsV RX8 203 RX8 yX8_expense wsX8_expense) := goodIn_app (goodIn_of _ (by decide +kernel)) ggX8_finds_X8_expense
set_option maxRecDepth 20000 in
theorem ggX8_finds_X8_goesOn : GoodIn wsX8_finds wsX8_goesOn := goodIn_r _ [38, 8, 1, 39, 40, 41, 42, 43, 44, 45, 46, 47, 48, 49, 50, 51, 52, 53, 54, 55, 56, 57, 58, 59, 60, 61, 62, 63, 64] (by decide +kernel) (by decide +kernel)
set_option maxRecDepth 20000 in
theorem gX8_finds_X8_goesOn : GoodIn wsX8_finds (wsV RX8 209 RX8 yX8_goesOn wsX8_goesOn) := goodIn_app (goodIn_of _ (by decide +kernel)) ggX8_finds_X8_goesOn
theorem dX8_finds_0 : decode cX8_finds 0 = .ok (.aload_n 0, 1) := by decide +kernel
theorem dX8_finds_1 : decode cX8_finds 1 = .ok (.invokevirtual 186, 3) := by decide +kernel
theorem dX8_finds_4 : decode cX8_finds 4 = .ok (.iconst 0, 1) := by decide +kernel
theorem dX8_finds_5 : decode cX8_finds 5 = .ok (.istore_n 1, 1) := by decide +kernel
theorem dX8_finds_6 : decode cX8_finds 6 = .ok (.iload_n 1, 1) := by decide +kernel
theorem dX8_finds_7 : decode cX8_finds 7 = .ok (.bipush 6, 2) := by decide +kernel
theorem dX8_finds_9 : decode cX8_finds 9 = .ok (.if_icmp .ge 23, 3) := by decide +kernel
theorem dX8_finds_12 : decode cX8_finds 12 = .ok (.aload_n 0, 1) := by decide +kernel
theorem dX8_finds_13 : decode cX8_finds 13 = .ok (.getfield 47, 3) := by decide +kernel
theorem dX8_finds_16 : decode cX8_finds 16 = .ok (.iload_n 1, 1) := by decide +kernel
theorem dX8_finds_17 : decode cX8_finds 17 = .ok (.iconst 0, 1) := by decide +kernel
theorem dX8_finds_18 : decode cX8_finds 18 = .ok (.iastore, 1) := by decide +kernel
theorem dX8_finds_19 : decode cX8_finds 19 = .ok (.aload_n 0, 1) := by decide +kernel
theorem dX8_finds_20 : decode cX8_finds 20 = .ok (.getfield 50, 3) := by decide +kernel
theorem dX8_finds_23 : decode cX8_finds 23 = .ok (.iload_n 1, 1) := by decide +kernel
theorem dX8_finds_24 : decode cX8_finds 24 = .ok (.iconst 0, 1) := by decide +kernel
theorem dX8_finds_25 : decode cX8_finds 25 = .ok (.iastore, 1) := by decide +kernel
theorem dX8_finds_26 : decode cX8_finds 26 = .ok (.iinc 1 1, 3) := by decide +kernel
theorem dX8_finds_29 : decode cX8_finds 29 = .ok (.goto (-23), 3) := by decide +kernel
theorem dX8_finds_32 : decode cX8_finds 32 = .ok (.aload_n 0, 1) := by decide +kernel
theorem dX8_finds_33 : decode cX8_finds 33 = .ok (.aload_n 0, 1) := by decide +kernel
theorem dX8_finds_34 : decode cX8_finds 34 = .ok (.getfield 47, 3) := by decide +kernel
theorem dX8_finds_37 : decode cX8_finds 37 = .ok (.iconst 0, 1) := by decide +kernel
theorem dX8_finds_38 : decode cX8_finds 38 = .ok (.invokevirtual 203, 3) := by decide +kernel
theorem dX8_finds_41 : decode cX8_finds 41 = .ok (.lstore_n 1, 1) := by decide +kernel
theorem dX8_finds_42 : decode cX8_finds 42 = .ok (.aload_n 0, 1) := by decide +kernel
theorem dX8_finds_43 : decode cX8_finds 43 = .ok (.invokevirtual 209, 3) := by decide +kernel
theorem dX8_finds_46 : decode cX8_finds 46 = .ok (.ifCond .eq 54, 3) := by decide +kernel
theorem dX8_finds_49 : decode cX8_finds 49 = .ok (.aload_n 0, 1) := by decide +kernel
theorem dX8_finds_50 : decode cX8_finds 50 = .ok (.aload_n 0, 1) := by decide +kernel
theorem dX8_finds_51 : decode cX8_finds 51 = .ok (.getfield 47, 3) := by decide +kernel
theorem dX8_finds_54 : decode cX8_finds 54 = .ok (.iconst 0, 1) := by decide +kernel
theorem dX8_finds_55 : decode cX8_finds 55 = .ok (.invokevirtual 203, 3) := by decide +kernel
theorem dX8_finds_58 : decode cX8_finds 58 = .ok (.lstore_n 3, 1) := by decide +kernel
theorem dX8_finds_59 : decode cX8_finds 59 = .ok (.lload_n 3, 1) := by decide +kernel
theorem dX8_finds_60 : decode cX8_finds 60 = .ok (.lload_n 1, 1) := by decide +kernel
theorem dX8_finds_61 : decode cX8_finds 61 = .ok (.lcmp, 1) := by decide +kernel
theorem dX8_finds_62 : decode cX8_finds 62 = .ok (.ifCond .ge 35, 3) := by decide +kernel
theorem dX8_finds_65 : decode cX8_finds 65 = .ok (.lload_n 3, 1) := by decide +kernel
theorem dX8_finds_66 : decode cX8_finds 66 = .ok (.lstore_n 1, 1) := by decide +kernel
theorem dX8_finds_67 : decode cX8_finds 67 = .ok (.iconst 0, 1) := by decide +kernel
theorem dX8_finds_68 : decode cX8_finds 68 = .ok (.istore 5, 2) := by decide +kernel
theorem dX8_finds_70 : decode cX8_finds 70 = .ok (.iload 5, 2) := by decide +kernel
theorem dX8_finds_72 : decode cX8_finds 72 = .ok (.bipush 6, 2) := by decide +kernel
theorem dX8_finds_74 : decode cX8_finds 74 = .ok (.if_icmp .ge 23, 3) := by decide +kernel
theorem dX8_finds_77 : decode cX8_finds 77 = .ok (.aload_n 0, 1) := by decide +kernel
theorem dX8_finds_78 : decode cX8_finds 78 = .ok (.getfield 50, 3) := by decide +kernel
theorem dX8_finds_81 : decode cX8_finds 81 = .ok (.iload 5, 2) := by decide +kernel
theorem dX8_finds_83 : decode cX8_finds 83 = .ok (.aload_n 0, 1) := by decide +kernel
theorem dX8_finds_84 : decode cX8_finds 84 = .ok (.getfield 47, 3) := by decide +kernel
theorem dX8_finds_87 : decode cX8_finds 87 = .ok (.iload 5, 2) := by decide +kernel
theorem dX8_finds_89 : decode cX8_finds 89 = .ok (.iaload, 1) := by decide +kernel
theorem dX8_finds_90 : decode cX8_finds 90 = .ok (.iastore, 1) := by decide +kernel
theorem dX8_finds_91 : decode cX8_finds 91 = .ok (.iinc 5 1, 3) := by decide +kernel
theorem dX8_finds_94 : decode cX8_finds 94 = .ok (.goto (-24), 3) := by decide +kernel
theorem dX8_finds_97 : decode cX8_finds 97 = .ok (.goto (-55), 3) := by decide +kernel
theorem dX8_finds_100 : decode cX8_finds 100 = .ok (.lload_n 1, 1) := by decide +kernel
theorem dX8_finds_101 : decode cX8_finds 101 = .ok (.lreturn, 1) := by decide +kernel
set_option maxRecDepth 20000 in
theorem ggX8_best_X8_isCell : GoodIn wsX8_best wsX8_isCell := goodIn_r _ [6, 7, 8, 9, 5, 10, 50, 51, 52, 53, 54, 55, 56, 57, 58, 59, 60, 61, 62, 63, 64, 65, 66, 67, 68, 69, 70, 71, 72, 73, 74, 75] (by decide +kernel) (by decide +kernel)
set_option maxRecDepth 20000 in
theorem gX8_best_X8_isCell : GoodIn wsX8_best (wsV RX8 136 RX8 yX8_isCell wsX8_isCell) := goodIn_app (goodIn_of _ (by decide +kernel)) ggX8_best_X8_isCell
set_option maxRecDepth 20000 in
theorem ggX8_best_X8_finds : GoodIn wsX8_best wsX8_finds := goodIn_r _ [14, 15, 1, 16, 17, 18, 5, 19, 7, 20, 21, 22, 23, 24, 25, 26, 27, 28, 29, 30, 31, 32, 33, 34, 35, 36, 37, 38, 39, 40, 41, 42, 43, 44, 45, 46, 47, 48, 49, 50, 51, 52, 53, 54, 55, 56, 57, 58, 59, 60, 61, 62, 63, 64, 65, 66, 67, 68, 69, 70, 71, 72, 73, 74, 75] (by decide +kernel) (by decide +kernel)
set_option maxRecDepth 20000 in
theorem gX8_best_X8_finds : GoodIn wsX8_best (wsV RX8 212 RX8 yX8_finds wsX8_finds) := goodIn_app (goodIn_of _ (by decide +kernel)) ggX8_best_X8_finds
theorem dX8_best_0 : decode cX8_best 0 = .ok (.aload_n 0, 1) := by decide +kernel
theorem dX8_best_1 : decode cX8_best 1 = .ok (.iload_n 1, 1) := by decide +kernel
theorem dX8_best_2 : decode cX8_best 2 = .ok (.invokevirtual 136, 3) := by decide +kernel
theorem dX8_best_5 : decode cX8_best 5 = .ok (.ifCond .ne 5, 3) := by decide +kernel
theorem dX8_best_8 : decode cX8_best 8 = .ok (.iconst (-1), 1) := by decide +kernel
theorem dX8_best_9 : decode cX8_best 9 = .ok (.ireturn, 1) := by decide +kernel
theorem dX8_best_10 : decode cX8_best 10 = .ok (.aload_n 0, 1) := by decide +kernel
theorem dX8_best_11 : decode cX8_best 11 = .ok (.invokevirtual 212, 3) := by decide +kernel
theorem dX8_best_14 : decode cX8_best 14 = .ok (.pop2, 1) := by decide +kernel
theorem dX8_best_15 : decode cX8_best 15 = .ok (.aload_n 0, 1) := by decide +kernel
theorem dX8_best_16 : decode cX8_best 16 = .ok (.getfield 50, 3) := by decide +kernel
theorem dX8_best_19 : decode cX8_best 19 = .ok (.iload_n 1, 1) := by decide +kernel
theorem dX8_best_20 : decode cX8_best 20 = .ok (.iaload, 1) := by decide +kernel
theorem dX8_best_21 : decode cX8_best 21 = .ok (.ireturn, 1) := by decide +kernel
set_option maxRecDepth 20000 in
theorem ggX8_least_X8_isIn : GoodIn wsX8_least wsX8_isIn := goodIn_r _ [6] (by decide +kernel) (by decide +kernel)
set_option maxRecDepth 20000 in
theorem gX8_least_X8_isIn : GoodIn wsX8_least (va_wsS RX8 98 yX8_isIn wsX8_isIn) := goodIn_app (goodIn_of _ (by decide +kernel)) ggX8_least_X8_isIn
set_option maxRecDepth 20000 in
theorem ggX8_least_X8_finds : GoodIn wsX8_least wsX8_finds := goodIn_r _ [10, 11, 12, 13, 14, 15, 5, 16, 17, 18, 19, 20, 21, 22, 23, 24, 25, 26, 27, 28, 29, 30, 31, 32, 2, 33, 34, 35, 36, 37, 38, 39, 40, 41, 42, 43, 44, 45, 46, 57, 58, 59, 60, 61, 62, 63, 64, 65, 66, 67, 68, 69, 70, 71, 72, 73, 74, 75, 76, 77, 78, 79, 80, 81, 82] (by decide +kernel) (by decide +kernel)
set_option maxRecDepth 20000 in
theorem gX8_least_X8_finds : GoodIn wsX8_least (wsV RX8 212 RX8 yX8_finds wsX8_finds) := goodIn_app (goodIn_of _ (by decide +kernel)) ggX8_least_X8_finds
set_option maxRecDepth 20000 in
theorem ggX8_least_X8_below : GoodIn wsX8_least wsX8_below := goodIn_r _ [50, 17, 20, 38, 39, 40, 5, 41, 42, 21, 22, 23, 24, 19, 57, 58, 59, 60, 61, 62, 63, 64, 65, 66, 67, 68, 69, 70, 71, 72, 73, 74, 75, 76, 77, 78, 79, 80, 81, 82] (by decide +kernel) (by decide +kernel)
set_option maxRecDepth 20000 in
theorem gX8_least_X8_below : GoodIn wsX8_least (wsV RX8 189 RX8 yX8_below wsX8_below) := goodIn_app (goodIn_of _ (by decide +kernel)) ggX8_least_X8_below
set_option maxRecDepth 20000 in
theorem ggX8_least_X8_term : GoodIn wsX8_least wsX8_term := goodIn_r _ [53, 54, 55, 5, 56] (by decide +kernel) (by decide +kernel)
set_option maxRecDepth 20000 in
theorem gX8_least_X8_term : GoodIn wsX8_least (va_wsS RX8 193 yX8_term wsX8_term) := goodIn_app (goodIn_of _ (by decide +kernel)) ggX8_least_X8_term
theorem dX8_least_0 : decode cX8_least 0 = .ok (.iload_n 1, 1) := by decide +kernel
theorem dX8_least_1 : decode cX8_least 1 = .ok (.iconst 0, 1) := by decide +kernel
theorem dX8_least_2 : decode cX8_least 2 = .ok (.iconst 1, 1) := by decide +kernel
theorem dX8_least_3 : decode cX8_least 3 = .ok (.invokestatic 98, 3) := by decide +kernel
theorem dX8_least_6 : decode cX8_least 6 = .ok (.ifCond .ne 7, 3) := by decide +kernel
theorem dX8_least_9 : decode cX8_least 9 = .ok (.ldc2_w 184, 3) := by decide +kernel
theorem dX8_least_12 : decode cX8_least 12 = .ok (.lreturn, 1) := by decide +kernel
theorem dX8_least_13 : decode cX8_least 13 = .ok (.aload_n 0, 1) := by decide +kernel
theorem dX8_least_14 : decode cX8_least 14 = .ok (.invokevirtual 212, 3) := by decide +kernel
theorem dX8_least_17 : decode cX8_least 17 = .ok (.ldc2_w 197, 3) := by decide +kernel
theorem dX8_least_20 : decode cX8_least 20 = .ok (.aload_n 0, 1) := by decide +kernel
theorem dX8_least_21 : decode cX8_least 21 = .ok (.invokevirtual 189, 3) := by decide +kernel
theorem dX8_least_24 : decode cX8_least 24 = .ok (.lmul, 1) := by decide +kernel
theorem dX8_least_25 : decode cX8_least 25 = .ok (.iload_n 1, 1) := by decide +kernel
theorem dX8_least_26 : decode cX8_least 26 = .ok (.invokestatic 193, 3) := by decide +kernel
theorem dX8_least_29 : decode cX8_least 29 = .ok (.lreturn, 1) := by decide +kernel
set_option maxRecDepth 20000 in
theorem ggX8_give_X8_finds : GoodIn wsX8_give wsX8_finds := goodIn_r _ [8, 9, 3, 10, 11, 12, 7, 13, 1, 14, 15, 16, 17, 18, 19, 20, 21, 22, 23, 24, 25, 26, 27, 28, 29, 30, 31, 32, 33, 34, 35, 36, 37, 38, 2, 39, 40, 41, 42, 52, 53, 54, 55, 56, 57, 58, 59, 60, 61, 62, 63, 64, 65, 66, 67, 68, 69, 70, 71, 72, 73, 74, 75, 76, 77] (by decide +kernel) (by decide +kernel)
set_option maxRecDepth 20000 in
theorem gX8_give_X8_finds : GoodIn wsX8_give (wsV RX8 212 RX8 yX8_finds wsX8_finds) := goodIn_app (goodIn_of _ (by decide +kernel)) ggX8_give_X8_finds
set_option maxRecDepth 20000 in
theorem ggX8_give_X8_keeps : GoodIn wsX8_give wsX8_keeps := goodIn_r _ [46, 47, 48, 2, 52, 53, 54, 55, 56, 57, 58, 59, 60, 61, 62, 63, 64, 65, 66, 67, 68, 69, 70, 71, 72, 73, 74, 75, 76, 77] (by decide +kernel) (by decide +kernel)
set_option maxRecDepth 20000 in
theorem gX8_give_X8_keeps : GoodIn wsX8_give (wsV RX8 139 RX8 yX8_keeps wsX8_keeps) := goodIn_app (goodIn_of _ (by decide +kernel)) ggX8_give_X8_keeps
set_option maxRecDepth 20000 in
theorem ggX8_give_X8_registers : GoodIn wsX8_give wsX8_registers := goodIn_r _ [51] (by decide +kernel) (by decide +kernel)
set_option maxRecDepth 20000 in
theorem gX8_give_X8_registers : GoodIn wsX8_give (va_wsS RX8 142 yX8_registers wsX8_registers) := goodIn_app (goodIn_of _ (by decide +kernel)) ggX8_give_X8_registers
theorem dX8_give_0 : decode cX8_give 0 = .ok (.aload_n 0, 1) := by decide +kernel
theorem dX8_give_1 : decode cX8_give 1 = .ok (.invokevirtual 212, 3) := by decide +kernel
theorem dX8_give_4 : decode cX8_give 4 = .ok (.pop2, 1) := by decide +kernel
theorem dX8_give_5 : decode cX8_give 5 = .ok (.aload_n 0, 1) := by decide +kernel
theorem dX8_give_6 : decode cX8_give 6 = .ok (.invokevirtual 139, 3) := by decide +kernel
theorem dX8_give_9 : decode cX8_give 9 = .ok (.iconst 0, 1) := by decide +kernel
theorem dX8_give_10 : decode cX8_give 10 = .ok (.istore_n 1, 1) := by decide +kernel
theorem dX8_give_11 : decode cX8_give 11 = .ok (.iconst 0, 1) := by decide +kernel
theorem dX8_give_12 : decode cX8_give 12 = .ok (.istore_n 2, 1) := by decide +kernel
theorem dX8_give_13 : decode cX8_give 13 = .ok (.iload_n 2, 1) := by decide +kernel
theorem dX8_give_14 : decode cX8_give 14 = .ok (.aload_n 0, 1) := by decide +kernel
theorem dX8_give_15 : decode cX8_give 15 = .ok (.getfield 76, 3) := by decide +kernel
theorem dX8_give_18 : decode cX8_give 18 = .ok (.if_icmp .ge 50, 3) := by decide +kernel
theorem dX8_give_21 : decode cX8_give 21 = .ok (.iload_n 1, 1) := by decide +kernel
theorem dX8_give_22 : decode cX8_give 22 = .ok (.aload_n 0, 1) := by decide +kernel
theorem dX8_give_23 : decode cX8_give 23 = .ok (.getfield 19, 3) := by decide +kernel
theorem dX8_give_26 : decode cX8_give 26 = .ok (.bipush 6, 2) := by decide +kernel
theorem dX8_give_28 : decode cX8_give 28 = .ok (.iload_n 2, 1) := by decide +kernel
theorem dX8_give_29 : decode cX8_give 29 = .ok (.iadd, 1) := by decide +kernel
theorem dX8_give_30 : decode cX8_give 30 = .ok (.iaload, 1) := by decide +kernel
theorem dX8_give_31 : decode cX8_give 31 = .ok (.aload_n 0, 1) := by decide +kernel
theorem dX8_give_32 : decode cX8_give 32 = .ok (.getfield 50, 3) := by decide +kernel
theorem dX8_give_35 : decode cX8_give 35 = .ok (.iload_n 2, 1) := by decide +kernel
theorem dX8_give_36 : decode cX8_give 36 = .ok (.iaload, 1) := by decide +kernel
theorem dX8_give_37 : decode cX8_give 37 = .ok (.if_icmp .ne 7, 3) := by decide +kernel
theorem dX8_give_40 : decode cX8_give 40 = .ok (.iconst 0, 1) := by decide +kernel
theorem dX8_give_41 : decode cX8_give 41 = .ok (.goto 4, 3) := by decide +kernel
theorem dX8_give_44 : decode cX8_give 44 = .ok (.iconst 1, 1) := by decide +kernel
theorem dX8_give_45 : decode cX8_give 45 = .ok (.iadd, 1) := by decide +kernel
theorem dX8_give_46 : decode cX8_give 46 = .ok (.istore_n 1, 1) := by decide +kernel
theorem dX8_give_47 : decode cX8_give 47 = .ok (.aload_n 0, 1) := by decide +kernel
theorem dX8_give_48 : decode cX8_give 48 = .ok (.getfield 19, 3) := by decide +kernel
theorem dX8_give_51 : decode cX8_give 51 = .ok (.bipush 6, 2) := by decide +kernel
theorem dX8_give_53 : decode cX8_give 53 = .ok (.iload_n 2, 1) := by decide +kernel
theorem dX8_give_54 : decode cX8_give 54 = .ok (.iadd, 1) := by decide +kernel
theorem dX8_give_55 : decode cX8_give 55 = .ok (.aload_n 0, 1) := by decide +kernel
theorem dX8_give_56 : decode cX8_give 56 = .ok (.getfield 50, 3) := by decide +kernel
theorem dX8_give_59 : decode cX8_give 59 = .ok (.iload_n 2, 1) := by decide +kernel
theorem dX8_give_60 : decode cX8_give 60 = .ok (.iaload, 1) := by decide +kernel
theorem dX8_give_61 : decode cX8_give 61 = .ok (.iastore, 1) := by decide +kernel
theorem dX8_give_62 : decode cX8_give 62 = .ok (.iinc 2 1, 3) := by decide +kernel
theorem dX8_give_65 : decode cX8_give 65 = .ok (.goto (-52), 3) := by decide +kernel
theorem dX8_give_68 : decode cX8_give 68 = .ok (.aload_n 0, 1) := by decide +kernel
theorem dX8_give_69 : decode cX8_give 69 = .ok (.getfield 19, 3) := by decide +kernel
theorem dX8_give_72 : decode cX8_give 72 = .ok (.invokestatic 142, 3) := by decide +kernel
theorem dX8_give_75 : decode cX8_give 75 = .ok (.iload_n 1, 1) := by decide +kernel
theorem dX8_give_76 : decode cX8_give 76 = .ok (.ireturn, 1) := by decide +kernel
set_option maxRecDepth 20000 in
theorem ggX8_ranks_X8_whereIs : GoodIn wsX8_ranks wsX8_whereIs := goodIn_r _ [9, 10, 11, 12, 2, 13, 14, 15, 8, 16, 17, 18, 19, 20, 21, 22, 23, 24, 25, 43, 44, 45, 46, 47, 48, 49, 50, 51, 52, 53, 54, 55, 56, 57, 58, 59, 60, 61, 62, 63, 64, 65, 66, 67, 68] (by decide +kernel) (by decide +kernel)
set_option maxRecDepth 20000 in
theorem gX8_ranks_X8_whereIs : GoodIn wsX8_ranks (wsV RX8 173 RX8 yX8_whereIs wsX8_whereIs) := goodIn_app (goodIn_of _ (by decide +kernel)) ggX8_ranks_X8_whereIs
set_option maxRecDepth 20000 in
theorem ggX8_ranks_X8_grows : GoodIn wsX8_ranks wsX8_grows := goodIn_r _ [29, 2, 30, 25, 3, 31, 32, 33, 8, 34, 35, 36, 37, 38, 43, 44, 45, 46, 47, 48, 49, 50, 51, 52, 53, 54, 55, 56, 57, 58, 59, 60, 61, 62, 63, 64, 65, 66, 67, 68] (by decide +kernel) (by decide +kernel)
set_option maxRecDepth 20000 in
theorem gX8_ranks_X8_grows : GoodIn wsX8_ranks (wsV RX8 186 RX8 yX8_grows wsX8_grows) := goodIn_app (goodIn_of _ (by decide +kernel)) ggX8_ranks_X8_grows
set_option maxRecDepth 20000 in
theorem ggX8_ranks_X8_sum : GoodIn wsX8_ranks wsX8_sum := goodIn_r _ [42, 10, 31, 32, 33, 8, 34, 2, 25, 43, 44, 45, 46, 47, 48, 49, 50, 51, 52, 53, 54, 55, 56, 57, 58, 59, 60, 61, 62, 63, 64, 65, 66, 67, 68] (by decide +kernel) (by decide +kernel)
set_option maxRecDepth 20000 in
theorem gX8_ranks_X8_sum : GoodIn wsX8_ranks (wsV RX8 149 RX8 yX8_sum wsX8_sum) := goodIn_app (goodIn_of _ (by decide +kernel)) ggX8_ranks_X8_sum
theorem dX8_ranks_0 : decode cX8_ranks 0 = .ok (.aload_n 0, 1) := by decide +kernel
theorem dX8_ranks_1 : decode cX8_ranks 1 = .ok (.invokevirtual 173, 3) := by decide +kernel
theorem dX8_ranks_4 : decode cX8_ranks 4 = .ok (.istore_n 1, 1) := by decide +kernel
theorem dX8_ranks_5 : decode cX8_ranks 5 = .ok (.aload_n 0, 1) := by decide +kernel
theorem dX8_ranks_6 : decode cX8_ranks 6 = .ok (.invokevirtual 186, 3) := by decide +kernel
theorem dX8_ranks_9 : decode cX8_ranks 9 = .ok (.aload_n 0, 1) := by decide +kernel
theorem dX8_ranks_10 : decode cX8_ranks 10 = .ok (.iconst 0, 1) := by decide +kernel
theorem dX8_ranks_11 : decode cX8_ranks 11 = .ok (.putfield 215, 3) := by decide +kernel
theorem dX8_ranks_14 : decode cX8_ranks 14 = .ok (.iconst 0, 1) := by decide +kernel
theorem dX8_ranks_15 : decode cX8_ranks 15 = .ok (.istore_n 2, 1) := by decide +kernel
theorem dX8_ranks_16 : decode cX8_ranks 16 = .ok (.iload_n 2, 1) := by decide +kernel
theorem dX8_ranks_17 : decode cX8_ranks 17 = .ok (.aload_n 0, 1) := by decide +kernel
theorem dX8_ranks_18 : decode cX8_ranks 18 = .ok (.getfield 76, 3) := by decide +kernel
theorem dX8_ranks_21 : decode cX8_ranks 21 = .ok (.if_icmp .ge 108, 3) := by decide +kernel
theorem dX8_ranks_24 : decode cX8_ranks 24 = .ok (.iload_n 1, 1) := by decide +kernel
theorem dX8_ranks_25 : decode cX8_ranks 25 = .ok (.iload_n 2, 1) := by decide +kernel
theorem dX8_ranks_26 : decode cX8_ranks 26 = .ok (.ishr, 1) := by decide +kernel
theorem dX8_ranks_27 : decode cX8_ranks 27 = .ok (.iconst 1, 1) := by decide +kernel
theorem dX8_ranks_28 : decode cX8_ranks 28 = .ok (.iand, 1) := by decide +kernel
theorem dX8_ranks_29 : decode cX8_ranks 29 = .ok (.iconst 1, 1) := by decide +kernel
theorem dX8_ranks_30 : decode cX8_ranks 30 = .ok (.if_icmp .ne 93, 3) := by decide +kernel
theorem dX8_ranks_33 : decode cX8_ranks 33 = .ok (.aload_n 0, 1) := by decide +kernel
theorem dX8_ranks_34 : decode cX8_ranks 34 = .ok (.getfield 215, 3) := by decide +kernel
theorem dX8_ranks_37 : decode cX8_ranks 37 = .ok (.istore_n 3, 1) := by decide +kernel
theorem dX8_ranks_38 : decode cX8_ranks 38 = .ok (.iload_n 3, 1) := by decide +kernel
theorem dX8_ranks_39 : decode cX8_ranks 39 = .ok (.ifCond .le 67, 3) := by decide +kernel
theorem dX8_ranks_42 : decode cX8_ranks 42 = .ok (.aload_n 0, 1) := by decide +kernel
theorem dX8_ranks_43 : decode cX8_ranks 43 = .ok (.getfield 40, 3) := by decide +kernel
theorem dX8_ranks_46 : decode cX8_ranks 46 = .ok (.aload_n 0, 1) := by decide +kernel
theorem dX8_ranks_47 : decode cX8_ranks 47 = .ok (.getfield 53, 3) := by decide +kernel
theorem dX8_ranks_50 : decode cX8_ranks 50 = .ok (.iload_n 3, 1) := by decide +kernel
theorem dX8_ranks_51 : decode cX8_ranks 51 = .ok (.iconst 1, 1) := by decide +kernel
theorem dX8_ranks_52 : decode cX8_ranks 52 = .ok (.isub, 1) := by decide +kernel
theorem dX8_ranks_53 : decode cX8_ranks 53 = .ok (.iaload, 1) := by decide +kernel
theorem dX8_ranks_54 : decode cX8_ranks 54 = .ok (.laload, 1) := by decide +kernel
theorem dX8_ranks_55 : decode cX8_ranks 55 = .ok (.aload_n 0, 1) := by decide +kernel
theorem dX8_ranks_56 : decode cX8_ranks 56 = .ok (.aload_n 0, 1) := by decide +kernel
theorem dX8_ranks_57 : decode cX8_ranks 57 = .ok (.getfield 53, 3) := by decide +kernel
theorem dX8_ranks_60 : decode cX8_ranks 60 = .ok (.iload_n 3, 1) := by decide +kernel
theorem dX8_ranks_61 : decode cX8_ranks 61 = .ok (.iconst 1, 1) := by decide +kernel
theorem dX8_ranks_62 : decode cX8_ranks 62 = .ok (.isub, 1) := by decide +kernel
theorem dX8_ranks_63 : decode cX8_ranks 63 = .ok (.iaload, 1) := by decide +kernel
theorem dX8_ranks_64 : decode cX8_ranks 64 = .ok (.invokevirtual 149, 3) := by decide +kernel
theorem dX8_ranks_67 : decode cX8_ranks 67 = .ok (.i2l, 1) := by decide +kernel
theorem dX8_ranks_68 : decode cX8_ranks 68 = .ok (.lmul, 1) := by decide +kernel
theorem dX8_ranks_69 : decode cX8_ranks 69 = .ok (.aload_n 0, 1) := by decide +kernel
theorem dX8_ranks_70 : decode cX8_ranks 70 = .ok (.getfield 40, 3) := by decide +kernel
theorem dX8_ranks_73 : decode cX8_ranks 73 = .ok (.iload_n 2, 1) := by decide +kernel
theorem dX8_ranks_74 : decode cX8_ranks 74 = .ok (.laload, 1) := by decide +kernel
theorem dX8_ranks_75 : decode cX8_ranks 75 = .ok (.aload_n 0, 1) := by decide +kernel
theorem dX8_ranks_76 : decode cX8_ranks 76 = .ok (.iload_n 2, 1) := by decide +kernel
theorem dX8_ranks_77 : decode cX8_ranks 77 = .ok (.invokevirtual 149, 3) := by decide +kernel
theorem dX8_ranks_80 : decode cX8_ranks 80 = .ok (.i2l, 1) := by decide +kernel
theorem dX8_ranks_81 : decode cX8_ranks 81 = .ok (.lmul, 1) := by decide +kernel
theorem dX8_ranks_82 : decode cX8_ranks 82 = .ok (.lcmp, 1) := by decide +kernel
theorem dX8_ranks_83 : decode cX8_ranks 83 = .ok (.ifCond .ge 23, 3) := by decide +kernel
theorem dX8_ranks_86 : decode cX8_ranks 86 = .ok (.aload_n 0, 1) := by decide +kernel
theorem dX8_ranks_87 : decode cX8_ranks 87 = .ok (.getfield 53, 3) := by decide +kernel
theorem dX8_ranks_90 : decode cX8_ranks 90 = .ok (.iload_n 3, 1) := by decide +kernel
theorem dX8_ranks_91 : decode cX8_ranks 91 = .ok (.aload_n 0, 1) := by decide +kernel
theorem dX8_ranks_92 : decode cX8_ranks 92 = .ok (.getfield 53, 3) := by decide +kernel
theorem dX8_ranks_95 : decode cX8_ranks 95 = .ok (.iload_n 3, 1) := by decide +kernel
theorem dX8_ranks_96 : decode cX8_ranks 96 = .ok (.iconst 1, 1) := by decide +kernel
theorem dX8_ranks_97 : decode cX8_ranks 97 = .ok (.isub, 1) := by decide +kernel
theorem dX8_ranks_98 : decode cX8_ranks 98 = .ok (.iaload, 1) := by decide +kernel
theorem dX8_ranks_99 : decode cX8_ranks 99 = .ok (.iastore, 1) := by decide +kernel
theorem dX8_ranks_100 : decode cX8_ranks 100 = .ok (.iinc 3 (-1), 3) := by decide +kernel
theorem dX8_ranks_103 : decode cX8_ranks 103 = .ok (.goto (-65), 3) := by decide +kernel
theorem dX8_ranks_106 : decode cX8_ranks 106 = .ok (.aload_n 0, 1) := by decide +kernel
theorem dX8_ranks_107 : decode cX8_ranks 107 = .ok (.getfield 53, 3) := by decide +kernel
theorem dX8_ranks_110 : decode cX8_ranks 110 = .ok (.iload_n 3, 1) := by decide +kernel
theorem dX8_ranks_111 : decode cX8_ranks 111 = .ok (.iload_n 2, 1) := by decide +kernel
theorem dX8_ranks_112 : decode cX8_ranks 112 = .ok (.iastore, 1) := by decide +kernel
theorem dX8_ranks_113 : decode cX8_ranks 113 = .ok (.aload_n 0, 1) := by decide +kernel
theorem dX8_ranks_114 : decode cX8_ranks 114 = .ok (.dup, 1) := by decide +kernel
theorem dX8_ranks_115 : decode cX8_ranks 115 = .ok (.getfield 215, 3) := by decide +kernel
theorem dX8_ranks_118 : decode cX8_ranks 118 = .ok (.iconst 1, 1) := by decide +kernel
theorem dX8_ranks_119 : decode cX8_ranks 119 = .ok (.iadd, 1) := by decide +kernel
theorem dX8_ranks_120 : decode cX8_ranks 120 = .ok (.putfield 215, 3) := by decide +kernel
theorem dX8_ranks_123 : decode cX8_ranks 123 = .ok (.iinc 2 1, 3) := by decide +kernel
theorem dX8_ranks_126 : decode cX8_ranks 126 = .ok (.goto (-110), 3) := by decide +kernel
theorem dX8_ranks_129 : decode cX8_ranks 129 = .ok (.return_, 1) := by decide +kernel
theorem dX8_bits_0 : decode cX8_bits 0 = .ok (.iconst 0, 1) := by decide +kernel
theorem dX8_bits_1 : decode cX8_bits 1 = .ok (.istore_n 1, 1) := by decide +kernel
theorem dX8_bits_2 : decode cX8_bits 2 = .ok (.iconst 0, 1) := by decide +kernel
theorem dX8_bits_3 : decode cX8_bits 3 = .ok (.istore_n 2, 1) := by decide +kernel
theorem dX8_bits_4 : decode cX8_bits 4 = .ok (.iload_n 2, 1) := by decide +kernel
theorem dX8_bits_5 : decode cX8_bits 5 = .ok (.bipush 6, 2) := by decide +kernel
theorem dX8_bits_7 : decode cX8_bits 7 = .ok (.if_icmp .ge 17, 3) := by decide +kernel
theorem dX8_bits_10 : decode cX8_bits 10 = .ok (.iload_n 1, 1) := by decide +kernel
theorem dX8_bits_11 : decode cX8_bits 11 = .ok (.iload_n 0, 1) := by decide +kernel
theorem dX8_bits_12 : decode cX8_bits 12 = .ok (.iload_n 2, 1) := by decide +kernel
theorem dX8_bits_13 : decode cX8_bits 13 = .ok (.ishr, 1) := by decide +kernel
theorem dX8_bits_14 : decode cX8_bits 14 = .ok (.iconst 1, 1) := by decide +kernel
theorem dX8_bits_15 : decode cX8_bits 15 = .ok (.iand, 1) := by decide +kernel
theorem dX8_bits_16 : decode cX8_bits 16 = .ok (.iadd, 1) := by decide +kernel
theorem dX8_bits_17 : decode cX8_bits 17 = .ok (.istore_n 1, 1) := by decide +kernel
theorem dX8_bits_18 : decode cX8_bits 18 = .ok (.iinc 2 1, 3) := by decide +kernel
theorem dX8_bits_21 : decode cX8_bits 21 = .ok (.goto (-17), 3) := by decide +kernel
theorem dX8_bits_24 : decode cX8_bits 24 = .ok (.iload_n 1, 1) := by decide +kernel
theorem dX8_bits_25 : decode cX8_bits 25 = .ok (.ireturn, 1) := by decide +kernel
set_option maxRecDepth 20000 in
theorem ggX8_paged_X8_sum : GoodIn wsX8_paged wsX8_sum := goodIn_r _ [8, 9, 10, 11, 12, 7, 13, 14, 15, 16, 17, 18, 19, 20, 21, 22, 23, 24, 25, 26, 27, 28, 29, 30, 31, 32, 33, 34, 35, 36, 37, 38, 39, 40, 41] (by decide +kernel) (by decide +kernel)
set_option maxRecDepth 20000 in
theorem gX8_paged_X8_sum : GoodIn wsX8_paged (wsV RX8 149 RX8 yX8_sum wsX8_sum) := goodIn_app (goodIn_of _ (by decide +kernel)) ggX8_paged_X8_sum
theorem dX8_paged_0 : decode cX8_paged 0 = .ok (.lconst 0, 1) := by decide +kernel
theorem dX8_paged_1 : decode cX8_paged 1 = .ok (.lstore_n 2, 1) := by decide +kernel
theorem dX8_paged_2 : decode cX8_paged 2 = .ok (.iconst 0, 1) := by decide +kernel
theorem dX8_paged_3 : decode cX8_paged 3 = .ok (.istore 4, 2) := by decide +kernel
theorem dX8_paged_5 : decode cX8_paged 5 = .ok (.iload 4, 2) := by decide +kernel
theorem dX8_paged_7 : decode cX8_paged 7 = .ok (.aload_n 0, 1) := by decide +kernel
theorem dX8_paged_8 : decode cX8_paged 8 = .ok (.getfield 215, 3) := by decide +kernel
theorem dX8_paged_11 : decode cX8_paged 11 = .ok (.if_icmp .ge 62, 3) := by decide +kernel
theorem dX8_paged_14 : decode cX8_paged 14 = .ok (.iload 4, 2) := by decide +kernel
theorem dX8_paged_16 : decode cX8_paged 16 = .ok (.istore 5, 2) := by decide +kernel
theorem dX8_paged_18 : decode cX8_paged 18 = .ok (.iload_n 1, 1) := by decide +kernel
theorem dX8_paged_19 : decode cX8_paged 19 = .ok (.iload 5, 2) := by decide +kernel
theorem dX8_paged_21 : decode cX8_paged 21 = .ok (.ishr, 1) := by decide +kernel
theorem dX8_paged_22 : decode cX8_paged 22 = .ok (.iconst 1, 1) := by decide +kernel
theorem dX8_paged_23 : decode cX8_paged 23 = .ok (.iand, 1) := by decide +kernel
theorem dX8_paged_24 : decode cX8_paged 24 = .ok (.ifCond .ne 9, 3) := by decide +kernel
theorem dX8_paged_27 : decode cX8_paged 27 = .ok (.iinc 5 1, 3) := by decide +kernel
theorem dX8_paged_30 : decode cX8_paged 30 = .ok (.goto (-12), 3) := by decide +kernel
theorem dX8_paged_33 : decode cX8_paged 33 = .ok (.lload_n 2, 1) := by decide +kernel
theorem dX8_paged_34 : decode cX8_paged 34 = .ok (.aload_n 0, 1) := by decide +kernel
theorem dX8_paged_35 : decode cX8_paged 35 = .ok (.getfield 40, 3) := by decide +kernel
theorem dX8_paged_38 : decode cX8_paged 38 = .ok (.aload_n 0, 1) := by decide +kernel
theorem dX8_paged_39 : decode cX8_paged 39 = .ok (.getfield 53, 3) := by decide +kernel
theorem dX8_paged_42 : decode cX8_paged 42 = .ok (.iload 4, 2) := by decide +kernel
theorem dX8_paged_44 : decode cX8_paged 44 = .ok (.iaload, 1) := by decide +kernel
theorem dX8_paged_45 : decode cX8_paged 45 = .ok (.laload, 1) := by decide +kernel
theorem dX8_paged_46 : decode cX8_paged 46 = .ok (.aload_n 0, 1) := by decide +kernel
theorem dX8_paged_47 : decode cX8_paged 47 = .ok (.aload_n 0, 1) := by decide +kernel
theorem dX8_paged_48 : decode cX8_paged 48 = .ok (.getfield 53, 3) := by decide +kernel
theorem dX8_paged_51 : decode cX8_paged 51 = .ok (.iload 4, 2) := by decide +kernel
theorem dX8_paged_53 : decode cX8_paged 53 = .ok (.iaload, 1) := by decide +kernel
theorem dX8_paged_54 : decode cX8_paged 54 = .ok (.invokevirtual 149, 3) := by decide +kernel
theorem dX8_paged_57 : decode cX8_paged 57 = .ok (.i2l, 1) := by decide +kernel
theorem dX8_paged_58 : decode cX8_paged 58 = .ok (.lmul, 1) := by decide +kernel
theorem dX8_paged_59 : decode cX8_paged 59 = .ok (.iload 5, 2) := by decide +kernel
theorem dX8_paged_61 : decode cX8_paged 61 = .ok (.iconst 1, 1) := by decide +kernel
theorem dX8_paged_62 : decode cX8_paged 62 = .ok (.iadd, 1) := by decide +kernel
theorem dX8_paged_63 : decode cX8_paged 63 = .ok (.i2l, 1) := by decide +kernel
theorem dX8_paged_64 : decode cX8_paged 64 = .ok (.lmul, 1) := by decide +kernel
theorem dX8_paged_65 : decode cX8_paged 65 = .ok (.ladd, 1) := by decide +kernel
theorem dX8_paged_66 : decode cX8_paged 66 = .ok (.lstore_n 2, 1) := by decide +kernel
theorem dX8_paged_67 : decode cX8_paged 67 = .ok (.iinc 4 1, 3) := by decide +kernel
theorem dX8_paged_70 : decode cX8_paged 70 = .ok (.goto (-65), 3) := by decide +kernel
theorem dX8_paged_73 : decode cX8_paged 73 = .ok (.lload_n 2, 1) := by decide +kernel
theorem dX8_paged_74 : decode cX8_paged 74 = .ok (.lreturn, 1) := by decide +kernel
theorem dX8_isFirst_0 : decode cX8_isFirst 0 = .ok (.iload_n 0, 1) := by decide +kernel
theorem dX8_isFirst_1 : decode cX8_isFirst 1 = .ok (.iload_n 1, 1) := by decide +kernel
theorem dX8_isFirst_2 : decode cX8_isFirst 2 = .ok (.ixor, 1) := by decide +kernel
theorem dX8_isFirst_3 : decode cX8_isFirst 3 = .ok (.istore_n 2, 1) := by decide +kernel
theorem dX8_isFirst_4 : decode cX8_isFirst 4 = .ok (.iload_n 2, 1) := by decide +kernel
theorem dX8_isFirst_5 : decode cX8_isFirst 5 = .ok (.iload_n 2, 1) := by decide +kernel
theorem dX8_isFirst_6 : decode cX8_isFirst 6 = .ok (.ineg, 1) := by decide +kernel
theorem dX8_isFirst_7 : decode cX8_isFirst 7 = .ok (.iand, 1) := by decide +kernel
theorem dX8_isFirst_8 : decode cX8_isFirst 8 = .ok (.istore_n 3, 1) := by decide +kernel
theorem dX8_isFirst_9 : decode cX8_isFirst 9 = .ok (.iload_n 0, 1) := by decide +kernel
theorem dX8_isFirst_10 : decode cX8_isFirst 10 = .ok (.iload_n 3, 1) := by decide +kernel
theorem dX8_isFirst_11 : decode cX8_isFirst 11 = .ok (.iand, 1) := by decide +kernel
theorem dX8_isFirst_12 : decode cX8_isFirst 12 = .ok (.ifCond .eq 7, 3) := by decide +kernel
theorem dX8_isFirst_15 : decode cX8_isFirst 15 = .ok (.iconst 1, 1) := by decide +kernel
theorem dX8_isFirst_16 : decode cX8_isFirst 16 = .ok (.goto 4, 3) := by decide +kernel
theorem dX8_isFirst_19 : decode cX8_isFirst 19 = .ok (.iconst 0, 1) := by decide +kernel
theorem dX8_isFirst_20 : decode cX8_isFirst 20 = .ok (.ireturn, 1) := by decide +kernel
set_option maxRecDepth 20000 in
theorem ggX8_splits_X8_ranks : GoodIn wsX8_splits wsX8_ranks := goodIn_r _ [8, 1, 9, 10, 11, 12, 13, 14, 7, 15, 16, 17, 18, 19, 20, 21, 22, 23, 24, 25, 26, 27, 28, 29, 30, 31, 32, 33, 34, 35, 36, 37, 38, 39, 40, 41, 42, 43, 44, 45, 46, 47, 48, 59, 60, 61, 62, 63, 64, 65, 66, 67, 68, 69, 70, 71, 72, 73, 74, 75, 76, 77, 78, 79, 80, 81, 82, 83, 84] (by decide +kernel) (by decide +kernel)
set_option maxRecDepth 20000 in
theorem gX8_splits_X8_ranks : GoodIn wsX8_splits (wsV RX8 218 RX8 yX8_ranks wsX8_ranks) := goodIn_app (goodIn_of _ (by decide +kernel)) ggX8_splits_X8_ranks
set_option maxRecDepth 20000 in
theorem ggX8_splits_X8_paged : GoodIn wsX8_splits wsX8_paged := goodIn_r _ [52, 1, 10, 11, 45, 46, 47, 7, 48, 16, 37, 38, 39, 40, 9, 31, 59, 60, 61, 62, 63, 64, 65, 66, 67, 68, 69, 70, 71, 72, 73, 74, 75, 76, 77, 78, 79, 80, 81, 82, 83, 84] (by decide +kernel) (by decide +kernel)
set_option maxRecDepth 20000 in
theorem gX8_splits_X8_paged : GoodIn wsX8_splits (wsV RX8 224 RX8 yX8_paged wsX8_paged) := goodIn_app (goodIn_of _ (by decide +kernel)) ggX8_splits_X8_paged
set_option maxRecDepth 20000 in
theorem ggX8_splits_X8_bits : GoodIn wsX8_splits wsX8_bits := goodIn_r _ [55] (by decide +kernel) (by decide +kernel)
set_option maxRecDepth 20000 in
theorem gX8_splits_X8_bits : GoodIn wsX8_splits (va_wsS RX8 227 yX8_bits wsX8_bits) := goodIn_app (goodIn_of _ (by decide +kernel)) ggX8_splits_X8_bits
set_option maxRecDepth 20000 in
theorem ggX8_splits_X8_isFirst : GoodIn wsX8_splits wsX8_isFirst := goodIn_r _ [58] (by decide +kernel) (by decide +kernel)
set_option maxRecDepth 20000 in
theorem gX8_splits_X8_isFirst : GoodIn wsX8_splits (va_wsS RX8 230 yX8_isFirst wsX8_isFirst) := goodIn_app (goodIn_of _ (by decide +kernel)) ggX8_splits_X8_isFirst
theorem dX8_splits_0 : decode cX8_splits 0 = .ok (.aload_n 0, 1) := by decide +kernel
theorem dX8_splits_1 : decode cX8_splits 1 = .ok (.invokevirtual 218, 3) := by decide +kernel
theorem dX8_splits_4 : decode cX8_splits 4 = .ok (.iconst 1, 1) := by decide +kernel
theorem dX8_splits_5 : decode cX8_splits 5 = .ok (.aload_n 0, 1) := by decide +kernel
theorem dX8_splits_6 : decode cX8_splits 6 = .ok (.getfield 215, 3) := by decide +kernel
theorem dX8_splits_9 : decode cX8_splits 9 = .ok (.iconst 1, 1) := by decide +kernel
theorem dX8_splits_10 : decode cX8_splits 10 = .ok (.isub, 1) := by decide +kernel
theorem dX8_splits_11 : decode cX8_splits 11 = .ok (.ishl, 1) := by decide +kernel
theorem dX8_splits_12 : decode cX8_splits 12 = .ok (.istore_n 1, 1) := by decide +kernel
theorem dX8_splits_13 : decode cX8_splits 13 = .ok (.aload_n 0, 1) := by decide +kernel
theorem dX8_splits_14 : decode cX8_splits 14 = .ok (.iload_n 1, 1) := by decide +kernel
theorem dX8_splits_15 : decode cX8_splits 15 = .ok (.putfield 221, 3) := by decide +kernel
theorem dX8_splits_18 : decode cX8_splits 18 = .ok (.aload_n 0, 1) := by decide +kernel
theorem dX8_splits_19 : decode cX8_splits 19 = .ok (.iload_n 1, 1) := by decide +kernel
theorem dX8_splits_20 : decode cX8_splits 20 = .ok (.invokevirtual 224, 3) := by decide +kernel
theorem dX8_splits_23 : decode cX8_splits 23 = .ok (.lstore_n 2, 1) := by decide +kernel
theorem dX8_splits_24 : decode cX8_splits 24 = .ok (.iload_n 1, 1) := by decide +kernel
theorem dX8_splits_25 : decode cX8_splits 25 = .ok (.iconst 1, 1) := by decide +kernel
theorem dX8_splits_26 : decode cX8_splits 26 = .ok (.iadd, 1) := by decide +kernel
theorem dX8_splits_27 : decode cX8_splits 27 = .ok (.istore 4, 2) := by decide +kernel
theorem dX8_splits_29 : decode cX8_splits 29 = .ok (.iload 4, 2) := by decide +kernel
theorem dX8_splits_31 : decode cX8_splits 31 = .ok (.iconst 2, 1) := by decide +kernel
theorem dX8_splits_32 : decode cX8_splits 32 = .ok (.iload_n 1, 1) := by decide +kernel
theorem dX8_splits_33 : decode cX8_splits 33 = .ok (.imul, 1) := by decide +kernel
theorem dX8_splits_34 : decode cX8_splits 34 = .ok (.if_icmp .ge 130, 3) := by decide +kernel
theorem dX8_splits_37 : decode cX8_splits 37 = .ok (.iload 4, 2) := by decide +kernel
theorem dX8_splits_39 : decode cX8_splits 39 = .ok (.invokestatic 227, 3) := by decide +kernel
theorem dX8_splits_42 : decode cX8_splits 42 = .ok (.aload_n 0, 1) := by decide +kernel
theorem dX8_splits_43 : decode cX8_splits 43 = .ok (.getfield 16, 3) := by decide +kernel
theorem dX8_splits_46 : decode cX8_splits 46 = .ok (.iconst 0, 1) := by decide +kernel
theorem dX8_splits_47 : decode cX8_splits 47 = .ok (.iaload, 1) := by decide +kernel
theorem dX8_splits_48 : decode cX8_splits 48 = .ok (.if_icmp .gt 12, 3) := by decide +kernel
theorem dX8_splits_51 : decode cX8_splits 51 = .ok (.aload_n 0, 1) := by decide +kernel
theorem dX8_splits_52 : decode cX8_splits 52 = .ok (.iload 4, 2) := by decide +kernel
theorem dX8_splits_54 : decode cX8_splits 54 = .ok (.invokevirtual 224, 3) := by decide +kernel
theorem dX8_splits_57 : decode cX8_splits 57 = .ok (.goto 6, 3) := by decide +kernel
theorem dX8_splits_60 : decode cX8_splits 60 = .ok (.lload_n 2, 1) := by decide +kernel
theorem dX8_splits_61 : decode cX8_splits 61 = .ok (.lconst 1, 1) := by decide +kernel
theorem dX8_splits_62 : decode cX8_splits 62 = .ok (.ladd, 1) := by decide +kernel
theorem dX8_splits_63 : decode cX8_splits 63 = .ok (.lstore 5, 2) := by decide +kernel
theorem dX8_splits_65 : decode cX8_splits 65 = .ok (.lload 5, 2) := by decide +kernel
theorem dX8_splits_67 : decode cX8_splits 67 = .ok (.lload_n 2, 1) := by decide +kernel
theorem dX8_splits_68 : decode cX8_splits 68 = .ok (.lcmp, 1) := by decide +kernel
theorem dX8_splits_69 : decode cX8_splits 69 = .ok (.ifCond .lt 52, 3) := by decide +kernel
theorem dX8_splits_72 : decode cX8_splits 72 = .ok (.lload 5, 2) := by decide +kernel
theorem dX8_splits_74 : decode cX8_splits 74 = .ok (.lload_n 2, 1) := by decide +kernel
theorem dX8_splits_75 : decode cX8_splits 75 = .ok (.lcmp, 1) := by decide +kernel
theorem dX8_splits_76 : decode cX8_splits 76 = .ok (.ifCond .ne 49, 3) := by decide +kernel
theorem dX8_splits_79 : decode cX8_splits 79 = .ok (.iload 4, 2) := by decide +kernel
theorem dX8_splits_81 : decode cX8_splits 81 = .ok (.invokestatic 227, 3) := by decide +kernel
theorem dX8_splits_84 : decode cX8_splits 84 = .ok (.aload_n 0, 1) := by decide +kernel
theorem dX8_splits_85 : decode cX8_splits 85 = .ok (.getfield 221, 3) := by decide +kernel
theorem dX8_splits_88 : decode cX8_splits 88 = .ok (.invokestatic 227, 3) := by decide +kernel
theorem dX8_splits_91 : decode cX8_splits 91 = .ok (.if_icmp .lt 30, 3) := by decide +kernel
theorem dX8_splits_94 : decode cX8_splits 94 = .ok (.iload 4, 2) := by decide +kernel
theorem dX8_splits_96 : decode cX8_splits 96 = .ok (.invokestatic 227, 3) := by decide +kernel
theorem dX8_splits_99 : decode cX8_splits 99 = .ok (.aload_n 0, 1) := by decide +kernel
theorem dX8_splits_100 : decode cX8_splits 100 = .ok (.getfield 221, 3) := by decide +kernel
theorem dX8_splits_103 : decode cX8_splits 103 = .ok (.invokestatic 227, 3) := by decide +kernel
theorem dX8_splits_106 : decode cX8_splits 106 = .ok (.if_icmp .ne 19, 3) := by decide +kernel
theorem dX8_splits_109 : decode cX8_splits 109 = .ok (.iload 4, 2) := by decide +kernel
theorem dX8_splits_111 : decode cX8_splits 111 = .ok (.aload_n 0, 1) := by decide +kernel
theorem dX8_splits_112 : decode cX8_splits 112 = .ok (.getfield 221, 3) := by decide +kernel
theorem dX8_splits_115 : decode cX8_splits 115 = .ok (.invokestatic 230, 3) := by decide +kernel
theorem dX8_splits_118 : decode cX8_splits 118 = .ok (.ifCond .eq 7, 3) := by decide +kernel
theorem dX8_splits_121 : decode cX8_splits 121 = .ok (.iconst 1, 1) := by decide +kernel
theorem dX8_splits_122 : decode cX8_splits 122 = .ok (.goto 4, 3) := by decide +kernel
theorem dX8_splits_125 : decode cX8_splits 125 = .ok (.iconst 0, 1) := by decide +kernel
theorem dX8_splits_126 : decode cX8_splits 126 = .ok (.istore 7, 2) := by decide +kernel
theorem dX8_splits_128 : decode cX8_splits 128 = .ok (.iload 7, 2) := by decide +kernel
theorem dX8_splits_130 : decode cX8_splits 130 = .ok (.ifCond .eq 8, 3) := by decide +kernel
theorem dX8_splits_133 : decode cX8_splits 133 = .ok (.lload 5, 2) := by decide +kernel
theorem dX8_splits_135 : decode cX8_splits 135 = .ok (.goto 4, 3) := by decide +kernel
theorem dX8_splits_138 : decode cX8_splits 138 = .ok (.lload_n 2, 1) := by decide +kernel
theorem dX8_splits_139 : decode cX8_splits 139 = .ok (.lstore_n 2, 1) := by decide +kernel
theorem dX8_splits_140 : decode cX8_splits 140 = .ok (.aload_n 0, 1) := by decide +kernel
theorem dX8_splits_141 : decode cX8_splits 141 = .ok (.iload 7, 2) := by decide +kernel
theorem dX8_splits_143 : decode cX8_splits 143 = .ok (.ifCond .eq 8, 3) := by decide +kernel
theorem dX8_splits_146 : decode cX8_splits 146 = .ok (.iload 4, 2) := by decide +kernel
theorem dX8_splits_148 : decode cX8_splits 148 = .ok (.goto 7, 3) := by decide +kernel
theorem dX8_splits_151 : decode cX8_splits 151 = .ok (.aload_n 0, 1) := by decide +kernel
theorem dX8_splits_152 : decode cX8_splits 152 = .ok (.getfield 221, 3) := by decide +kernel
theorem dX8_splits_155 : decode cX8_splits 155 = .ok (.putfield 221, 3) := by decide +kernel
theorem dX8_splits_158 : decode cX8_splits 158 = .ok (.iinc 4 1, 3) := by decide +kernel
theorem dX8_splits_161 : decode cX8_splits 161 = .ok (.goto (-132), 3) := by decide +kernel
theorem dX8_splits_164 : decode cX8_splits 164 = .ok (.return_, 1) := by decide +kernel
set_option maxRecDepth 20000 in
theorem ggX8_round_X8_splits : GoodIn wsX8_round wsX8_splits := goodIn_r _ [8, 2, 1, 9, 10, 11, 12, 7, 13, 14, 15, 3, 16, 17, 18, 19, 20, 21, 22, 23, 24, 25, 26, 27, 28, 29, 30, 31, 32, 33, 34, 35, 36, 37, 38, 39, 40, 41, 42, 43, 44, 45, 46, 47, 48, 49, 50, 51, 52, 53, 54, 55, 56, 57, 58, 59, 60, 61, 62, 63, 64, 65, 66, 67, 68, 69, 70, 71, 72, 73, 74, 75, 76, 77, 78, 79, 80, 81, 82, 83, 84, 85, 86, 87, 88] (by decide +kernel) (by decide +kernel)
set_option maxRecDepth 20000 in
theorem gX8_round_X8_splits : GoodIn wsX8_round (wsV RX8 233 RX8 yX8_splits wsX8_splits) := goodIn_app (goodIn_of _ (by decide +kernel)) ggX8_round_X8_splits
set_option maxRecDepth 20000 in
theorem ggX8_round_X8_bits : GoodIn wsX8_round wsX8_bits := goodIn_r _ [59] (by decide +kernel) (by decide +kernel)
set_option maxRecDepth 20000 in
theorem gX8_round_X8_bits : GoodIn wsX8_round (va_wsS RX8 227 yX8_bits wsX8_bits) := goodIn_app (goodIn_of _ (by decide +kernel)) ggX8_round_X8_bits
theorem dX8_round_0 : decode cX8_round 0 = .ok (.iload_n 1, 1) := by decide +kernel
theorem dX8_round_1 : decode cX8_round 1 = .ok (.iconst (-1), 1) := by decide +kernel
theorem dX8_round_2 : decode cX8_round 2 = .ok (.if_icmp .ge 5, 3) := by decide +kernel
theorem dX8_round_5 : decode cX8_round 5 = .ok (.iconst (-1), 1) := by decide +kernel
theorem dX8_round_6 : decode cX8_round 6 = .ok (.ireturn, 1) := by decide +kernel
theorem dX8_round_7 : decode cX8_round 7 = .ok (.aload_n 0, 1) := by decide +kernel
theorem dX8_round_8 : decode cX8_round 8 = .ok (.invokevirtual 233, 3) := by decide +kernel
theorem dX8_round_11 : decode cX8_round 11 = .ok (.iload_n 1, 1) := by decide +kernel
theorem dX8_round_12 : decode cX8_round 12 = .ok (.ifCond .ge 11, 3) := by decide +kernel
theorem dX8_round_15 : decode cX8_round 15 = .ok (.aload_n 0, 1) := by decide +kernel
theorem dX8_round_16 : decode cX8_round 16 = .ok (.getfield 221, 3) := by decide +kernel
theorem dX8_round_19 : decode cX8_round 19 = .ok (.invokestatic 227, 3) := by decide +kernel
theorem dX8_round_22 : decode cX8_round 22 = .ok (.ireturn, 1) := by decide +kernel
theorem dX8_round_23 : decode cX8_round 23 = .ok (.iconst 0, 1) := by decide +kernel
theorem dX8_round_24 : decode cX8_round 24 = .ok (.istore_n 2, 1) := by decide +kernel
theorem dX8_round_25 : decode cX8_round 25 = .ok (.iconst 0, 1) := by decide +kernel
theorem dX8_round_26 : decode cX8_round 26 = .ok (.istore_n 3, 1) := by decide +kernel
theorem dX8_round_27 : decode cX8_round 27 = .ok (.iconst 0, 1) := by decide +kernel
theorem dX8_round_28 : decode cX8_round 28 = .ok (.istore 4, 2) := by decide +kernel
theorem dX8_round_30 : decode cX8_round 30 = .ok (.iload 4, 2) := by decide +kernel
theorem dX8_round_32 : decode cX8_round 32 = .ok (.aload_n 0, 1) := by decide +kernel
theorem dX8_round_33 : decode cX8_round 33 = .ok (.getfield 215, 3) := by decide +kernel
theorem dX8_round_36 : decode cX8_round 36 = .ok (.if_icmp .ge 42, 3) := by decide +kernel
theorem dX8_round_39 : decode cX8_round 39 = .ok (.iload_n 3, 1) := by decide +kernel
theorem dX8_round_40 : decode cX8_round 40 = .ok (.iload_n 2, 1) := by decide +kernel
theorem dX8_round_41 : decode cX8_round 41 = .ok (.iload_n 1, 1) := by decide +kernel
theorem dX8_round_42 : decode cX8_round 42 = .ok (.if_icmp .ne 15, 3) := by decide +kernel
theorem dX8_round_45 : decode cX8_round 45 = .ok (.iconst 1, 1) := by decide +kernel
theorem dX8_round_46 : decode cX8_round 46 = .ok (.aload_n 0, 1) := by decide +kernel
theorem dX8_round_47 : decode cX8_round 47 = .ok (.getfield 53, 3) := by decide +kernel
theorem dX8_round_50 : decode cX8_round 50 = .ok (.iload 4, 2) := by decide +kernel
theorem dX8_round_52 : decode cX8_round 52 = .ok (.iaload, 1) := by decide +kernel
theorem dX8_round_53 : decode cX8_round 53 = .ok (.ishl, 1) := by decide +kernel
theorem dX8_round_54 : decode cX8_round 54 = .ok (.goto 4, 3) := by decide +kernel
theorem dX8_round_57 : decode cX8_round 57 = .ok (.iconst 0, 1) := by decide +kernel
theorem dX8_round_58 : decode cX8_round 58 = .ok (.ior, 1) := by decide +kernel
theorem dX8_round_59 : decode cX8_round 59 = .ok (.istore_n 3, 1) := by decide +kernel
theorem dX8_round_60 : decode cX8_round 60 = .ok (.iload_n 2, 1) := by decide +kernel
theorem dX8_round_61 : decode cX8_round 61 = .ok (.aload_n 0, 1) := by decide +kernel
theorem dX8_round_62 : decode cX8_round 62 = .ok (.getfield 221, 3) := by decide +kernel
theorem dX8_round_65 : decode cX8_round 65 = .ok (.iload 4, 2) := by decide +kernel
theorem dX8_round_67 : decode cX8_round 67 = .ok (.ishr, 1) := by decide +kernel
theorem dX8_round_68 : decode cX8_round 68 = .ok (.iconst 1, 1) := by decide +kernel
theorem dX8_round_69 : decode cX8_round 69 = .ok (.iand, 1) := by decide +kernel
theorem dX8_round_70 : decode cX8_round 70 = .ok (.iadd, 1) := by decide +kernel
theorem dX8_round_71 : decode cX8_round 71 = .ok (.istore_n 2, 1) := by decide +kernel
theorem dX8_round_72 : decode cX8_round 72 = .ok (.iinc 4 1, 3) := by decide +kernel
theorem dX8_round_75 : decode cX8_round 75 = .ok (.goto (-45), 3) := by decide +kernel
theorem dX8_round_78 : decode cX8_round 78 = .ok (.iload_n 3, 1) := by decide +kernel
theorem dX8_round_79 : decode cX8_round 79 = .ok (.ifCond .ne 8, 3) := by decide +kernel
theorem dX8_round_82 : decode cX8_round 82 = .ok (.bipush (-4), 2) := by decide +kernel
theorem dX8_round_84 : decode cX8_round 84 = .ok (.goto 4, 3) := by decide +kernel
theorem dX8_round_87 : decode cX8_round 87 = .ok (.iload_n 3, 1) := by decide +kernel
theorem dX8_round_88 : decode cX8_round 88 = .ok (.ireturn, 1) := by decide +kernel
set_option maxRecDepth 20000 in
theorem ggX8_page_X8_splits : GoodIn wsX8_page wsX8_splits := goodIn_r _ [8, 9, 3, 10, 11, 12, 13, 7, 14, 15, 16, 1, 17, 18, 19, 20, 2, 21, 22, 23, 24, 25, 26, 27, 28, 29, 30, 31, 32, 33, 34, 35, 36, 37, 38, 39, 40, 41, 42, 43, 44, 45, 46, 47, 48, 49, 50, 51, 52, 53, 54, 55, 56, 57, 58, 59, 60, 61, 62, 72, 73, 74, 75, 76, 77, 78, 79, 80, 81, 82, 83, 84, 85, 86, 87, 88, 89, 90, 91, 92, 93, 94, 95, 96, 97] (by decide +kernel) (by decide +kernel)
set_option maxRecDepth 20000 in
theorem gX8_page_X8_splits : GoodIn wsX8_page (wsV RX8 233 RX8 yX8_splits wsX8_splits) := goodIn_app (goodIn_of _ (by decide +kernel)) ggX8_page_X8_splits
set_option maxRecDepth 20000 in
theorem ggX8_page_X8_keeps : GoodIn wsX8_page wsX8_keeps := goodIn_r _ [66, 67, 68, 2, 72, 73, 74, 75, 76, 77, 78, 79, 80, 81, 82, 83, 84, 85, 86, 87, 88, 89, 90, 91, 92, 93, 94, 95, 96, 97] (by decide +kernel) (by decide +kernel)
set_option maxRecDepth 20000 in
theorem gX8_page_X8_keeps : GoodIn wsX8_page (wsV RX8 139 RX8 yX8_keeps wsX8_keeps) := goodIn_app (goodIn_of _ (by decide +kernel)) ggX8_page_X8_keeps
set_option maxRecDepth 20000 in
theorem ggX8_page_X8_registers : GoodIn wsX8_page wsX8_registers := goodIn_r _ [71] (by decide +kernel) (by decide +kernel)
set_option maxRecDepth 20000 in
theorem gX8_page_X8_registers : GoodIn wsX8_page (va_wsS RX8 142 yX8_registers wsX8_registers) := goodIn_app (goodIn_of _ (by decide +kernel)) ggX8_page_X8_registers
theorem dX8_page_0 : decode cX8_page 0 = .ok (.aload_n 0, 1) := by decide +kernel
theorem dX8_page_1 : decode cX8_page 1 = .ok (.invokevirtual 233, 3) := by decide +kernel
theorem dX8_page_4 : decode cX8_page 4 = .ok (.iconst 0, 1) := by decide +kernel
theorem dX8_page_5 : decode cX8_page 5 = .ok (.istore_n 1, 1) := by decide +kernel
theorem dX8_page_6 : decode cX8_page 6 = .ok (.aload_n 0, 1) := by decide +kernel
theorem dX8_page_7 : decode cX8_page 7 = .ok (.getfield 53, 3) := by decide +kernel
theorem dX8_page_10 : decode cX8_page 10 = .ok (.iload_n 1, 1) := by decide +kernel
theorem dX8_page_11 : decode cX8_page 11 = .ok (.iaload, 1) := by decide +kernel
theorem dX8_page_12 : decode cX8_page 12 = .ok (.aload_n 0, 1) := by decide +kernel
theorem dX8_page_13 : decode cX8_page 13 = .ok (.getfield 19, 3) := by decide +kernel
theorem dX8_page_16 : decode cX8_page 16 = .ok (.bipush 14, 2) := by decide +kernel
theorem dX8_page_18 : decode cX8_page 18 = .ok (.iaload, 1) := by decide +kernel
theorem dX8_page_19 : decode cX8_page 19 = .ok (.if_icmp .eq 9, 3) := by decide +kernel
theorem dX8_page_22 : decode cX8_page 22 = .ok (.iinc 1 1, 3) := by decide +kernel
theorem dX8_page_25 : decode cX8_page 25 = .ok (.goto (-19), 3) := by decide +kernel
theorem dX8_page_28 : decode cX8_page 28 = .ok (.aload_n 0, 1) := by decide +kernel
theorem dX8_page_29 : decode cX8_page 29 = .ok (.getfield 221, 3) := by decide +kernel
theorem dX8_page_32 : decode cX8_page 32 = .ok (.iload_n 1, 1) := by decide +kernel
theorem dX8_page_33 : decode cX8_page 33 = .ok (.ishr, 1) := by decide +kernel
theorem dX8_page_34 : decode cX8_page 34 = .ok (.iconst 1, 1) := by decide +kernel
theorem dX8_page_35 : decode cX8_page 35 = .ok (.iand, 1) := by decide +kernel
theorem dX8_page_36 : decode cX8_page 36 = .ok (.ifCond .ne 9, 3) := by decide +kernel
theorem dX8_page_39 : decode cX8_page 39 = .ok (.iinc 1 1, 3) := by decide +kernel
theorem dX8_page_42 : decode cX8_page 42 = .ok (.goto (-14), 3) := by decide +kernel
theorem dX8_page_45 : decode cX8_page 45 = .ok (.aload_n 0, 1) := by decide +kernel
theorem dX8_page_46 : decode cX8_page 46 = .ok (.invokevirtual 139, 3) := by decide +kernel
theorem dX8_page_49 : decode cX8_page 49 = .ok (.aload_n 0, 1) := by decide +kernel
theorem dX8_page_50 : decode cX8_page 50 = .ok (.getfield 19, 3) := by decide +kernel
theorem dX8_page_53 : decode cX8_page 53 = .ok (.bipush 19, 2) := by decide +kernel
theorem dX8_page_55 : decode cX8_page 55 = .ok (.dup2, 1) := by decide +kernel
theorem dX8_page_56 : decode cX8_page 56 = .ok (.iaload, 1) := by decide +kernel
theorem dX8_page_57 : decode cX8_page 57 = .ok (.iload_n 1, 1) := by decide +kernel
theorem dX8_page_58 : decode cX8_page 58 = .ok (.iconst 1, 1) := by decide +kernel
theorem dX8_page_59 : decode cX8_page 59 = .ok (.iadd, 1) := by decide +kernel
theorem dX8_page_60 : decode cX8_page 60 = .ok (.iadd, 1) := by decide +kernel
theorem dX8_page_61 : decode cX8_page 61 = .ok (.iastore, 1) := by decide +kernel
theorem dX8_page_62 : decode cX8_page 62 = .ok (.aload_n 0, 1) := by decide +kernel
theorem dX8_page_63 : decode cX8_page 63 = .ok (.getfield 19, 3) := by decide +kernel
theorem dX8_page_66 : decode cX8_page 66 = .ok (.invokestatic 142, 3) := by decide +kernel
theorem dX8_page_69 : decode cX8_page 69 = .ok (.iload_n 1, 1) := by decide +kernel
theorem dX8_page_70 : decode cX8_page 70 = .ok (.iconst 1, 1) := by decide +kernel
theorem dX8_page_71 : decode cX8_page 71 = .ok (.iadd, 1) := by decide +kernel
theorem dX8_page_72 : decode cX8_page 72 = .ok (.ireturn, 1) := by decide +kernel
set_option maxRecDepth 20000 in
theorem ggX8_walk_X8_isIn : GoodIn wsX8_walk wsX8_isIn := goodIn_r _ [11] (by decide +kernel) (by decide +kernel)
set_option maxRecDepth 20000 in
theorem gX8_walk_X8_isIn : GoodIn wsX8_walk (va_wsS RX8 98 yX8_isIn wsX8_isIn) := goodIn_app (goodIn_of _ (by decide +kernel)) ggX8_walk_X8_isIn
set_option maxRecDepth 20000 in
theorem ggX8_walk_X8_sum : GoodIn wsX8_walk wsX8_sum := goodIn_r _ [15, 2, 16, 17, 18, 10, 19, 6, 7, 39, 40, 41, 42, 43, 44, 45, 46, 47, 48, 49, 50, 51, 52, 53, 54, 55, 56, 57, 58, 59, 60, 61, 62, 63, 64] (by decide +kernel) (by decide +kernel)
set_option maxRecDepth 20000 in
theorem gX8_walk_X8_sum : GoodIn wsX8_walk (wsV RX8 149 RX8 yX8_sum wsX8_sum) := goodIn_app (goodIn_of _ (by decide +kernel)) ggX8_walk_X8_sum
set_option maxRecDepth 20000 in
theorem ggX8_walk_X8_goes : GoodIn wsX8_walk wsX8_goes := goodIn_r _ [23, 24, 25, 26, 10, 27, 2, 28, 29, 30, 31, 6, 32, 33, 34, 35, 7, 36, 37, 38, 39, 40, 41, 42, 43, 44, 45, 46, 47, 48, 49, 50, 51, 52, 53, 54, 55, 56, 57, 58, 59, 60, 61, 62, 63, 64] (by decide +kernel) (by decide +kernel)
set_option maxRecDepth 20000 in
theorem gX8_walk_X8_goes : GoodIn wsX8_walk (wsV RX8 166 RX8 yX8_goes wsX8_goes) := goodIn_app (goodIn_of _ (by decide +kernel)) ggX8_walk_X8_goes
theorem dX8_walk_0 : decode cX8_walk 0 = .ok (.iload_n 1, 1) := by decide +kernel
theorem dX8_walk_1 : decode cX8_walk 1 = .ok (.iconst 0, 1) := by decide +kernel
theorem dX8_walk_2 : decode cX8_walk 2 = .ok (.sipush 9999, 3) := by decide +kernel
theorem dX8_walk_5 : decode cX8_walk 5 = .ok (.invokestatic 98, 3) := by decide +kernel
theorem dX8_walk_8 : decode cX8_walk 8 = .ok (.ifCond .eq 22, 3) := by decide +kernel
theorem dX8_walk_11 : decode cX8_walk 11 = .ok (.iload_n 2, 1) := by decide +kernel
theorem dX8_walk_12 : decode cX8_walk 12 = .ok (.iconst 1, 1) := by decide +kernel
theorem dX8_walk_13 : decode cX8_walk 13 = .ok (.bipush 60, 2) := by decide +kernel
theorem dX8_walk_15 : decode cX8_walk 15 = .ok (.invokestatic 98, 3) := by decide +kernel
theorem dX8_walk_18 : decode cX8_walk 18 = .ok (.ifCond .eq 12, 3) := by decide +kernel
theorem dX8_walk_21 : decode cX8_walk 21 = .ok (.iload_n 3, 1) := by decide +kernel
theorem dX8_walk_22 : decode cX8_walk 22 = .ok (.iconst 0, 1) := by decide +kernel
theorem dX8_walk_23 : decode cX8_walk 23 = .ok (.iconst 2, 1) := by decide +kernel
theorem dX8_walk_24 : decode cX8_walk 24 = .ok (.invokestatic 98, 3) := by decide +kernel
theorem dX8_walk_27 : decode cX8_walk 27 = .ok (.ifCond .ne 5, 3) := by decide +kernel
theorem dX8_walk_30 : decode cX8_walk 30 = .ok (.iconst (-1), 1) := by decide +kernel
theorem dX8_walk_31 : decode cX8_walk 31 = .ok (.ireturn, 1) := by decide +kernel
theorem dX8_walk_32 : decode cX8_walk 32 = .ok (.iconst 0, 1) := by decide +kernel
theorem dX8_walk_33 : decode cX8_walk 33 = .ok (.istore 4, 2) := by decide +kernel
theorem dX8_walk_35 : decode cX8_walk 35 = .ok (.iload 4, 2) := by decide +kernel
theorem dX8_walk_37 : decode cX8_walk 37 = .ok (.bipush 20, 2) := by decide +kernel
theorem dX8_walk_39 : decode cX8_walk 39 = .ok (.if_icmp .ge 23, 3) := by decide +kernel
theorem dX8_walk_42 : decode cX8_walk 42 = .ok (.aload_n 0, 1) := by decide +kernel
theorem dX8_walk_43 : decode cX8_walk 43 = .ok (.getfield 56, 3) := by decide +kernel
theorem dX8_walk_46 : decode cX8_walk 46 = .ok (.iload 4, 2) := by decide +kernel
theorem dX8_walk_48 : decode cX8_walk 48 = .ok (.aload_n 0, 1) := by decide +kernel
theorem dX8_walk_49 : decode cX8_walk 49 = .ok (.getfield 19, 3) := by decide +kernel
theorem dX8_walk_52 : decode cX8_walk 52 = .ok (.iload 4, 2) := by decide +kernel
theorem dX8_walk_54 : decode cX8_walk 54 = .ok (.iaload, 1) := by decide +kernel
theorem dX8_walk_55 : decode cX8_walk 55 = .ok (.iastore, 1) := by decide +kernel
theorem dX8_walk_56 : decode cX8_walk 56 = .ok (.iinc 4 1, 3) := by decide +kernel
theorem dX8_walk_59 : decode cX8_walk 59 = .ok (.goto (-24), 3) := by decide +kernel
theorem dX8_walk_62 : decode cX8_walk 62 = .ok (.iconst 0, 1) := by decide +kernel
theorem dX8_walk_63 : decode cX8_walk 63 = .ok (.istore 4, 2) := by decide +kernel
theorem dX8_walk_65 : decode cX8_walk 65 = .ok (.iconst 0, 1) := by decide +kernel
theorem dX8_walk_66 : decode cX8_walk 66 = .ok (.istore 5, 2) := by decide +kernel
theorem dX8_walk_68 : decode cX8_walk 68 = .ok (.iload 5, 2) := by decide +kernel
theorem dX8_walk_70 : decode cX8_walk 70 = .ok (.iload_n 2, 1) := by decide +kernel
theorem dX8_walk_71 : decode cX8_walk 71 = .ok (.if_icmp .ge 164, 3) := by decide +kernel
theorem dX8_walk_74 : decode cX8_walk 74 = .ok (.ldc2_w 236, 3) := by decide +kernel
theorem dX8_walk_77 : decode cX8_walk 77 = .ok (.iload_n 1, 1) := by decide +kernel
theorem dX8_walk_78 : decode cX8_walk 78 = .ok (.i2l, 1) := by decide +kernel
theorem dX8_walk_79 : decode cX8_walk 79 = .ok (.lmul, 1) := by decide +kernel
theorem dX8_walk_80 : decode cX8_walk 80 = .ok (.ldc2_w 238, 3) := by decide +kernel
theorem dX8_walk_83 : decode cX8_walk 83 = .ok (.iload 5, 2) := by decide +kernel
theorem dX8_walk_85 : decode cX8_walk 85 = .ok (.i2l, 1) := by decide +kernel
theorem dX8_walk_86 : decode cX8_walk 86 = .ok (.lmul, 1) := by decide +kernel
theorem dX8_walk_87 : decode cX8_walk 87 = .ok (.ladd, 1) := by decide +kernel
theorem dX8_walk_88 : decode cX8_walk 88 = .ok (.lconst 1, 1) := by decide +kernel
theorem dX8_walk_89 : decode cX8_walk 89 = .ok (.ladd, 1) := by decide +kernel
theorem dX8_walk_90 : decode cX8_walk 90 = .ok (.lstore 6, 2) := by decide +kernel
theorem dX8_walk_92 : decode cX8_walk 92 = .ok (.aload_n 0, 1) := by decide +kernel
theorem dX8_walk_93 : decode cX8_walk 93 = .ok (.getfield 56, 3) := by decide +kernel
theorem dX8_walk_96 : decode cX8_walk 96 = .ok (.bipush 14, 2) := by decide +kernel
theorem dX8_walk_98 : decode cX8_walk 98 = .ok (.iaload, 1) := by decide +kernel
theorem dX8_walk_99 : decode cX8_walk 99 = .ok (.istore 8, 2) := by decide +kernel
theorem dX8_walk_101 : decode cX8_walk 101 = .ok (.lload 6, 2) := by decide +kernel
theorem dX8_walk_103 : decode cX8_walk 103 = .ok (.lload 6, 2) := by decide +kernel
theorem dX8_walk_105 : decode cX8_walk 105 = .ok (.lmul, 1) := by decide +kernel
theorem dX8_walk_106 : decode cX8_walk 106 = .ok (.ldc2_w 240, 3) := by decide +kernel
theorem dX8_walk_109 : decode cX8_walk 109 = .ok (.lrem, 1) := by decide +kernel
theorem dX8_walk_110 : decode cX8_walk 110 = .ok (.l2i, 1) := by decide +kernel
theorem dX8_walk_111 : decode cX8_walk 111 = .ok (.aload_n 0, 1) := by decide +kernel
theorem dX8_walk_112 : decode cX8_walk 112 = .ok (.iload 8, 2) := by decide +kernel
theorem dX8_walk_114 : decode cX8_walk 114 = .ok (.invokevirtual 149, 3) := by decide +kernel
theorem dX8_walk_117 : decode cX8_walk 117 = .ok (.irem, 1) := by decide +kernel
theorem dX8_walk_118 : decode cX8_walk 118 = .ok (.istore 9, 2) := by decide +kernel
theorem dX8_walk_120 : decode cX8_walk 120 = .ok (.iload 8, 2) := by decide +kernel
theorem dX8_walk_122 : decode cX8_walk 122 = .ok (.istore 10, 2) := by decide +kernel
theorem dX8_walk_124 : decode cX8_walk 124 = .ok (.aload_n 0, 1) := by decide +kernel
theorem dX8_walk_125 : decode cX8_walk 125 = .ok (.getfield 19, 3) := by decide +kernel
theorem dX8_walk_128 : decode cX8_walk 128 = .ok (.iload 8, 2) := by decide +kernel
theorem dX8_walk_130 : decode cX8_walk 130 = .ok (.iaload, 1) := by decide +kernel
theorem dX8_walk_131 : decode cX8_walk 131 = .ok (.istore 11, 2) := by decide +kernel
theorem dX8_walk_133 : decode cX8_walk 133 = .ok (.iconst 0, 1) := by decide +kernel
theorem dX8_walk_134 : decode cX8_walk 134 = .ok (.istore 12, 2) := by decide +kernel
theorem dX8_walk_136 : decode cX8_walk 136 = .ok (.iload 12, 2) := by decide +kernel
theorem dX8_walk_138 : decode cX8_walk 138 = .ok (.aload_n 0, 1) := by decide +kernel
theorem dX8_walk_139 : decode cX8_walk 139 = .ok (.getfield 76, 3) := by decide +kernel
theorem dX8_walk_142 : decode cX8_walk 142 = .ok (.if_icmp .ge 59, 3) := by decide +kernel
theorem dX8_walk_145 : decode cX8_walk 145 = .ok (.iload 9, 2) := by decide +kernel
theorem dX8_walk_147 : decode cX8_walk 147 = .ok (.iload 11, 2) := by decide +kernel
theorem dX8_walk_149 : decode cX8_walk 149 = .ok (.if_icmp .lt 52, 3) := by decide +kernel
theorem dX8_walk_152 : decode cX8_walk 152 = .ok (.iload 11, 2) := by decide +kernel
theorem dX8_walk_154 : decode cX8_walk 154 = .ok (.aload_n 0, 1) := by decide +kernel
theorem dX8_walk_155 : decode cX8_walk 155 = .ok (.getfield 13, 3) := by decide +kernel
theorem dX8_walk_158 : decode cX8_walk 158 = .ok (.bipush 6, 2) := by decide +kernel
theorem dX8_walk_160 : decode cX8_walk 160 = .ok (.iload 8, 2) := by decide +kernel
theorem dX8_walk_162 : decode cX8_walk 162 = .ok (.imul, 1) := by decide +kernel
theorem dX8_walk_163 : decode cX8_walk 163 = .ok (.iload 12, 2) := by decide +kernel
theorem dX8_walk_165 : decode cX8_walk 165 = .ok (.iadd, 1) := by decide +kernel
theorem dX8_walk_166 : decode cX8_walk 166 = .ok (.iaload, 1) := by decide +kernel
theorem dX8_walk_167 : decode cX8_walk 167 = .ok (.iadd, 1) := by decide +kernel
theorem dX8_walk_168 : decode cX8_walk 168 = .ok (.istore 11, 2) := by decide +kernel
theorem dX8_walk_170 : decode cX8_walk 170 = .ok (.aload_n 0, 1) := by decide +kernel
theorem dX8_walk_171 : decode cX8_walk 171 = .ok (.getfield 13, 3) := by decide +kernel
theorem dX8_walk_174 : decode cX8_walk 174 = .ok (.bipush 6, 2) := by decide +kernel
theorem dX8_walk_176 : decode cX8_walk 176 = .ok (.iload 8, 2) := by decide +kernel
theorem dX8_walk_178 : decode cX8_walk 178 = .ok (.imul, 1) := by decide +kernel
theorem dX8_walk_179 : decode cX8_walk 179 = .ok (.iload 12, 2) := by decide +kernel
theorem dX8_walk_181 : decode cX8_walk 181 = .ok (.iadd, 1) := by decide +kernel
theorem dX8_walk_182 : decode cX8_walk 182 = .ok (.iaload, 1) := by decide +kernel
theorem dX8_walk_183 : decode cX8_walk 183 = .ok (.ifCond .le 8, 3) := by decide +kernel
theorem dX8_walk_186 : decode cX8_walk 186 = .ok (.iload 12, 2) := by decide +kernel
theorem dX8_walk_188 : decode cX8_walk 188 = .ok (.goto 5, 3) := by decide +kernel
theorem dX8_walk_191 : decode cX8_walk 191 = .ok (.iload 10, 2) := by decide +kernel
theorem dX8_walk_193 : decode cX8_walk 193 = .ok (.istore 10, 2) := by decide +kernel
theorem dX8_walk_195 : decode cX8_walk 195 = .ok (.iinc 12 1, 3) := by decide +kernel
theorem dX8_walk_198 : decode cX8_walk 198 = .ok (.goto (-62), 3) := by decide +kernel
theorem dX8_walk_201 : decode cX8_walk 201 = .ok (.iload 4, 2) := by decide +kernel
theorem dX8_walk_203 : decode cX8_walk 203 = .ok (.iload 10, 2) := by decide +kernel
theorem dX8_walk_205 : decode cX8_walk 205 = .ok (.iload 8, 2) := by decide +kernel
theorem dX8_walk_207 : decode cX8_walk 207 = .ok (.if_icmp .ne 7, 3) := by decide +kernel
theorem dX8_walk_210 : decode cX8_walk 210 = .ok (.iconst 0, 1) := by decide +kernel
theorem dX8_walk_211 : decode cX8_walk 211 = .ok (.goto 4, 3) := by decide +kernel
theorem dX8_walk_214 : decode cX8_walk 214 = .ok (.iconst 1, 1) := by decide +kernel
theorem dX8_walk_215 : decode cX8_walk 215 = .ok (.iadd, 1) := by decide +kernel
theorem dX8_walk_216 : decode cX8_walk 216 = .ok (.istore 4, 2) := by decide +kernel
theorem dX8_walk_218 : decode cX8_walk 218 = .ok (.aload_n 0, 1) := by decide +kernel
theorem dX8_walk_219 : decode cX8_walk 219 = .ok (.aload_n 0, 1) := by decide +kernel
theorem dX8_walk_220 : decode cX8_walk 220 = .ok (.getfield 56, 3) := by decide +kernel
theorem dX8_walk_223 : decode cX8_walk 223 = .ok (.iload 10, 2) := by decide +kernel
theorem dX8_walk_225 : decode cX8_walk 225 = .ok (.invokevirtual 166, 3) := by decide +kernel
theorem dX8_walk_228 : decode cX8_walk 228 = .ok (.pop, 1) := by decide +kernel
theorem dX8_walk_229 : decode cX8_walk 229 = .ok (.iinc 5 1, 3) := by decide +kernel
theorem dX8_walk_232 : decode cX8_walk 232 = .ok (.goto (-164), 3) := by decide +kernel
theorem dX8_walk_235 : decode cX8_walk 235 = .ok (.iload_n 3, 1) := by decide +kernel
theorem dX8_walk_236 : decode cX8_walk 236 = .ok (.ifCond .ne 13, 3) := by decide +kernel
theorem dX8_walk_239 : decode cX8_walk 239 = .ok (.aload_n 0, 1) := by decide +kernel
theorem dX8_walk_240 : decode cX8_walk 240 = .ok (.getfield 56, 3) := by decide +kernel
theorem dX8_walk_243 : decode cX8_walk 243 = .ok (.bipush 14, 2) := by decide +kernel
theorem dX8_walk_245 : decode cX8_walk 245 = .ok (.iaload, 1) := by decide +kernel
theorem dX8_walk_246 : decode cX8_walk 246 = .ok (.goto 28, 3) := by decide +kernel
theorem dX8_walk_249 : decode cX8_walk 249 = .ok (.iload_n 3, 1) := by decide +kernel
theorem dX8_walk_250 : decode cX8_walk 250 = .ok (.iconst 1, 1) := by decide +kernel
theorem dX8_walk_251 : decode cX8_walk 251 = .ok (.if_icmp .ne 21, 3) := by decide +kernel
theorem dX8_walk_254 : decode cX8_walk 254 = .ok (.aload_n 0, 1) := by decide +kernel
theorem dX8_walk_255 : decode cX8_walk 255 = .ok (.getfield 56, 3) := by decide +kernel
theorem dX8_walk_258 : decode cX8_walk 258 = .ok (.bipush 18, 2) := by decide +kernel
theorem dX8_walk_260 : decode cX8_walk 260 = .ok (.iaload, 1) := by decide +kernel
theorem dX8_walk_261 : decode cX8_walk 261 = .ok (.aload_n 0, 1) := by decide +kernel
theorem dX8_walk_262 : decode cX8_walk 262 = .ok (.getfield 19, 3) := by decide +kernel
theorem dX8_walk_265 : decode cX8_walk 265 = .ok (.bipush 18, 2) := by decide +kernel
theorem dX8_walk_267 : decode cX8_walk 267 = .ok (.iaload, 1) := by decide +kernel
theorem dX8_walk_268 : decode cX8_walk 268 = .ok (.isub, 1) := by decide +kernel
theorem dX8_walk_269 : decode cX8_walk 269 = .ok (.goto 5, 3) := by decide +kernel
theorem dX8_walk_272 : decode cX8_walk 272 = .ok (.iload 4, 2) := by decide +kernel
theorem dX8_walk_274 : decode cX8_walk 274 = .ok (.ireturn, 1) := by decide +kernel
theorem dX8_count_0 : decode cX8_count 0 = .ok (.iload_n 1, 1) := by decide +kernel
theorem dX8_count_1 : decode cX8_count 1 = .ok (.tableswitch 94 0 9 #[55, 60, 65, 65, 75, 75, 75, 75, 84, 89], 55) := by decide +kernel
theorem dX8_count_56 : decode cX8_count 56 = .ok (.aload_n 0, 1) := by decide +kernel
theorem dX8_count_57 : decode cX8_count 57 = .ok (.getfield 76, 3) := by decide +kernel
theorem dX8_count_60 : decode cX8_count 60 = .ok (.ireturn, 1) := by decide +kernel
theorem dX8_count_61 : decode cX8_count 61 = .ok (.aload_n 0, 1) := by decide +kernel
theorem dX8_count_62 : decode cX8_count 62 = .ok (.getfield 79, 3) := by decide +kernel
theorem dX8_count_65 : decode cX8_count 65 = .ok (.ireturn, 1) := by decide +kernel
theorem dX8_count_66 : decode cX8_count 66 = .ok (.aload_n 0, 1) := by decide +kernel
theorem dX8_count_67 : decode cX8_count 67 = .ok (.getfield 19, 3) := by decide +kernel
theorem dX8_count_70 : decode cX8_count 70 = .ok (.bipush 10, 2) := by decide +kernel
theorem dX8_count_72 : decode cX8_count 72 = .ok (.iload_n 1, 1) := by decide +kernel
theorem dX8_count_73 : decode cX8_count 73 = .ok (.iadd, 1) := by decide +kernel
theorem dX8_count_74 : decode cX8_count 74 = .ok (.iaload, 1) := by decide +kernel
theorem dX8_count_75 : decode cX8_count 75 = .ok (.ireturn, 1) := by decide +kernel
theorem dX8_count_76 : decode cX8_count 76 = .ok (.aload_n 0, 1) := by decide +kernel
theorem dX8_count_77 : decode cX8_count 77 = .ok (.getfield 16, 3) := by decide +kernel
theorem dX8_count_80 : decode cX8_count 80 = .ok (.iload_n 1, 1) := by decide +kernel
theorem dX8_count_81 : decode cX8_count 81 = .ok (.iconst 4, 1) := by decide +kernel
theorem dX8_count_82 : decode cX8_count 82 = .ok (.isub, 1) := by decide +kernel
theorem dX8_count_83 : decode cX8_count 83 = .ok (.iaload, 1) := by decide +kernel
theorem dX8_count_84 : decode cX8_count 84 = .ok (.ireturn, 1) := by decide +kernel
theorem dX8_count_85 : decode cX8_count 85 = .ok (.aload_n 0, 1) := by decide +kernel
theorem dX8_count_86 : decode cX8_count 86 = .ok (.getfield 82, 3) := by decide +kernel
theorem dX8_count_89 : decode cX8_count 89 = .ok (.ireturn, 1) := by decide +kernel
theorem dX8_count_90 : decode cX8_count 90 = .ok (.aload_n 0, 1) := by decide +kernel
theorem dX8_count_91 : decode cX8_count 91 = .ok (.getfield 85, 3) := by decide +kernel
theorem dX8_count_94 : decode cX8_count 94 = .ok (.ireturn, 1) := by decide +kernel
theorem dX8_count_95 : decode cX8_count 95 = .ok (.iconst (-1), 1) := by decide +kernel
theorem dX8_count_96 : decode cX8_count 96 = .ok (.ireturn, 1) := by decide +kernel
theorem dJ6_bitCount_0f7a4_0 : decode cJ6_bitCount_0f7a4 0 = .ok (.iload_n 0, 1) := by decide +kernel
theorem dJ6_bitCount_0f7a4_1 : decode cJ6_bitCount_0f7a4 1 = .ok (.iload_n 0, 1) := by decide +kernel
theorem dJ6_bitCount_0f7a4_2 : decode cJ6_bitCount_0f7a4 2 = .ok (.iconst 1, 1) := by decide +kernel
theorem dJ6_bitCount_0f7a4_3 : decode cJ6_bitCount_0f7a4 3 = .ok (.iushr, 1) := by decide +kernel
theorem dJ6_bitCount_0f7a4_4 : decode cJ6_bitCount_0f7a4 4 = .ok (.ldc_w 265, 3) := by decide +kernel
theorem dJ6_bitCount_0f7a4_7 : decode cJ6_bitCount_0f7a4 7 = .ok (.iand, 1) := by decide +kernel
theorem dJ6_bitCount_0f7a4_8 : decode cJ6_bitCount_0f7a4 8 = .ok (.isub, 1) := by decide +kernel
theorem dJ6_bitCount_0f7a4_9 : decode cJ6_bitCount_0f7a4 9 = .ok (.istore_n 0, 1) := by decide +kernel
theorem dJ6_bitCount_0f7a4_10 : decode cJ6_bitCount_0f7a4 10 = .ok (.iload_n 0, 1) := by decide +kernel
theorem dJ6_bitCount_0f7a4_11 : decode cJ6_bitCount_0f7a4 11 = .ok (.ldc_w 266, 3) := by decide +kernel
theorem dJ6_bitCount_0f7a4_14 : decode cJ6_bitCount_0f7a4 14 = .ok (.iand, 1) := by decide +kernel
theorem dJ6_bitCount_0f7a4_15 : decode cJ6_bitCount_0f7a4 15 = .ok (.iload_n 0, 1) := by decide +kernel
theorem dJ6_bitCount_0f7a4_16 : decode cJ6_bitCount_0f7a4 16 = .ok (.iconst 2, 1) := by decide +kernel
theorem dJ6_bitCount_0f7a4_17 : decode cJ6_bitCount_0f7a4 17 = .ok (.iushr, 1) := by decide +kernel
theorem dJ6_bitCount_0f7a4_18 : decode cJ6_bitCount_0f7a4 18 = .ok (.ldc_w 266, 3) := by decide +kernel
theorem dJ6_bitCount_0f7a4_21 : decode cJ6_bitCount_0f7a4 21 = .ok (.iand, 1) := by decide +kernel
theorem dJ6_bitCount_0f7a4_22 : decode cJ6_bitCount_0f7a4 22 = .ok (.iadd, 1) := by decide +kernel
theorem dJ6_bitCount_0f7a4_23 : decode cJ6_bitCount_0f7a4 23 = .ok (.istore_n 0, 1) := by decide +kernel
theorem dJ6_bitCount_0f7a4_24 : decode cJ6_bitCount_0f7a4 24 = .ok (.iload_n 0, 1) := by decide +kernel
theorem dJ6_bitCount_0f7a4_25 : decode cJ6_bitCount_0f7a4 25 = .ok (.iload_n 0, 1) := by decide +kernel
theorem dJ6_bitCount_0f7a4_26 : decode cJ6_bitCount_0f7a4 26 = .ok (.iconst 4, 1) := by decide +kernel
theorem dJ6_bitCount_0f7a4_27 : decode cJ6_bitCount_0f7a4 27 = .ok (.iushr, 1) := by decide +kernel
theorem dJ6_bitCount_0f7a4_28 : decode cJ6_bitCount_0f7a4 28 = .ok (.iadd, 1) := by decide +kernel
theorem dJ6_bitCount_0f7a4_29 : decode cJ6_bitCount_0f7a4 29 = .ok (.ldc_w 267, 3) := by decide +kernel
theorem dJ6_bitCount_0f7a4_32 : decode cJ6_bitCount_0f7a4 32 = .ok (.iand, 1) := by decide +kernel
theorem dJ6_bitCount_0f7a4_33 : decode cJ6_bitCount_0f7a4 33 = .ok (.istore_n 0, 1) := by decide +kernel
theorem dJ6_bitCount_0f7a4_34 : decode cJ6_bitCount_0f7a4 34 = .ok (.iload_n 0, 1) := by decide +kernel
theorem dJ6_bitCount_0f7a4_35 : decode cJ6_bitCount_0f7a4 35 = .ok (.iload_n 0, 1) := by decide +kernel
theorem dJ6_bitCount_0f7a4_36 : decode cJ6_bitCount_0f7a4 36 = .ok (.bipush 8, 2) := by decide +kernel
theorem dJ6_bitCount_0f7a4_38 : decode cJ6_bitCount_0f7a4 38 = .ok (.iushr, 1) := by decide +kernel
theorem dJ6_bitCount_0f7a4_39 : decode cJ6_bitCount_0f7a4 39 = .ok (.iadd, 1) := by decide +kernel
theorem dJ6_bitCount_0f7a4_40 : decode cJ6_bitCount_0f7a4 40 = .ok (.istore_n 0, 1) := by decide +kernel
theorem dJ6_bitCount_0f7a4_41 : decode cJ6_bitCount_0f7a4 41 = .ok (.iload_n 0, 1) := by decide +kernel
theorem dJ6_bitCount_0f7a4_42 : decode cJ6_bitCount_0f7a4 42 = .ok (.iload_n 0, 1) := by decide +kernel
theorem dJ6_bitCount_0f7a4_43 : decode cJ6_bitCount_0f7a4 43 = .ok (.bipush 16, 2) := by decide +kernel
theorem dJ6_bitCount_0f7a4_45 : decode cJ6_bitCount_0f7a4 45 = .ok (.iushr, 1) := by decide +kernel
theorem dJ6_bitCount_0f7a4_46 : decode cJ6_bitCount_0f7a4 46 = .ok (.iadd, 1) := by decide +kernel
theorem dJ6_bitCount_0f7a4_47 : decode cJ6_bitCount_0f7a4 47 = .ok (.istore_n 0, 1) := by decide +kernel
theorem dJ6_bitCount_0f7a4_48 : decode cJ6_bitCount_0f7a4 48 = .ok (.iload_n 0, 1) := by decide +kernel
theorem dJ6_bitCount_0f7a4_49 : decode cJ6_bitCount_0f7a4 49 = .ok (.bipush 63, 2) := by decide +kernel
theorem dJ6_bitCount_0f7a4_51 : decode cJ6_bitCount_0f7a4 51 = .ok (.iand, 1) := by decide +kernel
theorem dJ6_bitCount_0f7a4_52 : decode cJ6_bitCount_0f7a4 52 = .ok (.ireturn, 1) := by decide +kernel
theorem dJ9_max_7cf53_0 : decode cJ9_max_7cf53 0 = .ok (.iload_n 0, 1) := by decide +kernel
theorem dJ9_max_7cf53_1 : decode cJ9_max_7cf53 1 = .ok (.iload_n 1, 1) := by decide +kernel
theorem dJ9_max_7cf53_2 : decode cJ9_max_7cf53 2 = .ok (.if_icmp .lt 7, 3) := by decide +kernel
theorem dJ9_max_7cf53_5 : decode cJ9_max_7cf53 5 = .ok (.iload_n 0, 1) := by decide +kernel
theorem dJ9_max_7cf53_6 : decode cJ9_max_7cf53 6 = .ok (.goto 4, 3) := by decide +kernel
theorem dJ9_max_7cf53_9 : decode cJ9_max_7cf53 9 = .ok (.iload_n 1, 1) := by decide +kernel
theorem dJ9_max_7cf53_10 : decode cJ9_max_7cf53 10 = .ok (.ireturn, 1) := by decide +kernel
theorem dJ9_min_7cf53_0 : decode cJ9_min_7cf53 0 = .ok (.iload_n 0, 1) := by decide +kernel
theorem dJ9_min_7cf53_1 : decode cJ9_min_7cf53 1 = .ok (.iload_n 1, 1) := by decide +kernel
theorem dJ9_min_7cf53_2 : decode cJ9_min_7cf53 2 = .ok (.if_icmp .gt 7, 3) := by decide +kernel
theorem dJ9_min_7cf53_5 : decode cJ9_min_7cf53 5 = .ok (.iload_n 0, 1) := by decide +kernel
theorem dJ9_min_7cf53_6 : decode cJ9_min_7cf53 6 = .ok (.goto 4, 3) := by decide +kernel
theorem dJ9_min_7cf53_9 : decode cJ9_min_7cf53 9 = .ok (.iload_n 1, 1) := by decide +kernel
theorem dJ9_min_7cf53_10 : decode cJ9_min_7cf53 10 = .ok (.ireturn, 1) := by decide +kernel
set_option maxRecDepth 20000 in
theorem ggJ0_length_8abf5_J0_coder_7d493 : GoodIn wsJ0_length_8abf5 wsJ0_coder_7d493 := goodIn_r _ [6, 7, 8] (by decide +kernel) (by decide +kernel)
set_option maxRecDepth 20000 in
theorem gJ0_length_8abf5_J0_coder_7d493 : GoodIn wsJ0_length_8abf5 (wsV RJ0 335 RJ0 yJ0_coder_7d493 wsJ0_coder_7d493) := goodIn_app (goodIn_of _ (by decide +kernel)) ggJ0_length_8abf5_J0_coder_7d493
theorem dJ0_length_8abf5_0 : decode cJ0_length_8abf5 0 = .ok (.aload_n 0, 1) := by decide +kernel
theorem dJ0_length_8abf5_1 : decode cJ0_length_8abf5 1 = .ok (.getfield 9, 3) := by decide +kernel
theorem dJ0_length_8abf5_4 : decode cJ0_length_8abf5 4 = .ok (.arraylength, 1) := by decide +kernel
theorem dJ0_length_8abf5_5 : decode cJ0_length_8abf5 5 = .ok (.aload_n 0, 1) := by decide +kernel
theorem dJ0_length_8abf5_6 : decode cJ0_length_8abf5 6 = .ok (.invokevirtual 335, 3) := by decide +kernel
theorem dJ0_length_8abf5_9 : decode cJ0_length_8abf5 9 = .ok (.ishr, 1) := by decide +kernel
theorem dJ0_length_8abf5_10 : decode cJ0_length_8abf5 10 = .ok (.ireturn, 1) := by decide +kernel
set_option maxRecDepth 20000 in
theorem ggJ0_charAt_5068e_J0_isLatin1_aae02 : GoodIn wsJ0_charAt_5068e wsJ0_isLatin1_aae02 := goodIn_r _ [6, 7, 8] (by decide +kernel) (by decide +kernel)
set_option maxRecDepth 20000 in
theorem gJ0_charAt_5068e_J0_isLatin1_aae02 : GoodIn wsJ0_charAt_5068e (wsV RJ0 492 RJ0 yJ0_isLatin1_aae02 wsJ0_isLatin1_aae02) := goodIn_app (goodIn_of _ (by decide +kernel)) ggJ0_charAt_5068e_J0_isLatin1_aae02
set_option maxRecDepth 20000 in
theorem ggJ0_charAt_5068e_J1_charAt_3b067 : GoodIn wsJ0_charAt_5068e wsJ1_charAt_3b067 := goodIn_r _ [12, 13, 14, 5, 15, 16, 17, 18, 19, 20] (by decide +kernel) (by decide +kernel)
set_option maxRecDepth 20000 in
theorem gJ0_charAt_5068e_J1_charAt_3b067 : GoodIn wsJ0_charAt_5068e (va_wsS RJ0 495 yJ1_charAt_3b067 wsJ1_charAt_3b067) := goodIn_app (goodIn_of _ (by decide +kernel)) ggJ0_charAt_5068e_J1_charAt_3b067
set_option maxRecDepth 20000 in
theorem ggJ0_charAt_5068e_J2_charAt_3b067 : GoodIn wsJ0_charAt_5068e wsJ2_charAt_3b067 := goodIn_r _ [24, 25, 26, 23, 27, 28, 29, 30, 31, 14, 5, 15, 16, 17, 18, 19, 20, 32, 33, 34, 35, 36, 37] (by decide +kernel) (by decide +kernel)
set_option maxRecDepth 20000 in
theorem gJ0_charAt_5068e_J2_charAt_3b067 : GoodIn wsJ0_charAt_5068e (va_wsS RJ0 498 yJ2_charAt_3b067 wsJ2_charAt_3b067) := goodIn_app (goodIn_of _ (by decide +kernel)) ggJ0_charAt_5068e_J2_charAt_3b067
theorem dJ0_charAt_5068e_0 : decode cJ0_charAt_5068e 0 = .ok (.aload_n 0, 1) := by decide +kernel
theorem dJ0_charAt_5068e_1 : decode cJ0_charAt_5068e 1 = .ok (.invokevirtual 492, 3) := by decide +kernel
theorem dJ0_charAt_5068e_4 : decode cJ0_charAt_5068e 4 = .ok (.ifCond .eq 12, 3) := by decide +kernel
theorem dJ0_charAt_5068e_7 : decode cJ0_charAt_5068e 7 = .ok (.aload_n 0, 1) := by decide +kernel
theorem dJ0_charAt_5068e_8 : decode cJ0_charAt_5068e 8 = .ok (.getfield 9, 3) := by decide +kernel
theorem dJ0_charAt_5068e_11 : decode cJ0_charAt_5068e 11 = .ok (.iload_n 1, 1) := by decide +kernel
theorem dJ0_charAt_5068e_12 : decode cJ0_charAt_5068e 12 = .ok (.invokestatic 495, 3) := by decide +kernel
theorem dJ0_charAt_5068e_15 : decode cJ0_charAt_5068e 15 = .ok (.ireturn, 1) := by decide +kernel
theorem dJ0_charAt_5068e_16 : decode cJ0_charAt_5068e 16 = .ok (.aload_n 0, 1) := by decide +kernel
theorem dJ0_charAt_5068e_17 : decode cJ0_charAt_5068e 17 = .ok (.getfield 9, 3) := by decide +kernel
theorem dJ0_charAt_5068e_20 : decode cJ0_charAt_5068e 20 = .ok (.iload_n 1, 1) := by decide +kernel
theorem dJ0_charAt_5068e_21 : decode cJ0_charAt_5068e 21 = .ok (.invokestatic 498, 3) := by decide +kernel
theorem dJ0_charAt_5068e_24 : decode cJ0_charAt_5068e 24 = .ok (.ireturn, 1) := by decide +kernel
theorem dJ0_coder_7d493_0 : decode cJ0_coder_7d493 0 = .ok (.getstatic 38, 3) := by decide +kernel
theorem dJ0_coder_7d493_3 : decode cJ0_coder_7d493 3 = .ok (.ifCond .eq 10, 3) := by decide +kernel
theorem dJ0_coder_7d493_6 : decode cJ0_coder_7d493 6 = .ok (.aload_n 0, 1) := by decide +kernel
theorem dJ0_coder_7d493_7 : decode cJ0_coder_7d493 7 = .ok (.getfield 15, 3) := by decide +kernel
theorem dJ0_coder_7d493_10 : decode cJ0_coder_7d493 10 = .ok (.goto 4, 3) := by decide +kernel
theorem dJ0_coder_7d493_13 : decode cJ0_coder_7d493 13 = .ok (.iconst 1, 1) := by decide +kernel
theorem dJ0_coder_7d493_14 : decode cJ0_coder_7d493 14 = .ok (.ireturn, 1) := by decide +kernel
theorem dJ0_isLatin1_aae02_0 : decode cJ0_isLatin1_aae02 0 = .ok (.getstatic 38, 3) := by decide +kernel
theorem dJ0_isLatin1_aae02_3 : decode cJ0_isLatin1_aae02 3 = .ok (.ifCond .eq 14, 3) := by decide +kernel
theorem dJ0_isLatin1_aae02_6 : decode cJ0_isLatin1_aae02 6 = .ok (.aload_n 0, 1) := by decide +kernel
theorem dJ0_isLatin1_aae02_7 : decode cJ0_isLatin1_aae02 7 = .ok (.getfield 15, 3) := by decide +kernel
theorem dJ0_isLatin1_aae02_10 : decode cJ0_isLatin1_aae02 10 = .ok (.ifCond .ne 7, 3) := by decide +kernel
theorem dJ0_isLatin1_aae02_13 : decode cJ0_isLatin1_aae02 13 = .ok (.iconst 1, 1) := by decide +kernel
theorem dJ0_isLatin1_aae02_14 : decode cJ0_isLatin1_aae02 14 = .ok (.goto 4, 3) := by decide +kernel
theorem dJ0_isLatin1_aae02_17 : decode cJ0_isLatin1_aae02 17 = .ok (.iconst 0, 1) := by decide +kernel
theorem dJ0_isLatin1_aae02_18 : decode cJ0_isLatin1_aae02 18 = .ok (.ireturn, 1) := by decide +kernel
set_option maxRecDepth 20000 in
theorem ggJ0_checkIndex_df160_J3_checkIndex_8e157 : GoodIn wsJ0_checkIndex_df160 wsJ3_checkIndex_8e157 := goodIn_r _ [5] (by decide +kernel) (by decide +kernel)
set_option maxRecDepth 20000 in
theorem gJ0_checkIndex_df160_J3_checkIndex_8e157 : GoodIn wsJ0_checkIndex_df160 (va_wsS RJ0 1059 yJ3_checkIndex_8e157 wsJ3_checkIndex_8e157) := goodIn_app (goodIn_of _ (by decide +kernel)) ggJ0_checkIndex_df160_J3_checkIndex_8e157
theorem dJ0_checkIndex_df160_0 : decode cJ0_checkIndex_df160 0 = .ok (.iload_n 0, 1) := by decide +kernel
theorem dJ0_checkIndex_df160_1 : decode cJ0_checkIndex_df160 1 = .ok (.iload_n 1, 1) := by decide +kernel
theorem dJ0_checkIndex_df160_2 : decode cJ0_checkIndex_df160 2 = .ok (.getstatic 1053, 3) := by decide +kernel
theorem dJ0_checkIndex_df160_5 : decode cJ0_checkIndex_df160 5 = .ok (.invokestatic 1059, 3) := by decide +kernel
theorem dJ0_checkIndex_df160_8 : decode cJ0_checkIndex_df160 8 = .ok (.pop, 1) := by decide +kernel
theorem dJ0_checkIndex_df160_9 : decode cJ0_checkIndex_df160 9 = .ok (.return_, 1) := by decide +kernel
set_option maxRecDepth 20000 in
theorem ggJ1_charAt_3b067_J0_checkIndex_df160 : GoodIn wsJ1_charAt_3b067 wsJ0_checkIndex_df160 := goodIn_r _ [4, 5, 6, 7, 8, 9] (by decide +kernel) (by decide +kernel)
set_option maxRecDepth 20000 in
theorem gJ1_charAt_3b067_J0_checkIndex_df160 : GoodIn wsJ1_charAt_3b067 (va_wsS RJ1 9 yJ0_checkIndex_df160 wsJ0_checkIndex_df160) := goodIn_app (goodIn_of _ (by decide +kernel)) ggJ1_charAt_3b067_J0_checkIndex_df160
theorem dJ1_charAt_3b067_0 : decode cJ1_charAt_3b067 0 = .ok (.iload_n 1, 1) := by decide +kernel
theorem dJ1_charAt_3b067_1 : decode cJ1_charAt_3b067 1 = .ok (.aload_n 0, 1) := by decide +kernel
theorem dJ1_charAt_3b067_2 : decode cJ1_charAt_3b067 2 = .ok (.arraylength, 1) := by decide +kernel
theorem dJ1_charAt_3b067_3 : decode cJ1_charAt_3b067 3 = .ok (.invokestatic 9, 3) := by decide +kernel
theorem dJ1_charAt_3b067_6 : decode cJ1_charAt_3b067 6 = .ok (.aload_n 0, 1) := by decide +kernel
theorem dJ1_charAt_3b067_7 : decode cJ1_charAt_3b067 7 = .ok (.iload_n 1, 1) := by decide +kernel
theorem dJ1_charAt_3b067_8 : decode cJ1_charAt_3b067 8 = .ok (.baload, 1) := by decide +kernel
theorem dJ1_charAt_3b067_9 : decode cJ1_charAt_3b067 9 = .ok (.sipush 255, 3) := by decide +kernel
theorem dJ1_charAt_3b067_12 : decode cJ1_charAt_3b067 12 = .ok (.iand, 1) := by decide +kernel
theorem dJ1_charAt_3b067_13 : decode cJ1_charAt_3b067 13 = .ok (.i2c, 1) := by decide +kernel
theorem dJ1_charAt_3b067_14 : decode cJ1_charAt_3b067 14 = .ok (.ireturn, 1) := by decide +kernel
set_option maxRecDepth 20000 in
theorem ggJ2_getChar_3b067_J2_length_9d52b : GoodIn wsJ2_getChar_3b067 wsJ2_length_9d52b := goodIn_r _ [7] (by decide +kernel) (by decide +kernel)
set_option maxRecDepth 20000 in
theorem gJ2_getChar_3b067_J2_length_9d52b : GoodIn wsJ2_getChar_3b067 (va_wsS RJ2 48 yJ2_length_9d52b wsJ2_length_9d52b) := goodIn_app (goodIn_of _ (by decide +kernel)) ggJ2_getChar_3b067_J2_length_9d52b
theorem dJ2_getChar_3b067_0 : decode cJ2_getChar_3b067 0 = .ok (.getstatic 44, 3) := by decide +kernel
theorem dJ2_getChar_3b067_3 : decode cJ2_getChar_3b067 3 = .ok (.ifCond .ne 25, 3) := by decide +kernel
theorem dJ2_getChar_3b067_6 : decode cJ2_getChar_3b067 6 = .ok (.iload_n 1, 1) := by decide +kernel
theorem dJ2_getChar_3b067_7 : decode cJ2_getChar_3b067 7 = .ok (.ifCond .lt 11, 3) := by decide +kernel
theorem dJ2_getChar_3b067_10 : decode cJ2_getChar_3b067 10 = .ok (.iload_n 1, 1) := by decide +kernel
theorem dJ2_getChar_3b067_11 : decode cJ2_getChar_3b067 11 = .ok (.aload_n 0, 1) := by decide +kernel
theorem dJ2_getChar_3b067_12 : decode cJ2_getChar_3b067 12 = .ok (.invokestatic 48, 3) := by decide +kernel
theorem dJ2_getChar_3b067_15 : decode cJ2_getChar_3b067 15 = .ok (.if_icmp .lt 13, 3) := by decide +kernel
theorem dJ2_getChar_3b067_18 : decode cJ2_getChar_3b067 18 = .ok (.new 52, 3) := by decide +kernel
theorem dJ2_getChar_3b067_21 : decode cJ2_getChar_3b067 21 = .ok (.dup, 1) := by decide +kernel
theorem dJ2_getChar_3b067_22 : decode cJ2_getChar_3b067 22 = .ok (.ldc 54, 2) := by decide +kernel
theorem dJ2_getChar_3b067_24 : decode cJ2_getChar_3b067 24 = .ok (.invokespecial 56, 3) := by decide +kernel
theorem dJ2_getChar_3b067_27 : decode cJ2_getChar_3b067 27 = .ok (.athrow, 1) := by decide +kernel
theorem dJ2_getChar_3b067_28 : decode cJ2_getChar_3b067 28 = .ok (.iload_n 1, 1) := by decide +kernel
theorem dJ2_getChar_3b067_29 : decode cJ2_getChar_3b067 29 = .ok (.iconst 1, 1) := by decide +kernel
theorem dJ2_getChar_3b067_30 : decode cJ2_getChar_3b067 30 = .ok (.ishl, 1) := by decide +kernel
theorem dJ2_getChar_3b067_31 : decode cJ2_getChar_3b067 31 = .ok (.istore_n 1, 1) := by decide +kernel
theorem dJ2_getChar_3b067_32 : decode cJ2_getChar_3b067 32 = .ok (.aload_n 0, 1) := by decide +kernel
theorem dJ2_getChar_3b067_33 : decode cJ2_getChar_3b067 33 = .ok (.iload_n 1, 1) := by decide +kernel
theorem dJ2_getChar_3b067_34 : decode cJ2_getChar_3b067 34 = .ok (.iinc 1 1, 3) := by decide +kernel
theorem dJ2_getChar_3b067_37 : decode cJ2_getChar_3b067 37 = .ok (.baload, 1) := by decide +kernel
theorem dJ2_getChar_3b067_38 : decode cJ2_getChar_3b067 38 = .ok (.sipush 255, 3) := by decide +kernel
theorem dJ2_getChar_3b067_41 : decode cJ2_getChar_3b067 41 = .ok (.iand, 1) := by decide +kernel
theorem dJ2_getChar_3b067_42 : decode cJ2_getChar_3b067 42 = .ok (.getstatic 59, 3) := by decide +kernel
theorem dJ2_getChar_3b067_45 : decode cJ2_getChar_3b067 45 = .ok (.ishl, 1) := by decide +kernel
theorem dJ2_getChar_3b067_46 : decode cJ2_getChar_3b067 46 = .ok (.aload_n 0, 1) := by decide +kernel
theorem dJ2_getChar_3b067_47 : decode cJ2_getChar_3b067 47 = .ok (.iload_n 1, 1) := by decide +kernel
theorem dJ2_getChar_3b067_48 : decode cJ2_getChar_3b067 48 = .ok (.baload, 1) := by decide +kernel
theorem dJ2_getChar_3b067_49 : decode cJ2_getChar_3b067 49 = .ok (.sipush 255, 3) := by decide +kernel
theorem dJ2_getChar_3b067_52 : decode cJ2_getChar_3b067 52 = .ok (.iand, 1) := by decide +kernel
theorem dJ2_getChar_3b067_53 : decode cJ2_getChar_3b067 53 = .ok (.getstatic 63, 3) := by decide +kernel
theorem dJ2_getChar_3b067_56 : decode cJ2_getChar_3b067 56 = .ok (.ishl, 1) := by decide +kernel
theorem dJ2_getChar_3b067_57 : decode cJ2_getChar_3b067 57 = .ok (.ior, 1) := by decide +kernel
theorem dJ2_getChar_3b067_58 : decode cJ2_getChar_3b067 58 = .ok (.i2c, 1) := by decide +kernel
theorem dJ2_getChar_3b067_59 : decode cJ2_getChar_3b067 59 = .ok (.ireturn, 1) := by decide +kernel
theorem dJ2_length_9d52b_0 : decode cJ2_length_9d52b 0 = .ok (.aload_n 0, 1) := by decide +kernel
theorem dJ2_length_9d52b_1 : decode cJ2_length_9d52b 1 = .ok (.arraylength, 1) := by decide +kernel
theorem dJ2_length_9d52b_2 : decode cJ2_length_9d52b 2 = .ok (.iconst 1, 1) := by decide +kernel
theorem dJ2_length_9d52b_3 : decode cJ2_length_9d52b 3 = .ok (.ishr, 1) := by decide +kernel
theorem dJ2_length_9d52b_4 : decode cJ2_length_9d52b 4 = .ok (.ireturn, 1) := by decide +kernel
set_option maxRecDepth 20000 in
theorem ggJ2_charAt_3b067_J2_checkIndex_2214a : GoodIn wsJ2_charAt_3b067 wsJ2_checkIndex_2214a := goodIn_r _ [4, 5, 6, 3, 7, 8, 9, 10, 11, 12, 13, 14, 15, 16] (by decide +kernel) (by decide +kernel)
set_option maxRecDepth 20000 in
theorem gJ2_charAt_3b067_J2_checkIndex_2214a : GoodIn wsJ2_charAt_3b067 (va_wsS RJ2 67 yJ2_checkIndex_2214a wsJ2_checkIndex_2214a) := goodIn_app (goodIn_of _ (by decide +kernel)) ggJ2_charAt_3b067_J2_checkIndex_2214a
set_option maxRecDepth 20000 in
theorem ggJ2_charAt_3b067_J2_getChar_3b067 : GoodIn wsJ2_charAt_3b067 wsJ2_getChar_3b067 := goodIn_r _ [19, 20, 21, 22, 5, 6, 3, 7] (by decide +kernel) (by decide +kernel)
set_option maxRecDepth 20000 in
theorem gJ2_charAt_3b067_J2_getChar_3b067 : GoodIn wsJ2_charAt_3b067 (va_wsS RJ2 71 yJ2_getChar_3b067 wsJ2_getChar_3b067) := goodIn_app (goodIn_of _ (by decide +kernel)) ggJ2_charAt_3b067_J2_getChar_3b067
theorem dJ2_charAt_3b067_0 : decode cJ2_charAt_3b067 0 = .ok (.iload_n 1, 1) := by decide +kernel
theorem dJ2_charAt_3b067_1 : decode cJ2_charAt_3b067 1 = .ok (.aload_n 0, 1) := by decide +kernel
theorem dJ2_charAt_3b067_2 : decode cJ2_charAt_3b067 2 = .ok (.invokestatic 67, 3) := by decide +kernel
theorem dJ2_charAt_3b067_5 : decode cJ2_charAt_3b067 5 = .ok (.aload_n 0, 1) := by decide +kernel
theorem dJ2_charAt_3b067_6 : decode cJ2_charAt_3b067 6 = .ok (.iload_n 1, 1) := by decide +kernel
theorem dJ2_charAt_3b067_7 : decode cJ2_charAt_3b067 7 = .ok (.invokestatic 71, 3) := by decide +kernel
theorem dJ2_charAt_3b067_10 : decode cJ2_charAt_3b067 10 = .ok (.ireturn, 1) := by decide +kernel
set_option maxRecDepth 20000 in
theorem ggJ2_checkIndex_2214a_J2_length_9d52b : GoodIn wsJ2_checkIndex_2214a wsJ2_length_9d52b := goodIn_r _ [4] (by decide +kernel) (by decide +kernel)
set_option maxRecDepth 20000 in
theorem gJ2_checkIndex_2214a_J2_length_9d52b : GoodIn wsJ2_checkIndex_2214a (va_wsS RJ2 48 yJ2_length_9d52b wsJ2_length_9d52b) := goodIn_app (goodIn_of _ (by decide +kernel)) ggJ2_checkIndex_2214a_J2_length_9d52b
set_option maxRecDepth 20000 in
theorem ggJ2_checkIndex_2214a_J0_checkIndex_df160 : GoodIn wsJ2_checkIndex_2214a wsJ0_checkIndex_df160 := goodIn_r _ [8, 9, 10, 11, 12, 13] (by decide +kernel) (by decide +kernel)
set_option maxRecDepth 20000 in
theorem gJ2_checkIndex_2214a_J0_checkIndex_df160 : GoodIn wsJ2_checkIndex_2214a (va_wsS RJ2 414 yJ0_checkIndex_df160 wsJ0_checkIndex_df160) := goodIn_app (goodIn_of _ (by decide +kernel)) ggJ2_checkIndex_2214a_J0_checkIndex_df160
theorem dJ2_checkIndex_2214a_0 : decode cJ2_checkIndex_2214a 0 = .ok (.iload_n 0, 1) := by decide +kernel
theorem dJ2_checkIndex_2214a_1 : decode cJ2_checkIndex_2214a 1 = .ok (.aload_n 1, 1) := by decide +kernel
theorem dJ2_checkIndex_2214a_2 : decode cJ2_checkIndex_2214a 2 = .ok (.invokestatic 48, 3) := by decide +kernel
theorem dJ2_checkIndex_2214a_5 : decode cJ2_checkIndex_2214a 5 = .ok (.invokestatic 414, 3) := by decide +kernel
theorem dJ2_checkIndex_2214a_8 : decode cJ2_checkIndex_2214a 8 = .ok (.return_, 1) := by decide +kernel
theorem dJ3_checkIndex_8e157_0 : decode cJ3_checkIndex_8e157 0 = .ok (.iload_n 0, 1) := by decide +kernel
theorem dJ3_checkIndex_8e157_1 : decode cJ3_checkIndex_8e157 1 = .ok (.ifCond .lt 8, 3) := by decide +kernel
theorem dJ3_checkIndex_8e157_4 : decode cJ3_checkIndex_8e157 4 = .ok (.iload_n 0, 1) := by decide +kernel
theorem dJ3_checkIndex_8e157_5 : decode cJ3_checkIndex_8e157 5 = .ok (.iload_n 1, 1) := by decide +kernel
theorem dJ3_checkIndex_8e157_6 : decode cJ3_checkIndex_8e157 6 = .ok (.if_icmp .lt 10, 3) := by decide +kernel
theorem dJ3_checkIndex_8e157_9 : decode cJ3_checkIndex_8e157 9 = .ok (.aload_n 2, 1) := by decide +kernel
theorem dJ3_checkIndex_8e157_10 : decode cJ3_checkIndex_8e157 10 = .ok (.iload_n 0, 1) := by decide +kernel
theorem dJ3_checkIndex_8e157_11 : decode cJ3_checkIndex_8e157 11 = .ok (.iload_n 1, 1) := by decide +kernel
theorem dJ3_checkIndex_8e157_12 : decode cJ3_checkIndex_8e157 12 = .ok (.invokestatic 95, 3) := by decide +kernel
theorem dJ3_checkIndex_8e157_15 : decode cJ3_checkIndex_8e157 15 = .ok (.athrow, 1) := by decide +kernel
theorem dJ3_checkIndex_8e157_16 : decode cJ3_checkIndex_8e157 16 = .ok (.iload_n 0, 1) := by decide +kernel
theorem dJ3_checkIndex_8e157_17 : decode cJ3_checkIndex_8e157 17 = .ok (.ireturn, 1) := by decide +kernel
set_option maxRecDepth 20000 in
theorem ggL_law_X7_init : GoodIn wsL_law wsX7_init := goodIn_r _ [8, 9, 10, 11, 12, 13, 14, 15, 16, 17, 18, 19, 20, 21, 22, 23, 24, 25, 26, 27, 28, 29, 30, 31, 32, 33, 34, 35, 36, 37, 38, 39, 40, 41, 42, 43, 44, 45, 46, 47, 48, 49, 50, 51, 52, 53, 54, 55, 56, 57, 58, 59, 60, 61, 62, 63, 64, 65, 66, 67, 68, 69, 70, 71, 72, 73, 74, 75, 76, 77, 78, 79, 80, 81, 82, 83, 84, 85, 86, 87, 88, 89, 90, 91, 92, 93, 94, 95, 96, 97, 98, 99, 100, 101, 102, 103, 104, 105, 106, 107, 108, 109, 110, 111, 112, 113, 114, 115, 116, 117, 118, 119, 120, 121, 122, 123, 124, 125, 126, 127, 128, 129, 130, 131, 132, 133, 134, 135, 136, 137, 138, 139, 140, 141, 142, 2, 143, 144, 145, 146, 147, 148, 149, 150, 151, 152, 153, 154, 155, 156, 157, 158, 159, 160, 161, 162, 163, 164, 165, 166, 167, 168, 169, 170, 171, 172, 173, 174, 175, 176, 177, 178, 179, 180, 181, 182, 183, 184, 185, 186, 187, 188, 189, 190, 191, 192, 193, 194, 195, 196, 197, 198, 199, 200, 201, 202, 203, 204, 205, 206, 207, 208, 209, 210, 211, 212, 213, 214, 215, 216, 217, 218, 219, 220, 221, 222, 223, 224, 225, 226, 227, 228, 229, 230, 231, 232, 233, 234, 235, 236, 237, 238, 239, 240, 241, 242, 243, 244, 245, 246, 247, 248, 249, 250, 251, 252, 253, 254, 255, 256, 257, 258, 259, 260, 261, 262, 263, 264, 265, 266, 267, 268, 269, 270, 271, 272, 273, 274, 275, 276, 277, 278, 279, 280, 281, 282, 283, 284, 285, 286, 287, 893, 894, 895, 896, 857, 858, 859, 860, 861, 862, 863, 864, 865, 866, 897, 898, 899, 900, 901, 902, 903, 904, 905, 906, 907, 908, 909, 910, 911, 912, 913, 914, 915, 916, 917, 918, 919, 920, 921, 922, 923, 924, 925, 926, 927, 928, 929, 930, 931, 932] (by decide +kernel) (by decide +kernel)
set_option maxRecDepth 20000 in
theorem gL_law_X7_init : GoodIn wsL_law (wsX7_init) := ggL_law_X7_init
set_option maxRecDepth 20000 in
theorem ggL_law_X8_init : GoodIn wsL_law wsX8_init := goodIn_r _ [290, 291, 10, 11, 47, 292, 293, 294, 295, 296, 297, 298, 299, 300, 301, 64, 302, 303, 304, 305, 306, 307, 308, 309, 310, 311, 5, 312, 313, 314, 315, 316, 317, 318, 319, 320, 321, 322, 323, 324, 867, 868, 869, 870, 871, 872, 873, 874, 875, 876, 877, 878, 879, 880, 881, 882, 883, 884, 885, 886, 887, 888, 889, 890, 891, 892] (by decide +kernel) (by decide +kernel)
set_option maxRecDepth 20000 in
theorem gL_law_X8_init : GoodIn wsL_law (wsX8_init) := ggL_law_X8_init
set_option maxRecDepth 20000 in
theorem ggL_law_X7_write : GoodIn wsL_law wsX7_write := goodIn_r _ [328, 15, 43, 135, 136, 137, 14, 138, 139, 48, 857, 858, 859, 860, 861, 862, 863, 864, 865, 866, 893, 894, 895, 896] (by decide +kernel) (by decide +kernel)
set_option maxRecDepth 20000 in
theorem gL_law_X7_write : GoodIn wsL_law (wsV RL 13 RX7 yX7_write wsX7_write) := goodIn_app (goodIn_of _ (by decide +kernel)) ggL_law_X7_write
set_option maxRecDepth 20000 in
theorem ggL_law_X8_write : GoodIn wsL_law wsX8_write := goodIn_r _ [332, 333, 292, 867, 868, 869, 870, 871, 872, 873, 874, 875, 876, 877, 878, 879, 880, 881, 882, 883, 884, 885, 886, 887, 888, 889, 890, 891, 892] (by decide +kernel) (by decide +kernel)
set_option maxRecDepth 20000 in
theorem gL_law_X8_write : GoodIn wsL_law (wsV RL 17 RX8 yX8_write wsX8_write) := goodIn_app (goodIn_of _ (by decide +kernel)) ggL_law_X8_write
set_option maxRecDepth 20000 in
theorem ggL_law_X7_wipe : GoodIn wsL_law wsX7_wipe := goodIn_r _ [337, 15, 43, 857, 858, 859, 860, 861, 862, 863, 864, 865, 866, 893, 894, 895, 896] (by decide +kernel) (by decide +kernel)
set_option maxRecDepth 20000 in
theorem gL_law_X7_wipe : GoodIn wsL_law (wsV RL 18 RX7 yX7_wipe wsX7_wipe) := goodIn_app (goodIn_of _ (by decide +kernel)) ggL_law_X7_wipe
set_option maxRecDepth 20000 in
theorem ggL_law_X8_wipe : GoodIn wsL_law wsX8_wipe := goodIn_r _ [341, 333, 867, 868, 869, 870, 871, 872, 873, 874, 875, 876, 877, 878, 879, 880, 881, 882, 883, 884, 885, 886, 887, 888, 889, 890, 891, 892] (by decide +kernel) (by decide +kernel)
set_option maxRecDepth 20000 in
theorem gL_law_X8_wipe : GoodIn wsL_law (wsV RL 22 RX8 yX8_wipe wsX8_wipe) := goodIn_app (goodIn_of _ (by decide +kernel)) ggL_law_X8_wipe
set_option maxRecDepth 20000 in
theorem ggL_law_X7_fault : GoodIn wsL_law wsX7_fault := goodIn_r _ [345, 15, 41, 42, 145, 146, 147, 14, 148, 149, 139, 150, 151, 152, 38, 153, 154, 155, 82, 83, 80, 81, 156, 157, 158, 159, 160, 161, 162, 163, 164, 165, 166, 34, 167, 59, 60, 168, 169, 170, 171, 172, 173, 174, 175, 176, 177, 178, 179, 180, 181, 182, 183, 184, 185, 186, 187, 188, 189, 190, 48, 191, 192, 193, 194, 195, 196, 197, 198, 49, 199, 200, 201, 202, 203, 204, 205, 206, 207, 208, 209, 210, 211, 212, 213, 214, 215, 216, 217, 218, 219, 220, 221, 222, 223, 224, 225, 226, 227, 228, 229, 230, 231, 232, 233, 234, 235, 236, 237, 238, 2, 239, 240, 241, 242, 243, 244, 857, 858, 859, 860, 861, 862, 863, 864, 865, 866, 893, 894, 895, 896, 921, 922, 923, 924, 925, 926, 927, 928, 929, 930, 931, 932, 911, 912, 913, 914, 915, 916, 917, 918, 919, 920] (by decide +kernel) (by decide +kernel)
set_option maxRecDepth 20000 in
theorem gL_law_X7_fault : GoodIn wsL_law (wsV RL 23 RX7 yX7_fault wsX7_fault) := goodIn_app (goodIn_of _ (by decide +kernel)) ggL_law_X7_fault
set_option maxRecDepth 20000 in
theorem ggL_law_X8_fault : GoodIn wsL_law wsX8_fault := goodIn_r _ [349, 350, 351, 352, 5, 353, 333, 292, 354, 309, 310, 311, 312, 308, 313, 297, 299, 298, 355, 356, 357, 358, 359, 360, 361, 362, 363, 364, 365, 366, 367, 368, 369, 370, 371, 372, 373, 374, 375, 376, 377, 378, 314, 315, 316, 317, 379, 380, 381, 382, 383, 384, 385, 386, 387, 388, 389, 390, 391, 392, 393, 867, 868, 869, 870, 871, 872, 873, 874, 875, 876, 877, 878, 879, 880, 881, 882, 883, 884, 885, 886, 887, 888, 889, 890, 891, 892] (by decide +kernel) (by decide +kernel)
set_option maxRecDepth 20000 in
theorem gL_law_X8_fault : GoodIn wsL_law (wsV RL 26 RX8 yX8_fault wsX8_fault) := goodIn_app (goodIn_of _ (by decide +kernel)) ggL_law_X8_fault
set_option maxRecDepth 20000 in
theorem ggL_law_X7_lay : GoodIn wsL_law wsX7_lay := goodIn_r _ [397, 39, 398, 140, 141, 142, 2, 143, 15, 41, 42, 40, 19, 144, 23, 145, 146, 147, 14, 148, 149, 139, 150, 151, 152, 38, 153, 154, 155, 82, 83, 80, 81, 156, 157, 158, 159, 160, 161, 162, 163, 164, 165, 166, 34, 167, 59, 60, 168, 169, 170, 171, 172, 173, 174, 175, 176, 177, 178, 179, 180, 181, 182, 183, 184, 185, 186, 187, 188, 189, 190, 48, 191, 192, 193, 194, 195, 196, 197, 198, 49, 199, 200, 201, 202, 203, 204, 205, 206, 207, 208, 209, 210, 211, 212, 213, 214, 215, 216, 217, 218, 219, 220, 221, 222, 223, 224, 225, 226, 227, 228, 229, 230, 231, 232, 233, 234, 235, 236, 237, 238, 239, 240, 241, 242, 243, 244, 245, 246, 247, 248, 249, 250, 251, 252, 253, 254, 255, 256, 84, 257, 258, 259, 260, 85, 261, 262, 263, 264, 265, 266, 267, 268, 269, 270, 271, 272, 273, 274, 275, 276, 277, 278, 279, 280, 22, 281, 282, 283, 65, 284, 285, 286, 287, 857, 858, 859, 860, 861, 862, 863, 864, 865, 866, 921, 922, 923, 924, 925, 926, 927, 928, 929, 930, 931, 932, 897, 898, 899, 893, 894, 895, 896, 911, 912, 913, 914, 915, 916, 917, 918, 919, 920, 900, 901, 902, 903, 904, 905] (by decide +kernel) (by decide +kernel)
set_option maxRecDepth 20000 in
theorem gL_law_X7_lay : GoodIn wsL_law (wsV RL 27 RX7 yX7_lay wsX7_lay) := goodIn_app (goodIn_of _ (by decide +kernel)) ggL_law_X7_lay
set_option maxRecDepth 20000 in
theorem ggL_law_X8_lay : GoodIn wsL_law wsX8_lay := goodIn_r _ [402, 322, 350, 351, 352, 5, 353, 333, 292, 354, 309, 310, 311, 312, 308, 313, 297, 299, 298, 355, 356, 357, 358, 359, 360, 361, 362, 363, 364, 365, 366, 367, 368, 369, 370, 371, 372, 373, 374, 375, 376, 377, 378, 314, 315, 316, 317, 379, 380, 381, 382, 383, 384, 385, 386, 387, 388, 389, 390, 391, 392, 393, 403, 404, 405, 406, 318, 319, 320, 321, 323, 293, 295, 294, 324, 867, 868, 869, 870, 871, 872, 873, 874, 875, 876, 877, 878, 879, 880, 881, 882, 883, 884, 885, 886, 887, 888, 889, 890, 891, 892] (by decide +kernel) (by decide +kernel)
set_option maxRecDepth 20000 in
theorem gL_law_X8_lay : GoodIn wsL_law (wsV RL 30 RX8 yX8_lay wsX8_lay) := goodIn_app (goodIn_of _ (by decide +kernel)) ggL_law_X8_lay
set_option maxRecDepth 20000 in
theorem ggL_law_X7_set : GoodIn wsL_law wsX7_set := goodIn_r _ [410, 40, 411, 412, 19, 23, 39, 413, 414, 415, 2, 416, 398, 417, 418, 419, 18, 420, 55, 421, 422, 423, 250, 251, 252, 424, 425, 426, 34, 427, 59, 428, 429, 430, 431, 60, 168, 169, 170, 177, 178, 179, 171, 172, 278, 279, 280, 22, 281, 282, 283, 65, 284, 285, 286, 287, 432, 174, 175, 176, 857, 858, 859, 860, 861, 862, 863, 864, 865, 866, 911, 912, 913, 914, 915, 916, 917, 918, 919, 920, 921, 922, 923, 924, 925, 926, 927, 928, 929, 930, 931, 932, 897, 898, 899, 900, 901, 902, 903, 904, 905] (by decide +kernel) (by decide +kernel)
set_option maxRecDepth 20000 in
theorem gL_law_X7_set : GoodIn wsL_law (wsV RL 31 RX7 yX7_set wsX7_set) := goodIn_app (goodIn_of _ (by decide +kernel)) ggL_law_X7_set
set_option maxRecDepth 20000 in
theorem ggL_law_X8_set : GoodIn wsL_law wsX8_set := goodIn_r _ [436, 295, 437, 438, 439, 5, 440, 322, 368, 369, 370, 441, 442, 443, 444, 324, 296, 445, 446, 447, 867, 868, 869, 870, 871, 872, 873, 874, 875, 876, 877, 878, 879, 880, 881, 882, 883, 884, 885, 886, 887, 888, 889, 890, 891, 892] (by decide +kernel) (by decide +kernel)
set_option maxRecDepth 20000 in
theorem gL_law_X8_set : GoodIn wsL_law (wsV RL 35 RX8 yX8_set wsX8_set) := goodIn_app (goodIn_of _ (by decide +kernel)) ggL_law_X8_set
set_option maxRecDepth 20000 in
theorem ggL_law_X7_law : GoodIn wsL_law wsX7_law := goodIn_r _ [451, 40, 452, 453, 19, 454, 238, 2, 239, 417, 418, 419, 18, 420, 55, 421, 422, 423, 250, 251, 252, 424, 425, 426, 34, 427, 59, 428, 429, 430, 431, 60, 168, 169, 170, 177, 178, 179, 171, 172, 432, 174, 175, 176, 857, 858, 859, 860, 861, 862, 863, 864, 865, 866, 911, 912, 913, 914, 915, 916, 917, 918, 919, 920, 897, 898, 899] (by decide +kernel) (by decide +kernel)
set_option maxRecDepth 20000 in
theorem gL_law_X7_law : GoodIn wsL_law (wsV RL 36 RX7 yX7_law wsX7_law) := goodIn_app (goodIn_of _ (by decide +kernel)) ggL_law_X7_law
set_option maxRecDepth 20000 in
theorem ggL_law_X8_law : GoodIn wsL_law wsX8_law := goodIn_r _ [458, 295, 387, 388, 5, 389, 368, 369, 370, 441, 442, 443, 444, 324, 296, 445, 446, 447, 867, 868, 869, 870, 871, 872, 873, 874, 875, 876, 877, 878, 879, 880, 881, 882, 883, 884, 885, 886, 887, 888, 889, 890, 891, 892] (by decide +kernel) (by decide +kernel)
set_option maxRecDepth 20000 in
theorem gL_law_X8_law : GoodIn wsL_law (wsV RL 40 RX8 yX8_law wsX8_law) := goodIn_app (goodIn_of _ (by decide +kernel)) ggL_law_X8_law
set_option maxRecDepth 20000 in
theorem ggL_law_X7_give : GoodIn wsL_law wsX7_give := goodIn_r _ [462, 23, 39, 19, 40, 398, 412, 463, 464, 465, 466, 22, 467, 287, 67, 283, 468, 469, 470, 471, 472, 65, 473, 474, 475, 476, 2, 477, 478, 479, 480, 481, 286, 482, 483, 484, 485, 486, 66, 487, 429, 430, 431, 488, 489, 490, 491, 492, 493, 494, 495, 496, 497, 251, 498, 417, 418, 419, 18, 420, 55, 421, 422, 423, 250, 252, 424, 425, 426, 34, 427, 59, 428, 60, 168, 169, 170, 177, 178, 179, 171, 172, 432, 174, 175, 176, 857, 858, 859, 860, 861, 862, 863, 864, 865, 866, 921, 922, 923, 924, 925, 926, 927, 928, 929, 930, 931, 932, 911, 912, 913, 914, 915, 916, 917, 918, 919, 920, 900, 901, 902, 903, 904, 905, 897, 898, 899] (by decide +kernel) (by decide +kernel)
set_option maxRecDepth 20000 in
theorem gL_law_X7_give : GoodIn wsL_law (wsV RL 41 RX7 yX7_give wsX7_give) := goodIn_app (goodIn_of _ (by decide +kernel)) ggL_law_X7_give
set_option maxRecDepth 20000 in
theorem ggL_law_X8_give : GoodIn wsL_law wsX8_give := goodIn_r _ [502, 322, 295, 305, 503, 504, 505, 5, 506, 304, 507, 508, 509, 510, 303, 293, 302, 511, 512, 513, 514, 515, 516, 517, 518, 519, 520, 521, 522, 523, 294, 524, 525, 526, 527, 528, 529, 530, 531, 532, 533, 534, 535, 441, 442, 443, 444, 324, 296, 445, 446, 447, 867, 868, 869, 870, 871, 872, 873, 874, 875, 876, 877, 878, 879, 880, 881, 882, 883, 884, 885, 886, 887, 888, 889, 890, 891, 892] (by decide +kernel) (by decide +kernel)
set_option maxRecDepth 20000 in
theorem gL_law_X8_give : GoodIn wsL_law (wsV RL 44 RX8 yX8_give wsX8_give) := goodIn_app (goodIn_of _ (by decide +kernel)) ggL_law_X8_give
set_option maxRecDepth 20000 in
theorem ggL_law_X7_undo : GoodIn wsL_law wsX7_undo := goodIn_r _ [539, 19, 40, 23, 39, 144, 540, 541, 542, 18, 543, 422, 421, 55, 424, 425, 426, 34, 427, 59, 428, 429, 430, 431, 60, 168, 169, 170, 177, 178, 179, 171, 172, 278, 279, 280, 22, 281, 282, 283, 65, 284, 285, 286, 287, 857, 858, 859, 860, 861, 862, 863, 864, 865, 866, 897, 898, 899, 911, 912, 913, 914, 915, 916, 917, 918, 919, 920, 900, 901, 902, 903, 904, 905, 921, 922, 923, 924, 925, 926, 927, 928, 929, 930, 931, 932] (by decide +kernel) (by decide +kernel)
set_option maxRecDepth 20000 in
theorem gL_law_X7_undo : GoodIn wsL_law (wsV RL 45 RX7 yX7_undo wsX7_undo) := goodIn_app (goodIn_of _ (by decide +kernel)) ggL_law_X7_undo
set_option maxRecDepth 20000 in
theorem ggL_law_X8_undo : GoodIn wsL_law wsX8_undo := goodIn_r _ [547, 324, 295, 296, 867, 868, 869, 870, 871, 872, 873, 874, 875, 876, 877, 878, 879, 880, 881, 882, 883, 884, 885, 886, 887, 888, 889, 890, 891, 892] (by decide +kernel) (by decide +kernel)
set_option maxRecDepth 20000 in
theorem gL_law_X8_undo : GoodIn wsL_law (wsV RL 48 RX8 yX8_undo wsX8_undo) := goodIn_app (goodIn_of _ (by decide +kernel)) ggL_law_X8_undo
set_option maxRecDepth 20000 in
theorem ggL_law_X7_cell : GoodIn wsL_law wsX7_cell := goodIn_r _ [551, 40, 411, 412, 39, 552, 553, 398, 413, 414, 415, 2, 416, 554, 476, 477, 857, 858, 859, 860, 861, 862, 863, 864, 865, 866, 911, 912, 913, 914, 915, 916, 917, 918, 919, 920, 921, 922, 923, 924, 925, 926, 927, 928, 929, 930, 931, 932] (by decide +kernel) (by decide +kernel)
set_option maxRecDepth 20000 in
theorem gL_law_X7_cell : GoodIn wsL_law (wsV RL 49 RX7 yX7_cell wsX7_cell) := goodIn_app (goodIn_of _ (by decide +kernel)) ggL_law_X7_cell
set_option maxRecDepth 20000 in
theorem ggL_law_X8_cell : GoodIn wsL_law wsX8_cell := goodIn_r _ [558, 295, 437, 438, 439, 5, 440, 322, 368, 369, 370, 528, 529, 530, 531, 511, 512, 513, 514, 293, 559, 560, 561, 562, 563, 564, 565, 566, 867, 868, 869, 870, 871, 872, 873, 874, 875, 876, 877, 878, 879, 880, 881, 882, 883, 884, 885, 886, 887, 888, 889, 890, 891, 892] (by decide +kernel) (by decide +kernel)
set_option maxRecDepth 20000 in
theorem gL_law_X8_cell : GoodIn wsL_law (wsV RL 52 RX8 yX8_cell wsX8_cell) := goodIn_app (goodIn_of _ (by decide +kernel)) ggL_law_X8_cell
set_option maxRecDepth 20000 in
theorem ggL_law_X7_weight : GoodIn wsL_law wsX7_weight := goodIn_r _ [570, 39, 571, 413, 414, 415, 2, 416, 398, 857, 858, 859, 860, 861, 862, 863, 864, 865, 866, 921, 922, 923, 924, 925, 926, 927, 928, 929, 930, 931, 932] (by decide +kernel) (by decide +kernel)
set_option maxRecDepth 20000 in
theorem gL_law_X7_weight : GoodIn wsL_law (wsV RL 53 RX7 yX7_weight wsX7_weight) := goodIn_app (goodIn_of _ (by decide +kernel)) ggL_law_X7_weight
set_option maxRecDepth 20000 in
theorem ggL_law_X8_weight : GoodIn wsL_law wsX8_weight := goodIn_r _ [575, 293, 437, 438, 439, 5, 440, 322, 368, 369, 370, 867, 868, 869, 870, 871, 872, 873, 874, 875, 876, 877, 878, 879, 880, 881, 882, 883, 884, 885, 886, 887, 888, 889, 890, 891, 892] (by decide +kernel) (by decide +kernel)
set_option maxRecDepth 20000 in
theorem gL_law_X8_weight : GoodIn wsL_law (wsV RL 56 RX8 yX8_weight wsX8_weight) := goodIn_app (goodIn_of _ (by decide +kernel)) ggL_law_X8_weight
set_option maxRecDepth 20000 in
theorem ggL_law_X7_wide : GoodIn wsL_law wsX7_wide := goodIn_r _ [579, 39, 580, 413, 414, 415, 2, 416, 398, 857, 858, 859, 860, 861, 862, 863, 864, 865, 866, 921, 922, 923, 924, 925, 926, 927, 928, 929, 930, 931, 932] (by decide +kernel) (by decide +kernel)
set_option maxRecDepth 20000 in
theorem gL_law_X7_wide : GoodIn wsL_law (wsV RL 57 RX7 yX7_wide wsX7_wide) := goodIn_app (goodIn_of _ (by decide +kernel)) ggL_law_X7_wide
set_option maxRecDepth 20000 in
theorem ggL_law_X8_wide : GoodIn wsL_law wsX8_wide := goodIn_r _ [584, 437, 438, 439, 5, 440, 322, 368, 369, 370, 585, 586, 587, 588, 559, 560, 561, 562, 293, 867, 868, 869, 870, 871, 872, 873, 874, 875, 876, 877, 878, 879, 880, 881, 882, 883, 884, 885, 886, 887, 888, 889, 890, 891, 892] (by decide +kernel) (by decide +kernel)
set_option maxRecDepth 20000 in
theorem gL_law_X8_wide : GoodIn wsL_law (wsV RL 60 RX8 yX8_wide wsX8_wide) := goodIn_app (goodIn_of _ (by decide +kernel)) ggL_law_X8_wide
set_option maxRecDepth 20000 in
theorem ggL_law_X7_tick : GoodIn wsL_law wsX7_tick := goodIn_r _ [592, 40, 39, 19, 413, 414, 415, 2, 416, 398, 593, 594, 595, 34, 596, 170, 59, 597, 276, 277, 417, 418, 419, 18, 420, 55, 421, 422, 423, 250, 251, 252, 424, 425, 426, 427, 428, 429, 430, 431, 60, 168, 169, 177, 178, 179, 171, 172, 598, 599, 600, 601, 602, 603, 604, 605, 606, 607, 608, 609, 610, 173, 174, 175, 176, 857, 858, 859, 860, 861, 862, 863, 864, 865, 866, 921, 922, 923, 924, 925, 926, 927, 928, 929, 930, 931, 932, 911, 912, 913, 914, 915, 916, 917, 918, 919, 920, 897, 898, 899] (by decide +kernel) (by decide +kernel)
set_option maxRecDepth 20000 in
theorem gL_law_X7_tick : GoodIn wsL_law (wsV RL 61 RX7 yX7_tick wsX7_tick) := goodIn_app (goodIn_of _ (by decide +kernel)) ggL_law_X7_tick
set_option maxRecDepth 20000 in
theorem ggL_law_X8_tick : GoodIn wsL_law wsX8_tick := goodIn_r _ [614, 295, 293, 437, 438, 439, 5, 440, 322, 368, 369, 370, 441, 442, 443, 444, 324, 296, 615, 616, 617, 618, 619, 620, 621, 622, 585, 586, 587, 588, 559, 560, 561, 562, 445, 446, 447, 867, 868, 869, 870, 871, 872, 873, 874, 875, 876, 877, 878, 879, 880, 881, 882, 883, 884, 885, 886, 887, 888, 889, 890, 891, 892] (by decide +kernel) (by decide +kernel)
set_option maxRecDepth 20000 in
theorem gL_law_X8_tick : GoodIn wsL_law (wsV RL 64 RX8 yX8_tick wsX8_tick) := goodIn_app (goodIn_of _ (by decide +kernel)) ggL_law_X8_tick
set_option maxRecDepth 20000 in
theorem ggL_law_X7_page : GoodIn wsL_law wsX7_page := goodIn_r _ [626, 31, 627, 40, 628, 19, 629, 630, 631, 632, 2, 633, 27, 39, 23, 634, 635, 636, 637, 638, 26, 639, 640, 641, 642, 250, 251, 252, 71, 643, 644, 645, 646, 647, 648, 649, 650, 607, 608, 34, 609, 168, 60, 177, 610, 169, 651, 652, 653, 654, 655, 656, 657, 658, 659, 276, 277, 660, 661, 662, 663, 664, 665, 666, 667, 30, 668, 669, 75, 670, 671, 672, 673, 674, 675, 676, 677, 262, 263, 264, 265, 266, 267, 678, 679, 680, 681, 682, 683, 684, 685, 686, 687, 688, 689, 690, 691, 417, 418, 419, 18, 420, 55, 421, 422, 423, 424, 425, 426, 427, 59, 428, 429, 430, 431, 170, 178, 179, 171, 172, 432, 174, 175, 176, 857, 858, 859, 860, 861, 862, 863, 864, 865, 866, 907, 908, 909, 910, 911, 912, 913, 914, 915, 916, 917, 918, 919, 920, 900, 901, 902, 903, 904, 905, 921, 922, 923, 924, 925, 926, 927, 928, 929, 930, 931, 932, 906, 897, 898, 899] (by decide +kernel) (by decide +kernel)
set_option maxRecDepth 20000 in
theorem gL_law_X7_page : GoodIn wsL_law (wsV RL 65 RX7 yX7_page wsX7_page) := goodIn_app (goodIn_of _ (by decide +kernel)) ggL_law_X7_page
set_option maxRecDepth 20000 in
theorem ggL_law_X8_page : GoodIn wsL_law wsX8_page := goodIn_r _ [695, 306, 295, 696, 697, 698, 699, 5, 700, 701, 294, 702, 703, 704, 705, 322, 302, 706, 707, 708, 709, 300, 301, 710, 711, 712, 713, 585, 586, 587, 588, 559, 560, 561, 562, 293, 507, 508, 509, 510, 303, 511, 512, 513, 514, 515, 516, 517, 518, 528, 529, 530, 531, 714, 715, 716, 717, 718, 719, 720, 721, 722, 723, 441, 442, 443, 444, 324, 296, 445, 446, 447, 867, 868, 869, 870, 871, 872, 873, 874, 875, 876, 877, 878, 879, 880, 881, 882, 883, 884, 885, 886, 887, 888, 889, 890, 891, 892] (by decide +kernel) (by decide +kernel)
set_option maxRecDepth 20000 in
theorem gL_law_X8_page : GoodIn wsL_law (wsV RL 68 RX8 yX8_page wsX8_page) := goodIn_app (goodIn_of _ (by decide +kernel)) ggL_law_X8_page
set_option maxRecDepth 20000 in
theorem ggL_law_X7_handset : GoodIn wsL_law wsX7_handset := goodIn_r _ [727, 40, 628, 728, 729, 730, 731, 629, 39, 732, 733, 857, 858, 859, 860, 861, 862, 863, 864, 865, 866, 911, 912, 913, 914, 915, 916, 917, 918, 919, 920, 921, 922, 923, 924, 925, 926, 927, 928, 929, 930, 931, 932] (by decide +kernel) (by decide +kernel)
set_option maxRecDepth 20000 in
theorem gL_law_X7_handset : GoodIn wsL_law (wsV RL 69 RX7 yX7_handset wsX7_handset) := goodIn_app (goodIn_of _ (by decide +kernel)) ggL_law_X7_handset
set_option maxRecDepth 20000 in
theorem ggL_law_X8_handset : GoodIn wsL_law wsX8_handset := goodIn_r _ [737, 295, 294, 368, 369, 5, 370, 867, 868, 869, 870, 871, 872, 873, 874, 875, 876, 877, 878, 879, 880, 881, 882, 883, 884, 885, 886, 887, 888, 889, 890, 891, 892] (by decide +kernel) (by decide +kernel)
set_option maxRecDepth 20000 in
theorem gL_law_X8_handset : GoodIn wsL_law (wsV RL 72 RX8 yX8_handset wsX8_handset) := goodIn_app (goodIn_of _ (by decide +kernel)) ggL_law_X8_handset
set_option maxRecDepth 20000 in
theorem ggL_law_X7_where : GoodIn wsL_law wsX7_where := goodIn_r _ [741, 27, 39, 40, 636, 637, 638, 26, 639, 640, 641, 642, 250, 251, 252, 71, 643, 644, 645, 646, 647, 648, 649, 650, 607, 608, 34, 609, 168, 60, 177, 610, 169, 651, 652, 653, 654, 655, 656, 657, 658, 659, 276, 2, 277, 660, 661, 662, 663, 664, 857, 858, 859, 860, 861, 862, 863, 864, 865, 866, 911, 912, 913, 914, 915, 916, 917, 918, 919, 920, 906, 921, 922, 923, 924, 925, 926, 927, 928, 929, 930, 931, 932] (by decide +kernel) (by decide +kernel)
set_option maxRecDepth 20000 in
theorem gL_law_X7_where : GoodIn wsL_law (wsV RL 73 RX7 yX7_where wsX7_where) := goodIn_app (goodIn_of _ (by decide +kernel)) ggL_law_X7_where
set_option maxRecDepth 20000 in
theorem ggL_law_X8_where : GoodIn wsL_law wsX8_where := goodIn_r _ [745, 706, 707, 708, 5, 709, 295, 300, 301, 322, 710, 711, 712, 713, 585, 586, 587, 588, 559, 560, 561, 562, 293, 867, 868, 869, 870, 871, 872, 873, 874, 875, 876, 877, 878, 879, 880, 881, 882, 883, 884, 885, 886, 887, 888, 889, 890, 891, 892] (by decide +kernel) (by decide +kernel)
set_option maxRecDepth 20000 in
theorem gL_law_X8_where : GoodIn wsL_law (wsV RL 76 RX8 yX8_where wsX8_where) := goodIn_app (goodIn_of _ (by decide +kernel)) ggL_law_X8_where
set_option maxRecDepth 20000 in
theorem ggL_law_X7_round : GoodIn wsL_law wsX7_round := goodIn_r _ [749, 31, 627, 630, 631, 632, 2, 633, 27, 39, 40, 23, 634, 635, 636, 637, 638, 26, 639, 640, 641, 642, 250, 251, 252, 71, 643, 644, 645, 646, 647, 648, 649, 650, 607, 608, 34, 609, 168, 60, 177, 610, 169, 651, 652, 653, 654, 655, 656, 657, 658, 659, 276, 277, 660, 661, 662, 663, 664, 665, 666, 667, 30, 668, 669, 75, 670, 671, 672, 673, 674, 675, 676, 677, 262, 263, 264, 265, 266, 267, 678, 679, 680, 681, 682, 683, 684, 685, 686, 687, 688, 689, 857, 858, 859, 860, 861, 862, 863, 864, 865, 866, 907, 908, 909, 910, 900, 901, 902, 903, 904, 905, 921, 922, 923, 924, 925, 926, 927, 928, 929, 930, 931, 932, 911, 912, 913, 914, 915, 916, 917, 918, 919, 920, 906] (by decide +kernel) (by decide +kernel)
set_option maxRecDepth 20000 in
theorem gL_law_X7_round : GoodIn wsL_law (wsV RL 77 RX7 yX7_round wsX7_round) := goodIn_app (goodIn_of _ (by decide +kernel)) ggL_law_X7_round
set_option maxRecDepth 20000 in
theorem ggL_law_X8_round : GoodIn wsL_law wsX8_round := goodIn_r _ [753, 696, 701, 306, 697, 698, 699, 5, 700, 294, 702, 703, 704, 705, 322, 302, 706, 707, 708, 709, 295, 300, 301, 710, 711, 712, 713, 585, 586, 587, 588, 559, 560, 561, 562, 293, 507, 508, 509, 510, 303, 511, 512, 513, 514, 515, 516, 517, 518, 528, 529, 530, 531, 714, 715, 716, 717, 718, 719, 720, 721, 722, 723, 867, 868, 869, 870, 871, 872, 873, 874, 875, 876, 877, 878, 879, 880, 881, 882, 883, 884, 885, 886, 887, 888, 889, 890, 891, 892] (by decide +kernel) (by decide +kernel)
set_option maxRecDepth 20000 in
theorem gL_law_X8_round : GoodIn wsL_law (wsV RL 80 RX8 yX8_round wsX8_round) := goodIn_app (goodIn_of _ (by decide +kernel)) ggL_law_X8_round
set_option maxRecDepth 20000 in
theorem ggL_law_X7_chance : GoodIn wsL_law wsX7_chance := goodIn_r _ [757, 758, 23, 634, 759, 413, 414, 415, 2, 416, 39, 398, 760, 761, 762, 763, 764, 765, 766, 767, 768, 857, 858, 859, 860, 861, 862, 863, 864, 865, 866, 900, 901, 902, 903, 904, 905, 921, 922, 923, 924, 925, 926, 927, 928, 929, 930, 931, 932] (by decide +kernel) (by decide +kernel)
set_option maxRecDepth 20000 in
theorem gL_law_X7_chance : GoodIn wsL_law (wsV RL 81 RX7 yX7_chance wsX7_chance) := goodIn_app (goodIn_of _ (by decide +kernel)) ggL_law_X7_chance
set_option maxRecDepth 20000 in
theorem ggL_law_X8_chance : GoodIn wsL_law wsX8_chance := goodIn_r _ [772, 773, 302, 437, 438, 439, 5, 440, 322, 368, 369, 370, 507, 508, 509, 510, 303, 293, 511, 512, 513, 514, 515, 516, 517, 518, 528, 529, 530, 531, 295, 774, 775, 776, 777, 778, 779, 780, 781, 782, 783, 867, 868, 869, 870, 871, 872, 873, 874, 875, 876, 877, 878, 879, 880, 881, 882, 883, 884, 885, 886, 887, 888, 889, 890, 891, 892] (by decide +kernel) (by decide +kernel)
set_option maxRecDepth 20000 in
theorem gL_law_X8_chance : GoodIn wsL_law (wsV RL 85 RX8 yX8_chance wsX8_chance) := goodIn_app (goodIn_of _ (by decide +kernel)) ggL_law_X8_chance
set_option maxRecDepth 20000 in
theorem ggL_law_X7_mean : GoodIn wsL_law wsX7_mean := goodIn_r _ [787, 758, 23, 39, 40, 412, 759, 788, 760, 761, 2, 762, 789, 479, 480, 22, 481, 283, 286, 482, 763, 764, 765, 766, 767, 768, 790, 791, 792, 793, 285, 794, 795, 796, 797, 452, 453, 798, 799, 470, 471, 472, 65, 473, 474, 475, 476, 477, 478, 857, 858, 859, 860, 861, 862, 863, 864, 865, 866, 911, 912, 913, 914, 915, 916, 917, 918, 919, 920, 900, 901, 902, 903, 904, 905, 921, 922, 923, 924, 925, 926, 927, 928, 929, 930, 931, 932] (by decide +kernel) (by decide +kernel)
set_option maxRecDepth 20000 in
theorem gL_law_X7_mean : GoodIn wsL_law (wsV RL 86 RX7 yX7_mean wsX7_mean) := goodIn_app (goodIn_of _ (by decide +kernel)) ggL_law_X7_mean
set_option maxRecDepth 20000 in
theorem ggL_law_X8_mean : GoodIn wsL_law wsX8_mean := goodIn_r _ [803, 773, 295, 523, 804, 368, 369, 5, 370, 507, 508, 509, 510, 322, 303, 293, 302, 511, 512, 513, 514, 515, 516, 517, 518, 774, 775, 776, 777, 528, 529, 530, 531, 524, 525, 526, 527, 778, 779, 780, 781, 782, 783, 519, 520, 521, 522, 294, 867, 868, 869, 870, 871, 872, 873, 874, 875, 876, 877, 878, 879, 880, 881, 882, 883, 884, 885, 886, 887, 888, 889, 890, 891, 892] (by decide +kernel) (by decide +kernel)
set_option maxRecDepth 20000 in
theorem gL_law_X8_mean : GoodIn wsL_law (wsV RL 89 RX8 yX8_mean wsX8_mean) := goodIn_app (goodIn_of _ (by decide +kernel)) ggL_law_X8_mean
set_option maxRecDepth 20000 in
theorem ggL_law_X7_best : GoodIn wsL_law wsX7_best := goodIn_r _ [808, 23, 39, 463, 413, 414, 415, 2, 416, 398, 464, 465, 466, 22, 467, 287, 67, 283, 468, 469, 470, 471, 472, 65, 473, 474, 475, 476, 477, 478, 479, 480, 481, 286, 482, 483, 484, 485, 486, 66, 487, 429, 430, 431, 488, 489, 490, 491, 492, 493, 494, 495, 496, 497, 251, 498, 857, 858, 859, 860, 861, 862, 863, 864, 865, 866, 900, 901, 902, 903, 904, 905, 921, 922, 923, 924, 925, 926, 927, 928, 929, 930, 931, 932] (by decide +kernel) (by decide +kernel)
set_option maxRecDepth 20000 in
theorem gL_law_X7_best : GoodIn wsL_law (wsV RL 90 RX7 yX7_best wsX7_best) := goodIn_app (goodIn_of _ (by decide +kernel)) ggL_law_X7_best
set_option maxRecDepth 20000 in
theorem ggL_law_X8_best : GoodIn wsL_law wsX8_best := goodIn_r _ [812, 305, 437, 438, 439, 5, 440, 322, 368, 369, 370, 503, 504, 505, 506, 304, 507, 508, 509, 510, 303, 293, 302, 511, 512, 513, 514, 515, 516, 517, 518, 519, 520, 521, 522, 523, 294, 524, 525, 526, 527, 528, 529, 530, 531, 295, 532, 533, 534, 535, 867, 868, 869, 870, 871, 872, 873, 874, 875, 876, 877, 878, 879, 880, 881, 882, 883, 884, 885, 886, 887, 888, 889, 890, 891, 892] (by decide +kernel) (by decide +kernel)
set_option maxRecDepth 20000 in
theorem gL_law_X8_best : GoodIn wsL_law (wsV RL 93 RX8 yX8_best wsX8_best) := goodIn_app (goodIn_of _ (by decide +kernel)) ggL_law_X8_best
set_option maxRecDepth 20000 in
theorem ggL_law_X7_least : GoodIn wsL_law wsX7_least := goodIn_r _ [816, 758, 23, 39, 817, 788, 759, 760, 761, 2, 762, 464, 465, 466, 22, 467, 287, 67, 283, 468, 469, 470, 471, 472, 65, 473, 474, 475, 476, 477, 478, 479, 480, 481, 286, 482, 483, 484, 485, 486, 66, 487, 429, 430, 431, 488, 489, 490, 491, 492, 493, 494, 495, 496, 497, 251, 498, 763, 764, 765, 766, 767, 768, 857, 858, 859, 860, 861, 862, 863, 864, 865, 866, 900, 901, 902, 903, 904, 905, 921, 922, 923, 924, 925, 926, 927, 928, 929, 930, 931, 932] (by decide +kernel) (by decide +kernel)
set_option maxRecDepth 20000 in
theorem gL_law_X7_least : GoodIn wsL_law (wsV RL 94 RX7 yX7_least wsX7_least) := goodIn_app (goodIn_of _ (by decide +kernel)) ggL_law_X7_least
set_option maxRecDepth 20000 in
theorem ggL_law_X8_least : GoodIn wsL_law wsX8_least := goodIn_r _ [821, 773, 523, 368, 369, 5, 370, 503, 504, 505, 506, 304, 305, 507, 508, 509, 510, 322, 303, 293, 302, 511, 512, 513, 514, 515, 516, 517, 518, 519, 520, 521, 522, 294, 524, 525, 526, 527, 528, 529, 530, 531, 295, 532, 533, 534, 535, 774, 775, 776, 777, 778, 779, 780, 781, 782, 783, 867, 868, 869, 870, 871, 872, 873, 874, 875, 876, 877, 878, 879, 880, 881, 882, 883, 884, 885, 886, 887, 888, 889, 890, 891, 892] (by decide +kernel) (by decide +kernel)
set_option maxRecDepth 20000 in
theorem gL_law_X8_least : GoodIn wsL_law (wsV RL 98 RX8 yX8_least wsX8_least) := goodIn_app (goodIn_of _ (by decide +kernel)) ggL_law_X8_least
set_option maxRecDepth 20000 in
theorem ggL_law_X7_walk : GoodIn wsL_law wsX7_walk := goodIn_r _ [825, 35, 40, 39, 628, 826, 425, 426, 34, 427, 59, 428, 429, 430, 431, 60, 168, 169, 170, 177, 178, 179, 171, 172, 827, 828, 2, 829, 830, 831, 832, 833, 834, 835, 836, 837, 838, 839, 598, 599, 600, 601, 602, 603, 604, 605, 606, 607, 608, 609, 610, 173, 174, 175, 176, 857, 858, 859, 860, 861, 862, 863, 864, 865, 866, 911, 912, 913, 914, 915, 916, 917, 918, 919, 920, 921, 922, 923, 924, 925, 926, 927, 928, 929, 930, 931, 932] (by decide +kernel) (by decide +kernel)
set_option maxRecDepth 20000 in
theorem gL_law_X7_walk : GoodIn wsL_law (wsV RL 99 RX7 yX7_walk wsX7_walk) := goodIn_app (goodIn_of _ (by decide +kernel)) ggL_law_X7_walk
set_option maxRecDepth 20000 in
theorem ggL_law_X8_walk : GoodIn wsL_law wsX8_walk := goodIn_r _ [843, 307, 295, 844, 845, 846, 322, 293, 368, 369, 5, 370, 528, 529, 530, 531, 511, 512, 513, 514, 615, 616, 617, 618, 619, 620, 621, 622, 585, 586, 587, 588, 559, 560, 561, 562, 445, 446, 447, 867, 868, 869, 870, 871, 872, 873, 874, 875, 876, 877, 878, 879, 880, 881, 882, 883, 884, 885, 886, 887, 888, 889, 890, 891, 892] (by decide +kernel) (by decide +kernel)
set_option maxRecDepth 20000 in
theorem gL_law_X8_walk : GoodIn wsL_law (wsV RL 102 RX8 yX8_walk wsX8_walk) := goodIn_app (goodIn_of _ (by decide +kernel)) ggL_law_X8_walk
set_option maxRecDepth 20000 in
theorem ggL_law_X7_count : GoodIn wsL_law wsX7_count := goodIn_r _ [850, 39, 398, 851, 40, 452, 453, 635, 732, 733, 852, 19, 144, 15, 43, 857, 858, 859, 860, 861, 862, 863, 864, 865, 866, 921, 922, 923, 924, 925, 926, 927, 928, 929, 930, 931, 932, 911, 912, 913, 914, 915, 916, 917, 918, 919, 920, 897, 898, 899, 893, 894, 895, 896] (by decide +kernel) (by decide +kernel)
set_option maxRecDepth 20000 in
theorem gL_law_X7_count : GoodIn wsL_law (wsV RL 103 RX7 yX7_count wsX7_count) := goodIn_app (goodIn_of _ (by decide +kernel)) ggL_law_X7_count
set_option maxRecDepth 20000 in
theorem ggL_law_X8_count : GoodIn wsL_law wsX8_count := goodIn_r _ [856, 322, 323, 295, 294, 324, 333, 867, 868, 869, 870, 871, 872, 873, 874, 875, 876, 877, 878, 879, 880, 881, 882, 883, 884, 885, 886, 887, 888, 889, 890, 891, 892] (by decide +kernel) (by decide +kernel)
set_option maxRecDepth 20000 in
theorem gL_law_X8_count : GoodIn wsL_law (wsV RL 106 RX8 yX8_count wsX8_count) := goodIn_app (goodIn_of _ (by decide +kernel)) ggL_law_X8_count
theorem dL_law_0 : decode cL_law 0 = .ok (.new 7, 3) := by decide +kernel
theorem dL_law_3 : decode cL_law 3 = .ok (.dup, 1) := by decide +kernel
theorem dL_law_4 : decode cL_law 4 = .ok (.invokespecial 9, 3) := by decide +kernel
theorem dL_law_7 : decode cL_law 7 = .ok (.astore_n 1, 1) := by decide +kernel
theorem dL_law_8 : decode cL_law 8 = .ok (.new 10, 3) := by decide +kernel
theorem dL_law_11 : decode cL_law 11 = .ok (.dup, 1) := by decide +kernel
theorem dL_law_12 : decode cL_law 12 = .ok (.invokespecial 12, 3) := by decide +kernel
theorem dL_law_15 : decode cL_law 15 = .ok (.astore_n 2, 1) := by decide +kernel
theorem dL_law_16 : decode cL_law 16 = .ok (.iconst 0, 1) := by decide +kernel
theorem dL_law_17 : decode cL_law 17 = .ok (.istore_n 3, 1) := by decide +kernel
theorem dL_law_18 : decode cL_law 18 = .ok (.iload_n 3, 1) := by decide +kernel
theorem dL_law_19 : decode cL_law 19 = .ok (.aload_n 0, 1) := by decide +kernel
theorem dL_law_20 : decode cL_law 20 = .ok (.arraylength, 1) := by decide +kernel
theorem dL_law_21 : decode cL_law 21 = .ok (.iconst 4, 1) := by decide +kernel
theorem dL_law_22 : decode cL_law 22 = .ok (.isub, 1) := by decide +kernel
theorem dL_law_23 : decode cL_law 23 = .ok (.if_icmp .gt 658, 3) := by decide +kernel
theorem dL_law_26 : decode cL_law 26 = .ok (.aload_n 0, 1) := by decide +kernel
theorem dL_law_27 : decode cL_law 27 = .ok (.iload_n 3, 1) := by decide +kernel
theorem dL_law_28 : decode cL_law 28 = .ok (.iaload, 1) := by decide +kernel
theorem dL_law_29 : decode cL_law 29 = .ok (.bipush 31, 2) := by decide +kernel
theorem dL_law_31 : decode cL_law 31 = .ok (.iand, 1) := by decide +kernel
theorem dL_law_32 : decode cL_law 32 = .ok (.tableswitch 643 0 21 #[104, 127, 140, 153, 166, 209, 242, 255, 268, 301, 334, 367, 390, 403, 426, 439, 462, 496, 530, 553, 577, 620], 104) := by decide +kernel
theorem dL_law_136 : decode cL_law 136 = .ok (.aload_n 1, 1) := by decide +kernel
theorem dL_law_137 : decode cL_law 137 = .ok (.aload_n 0, 1) := by decide +kernel
theorem dL_law_138 : decode cL_law 138 = .ok (.iload_n 3, 1) := by decide +kernel
theorem dL_law_139 : decode cL_law 139 = .ok (.iconst 1, 1) := by decide +kernel
theorem dL_law_140 : decode cL_law 140 = .ok (.iadd, 1) := by decide +kernel
theorem dL_law_141 : decode cL_law 141 = .ok (.iaload, 1) := by decide +kernel
theorem dL_law_142 : decode cL_law 142 = .ok (.invokevirtual 13, 3) := by decide +kernel
theorem dL_law_145 : decode cL_law 145 = .ok (.aload_n 2, 1) := by decide +kernel
theorem dL_law_146 : decode cL_law 146 = .ok (.aload_n 0, 1) := by decide +kernel
theorem dL_law_147 : decode cL_law 147 = .ok (.iload_n 3, 1) := by decide +kernel
theorem dL_law_148 : decode cL_law 148 = .ok (.iconst 1, 1) := by decide +kernel
theorem dL_law_149 : decode cL_law 149 = .ok (.iadd, 1) := by decide +kernel
theorem dL_law_150 : decode cL_law 150 = .ok (.iaload, 1) := by decide +kernel
theorem dL_law_151 : decode cL_law 151 = .ok (.invokevirtual 17, 3) := by decide +kernel
theorem dL_law_154 : decode cL_law 154 = .ok (.if_icmp .eq 521, 3) := by decide +kernel
theorem dL_law_157 : decode cL_law 157 = .ok (.iconst 0, 1) := by decide +kernel
theorem dL_law_158 : decode cL_law 158 = .ok (.ireturn, 1) := by decide +kernel
theorem dL_law_159 : decode cL_law 159 = .ok (.aload_n 1, 1) := by decide +kernel
theorem dL_law_160 : decode cL_law 160 = .ok (.invokevirtual 18, 3) := by decide +kernel
theorem dL_law_163 : decode cL_law 163 = .ok (.aload_n 2, 1) := by decide +kernel
theorem dL_law_164 : decode cL_law 164 = .ok (.invokevirtual 22, 3) := by decide +kernel
theorem dL_law_167 : decode cL_law 167 = .ok (.if_icmp .eq 508, 3) := by decide +kernel
theorem dL_law_170 : decode cL_law 170 = .ok (.iconst 0, 1) := by decide +kernel
theorem dL_law_171 : decode cL_law 171 = .ok (.ireturn, 1) := by decide +kernel
theorem dL_law_172 : decode cL_law 172 = .ok (.aload_n 1, 1) := by decide +kernel
theorem dL_law_173 : decode cL_law 173 = .ok (.invokevirtual 23, 3) := by decide +kernel
theorem dL_law_176 : decode cL_law 176 = .ok (.aload_n 2, 1) := by decide +kernel
theorem dL_law_177 : decode cL_law 177 = .ok (.invokevirtual 26, 3) := by decide +kernel
theorem dL_law_180 : decode cL_law 180 = .ok (.if_icmp .eq 495, 3) := by decide +kernel
theorem dL_law_183 : decode cL_law 183 = .ok (.iconst 0, 1) := by decide +kernel
theorem dL_law_184 : decode cL_law 184 = .ok (.ireturn, 1) := by decide +kernel
theorem dL_law_185 : decode cL_law 185 = .ok (.aload_n 1, 1) := by decide +kernel
theorem dL_law_186 : decode cL_law 186 = .ok (.invokevirtual 27, 3) := by decide +kernel
theorem dL_law_189 : decode cL_law 189 = .ok (.aload_n 2, 1) := by decide +kernel
theorem dL_law_190 : decode cL_law 190 = .ok (.invokevirtual 30, 3) := by decide +kernel
theorem dL_law_193 : decode cL_law 193 = .ok (.if_icmp .eq 482, 3) := by decide +kernel
theorem dL_law_196 : decode cL_law 196 = .ok (.iconst 0, 1) := by decide +kernel
theorem dL_law_197 : decode cL_law 197 = .ok (.ireturn, 1) := by decide +kernel
theorem dL_law_198 : decode cL_law 198 = .ok (.aload_n 1, 1) := by decide +kernel
theorem dL_law_199 : decode cL_law 199 = .ok (.aload_n 0, 1) := by decide +kernel
theorem dL_law_200 : decode cL_law 200 = .ok (.iload_n 3, 1) := by decide +kernel
theorem dL_law_201 : decode cL_law 201 = .ok (.iconst 1, 1) := by decide +kernel
theorem dL_law_202 : decode cL_law 202 = .ok (.iadd, 1) := by decide +kernel
theorem dL_law_203 : decode cL_law 203 = .ok (.iaload, 1) := by decide +kernel
theorem dL_law_204 : decode cL_law 204 = .ok (.aload_n 0, 1) := by decide +kernel
theorem dL_law_205 : decode cL_law 205 = .ok (.iload_n 3, 1) := by decide +kernel
theorem dL_law_206 : decode cL_law 206 = .ok (.iconst 2, 1) := by decide +kernel
theorem dL_law_207 : decode cL_law 207 = .ok (.iadd, 1) := by decide +kernel
theorem dL_law_208 : decode cL_law 208 = .ok (.iaload, 1) := by decide +kernel
theorem dL_law_209 : decode cL_law 209 = .ok (.aload_n 0, 1) := by decide +kernel
theorem dL_law_210 : decode cL_law 210 = .ok (.iload_n 3, 1) := by decide +kernel
theorem dL_law_211 : decode cL_law 211 = .ok (.iconst 3, 1) := by decide +kernel
theorem dL_law_212 : decode cL_law 212 = .ok (.iadd, 1) := by decide +kernel
theorem dL_law_213 : decode cL_law 213 = .ok (.iaload, 1) := by decide +kernel
theorem dL_law_214 : decode cL_law 214 = .ok (.invokevirtual 31, 3) := by decide +kernel
theorem dL_law_217 : decode cL_law 217 = .ok (.aload_n 2, 1) := by decide +kernel
theorem dL_law_218 : decode cL_law 218 = .ok (.aload_n 0, 1) := by decide +kernel
theorem dL_law_219 : decode cL_law 219 = .ok (.iload_n 3, 1) := by decide +kernel
theorem dL_law_220 : decode cL_law 220 = .ok (.iconst 1, 1) := by decide +kernel
theorem dL_law_221 : decode cL_law 221 = .ok (.iadd, 1) := by decide +kernel
theorem dL_law_222 : decode cL_law 222 = .ok (.iaload, 1) := by decide +kernel
theorem dL_law_223 : decode cL_law 223 = .ok (.aload_n 0, 1) := by decide +kernel
theorem dL_law_224 : decode cL_law 224 = .ok (.iload_n 3, 1) := by decide +kernel
theorem dL_law_225 : decode cL_law 225 = .ok (.iconst 2, 1) := by decide +kernel
theorem dL_law_226 : decode cL_law 226 = .ok (.iadd, 1) := by decide +kernel
theorem dL_law_227 : decode cL_law 227 = .ok (.iaload, 1) := by decide +kernel
theorem dL_law_228 : decode cL_law 228 = .ok (.aload_n 0, 1) := by decide +kernel
theorem dL_law_229 : decode cL_law 229 = .ok (.iload_n 3, 1) := by decide +kernel
theorem dL_law_230 : decode cL_law 230 = .ok (.iconst 3, 1) := by decide +kernel
theorem dL_law_231 : decode cL_law 231 = .ok (.iadd, 1) := by decide +kernel
theorem dL_law_232 : decode cL_law 232 = .ok (.iaload, 1) := by decide +kernel
theorem dL_law_233 : decode cL_law 233 = .ok (.invokevirtual 35, 3) := by decide +kernel
theorem dL_law_236 : decode cL_law 236 = .ok (.if_icmp .eq 439, 3) := by decide +kernel
theorem dL_law_239 : decode cL_law 239 = .ok (.iconst 0, 1) := by decide +kernel
theorem dL_law_240 : decode cL_law 240 = .ok (.ireturn, 1) := by decide +kernel
theorem dL_law_241 : decode cL_law 241 = .ok (.aload_n 1, 1) := by decide +kernel
theorem dL_law_242 : decode cL_law 242 = .ok (.aload_n 0, 1) := by decide +kernel
theorem dL_law_243 : decode cL_law 243 = .ok (.iload_n 3, 1) := by decide +kernel
theorem dL_law_244 : decode cL_law 244 = .ok (.iconst 1, 1) := by decide +kernel
theorem dL_law_245 : decode cL_law 245 = .ok (.iadd, 1) := by decide +kernel
theorem dL_law_246 : decode cL_law 246 = .ok (.iaload, 1) := by decide +kernel
theorem dL_law_247 : decode cL_law 247 = .ok (.aload_n 0, 1) := by decide +kernel
theorem dL_law_248 : decode cL_law 248 = .ok (.iload_n 3, 1) := by decide +kernel
theorem dL_law_249 : decode cL_law 249 = .ok (.iconst 2, 1) := by decide +kernel
theorem dL_law_250 : decode cL_law 250 = .ok (.iadd, 1) := by decide +kernel
theorem dL_law_251 : decode cL_law 251 = .ok (.iaload, 1) := by decide +kernel
theorem dL_law_252 : decode cL_law 252 = .ok (.invokevirtual 36, 3) := by decide +kernel
theorem dL_law_255 : decode cL_law 255 = .ok (.aload_n 2, 1) := by decide +kernel
theorem dL_law_256 : decode cL_law 256 = .ok (.aload_n 0, 1) := by decide +kernel
theorem dL_law_257 : decode cL_law 257 = .ok (.iload_n 3, 1) := by decide +kernel
theorem dL_law_258 : decode cL_law 258 = .ok (.iconst 1, 1) := by decide +kernel
theorem dL_law_259 : decode cL_law 259 = .ok (.iadd, 1) := by decide +kernel
theorem dL_law_260 : decode cL_law 260 = .ok (.iaload, 1) := by decide +kernel
theorem dL_law_261 : decode cL_law 261 = .ok (.aload_n 0, 1) := by decide +kernel
theorem dL_law_262 : decode cL_law 262 = .ok (.iload_n 3, 1) := by decide +kernel
theorem dL_law_263 : decode cL_law 263 = .ok (.iconst 2, 1) := by decide +kernel
theorem dL_law_264 : decode cL_law 264 = .ok (.iadd, 1) := by decide +kernel
theorem dL_law_265 : decode cL_law 265 = .ok (.iaload, 1) := by decide +kernel
theorem dL_law_266 : decode cL_law 266 = .ok (.invokevirtual 40, 3) := by decide +kernel
theorem dL_law_269 : decode cL_law 269 = .ok (.if_icmp .eq 406, 3) := by decide +kernel
theorem dL_law_272 : decode cL_law 272 = .ok (.iconst 0, 1) := by decide +kernel
theorem dL_law_273 : decode cL_law 273 = .ok (.ireturn, 1) := by decide +kernel
theorem dL_law_274 : decode cL_law 274 = .ok (.aload_n 1, 1) := by decide +kernel
theorem dL_law_275 : decode cL_law 275 = .ok (.invokevirtual 41, 3) := by decide +kernel
theorem dL_law_278 : decode cL_law 278 = .ok (.aload_n 2, 1) := by decide +kernel
theorem dL_law_279 : decode cL_law 279 = .ok (.invokevirtual 44, 3) := by decide +kernel
theorem dL_law_282 : decode cL_law 282 = .ok (.if_icmp .eq 393, 3) := by decide +kernel
theorem dL_law_285 : decode cL_law 285 = .ok (.iconst 0, 1) := by decide +kernel
theorem dL_law_286 : decode cL_law 286 = .ok (.ireturn, 1) := by decide +kernel
theorem dL_law_287 : decode cL_law 287 = .ok (.aload_n 1, 1) := by decide +kernel
theorem dL_law_288 : decode cL_law 288 = .ok (.invokevirtual 45, 3) := by decide +kernel
theorem dL_law_291 : decode cL_law 291 = .ok (.aload_n 2, 1) := by decide +kernel
theorem dL_law_292 : decode cL_law 292 = .ok (.invokevirtual 48, 3) := by decide +kernel
theorem dL_law_295 : decode cL_law 295 = .ok (.if_icmp .eq 380, 3) := by decide +kernel
theorem dL_law_298 : decode cL_law 298 = .ok (.iconst 0, 1) := by decide +kernel
theorem dL_law_299 : decode cL_law 299 = .ok (.ireturn, 1) := by decide +kernel
theorem dL_law_300 : decode cL_law 300 = .ok (.aload_n 1, 1) := by decide +kernel
theorem dL_law_301 : decode cL_law 301 = .ok (.aload_n 0, 1) := by decide +kernel
theorem dL_law_302 : decode cL_law 302 = .ok (.iload_n 3, 1) := by decide +kernel
theorem dL_law_303 : decode cL_law 303 = .ok (.iconst 1, 1) := by decide +kernel
theorem dL_law_304 : decode cL_law 304 = .ok (.iadd, 1) := by decide +kernel
theorem dL_law_305 : decode cL_law 305 = .ok (.iaload, 1) := by decide +kernel
theorem dL_law_306 : decode cL_law 306 = .ok (.aload_n 0, 1) := by decide +kernel
theorem dL_law_307 : decode cL_law 307 = .ok (.iload_n 3, 1) := by decide +kernel
theorem dL_law_308 : decode cL_law 308 = .ok (.iconst 2, 1) := by decide +kernel
theorem dL_law_309 : decode cL_law 309 = .ok (.iadd, 1) := by decide +kernel
theorem dL_law_310 : decode cL_law 310 = .ok (.iaload, 1) := by decide +kernel
theorem dL_law_311 : decode cL_law 311 = .ok (.invokevirtual 49, 3) := by decide +kernel
theorem dL_law_314 : decode cL_law 314 = .ok (.aload_n 2, 1) := by decide +kernel
theorem dL_law_315 : decode cL_law 315 = .ok (.aload_n 0, 1) := by decide +kernel
theorem dL_law_316 : decode cL_law 316 = .ok (.iload_n 3, 1) := by decide +kernel
theorem dL_law_317 : decode cL_law 317 = .ok (.iconst 1, 1) := by decide +kernel
theorem dL_law_318 : decode cL_law 318 = .ok (.iadd, 1) := by decide +kernel
theorem dL_law_319 : decode cL_law 319 = .ok (.iaload, 1) := by decide +kernel
theorem dL_law_320 : decode cL_law 320 = .ok (.aload_n 0, 1) := by decide +kernel
theorem dL_law_321 : decode cL_law 321 = .ok (.iload_n 3, 1) := by decide +kernel
theorem dL_law_322 : decode cL_law 322 = .ok (.iconst 2, 1) := by decide +kernel
theorem dL_law_323 : decode cL_law 323 = .ok (.iadd, 1) := by decide +kernel
theorem dL_law_324 : decode cL_law 324 = .ok (.iaload, 1) := by decide +kernel
theorem dL_law_325 : decode cL_law 325 = .ok (.invokevirtual 52, 3) := by decide +kernel
theorem dL_law_328 : decode cL_law 328 = .ok (.if_icmp .eq 347, 3) := by decide +kernel
theorem dL_law_331 : decode cL_law 331 = .ok (.iconst 0, 1) := by decide +kernel
theorem dL_law_332 : decode cL_law 332 = .ok (.ireturn, 1) := by decide +kernel
theorem dL_law_333 : decode cL_law 333 = .ok (.aload_n 1, 1) := by decide +kernel
theorem dL_law_334 : decode cL_law 334 = .ok (.aload_n 0, 1) := by decide +kernel
theorem dL_law_335 : decode cL_law 335 = .ok (.iload_n 3, 1) := by decide +kernel
theorem dL_law_336 : decode cL_law 336 = .ok (.iconst 1, 1) := by decide +kernel
theorem dL_law_337 : decode cL_law 337 = .ok (.iadd, 1) := by decide +kernel
theorem dL_law_338 : decode cL_law 338 = .ok (.iaload, 1) := by decide +kernel
theorem dL_law_339 : decode cL_law 339 = .ok (.aload_n 0, 1) := by decide +kernel
theorem dL_law_340 : decode cL_law 340 = .ok (.iload_n 3, 1) := by decide +kernel
theorem dL_law_341 : decode cL_law 341 = .ok (.iconst 2, 1) := by decide +kernel
theorem dL_law_342 : decode cL_law 342 = .ok (.iadd, 1) := by decide +kernel
theorem dL_law_343 : decode cL_law 343 = .ok (.iaload, 1) := by decide +kernel
theorem dL_law_344 : decode cL_law 344 = .ok (.invokevirtual 53, 3) := by decide +kernel
theorem dL_law_347 : decode cL_law 347 = .ok (.aload_n 2, 1) := by decide +kernel
theorem dL_law_348 : decode cL_law 348 = .ok (.aload_n 0, 1) := by decide +kernel
theorem dL_law_349 : decode cL_law 349 = .ok (.iload_n 3, 1) := by decide +kernel
theorem dL_law_350 : decode cL_law 350 = .ok (.iconst 1, 1) := by decide +kernel
theorem dL_law_351 : decode cL_law 351 = .ok (.iadd, 1) := by decide +kernel
theorem dL_law_352 : decode cL_law 352 = .ok (.iaload, 1) := by decide +kernel
theorem dL_law_353 : decode cL_law 353 = .ok (.aload_n 0, 1) := by decide +kernel
theorem dL_law_354 : decode cL_law 354 = .ok (.iload_n 3, 1) := by decide +kernel
theorem dL_law_355 : decode cL_law 355 = .ok (.iconst 2, 1) := by decide +kernel
theorem dL_law_356 : decode cL_law 356 = .ok (.iadd, 1) := by decide +kernel
theorem dL_law_357 : decode cL_law 357 = .ok (.iaload, 1) := by decide +kernel
theorem dL_law_358 : decode cL_law 358 = .ok (.invokevirtual 56, 3) := by decide +kernel
theorem dL_law_361 : decode cL_law 361 = .ok (.if_icmp .eq 314, 3) := by decide +kernel
theorem dL_law_364 : decode cL_law 364 = .ok (.iconst 0, 1) := by decide +kernel
theorem dL_law_365 : decode cL_law 365 = .ok (.ireturn, 1) := by decide +kernel
theorem dL_law_366 : decode cL_law 366 = .ok (.aload_n 1, 1) := by decide +kernel
theorem dL_law_367 : decode cL_law 367 = .ok (.aload_n 0, 1) := by decide +kernel
theorem dL_law_368 : decode cL_law 368 = .ok (.iload_n 3, 1) := by decide +kernel
theorem dL_law_369 : decode cL_law 369 = .ok (.iconst 1, 1) := by decide +kernel
theorem dL_law_370 : decode cL_law 370 = .ok (.iadd, 1) := by decide +kernel
theorem dL_law_371 : decode cL_law 371 = .ok (.iaload, 1) := by decide +kernel
theorem dL_law_372 : decode cL_law 372 = .ok (.aload_n 0, 1) := by decide +kernel
theorem dL_law_373 : decode cL_law 373 = .ok (.iload_n 3, 1) := by decide +kernel
theorem dL_law_374 : decode cL_law 374 = .ok (.iconst 2, 1) := by decide +kernel
theorem dL_law_375 : decode cL_law 375 = .ok (.iadd, 1) := by decide +kernel
theorem dL_law_376 : decode cL_law 376 = .ok (.iaload, 1) := by decide +kernel
theorem dL_law_377 : decode cL_law 377 = .ok (.invokevirtual 57, 3) := by decide +kernel
theorem dL_law_380 : decode cL_law 380 = .ok (.aload_n 2, 1) := by decide +kernel
theorem dL_law_381 : decode cL_law 381 = .ok (.aload_n 0, 1) := by decide +kernel
theorem dL_law_382 : decode cL_law 382 = .ok (.iload_n 3, 1) := by decide +kernel
theorem dL_law_383 : decode cL_law 383 = .ok (.iconst 1, 1) := by decide +kernel
theorem dL_law_384 : decode cL_law 384 = .ok (.iadd, 1) := by decide +kernel
theorem dL_law_385 : decode cL_law 385 = .ok (.iaload, 1) := by decide +kernel
theorem dL_law_386 : decode cL_law 386 = .ok (.aload_n 0, 1) := by decide +kernel
theorem dL_law_387 : decode cL_law 387 = .ok (.iload_n 3, 1) := by decide +kernel
theorem dL_law_388 : decode cL_law 388 = .ok (.iconst 2, 1) := by decide +kernel
theorem dL_law_389 : decode cL_law 389 = .ok (.iadd, 1) := by decide +kernel
theorem dL_law_390 : decode cL_law 390 = .ok (.iaload, 1) := by decide +kernel
theorem dL_law_391 : decode cL_law 391 = .ok (.invokevirtual 60, 3) := by decide +kernel
theorem dL_law_394 : decode cL_law 394 = .ok (.if_icmp .eq 281, 3) := by decide +kernel
theorem dL_law_397 : decode cL_law 397 = .ok (.iconst 0, 1) := by decide +kernel
theorem dL_law_398 : decode cL_law 398 = .ok (.ireturn, 1) := by decide +kernel
theorem dL_law_399 : decode cL_law 399 = .ok (.aload_n 1, 1) := by decide +kernel
theorem dL_law_400 : decode cL_law 400 = .ok (.aload_n 0, 1) := by decide +kernel
theorem dL_law_401 : decode cL_law 401 = .ok (.iload_n 3, 1) := by decide +kernel
theorem dL_law_402 : decode cL_law 402 = .ok (.iconst 1, 1) := by decide +kernel
theorem dL_law_403 : decode cL_law 403 = .ok (.iadd, 1) := by decide +kernel
theorem dL_law_404 : decode cL_law 404 = .ok (.iaload, 1) := by decide +kernel
theorem dL_law_405 : decode cL_law 405 = .ok (.invokevirtual 61, 3) := by decide +kernel
theorem dL_law_408 : decode cL_law 408 = .ok (.aload_n 2, 1) := by decide +kernel
theorem dL_law_409 : decode cL_law 409 = .ok (.aload_n 0, 1) := by decide +kernel
theorem dL_law_410 : decode cL_law 410 = .ok (.iload_n 3, 1) := by decide +kernel
theorem dL_law_411 : decode cL_law 411 = .ok (.iconst 1, 1) := by decide +kernel
theorem dL_law_412 : decode cL_law 412 = .ok (.iadd, 1) := by decide +kernel
theorem dL_law_413 : decode cL_law 413 = .ok (.iaload, 1) := by decide +kernel
theorem dL_law_414 : decode cL_law 414 = .ok (.invokevirtual 64, 3) := by decide +kernel
theorem dL_law_417 : decode cL_law 417 = .ok (.if_icmp .eq 258, 3) := by decide +kernel
theorem dL_law_420 : decode cL_law 420 = .ok (.iconst 0, 1) := by decide +kernel
theorem dL_law_421 : decode cL_law 421 = .ok (.ireturn, 1) := by decide +kernel
theorem dL_law_422 : decode cL_law 422 = .ok (.aload_n 1, 1) := by decide +kernel
theorem dL_law_423 : decode cL_law 423 = .ok (.invokevirtual 65, 3) := by decide +kernel
theorem dL_law_426 : decode cL_law 426 = .ok (.aload_n 2, 1) := by decide +kernel
theorem dL_law_427 : decode cL_law 427 = .ok (.invokevirtual 68, 3) := by decide +kernel
theorem dL_law_430 : decode cL_law 430 = .ok (.if_icmp .eq 245, 3) := by decide +kernel
theorem dL_law_433 : decode cL_law 433 = .ok (.iconst 0, 1) := by decide +kernel
theorem dL_law_434 : decode cL_law 434 = .ok (.ireturn, 1) := by decide +kernel
theorem dL_law_435 : decode cL_law 435 = .ok (.aload_n 1, 1) := by decide +kernel
theorem dL_law_436 : decode cL_law 436 = .ok (.aload_n 0, 1) := by decide +kernel
theorem dL_law_437 : decode cL_law 437 = .ok (.iload_n 3, 1) := by decide +kernel
theorem dL_law_438 : decode cL_law 438 = .ok (.iconst 1, 1) := by decide +kernel
theorem dL_law_439 : decode cL_law 439 = .ok (.iadd, 1) := by decide +kernel
theorem dL_law_440 : decode cL_law 440 = .ok (.iaload, 1) := by decide +kernel
theorem dL_law_441 : decode cL_law 441 = .ok (.invokevirtual 69, 3) := by decide +kernel
theorem dL_law_444 : decode cL_law 444 = .ok (.aload_n 2, 1) := by decide +kernel
theorem dL_law_445 : decode cL_law 445 = .ok (.aload_n 0, 1) := by decide +kernel
theorem dL_law_446 : decode cL_law 446 = .ok (.iload_n 3, 1) := by decide +kernel
theorem dL_law_447 : decode cL_law 447 = .ok (.iconst 1, 1) := by decide +kernel
theorem dL_law_448 : decode cL_law 448 = .ok (.iadd, 1) := by decide +kernel
theorem dL_law_449 : decode cL_law 449 = .ok (.iaload, 1) := by decide +kernel
theorem dL_law_450 : decode cL_law 450 = .ok (.invokevirtual 72, 3) := by decide +kernel
theorem dL_law_453 : decode cL_law 453 = .ok (.if_icmp .eq 222, 3) := by decide +kernel
theorem dL_law_456 : decode cL_law 456 = .ok (.iconst 0, 1) := by decide +kernel
theorem dL_law_457 : decode cL_law 457 = .ok (.ireturn, 1) := by decide +kernel
theorem dL_law_458 : decode cL_law 458 = .ok (.aload_n 1, 1) := by decide +kernel
theorem dL_law_459 : decode cL_law 459 = .ok (.invokevirtual 73, 3) := by decide +kernel
theorem dL_law_462 : decode cL_law 462 = .ok (.aload_n 2, 1) := by decide +kernel
theorem dL_law_463 : decode cL_law 463 = .ok (.invokevirtual 76, 3) := by decide +kernel
theorem dL_law_466 : decode cL_law 466 = .ok (.if_icmp .eq 209, 3) := by decide +kernel
theorem dL_law_469 : decode cL_law 469 = .ok (.iconst 0, 1) := by decide +kernel
theorem dL_law_470 : decode cL_law 470 = .ok (.ireturn, 1) := by decide +kernel
theorem dL_law_471 : decode cL_law 471 = .ok (.aload_n 1, 1) := by decide +kernel
theorem dL_law_472 : decode cL_law 472 = .ok (.aload_n 0, 1) := by decide +kernel
theorem dL_law_473 : decode cL_law 473 = .ok (.iload_n 3, 1) := by decide +kernel
theorem dL_law_474 : decode cL_law 474 = .ok (.iconst 1, 1) := by decide +kernel
theorem dL_law_475 : decode cL_law 475 = .ok (.iadd, 1) := by decide +kernel
theorem dL_law_476 : decode cL_law 476 = .ok (.iaload, 1) := by decide +kernel
theorem dL_law_477 : decode cL_law 477 = .ok (.invokevirtual 77, 3) := by decide +kernel
theorem dL_law_480 : decode cL_law 480 = .ok (.aload_n 2, 1) := by decide +kernel
theorem dL_law_481 : decode cL_law 481 = .ok (.aload_n 0, 1) := by decide +kernel
theorem dL_law_482 : decode cL_law 482 = .ok (.iload_n 3, 1) := by decide +kernel
theorem dL_law_483 : decode cL_law 483 = .ok (.iconst 1, 1) := by decide +kernel
theorem dL_law_484 : decode cL_law 484 = .ok (.iadd, 1) := by decide +kernel
theorem dL_law_485 : decode cL_law 485 = .ok (.iaload, 1) := by decide +kernel
theorem dL_law_486 : decode cL_law 486 = .ok (.invokevirtual 80, 3) := by decide +kernel
theorem dL_law_489 : decode cL_law 489 = .ok (.if_icmp .eq 186, 3) := by decide +kernel
theorem dL_law_492 : decode cL_law 492 = .ok (.iconst 0, 1) := by decide +kernel
theorem dL_law_493 : decode cL_law 493 = .ok (.ireturn, 1) := by decide +kernel
theorem dL_law_494 : decode cL_law 494 = .ok (.aload_n 1, 1) := by decide +kernel
theorem dL_law_495 : decode cL_law 495 = .ok (.aload_n 0, 1) := by decide +kernel
theorem dL_law_496 : decode cL_law 496 = .ok (.iload_n 3, 1) := by decide +kernel
theorem dL_law_497 : decode cL_law 497 = .ok (.iconst 1, 1) := by decide +kernel
theorem dL_law_498 : decode cL_law 498 = .ok (.iadd, 1) := by decide +kernel
theorem dL_law_499 : decode cL_law 499 = .ok (.iaload, 1) := by decide +kernel
theorem dL_law_500 : decode cL_law 500 = .ok (.aload_n 0, 1) := by decide +kernel
theorem dL_law_501 : decode cL_law 501 = .ok (.iload_n 3, 1) := by decide +kernel
theorem dL_law_502 : decode cL_law 502 = .ok (.iconst 2, 1) := by decide +kernel
theorem dL_law_503 : decode cL_law 503 = .ok (.iadd, 1) := by decide +kernel
theorem dL_law_504 : decode cL_law 504 = .ok (.iaload, 1) := by decide +kernel
theorem dL_law_505 : decode cL_law 505 = .ok (.invokevirtual 81, 3) := by decide +kernel
theorem dL_law_508 : decode cL_law 508 = .ok (.aload_n 2, 1) := by decide +kernel
theorem dL_law_509 : decode cL_law 509 = .ok (.aload_n 0, 1) := by decide +kernel
theorem dL_law_510 : decode cL_law 510 = .ok (.iload_n 3, 1) := by decide +kernel
theorem dL_law_511 : decode cL_law 511 = .ok (.iconst 1, 1) := by decide +kernel
theorem dL_law_512 : decode cL_law 512 = .ok (.iadd, 1) := by decide +kernel
theorem dL_law_513 : decode cL_law 513 = .ok (.iaload, 1) := by decide +kernel
theorem dL_law_514 : decode cL_law 514 = .ok (.aload_n 0, 1) := by decide +kernel
theorem dL_law_515 : decode cL_law 515 = .ok (.iload_n 3, 1) := by decide +kernel
theorem dL_law_516 : decode cL_law 516 = .ok (.iconst 2, 1) := by decide +kernel
theorem dL_law_517 : decode cL_law 517 = .ok (.iadd, 1) := by decide +kernel
theorem dL_law_518 : decode cL_law 518 = .ok (.iaload, 1) := by decide +kernel
theorem dL_law_519 : decode cL_law 519 = .ok (.invokevirtual 85, 3) := by decide +kernel
theorem dL_law_522 : decode cL_law 522 = .ok (.lcmp, 1) := by decide +kernel
theorem dL_law_523 : decode cL_law 523 = .ok (.ifCond .eq 152, 3) := by decide +kernel
theorem dL_law_526 : decode cL_law 526 = .ok (.iconst 0, 1) := by decide +kernel
theorem dL_law_527 : decode cL_law 527 = .ok (.ireturn, 1) := by decide +kernel
theorem dL_law_528 : decode cL_law 528 = .ok (.aload_n 1, 1) := by decide +kernel
theorem dL_law_529 : decode cL_law 529 = .ok (.aload_n 0, 1) := by decide +kernel
theorem dL_law_530 : decode cL_law 530 = .ok (.iload_n 3, 1) := by decide +kernel
theorem dL_law_531 : decode cL_law 531 = .ok (.iconst 1, 1) := by decide +kernel
theorem dL_law_532 : decode cL_law 532 = .ok (.iadd, 1) := by decide +kernel
theorem dL_law_533 : decode cL_law 533 = .ok (.iaload, 1) := by decide +kernel
theorem dL_law_534 : decode cL_law 534 = .ok (.aload_n 0, 1) := by decide +kernel
theorem dL_law_535 : decode cL_law 535 = .ok (.iload_n 3, 1) := by decide +kernel
theorem dL_law_536 : decode cL_law 536 = .ok (.iconst 2, 1) := by decide +kernel
theorem dL_law_537 : decode cL_law 537 = .ok (.iadd, 1) := by decide +kernel
theorem dL_law_538 : decode cL_law 538 = .ok (.iaload, 1) := by decide +kernel
theorem dL_law_539 : decode cL_law 539 = .ok (.invokevirtual 86, 3) := by decide +kernel
theorem dL_law_542 : decode cL_law 542 = .ok (.aload_n 2, 1) := by decide +kernel
theorem dL_law_543 : decode cL_law 543 = .ok (.aload_n 0, 1) := by decide +kernel
theorem dL_law_544 : decode cL_law 544 = .ok (.iload_n 3, 1) := by decide +kernel
theorem dL_law_545 : decode cL_law 545 = .ok (.iconst 1, 1) := by decide +kernel
theorem dL_law_546 : decode cL_law 546 = .ok (.iadd, 1) := by decide +kernel
theorem dL_law_547 : decode cL_law 547 = .ok (.iaload, 1) := by decide +kernel
theorem dL_law_548 : decode cL_law 548 = .ok (.aload_n 0, 1) := by decide +kernel
theorem dL_law_549 : decode cL_law 549 = .ok (.iload_n 3, 1) := by decide +kernel
theorem dL_law_550 : decode cL_law 550 = .ok (.iconst 2, 1) := by decide +kernel
theorem dL_law_551 : decode cL_law 551 = .ok (.iadd, 1) := by decide +kernel
theorem dL_law_552 : decode cL_law 552 = .ok (.iaload, 1) := by decide +kernel
theorem dL_law_553 : decode cL_law 553 = .ok (.invokevirtual 89, 3) := by decide +kernel
theorem dL_law_556 : decode cL_law 556 = .ok (.lcmp, 1) := by decide +kernel
theorem dL_law_557 : decode cL_law 557 = .ok (.ifCond .eq 118, 3) := by decide +kernel
theorem dL_law_560 : decode cL_law 560 = .ok (.iconst 0, 1) := by decide +kernel
theorem dL_law_561 : decode cL_law 561 = .ok (.ireturn, 1) := by decide +kernel
theorem dL_law_562 : decode cL_law 562 = .ok (.aload_n 1, 1) := by decide +kernel
theorem dL_law_563 : decode cL_law 563 = .ok (.aload_n 0, 1) := by decide +kernel
theorem dL_law_564 : decode cL_law 564 = .ok (.iload_n 3, 1) := by decide +kernel
theorem dL_law_565 : decode cL_law 565 = .ok (.iconst 1, 1) := by decide +kernel
theorem dL_law_566 : decode cL_law 566 = .ok (.iadd, 1) := by decide +kernel
theorem dL_law_567 : decode cL_law 567 = .ok (.iaload, 1) := by decide +kernel
theorem dL_law_568 : decode cL_law 568 = .ok (.invokevirtual 90, 3) := by decide +kernel
theorem dL_law_571 : decode cL_law 571 = .ok (.aload_n 2, 1) := by decide +kernel
theorem dL_law_572 : decode cL_law 572 = .ok (.aload_n 0, 1) := by decide +kernel
theorem dL_law_573 : decode cL_law 573 = .ok (.iload_n 3, 1) := by decide +kernel
theorem dL_law_574 : decode cL_law 574 = .ok (.iconst 1, 1) := by decide +kernel
theorem dL_law_575 : decode cL_law 575 = .ok (.iadd, 1) := by decide +kernel
theorem dL_law_576 : decode cL_law 576 = .ok (.iaload, 1) := by decide +kernel
theorem dL_law_577 : decode cL_law 577 = .ok (.invokevirtual 93, 3) := by decide +kernel
theorem dL_law_580 : decode cL_law 580 = .ok (.if_icmp .eq 95, 3) := by decide +kernel
theorem dL_law_583 : decode cL_law 583 = .ok (.iconst 0, 1) := by decide +kernel
theorem dL_law_584 : decode cL_law 584 = .ok (.ireturn, 1) := by decide +kernel
theorem dL_law_585 : decode cL_law 585 = .ok (.aload_n 1, 1) := by decide +kernel
theorem dL_law_586 : decode cL_law 586 = .ok (.aload_n 0, 1) := by decide +kernel
theorem dL_law_587 : decode cL_law 587 = .ok (.iload_n 3, 1) := by decide +kernel
theorem dL_law_588 : decode cL_law 588 = .ok (.iconst 1, 1) := by decide +kernel
theorem dL_law_589 : decode cL_law 589 = .ok (.iadd, 1) := by decide +kernel
theorem dL_law_590 : decode cL_law 590 = .ok (.iaload, 1) := by decide +kernel
theorem dL_law_591 : decode cL_law 591 = .ok (.invokevirtual 94, 3) := by decide +kernel
theorem dL_law_594 : decode cL_law 594 = .ok (.aload_n 2, 1) := by decide +kernel
theorem dL_law_595 : decode cL_law 595 = .ok (.aload_n 0, 1) := by decide +kernel
theorem dL_law_596 : decode cL_law 596 = .ok (.iload_n 3, 1) := by decide +kernel
theorem dL_law_597 : decode cL_law 597 = .ok (.iconst 1, 1) := by decide +kernel
theorem dL_law_598 : decode cL_law 598 = .ok (.iadd, 1) := by decide +kernel
theorem dL_law_599 : decode cL_law 599 = .ok (.iaload, 1) := by decide +kernel
theorem dL_law_600 : decode cL_law 600 = .ok (.invokevirtual 98, 3) := by decide +kernel
theorem dL_law_603 : decode cL_law 603 = .ok (.lcmp, 1) := by decide +kernel
theorem dL_law_604 : decode cL_law 604 = .ok (.ifCond .eq 71, 3) := by decide +kernel
theorem dL_law_607 : decode cL_law 607 = .ok (.iconst 0, 1) := by decide +kernel
theorem dL_law_608 : decode cL_law 608 = .ok (.ireturn, 1) := by decide +kernel
theorem dL_law_609 : decode cL_law 609 = .ok (.aload_n 1, 1) := by decide +kernel
theorem dL_law_610 : decode cL_law 610 = .ok (.aload_n 0, 1) := by decide +kernel
theorem dL_law_611 : decode cL_law 611 = .ok (.iload_n 3, 1) := by decide +kernel
theorem dL_law_612 : decode cL_law 612 = .ok (.iconst 1, 1) := by decide +kernel
theorem dL_law_613 : decode cL_law 613 = .ok (.iadd, 1) := by decide +kernel
theorem dL_law_614 : decode cL_law 614 = .ok (.iaload, 1) := by decide +kernel
theorem dL_law_615 : decode cL_law 615 = .ok (.aload_n 0, 1) := by decide +kernel
theorem dL_law_616 : decode cL_law 616 = .ok (.iload_n 3, 1) := by decide +kernel
theorem dL_law_617 : decode cL_law 617 = .ok (.iconst 2, 1) := by decide +kernel
theorem dL_law_618 : decode cL_law 618 = .ok (.iadd, 1) := by decide +kernel
theorem dL_law_619 : decode cL_law 619 = .ok (.iaload, 1) := by decide +kernel
theorem dL_law_620 : decode cL_law 620 = .ok (.aload_n 0, 1) := by decide +kernel
theorem dL_law_621 : decode cL_law 621 = .ok (.iload_n 3, 1) := by decide +kernel
theorem dL_law_622 : decode cL_law 622 = .ok (.iconst 3, 1) := by decide +kernel
theorem dL_law_623 : decode cL_law 623 = .ok (.iadd, 1) := by decide +kernel
theorem dL_law_624 : decode cL_law 624 = .ok (.iaload, 1) := by decide +kernel
theorem dL_law_625 : decode cL_law 625 = .ok (.invokevirtual 99, 3) := by decide +kernel
theorem dL_law_628 : decode cL_law 628 = .ok (.aload_n 2, 1) := by decide +kernel
theorem dL_law_629 : decode cL_law 629 = .ok (.aload_n 0, 1) := by decide +kernel
theorem dL_law_630 : decode cL_law 630 = .ok (.iload_n 3, 1) := by decide +kernel
theorem dL_law_631 : decode cL_law 631 = .ok (.iconst 1, 1) := by decide +kernel
theorem dL_law_632 : decode cL_law 632 = .ok (.iadd, 1) := by decide +kernel
theorem dL_law_633 : decode cL_law 633 = .ok (.iaload, 1) := by decide +kernel
theorem dL_law_634 : decode cL_law 634 = .ok (.aload_n 0, 1) := by decide +kernel
theorem dL_law_635 : decode cL_law 635 = .ok (.iload_n 3, 1) := by decide +kernel
theorem dL_law_636 : decode cL_law 636 = .ok (.iconst 2, 1) := by decide +kernel
theorem dL_law_637 : decode cL_law 637 = .ok (.iadd, 1) := by decide +kernel
theorem dL_law_638 : decode cL_law 638 = .ok (.iaload, 1) := by decide +kernel
theorem dL_law_639 : decode cL_law 639 = .ok (.aload_n 0, 1) := by decide +kernel
theorem dL_law_640 : decode cL_law 640 = .ok (.iload_n 3, 1) := by decide +kernel
theorem dL_law_641 : decode cL_law 641 = .ok (.iconst 3, 1) := by decide +kernel
theorem dL_law_642 : decode cL_law 642 = .ok (.iadd, 1) := by decide +kernel
theorem dL_law_643 : decode cL_law 643 = .ok (.iaload, 1) := by decide +kernel
theorem dL_law_644 : decode cL_law 644 = .ok (.invokevirtual 102, 3) := by decide +kernel
theorem dL_law_647 : decode cL_law 647 = .ok (.if_icmp .eq 28, 3) := by decide +kernel
theorem dL_law_650 : decode cL_law 650 = .ok (.iconst 0, 1) := by decide +kernel
theorem dL_law_651 : decode cL_law 651 = .ok (.ireturn, 1) := by decide +kernel
theorem dL_law_652 : decode cL_law 652 = .ok (.aload_n 1, 1) := by decide +kernel
theorem dL_law_653 : decode cL_law 653 = .ok (.aload_n 0, 1) := by decide +kernel
theorem dL_law_654 : decode cL_law 654 = .ok (.iload_n 3, 1) := by decide +kernel
theorem dL_law_655 : decode cL_law 655 = .ok (.iconst 1, 1) := by decide +kernel
theorem dL_law_656 : decode cL_law 656 = .ok (.iadd, 1) := by decide +kernel
theorem dL_law_657 : decode cL_law 657 = .ok (.iaload, 1) := by decide +kernel
theorem dL_law_658 : decode cL_law 658 = .ok (.invokevirtual 103, 3) := by decide +kernel
theorem dL_law_661 : decode cL_law 661 = .ok (.aload_n 2, 1) := by decide +kernel
theorem dL_law_662 : decode cL_law 662 = .ok (.aload_n 0, 1) := by decide +kernel
theorem dL_law_663 : decode cL_law 663 = .ok (.iload_n 3, 1) := by decide +kernel
theorem dL_law_664 : decode cL_law 664 = .ok (.iconst 1, 1) := by decide +kernel
theorem dL_law_665 : decode cL_law 665 = .ok (.iadd, 1) := by decide +kernel
theorem dL_law_666 : decode cL_law 666 = .ok (.iaload, 1) := by decide +kernel
theorem dL_law_667 : decode cL_law 667 = .ok (.invokevirtual 106, 3) := by decide +kernel
theorem dL_law_670 : decode cL_law 670 = .ok (.if_icmp .eq 5, 3) := by decide +kernel
theorem dL_law_673 : decode cL_law 673 = .ok (.iconst 0, 1) := by decide +kernel
theorem dL_law_674 : decode cL_law 674 = .ok (.ireturn, 1) := by decide +kernel
theorem dL_law_675 : decode cL_law 675 = .ok (.iinc 3 4, 3) := by decide +kernel
theorem dL_law_678 : decode cL_law 678 = .ok (.goto (-660), 3) := by decide +kernel
theorem dL_law_681 : decode cL_law 681 = .ok (.iconst 1, 1) := by decide +kernel
theorem dL_law_682 : decode cL_law 682 = .ok (.ireturn, 1) := by decide +kernel
abbrev vwCl : List vw_C := [(RX0, TX0, 6), (RX1, TX1, 12), (RX2, TX2, 3), (RX3, TX3, 4), (RX4, TX4, 10), (RX5, TX5, 4), (RX6, TX6, 1), (RX7, TX7, 10), (RX8, TX8, 26)]
