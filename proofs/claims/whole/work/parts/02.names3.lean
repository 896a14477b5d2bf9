theorem dX7_least_36 : decode cX7_least 36 = .ok (.getfield 236, 3) := by decide +kernel
theorem dX7_least_39 : decode cX7_least 39 = .ok (.lmul, 1) := by decide +kernel
theorem dX7_least_40 : decode cX7_least 40 = .ok (.iload_n 1, 1) := by decide +kernel
theorem dX7_least_41 : decode cX7_least 41 = .ok (.invokestatic 240, 3) := by decide +kernel
theorem dX7_least_44 : decode cX7_least 44 = .ok (.lreturn, 1) := by decide +kernel
set_option maxRecDepth 20000 in
theorem ggX7_walk_X4_copyFrom : GoodIn wsX7_walk wsX4_copyFrom := goodIn_r _ [9, 10, 11, 12, 13, 14, 15, 16, 17, 18, 19, 20, 21, 22, 23, 65, 66, 67, 68, 69, 70, 71, 72, 73, 74] (by decide +kernel) (by decide +kernel)
set_option maxRecDepth 20000 in
theorem gX7_walk_X4_copyFrom : GoodIn wsX7_walk (wsV RX7 266 RX4 yX4_copyFrom wsX4_copyFrom) := goodIn_app (goodIn_of _ (by decide +kernel)) ggX7_walk_X4_copyFrom
set_option maxRecDepth 20000 in
theorem ggX7_walk_X7_draw : GoodIn wsX7_walk wsX7_draw := goodIn_r _ [27, 28, 29, 30] (by decide +kernel) (by decide +kernel)
set_option maxRecDepth 20000 in
theorem gX7_walk_X7_draw : GoodIn wsX7_walk (va_wsS RX7 269 yX7_draw wsX7_draw) := goodIn_app (goodIn_of _ (by decide +kernel)) ggX7_walk_X7_draw
set_option maxRecDepth 20000 in
theorem ggX7_walk_X4_drawnCell : GoodIn wsX7_walk wsX4_drawnCell := goodIn_r _ [34, 10, 18, 35, 36, 37, 65, 66, 67, 68, 69, 70, 71, 72, 73, 74, 75, 76, 77, 78, 79, 80, 81, 82, 83, 84, 85, 86] (by decide +kernel) (by decide +kernel)
set_option maxRecDepth 20000 in
theorem gX7_walk_X4_drawnCell : GoodIn wsX7_walk (wsV RX7 273 RX4 yX4_drawnCell wsX4_drawnCell) := goodIn_app (goodIn_of _ (by decide +kernel)) ggX7_walk_X4_drawnCell
set_option maxRecDepth 20000 in
theorem ggX7_walk_X4_go : GoodIn wsX7_walk wsX4_go := goodIn_r _ [41, 18, 20, 21, 22, 42, 43, 44, 8, 45, 16, 17, 46, 47, 48, 49, 15, 19, 50, 51, 52, 53, 54, 65, 66, 67, 68, 69, 70, 71, 72, 73, 74, 75, 76, 77, 78, 79, 80, 81, 82, 83, 84, 85, 86] (by decide +kernel) (by decide +kernel)
set_option maxRecDepth 20000 in
theorem gX7_walk_X4_go : GoodIn wsX7_walk (wsV RX7 169 RX4 yX4_go wsX4_go) := goodIn_app (goodIn_of _ (by decide +kernel)) ggX7_walk_X4_go
theorem dX7_walk_0 : decode cX7_walk 0 = .ok (.iload_n 1, 1) := by decide +kernel
theorem dX7_walk_1 : decode cX7_walk 1 = .ok (.ifCond .lt 30, 3) := by decide +kernel
theorem dX7_walk_4 : decode cX7_walk 4 = .ok (.iload_n 1, 1) := by decide +kernel
theorem dX7_walk_5 : decode cX7_walk 5 = .ok (.sipush 9999, 3) := by decide +kernel
theorem dX7_walk_8 : decode cX7_walk 8 = .ok (.if_icmp .gt 23, 3) := by decide +kernel
theorem dX7_walk_11 : decode cX7_walk 11 = .ok (.iload_n 2, 1) := by decide +kernel
theorem dX7_walk_12 : decode cX7_walk 12 = .ok (.iconst 1, 1) := by decide +kernel
theorem dX7_walk_13 : decode cX7_walk 13 = .ok (.if_icmp .lt 18, 3) := by decide +kernel
theorem dX7_walk_16 : decode cX7_walk 16 = .ok (.iload_n 2, 1) := by decide +kernel
theorem dX7_walk_17 : decode cX7_walk 17 = .ok (.bipush 60, 2) := by decide +kernel
theorem dX7_walk_19 : decode cX7_walk 19 = .ok (.if_icmp .gt 12, 3) := by decide +kernel
theorem dX7_walk_22 : decode cX7_walk 22 = .ok (.iload_n 3, 1) := by decide +kernel
theorem dX7_walk_23 : decode cX7_walk 23 = .ok (.ifCond .lt 8, 3) := by decide +kernel
theorem dX7_walk_26 : decode cX7_walk 26 = .ok (.iload_n 3, 1) := by decide +kernel
theorem dX7_walk_27 : decode cX7_walk 27 = .ok (.iconst 2, 1) := by decide +kernel
theorem dX7_walk_28 : decode cX7_walk 28 = .ok (.if_icmp .le 5, 3) := by decide +kernel
theorem dX7_walk_31 : decode cX7_walk 31 = .ok (.iconst (-1), 1) := by decide +kernel
theorem dX7_walk_32 : decode cX7_walk 32 = .ok (.ireturn, 1) := by decide +kernel
theorem dX7_walk_33 : decode cX7_walk 33 = .ok (.aload_n 0, 1) := by decide +kernel
theorem dX7_walk_34 : decode cX7_walk 34 = .ok (.getfield 47, 3) := by decide +kernel
theorem dX7_walk_37 : decode cX7_walk 37 = .ok (.aload_n 0, 1) := by decide +kernel
theorem dX7_walk_38 : decode cX7_walk 38 = .ok (.getfield 58, 3) := by decide +kernel
theorem dX7_walk_41 : decode cX7_walk 41 = .ok (.invokevirtual 266, 3) := by decide +kernel
theorem dX7_walk_44 : decode cX7_walk 44 = .ok (.iconst 0, 1) := by decide +kernel
theorem dX7_walk_45 : decode cX7_walk 45 = .ok (.istore 4, 2) := by decide +kernel
theorem dX7_walk_47 : decode cX7_walk 47 = .ok (.iconst 0, 1) := by decide +kernel
theorem dX7_walk_48 : decode cX7_walk 48 = .ok (.istore 5, 2) := by decide +kernel
theorem dX7_walk_50 : decode cX7_walk 50 = .ok (.iconst 0, 1) := by decide +kernel
theorem dX7_walk_51 : decode cX7_walk 51 = .ok (.istore 6, 2) := by decide +kernel
theorem dX7_walk_53 : decode cX7_walk 53 = .ok (.iload 6, 2) := by decide +kernel
theorem dX7_walk_55 : decode cX7_walk 55 = .ok (.iload_n 2, 1) := by decide +kernel
theorem dX7_walk_56 : decode cX7_walk 56 = .ok (.if_icmp .ge 62, 3) := by decide +kernel
theorem dX7_walk_59 : decode cX7_walk 59 = .ok (.aload_n 0, 1) := by decide +kernel
theorem dX7_walk_60 : decode cX7_walk 60 = .ok (.getfield 47, 3) := by decide +kernel
theorem dX7_walk_63 : decode cX7_walk 63 = .ok (.aload_n 0, 1) := by decide +kernel
theorem dX7_walk_64 : decode cX7_walk 64 = .ok (.getfield 54, 3) := by decide +kernel
theorem dX7_walk_67 : decode cX7_walk 67 = .ok (.iload_n 1, 1) := by decide +kernel
theorem dX7_walk_68 : decode cX7_walk 68 = .ok (.iload 6, 2) := by decide +kernel
theorem dX7_walk_70 : decode cX7_walk 70 = .ok (.invokestatic 269, 3) := by decide +kernel
theorem dX7_walk_73 : decode cX7_walk 73 = .ok (.invokevirtual 273, 3) := by decide +kernel
theorem dX7_walk_76 : decode cX7_walk 76 = .ok (.istore 7, 2) := by decide +kernel
theorem dX7_walk_78 : decode cX7_walk 78 = .ok (.iload 7, 2) := by decide +kernel
theorem dX7_walk_80 : decode cX7_walk 80 = .ok (.aload_n 0, 1) := by decide +kernel
theorem dX7_walk_81 : decode cX7_walk 81 = .ok (.getfield 47, 3) := by decide +kernel
theorem dX7_walk_84 : decode cX7_walk 84 = .ok (.getfield 187, 3) := by decide +kernel
theorem dX7_walk_87 : decode cX7_walk 87 = .ok (.if_icmp .eq 6, 3) := by decide +kernel
theorem dX7_walk_90 : decode cX7_walk 90 = .ok (.iinc 5 1, 3) := by decide +kernel
theorem dX7_walk_93 : decode cX7_walk 93 = .ok (.aload_n 0, 1) := by decide +kernel
theorem dX7_walk_94 : decode cX7_walk 94 = .ok (.getfield 47, 3) := by decide +kernel
theorem dX7_walk_97 : decode cX7_walk 97 = .ok (.aload_n 0, 1) := by decide +kernel
theorem dX7_walk_98 : decode cX7_walk 98 = .ok (.getfield 54, 3) := by decide +kernel
theorem dX7_walk_101 : decode cX7_walk 101 = .ok (.iload 7, 2) := by decide +kernel
theorem dX7_walk_103 : decode cX7_walk 103 = .ok (.invokevirtual 169, 3) := by decide +kernel
theorem dX7_walk_106 : decode cX7_walk 106 = .ok (.ifCond .eq 6, 3) := by decide +kernel
theorem dX7_walk_109 : decode cX7_walk 109 = .ok (.iinc 4 1, 3) := by decide +kernel
theorem dX7_walk_112 : decode cX7_walk 112 = .ok (.iinc 6 1, 3) := by decide +kernel
theorem dX7_walk_115 : decode cX7_walk 115 = .ok (.goto (-62), 3) := by decide +kernel
theorem dX7_walk_118 : decode cX7_walk 118 = .ok (.iload_n 3, 1) := by decide +kernel
theorem dX7_walk_119 : decode cX7_walk 119 = .ok (.ifCond .ne 11, 3) := by decide +kernel
theorem dX7_walk_122 : decode cX7_walk 122 = .ok (.aload_n 0, 1) := by decide +kernel
theorem dX7_walk_123 : decode cX7_walk 123 = .ok (.getfield 47, 3) := by decide +kernel
theorem dX7_walk_126 : decode cX7_walk 126 = .ok (.getfield 187, 3) := by decide +kernel
theorem dX7_walk_129 : decode cX7_walk 129 = .ok (.ireturn, 1) := by decide +kernel
theorem dX7_walk_130 : decode cX7_walk 130 = .ok (.iload_n 3, 1) := by decide +kernel
theorem dX7_walk_131 : decode cX7_walk 131 = .ok (.iconst 1, 1) := by decide +kernel
theorem dX7_walk_132 : decode cX7_walk 132 = .ok (.if_icmp .ne 8, 3) := by decide +kernel
theorem dX7_walk_135 : decode cX7_walk 135 = .ok (.iload 4, 2) := by decide +kernel
theorem dX7_walk_137 : decode cX7_walk 137 = .ok (.goto 5, 3) := by decide +kernel
theorem dX7_walk_140 : decode cX7_walk 140 = .ok (.iload 5, 2) := by decide +kernel
theorem dX7_walk_142 : decode cX7_walk 142 = .ok (.ireturn, 1) := by decide +kernel
theorem dX7_count_0 : decode cX7_count 0 = .ok (.iload_n 1, 1) := by decide +kernel
theorem dX7_count_1 : decode cX7_count 1 = .ok (.tableswitch 135 0 9 #[55, 63, 71, 79, 87, 95, 103, 111, 119, 127], 55) := by decide +kernel
theorem dX7_count_56 : decode cX7_count 56 = .ok (.aload_n 0, 1) := by decide +kernel
theorem dX7_count_57 : decode cX7_count 57 = .ok (.getfield 54, 3) := by decide +kernel
theorem dX7_count_60 : decode cX7_count 60 = .ok (.getfield 94, 3) := by decide +kernel
theorem dX7_count_63 : decode cX7_count 63 = .ok (.ireturn, 1) := by decide +kernel
theorem dX7_count_64 : decode cX7_count 64 = .ok (.aload_n 0, 1) := by decide +kernel
theorem dX7_count_65 : decode cX7_count 65 = .ok (.getfield 54, 3) := by decide +kernel
theorem dX7_count_68 : decode cX7_count 68 = .ok (.getfield 277, 3) := by decide +kernel
theorem dX7_count_71 : decode cX7_count 71 = .ok (.ireturn, 1) := by decide +kernel
theorem dX7_count_72 : decode cX7_count 72 = .ok (.aload_n 0, 1) := by decide +kernel
theorem dX7_count_73 : decode cX7_count 73 = .ok (.getfield 58, 3) := by decide +kernel
theorem dX7_count_76 : decode cX7_count 76 = .ok (.getfield 131, 3) := by decide +kernel
theorem dX7_count_79 : decode cX7_count 79 = .ok (.ireturn, 1) := by decide +kernel
theorem dX7_count_80 : decode cX7_count 80 = .ok (.aload_n 0, 1) := by decide +kernel
theorem dX7_count_81 : decode cX7_count 81 = .ok (.getfield 58, 3) := by decide +kernel
theorem dX7_count_84 : decode cX7_count 84 = .ok (.getfield 134, 3) := by decide +kernel
theorem dX7_count_87 : decode cX7_count 87 = .ok (.ireturn, 1) := by decide +kernel
theorem dX7_count_88 : decode cX7_count 88 = .ok (.aload_n 0, 1) := by decide +kernel
theorem dX7_count_89 : decode cX7_count 89 = .ok (.getfield 54, 3) := by decide +kernel
theorem dX7_count_92 : decode cX7_count 92 = .ok (.getfield 225, 3) := by decide +kernel
theorem dX7_count_95 : decode cX7_count 95 = .ok (.ireturn, 1) := by decide +kernel
theorem dX7_count_96 : decode cX7_count 96 = .ok (.aload_n 0, 1) := by decide +kernel
theorem dX7_count_97 : decode cX7_count 97 = .ok (.getfield 54, 3) := by decide +kernel
theorem dX7_count_100 : decode cX7_count 100 = .ok (.getfield 208, 3) := by decide +kernel
theorem dX7_count_103 : decode cX7_count 103 = .ok (.ireturn, 1) := by decide +kernel
theorem dX7_count_104 : decode cX7_count 104 = .ok (.aload_n 0, 1) := by decide +kernel
theorem dX7_count_105 : decode cX7_count 105 = .ok (.getfield 54, 3) := by decide +kernel
theorem dX7_count_108 : decode cX7_count 108 = .ok (.getfield 211, 3) := by decide +kernel
theorem dX7_count_111 : decode cX7_count 111 = .ok (.ireturn, 1) := by decide +kernel
theorem dX7_count_112 : decode cX7_count 112 = .ok (.aload_n 0, 1) := by decide +kernel
theorem dX7_count_113 : decode cX7_count 113 = .ok (.getfield 54, 3) := by decide +kernel
theorem dX7_count_116 : decode cX7_count 116 = .ok (.getfield 280, 3) := by decide +kernel
theorem dX7_count_119 : decode cX7_count 119 = .ok (.ireturn, 1) := by decide +kernel
theorem dX7_count_120 : decode cX7_count 120 = .ok (.aload_n 0, 1) := by decide +kernel
theorem dX7_count_121 : decode cX7_count 121 = .ok (.getfield 19, 3) := by decide +kernel
theorem dX7_count_124 : decode cX7_count 124 = .ok (.getfield 103, 3) := by decide +kernel
theorem dX7_count_127 : decode cX7_count 127 = .ok (.ireturn, 1) := by decide +kernel
theorem dX7_count_128 : decode cX7_count 128 = .ok (.aload_n 0, 1) := by decide +kernel
theorem dX7_count_129 : decode cX7_count 129 = .ok (.getfield 10, 3) := by decide +kernel
theorem dX7_count_132 : decode cX7_count 132 = .ok (.getfield 87, 3) := by decide +kernel
theorem dX7_count_135 : decode cX7_count 135 = .ok (.ireturn, 1) := by decide +kernel
theorem dX7_count_136 : decode cX7_count 136 = .ok (.iconst (-1), 1) := by decide +kernel
theorem dX7_count_137 : decode cX7_count 137 = .ok (.ireturn, 1) := by decide +kernel
theorem dX7_isCell_0 : decode cX7_isCell 0 = .ok (.iload_n 1, 1) := by decide +kernel
theorem dX7_isCell_1 : decode cX7_isCell 1 = .ok (.ifCond .lt 18, 3) := by decide +kernel
theorem dX7_isCell_4 : decode cX7_isCell 4 = .ok (.iload_n 1, 1) := by decide +kernel
theorem dX7_isCell_5 : decode cX7_isCell 5 = .ok (.aload_n 0, 1) := by decide +kernel
theorem dX7_isCell_6 : decode cX7_isCell 6 = .ok (.getfield 54, 3) := by decide +kernel
theorem dX7_isCell_9 : decode cX7_isCell 9 = .ok (.getfield 94, 3) := by decide +kernel
theorem dX7_isCell_12 : decode cX7_isCell 12 = .ok (.if_icmp .ge 7, 3) := by decide +kernel
theorem dX7_isCell_15 : decode cX7_isCell 15 = .ok (.iconst 1, 1) := by decide +kernel
theorem dX7_isCell_16 : decode cX7_isCell 16 = .ok (.goto 4, 3) := by decide +kernel
theorem dX7_isCell_19 : decode cX7_isCell 19 = .ok (.iconst 0, 1) := by decide +kernel
theorem dX7_isCell_20 : decode cX7_isCell 20 = .ok (.ireturn, 1) := by decide +kernel
theorem dX7_isPart_0 : decode cX7_isPart 0 = .ok (.iload_n 0, 1) := by decide +kernel
theorem dX7_isPart_1 : decode cX7_isPart 1 = .ok (.ifCond .eq 8, 3) := by decide +kernel
theorem dX7_isPart_4 : decode cX7_isPart 4 = .ok (.iload_n 0, 1) := by decide +kernel
theorem dX7_isPart_5 : decode cX7_isPart 5 = .ok (.iconst 1, 1) := by decide +kernel
theorem dX7_isPart_6 : decode cX7_isPart 6 = .ok (.if_icmp .ne 7, 3) := by decide +kernel
theorem dX7_isPart_9 : decode cX7_isPart 9 = .ok (.iconst 1, 1) := by decide +kernel
theorem dX7_isPart_10 : decode cX7_isPart 10 = .ok (.goto 4, 3) := by decide +kernel
theorem dX7_isPart_13 : decode cX7_isPart 13 = .ok (.iconst 0, 1) := by decide +kernel
theorem dX7_isPart_14 : decode cX7_isPart 14 = .ok (.ireturn, 1) := by decide +kernel
theorem dX7_isLaw_0 : decode cX7_isLaw 0 = .ok (.iload_n 0, 1) := by decide +kernel
theorem dX7_isLaw_1 : decode cX7_isLaw 1 = .ok (.ifCond .ne 13, 3) := by decide +kernel
theorem dX7_isLaw_4 : decode cX7_isLaw 4 = .ok (.iload_n 1, 1) := by decide +kernel
theorem dX7_isLaw_5 : decode cX7_isLaw 5 = .ok (.ifCond .ne 7, 3) := by decide +kernel
theorem dX7_isLaw_8 : decode cX7_isLaw 8 = .ok (.iconst 1, 1) := by decide +kernel
theorem dX7_isLaw_9 : decode cX7_isLaw 9 = .ok (.goto 4, 3) := by decide +kernel
theorem dX7_isLaw_12 : decode cX7_isLaw 12 = .ok (.iconst 0, 1) := by decide +kernel
theorem dX7_isLaw_13 : decode cX7_isLaw 13 = .ok (.ireturn, 1) := by decide +kernel
theorem dX7_isLaw_14 : decode cX7_isLaw 14 = .ok (.iload_n 0, 1) := by decide +kernel
theorem dX7_isLaw_15 : decode cX7_isLaw 15 = .ok (.iconst 1, 1) := by decide +kernel
theorem dX7_isLaw_16 : decode cX7_isLaw 16 = .ok (.if_icmp .lt 23, 3) := by decide +kernel
theorem dX7_isLaw_19 : decode cX7_isLaw 19 = .ok (.iload_n 0, 1) := by decide +kernel
theorem dX7_isLaw_20 : decode cX7_isLaw 20 = .ok (.iconst 3, 1) := by decide +kernel
theorem dX7_isLaw_21 : decode cX7_isLaw 21 = .ok (.if_icmp .gt 18, 3) := by decide +kernel
theorem dX7_isLaw_24 : decode cX7_isLaw 24 = .ok (.iload_n 1, 1) := by decide +kernel
theorem dX7_isLaw_25 : decode cX7_isLaw 25 = .ok (.iconst 1, 1) := by decide +kernel
theorem dX7_isLaw_26 : decode cX7_isLaw 26 = .ok (.if_icmp .lt 13, 3) := by decide +kernel
theorem dX7_isLaw_29 : decode cX7_isLaw 29 = .ok (.iload_n 1, 1) := by decide +kernel
theorem dX7_isLaw_30 : decode cX7_isLaw 30 = .ok (.bipush 9, 2) := by decide +kernel
theorem dX7_isLaw_32 : decode cX7_isLaw 32 = .ok (.if_icmp .gt 7, 3) := by decide +kernel
theorem dX7_isLaw_35 : decode cX7_isLaw 35 = .ok (.iconst 1, 1) := by decide +kernel
theorem dX7_isLaw_36 : decode cX7_isLaw 36 = .ok (.goto 4, 3) := by decide +kernel
theorem dX7_isLaw_39 : decode cX7_isLaw 39 = .ok (.iconst 0, 1) := by decide +kernel
theorem dX7_isLaw_40 : decode cX7_isLaw 40 = .ok (.ireturn, 1) := by decide +kernel
theorem dX7_holds_0 : decode cX7_holds 0 = .ok (.iload_n 0, 1) := by decide +kernel
theorem dX7_holds_1 : decode cX7_holds 1 = .ok (.iload_n 1, 1) := by decide +kernel
theorem dX7_holds_2 : decode cX7_holds 2 = .ok (.ishr, 1) := by decide +kernel
theorem dX7_holds_3 : decode cX7_holds 3 = .ok (.iconst 1, 1) := by decide +kernel
theorem dX7_holds_4 : decode cX7_holds 4 = .ok (.iand, 1) := by decide +kernel
theorem dX7_holds_5 : decode cX7_holds 5 = .ok (.ifCond .eq 7, 3) := by decide +kernel
theorem dX7_holds_8 : decode cX7_holds 8 = .ok (.iconst 1, 1) := by decide +kernel
theorem dX7_holds_9 : decode cX7_holds 9 = .ok (.goto 4, 3) := by decide +kernel
theorem dX7_holds_12 : decode cX7_holds 12 = .ok (.iconst 0, 1) := by decide +kernel
theorem dX7_holds_13 : decode cX7_holds 13 = .ok (.ireturn, 1) := by decide +kernel
theorem dX7_sameArea_0 : decode cX7_sameArea 0 = .ok (.iconst 0, 1) := by decide +kernel
theorem dX7_sameArea_1 : decode cX7_sameArea 1 = .ok (.istore_n 3, 1) := by decide +kernel
theorem dX7_sameArea_2 : decode cX7_sameArea 2 = .ok (.iconst 0, 1) := by decide +kernel
theorem dX7_sameArea_3 : decode cX7_sameArea 3 = .ok (.istore 4, 2) := by decide +kernel
theorem dX7_sameArea_5 : decode cX7_sameArea 5 = .ok (.iload 4, 2) := by decide +kernel
theorem dX7_sameArea_7 : decode cX7_sameArea 7 = .ok (.iload_n 0, 1) := by decide +kernel
theorem dX7_sameArea_8 : decode cX7_sameArea 8 = .ok (.if_icmp .ge 22, 3) := by decide +kernel
theorem dX7_sameArea_11 : decode cX7_sameArea 11 = .ok (.aload_n 1, 1) := by decide +kernel
theorem dX7_sameArea_12 : decode cX7_sameArea 12 = .ok (.iload 4, 2) := by decide +kernel
theorem dX7_sameArea_14 : decode cX7_sameArea 14 = .ok (.iaload, 1) := by decide +kernel
theorem dX7_sameArea_15 : decode cX7_sameArea 15 = .ok (.aload_n 1, 1) := by decide +kernel
theorem dX7_sameArea_16 : decode cX7_sameArea 16 = .ok (.iload_n 2, 1) := by decide +kernel
theorem dX7_sameArea_17 : decode cX7_sameArea 17 = .ok (.iaload, 1) := by decide +kernel
theorem dX7_sameArea_18 : decode cX7_sameArea 18 = .ok (.if_icmp .ne 6, 3) := by decide +kernel
theorem dX7_sameArea_21 : decode cX7_sameArea 21 = .ok (.iinc 3 1, 3) := by decide +kernel
theorem dX7_sameArea_24 : decode cX7_sameArea 24 = .ok (.iinc 4 1, 3) := by decide +kernel
theorem dX7_sameArea_27 : decode cX7_sameArea 27 = .ok (.goto (-22), 3) := by decide +kernel
theorem dX7_sameArea_30 : decode cX7_sameArea 30 = .ok (.iload_n 3, 1) := by decide +kernel
theorem dX7_sameArea_31 : decode cX7_sameArea 31 = .ok (.ireturn, 1) := by decide +kernel
theorem dX7_draw_0 : decode cX7_draw 0 = .ok (.ldc2_w 283, 3) := by decide +kernel
theorem dX7_draw_3 : decode cX7_draw 3 = .ok (.iload_n 0, 1) := by decide +kernel
theorem dX7_draw_4 : decode cX7_draw 4 = .ok (.i2l, 1) := by decide +kernel
theorem dX7_draw_5 : decode cX7_draw 5 = .ok (.lmul, 1) := by decide +kernel
theorem dX7_draw_6 : decode cX7_draw 6 = .ok (.ldc2_w 285, 3) := by decide +kernel
theorem dX7_draw_9 : decode cX7_draw 9 = .ok (.iload_n 1, 1) := by decide +kernel
theorem dX7_draw_10 : decode cX7_draw 10 = .ok (.i2l, 1) := by decide +kernel
theorem dX7_draw_11 : decode cX7_draw 11 = .ok (.lmul, 1) := by decide +kernel
theorem dX7_draw_12 : decode cX7_draw 12 = .ok (.ladd, 1) := by decide +kernel
theorem dX7_draw_13 : decode cX7_draw 13 = .ok (.lconst 1, 1) := by decide +kernel
theorem dX7_draw_14 : decode cX7_draw 14 = .ok (.ladd, 1) := by decide +kernel
theorem dX7_draw_15 : decode cX7_draw 15 = .ok (.lstore_n 2, 1) := by decide +kernel
theorem dX7_draw_16 : decode cX7_draw 16 = .ok (.lload_n 2, 1) := by decide +kernel
theorem dX7_draw_17 : decode cX7_draw 17 = .ok (.lload_n 2, 1) := by decide +kernel
theorem dX7_draw_18 : decode cX7_draw 18 = .ok (.lmul, 1) := by decide +kernel
theorem dX7_draw_19 : decode cX7_draw 19 = .ok (.ldc2_w 287, 3) := by decide +kernel
theorem dX7_draw_22 : decode cX7_draw 22 = .ok (.lrem, 1) := by decide +kernel
theorem dX7_draw_23 : decode cX7_draw 23 = .ok (.l2i, 1) := by decide +kernel
theorem dX7_draw_24 : decode cX7_draw 24 = .ok (.ireturn, 1) := by decide +kernel
set_option maxRecDepth 20000 in
theorem ggX7_lowest_X7_greatestShared : GoodIn wsX7_lowest wsX7_greatestShared := goodIn_r _ [4] (by decide +kernel) (by decide +kernel)
set_option maxRecDepth 20000 in
theorem gX7_lowest_X7_greatestShared : GoodIn wsX7_lowest (va_wsS RX7 289 yX7_greatestShared wsX7_greatestShared) := goodIn_app (goodIn_of _ (by decide +kernel)) ggX7_lowest_X7_greatestShared
theorem dX7_lowest_0 : decode cX7_lowest 0 = .ok (.lload_n 0, 1) := by decide +kernel
theorem dX7_lowest_1 : decode cX7_lowest 1 = .ok (.lload_n 2, 1) := by decide +kernel
theorem dX7_lowest_2 : decode cX7_lowest 2 = .ok (.invokestatic 289, 3) := by decide +kernel
theorem dX7_lowest_5 : decode cX7_lowest 5 = .ok (.lstore 5, 2) := by decide +kernel
theorem dX7_lowest_7 : decode cX7_lowest 7 = .ok (.lload 5, 2) := by decide +kernel
theorem dX7_lowest_9 : decode cX7_lowest 9 = .ok (.lconst 0, 1) := by decide +kernel
theorem dX7_lowest_10 : decode cX7_lowest 10 = .ok (.lcmp, 1) := by decide +kernel
theorem dX7_lowest_11 : decode cX7_lowest 11 = .ok (.ifCond .ne 7, 3) := by decide +kernel
theorem dX7_lowest_14 : decode cX7_lowest 14 = .ok (.iload 4, 2) := by decide +kernel
theorem dX7_lowest_16 : decode cX7_lowest 16 = .ok (.i2l, 1) := by decide +kernel
theorem dX7_lowest_17 : decode cX7_lowest 17 = .ok (.lreturn, 1) := by decide +kernel
theorem dX7_lowest_18 : decode cX7_lowest 18 = .ok (.iload 4, 2) := by decide +kernel
theorem dX7_lowest_20 : decode cX7_lowest 20 = .ok (.ifCond .ne 7, 3) := by decide +kernel
theorem dX7_lowest_23 : decode cX7_lowest 23 = .ok (.lload_n 0, 1) := by decide +kernel
theorem dX7_lowest_24 : decode cX7_lowest 24 = .ok (.goto 4, 3) := by decide +kernel
theorem dX7_lowest_27 : decode cX7_lowest 27 = .ok (.lload_n 2, 1) := by decide +kernel
theorem dX7_lowest_28 : decode cX7_lowest 28 = .ok (.lload 5, 2) := by decide +kernel
theorem dX7_lowest_30 : decode cX7_lowest 30 = .ok (.ldiv, 1) := by decide +kernel
theorem dX7_lowest_31 : decode cX7_lowest 31 = .ok (.lreturn, 1) := by decide +kernel
theorem dX7_greatestShared_0 : decode cX7_greatestShared 0 = .ok (.iconst 0, 1) := by decide +kernel
theorem dX7_greatestShared_1 : decode cX7_greatestShared 1 = .ok (.istore 4, 2) := by decide +kernel
theorem dX7_greatestShared_3 : decode cX7_greatestShared 3 = .ok (.iload 4, 2) := by decide +kernel
theorem dX7_greatestShared_5 : decode cX7_greatestShared 5 = .ok (.sipush 200, 3) := by decide +kernel
theorem dX7_greatestShared_8 : decode cX7_greatestShared 8 = .ok (.if_icmp .ge 25, 3) := by decide +kernel
theorem dX7_greatestShared_11 : decode cX7_greatestShared 11 = .ok (.lload_n 2, 1) := by decide +kernel
theorem dX7_greatestShared_12 : decode cX7_greatestShared 12 = .ok (.lconst 0, 1) := by decide +kernel
theorem dX7_greatestShared_13 : decode cX7_greatestShared 13 = .ok (.lcmp, 1) := by decide +kernel
theorem dX7_greatestShared_14 : decode cX7_greatestShared 14 = .ok (.ifCond .eq 19, 3) := by decide +kernel
theorem dX7_greatestShared_17 : decode cX7_greatestShared 17 = .ok (.lload_n 0, 1) := by decide +kernel
theorem dX7_greatestShared_18 : decode cX7_greatestShared 18 = .ok (.lload_n 2, 1) := by decide +kernel
theorem dX7_greatestShared_19 : decode cX7_greatestShared 19 = .ok (.lrem, 1) := by decide +kernel
theorem dX7_greatestShared_20 : decode cX7_greatestShared 20 = .ok (.lstore 5, 2) := by decide +kernel
theorem dX7_greatestShared_22 : decode cX7_greatestShared 22 = .ok (.lload_n 2, 1) := by decide +kernel
theorem dX7_greatestShared_23 : decode cX7_greatestShared 23 = .ok (.lstore_n 0, 1) := by decide +kernel
theorem dX7_greatestShared_24 : decode cX7_greatestShared 24 = .ok (.lload 5, 2) := by decide +kernel
theorem dX7_greatestShared_26 : decode cX7_greatestShared 26 = .ok (.lstore_n 2, 1) := by decide +kernel
theorem dX7_greatestShared_27 : decode cX7_greatestShared 27 = .ok (.iinc 4 1, 3) := by decide +kernel
theorem dX7_greatestShared_30 : decode cX7_greatestShared 30 = .ok (.goto (-27), 3) := by decide +kernel
theorem dX7_greatestShared_33 : decode cX7_greatestShared 33 = .ok (.lload_n 0, 1) := by decide +kernel
theorem dX7_greatestShared_34 : decode cX7_greatestShared 34 = .ok (.lreturn, 1) := by decide +kernel
set_option maxRecDepth 20000 in
theorem ggX8_init_X8_clears : GoodIn wsX8_init wsX8_clears := goodIn_r _ [27, 22, 28, 10, 12, 11, 40, 41, 42, 43, 44, 45, 46, 47, 48, 49, 50, 51, 52, 53, 54, 55, 56, 57, 58, 59, 60, 61, 62, 63, 64, 65] (by decide +kernel) (by decide +kernel)
set_option maxRecDepth 20000 in
theorem gX8_init_X8_clears : GoodIn wsX8_init (wsV RX8 59 RX8 yX8_clears wsX8_clears) := goodIn_app (goodIn_of _ (by decide +kernel)) ggX8_init_X8_clears
set_option maxRecDepth 20000 in
theorem ggX8_init_X8_joinOf : GoodIn wsX8_init wsX8_joinOf := goodIn_r _ [32, 10, 28, 40, 41, 42, 43, 44, 45, 46, 47, 48, 49, 50, 51, 52, 53, 54, 55, 56, 57, 58, 59, 60, 61, 62, 63, 64, 65] (by decide +kernel) (by decide +kernel)
set_option maxRecDepth 20000 in
theorem gX8_init_X8_joinOf : GoodIn wsX8_init (wsV RX8 66 RX8 yX8_joinOf wsX8_joinOf) := goodIn_app (goodIn_of _ (by decide +kernel)) ggX8_init_X8_joinOf
set_option maxRecDepth 20000 in
theorem ggX8_init_X8_takes : GoodIn wsX8_init wsX8_takes := goodIn_r _ [36, 22, 37, 28, 38, 6, 10, 8, 12, 7, 11, 39, 40, 41, 42, 43, 44, 45, 46, 47, 48, 49, 50, 51, 52, 53, 54, 55, 56, 57, 58, 59, 60, 61, 62, 63, 64, 65] (by decide +kernel) (by decide +kernel)
set_option maxRecDepth 20000 in
theorem gX8_init_X8_takes : GoodIn wsX8_init (wsV RX8 70 RX8 yX8_takes wsX8_takes) := goodIn_app (goodIn_of _ (by decide +kernel)) ggX8_init_X8_takes
theorem dX8_init_0 : decode cX8_init 0 = .ok (.aload_n 0, 1) := by decide +kernel
theorem dX8_init_1 : decode cX8_init 1 = .ok (.invokespecial 1, 3) := by decide +kernel
theorem dX8_init_4 : decode cX8_init 4 = .ok (.aload_n 0, 1) := by decide +kernel
theorem dX8_init_5 : decode cX8_init 5 = .ok (.sipush 200, 3) := by decide +kernel
theorem dX8_init_8 : decode cX8_init 8 = .ok (.newarray .int, 2) := by decide +kernel
theorem dX8_init_10 : decode cX8_init 10 = .ok (.putfield 7, 3) := by decide +kernel
theorem dX8_init_13 : decode cX8_init 13 = .ok (.aload_n 0, 1) := by decide +kernel
theorem dX8_init_14 : decode cX8_init 14 = .ok (.bipush 36, 2) := by decide +kernel
theorem dX8_init_16 : decode cX8_init 16 = .ok (.newarray .int, 2) := by decide +kernel
theorem dX8_init_18 : decode cX8_init 18 = .ok (.putfield 13, 3) := by decide +kernel
theorem dX8_init_21 : decode cX8_init 21 = .ok (.aload_n 0, 1) := by decide +kernel
theorem dX8_init_22 : decode cX8_init 22 = .ok (.iconst 4, 1) := by decide +kernel
theorem dX8_init_23 : decode cX8_init 23 = .ok (.newarray .int, 2) := by decide +kernel
theorem dX8_init_25 : decode cX8_init 25 = .ok (.putfield 16, 3) := by decide +kernel
theorem dX8_init_28 : decode cX8_init 28 = .ok (.aload_n 0, 1) := by decide +kernel
theorem dX8_init_29 : decode cX8_init 29 = .ok (.bipush 20, 2) := by decide +kernel
theorem dX8_init_31 : decode cX8_init 31 = .ok (.newarray .int, 2) := by decide +kernel
theorem dX8_init_33 : decode cX8_init 33 = .ok (.putfield 19, 3) := by decide +kernel
theorem dX8_init_36 : decode cX8_init 36 = .ok (.aload_n 0, 1) := by decide +kernel
theorem dX8_init_37 : decode cX8_init 37 = .ok (.bipush 120, 2) := by decide +kernel
theorem dX8_init_39 : decode cX8_init 39 = .ok (.newarray .int, 2) := by decide +kernel
theorem dX8_init_41 : decode cX8_init 41 = .ok (.putfield 22, 3) := by decide +kernel
theorem dX8_init_44 : decode cX8_init 44 = .ok (.aload_n 0, 1) := by decide +kernel
theorem dX8_init_45 : decode cX8_init 45 = .ok (.bipush 36, 2) := by decide +kernel
theorem dX8_init_47 : decode cX8_init 47 = .ok (.newarray .int, 2) := by decide +kernel
theorem dX8_init_49 : decode cX8_init 49 = .ok (.putfield 25, 3) := by decide +kernel
theorem dX8_init_52 : decode cX8_init 52 = .ok (.aload_n 0, 1) := by decide +kernel
theorem dX8_init_53 : decode cX8_init 53 = .ok (.iconst 4, 1) := by decide +kernel
theorem dX8_init_54 : decode cX8_init 54 = .ok (.newarray .int, 2) := by decide +kernel
theorem dX8_init_56 : decode cX8_init 56 = .ok (.putfield 28, 3) := by decide +kernel
theorem dX8_init_59 : decode cX8_init 59 = .ok (.aload_n 0, 1) := by decide +kernel
theorem dX8_init_60 : decode cX8_init 60 = .ok (.bipush 20, 2) := by decide +kernel
theorem dX8_init_62 : decode cX8_init 62 = .ok (.newarray .int, 2) := by decide +kernel
theorem dX8_init_64 : decode cX8_init 64 = .ok (.putfield 31, 3) := by decide +kernel
theorem dX8_init_67 : decode cX8_init 67 = .ok (.aload_n 0, 1) := by decide +kernel
theorem dX8_init_68 : decode cX8_init 68 = .ok (.bipush 10, 2) := by decide +kernel
theorem dX8_init_70 : decode cX8_init 70 = .ok (.newarray .int, 2) := by decide +kernel
theorem dX8_init_72 : decode cX8_init 72 = .ok (.putfield 34, 3) := by decide +kernel
theorem dX8_init_75 : decode cX8_init 75 = .ok (.aload_n 0, 1) := by decide +kernel
theorem dX8_init_76 : decode cX8_init 76 = .ok (.bipush 10, 2) := by decide +kernel
theorem dX8_init_78 : decode cX8_init 78 = .ok (.newarray .int, 2) := by decide +kernel
theorem dX8_init_80 : decode cX8_init 80 = .ok (.putfield 37, 3) := by decide +kernel
theorem dX8_init_83 : decode cX8_init 83 = .ok (.aload_n 0, 1) := by decide +kernel
theorem dX8_init_84 : decode cX8_init 84 = .ok (.bipush 6, 2) := by decide +kernel
theorem dX8_init_86 : decode cX8_init 86 = .ok (.newarray .long, 2) := by decide +kernel
theorem dX8_init_88 : decode cX8_init 88 = .ok (.putfield 40, 3) := by decide +kernel
theorem dX8_init_91 : decode cX8_init 91 = .ok (.aload_n 0, 1) := by decide +kernel
theorem dX8_init_92 : decode cX8_init 92 = .ok (.bipush 25, 2) := by decide +kernel
theorem dX8_init_94 : decode cX8_init 94 = .ok (.newarray .long, 2) := by decide +kernel
theorem dX8_init_96 : decode cX8_init 96 = .ok (.putfield 44, 3) := by decide +kernel
theorem dX8_init_99 : decode cX8_init 99 = .ok (.aload_n 0, 1) := by decide +kernel
theorem dX8_init_100 : decode cX8_init 100 = .ok (.bipush 6, 2) := by decide +kernel
theorem dX8_init_102 : decode cX8_init 102 = .ok (.newarray .int, 2) := by decide +kernel
theorem dX8_init_104 : decode cX8_init 104 = .ok (.putfield 47, 3) := by decide +kernel
theorem dX8_init_107 : decode cX8_init 107 = .ok (.aload_n 0, 1) := by decide +kernel
theorem dX8_init_108 : decode cX8_init 108 = .ok (.bipush 6, 2) := by decide +kernel
theorem dX8_init_110 : decode cX8_init 110 = .ok (.newarray .int, 2) := by decide +kernel
theorem dX8_init_112 : decode cX8_init 112 = .ok (.putfield 50, 3) := by decide +kernel
theorem dX8_init_115 : decode cX8_init 115 = .ok (.aload_n 0, 1) := by decide +kernel
theorem dX8_init_116 : decode cX8_init 116 = .ok (.bipush 6, 2) := by decide +kernel
theorem dX8_init_118 : decode cX8_init 118 = .ok (.newarray .int, 2) := by decide +kernel
theorem dX8_init_120 : decode cX8_init 120 = .ok (.putfield 53, 3) := by decide +kernel
theorem dX8_init_123 : decode cX8_init 123 = .ok (.aload_n 0, 1) := by decide +kernel
theorem dX8_init_124 : decode cX8_init 124 = .ok (.bipush 20, 2) := by decide +kernel
theorem dX8_init_126 : decode cX8_init 126 = .ok (.newarray .int, 2) := by decide +kernel
theorem dX8_init_128 : decode cX8_init 128 = .ok (.putfield 56, 3) := by decide +kernel
theorem dX8_init_131 : decode cX8_init 131 = .ok (.aload_n 0, 1) := by decide +kernel
theorem dX8_init_132 : decode cX8_init 132 = .ok (.invokevirtual 59, 3) := by decide +kernel
theorem dX8_init_135 : decode cX8_init 135 = .ok (.aload_n 0, 1) := by decide +kernel
theorem dX8_init_136 : decode cX8_init 136 = .ok (.bipush 6, 2) := by decide +kernel
theorem dX8_init_138 : decode cX8_init 138 = .ok (.putfield 62, 3) := by decide +kernel
theorem dX8_init_141 : decode cX8_init 141 = .ok (.aload_n 0, 1) := by decide +kernel
theorem dX8_init_142 : decode cX8_init 142 = .ok (.iconst 0, 1) := by decide +kernel
theorem dX8_init_143 : decode cX8_init 143 = .ok (.iconst 1, 1) := by decide +kernel
theorem dX8_init_144 : decode cX8_init 144 = .ok (.iconst 2, 1) := by decide +kernel
theorem dX8_init_145 : decode cX8_init 145 = .ok (.iconst 1, 1) := by decide +kernel
theorem dX8_init_146 : decode cX8_init 146 = .ok (.invokevirtual 66, 3) := by decide +kernel
theorem dX8_init_149 : decode cX8_init 149 = .ok (.aload_n 0, 1) := by decide +kernel
theorem dX8_init_150 : decode cX8_init 150 = .ok (.iconst 1, 1) := by decide +kernel
theorem dX8_init_151 : decode cX8_init 151 = .ok (.iconst 2, 1) := by decide +kernel
theorem dX8_init_152 : decode cX8_init 152 = .ok (.iconst 1, 1) := by decide +kernel
theorem dX8_init_153 : decode cX8_init 153 = .ok (.iconst 1, 1) := by decide +kernel
theorem dX8_init_154 : decode cX8_init 154 = .ok (.invokevirtual 66, 3) := by decide +kernel
theorem dX8_init_157 : decode cX8_init 157 = .ok (.aload_n 0, 1) := by decide +kernel
theorem dX8_init_158 : decode cX8_init 158 = .ok (.iconst 2, 1) := by decide +kernel
theorem dX8_init_159 : decode cX8_init 159 = .ok (.iconst 3, 1) := by decide +kernel
theorem dX8_init_160 : decode cX8_init 160 = .ok (.iconst 3, 1) := by decide +kernel
theorem dX8_init_161 : decode cX8_init 161 = .ok (.iconst 1, 1) := by decide +kernel
theorem dX8_init_162 : decode cX8_init 162 = .ok (.invokevirtual 66, 3) := by decide +kernel
theorem dX8_init_165 : decode cX8_init 165 = .ok (.aload_n 0, 1) := by decide +kernel
theorem dX8_init_166 : decode cX8_init 166 = .ok (.iconst 3, 1) := by decide +kernel
theorem dX8_init_167 : decode cX8_init 167 = .ok (.iconst 4, 1) := by decide +kernel
theorem dX8_init_168 : decode cX8_init 168 = .ok (.iconst 1, 1) := by decide +kernel
theorem dX8_init_169 : decode cX8_init 169 = .ok (.iconst 2, 1) := by decide +kernel
theorem dX8_init_170 : decode cX8_init 170 = .ok (.invokevirtual 66, 3) := by decide +kernel
theorem dX8_init_173 : decode cX8_init 173 = .ok (.aload_n 0, 1) := by decide +kernel
theorem dX8_init_174 : decode cX8_init 174 = .ok (.iconst 4, 1) := by decide +kernel
theorem dX8_init_175 : decode cX8_init 175 = .ok (.iconst 5, 1) := by decide +kernel
theorem dX8_init_176 : decode cX8_init 176 = .ok (.iconst 1, 1) := by decide +kernel
theorem dX8_init_177 : decode cX8_init 177 = .ok (.iconst 1, 1) := by decide +kernel
theorem dX8_init_178 : decode cX8_init 178 = .ok (.invokevirtual 66, 3) := by decide +kernel
theorem dX8_init_181 : decode cX8_init 181 = .ok (.aload_n 0, 1) := by decide +kernel
theorem dX8_init_182 : decode cX8_init 182 = .ok (.iconst 5, 1) := by decide +kernel
theorem dX8_init_183 : decode cX8_init 183 = .ok (.iconst 0, 1) := by decide +kernel
theorem dX8_init_184 : decode cX8_init 184 = .ok (.iconst 2, 1) := by decide +kernel
theorem dX8_init_185 : decode cX8_init 185 = .ok (.iconst 2, 1) := by decide +kernel
theorem dX8_init_186 : decode cX8_init 186 = .ok (.invokevirtual 66, 3) := by decide +kernel
theorem dX8_init_189 : decode cX8_init 189 = .ok (.aload_n 0, 1) := by decide +kernel
theorem dX8_init_190 : decode cX8_init 190 = .ok (.iconst 1, 1) := by decide +kernel
theorem dX8_init_191 : decode cX8_init 191 = .ok (.iconst 4, 1) := by decide +kernel
theorem dX8_init_192 : decode cX8_init 192 = .ok (.iconst 1, 1) := by decide +kernel
theorem dX8_init_193 : decode cX8_init 193 = .ok (.iconst 1, 1) := by decide +kernel
theorem dX8_init_194 : decode cX8_init 194 = .ok (.invokevirtual 66, 3) := by decide +kernel
theorem dX8_init_197 : decode cX8_init 197 = .ok (.aload_n 0, 1) := by decide +kernel
theorem dX8_init_198 : decode cX8_init 198 = .ok (.getfield 31, 3) := by decide +kernel
theorem dX8_init_201 : decode cX8_init 201 = .ok (.iconst 2, 1) := by decide +kernel
theorem dX8_init_202 : decode cX8_init 202 = .ok (.iconst 4, 1) := by decide +kernel
theorem dX8_init_203 : decode cX8_init 203 = .ok (.iastore, 1) := by decide +kernel
theorem dX8_init_204 : decode cX8_init 204 = .ok (.aload_n 0, 1) := by decide +kernel
theorem dX8_init_205 : decode cX8_init 205 = .ok (.getfield 31, 3) := by decide +kernel
theorem dX8_init_208 : decode cX8_init 208 = .ok (.bipush 9, 2) := by decide +kernel
theorem dX8_init_210 : decode cX8_init 210 = .ok (.iconst 1, 1) := by decide +kernel
theorem dX8_init_211 : decode cX8_init 211 = .ok (.iastore, 1) := by decide +kernel
theorem dX8_init_212 : decode cX8_init 212 = .ok (.aload_n 0, 1) := by decide +kernel
theorem dX8_init_213 : decode cX8_init 213 = .ok (.getfield 31, 3) := by decide +kernel
theorem dX8_init_216 : decode cX8_init 216 = .ok (.bipush 10, 2) := by decide +kernel
theorem dX8_init_218 : decode cX8_init 218 = .ok (.iconst 1, 1) := by decide +kernel
theorem dX8_init_219 : decode cX8_init 219 = .ok (.iastore, 1) := by decide +kernel
theorem dX8_init_220 : decode cX8_init 220 = .ok (.aload_n 0, 1) := by decide +kernel
theorem dX8_init_221 : decode cX8_init 221 = .ok (.getfield 31, 3) := by decide +kernel
theorem dX8_init_224 : decode cX8_init 224 = .ok (.bipush 11, 2) := by decide +kernel
theorem dX8_init_226 : decode cX8_init 226 = .ok (.iconst 1, 1) := by decide +kernel
theorem dX8_init_227 : decode cX8_init 227 = .ok (.iastore, 1) := by decide +kernel
theorem dX8_init_228 : decode cX8_init 228 = .ok (.aload_n 0, 1) := by decide +kernel
theorem dX8_init_229 : decode cX8_init 229 = .ok (.invokevirtual 70, 3) := by decide +kernel
theorem dX8_init_232 : decode cX8_init 232 = .ok (.return_, 1) := by decide +kernel
theorem dX8_joinOf_0 : decode cX8_joinOf 0 = .ok (.aload_n 0, 1) := by decide +kernel
theorem dX8_joinOf_1 : decode cX8_joinOf 1 = .ok (.getfield 25, 3) := by decide +kernel
theorem dX8_joinOf_4 : decode cX8_joinOf 4 = .ok (.bipush 6, 2) := by decide +kernel
theorem dX8_joinOf_6 : decode cX8_joinOf 6 = .ok (.iload_n 1, 1) := by decide +kernel
theorem dX8_joinOf_7 : decode cX8_joinOf 7 = .ok (.imul, 1) := by decide +kernel
theorem dX8_joinOf_8 : decode cX8_joinOf 8 = .ok (.iload_n 2, 1) := by decide +kernel
theorem dX8_joinOf_9 : decode cX8_joinOf 9 = .ok (.iadd, 1) := by decide +kernel
theorem dX8_joinOf_10 : decode cX8_joinOf 10 = .ok (.iload_n 3, 1) := by decide +kernel
theorem dX8_joinOf_11 : decode cX8_joinOf 11 = .ok (.iastore, 1) := by decide +kernel
theorem dX8_joinOf_12 : decode cX8_joinOf 12 = .ok (.aload_n 0, 1) := by decide +kernel
theorem dX8_joinOf_13 : decode cX8_joinOf 13 = .ok (.getfield 25, 3) := by decide +kernel
theorem dX8_joinOf_16 : decode cX8_joinOf 16 = .ok (.bipush 6, 2) := by decide +kernel
theorem dX8_joinOf_18 : decode cX8_joinOf 18 = .ok (.iload_n 2, 1) := by decide +kernel
theorem dX8_joinOf_19 : decode cX8_joinOf 19 = .ok (.imul, 1) := by decide +kernel
theorem dX8_joinOf_20 : decode cX8_joinOf 20 = .ok (.iload_n 1, 1) := by decide +kernel
theorem dX8_joinOf_21 : decode cX8_joinOf 21 = .ok (.iadd, 1) := by decide +kernel
theorem dX8_joinOf_22 : decode cX8_joinOf 22 = .ok (.iload 4, 2) := by decide +kernel
theorem dX8_joinOf_24 : decode cX8_joinOf 24 = .ok (.iastore, 1) := by decide +kernel
theorem dX8_joinOf_25 : decode cX8_joinOf 25 = .ok (.aload_n 0, 1) := by decide +kernel
theorem dX8_joinOf_26 : decode cX8_joinOf 26 = .ok (.dup, 1) := by decide +kernel
theorem dX8_joinOf_27 : decode cX8_joinOf 27 = .ok (.getfield 73, 3) := by decide +kernel
theorem dX8_joinOf_30 : decode cX8_joinOf 30 = .ok (.iconst 1, 1) := by decide +kernel
theorem dX8_joinOf_31 : decode cX8_joinOf 31 = .ok (.iadd, 1) := by decide +kernel
theorem dX8_joinOf_32 : decode cX8_joinOf 32 = .ok (.putfield 73, 3) := by decide +kernel
theorem dX8_joinOf_35 : decode cX8_joinOf 35 = .ok (.return_, 1) := by decide +kernel
theorem dX8_isIn_0 : decode cX8_isIn 0 = .ok (.iload_n 0, 1) := by decide +kernel
theorem dX8_isIn_1 : decode cX8_isIn 1 = .ok (.iload_n 1, 1) := by decide +kernel
theorem dX8_isIn_2 : decode cX8_isIn 2 = .ok (.if_icmp .lt 12, 3) := by decide +kernel
theorem dX8_isIn_5 : decode cX8_isIn 5 = .ok (.iload_n 0, 1) := by decide +kernel
theorem dX8_isIn_6 : decode cX8_isIn 6 = .ok (.iload_n 2, 1) := by decide +kernel
theorem dX8_isIn_7 : decode cX8_isIn 7 = .ok (.if_icmp .gt 7, 3) := by decide +kernel
theorem dX8_isIn_10 : decode cX8_isIn 10 = .ok (.iconst 1, 1) := by decide +kernel
theorem dX8_isIn_11 : decode cX8_isIn 11 = .ok (.goto 4, 3) := by decide +kernel
theorem dX8_isIn_14 : decode cX8_isIn 14 = .ok (.iconst 0, 1) := by decide +kernel
theorem dX8_isIn_15 : decode cX8_isIn 15 = .ok (.ireturn, 1) := by decide +kernel
theorem dX8_clears_0 : decode cX8_clears 0 = .ok (.aload_n 0, 1) := by decide +kernel
theorem dX8_clears_1 : decode cX8_clears 1 = .ok (.iconst 0, 1) := by decide +kernel
theorem dX8_clears_2 : decode cX8_clears 2 = .ok (.putfield 62, 3) := by decide +kernel
theorem dX8_clears_5 : decode cX8_clears 5 = .ok (.aload_n 0, 1) := by decide +kernel
theorem dX8_clears_6 : decode cX8_clears 6 = .ok (.iconst 0, 1) := by decide +kernel
theorem dX8_clears_7 : decode cX8_clears 7 = .ok (.putfield 73, 3) := by decide +kernel
theorem dX8_clears_10 : decode cX8_clears 10 = .ok (.iconst 0, 1) := by decide +kernel
theorem dX8_clears_11 : decode cX8_clears 11 = .ok (.istore_n 1, 1) := by decide +kernel
theorem dX8_clears_12 : decode cX8_clears 12 = .ok (.iload_n 1, 1) := by decide +kernel
theorem dX8_clears_13 : decode cX8_clears 13 = .ok (.bipush 36, 2) := by decide +kernel
theorem dX8_clears_15 : decode cX8_clears 15 = .ok (.if_icmp .ge 16, 3) := by decide +kernel
theorem dX8_clears_18 : decode cX8_clears 18 = .ok (.aload_n 0, 1) := by decide +kernel
theorem dX8_clears_19 : decode cX8_clears 19 = .ok (.getfield 25, 3) := by decide +kernel
theorem dX8_clears_22 : decode cX8_clears 22 = .ok (.iload_n 1, 1) := by decide +kernel
theorem dX8_clears_23 : decode cX8_clears 23 = .ok (.iconst 0, 1) := by decide +kernel
theorem dX8_clears_24 : decode cX8_clears 24 = .ok (.iastore, 1) := by decide +kernel
theorem dX8_clears_25 : decode cX8_clears 25 = .ok (.iinc 1 1, 3) := by decide +kernel
theorem dX8_clears_28 : decode cX8_clears 28 = .ok (.goto (-16), 3) := by decide +kernel
theorem dX8_clears_31 : decode cX8_clears 31 = .ok (.iconst 0, 1) := by decide +kernel
theorem dX8_clears_32 : decode cX8_clears 32 = .ok (.istore_n 1, 1) := by decide +kernel
theorem dX8_clears_33 : decode cX8_clears 33 = .ok (.iload_n 1, 1) := by decide +kernel
theorem dX8_clears_34 : decode cX8_clears 34 = .ok (.bipush 20, 2) := by decide +kernel
theorem dX8_clears_36 : decode cX8_clears 36 = .ok (.if_icmp .ge 26, 3) := by decide +kernel
theorem dX8_clears_39 : decode cX8_clears 39 = .ok (.aload_n 0, 1) := by decide +kernel
theorem dX8_clears_40 : decode cX8_clears 40 = .ok (.getfield 31, 3) := by decide +kernel
theorem dX8_clears_43 : decode cX8_clears 43 = .ok (.iload_n 1, 1) := by decide +kernel
theorem dX8_clears_44 : decode cX8_clears 44 = .ok (.iload_n 1, 1) := by decide +kernel
theorem dX8_clears_45 : decode cX8_clears 45 = .ok (.bipush 6, 2) := by decide +kernel
theorem dX8_clears_47 : decode cX8_clears 47 = .ok (.if_icmp .ge 7, 3) := by decide +kernel
theorem dX8_clears_50 : decode cX8_clears 50 = .ok (.iconst 1, 1) := by decide +kernel
theorem dX8_clears_51 : decode cX8_clears 51 = .ok (.goto 4, 3) := by decide +kernel
theorem dX8_clears_54 : decode cX8_clears 54 = .ok (.iconst 0, 1) := by decide +kernel
theorem dX8_clears_55 : decode cX8_clears 55 = .ok (.iastore, 1) := by decide +kernel
theorem dX8_clears_56 : decode cX8_clears 56 = .ok (.iinc 1 1, 3) := by decide +kernel
theorem dX8_clears_59 : decode cX8_clears 59 = .ok (.goto (-26), 3) := by decide +kernel
theorem dX8_clears_62 : decode cX8_clears 62 = .ok (.aload_n 0, 1) := by decide +kernel
theorem dX8_clears_63 : decode cX8_clears 63 = .ok (.getfield 28, 3) := by decide +kernel
theorem dX8_clears_66 : decode cX8_clears 66 = .ok (.iconst 0, 1) := by decide +kernel
theorem dX8_clears_67 : decode cX8_clears 67 = .ok (.iconst 2, 1) := by decide +kernel
theorem dX8_clears_68 : decode cX8_clears 68 = .ok (.iastore, 1) := by decide +kernel
theorem dX8_clears_69 : decode cX8_clears 69 = .ok (.aload_n 0, 1) := by decide +kernel
theorem dX8_clears_70 : decode cX8_clears 70 = .ok (.getfield 28, 3) := by decide +kernel
theorem dX8_clears_73 : decode cX8_clears 73 = .ok (.iconst 1, 1) := by decide +kernel
theorem dX8_clears_74 : decode cX8_clears 74 = .ok (.iconst 1, 1) := by decide +kernel
theorem dX8_clears_75 : decode cX8_clears 75 = .ok (.iastore, 1) := by decide +kernel
theorem dX8_clears_76 : decode cX8_clears 76 = .ok (.aload_n 0, 1) := by decide +kernel
theorem dX8_clears_77 : decode cX8_clears 77 = .ok (.getfield 28, 3) := by decide +kernel
theorem dX8_clears_80 : decode cX8_clears 80 = .ok (.iconst 2, 1) := by decide +kernel
theorem dX8_clears_81 : decode cX8_clears 81 = .ok (.iconst 5, 1) := by decide +kernel
theorem dX8_clears_82 : decode cX8_clears 82 = .ok (.iastore, 1) := by decide +kernel
theorem dX8_clears_83 : decode cX8_clears 83 = .ok (.aload_n 0, 1) := by decide +kernel
theorem dX8_clears_84 : decode cX8_clears 84 = .ok (.getfield 28, 3) := by decide +kernel
theorem dX8_clears_87 : decode cX8_clears 87 = .ok (.iconst 3, 1) := by decide +kernel
theorem dX8_clears_88 : decode cX8_clears 88 = .ok (.bipush 10, 2) := by decide +kernel
theorem dX8_clears_90 : decode cX8_clears 90 = .ok (.iastore, 1) := by decide +kernel
theorem dX8_clears_91 : decode cX8_clears 91 = .ok (.return_, 1) := by decide +kernel
theorem dX8_takes_0 : decode cX8_takes 0 = .ok (.aload_n 0, 1) := by decide +kernel
theorem dX8_takes_1 : decode cX8_takes 1 = .ok (.aload_n 0, 1) := by decide +kernel
theorem dX8_takes_2 : decode cX8_takes 2 = .ok (.getfield 62, 3) := by decide +kernel
theorem dX8_takes_5 : decode cX8_takes 5 = .ok (.putfield 76, 3) := by decide +kernel
theorem dX8_takes_8 : decode cX8_takes 8 = .ok (.aload_n 0, 1) := by decide +kernel
theorem dX8_takes_9 : decode cX8_takes 9 = .ok (.aload_n 0, 1) := by decide +kernel
theorem dX8_takes_10 : decode cX8_takes 10 = .ok (.getfield 73, 3) := by decide +kernel
theorem dX8_takes_13 : decode cX8_takes 13 = .ok (.putfield 79, 3) := by decide +kernel
theorem dX8_takes_16 : decode cX8_takes 16 = .ok (.iconst 0, 1) := by decide +kernel
theorem dX8_takes_17 : decode cX8_takes 17 = .ok (.istore_n 1, 1) := by decide +kernel
theorem dX8_takes_18 : decode cX8_takes 18 = .ok (.iload_n 1, 1) := by decide +kernel
theorem dX8_takes_19 : decode cX8_takes 19 = .ok (.bipush 36, 2) := by decide +kernel
theorem dX8_takes_21 : decode cX8_takes 21 = .ok (.if_icmp .ge 21, 3) := by decide +kernel
theorem dX8_takes_24 : decode cX8_takes 24 = .ok (.aload_n 0, 1) := by decide +kernel
theorem dX8_takes_25 : decode cX8_takes 25 = .ok (.getfield 13, 3) := by decide +kernel
theorem dX8_takes_28 : decode cX8_takes 28 = .ok (.iload_n 1, 1) := by decide +kernel
theorem dX8_takes_29 : decode cX8_takes 29 = .ok (.aload_n 0, 1) := by decide +kernel
theorem dX8_takes_30 : decode cX8_takes 30 = .ok (.getfield 25, 3) := by decide +kernel
theorem dX8_takes_33 : decode cX8_takes 33 = .ok (.iload_n 1, 1) := by decide +kernel
theorem dX8_takes_34 : decode cX8_takes 34 = .ok (.iaload, 1) := by decide +kernel
theorem dX8_takes_35 : decode cX8_takes 35 = .ok (.iastore, 1) := by decide +kernel
theorem dX8_takes_36 : decode cX8_takes 36 = .ok (.iinc 1 1, 3) := by decide +kernel
theorem dX8_takes_39 : decode cX8_takes 39 = .ok (.goto (-21), 3) := by decide +kernel
theorem dX8_takes_42 : decode cX8_takes 42 = .ok (.iconst 0, 1) := by decide +kernel
theorem dX8_takes_43 : decode cX8_takes 43 = .ok (.istore_n 1, 1) := by decide +kernel
theorem dX8_takes_44 : decode cX8_takes 44 = .ok (.iload_n 1, 1) := by decide +kernel
theorem dX8_takes_45 : decode cX8_takes 45 = .ok (.bipush 20, 2) := by decide +kernel
theorem dX8_takes_47 : decode cX8_takes 47 = .ok (.if_icmp .ge 21, 3) := by decide +kernel
theorem dX8_takes_50 : decode cX8_takes 50 = .ok (.aload_n 0, 1) := by decide +kernel
theorem dX8_takes_51 : decode cX8_takes 51 = .ok (.getfield 19, 3) := by decide +kernel
theorem dX8_takes_54 : decode cX8_takes 54 = .ok (.iload_n 1, 1) := by decide +kernel
theorem dX8_takes_55 : decode cX8_takes 55 = .ok (.aload_n 0, 1) := by decide +kernel
theorem dX8_takes_56 : decode cX8_takes 56 = .ok (.getfield 31, 3) := by decide +kernel
theorem dX8_takes_59 : decode cX8_takes 59 = .ok (.iload_n 1, 1) := by decide +kernel
theorem dX8_takes_60 : decode cX8_takes 60 = .ok (.iaload, 1) := by decide +kernel
theorem dX8_takes_61 : decode cX8_takes 61 = .ok (.iastore, 1) := by decide +kernel
theorem dX8_takes_62 : decode cX8_takes 62 = .ok (.iinc 1 1, 3) := by decide +kernel
theorem dX8_takes_65 : decode cX8_takes 65 = .ok (.goto (-21), 3) := by decide +kernel
theorem dX8_takes_68 : decode cX8_takes 68 = .ok (.iconst 0, 1) := by decide +kernel
theorem dX8_takes_69 : decode cX8_takes 69 = .ok (.istore_n 1, 1) := by decide +kernel
theorem dX8_takes_70 : decode cX8_takes 70 = .ok (.iload_n 1, 1) := by decide +kernel
theorem dX8_takes_71 : decode cX8_takes 71 = .ok (.iconst 4, 1) := by decide +kernel
theorem dX8_takes_72 : decode cX8_takes 72 = .ok (.if_icmp .ge 21, 3) := by decide +kernel
theorem dX8_takes_75 : decode cX8_takes 75 = .ok (.aload_n 0, 1) := by decide +kernel
theorem dX8_takes_76 : decode cX8_takes 76 = .ok (.getfield 16, 3) := by decide +kernel
theorem dX8_takes_79 : decode cX8_takes 79 = .ok (.iload_n 1, 1) := by decide +kernel
theorem dX8_takes_80 : decode cX8_takes 80 = .ok (.aload_n 0, 1) := by decide +kernel
theorem dX8_takes_81 : decode cX8_takes 81 = .ok (.getfield 28, 3) := by decide +kernel
theorem dX8_takes_84 : decode cX8_takes 84 = .ok (.iload_n 1, 1) := by decide +kernel
theorem dX8_takes_85 : decode cX8_takes 85 = .ok (.iaload, 1) := by decide +kernel
theorem dX8_takes_86 : decode cX8_takes 86 = .ok (.iastore, 1) := by decide +kernel
theorem dX8_takes_87 : decode cX8_takes 87 = .ok (.iinc 1 1, 3) := by decide +kernel
theorem dX8_takes_90 : decode cX8_takes 90 = .ok (.goto (-20), 3) := by decide +kernel
theorem dX8_takes_93 : decode cX8_takes 93 = .ok (.aload_n 0, 1) := by decide +kernel
theorem dX8_takes_94 : decode cX8_takes 94 = .ok (.iconst 0, 1) := by decide +kernel
theorem dX8_takes_95 : decode cX8_takes 95 = .ok (.putfield 82, 3) := by decide +kernel
theorem dX8_takes_98 : decode cX8_takes 98 = .ok (.return_, 1) := by decide +kernel
theorem dX8_letterAt_0 : decode cX8_letterAt 0 = .ok (.iload_n 1, 1) := by decide +kernel
theorem dX8_letterAt_1 : decode cX8_letterAt 1 = .ok (.aload_n 0, 1) := by decide +kernel
theorem dX8_letterAt_2 : decode cX8_letterAt 2 = .ok (.getfield 85, 3) := by decide +kernel
theorem dX8_letterAt_5 : decode cX8_letterAt 5 = .ok (.if_icmp .ge 12, 3) := by decide +kernel
theorem dX8_letterAt_8 : decode cX8_letterAt 8 = .ok (.aload_n 0, 1) := by decide +kernel
theorem dX8_letterAt_9 : decode cX8_letterAt 9 = .ok (.getfield 7, 3) := by decide +kernel
theorem dX8_letterAt_12 : decode cX8_letterAt 12 = .ok (.iload_n 1, 1) := by decide +kernel
theorem dX8_letterAt_13 : decode cX8_letterAt 13 = .ok (.iaload, 1) := by decide +kernel
theorem dX8_letterAt_14 : decode cX8_letterAt 14 = .ok (.goto 4, 3) := by decide +kernel
theorem dX8_letterAt_17 : decode cX8_letterAt 17 = .ok (.iconst 0, 1) := by decide +kernel
theorem dX8_letterAt_18 : decode cX8_letterAt 18 = .ok (.ireturn, 1) := by decide +kernel
set_option maxRecDepth 20000 in
theorem ggX8_number_X8_letterAt : GoodIn wsX8_number wsX8_letterAt := goodIn_r _ [8, 9, 3, 13, 14, 15, 16, 17, 18, 19, 20, 21, 22, 23, 24, 25, 26, 27, 28, 29, 30, 31, 32, 33, 34, 35, 36, 37, 38] (by decide +kernel) (by decide +kernel)
set_option maxRecDepth 20000 in
theorem gX8_number_X8_letterAt : GoodIn wsX8_number (wsV RX8 94 RX8 yX8_letterAt wsX8_letterAt) := goodIn_app (goodIn_of _ (by decide +kernel)) ggX8_number_X8_letterAt
set_option maxRecDepth 20000 in
theorem ggX8_number_X8_isIn : GoodIn wsX8_number wsX8_isIn := goodIn_r _ [12] (by decide +kernel) (by decide +kernel)
set_option maxRecDepth 20000 in
theorem gX8_number_X8_isIn : GoodIn wsX8_number (va_wsS RX8 98 yX8_isIn wsX8_isIn) := goodIn_app (goodIn_of _ (by decide +kernel)) ggX8_number_X8_isIn
theorem dX8_number_0 : decode cX8_number 0 = .ok (.aload_n 0, 1) := by decide +kernel
theorem dX8_number_1 : decode cX8_number 1 = .ok (.iconst 0, 1) := by decide +kernel
theorem dX8_number_2 : decode cX8_number 2 = .ok (.putfield 88, 3) := by decide +kernel
theorem dX8_number_5 : decode cX8_number 5 = .ok (.aload_n 0, 1) := by decide +kernel
theorem dX8_number_6 : decode cX8_number 6 = .ok (.iload_n 1, 1) := by decide +kernel
theorem dX8_number_7 : decode cX8_number 7 = .ok (.putfield 91, 3) := by decide +kernel
theorem dX8_number_10 : decode cX8_number 10 = .ok (.aload_n 0, 1) := by decide +kernel
theorem dX8_number_11 : decode cX8_number 11 = .ok (.getfield 91, 3) := by decide +kernel
theorem dX8_number_14 : decode cX8_number 14 = .ok (.iload_n 1, 1) := by decide +kernel
theorem dX8_number_15 : decode cX8_number 15 = .ok (.iconst 2, 1) := by decide +kernel
theorem dX8_number_16 : decode cX8_number 16 = .ok (.iadd, 1) := by decide +kernel
theorem dX8_number_17 : decode cX8_number 17 = .ok (.if_icmp .ge 66, 3) := by decide +kernel
theorem dX8_number_20 : decode cX8_number 20 = .ok (.aload_n 0, 1) := by decide +kernel
theorem dX8_number_21 : decode cX8_number 21 = .ok (.aload_n 0, 1) := by decide +kernel
theorem dX8_number_22 : decode cX8_number 22 = .ok (.getfield 91, 3) := by decide +kernel
theorem dX8_number_25 : decode cX8_number 25 = .ok (.invokevirtual 94, 3) := by decide +kernel
theorem dX8_number_28 : decode cX8_number 28 = .ok (.bipush 48, 2) := by decide +kernel
theorem dX8_number_30 : decode cX8_number 30 = .ok (.if_icmp .lt 53, 3) := by decide +kernel
theorem dX8_number_33 : decode cX8_number 33 = .ok (.aload_n 0, 1) := by decide +kernel
theorem dX8_number_34 : decode cX8_number 34 = .ok (.aload_n 0, 1) := by decide +kernel
theorem dX8_number_35 : decode cX8_number 35 = .ok (.getfield 91, 3) := by decide +kernel
theorem dX8_number_38 : decode cX8_number 38 = .ok (.invokevirtual 94, 3) := by decide +kernel
theorem dX8_number_41 : decode cX8_number 41 = .ok (.bipush 57, 2) := by decide +kernel
theorem dX8_number_43 : decode cX8_number 43 = .ok (.if_icmp .gt 40, 3) := by decide +kernel
theorem dX8_number_46 : decode cX8_number 46 = .ok (.aload_n 0, 1) := by decide +kernel
theorem dX8_number_47 : decode cX8_number 47 = .ok (.bipush 10, 2) := by decide +kernel
theorem dX8_number_49 : decode cX8_number 49 = .ok (.aload_n 0, 1) := by decide +kernel
theorem dX8_number_50 : decode cX8_number 50 = .ok (.getfield 88, 3) := by decide +kernel
theorem dX8_number_53 : decode cX8_number 53 = .ok (.imul, 1) := by decide +kernel
theorem dX8_number_54 : decode cX8_number 54 = .ok (.aload_n 0, 1) := by decide +kernel
theorem dX8_number_55 : decode cX8_number 55 = .ok (.getfield 7, 3) := by decide +kernel
theorem dX8_number_58 : decode cX8_number 58 = .ok (.aload_n 0, 1) := by decide +kernel
theorem dX8_number_59 : decode cX8_number 59 = .ok (.getfield 91, 3) := by decide +kernel
theorem dX8_number_62 : decode cX8_number 62 = .ok (.iaload, 1) := by decide +kernel
theorem dX8_number_63 : decode cX8_number 63 = .ok (.iadd, 1) := by decide +kernel
theorem dX8_number_64 : decode cX8_number 64 = .ok (.bipush 48, 2) := by decide +kernel
theorem dX8_number_66 : decode cX8_number 66 = .ok (.isub, 1) := by decide +kernel
theorem dX8_number_67 : decode cX8_number 67 = .ok (.putfield 88, 3) := by decide +kernel
theorem dX8_number_70 : decode cX8_number 70 = .ok (.aload_n 0, 1) := by decide +kernel
theorem dX8_number_71 : decode cX8_number 71 = .ok (.dup, 1) := by decide +kernel
theorem dX8_number_72 : decode cX8_number 72 = .ok (.getfield 91, 3) := by decide +kernel
theorem dX8_number_75 : decode cX8_number 75 = .ok (.iconst 1, 1) := by decide +kernel
theorem dX8_number_76 : decode cX8_number 76 = .ok (.iadd, 1) := by decide +kernel
theorem dX8_number_77 : decode cX8_number 77 = .ok (.putfield 91, 3) := by decide +kernel
theorem dX8_number_80 : decode cX8_number 80 = .ok (.goto (-70), 3) := by decide +kernel
theorem dX8_number_83 : decode cX8_number 83 = .ok (.aload_n 0, 1) := by decide +kernel
theorem dX8_number_84 : decode cX8_number 84 = .ok (.getfield 91, 3) := by decide +kernel
theorem dX8_number_87 : decode cX8_number 87 = .ok (.iload_n 1, 1) := by decide +kernel
theorem dX8_number_88 : decode cX8_number 88 = .ok (.if_icmp .le 19, 3) := by decide +kernel
theorem dX8_number_91 : decode cX8_number 91 = .ok (.aload_n 0, 1) := by decide +kernel
theorem dX8_number_92 : decode cX8_number 92 = .ok (.getfield 88, 3) := by decide +kernel
theorem dX8_number_95 : decode cX8_number 95 = .ok (.iload_n 2, 1) := by decide +kernel
theorem dX8_number_96 : decode cX8_number 96 = .ok (.iload_n 3, 1) := by decide +kernel
theorem dX8_number_97 : decode cX8_number 97 = .ok (.invokestatic 98, 3) := by decide +kernel
theorem dX8_number_100 : decode cX8_number 100 = .ok (.ifCond .eq 7, 3) := by decide +kernel
theorem dX8_number_103 : decode cX8_number 103 = .ok (.iconst 1, 1) := by decide +kernel
theorem dX8_number_104 : decode cX8_number 104 = .ok (.goto 4, 3) := by decide +kernel
theorem dX8_number_107 : decode cX8_number 107 = .ok (.iconst 0, 1) := by decide +kernel
theorem dX8_number_108 : decode cX8_number 108 = .ok (.ireturn, 1) := by decide +kernel
set_option maxRecDepth 20000 in
theorem ggX8_more_X8_letterAt : GoodIn wsX8_more wsX8_letterAt := goodIn_r _ [6, 7, 8, 17, 18, 19, 20, 21, 22, 23, 24, 25, 26, 27, 28, 29, 30, 31, 32, 33, 34, 35, 36, 37, 38, 39, 40, 41, 42] (by decide +kernel) (by decide +kernel)
set_option maxRecDepth 20000 in
theorem gX8_more_X8_letterAt : GoodIn wsX8_more (wsV RX8 94 RX8 yX8_letterAt wsX8_letterAt) := goodIn_app (goodIn_of _ (by decide +kernel)) ggX8_more_X8_letterAt
set_option maxRecDepth 20000 in
theorem ggX8_more_X8_number : GoodIn wsX8_more wsX8_number := goodIn_r _ [12, 13, 1, 8, 2, 3, 4, 5, 6, 7, 14, 15, 16, 17, 18, 19, 20, 21, 22, 23, 24, 25, 26, 27, 28, 29, 30, 31, 32, 33, 34, 35, 36, 37, 38, 39, 40, 41, 42] (by decide +kernel) (by decide +kernel)
set_option maxRecDepth 20000 in
theorem gX8_more_X8_number : GoodIn wsX8_more (wsV RX8 102 RX8 yX8_number wsX8_number) := goodIn_app (goodIn_of _ (by decide +kernel)) ggX8_more_X8_number
theorem dX8_more_0 : decode cX8_more 0 = .ok (.aload_n 0, 1) := by decide +kernel
theorem dX8_more_1 : decode cX8_more 1 = .ok (.aload_n 0, 1) := by decide +kernel
theorem dX8_more_2 : decode cX8_more 2 = .ok (.getfield 91, 3) := by decide +kernel
theorem dX8_more_5 : decode cX8_more 5 = .ok (.invokevirtual 94, 3) := by decide +kernel
theorem dX8_more_8 : decode cX8_more 8 = .ok (.bipush 44, 2) := by decide +kernel
theorem dX8_more_10 : decode cX8_more 10 = .ok (.if_icmp .ne 22, 3) := by decide +kernel
theorem dX8_more_13 : decode cX8_more 13 = .ok (.aload_n 0, 1) := by decide +kernel
theorem dX8_more_14 : decode cX8_more 14 = .ok (.aload_n 0, 1) := by decide +kernel
theorem dX8_more_15 : decode cX8_more 15 = .ok (.getfield 91, 3) := by decide +kernel
theorem dX8_more_18 : decode cX8_more 18 = .ok (.iconst 1, 1) := by decide +kernel
theorem dX8_more_19 : decode cX8_more 19 = .ok (.iadd, 1) := by decide +kernel
theorem dX8_more_20 : decode cX8_more 20 = .ok (.iload_n 1, 1) := by decide +kernel
theorem dX8_more_21 : decode cX8_more 21 = .ok (.iload_n 2, 1) := by decide +kernel
theorem dX8_more_22 : decode cX8_more 22 = .ok (.invokevirtual 102, 3) := by decide +kernel
theorem dX8_more_25 : decode cX8_more 25 = .ok (.ifCond .eq 7, 3) := by decide +kernel
theorem dX8_more_28 : decode cX8_more 28 = .ok (.iconst 1, 1) := by decide +kernel
theorem dX8_more_29 : decode cX8_more 29 = .ok (.goto 4, 3) := by decide +kernel
theorem dX8_more_32 : decode cX8_more 32 = .ok (.iconst 0, 1) := by decide +kernel
theorem dX8_more_33 : decode cX8_more 33 = .ok (.ireturn, 1) := by decide +kernel
set_option maxRecDepth 20000 in
theorem ggX8_readsJoin_X8_number : GoodIn wsX8_readsJoin wsX8_number := goodIn_r _ [8, 2, 9, 10, 11, 12, 13, 7, 14, 15, 16, 17, 18, 28, 29, 30, 31, 32, 33, 34, 35, 36, 37, 38, 39, 40, 41, 42, 43, 44, 45, 46, 47, 48, 49, 50, 51, 52, 53] (by decide +kernel) (by decide +kernel)
set_option maxRecDepth 20000 in
theorem gX8_readsJoin_X8_number : GoodIn wsX8_readsJoin (wsV RX8 102 RX8 yX8_number wsX8_number) := goodIn_app (goodIn_of _ (by decide +kernel)) ggX8_readsJoin_X8_number
set_option maxRecDepth 20000 in
theorem ggX8_readsJoin_X8_more : GoodIn wsX8_readsJoin wsX8_more := goodIn_r _ [22, 9, 11, 12, 13, 7, 14, 15, 10, 4, 5, 6, 8, 2, 16, 17, 18, 28, 29, 30, 31, 32, 33, 34, 35, 36, 37, 38, 39, 40, 41, 42, 43, 44, 45, 46, 47, 48, 49, 50, 51, 52, 53] (by decide +kernel) (by decide +kernel)
set_option maxRecDepth 20000 in
theorem gX8_readsJoin_X8_more : GoodIn wsX8_readsJoin (wsV RX8 105 RX8 yX8_more wsX8_more) := goodIn_app (goodIn_of _ (by decide +kernel)) ggX8_readsJoin_X8_more
set_option maxRecDepth 20000 in
theorem ggX8_readsJoin_X8_joinOf : GoodIn wsX8_readsJoin wsX8_joinOf := goodIn_r _ [26, 3, 27, 28, 29, 30, 31, 32, 33, 34, 35, 36, 37, 38, 39, 40, 41, 42, 43, 44, 45, 46, 47, 48, 49, 50, 51, 52, 53] (by decide +kernel) (by decide +kernel)
set_option maxRecDepth 20000 in
theorem gX8_readsJoin_X8_joinOf : GoodIn wsX8_readsJoin (wsV RX8 66 RX8 yX8_joinOf wsX8_joinOf) := goodIn_app (goodIn_of _ (by decide +kernel)) ggX8_readsJoin_X8_joinOf
theorem dX8_readsJoin_0 : decode cX8_readsJoin 0 = .ok (.aload_n 0, 1) := by decide +kernel
theorem dX8_readsJoin_1 : decode cX8_readsJoin 1 = .ok (.iload_n 1, 1) := by decide +kernel
theorem dX8_readsJoin_2 : decode cX8_readsJoin 2 = .ok (.iconst 0, 1) := by decide +kernel
theorem dX8_readsJoin_3 : decode cX8_readsJoin 3 = .ok (.aload_n 0, 1) := by decide +kernel
theorem dX8_readsJoin_4 : decode cX8_readsJoin 4 = .ok (.getfield 62, 3) := by decide +kernel
theorem dX8_readsJoin_7 : decode cX8_readsJoin 7 = .ok (.iconst 1, 1) := by decide +kernel
theorem dX8_readsJoin_8 : decode cX8_readsJoin 8 = .ok (.isub, 1) := by decide +kernel
theorem dX8_readsJoin_9 : decode cX8_readsJoin 9 = .ok (.invokevirtual 102, 3) := by decide +kernel
theorem dX8_readsJoin_12 : decode cX8_readsJoin 12 = .ok (.ifCond .ne 5, 3) := by decide +kernel
theorem dX8_readsJoin_15 : decode cX8_readsJoin 15 = .ok (.iconst 0, 1) := by decide +kernel
theorem dX8_readsJoin_16 : decode cX8_readsJoin 16 = .ok (.ireturn, 1) := by decide +kernel
theorem dX8_readsJoin_17 : decode cX8_readsJoin 17 = .ok (.aload_n 0, 1) := by decide +kernel
theorem dX8_readsJoin_18 : decode cX8_readsJoin 18 = .ok (.getfield 88, 3) := by decide +kernel
theorem dX8_readsJoin_21 : decode cX8_readsJoin 21 = .ok (.istore_n 2, 1) := by decide +kernel
theorem dX8_readsJoin_22 : decode cX8_readsJoin 22 = .ok (.aload_n 0, 1) := by decide +kernel
theorem dX8_readsJoin_23 : decode cX8_readsJoin 23 = .ok (.iconst 0, 1) := by decide +kernel
theorem dX8_readsJoin_24 : decode cX8_readsJoin 24 = .ok (.aload_n 0, 1) := by decide +kernel
theorem dX8_readsJoin_25 : decode cX8_readsJoin 25 = .ok (.getfield 62, 3) := by decide +kernel
theorem dX8_readsJoin_28 : decode cX8_readsJoin 28 = .ok (.iconst 1, 1) := by decide +kernel
theorem dX8_readsJoin_29 : decode cX8_readsJoin 29 = .ok (.isub, 1) := by decide +kernel
theorem dX8_readsJoin_30 : decode cX8_readsJoin 30 = .ok (.invokevirtual 105, 3) := by decide +kernel
theorem dX8_readsJoin_33 : decode cX8_readsJoin 33 = .ok (.ifCond .ne 5, 3) := by decide +kernel
theorem dX8_readsJoin_36 : decode cX8_readsJoin 36 = .ok (.iconst 0, 1) := by decide +kernel
theorem dX8_readsJoin_37 : decode cX8_readsJoin 37 = .ok (.ireturn, 1) := by decide +kernel
theorem dX8_readsJoin_38 : decode cX8_readsJoin 38 = .ok (.aload_n 0, 1) := by decide +kernel
theorem dX8_readsJoin_39 : decode cX8_readsJoin 39 = .ok (.getfield 88, 3) := by decide +kernel
theorem dX8_readsJoin_42 : decode cX8_readsJoin 42 = .ok (.istore_n 3, 1) := by decide +kernel
theorem dX8_readsJoin_43 : decode cX8_readsJoin 43 = .ok (.iload_n 2, 1) := by decide +kernel
theorem dX8_readsJoin_44 : decode cX8_readsJoin 44 = .ok (.iload_n 3, 1) := by decide +kernel
theorem dX8_readsJoin_45 : decode cX8_readsJoin 45 = .ok (.if_icmp .eq 26, 3) := by decide +kernel
theorem dX8_readsJoin_48 : decode cX8_readsJoin 48 = .ok (.aload_n 0, 1) := by decide +kernel
theorem dX8_readsJoin_49 : decode cX8_readsJoin 49 = .ok (.getfield 25, 3) := by decide +kernel
theorem dX8_readsJoin_52 : decode cX8_readsJoin 52 = .ok (.bipush 6, 2) := by decide +kernel
theorem dX8_readsJoin_54 : decode cX8_readsJoin 54 = .ok (.iload_n 2, 1) := by decide +kernel
theorem dX8_readsJoin_55 : decode cX8_readsJoin 55 = .ok (.imul, 1) := by decide +kernel
theorem dX8_readsJoin_56 : decode cX8_readsJoin 56 = .ok (.iload_n 3, 1) := by decide +kernel
theorem dX8_readsJoin_57 : decode cX8_readsJoin 57 = .ok (.iadd, 1) := by decide +kernel
theorem dX8_readsJoin_58 : decode cX8_readsJoin 58 = .ok (.iaload, 1) := by decide +kernel
theorem dX8_readsJoin_59 : decode cX8_readsJoin 59 = .ok (.ifCond .gt 12, 3) := by decide +kernel
theorem dX8_readsJoin_62 : decode cX8_readsJoin 62 = .ok (.aload_n 0, 1) := by decide +kernel
theorem dX8_readsJoin_63 : decode cX8_readsJoin 63 = .ok (.iconst 1, 1) := by decide +kernel
theorem dX8_readsJoin_64 : decode cX8_readsJoin 64 = .ok (.iconst 4, 1) := by decide +kernel
theorem dX8_readsJoin_65 : decode cX8_readsJoin 65 = .ok (.invokevirtual 105, 3) := by decide +kernel
theorem dX8_readsJoin_68 : decode cX8_readsJoin 68 = .ok (.ifCond .ne 5, 3) := by decide +kernel
theorem dX8_readsJoin_71 : decode cX8_readsJoin 71 = .ok (.iconst 0, 1) := by decide +kernel
theorem dX8_readsJoin_72 : decode cX8_readsJoin 72 = .ok (.ireturn, 1) := by decide +kernel
theorem dX8_readsJoin_73 : decode cX8_readsJoin 73 = .ok (.aload_n 0, 1) := by decide +kernel
theorem dX8_readsJoin_74 : decode cX8_readsJoin 74 = .ok (.getfield 88, 3) := by decide +kernel
theorem dX8_readsJoin_77 : decode cX8_readsJoin 77 = .ok (.istore 4, 2) := by decide +kernel
theorem dX8_readsJoin_79 : decode cX8_readsJoin 79 = .ok (.aload_n 0, 1) := by decide +kernel
theorem dX8_readsJoin_80 : decode cX8_readsJoin 80 = .ok (.iconst 1, 1) := by decide +kernel
theorem dX8_readsJoin_81 : decode cX8_readsJoin 81 = .ok (.iconst 4, 1) := by decide +kernel
theorem dX8_readsJoin_82 : decode cX8_readsJoin 82 = .ok (.invokevirtual 105, 3) := by decide +kernel
theorem dX8_readsJoin_85 : decode cX8_readsJoin 85 = .ok (.ifCond .ne 5, 3) := by decide +kernel
theorem dX8_readsJoin_88 : decode cX8_readsJoin 88 = .ok (.iconst 0, 1) := by decide +kernel
theorem dX8_readsJoin_89 : decode cX8_readsJoin 89 = .ok (.ireturn, 1) := by decide +kernel
theorem dX8_readsJoin_90 : decode cX8_readsJoin 90 = .ok (.aload_n 0, 1) := by decide +kernel
theorem dX8_readsJoin_91 : decode cX8_readsJoin 91 = .ok (.iload_n 2, 1) := by decide +kernel
theorem dX8_readsJoin_92 : decode cX8_readsJoin 92 = .ok (.iload_n 3, 1) := by decide +kernel
theorem dX8_readsJoin_93 : decode cX8_readsJoin 93 = .ok (.iload 4, 2) := by decide +kernel
theorem dX8_readsJoin_95 : decode cX8_readsJoin 95 = .ok (.aload_n 0, 1) := by decide +kernel
theorem dX8_readsJoin_96 : decode cX8_readsJoin 96 = .ok (.getfield 88, 3) := by decide +kernel
theorem dX8_readsJoin_99 : decode cX8_readsJoin 99 = .ok (.invokevirtual 66, 3) := by decide +kernel
theorem dX8_readsJoin_102 : decode cX8_readsJoin 102 = .ok (.iconst 1, 1) := by decide +kernel
theorem dX8_readsJoin_103 : decode cX8_readsJoin 103 = .ok (.ireturn, 1) := by decide +kernel
set_option maxRecDepth 20000 in
theorem ggX8_readsCell_X8_number : GoodIn wsX8_readsCell wsX8_number := goodIn_r _ [8, 2, 9, 10, 11, 12, 13, 7, 14, 15, 16, 17, 18, 23, 24, 25, 26, 27, 28, 29, 30, 31, 32, 33, 34, 35, 36, 37, 38, 39, 40, 41, 42, 43, 44, 45, 46, 47, 48] (by decide +kernel) (by decide +kernel)
set_option maxRecDepth 20000 in
theorem gX8_readsCell_X8_number : GoodIn wsX8_readsCell (wsV RX8 102 RX8 yX8_number wsX8_number) := goodIn_app (goodIn_of _ (by decide +kernel)) ggX8_readsCell_X8_number
set_option maxRecDepth 20000 in
theorem ggX8_readsCell_X8_more : GoodIn wsX8_readsCell wsX8_more := goodIn_r _ [22, 9, 11, 12, 13, 7, 14, 15, 10, 4, 5, 6, 8, 2, 16, 17, 18, 23, 24, 25, 26, 27, 28, 29, 30, 31, 32, 33, 34, 35, 36, 37, 38, 39, 40, 41, 42, 43, 44, 45, 46, 47, 48] (by decide +kernel) (by decide +kernel)
set_option maxRecDepth 20000 in
theorem gX8_readsCell_X8_more : GoodIn wsX8_readsCell (wsV RX8 105 RX8 yX8_more wsX8_more) := goodIn_app (goodIn_of _ (by decide +kernel)) ggX8_readsCell_X8_more
theorem dX8_readsCell_0 : decode cX8_readsCell 0 = .ok (.aload_n 0, 1) := by decide +kernel
theorem dX8_readsCell_1 : decode cX8_readsCell 1 = .ok (.iload_n 1, 1) := by decide +kernel
theorem dX8_readsCell_2 : decode cX8_readsCell 2 = .ok (.iconst 0, 1) := by decide +kernel
theorem dX8_readsCell_3 : decode cX8_readsCell 3 = .ok (.aload_n 0, 1) := by decide +kernel
theorem dX8_readsCell_4 : decode cX8_readsCell 4 = .ok (.getfield 62, 3) := by decide +kernel
theorem dX8_readsCell_7 : decode cX8_readsCell 7 = .ok (.iconst 1, 1) := by decide +kernel
theorem dX8_readsCell_8 : decode cX8_readsCell 8 = .ok (.isub, 1) := by decide +kernel
theorem dX8_readsCell_9 : decode cX8_readsCell 9 = .ok (.invokevirtual 102, 3) := by decide +kernel
theorem dX8_readsCell_12 : decode cX8_readsCell 12 = .ok (.ifCond .ne 5, 3) := by decide +kernel
theorem dX8_readsCell_15 : decode cX8_readsCell 15 = .ok (.iconst 0, 1) := by decide +kernel
theorem dX8_readsCell_16 : decode cX8_readsCell 16 = .ok (.ireturn, 1) := by decide +kernel
theorem dX8_readsCell_17 : decode cX8_readsCell 17 = .ok (.aload_n 0, 1) := by decide +kernel
theorem dX8_readsCell_18 : decode cX8_readsCell 18 = .ok (.getfield 88, 3) := by decide +kernel
theorem dX8_readsCell_21 : decode cX8_readsCell 21 = .ok (.istore_n 3, 1) := by decide +kernel
theorem dX8_readsCell_22 : decode cX8_readsCell 22 = .ok (.aload_n 0, 1) := by decide +kernel
theorem dX8_readsCell_23 : decode cX8_readsCell 23 = .ok (.iconst 0, 1) := by decide +kernel
theorem dX8_readsCell_24 : decode cX8_readsCell 24 = .ok (.iload_n 2, 1) := by decide +kernel
theorem dX8_readsCell_25 : decode cX8_readsCell 25 = .ok (.ifCond .ne 8, 3) := by decide +kernel
theorem dX8_readsCell_28 : decode cX8_readsCell 28 = .ok (.bipush 9, 2) := by decide +kernel
theorem dX8_readsCell_30 : decode cX8_readsCell 30 = .ok (.goto 4, 3) := by decide +kernel
theorem dX8_readsCell_33 : decode cX8_readsCell 33 = .ok (.iconst 5, 1) := by decide +kernel
theorem dX8_readsCell_34 : decode cX8_readsCell 34 = .ok (.invokevirtual 105, 3) := by decide +kernel
theorem dX8_readsCell_37 : decode cX8_readsCell 37 = .ok (.istore 4, 2) := by decide +kernel
theorem dX8_readsCell_39 : decode cX8_readsCell 39 = .ok (.aload_n 0, 1) := by decide +kernel
theorem dX8_readsCell_40 : decode cX8_readsCell 40 = .ok (.getfield 31, 3) := by decide +kernel
theorem dX8_readsCell_43 : decode cX8_readsCell 43 = .ok (.bipush 6, 2) := by decide +kernel
theorem dX8_readsCell_45 : decode cX8_readsCell 45 = .ok (.iload_n 2, 1) := by decide +kernel
theorem dX8_readsCell_46 : decode cX8_readsCell 46 = .ok (.imul, 1) := by decide +kernel
theorem dX8_readsCell_47 : decode cX8_readsCell 47 = .ok (.iload_n 3, 1) := by decide +kernel
theorem dX8_readsCell_48 : decode cX8_readsCell 48 = .ok (.iadd, 1) := by decide +kernel
theorem dX8_readsCell_49 : decode cX8_readsCell 49 = .ok (.aload_n 0, 1) := by decide +kernel
theorem dX8_readsCell_50 : decode cX8_readsCell 50 = .ok (.getfield 88, 3) := by decide +kernel
theorem dX8_readsCell_53 : decode cX8_readsCell 53 = .ok (.iastore, 1) := by decide +kernel
theorem dX8_readsCell_54 : decode cX8_readsCell 54 = .ok (.iload 4, 2) := by decide +kernel
theorem dX8_readsCell_56 : decode cX8_readsCell 56 = .ok (.ireturn, 1) := by decide +kernel
set_option maxRecDepth 20000 in
theorem ggX8_isLaw_X8_isIn : GoodIn wsX8_isLaw wsX8_isIn := goodIn_r _ [4] (by decide +kernel) (by decide +kernel)
set_option maxRecDepth 20000 in
theorem gX8_isLaw_X8_isIn : GoodIn wsX8_isLaw (va_wsS RX8 98 yX8_isIn wsX8_isIn) := goodIn_app (goodIn_of _ (by decide +kernel)) ggX8_isLaw_X8_isIn
theorem dX8_isLaw_0 : decode cX8_isLaw 0 = .ok (.iload_n 0, 1) := by decide +kernel
theorem dX8_isLaw_1 : decode cX8_isLaw 1 = .ok (.ifCond .ne 15, 3) := by decide +kernel
theorem dX8_isLaw_4 : decode cX8_isLaw 4 = .ok (.iload_n 1, 1) := by decide +kernel
theorem dX8_isLaw_5 : decode cX8_isLaw 5 = .ok (.ifCond .ne 7, 3) := by decide +kernel
theorem dX8_isLaw_8 : decode cX8_isLaw 8 = .ok (.iconst 1, 1) := by decide +kernel
theorem dX8_isLaw_9 : decode cX8_isLaw 9 = .ok (.goto 31, 3) := by decide +kernel
theorem dX8_isLaw_12 : decode cX8_isLaw 12 = .ok (.iconst 0, 1) := by decide +kernel
theorem dX8_isLaw_13 : decode cX8_isLaw 13 = .ok (.goto 27, 3) := by decide +kernel
theorem dX8_isLaw_16 : decode cX8_isLaw 16 = .ok (.iload_n 0, 1) := by decide +kernel
theorem dX8_isLaw_17 : decode cX8_isLaw 17 = .ok (.iconst 1, 1) := by decide +kernel
theorem dX8_isLaw_18 : decode cX8_isLaw 18 = .ok (.iconst 3, 1) := by decide +kernel
theorem dX8_isLaw_19 : decode cX8_isLaw 19 = .ok (.invokestatic 98, 3) := by decide +kernel
theorem dX8_isLaw_22 : decode cX8_isLaw 22 = .ok (.ifCond .eq 17, 3) := by decide +kernel
theorem dX8_isLaw_25 : decode cX8_isLaw 25 = .ok (.iload_n 1, 1) := by decide +kernel
theorem dX8_isLaw_26 : decode cX8_isLaw 26 = .ok (.iconst 1, 1) := by decide +kernel
theorem dX8_isLaw_27 : decode cX8_isLaw 27 = .ok (.bipush 9, 2) := by decide +kernel
theorem dX8_isLaw_29 : decode cX8_isLaw 29 = .ok (.invokestatic 98, 3) := by decide +kernel
theorem dX8_isLaw_32 : decode cX8_isLaw 32 = .ok (.ifCond .eq 7, 3) := by decide +kernel
theorem dX8_isLaw_35 : decode cX8_isLaw 35 = .ok (.iconst 1, 1) := by decide +kernel
theorem dX8_isLaw_36 : decode cX8_isLaw 36 = .ok (.goto 4, 3) := by decide +kernel
theorem dX8_isLaw_39 : decode cX8_isLaw 39 = .ok (.iconst 0, 1) := by decide +kernel
theorem dX8_isLaw_40 : decode cX8_isLaw 40 = .ok (.ireturn, 1) := by decide +kernel
set_option maxRecDepth 20000 in
theorem ggX8_readsLaw_X8_number : GoodIn wsX8_readsLaw wsX8_number := goodIn_r _ [7, 1, 8, 9, 10, 11, 12, 6, 13, 14, 15, 16, 17, 25, 26, 27, 28, 29, 30, 31, 32, 33, 34, 35, 36, 37, 38, 39, 40, 41, 42, 43, 44, 45, 46, 47, 48, 49, 50] (by decide +kernel) (by decide +kernel)
set_option maxRecDepth 20000 in
theorem gX8_readsLaw_X8_number : GoodIn wsX8_readsLaw (wsV RX8 102 RX8 yX8_number wsX8_number) := goodIn_app (goodIn_of _ (by decide +kernel)) ggX8_readsLaw_X8_number
set_option maxRecDepth 20000 in
theorem ggX8_readsLaw_X8_more : GoodIn wsX8_readsLaw wsX8_more := goodIn_r _ [21, 8, 10, 11, 12, 6, 13, 14, 9, 3, 4, 5, 7, 1, 15, 16, 17, 25, 26, 27, 28, 29, 30, 31, 32, 33, 34, 35, 36, 37, 38, 39, 40, 41, 42, 43, 44, 45, 46, 47, 48, 49, 50] (by decide +kernel) (by decide +kernel)
set_option maxRecDepth 20000 in
theorem gX8_readsLaw_X8_more : GoodIn wsX8_readsLaw (wsV RX8 105 RX8 yX8_more wsX8_more) := goodIn_app (goodIn_of _ (by decide +kernel)) ggX8_readsLaw_X8_more
set_option maxRecDepth 20000 in
theorem ggX8_readsLaw_X8_isLaw : GoodIn wsX8_readsLaw wsX8_isLaw := goodIn_r _ [24, 15, 16, 6, 17] (by decide +kernel) (by decide +kernel)
set_option maxRecDepth 20000 in
theorem gX8_readsLaw_X8_isLaw : GoodIn wsX8_readsLaw (va_wsS RX8 109 yX8_isLaw wsX8_isLaw) := goodIn_app (goodIn_of _ (by decide +kernel)) ggX8_readsLaw_X8_isLaw
theorem dX8_readsLaw_0 : decode cX8_readsLaw 0 = .ok (.aload_n 0, 1) := by decide +kernel
theorem dX8_readsLaw_1 : decode cX8_readsLaw 1 = .ok (.iload_n 1, 1) := by decide +kernel
theorem dX8_readsLaw_2 : decode cX8_readsLaw 2 = .ok (.iconst 0, 1) := by decide +kernel
theorem dX8_readsLaw_3 : decode cX8_readsLaw 3 = .ok (.iconst 3, 1) := by decide +kernel
theorem dX8_readsLaw_4 : decode cX8_readsLaw 4 = .ok (.invokevirtual 102, 3) := by decide +kernel
theorem dX8_readsLaw_7 : decode cX8_readsLaw 7 = .ok (.ifCond .ne 5, 3) := by decide +kernel
theorem dX8_readsLaw_10 : decode cX8_readsLaw 10 = .ok (.iconst 0, 1) := by decide +kernel
theorem dX8_readsLaw_11 : decode cX8_readsLaw 11 = .ok (.ireturn, 1) := by decide +kernel
theorem dX8_readsLaw_12 : decode cX8_readsLaw 12 = .ok (.aload_n 0, 1) := by decide +kernel
theorem dX8_readsLaw_13 : decode cX8_readsLaw 13 = .ok (.getfield 88, 3) := by decide +kernel
theorem dX8_readsLaw_16 : decode cX8_readsLaw 16 = .ok (.istore_n 2, 1) := by decide +kernel
theorem dX8_readsLaw_17 : decode cX8_readsLaw 17 = .ok (.aload_n 0, 1) := by decide +kernel
theorem dX8_readsLaw_18 : decode cX8_readsLaw 18 = .ok (.iconst 0, 1) := by decide +kernel
theorem dX8_readsLaw_19 : decode cX8_readsLaw 19 = .ok (.bipush 9, 2) := by decide +kernel
theorem dX8_readsLaw_21 : decode cX8_readsLaw 21 = .ok (.invokevirtual 105, 3) := by decide +kernel
theorem dX8_readsLaw_24 : decode cX8_readsLaw 24 = .ok (.ifCond .eq 18, 3) := by decide +kernel
theorem dX8_readsLaw_27 : decode cX8_readsLaw 27 = .ok (.iload_n 2, 1) := by decide +kernel
theorem dX8_readsLaw_28 : decode cX8_readsLaw 28 = .ok (.aload_n 0, 1) := by decide +kernel
theorem dX8_readsLaw_29 : decode cX8_readsLaw 29 = .ok (.getfield 88, 3) := by decide +kernel
theorem dX8_readsLaw_32 : decode cX8_readsLaw 32 = .ok (.invokestatic 109, 3) := by decide +kernel
theorem dX8_readsLaw_35 : decode cX8_readsLaw 35 = .ok (.ifCond .eq 7, 3) := by decide +kernel
theorem dX8_readsLaw_38 : decode cX8_readsLaw 38 = .ok (.iconst 1, 1) := by decide +kernel
theorem dX8_readsLaw_39 : decode cX8_readsLaw 39 = .ok (.goto 4, 3) := by decide +kernel
theorem dX8_readsLaw_42 : decode cX8_readsLaw 42 = .ok (.iconst 0, 1) := by decide +kernel
theorem dX8_readsLaw_43 : decode cX8_readsLaw 43 = .ok (.istore_n 3, 1) := by decide +kernel
theorem dX8_readsLaw_44 : decode cX8_readsLaw 44 = .ok (.aload_n 0, 1) := by decide +kernel
theorem dX8_readsLaw_45 : decode cX8_readsLaw 45 = .ok (.getfield 31, 3) := by decide +kernel
theorem dX8_readsLaw_48 : decode cX8_readsLaw 48 = .ok (.bipush 12, 2) := by decide +kernel
theorem dX8_readsLaw_50 : decode cX8_readsLaw 50 = .ok (.iload_n 2, 1) := by decide +kernel
theorem dX8_readsLaw_51 : decode cX8_readsLaw 51 = .ok (.iastore, 1) := by decide +kernel
theorem dX8_readsLaw_52 : decode cX8_readsLaw 52 = .ok (.aload_n 0, 1) := by decide +kernel
theorem dX8_readsLaw_53 : decode cX8_readsLaw 53 = .ok (.getfield 31, 3) := by decide +kernel
theorem dX8_readsLaw_56 : decode cX8_readsLaw 56 = .ok (.bipush 13, 2) := by decide +kernel
theorem dX8_readsLaw_58 : decode cX8_readsLaw 58 = .ok (.aload_n 0, 1) := by decide +kernel
theorem dX8_readsLaw_59 : decode cX8_readsLaw 59 = .ok (.getfield 88, 3) := by decide +kernel
theorem dX8_readsLaw_62 : decode cX8_readsLaw 62 = .ok (.iastore, 1) := by decide +kernel
theorem dX8_readsLaw_63 : decode cX8_readsLaw 63 = .ok (.iload_n 3, 1) := by decide +kernel
theorem dX8_readsLaw_64 : decode cX8_readsLaw 64 = .ok (.ireturn, 1) := by decide +kernel
set_option maxRecDepth 20000 in
theorem ggX8_readsPrice_X8_number : GoodIn wsX8_readsPrice wsX8_number := goodIn_r _ [7, 2, 8, 9, 10, 11, 12, 6, 13, 14, 15, 16, 17, 22, 23, 24, 25, 26, 27, 28, 29, 30, 31, 32, 33, 34, 35, 36, 37, 38, 39, 40, 41, 42, 43, 44, 45, 46, 47] (by decide +kernel) (by decide +kernel)
set_option maxRecDepth 20000 in
theorem gX8_readsPrice_X8_number : GoodIn wsX8_readsPrice (wsV RX8 102 RX8 yX8_number wsX8_number) := goodIn_app (goodIn_of _ (by decide +kernel)) ggX8_readsPrice_X8_number
set_option maxRecDepth 20000 in
theorem ggX8_readsPrice_X8_more : GoodIn wsX8_readsPrice wsX8_more := goodIn_r _ [21, 8, 10, 11, 12, 6, 13, 14, 9, 3, 4, 5, 7, 2, 15, 16, 17, 22, 23, 24, 25, 26, 27, 28, 29, 30, 31, 32, 33, 34, 35, 36, 37, 38, 39, 40, 41, 42, 43, 44, 45, 46, 47] (by decide +kernel) (by decide +kernel)
set_option maxRecDepth 20000 in
theorem gX8_readsPrice_X8_more : GoodIn wsX8_readsPrice (wsV RX8 105 RX8 yX8_more wsX8_more) := goodIn_app (goodIn_of _ (by decide +kernel)) ggX8_readsPrice_X8_more
theorem dX8_readsPrice_0 : decode cX8_readsPrice 0 = .ok (.iconst 0, 1) := by decide +kernel
theorem dX8_readsPrice_1 : decode cX8_readsPrice 1 = .ok (.istore_n 2, 1) := by decide +kernel
theorem dX8_readsPrice_2 : decode cX8_readsPrice 2 = .ok (.iload_n 2, 1) := by decide +kernel
theorem dX8_readsPrice_3 : decode cX8_readsPrice 3 = .ok (.iconst 4, 1) := by decide +kernel
theorem dX8_readsPrice_4 : decode cX8_readsPrice 4 = .ok (.if_icmp .ge 71, 3) := by decide +kernel
theorem dX8_readsPrice_7 : decode cX8_readsPrice 7 = .ok (.iload_n 2, 1) := by decide +kernel
theorem dX8_readsPrice_8 : decode cX8_readsPrice 8 = .ok (.ifCond .ne 7, 3) := by decide +kernel
theorem dX8_readsPrice_11 : decode cX8_readsPrice 11 = .ok (.iconst 1, 1) := by decide +kernel
theorem dX8_readsPrice_12 : decode cX8_readsPrice 12 = .ok (.goto 4, 3) := by decide +kernel
theorem dX8_readsPrice_15 : decode cX8_readsPrice 15 = .ok (.iconst 0, 1) := by decide +kernel
theorem dX8_readsPrice_16 : decode cX8_readsPrice 16 = .ok (.istore_n 3, 1) := by decide +kernel
theorem dX8_readsPrice_17 : decode cX8_readsPrice 17 = .ok (.iload_n 2, 1) := by decide +kernel
theorem dX8_readsPrice_18 : decode cX8_readsPrice 18 = .ok (.ifCond .ne 7, 3) := by decide +kernel
theorem dX8_readsPrice_21 : decode cX8_readsPrice 21 = .ok (.iconst 4, 1) := by decide +kernel
theorem dX8_readsPrice_22 : decode cX8_readsPrice 22 = .ok (.goto 5, 3) := by decide +kernel
theorem dX8_readsPrice_25 : decode cX8_readsPrice 25 = .ok (.bipush 99, 2) := by decide +kernel
theorem dX8_readsPrice_27 : decode cX8_readsPrice 27 = .ok (.istore 4, 2) := by decide +kernel
theorem dX8_readsPrice_29 : decode cX8_readsPrice 29 = .ok (.iload_n 2, 1) := by decide +kernel
theorem dX8_readsPrice_30 : decode cX8_readsPrice 30 = .ok (.ifCond .ne 17, 3) := by decide +kernel
theorem dX8_readsPrice_33 : decode cX8_readsPrice 33 = .ok (.aload_n 0, 1) := by decide +kernel
theorem dX8_readsPrice_34 : decode cX8_readsPrice 34 = .ok (.iload_n 1, 1) := by decide +kernel
theorem dX8_readsPrice_35 : decode cX8_readsPrice 35 = .ok (.iload_n 3, 1) := by decide +kernel
theorem dX8_readsPrice_36 : decode cX8_readsPrice 36 = .ok (.iload 4, 2) := by decide +kernel
theorem dX8_readsPrice_38 : decode cX8_readsPrice 38 = .ok (.invokevirtual 102, 3) := by decide +kernel
theorem dX8_readsPrice_41 : decode cX8_readsPrice 41 = .ok (.ifCond .eq 16, 3) := by decide +kernel
theorem dX8_readsPrice_44 : decode cX8_readsPrice 44 = .ok (.goto 15, 3) := by decide +kernel
theorem dX8_readsPrice_47 : decode cX8_readsPrice 47 = .ok (.aload_n 0, 1) := by decide +kernel
theorem dX8_readsPrice_48 : decode cX8_readsPrice 48 = .ok (.iload_n 3, 1) := by decide +kernel
theorem dX8_readsPrice_49 : decode cX8_readsPrice 49 = .ok (.iload 4, 2) := by decide +kernel
theorem dX8_readsPrice_51 : decode cX8_readsPrice 51 = .ok (.invokevirtual 105, 3) := by decide +kernel
theorem dX8_readsPrice_54 : decode cX8_readsPrice 54 = .ok (.ifCond .ne 5, 3) := by decide +kernel
theorem dX8_readsPrice_57 : decode cX8_readsPrice 57 = .ok (.iconst 0, 1) := by decide +kernel
theorem dX8_readsPrice_58 : decode cX8_readsPrice 58 = .ok (.ireturn, 1) := by decide +kernel
theorem dX8_readsPrice_59 : decode cX8_readsPrice 59 = .ok (.aload_n 0, 1) := by decide +kernel
theorem dX8_readsPrice_60 : decode cX8_readsPrice 60 = .ok (.getfield 28, 3) := by decide +kernel
theorem dX8_readsPrice_63 : decode cX8_readsPrice 63 = .ok (.iload_n 2, 1) := by decide +kernel
theorem dX8_readsPrice_64 : decode cX8_readsPrice 64 = .ok (.aload_n 0, 1) := by decide +kernel
theorem dX8_readsPrice_65 : decode cX8_readsPrice 65 = .ok (.getfield 88, 3) := by decide +kernel
theorem dX8_readsPrice_68 : decode cX8_readsPrice 68 = .ok (.iastore, 1) := by decide +kernel
theorem dX8_readsPrice_69 : decode cX8_readsPrice 69 = .ok (.iinc 2 1, 3) := by decide +kernel
theorem dX8_readsPrice_72 : decode cX8_readsPrice 72 = .ok (.goto (-70), 3) := by decide +kernel
theorem dX8_readsPrice_75 : decode cX8_readsPrice 75 = .ok (.iconst 1, 1) := by decide +kernel
theorem dX8_readsPrice_76 : decode cX8_readsPrice 76 = .ok (.ireturn, 1) := by decide +kernel
set_option maxRecDepth 20000 in
theorem ggX8_readsItem_X8_number : GoodIn wsX8_readsItem wsX8_number := goodIn_r _ [7, 1, 8, 9, 10, 11, 12, 6, 13, 14, 15, 16, 17, 49, 50, 51, 52, 53, 54, 55, 56, 57, 58, 59, 60, 61, 62, 63, 64, 65, 66, 67, 68, 69, 70, 71, 72, 73, 74] (by decide +kernel) (by decide +kernel)
set_option maxRecDepth 20000 in
theorem gX8_readsItem_X8_number : GoodIn wsX8_readsItem (wsV RX8 102 RX8 yX8_number wsX8_number) := goodIn_app (goodIn_of _ (by decide +kernel)) ggX8_readsItem_X8_number
set_option maxRecDepth 20000 in
theorem ggX8_readsItem_X8_readsJoin : GoodIn wsX8_readsItem wsX8_readsJoin := goodIn_r _ [21, 2, 1, 22, 3, 4, 5, 6, 7, 8, 9, 10, 11, 12, 13, 14, 15, 16, 17, 23, 24, 25, 26, 27, 28, 29, 30, 31, 49, 50, 51, 52, 53, 54, 55, 56, 57, 58, 59, 60, 61, 62, 63, 64, 65, 66, 67, 68, 69, 70, 71, 72, 73, 74] (by decide +kernel) (by decide +kernel)
set_option maxRecDepth 20000 in
theorem gX8_readsItem_X8_readsJoin : GoodIn wsX8_readsItem (wsV RX8 112 RX8 yX8_readsJoin wsX8_readsJoin) := goodIn_app (goodIn_of _ (by decide +kernel)) ggX8_readsItem_X8_readsJoin
set_option maxRecDepth 20000 in
theorem ggX8_readsItem_X8_readsCell : GoodIn wsX8_readsItem wsX8_readsCell := goodIn_r _ [35, 2, 1, 36, 3, 4, 5, 6, 7, 8, 9, 10, 11, 12, 13, 14, 15, 16, 17, 23, 24, 25, 26, 49, 50, 51, 52, 53, 54, 55, 56, 57, 58, 59, 60, 61, 62, 63, 64, 65, 66, 67, 68, 69, 70, 71, 72, 73, 74] (by decide +kernel) (by decide +kernel)
set_option maxRecDepth 20000 in
theorem gX8_readsItem_X8_readsCell : GoodIn wsX8_readsItem (wsV RX8 116 RX8 yX8_readsCell wsX8_readsCell) := goodIn_app (goodIn_of _ (by decide +kernel)) ggX8_readsItem_X8_readsCell
set_option maxRecDepth 20000 in
theorem ggX8_readsItem_X8_readsLaw : GoodIn wsX8_readsItem wsX8_readsLaw := goodIn_r _ [40, 1, 36, 3, 4, 5, 6, 7, 8, 9, 10, 11, 12, 13, 14, 15, 16, 17, 23, 24, 25, 26, 41, 42, 43, 49, 50, 51, 52, 53, 54, 55, 56, 57, 58, 59, 60, 61, 62, 63, 64, 65, 66, 67, 68, 69, 70, 71, 72, 73, 74] (by decide +kernel) (by decide +kernel)
set_option maxRecDepth 20000 in
theorem gX8_readsItem_X8_readsLaw : GoodIn wsX8_readsItem (wsV RX8 119 RX8 yX8_readsLaw wsX8_readsLaw) := goodIn_app (goodIn_of _ (by decide +kernel)) ggX8_readsItem_X8_readsLaw
set_option maxRecDepth 20000 in
theorem ggX8_readsItem_X8_readsPrice : GoodIn wsX8_readsItem wsX8_readsPrice := goodIn_r _ [47, 48, 1, 3, 4, 5, 6, 7, 8, 9, 10, 11, 12, 13, 14, 15, 16, 17, 23, 24, 25, 26, 49, 50, 51, 52, 53, 54, 55, 56, 57, 58, 59, 60, 61, 62, 63, 64, 65, 66, 67, 68, 69, 70, 71, 72, 73, 74] (by decide +kernel) (by decide +kernel)
set_option maxRecDepth 20000 in
theorem gX8_readsItem_X8_readsPrice : GoodIn wsX8_readsItem (wsV RX8 122 RX8 yX8_readsPrice wsX8_readsPrice) := goodIn_app (goodIn_of _ (by decide +kernel)) ggX8_readsItem_X8_readsPrice
theorem dX8_readsItem_0 : decode cX8_readsItem 0 = .ok (.iload_n 1, 1) := by decide +kernel
theorem dX8_readsItem_1 : decode cX8_readsItem 1 = .ok (.bipush 110, 2) := by decide +kernel
theorem dX8_readsItem_3 : decode cX8_readsItem 3 = .ok (.if_icmp .ne 46, 3) := by decide +kernel
theorem dX8_readsItem_6 : decode cX8_readsItem 6 = .ok (.iload_n 2, 1) := by decide +kernel
theorem dX8_readsItem_7 : decode cX8_readsItem 7 = .ok (.iconst 1, 1) := by decide +kernel
theorem dX8_readsItem_8 : decode cX8_readsItem 8 = .ok (.if_icmp .ne 18, 3) := by decide +kernel
theorem dX8_readsItem_11 : decode cX8_readsItem 11 = .ok (.aload_n 0, 1) := by decide +kernel
theorem dX8_readsItem_12 : decode cX8_readsItem 12 = .ok (.iload_n 2, 1) := by decide +kernel
theorem dX8_readsItem_13 : decode cX8_readsItem 13 = .ok (.iconst 2, 1) := by decide +kernel
theorem dX8_readsItem_14 : decode cX8_readsItem 14 = .ok (.bipush 6, 2) := by decide +kernel
theorem dX8_readsItem_16 : decode cX8_readsItem 16 = .ok (.invokevirtual 102, 3) := by decide +kernel
theorem dX8_readsItem_19 : decode cX8_readsItem 19 = .ok (.ifCond .eq 7, 3) := by decide +kernel
theorem dX8_readsItem_22 : decode cX8_readsItem 22 = .ok (.iconst 1, 1) := by decide +kernel
theorem dX8_readsItem_23 : decode cX8_readsItem 23 = .ok (.goto 4, 3) := by decide +kernel
theorem dX8_readsItem_26 : decode cX8_readsItem 26 = .ok (.iconst 0, 1) := by decide +kernel
theorem dX8_readsItem_27 : decode cX8_readsItem 27 = .ok (.istore_n 3, 1) := by decide +kernel
theorem dX8_readsItem_28 : decode cX8_readsItem 28 = .ok (.aload_n 0, 1) := by decide +kernel
theorem dX8_readsItem_29 : decode cX8_readsItem 29 = .ok (.iload_n 3, 1) := by decide +kernel
theorem dX8_readsItem_30 : decode cX8_readsItem 30 = .ok (.ifCond .eq 10, 3) := by decide +kernel
theorem dX8_readsItem_33 : decode cX8_readsItem 33 = .ok (.aload_n 0, 1) := by decide +kernel
theorem dX8_readsItem_34 : decode cX8_readsItem 34 = .ok (.getfield 88, 3) := by decide +kernel
theorem dX8_readsItem_37 : decode cX8_readsItem 37 = .ok (.goto 7, 3) := by decide +kernel
theorem dX8_readsItem_40 : decode cX8_readsItem 40 = .ok (.aload_n 0, 1) := by decide +kernel
theorem dX8_readsItem_41 : decode cX8_readsItem 41 = .ok (.getfield 62, 3) := by decide +kernel
theorem dX8_readsItem_44 : decode cX8_readsItem 44 = .ok (.putfield 62, 3) := by decide +kernel
theorem dX8_readsItem_47 : decode cX8_readsItem 47 = .ok (.iload_n 3, 1) := by decide +kernel
theorem dX8_readsItem_48 : decode cX8_readsItem 48 = .ok (.ireturn, 1) := by decide +kernel
theorem dX8_readsItem_49 : decode cX8_readsItem 49 = .ok (.aload_n 0, 1) := by decide +kernel
theorem dX8_readsItem_50 : decode cX8_readsItem 50 = .ok (.getfield 62, 3) := by decide +kernel
theorem dX8_readsItem_53 : decode cX8_readsItem 53 = .ok (.ifCond .ne 5, 3) := by decide +kernel
theorem dX8_readsItem_56 : decode cX8_readsItem 56 = .ok (.iconst 0, 1) := by decide +kernel
theorem dX8_readsItem_57 : decode cX8_readsItem 57 = .ok (.ireturn, 1) := by decide +kernel
theorem dX8_readsItem_58 : decode cX8_readsItem 58 = .ok (.iload_n 1, 1) := by decide +kernel
theorem dX8_readsItem_59 : decode cX8_readsItem 59 = .ok (.lookupswitch 81 #[(97, 62), (106, 49), (108, 69), (112, 75), (115, 55)], 49) := by decide +kernel
theorem dX8_readsItem_108 : decode cX8_readsItem 108 = .ok (.aload_n 0, 1) := by decide +kernel
theorem dX8_readsItem_109 : decode cX8_readsItem 109 = .ok (.iload_n 2, 1) := by decide +kernel
theorem dX8_readsItem_110 : decode cX8_readsItem 110 = .ok (.invokevirtual 112, 3) := by decide +kernel
theorem dX8_readsItem_113 : decode cX8_readsItem 113 = .ok (.ireturn, 1) := by decide +kernel
theorem dX8_readsItem_114 : decode cX8_readsItem 114 = .ok (.aload_n 0, 1) := by decide +kernel
theorem dX8_readsItem_115 : decode cX8_readsItem 115 = .ok (.iload_n 2, 1) := by decide +kernel
theorem dX8_readsItem_116 : decode cX8_readsItem 116 = .ok (.iconst 0, 1) := by decide +kernel
theorem dX8_readsItem_117 : decode cX8_readsItem 117 = .ok (.invokevirtual 116, 3) := by decide +kernel
theorem dX8_readsItem_120 : decode cX8_readsItem 120 = .ok (.ireturn, 1) := by decide +kernel
theorem dX8_readsItem_121 : decode cX8_readsItem 121 = .ok (.aload_n 0, 1) := by decide +kernel
theorem dX8_readsItem_122 : decode cX8_readsItem 122 = .ok (.iload_n 2, 1) := by decide +kernel
theorem dX8_readsItem_123 : decode cX8_readsItem 123 = .ok (.iconst 1, 1) := by decide +kernel
theorem dX8_readsItem_124 : decode cX8_readsItem 124 = .ok (.invokevirtual 116, 3) := by decide +kernel
theorem dX8_readsItem_127 : decode cX8_readsItem 127 = .ok (.ireturn, 1) := by decide +kernel
theorem dX8_readsItem_128 : decode cX8_readsItem 128 = .ok (.aload_n 0, 1) := by decide +kernel
theorem dX8_readsItem_129 : decode cX8_readsItem 129 = .ok (.iload_n 2, 1) := by decide +kernel
theorem dX8_readsItem_130 : decode cX8_readsItem 130 = .ok (.invokevirtual 119, 3) := by decide +kernel
theorem dX8_readsItem_133 : decode cX8_readsItem 133 = .ok (.ireturn, 1) := by decide +kernel
theorem dX8_readsItem_134 : decode cX8_readsItem 134 = .ok (.aload_n 0, 1) := by decide +kernel
theorem dX8_readsItem_135 : decode cX8_readsItem 135 = .ok (.iload_n 2, 1) := by decide +kernel
theorem dX8_readsItem_136 : decode cX8_readsItem 136 = .ok (.invokevirtual 122, 3) := by decide +kernel
theorem dX8_readsItem_139 : decode cX8_readsItem 139 = .ok (.ireturn, 1) := by decide +kernel
theorem dX8_readsItem_140 : decode cX8_readsItem 140 = .ok (.iconst 0, 1) := by decide +kernel
theorem dX8_readsItem_141 : decode cX8_readsItem 141 = .ok (.ireturn, 1) := by decide +kernel
set_option maxRecDepth 20000 in
theorem ggX8_reads_X8_clears : GoodIn wsX8_reads wsX8_clears := goodIn_r _ [8, 9, 10, 11, 12, 13, 57, 58, 59, 60, 61, 62, 63, 64, 65, 66, 67, 68, 69, 70, 71, 72, 73, 74, 75, 76, 77, 78, 79, 80, 81, 82] (by decide +kernel) (by decide +kernel)
set_option maxRecDepth 20000 in
theorem gX8_reads_X8_clears : GoodIn wsX8_reads (wsV RX8 59 RX8 yX8_clears wsX8_clears) := goodIn_app (goodIn_of _ (by decide +kernel)) ggX8_reads_X8_clears
set_option maxRecDepth 20000 in
theorem ggX8_reads_X8_readsItem : GoodIn wsX8_reads wsX8_readsItem := goodIn_r _ [17, 18, 9, 19, 20, 21, 7, 22, 3, 2, 23, 24, 25, 26, 1, 27, 28, 29, 30, 31, 32, 33, 11, 34, 35, 36, 37, 38, 39, 40, 41, 10, 42, 43, 44, 45, 12, 46, 47, 48, 49, 50, 51, 52, 53, 54, 55, 56, 13, 57, 58, 59, 60, 61, 62, 63, 64, 65, 66, 67, 68, 69, 70, 71, 72, 73, 74, 75, 76, 77, 78, 79, 80, 81, 82] (by decide +kernel) (by decide +kernel)
set_option maxRecDepth 20000 in
theorem gX8_reads_X8_readsItem : GoodIn wsX8_reads (wsV RX8 125 RX8 yX8_readsItem wsX8_readsItem) := goodIn_app (goodIn_of _ (by decide +kernel)) ggX8_reads_X8_readsItem
set_option maxRecDepth 20000 in
theorem ggX8_reads_X8_letterAt : GoodIn wsX8_reads wsX8_letterAt := goodIn_r _ [26, 1, 2, 57, 58, 59, 60, 61, 62, 63, 64, 65, 66, 67, 68, 69, 70, 71, 72, 73, 74, 75, 76, 77, 78, 79, 80, 81, 82] (by decide +kernel) (by decide +kernel)
set_option maxRecDepth 20000 in
theorem gX8_reads_X8_letterAt : GoodIn wsX8_reads (wsV RX8 94 RX8 yX8_letterAt wsX8_letterAt) := goodIn_app (goodIn_of _ (by decide +kernel)) ggX8_reads_X8_letterAt
theorem dX8_reads_0 : decode cX8_reads 0 = .ok (.aload_n 0, 1) := by decide +kernel
theorem dX8_reads_1 : decode cX8_reads 1 = .ok (.invokevirtual 59, 3) := by decide +kernel
theorem dX8_reads_4 : decode cX8_reads 4 = .ok (.iconst 0, 1) := by decide +kernel
theorem dX8_reads_5 : decode cX8_reads 5 = .ok (.istore_n 1, 1) := by decide +kernel
theorem dX8_reads_6 : decode cX8_reads 6 = .ok (.iload_n 1, 1) := by decide +kernel
theorem dX8_reads_7 : decode cX8_reads 7 = .ok (.aload_n 0, 1) := by decide +kernel
theorem dX8_reads_8 : decode cX8_reads 8 = .ok (.getfield 85, 3) := by decide +kernel
theorem dX8_reads_11 : decode cX8_reads 11 = .ok (.if_icmp .ge 44, 3) := by decide +kernel
theorem dX8_reads_14 : decode cX8_reads 14 = .ok (.aload_n 0, 1) := by decide +kernel
theorem dX8_reads_15 : decode cX8_reads 15 = .ok (.aload_n 0, 1) := by decide +kernel
theorem dX8_reads_16 : decode cX8_reads 16 = .ok (.getfield 7, 3) := by decide +kernel
theorem dX8_reads_19 : decode cX8_reads 19 = .ok (.iload_n 1, 1) := by decide +kernel
theorem dX8_reads_20 : decode cX8_reads 20 = .ok (.iaload, 1) := by decide +kernel
theorem dX8_reads_21 : decode cX8_reads 21 = .ok (.iload_n 1, 1) := by decide +kernel
theorem dX8_reads_22 : decode cX8_reads 22 = .ok (.iconst 1, 1) := by decide +kernel
theorem dX8_reads_23 : decode cX8_reads 23 = .ok (.iadd, 1) := by decide +kernel
theorem dX8_reads_24 : decode cX8_reads 24 = .ok (.invokevirtual 125, 3) := by decide +kernel
theorem dX8_reads_27 : decode cX8_reads 27 = .ok (.ifCond .eq 16, 3) := by decide +kernel
theorem dX8_reads_30 : decode cX8_reads 30 = .ok (.aload_n 0, 1) := by decide +kernel
theorem dX8_reads_31 : decode cX8_reads 31 = .ok (.aload_n 0, 1) := by decide +kernel
theorem dX8_reads_32 : decode cX8_reads 32 = .ok (.getfield 91, 3) := by decide +kernel
theorem dX8_reads_35 : decode cX8_reads 35 = .ok (.invokevirtual 94, 3) := by decide +kernel
theorem dX8_reads_38 : decode cX8_reads 38 = .ok (.bipush 59, 2) := by decide +kernel
theorem dX8_reads_40 : decode cX8_reads 40 = .ok (.if_icmp .eq 5, 3) := by decide +kernel
theorem dX8_reads_43 : decode cX8_reads 43 = .ok (.iload_n 1, 1) := by decide +kernel
theorem dX8_reads_44 : decode cX8_reads 44 = .ok (.ireturn, 1) := by decide +kernel
theorem dX8_reads_45 : decode cX8_reads 45 = .ok (.aload_n 0, 1) := by decide +kernel
theorem dX8_reads_46 : decode cX8_reads 46 = .ok (.getfield 91, 3) := by decide +kernel
theorem dX8_reads_49 : decode cX8_reads 49 = .ok (.iconst 1, 1) := by decide +kernel
theorem dX8_reads_50 : decode cX8_reads 50 = .ok (.iadd, 1) := by decide +kernel
theorem dX8_reads_51 : decode cX8_reads 51 = .ok (.istore_n 1, 1) := by decide +kernel
theorem dX8_reads_52 : decode cX8_reads 52 = .ok (.goto (-46), 3) := by decide +kernel
theorem dX8_reads_55 : decode cX8_reads 55 = .ok (.bipush (-4), 2) := by decide +kernel
theorem dX8_reads_57 : decode cX8_reads 57 = .ok (.ireturn, 1) := by decide +kernel
theorem dX8_hang_0 : decode cX8_hang 0 = .ok (.iconst 1, 1) := by decide +kernel
theorem dX8_hang_1 : decode cX8_hang 1 = .ok (.istore_n 1, 1) := by decide +kernel
theorem dX8_hang_2 : decode cX8_hang 2 = .ok (.iconst 0, 1) := by decide +kernel
theorem dX8_hang_3 : decode cX8_hang 3 = .ok (.istore_n 2, 1) := by decide +kernel
theorem dX8_hang_4 : decode cX8_hang 4 = .ok (.iload_n 2, 1) := by decide +kernel
theorem dX8_hang_5 : decode cX8_hang 5 = .ok (.aload_n 0, 1) := by decide +kernel
theorem dX8_hang_6 : decode cX8_hang 6 = .ok (.getfield 62, 3) := by decide +kernel
theorem dX8_hang_9 : decode cX8_hang 9 = .ok (.if_icmp .ge 57, 3) := by decide +kernel
theorem dX8_hang_12 : decode cX8_hang 12 = .ok (.iconst 0, 1) := by decide +kernel
theorem dX8_hang_13 : decode cX8_hang 13 = .ok (.istore_n 3, 1) := by decide +kernel
theorem dX8_hang_14 : decode cX8_hang 14 = .ok (.iload_n 3, 1) := by decide +kernel
theorem dX8_hang_15 : decode cX8_hang 15 = .ok (.bipush 36, 2) := by decide +kernel
theorem dX8_hang_17 : decode cX8_hang 17 = .ok (.if_icmp .ge 43, 3) := by decide +kernel
theorem dX8_hang_20 : decode cX8_hang 20 = .ok (.iload_n 1, 1) := by decide +kernel
theorem dX8_hang_21 : decode cX8_hang 21 = .ok (.aload_n 0, 1) := by decide +kernel
theorem dX8_hang_22 : decode cX8_hang 22 = .ok (.getfield 25, 3) := by decide +kernel
theorem dX8_hang_25 : decode cX8_hang 25 = .ok (.iload_n 3, 1) := by decide +kernel
theorem dX8_hang_26 : decode cX8_hang 26 = .ok (.iaload, 1) := by decide +kernel
theorem dX8_hang_27 : decode cX8_hang 27 = .ok (.ifCond .le 24, 3) := by decide +kernel
theorem dX8_hang_30 : decode cX8_hang 30 = .ok (.iload_n 1, 1) := by decide +kernel
theorem dX8_hang_31 : decode cX8_hang 31 = .ok (.iload_n 3, 1) := by decide +kernel
theorem dX8_hang_32 : decode cX8_hang 32 = .ok (.bipush 6, 2) := by decide +kernel
theorem dX8_hang_34 : decode cX8_hang 34 = .ok (.idiv, 1) := by decide +kernel
theorem dX8_hang_35 : decode cX8_hang 35 = .ok (.ishr, 1) := by decide +kernel
theorem dX8_hang_36 : decode cX8_hang 36 = .ok (.iconst 1, 1) := by decide +kernel
theorem dX8_hang_37 : decode cX8_hang 37 = .ok (.iand, 1) := by decide +kernel
theorem dX8_hang_38 : decode cX8_hang 38 = .ok (.iconst 1, 1) := by decide +kernel
theorem dX8_hang_39 : decode cX8_hang 39 = .ok (.if_icmp .ne 12, 3) := by decide +kernel
theorem dX8_hang_42 : decode cX8_hang 42 = .ok (.iconst 1, 1) := by decide +kernel
theorem dX8_hang_43 : decode cX8_hang 43 = .ok (.iload_n 3, 1) := by decide +kernel
theorem dX8_hang_44 : decode cX8_hang 44 = .ok (.bipush 6, 2) := by decide +kernel
theorem dX8_hang_46 : decode cX8_hang 46 = .ok (.irem, 1) := by decide +kernel
theorem dX8_hang_47 : decode cX8_hang 47 = .ok (.ishl, 1) := by decide +kernel
theorem dX8_hang_48 : decode cX8_hang 48 = .ok (.goto 4, 3) := by decide +kernel
theorem dX8_hang_51 : decode cX8_hang 51 = .ok (.iconst 0, 1) := by decide +kernel
theorem dX8_hang_52 : decode cX8_hang 52 = .ok (.ior, 1) := by decide +kernel
theorem dX8_hang_53 : decode cX8_hang 53 = .ok (.istore_n 1, 1) := by decide +kernel
theorem dX8_hang_54 : decode cX8_hang 54 = .ok (.iinc 3 1, 3) := by decide +kernel
theorem dX8_hang_57 : decode cX8_hang 57 = .ok (.goto (-43), 3) := by decide +kernel
theorem dX8_hang_60 : decode cX8_hang 60 = .ok (.iinc 2 1, 3) := by decide +kernel
theorem dX8_hang_63 : decode cX8_hang 63 = .ok (.goto (-59), 3) := by decide +kernel
theorem dX8_hang_66 : decode cX8_hang 66 = .ok (.aload_n 0, 1) := by decide +kernel
theorem dX8_hang_67 : decode cX8_hang 67 = .ok (.getfield 62, 3) := by decide +kernel
theorem dX8_hang_70 : decode cX8_hang 70 = .ok (.ifCond .le 19, 3) := by decide +kernel
theorem dX8_hang_73 : decode cX8_hang 73 = .ok (.iload_n 1, 1) := by decide +kernel
theorem dX8_hang_74 : decode cX8_hang 74 = .ok (.iconst 1, 1) := by decide +kernel
theorem dX8_hang_75 : decode cX8_hang 75 = .ok (.aload_n 0, 1) := by decide +kernel
theorem dX8_hang_76 : decode cX8_hang 76 = .ok (.getfield 62, 3) := by decide +kernel
theorem dX8_hang_79 : decode cX8_hang 79 = .ok (.ishl, 1) := by decide +kernel
theorem dX8_hang_80 : decode cX8_hang 80 = .ok (.iconst 1, 1) := by decide +kernel
theorem dX8_hang_81 : decode cX8_hang 81 = .ok (.isub, 1) := by decide +kernel
theorem dX8_hang_82 : decode cX8_hang 82 = .ok (.if_icmp .ne 7, 3) := by decide +kernel
theorem dX8_hang_85 : decode cX8_hang 85 = .ok (.iconst 1, 1) := by decide +kernel
theorem dX8_hang_86 : decode cX8_hang 86 = .ok (.goto 4, 3) := by decide +kernel
theorem dX8_hang_89 : decode cX8_hang 89 = .ok (.iconst 0, 1) := by decide +kernel
theorem dX8_hang_90 : decode cX8_hang 90 = .ok (.ireturn, 1) := by decide +kernel
theorem dX8_write_0 : decode cX8_write 0 = .ok (.iload_n 1, 1) := by decide +kernel
theorem dX8_write_1 : decode cX8_write 1 = .ok (.bipush 32, 2) := by decide +kernel
theorem dX8_write_3 : decode cX8_write 3 = .ok (.if_icmp .lt 9, 3) := by decide +kernel
theorem dX8_write_6 : decode cX8_write 6 = .ok (.iload_n 1, 1) := by decide +kernel
theorem dX8_write_7 : decode cX8_write 7 = .ok (.bipush 126, 2) := by decide +kernel
theorem dX8_write_9 : decode cX8_write 9 = .ok (.if_icmp .le 5, 3) := by decide +kernel
theorem dX8_write_12 : decode cX8_write 12 = .ok (.iconst (-1), 1) := by decide +kernel
theorem dX8_write_13 : decode cX8_write 13 = .ok (.ireturn, 1) := by decide +kernel
theorem dX8_write_14 : decode cX8_write 14 = .ok (.aload_n 0, 1) := by decide +kernel
theorem dX8_write_15 : decode cX8_write 15 = .ok (.getfield 85, 3) := by decide +kernel
theorem dX8_write_18 : decode cX8_write 18 = .ok (.sipush 200, 3) := by decide +kernel
theorem dX8_write_21 : decode cX8_write 21 = .ok (.if_icmp .ne 6, 3) := by decide +kernel
theorem dX8_write_24 : decode cX8_write 24 = .ok (.bipush (-3), 2) := by decide +kernel
theorem dX8_write_26 : decode cX8_write 26 = .ok (.ireturn, 1) := by decide +kernel
theorem dX8_write_27 : decode cX8_write 27 = .ok (.aload_n 0, 1) := by decide +kernel
theorem dX8_write_28 : decode cX8_write 28 = .ok (.getfield 7, 3) := by decide +kernel
theorem dX8_write_31 : decode cX8_write 31 = .ok (.aload_n 0, 1) := by decide +kernel
theorem dX8_write_32 : decode cX8_write 32 = .ok (.getfield 85, 3) := by decide +kernel
theorem dX8_write_35 : decode cX8_write 35 = .ok (.iload_n 1, 1) := by decide +kernel
theorem dX8_write_36 : decode cX8_write 36 = .ok (.iastore, 1) := by decide +kernel
theorem dX8_write_37 : decode cX8_write 37 = .ok (.aload_n 0, 1) := by decide +kernel
theorem dX8_write_38 : decode cX8_write 38 = .ok (.dup, 1) := by decide +kernel
theorem dX8_write_39 : decode cX8_write 39 = .ok (.getfield 85, 3) := by decide +kernel
theorem dX8_write_42 : decode cX8_write 42 = .ok (.iconst 1, 1) := by decide +kernel
theorem dX8_write_43 : decode cX8_write 43 = .ok (.iadd, 1) := by decide +kernel
theorem dX8_write_44 : decode cX8_write 44 = .ok (.putfield 85, 3) := by decide +kernel
theorem dX8_write_47 : decode cX8_write 47 = .ok (.aload_n 0, 1) := by decide +kernel
theorem dX8_write_48 : decode cX8_write 48 = .ok (.getfield 85, 3) := by decide +kernel
theorem dX8_write_51 : decode cX8_write 51 = .ok (.ireturn, 1) := by decide +kernel
theorem dX8_wipe_0 : decode cX8_wipe 0 = .ok (.aload_n 0, 1) := by decide +kernel
theorem dX8_wipe_1 : decode cX8_wipe 1 = .ok (.getfield 85, 3) := by decide +kernel
theorem dX8_wipe_4 : decode cX8_wipe 4 = .ok (.istore_n 1, 1) := by decide +kernel
theorem dX8_wipe_5 : decode cX8_wipe 5 = .ok (.aload_n 0, 1) := by decide +kernel
theorem dX8_wipe_6 : decode cX8_wipe 6 = .ok (.iconst 0, 1) := by decide +kernel
theorem dX8_wipe_7 : decode cX8_wipe 7 = .ok (.putfield 85, 3) := by decide +kernel
theorem dX8_wipe_10 : decode cX8_wipe 10 = .ok (.iload_n 1, 1) := by decide +kernel
theorem dX8_wipe_11 : decode cX8_wipe 11 = .ok (.ireturn, 1) := by decide +kernel
set_option maxRecDepth 20000 in
theorem ggX8_fault_X8_reads : GoodIn wsX8_fault wsX8_reads := goodIn_r _ [5, 6, 7, 8, 9, 10, 11, 4, 12, 13, 14, 15, 16, 17, 18, 19, 20, 21, 22, 23, 24, 25, 26, 27, 28, 29, 30, 31, 32, 33, 34, 35, 36, 37, 38, 39, 40, 41, 42, 43, 44, 45, 46, 47, 48, 49, 50, 51, 52, 53, 54, 55, 56, 57, 58, 59, 60, 61, 62, 63, 64, 65, 66, 67, 68, 69, 70, 71, 72, 73, 74, 75, 76, 77, 78, 79, 80, 81, 82, 83, 84, 85, 86] (by decide +kernel) (by decide +kernel)
set_option maxRecDepth 20000 in
theorem gX8_fault_X8_reads : GoodIn wsX8_fault (wsV RX8 128 RX8 yX8_reads wsX8_reads) := goodIn_app (goodIn_of _ (by decide +kernel)) ggX8_fault_X8_reads
theorem dX8_fault_0 : decode cX8_fault 0 = .ok (.aload_n 0, 1) := by decide +kernel
theorem dX8_fault_1 : decode cX8_fault 1 = .ok (.invokevirtual 128, 3) := by decide +kernel
theorem dX8_fault_4 : decode cX8_fault 4 = .ok (.ireturn, 1) := by decide +kernel
set_option maxRecDepth 20000 in
theorem ggX8_lay_X8_reads : GoodIn wsX8_lay wsX8_reads := goodIn_r _ [6, 7, 8, 9, 10, 11, 12, 5, 13, 14, 15, 16, 17, 18, 19, 20, 21, 22, 23, 24, 25, 26, 27, 28, 29, 30, 31, 32, 33, 34, 35, 36, 37, 38, 39, 40, 41, 42, 43, 44, 45, 46, 47, 48, 49, 50, 51, 52, 53, 54, 55, 56, 57, 58, 59, 60, 61, 75, 76, 77, 78, 79, 80, 81, 82, 83, 84, 85, 86, 87, 88, 89, 90, 91, 92, 93, 94, 95, 96, 97, 98, 99, 100] (by decide +kernel) (by decide +kernel)
set_option maxRecDepth 20000 in
theorem gX8_lay_X8_reads : GoodIn wsX8_lay (wsV RX8 128 RX8 yX8_reads wsX8_reads) := goodIn_app (goodIn_of _ (by decide +kernel)) ggX8_lay_X8_reads
set_option maxRecDepth 20000 in
theorem ggX8_lay_X8_hang : GoodIn wsX8_lay wsX8_hang := goodIn_r _ [65, 14, 16, 75, 76, 77, 78, 79, 80, 81, 82, 83, 84, 85, 86, 87, 88, 89, 90, 91, 92, 93, 94, 95, 96, 97, 98, 99, 100] (by decide +kernel) (by decide +kernel)
set_option maxRecDepth 20000 in
theorem gX8_lay_X8_hang : GoodIn wsX8_lay (wsV RX8 132 RX8 yX8_hang wsX8_hang) := goodIn_app (goodIn_of _ (by decide +kernel)) ggX8_lay_X8_hang
set_option maxRecDepth 20000 in
theorem ggX8_lay_X8_takes : GoodIn wsX8_lay wsX8_takes := goodIn_r _ [69, 14, 1, 15, 70, 71, 16, 72, 17, 73, 18, 74, 75, 76, 77, 78, 79, 80, 81, 82, 83, 84, 85, 86, 87, 88, 89, 90, 91, 92, 93, 94, 95, 96, 97, 98, 99, 100] (by decide +kernel) (by decide +kernel)
set_option maxRecDepth 20000 in
theorem gX8_lay_X8_takes : GoodIn wsX8_lay (wsV RX8 70 RX8 yX8_takes wsX8_takes) := goodIn_app (goodIn_of _ (by decide +kernel)) ggX8_lay_X8_takes
theorem dX8_lay_0 : decode cX8_lay 0 = .ok (.aload_n 0, 1) := by decide +kernel
theorem dX8_lay_1 : decode cX8_lay 1 = .ok (.invokevirtual 128, 3) := by decide +kernel
theorem dX8_lay_4 : decode cX8_lay 4 = .ok (.bipush (-4), 2) := by decide +kernel
theorem dX8_lay_6 : decode cX8_lay 6 = .ok (.if_icmp .ne 10, 3) := by decide +kernel
theorem dX8_lay_9 : decode cX8_lay 9 = .ok (.aload_n 0, 1) := by decide +kernel
theorem dX8_lay_10 : decode cX8_lay 10 = .ok (.invokevirtual 132, 3) := by decide +kernel
theorem dX8_lay_13 : decode cX8_lay 13 = .ok (.ifCond .ne 6, 3) := by decide +kernel
theorem dX8_lay_16 : decode cX8_lay 16 = .ok (.bipush (-2), 2) := by decide +kernel
theorem dX8_lay_18 : decode cX8_lay 18 = .ok (.ireturn, 1) := by decide +kernel
theorem dX8_lay_19 : decode cX8_lay 19 = .ok (.aload_n 0, 1) := by decide +kernel
theorem dX8_lay_20 : decode cX8_lay 20 = .ok (.invokevirtual 70, 3) := by decide +kernel
theorem dX8_lay_23 : decode cX8_lay 23 = .ok (.aload_n 0, 1) := by decide +kernel
theorem dX8_lay_24 : decode cX8_lay 24 = .ok (.getfield 76, 3) := by decide +kernel
theorem dX8_lay_27 : decode cX8_lay 27 = .ok (.ireturn, 1) := by decide +kernel
theorem dX8_keeps_0 : decode cX8_keeps 0 = .ok (.aload_n 0, 1) := by decide +kernel
theorem dX8_keeps_1 : decode cX8_keeps 1 = .ok (.getfield 82, 3) := by decide +kernel
theorem dX8_keeps_4 : decode cX8_keeps 4 = .ok (.bipush 6, 2) := by decide +kernel
theorem dX8_keeps_6 : decode cX8_keeps 6 = .ok (.if_icmp .ne 42, 3) := by decide +kernel
theorem dX8_keeps_9 : decode cX8_keeps 9 = .ok (.iconst 0, 1) := by decide +kernel
theorem dX8_keeps_10 : decode cX8_keeps 10 = .ok (.istore_n 1, 1) := by decide +kernel
theorem dX8_keeps_11 : decode cX8_keeps 11 = .ok (.iload_n 1, 1) := by decide +kernel
theorem dX8_keeps_12 : decode cX8_keeps 12 = .ok (.bipush 100, 2) := by decide +kernel
theorem dX8_keeps_14 : decode cX8_keeps 14 = .ok (.if_icmp .ge 24, 3) := by decide +kernel
theorem dX8_keeps_17 : decode cX8_keeps 17 = .ok (.aload_n 0, 1) := by decide +kernel
theorem dX8_keeps_18 : decode cX8_keeps 18 = .ok (.getfield 22, 3) := by decide +kernel
theorem dX8_keeps_21 : decode cX8_keeps 21 = .ok (.iload_n 1, 1) := by decide +kernel
theorem dX8_keeps_22 : decode cX8_keeps 22 = .ok (.aload_n 0, 1) := by decide +kernel
theorem dX8_keeps_23 : decode cX8_keeps 23 = .ok (.getfield 22, 3) := by decide +kernel
theorem dX8_keeps_26 : decode cX8_keeps 26 = .ok (.iload_n 1, 1) := by decide +kernel
theorem dX8_keeps_27 : decode cX8_keeps 27 = .ok (.bipush 20, 2) := by decide +kernel
theorem dX8_keeps_29 : decode cX8_keeps 29 = .ok (.iadd, 1) := by decide +kernel
theorem dX8_keeps_30 : decode cX8_keeps 30 = .ok (.iaload, 1) := by decide +kernel
theorem dX8_keeps_31 : decode cX8_keeps 31 = .ok (.iastore, 1) := by decide +kernel
theorem dX8_keeps_32 : decode cX8_keeps 32 = .ok (.iinc 1 1, 3) := by decide +kernel
theorem dX8_keeps_35 : decode cX8_keeps 35 = .ok (.goto (-24), 3) := by decide +kernel
theorem dX8_keeps_38 : decode cX8_keeps 38 = .ok (.aload_n 0, 1) := by decide +kernel
theorem dX8_keeps_39 : decode cX8_keeps 39 = .ok (.dup, 1) := by decide +kernel
theorem dX8_keeps_40 : decode cX8_keeps 40 = .ok (.getfield 82, 3) := by decide +kernel
theorem dX8_keeps_43 : decode cX8_keeps 43 = .ok (.iconst 1, 1) := by decide +kernel
theorem dX8_keeps_44 : decode cX8_keeps 44 = .ok (.isub, 1) := by decide +kernel
theorem dX8_keeps_45 : decode cX8_keeps 45 = .ok (.putfield 82, 3) := by decide +kernel
theorem dX8_keeps_48 : decode cX8_keeps 48 = .ok (.iconst 0, 1) := by decide +kernel
theorem dX8_keeps_49 : decode cX8_keeps 49 = .ok (.istore_n 1, 1) := by decide +kernel
theorem dX8_keeps_50 : decode cX8_keeps 50 = .ok (.iload_n 1, 1) := by decide +kernel
theorem dX8_keeps_51 : decode cX8_keeps 51 = .ok (.bipush 20, 2) := by decide +kernel
theorem dX8_keeps_53 : decode cX8_keeps 53 = .ok (.if_icmp .ge 29, 3) := by decide +kernel
theorem dX8_keeps_56 : decode cX8_keeps 56 = .ok (.aload_n 0, 1) := by decide +kernel
theorem dX8_keeps_57 : decode cX8_keeps 57 = .ok (.getfield 22, 3) := by decide +kernel
theorem dX8_keeps_60 : decode cX8_keeps 60 = .ok (.bipush 20, 2) := by decide +kernel
theorem dX8_keeps_62 : decode cX8_keeps 62 = .ok (.aload_n 0, 1) := by decide +kernel
theorem dX8_keeps_63 : decode cX8_keeps 63 = .ok (.getfield 82, 3) := by decide +kernel
theorem dX8_keeps_66 : decode cX8_keeps 66 = .ok (.imul, 1) := by decide +kernel
theorem dX8_keeps_67 : decode cX8_keeps 67 = .ok (.iload_n 1, 1) := by decide +kernel
theorem dX8_keeps_68 : decode cX8_keeps 68 = .ok (.iadd, 1) := by decide +kernel
theorem dX8_keeps_69 : decode cX8_keeps 69 = .ok (.aload_n 0, 1) := by decide +kernel
theorem dX8_keeps_70 : decode cX8_keeps 70 = .ok (.getfield 19, 3) := by decide +kernel
theorem dX8_keeps_73 : decode cX8_keeps 73 = .ok (.iload_n 1, 1) := by decide +kernel
theorem dX8_keeps_74 : decode cX8_keeps 74 = .ok (.iaload, 1) := by decide +kernel
theorem dX8_keeps_75 : decode cX8_keeps 75 = .ok (.iastore, 1) := by decide +kernel
theorem dX8_keeps_76 : decode cX8_keeps 76 = .ok (.iinc 1 1, 3) := by decide +kernel
theorem dX8_keeps_79 : decode cX8_keeps 79 = .ok (.goto (-29), 3) := by decide +kernel
theorem dX8_keeps_82 : decode cX8_keeps 82 = .ok (.aload_n 0, 1) := by decide +kernel
theorem dX8_keeps_83 : decode cX8_keeps 83 = .ok (.dup, 1) := by decide +kernel
theorem dX8_keeps_84 : decode cX8_keeps 84 = .ok (.getfield 82, 3) := by decide +kernel
theorem dX8_keeps_87 : decode cX8_keeps 87 = .ok (.iconst 1, 1) := by decide +kernel
theorem dX8_keeps_88 : decode cX8_keeps 88 = .ok (.iadd, 1) := by decide +kernel
theorem dX8_keeps_89 : decode cX8_keeps 89 = .ok (.putfield 82, 3) := by decide +kernel
theorem dX8_keeps_92 : decode cX8_keeps 92 = .ok (.return_, 1) := by decide +kernel
theorem dX8_undo_0 : decode cX8_undo 0 = .ok (.aload_n 0, 1) := by decide +kernel
theorem dX8_undo_1 : decode cX8_undo 1 = .ok (.getfield 82, 3) := by decide +kernel
theorem dX8_undo_4 : decode cX8_undo 4 = .ok (.ifCond .ne 6, 3) := by decide +kernel
theorem dX8_undo_7 : decode cX8_undo 7 = .ok (.bipush (-2), 2) := by decide +kernel
theorem dX8_undo_9 : decode cX8_undo 9 = .ok (.ireturn, 1) := by decide +kernel
theorem dX8_undo_10 : decode cX8_undo 10 = .ok (.aload_n 0, 1) := by decide +kernel
theorem dX8_undo_11 : decode cX8_undo 11 = .ok (.dup, 1) := by decide +kernel
theorem dX8_undo_12 : decode cX8_undo 12 = .ok (.getfield 82, 3) := by decide +kernel
theorem dX8_undo_15 : decode cX8_undo 15 = .ok (.iconst 1, 1) := by decide +kernel
theorem dX8_undo_16 : decode cX8_undo 16 = .ok (.isub, 1) := by decide +kernel
theorem dX8_undo_17 : decode cX8_undo 17 = .ok (.putfield 82, 3) := by decide +kernel
theorem dX8_undo_20 : decode cX8_undo 20 = .ok (.iconst 0, 1) := by decide +kernel
theorem dX8_undo_21 : decode cX8_undo 21 = .ok (.istore_n 1, 1) := by decide +kernel
theorem dX8_undo_22 : decode cX8_undo 22 = .ok (.iload_n 1, 1) := by decide +kernel
theorem dX8_undo_23 : decode cX8_undo 23 = .ok (.bipush 20, 2) := by decide +kernel
theorem dX8_undo_25 : decode cX8_undo 25 = .ok (.if_icmp .ge 29, 3) := by decide +kernel
theorem dX8_undo_28 : decode cX8_undo 28 = .ok (.aload_n 0, 1) := by decide +kernel
theorem dX8_undo_29 : decode cX8_undo 29 = .ok (.getfield 19, 3) := by decide +kernel
theorem dX8_undo_32 : decode cX8_undo 32 = .ok (.iload_n 1, 1) := by decide +kernel
theorem dX8_undo_33 : decode cX8_undo 33 = .ok (.aload_n 0, 1) := by decide +kernel
theorem dX8_undo_34 : decode cX8_undo 34 = .ok (.getfield 22, 3) := by decide +kernel
theorem dX8_undo_37 : decode cX8_undo 37 = .ok (.bipush 20, 2) := by decide +kernel
theorem dX8_undo_39 : decode cX8_undo 39 = .ok (.aload_n 0, 1) := by decide +kernel
theorem dX8_undo_40 : decode cX8_undo 40 = .ok (.getfield 82, 3) := by decide +kernel
theorem dX8_undo_43 : decode cX8_undo 43 = .ok (.imul, 1) := by decide +kernel
theorem dX8_undo_44 : decode cX8_undo 44 = .ok (.iload_n 1, 1) := by decide +kernel
theorem dX8_undo_45 : decode cX8_undo 45 = .ok (.iadd, 1) := by decide +kernel
theorem dX8_undo_46 : decode cX8_undo 46 = .ok (.iaload, 1) := by decide +kernel
theorem dX8_undo_47 : decode cX8_undo 47 = .ok (.iastore, 1) := by decide +kernel
theorem dX8_undo_48 : decode cX8_undo 48 = .ok (.iinc 1 1, 3) := by decide +kernel
theorem dX8_undo_51 : decode cX8_undo 51 = .ok (.goto (-29), 3) := by decide +kernel
theorem dX8_undo_54 : decode cX8_undo 54 = .ok (.aload_n 0, 1) := by decide +kernel
theorem dX8_undo_55 : decode cX8_undo 55 = .ok (.getfield 82, 3) := by decide +kernel
theorem dX8_undo_58 : decode cX8_undo 58 = .ok (.ireturn, 1) := by decide +kernel
set_option maxRecDepth 20000 in
theorem ggX8_isCell_X8_isIn : GoodIn wsX8_isCell wsX8_isIn := goodIn_r _ [5] (by decide +kernel) (by decide +kernel)
set_option maxRecDepth 20000 in
theorem gX8_isCell_X8_isIn : GoodIn wsX8_isCell (va_wsS RX8 98 yX8_isIn wsX8_isIn) := goodIn_app (goodIn_of _ (by decide +kernel)) ggX8_isCell_X8_isIn
theorem dX8_isCell_0 : decode cX8_isCell 0 = .ok (.iload_n 1, 1) := by decide +kernel
theorem dX8_isCell_1 : decode cX8_isCell 1 = .ok (.iconst 0, 1) := by decide +kernel
theorem dX8_isCell_2 : decode cX8_isCell 2 = .ok (.aload_n 0, 1) := by decide +kernel
theorem dX8_isCell_3 : decode cX8_isCell 3 = .ok (.getfield 76, 3) := by decide +kernel
theorem dX8_isCell_6 : decode cX8_isCell 6 = .ok (.iconst 1, 1) := by decide +kernel
theorem dX8_isCell_7 : decode cX8_isCell 7 = .ok (.isub, 1) := by decide +kernel
theorem dX8_isCell_8 : decode cX8_isCell 8 = .ok (.invokestatic 98, 3) := by decide +kernel
theorem dX8_isCell_11 : decode cX8_isCell 11 = .ok (.ireturn, 1) := by decide +kernel
theorem dX8_registers_0 : decode cX8_registers 0 = .ok (.aload_n 0, 1) := by decide +kernel
theorem dX8_registers_1 : decode cX8_registers 1 = .ok (.bipush 15, 2) := by decide +kernel
theorem dX8_registers_3 : decode cX8_registers 3 = .ok (.aload_n 0, 1) := by decide +kernel
theorem dX8_registers_4 : decode cX8_registers 4 = .ok (.bipush 14, 2) := by decide +kernel
theorem dX8_registers_6 : decode cX8_registers 6 = .ok (.iaload, 1) := by decide +kernel
theorem dX8_registers_7 : decode cX8_registers 7 = .ok (.iastore, 1) := by decide +kernel
theorem dX8_registers_8 : decode cX8_registers 8 = .ok (.aload_n 0, 1) := by decide +kernel
theorem dX8_registers_9 : decode cX8_registers 9 = .ok (.bipush 16, 2) := by decide +kernel
theorem dX8_registers_11 : decode cX8_registers 11 = .ok (.iconst 0, 1) := by decide +kernel
theorem dX8_registers_12 : decode cX8_registers 12 = .ok (.iastore, 1) := by decide +kernel
theorem dX8_registers_13 : decode cX8_registers 13 = .ok (.aload_n 0, 1) := by decide +kernel
theorem dX8_registers_14 : decode cX8_registers 14 = .ok (.bipush 17, 2) := by decide +kernel
theorem dX8_registers_16 : decode cX8_registers 16 = .ok (.iconst 0, 1) := by decide +kernel
theorem dX8_registers_17 : decode cX8_registers 17 = .ok (.iastore, 1) := by decide +kernel
theorem dX8_registers_18 : decode cX8_registers 18 = .ok (.return_, 1) := by decide +kernel
set_option maxRecDepth 20000 in
theorem ggX8_set_X8_isCell : GoodIn wsX8_set wsX8_isCell := goodIn_r _ [6, 7, 8, 9, 5, 10, 20, 21, 22, 23, 24, 25, 26, 27, 28, 29, 30, 31, 32, 33, 34, 35, 36, 37, 38, 39, 40, 41, 42, 43, 44, 45] (by decide +kernel) (by decide +kernel)
set_option maxRecDepth 20000 in
theorem gX8_set_X8_isCell : GoodIn wsX8_set (wsV RX8 136 RX8 yX8_isCell wsX8_isCell) := goodIn_app (goodIn_of _ (by decide +kernel)) ggX8_set_X8_isCell
set_option maxRecDepth 20000 in
theorem ggX8_set_X8_isIn : GoodIn wsX8_set wsX8_isIn := goodIn_r _ [10] (by decide +kernel) (by decide +kernel)
set_option maxRecDepth 20000 in
theorem gX8_set_X8_isIn : GoodIn wsX8_set (va_wsS RX8 98 yX8_isIn wsX8_isIn) := goodIn_app (goodIn_of _ (by decide +kernel)) ggX8_set_X8_isIn
set_option maxRecDepth 20000 in
theorem ggX8_set_X8_keeps : GoodIn wsX8_set wsX8_keeps := goodIn_r _ [14, 15, 16, 1, 20, 21, 22, 23, 24, 25, 26, 27, 28, 29, 30, 31, 32, 33, 34, 35, 36, 37, 38, 39, 40, 41, 42, 43, 44, 45] (by decide +kernel) (by decide +kernel)
set_option maxRecDepth 20000 in
theorem gX8_set_X8_keeps : GoodIn wsX8_set (wsV RX8 139 RX8 yX8_keeps wsX8_keeps) := goodIn_app (goodIn_of _ (by decide +kernel)) ggX8_set_X8_keeps
set_option maxRecDepth 20000 in
theorem ggX8_set_X8_registers : GoodIn wsX8_set wsX8_registers := goodIn_r _ [19] (by decide +kernel) (by decide +kernel)
set_option maxRecDepth 20000 in
theorem gX8_set_X8_registers : GoodIn wsX8_set (va_wsS RX8 142 yX8_registers wsX8_registers) := goodIn_app (goodIn_of _ (by decide +kernel)) ggX8_set_X8_registers
theorem dX8_set_0 : decode cX8_set 0 = .ok (.aload_n 0, 1) := by decide +kernel
theorem dX8_set_1 : decode cX8_set 1 = .ok (.iload_n 1, 1) := by decide +kernel
theorem dX8_set_2 : decode cX8_set 2 = .ok (.invokevirtual 136, 3) := by decide +kernel
theorem dX8_set_5 : decode cX8_set 5 = .ok (.ifCond .eq 30, 3) := by decide +kernel
theorem dX8_set_8 : decode cX8_set 8 = .ok (.iload_n 2, 1) := by decide +kernel
theorem dX8_set_9 : decode cX8_set 9 = .ok (.iconst 0, 1) := by decide +kernel
theorem dX8_set_10 : decode cX8_set 10 = .ok (.iconst 1, 1) := by decide +kernel
theorem dX8_set_11 : decode cX8_set 11 = .ok (.invokestatic 98, 3) := by decide +kernel
theorem dX8_set_14 : decode cX8_set 14 = .ok (.ifCond .eq 21, 3) := by decide +kernel
theorem dX8_set_17 : decode cX8_set 17 = .ok (.iload_n 3, 1) := by decide +kernel
theorem dX8_set_18 : decode cX8_set 18 = .ok (.iconst 0, 1) := by decide +kernel
theorem dX8_set_19 : decode cX8_set 19 = .ok (.iload_n 2, 1) := by decide +kernel
theorem dX8_set_20 : decode cX8_set 20 = .ok (.ifCond .ne 8, 3) := by decide +kernel
theorem dX8_set_23 : decode cX8_set 23 = .ok (.bipush 9, 2) := by decide +kernel
theorem dX8_set_25 : decode cX8_set 25 = .ok (.goto 4, 3) := by decide +kernel
theorem dX8_set_28 : decode cX8_set 28 = .ok (.iconst 5, 1) := by decide +kernel
theorem dX8_set_29 : decode cX8_set 29 = .ok (.invokestatic 98, 3) := by decide +kernel
theorem dX8_set_32 : decode cX8_set 32 = .ok (.ifCond .ne 5, 3) := by decide +kernel
theorem dX8_set_35 : decode cX8_set 35 = .ok (.iconst (-1), 1) := by decide +kernel
theorem dX8_set_36 : decode cX8_set 36 = .ok (.ireturn, 1) := by decide +kernel
theorem dX8_set_37 : decode cX8_set 37 = .ok (.aload_n 0, 1) := by decide +kernel
theorem dX8_set_38 : decode cX8_set 38 = .ok (.getfield 19, 3) := by decide +kernel
theorem dX8_set_41 : decode cX8_set 41 = .ok (.bipush 6, 2) := by decide +kernel
theorem dX8_set_43 : decode cX8_set 43 = .ok (.iload_n 2, 1) := by decide +kernel
theorem dX8_set_44 : decode cX8_set 44 = .ok (.imul, 1) := by decide +kernel
theorem dX8_set_45 : decode cX8_set 45 = .ok (.iload_n 1, 1) := by decide +kernel
theorem dX8_set_46 : decode cX8_set 46 = .ok (.iadd, 1) := by decide +kernel
theorem dX8_set_47 : decode cX8_set 47 = .ok (.iaload, 1) := by decide +kernel
theorem dX8_set_48 : decode cX8_set 48 = .ok (.istore 4, 2) := by decide +kernel
theorem dX8_set_50 : decode cX8_set 50 = .ok (.iload 4, 2) := by decide +kernel
theorem dX8_set_52 : decode cX8_set 52 = .ok (.iload_n 3, 1) := by decide +kernel
theorem dX8_set_53 : decode cX8_set 53 = .ok (.if_icmp .ne 6, 3) := by decide +kernel
theorem dX8_set_56 : decode cX8_set 56 = .ok (.bipush (-2), 2) := by decide +kernel
theorem dX8_set_58 : decode cX8_set 58 = .ok (.ireturn, 1) := by decide +kernel
theorem dX8_set_59 : decode cX8_set 59 = .ok (.aload_n 0, 1) := by decide +kernel
theorem dX8_set_60 : decode cX8_set 60 = .ok (.invokevirtual 139, 3) := by decide +kernel
theorem dX8_set_63 : decode cX8_set 63 = .ok (.aload_n 0, 1) := by decide +kernel
theorem dX8_set_64 : decode cX8_set 64 = .ok (.getfield 19, 3) := by decide +kernel
theorem dX8_set_67 : decode cX8_set 67 = .ok (.bipush 6, 2) := by decide +kernel
theorem dX8_set_69 : decode cX8_set 69 = .ok (.iload_n 2, 1) := by decide +kernel
theorem dX8_set_70 : decode cX8_set 70 = .ok (.imul, 1) := by decide +kernel
theorem dX8_set_71 : decode cX8_set 71 = .ok (.iload_n 1, 1) := by decide +kernel
theorem dX8_set_72 : decode cX8_set 72 = .ok (.iadd, 1) := by decide +kernel
theorem dX8_set_73 : decode cX8_set 73 = .ok (.iload_n 3, 1) := by decide +kernel
theorem dX8_set_74 : decode cX8_set 74 = .ok (.iastore, 1) := by decide +kernel
theorem dX8_set_75 : decode cX8_set 75 = .ok (.aload_n 0, 1) := by decide +kernel
theorem dX8_set_76 : decode cX8_set 76 = .ok (.getfield 19, 3) := by decide +kernel
theorem dX8_set_79 : decode cX8_set 79 = .ok (.invokestatic 142, 3) := by decide +kernel
theorem dX8_set_82 : decode cX8_set 82 = .ok (.iload 4, 2) := by decide +kernel
theorem dX8_set_84 : decode cX8_set 84 = .ok (.ireturn, 1) := by decide +kernel
set_option maxRecDepth 20000 in
theorem ggX8_law_X8_isLaw : GoodIn wsX8_law wsX8_isLaw := goodIn_r _ [5, 6, 7, 4, 8] (by decide +kernel) (by decide +kernel)
set_option maxRecDepth 20000 in
theorem gX8_law_X8_isLaw : GoodIn wsX8_law (va_wsS RX8 109 yX8_isLaw wsX8_isLaw) := goodIn_app (goodIn_of _ (by decide +kernel)) ggX8_law_X8_isLaw
set_option maxRecDepth 20000 in
theorem ggX8_law_X8_keeps : GoodIn wsX8_law wsX8_keeps := goodIn_r _ [12, 13, 14, 1, 18, 19, 20, 21, 22, 23, 24, 25, 26, 27, 28, 29, 30, 31, 32, 33, 34, 35, 36, 37, 38, 39, 40, 41, 42, 43] (by decide +kernel) (by decide +kernel)
set_option maxRecDepth 20000 in
theorem gX8_law_X8_keeps : GoodIn wsX8_law (wsV RX8 139 RX8 yX8_keeps wsX8_keeps) := goodIn_app (goodIn_of _ (by decide +kernel)) ggX8_law_X8_keeps
set_option maxRecDepth 20000 in
theorem ggX8_law_X8_registers : GoodIn wsX8_law wsX8_registers := goodIn_r _ [17] (by decide +kernel) (by decide +kernel)
set_option maxRecDepth 20000 in
theorem gX8_law_X8_registers : GoodIn wsX8_law (va_wsS RX8 142 yX8_registers wsX8_registers) := goodIn_app (goodIn_of _ (by decide +kernel)) ggX8_law_X8_registers
theorem dX8_law_0 : decode cX8_law 0 = .ok (.iload_n 1, 1) := by decide +kernel
theorem dX8_law_1 : decode cX8_law 1 = .ok (.iload_n 2, 1) := by decide +kernel
theorem dX8_law_2 : decode cX8_law 2 = .ok (.invokestatic 109, 3) := by decide +kernel
theorem dX8_law_5 : decode cX8_law 5 = .ok (.ifCond .ne 5, 3) := by decide +kernel
theorem dX8_law_8 : decode cX8_law 8 = .ok (.iconst (-1), 1) := by decide +kernel
theorem dX8_law_9 : decode cX8_law 9 = .ok (.ireturn, 1) := by decide +kernel
theorem dX8_law_10 : decode cX8_law 10 = .ok (.bipush 10, 2) := by decide +kernel
theorem dX8_law_12 : decode cX8_law 12 = .ok (.aload_n 0, 1) := by decide +kernel
theorem dX8_law_13 : decode cX8_law 13 = .ok (.getfield 19, 3) := by decide +kernel
theorem dX8_law_16 : decode cX8_law 16 = .ok (.bipush 12, 2) := by decide +kernel
theorem dX8_law_18 : decode cX8_law 18 = .ok (.iaload, 1) := by decide +kernel
theorem dX8_law_19 : decode cX8_law 19 = .ok (.imul, 1) := by decide +kernel
theorem dX8_law_20 : decode cX8_law 20 = .ok (.aload_n 0, 1) := by decide +kernel
theorem dX8_law_21 : decode cX8_law 21 = .ok (.getfield 19, 3) := by decide +kernel
theorem dX8_law_24 : decode cX8_law 24 = .ok (.bipush 13, 2) := by decide +kernel
theorem dX8_law_26 : decode cX8_law 26 = .ok (.iaload, 1) := by decide +kernel
theorem dX8_law_27 : decode cX8_law 27 = .ok (.iadd, 1) := by decide +kernel
theorem dX8_law_28 : decode cX8_law 28 = .ok (.istore_n 3, 1) := by decide +kernel
theorem dX8_law_29 : decode cX8_law 29 = .ok (.iload_n 3, 1) := by decide +kernel
theorem dX8_law_30 : decode cX8_law 30 = .ok (.bipush 10, 2) := by decide +kernel
theorem dX8_law_32 : decode cX8_law 32 = .ok (.iload_n 1, 1) := by decide +kernel
theorem dX8_law_33 : decode cX8_law 33 = .ok (.imul, 1) := by decide +kernel
theorem dX8_law_34 : decode cX8_law 34 = .ok (.iload_n 2, 1) := by decide +kernel
theorem dX8_law_35 : decode cX8_law 35 = .ok (.iadd, 1) := by decide +kernel
theorem dX8_law_36 : decode cX8_law 36 = .ok (.if_icmp .ne 6, 3) := by decide +kernel
theorem dX8_law_39 : decode cX8_law 39 = .ok (.bipush (-2), 2) := by decide +kernel
theorem dX8_law_41 : decode cX8_law 41 = .ok (.ireturn, 1) := by decide +kernel
theorem dX8_law_42 : decode cX8_law 42 = .ok (.aload_n 0, 1) := by decide +kernel
theorem dX8_law_43 : decode cX8_law 43 = .ok (.invokevirtual 139, 3) := by decide +kernel
theorem dX8_law_46 : decode cX8_law 46 = .ok (.aload_n 0, 1) := by decide +kernel
theorem dX8_law_47 : decode cX8_law 47 = .ok (.getfield 19, 3) := by decide +kernel
theorem dX8_law_50 : decode cX8_law 50 = .ok (.bipush 12, 2) := by decide +kernel
theorem dX8_law_52 : decode cX8_law 52 = .ok (.iload_n 1, 1) := by decide +kernel
theorem dX8_law_53 : decode cX8_law 53 = .ok (.iastore, 1) := by decide +kernel
theorem dX8_law_54 : decode cX8_law 54 = .ok (.aload_n 0, 1) := by decide +kernel
theorem dX8_law_55 : decode cX8_law 55 = .ok (.getfield 19, 3) := by decide +kernel
theorem dX8_law_58 : decode cX8_law 58 = .ok (.bipush 13, 2) := by decide +kernel
theorem dX8_law_60 : decode cX8_law 60 = .ok (.iload_n 2, 1) := by decide +kernel
theorem dX8_law_61 : decode cX8_law 61 = .ok (.iastore, 1) := by decide +kernel
theorem dX8_law_62 : decode cX8_law 62 = .ok (.aload_n 0, 1) := by decide +kernel
theorem dX8_law_63 : decode cX8_law 63 = .ok (.getfield 19, 3) := by decide +kernel
theorem dX8_law_66 : decode cX8_law 66 = .ok (.invokestatic 142, 3) := by decide +kernel
theorem dX8_law_69 : decode cX8_law 69 = .ok (.iload_n 3, 1) := by decide +kernel
theorem dX8_law_70 : decode cX8_law 70 = .ok (.ireturn, 1) := by decide +kernel
theorem dX8_out_0 : decode cX8_out 0 = .ok (.iconst 0, 1) := by decide +kernel
theorem dX8_out_1 : decode cX8_out 1 = .ok (.istore_n 2, 1) := by decide +kernel
theorem dX8_out_2 : decode cX8_out 2 = .ok (.iconst 0, 1) := by decide +kernel
theorem dX8_out_3 : decode cX8_out 3 = .ok (.istore_n 3, 1) := by decide +kernel
theorem dX8_out_4 : decode cX8_out 4 = .ok (.iload_n 3, 1) := by decide +kernel
theorem dX8_out_5 : decode cX8_out 5 = .ok (.aload_n 0, 1) := by decide +kernel
theorem dX8_out_6 : decode cX8_out 6 = .ok (.getfield 76, 3) := by decide +kernel
theorem dX8_out_9 : decode cX8_out 9 = .ok (.if_icmp .ge 23, 3) := by decide +kernel
theorem dX8_out_12 : decode cX8_out 12 = .ok (.iload_n 2, 1) := by decide +kernel
theorem dX8_out_13 : decode cX8_out 13 = .ok (.aload_n 0, 1) := by decide +kernel
theorem dX8_out_14 : decode cX8_out 14 = .ok (.getfield 13, 3) := by decide +kernel
theorem dX8_out_17 : decode cX8_out 17 = .ok (.bipush 6, 2) := by decide +kernel
theorem dX8_out_19 : decode cX8_out 19 = .ok (.iload_n 1, 1) := by decide +kernel
theorem dX8_out_20 : decode cX8_out 20 = .ok (.imul, 1) := by decide +kernel
theorem dX8_out_21 : decode cX8_out 21 = .ok (.iload_n 3, 1) := by decide +kernel
theorem dX8_out_22 : decode cX8_out 22 = .ok (.iadd, 1) := by decide +kernel
theorem dX8_out_23 : decode cX8_out 23 = .ok (.iaload, 1) := by decide +kernel
theorem dX8_out_24 : decode cX8_out 24 = .ok (.iadd, 1) := by decide +kernel
theorem dX8_out_25 : decode cX8_out 25 = .ok (.istore_n 2, 1) := by decide +kernel
theorem dX8_out_26 : decode cX8_out 26 = .ok (.iinc 3 1, 3) := by decide +kernel
theorem dX8_out_29 : decode cX8_out 29 = .ok (.goto (-25), 3) := by decide +kernel
theorem dX8_out_32 : decode cX8_out 32 = .ok (.iload_n 2, 1) := by decide +kernel
theorem dX8_out_33 : decode cX8_out 33 = .ok (.ireturn, 1) := by decide +kernel
set_option maxRecDepth 20000 in
theorem ggX8_sum_X8_out : GoodIn wsX8_sum wsX8_out := goodIn_r _ [6, 7, 8, 9, 10, 11, 12, 13, 14, 15, 16, 17, 18, 19, 20, 21, 22, 23, 24, 25, 26, 27, 28, 29, 30, 31, 32, 33, 34] (by decide +kernel) (by decide +kernel)
set_option maxRecDepth 20000 in
theorem gX8_sum_X8_out : GoodIn wsX8_sum (wsV RX8 146 RX8 yX8_out wsX8_out) := goodIn_app (goodIn_of _ (by decide +kernel)) ggX8_sum_X8_out
theorem dX8_sum_0 : decode cX8_sum 0 = .ok (.aload_n 0, 1) := by decide +kernel
theorem dX8_sum_1 : decode cX8_sum 1 = .ok (.iload_n 1, 1) := by decide +kernel
theorem dX8_sum_2 : decode cX8_sum 2 = .ok (.invokevirtual 146, 3) := by decide +kernel
theorem dX8_sum_5 : decode cX8_sum 5 = .ok (.aload_n 0, 1) := by decide +kernel
theorem dX8_sum_6 : decode cX8_sum 6 = .ok (.getfield 19, 3) := by decide +kernel
theorem dX8_sum_9 : decode cX8_sum 9 = .ok (.iload_n 1, 1) := by decide +kernel
theorem dX8_sum_10 : decode cX8_sum 10 = .ok (.iaload, 1) := by decide +kernel
theorem dX8_sum_11 : decode cX8_sum 11 = .ok (.iadd, 1) := by decide +kernel
theorem dX8_sum_12 : decode cX8_sum 12 = .ok (.ireturn, 1) := by decide +kernel
theorem dX8_joined_0 : decode cX8_joined 0 = .ok (.iconst 0, 1) := by decide +kernel
theorem dX8_joined_1 : decode cX8_joined 1 = .ok (.istore_n 2, 1) := by decide +kernel
theorem dX8_joined_2 : decode cX8_joined 2 = .ok (.iconst 0, 1) := by decide +kernel
theorem dX8_joined_3 : decode cX8_joined 3 = .ok (.istore_n 3, 1) := by decide +kernel
theorem dX8_joined_4 : decode cX8_joined 4 = .ok (.iload_n 3, 1) := by decide +kernel
theorem dX8_joined_5 : decode cX8_joined 5 = .ok (.aload_n 0, 1) := by decide +kernel
theorem dX8_joined_6 : decode cX8_joined 6 = .ok (.getfield 76, 3) := by decide +kernel
theorem dX8_joined_9 : decode cX8_joined 9 = .ok (.if_icmp .ge 33, 3) := by decide +kernel
theorem dX8_joined_12 : decode cX8_joined 12 = .ok (.iload_n 2, 1) := by decide +kernel
theorem dX8_joined_13 : decode cX8_joined 13 = .ok (.aload_n 0, 1) := by decide +kernel
theorem dX8_joined_14 : decode cX8_joined 14 = .ok (.getfield 13, 3) := by decide +kernel
theorem dX8_joined_17 : decode cX8_joined 17 = .ok (.bipush 6, 2) := by decide +kernel
theorem dX8_joined_19 : decode cX8_joined 19 = .ok (.iload_n 1, 1) := by decide +kernel
theorem dX8_joined_20 : decode cX8_joined 20 = .ok (.imul, 1) := by decide +kernel
theorem dX8_joined_21 : decode cX8_joined 21 = .ok (.iload_n 3, 1) := by decide +kernel
theorem dX8_joined_22 : decode cX8_joined 22 = .ok (.iadd, 1) := by decide +kernel
theorem dX8_joined_23 : decode cX8_joined 23 = .ok (.iaload, 1) := by decide +kernel
theorem dX8_joined_24 : decode cX8_joined 24 = .ok (.ifCond .le 9, 3) := by decide +kernel
theorem dX8_joined_27 : decode cX8_joined 27 = .ok (.iconst 1, 1) := by decide +kernel
theorem dX8_joined_28 : decode cX8_joined 28 = .ok (.iload_n 3, 1) := by decide +kernel
theorem dX8_joined_29 : decode cX8_joined 29 = .ok (.ishl, 1) := by decide +kernel
theorem dX8_joined_30 : decode cX8_joined 30 = .ok (.goto 4, 3) := by decide +kernel
theorem dX8_joined_33 : decode cX8_joined 33 = .ok (.iconst 0, 1) := by decide +kernel
theorem dX8_joined_34 : decode cX8_joined 34 = .ok (.ior, 1) := by decide +kernel
theorem dX8_joined_35 : decode cX8_joined 35 = .ok (.istore_n 2, 1) := by decide +kernel
theorem dX8_joined_36 : decode cX8_joined 36 = .ok (.iinc 3 1, 3) := by decide +kernel
theorem dX8_joined_39 : decode cX8_joined 39 = .ok (.goto (-35), 3) := by decide +kernel
theorem dX8_joined_42 : decode cX8_joined 42 = .ok (.iload_n 2, 1) := by decide +kernel
theorem dX8_joined_43 : decode cX8_joined 43 = .ok (.ireturn, 1) := by decide +kernel
theorem dX8_likeArea_0 : decode cX8_likeArea 0 = .ok (.iconst 0, 1) := by decide +kernel
theorem dX8_likeArea_1 : decode cX8_likeArea 1 = .ok (.istore_n 2, 1) := by decide +kernel
theorem dX8_likeArea_2 : decode cX8_likeArea 2 = .ok (.iconst 0, 1) := by decide +kernel
theorem dX8_likeArea_3 : decode cX8_likeArea 3 = .ok (.istore_n 3, 1) := by decide +kernel
theorem dX8_likeArea_4 : decode cX8_likeArea 4 = .ok (.iload_n 3, 1) := by decide +kernel
theorem dX8_likeArea_5 : decode cX8_likeArea 5 = .ok (.aload_n 0, 1) := by decide +kernel
theorem dX8_likeArea_6 : decode cX8_likeArea 6 = .ok (.getfield 76, 3) := by decide +kernel
theorem dX8_likeArea_9 : decode cX8_likeArea 9 = .ok (.if_icmp .ge 30, 3) := by decide +kernel
theorem dX8_likeArea_12 : decode cX8_likeArea 12 = .ok (.iload_n 2, 1) := by decide +kernel
theorem dX8_likeArea_13 : decode cX8_likeArea 13 = .ok (.aload_n 0, 1) := by decide +kernel
theorem dX8_likeArea_14 : decode cX8_likeArea 14 = .ok (.getfield 19, 3) := by decide +kernel
theorem dX8_likeArea_17 : decode cX8_likeArea 17 = .ok (.bipush 6, 2) := by decide +kernel
theorem dX8_likeArea_19 : decode cX8_likeArea 19 = .ok (.iload_n 3, 1) := by decide +kernel
theorem dX8_likeArea_20 : decode cX8_likeArea 20 = .ok (.iadd, 1) := by decide +kernel
theorem dX8_likeArea_21 : decode cX8_likeArea 21 = .ok (.iaload, 1) := by decide +kernel
theorem dX8_likeArea_22 : decode cX8_likeArea 22 = .ok (.iload_n 1, 1) := by decide +kernel
theorem dX8_likeArea_23 : decode cX8_likeArea 23 = .ok (.if_icmp .ne 7, 3) := by decide +kernel
theorem dX8_likeArea_26 : decode cX8_likeArea 26 = .ok (.iconst 1, 1) := by decide +kernel
theorem dX8_likeArea_27 : decode cX8_likeArea 27 = .ok (.goto 4, 3) := by decide +kernel
theorem dX8_likeArea_30 : decode cX8_likeArea 30 = .ok (.iconst 0, 1) := by decide +kernel
theorem dX8_likeArea_31 : decode cX8_likeArea 31 = .ok (.iadd, 1) := by decide +kernel
theorem dX8_likeArea_32 : decode cX8_likeArea 32 = .ok (.istore_n 2, 1) := by decide +kernel
theorem dX8_likeArea_33 : decode cX8_likeArea 33 = .ok (.iinc 3 1, 3) := by decide +kernel
theorem dX8_likeArea_36 : decode cX8_likeArea 36 = .ok (.goto (-32), 3) := by decide +kernel
theorem dX8_likeArea_39 : decode cX8_likeArea 39 = .ok (.iload_n 2, 1) := by decide +kernel
theorem dX8_likeArea_40 : decode cX8_likeArea 40 = .ok (.ireturn, 1) := by decide +kernel
set_option maxRecDepth 20000 in
theorem ggX8_cell_X8_isCell : GoodIn wsX8_cell wsX8_isCell := goodIn_r _ [6, 7, 8, 9, 5, 10, 28, 29, 30, 31, 32, 33, 34, 35, 36, 37, 38, 39, 40, 41, 42, 43, 44, 45, 46, 47, 48, 49, 50, 51, 52, 53] (by decide +kernel) (by decide +kernel)
set_option maxRecDepth 20000 in
theorem gX8_cell_X8_isCell : GoodIn wsX8_cell (wsV RX8 136 RX8 yX8_isCell wsX8_isCell) := goodIn_app (goodIn_of _ (by decide +kernel)) ggX8_cell_X8_isCell
set_option maxRecDepth 20000 in
theorem ggX8_cell_X8_sum : GoodIn wsX8_cell wsX8_sum := goodIn_r _ [14, 1, 15, 16, 17, 5, 18, 7, 19, 28, 29, 30, 31, 32, 33, 34, 35, 36, 37, 38, 39, 40, 41, 42, 43, 44, 45, 46, 47, 48, 49, 50, 51, 52, 53] (by decide +kernel) (by decide +kernel)
set_option maxRecDepth 20000 in
theorem gX8_cell_X8_sum : GoodIn wsX8_cell (wsV RX8 149 RX8 yX8_sum wsX8_sum) := goodIn_app (goodIn_of _ (by decide +kernel)) ggX8_cell_X8_sum
set_option maxRecDepth 20000 in
theorem ggX8_cell_X8_joined : GoodIn wsX8_cell wsX8_joined := goodIn_r _ [23, 7, 19, 28, 29, 30, 31, 32, 33, 34, 35, 36, 37, 38, 39, 40, 41, 42, 43, 44, 45, 46, 47, 48, 49, 50, 51, 52, 53] (by decide +kernel) (by decide +kernel)
set_option maxRecDepth 20000 in
theorem gX8_cell_X8_joined : GoodIn wsX8_cell (wsV RX8 152 RX8 yX8_joined wsX8_joined) := goodIn_app (goodIn_of _ (by decide +kernel)) ggX8_cell_X8_joined
set_option maxRecDepth 20000 in
theorem ggX8_cell_X8_likeArea : GoodIn wsX8_cell wsX8_likeArea := goodIn_r _ [27, 7, 1, 28, 29, 30, 31, 32, 33, 34, 35, 36, 37, 38, 39, 40, 41, 42, 43, 44, 45, 46, 47, 48, 49, 50, 51, 52, 53] (by decide +kernel) (by decide +kernel)
set_option maxRecDepth 20000 in
theorem gX8_cell_X8_likeArea : GoodIn wsX8_cell (wsV RX8 155 RX8 yX8_likeArea wsX8_likeArea) := goodIn_app (goodIn_of _ (by decide +kernel)) ggX8_cell_X8_likeArea
theorem dX8_cell_0 : decode cX8_cell 0 = .ok (.aload_n 0, 1) := by decide +kernel
theorem dX8_cell_1 : decode cX8_cell 1 = .ok (.iload_n 1, 1) := by decide +kernel
theorem dX8_cell_2 : decode cX8_cell 2 = .ok (.invokevirtual 136, 3) := by decide +kernel
theorem dX8_cell_5 : decode cX8_cell 5 = .ok (.ifCond .ne 5, 3) := by decide +kernel
theorem dX8_cell_8 : decode cX8_cell 8 = .ok (.iconst (-1), 1) := by decide +kernel
theorem dX8_cell_9 : decode cX8_cell 9 = .ok (.ireturn, 1) := by decide +kernel
theorem dX8_cell_10 : decode cX8_cell 10 = .ok (.iload_n 2, 1) := by decide +kernel
theorem dX8_cell_11 : decode cX8_cell 11 = .ok (.tableswitch 76 0 4 #[33, 40, 50, 56, 62], 33) := by decide +kernel
theorem dX8_cell_44 : decode cX8_cell 44 = .ok (.aload_n 0, 1) := by decide +kernel
theorem dX8_cell_45 : decode cX8_cell 45 = .ok (.getfield 19, 3) := by decide +kernel
theorem dX8_cell_48 : decode cX8_cell 48 = .ok (.iload_n 1, 1) := by decide +kernel
theorem dX8_cell_49 : decode cX8_cell 49 = .ok (.iaload, 1) := by decide +kernel
theorem dX8_cell_50 : decode cX8_cell 50 = .ok (.ireturn, 1) := by decide +kernel
theorem dX8_cell_51 : decode cX8_cell 51 = .ok (.aload_n 0, 1) := by decide +kernel
theorem dX8_cell_52 : decode cX8_cell 52 = .ok (.getfield 19, 3) := by decide +kernel
theorem dX8_cell_55 : decode cX8_cell 55 = .ok (.bipush 6, 2) := by decide +kernel
theorem dX8_cell_57 : decode cX8_cell 57 = .ok (.iload_n 1, 1) := by decide +kernel
theorem dX8_cell_58 : decode cX8_cell 58 = .ok (.iadd, 1) := by decide +kernel
theorem dX8_cell_59 : decode cX8_cell 59 = .ok (.iaload, 1) := by decide +kernel
theorem dX8_cell_60 : decode cX8_cell 60 = .ok (.ireturn, 1) := by decide +kernel
theorem dX8_cell_61 : decode cX8_cell 61 = .ok (.aload_n 0, 1) := by decide +kernel
theorem dX8_cell_62 : decode cX8_cell 62 = .ok (.iload_n 1, 1) := by decide +kernel
theorem dX8_cell_63 : decode cX8_cell 63 = .ok (.invokevirtual 149, 3) := by decide +kernel
theorem dX8_cell_66 : decode cX8_cell 66 = .ok (.ireturn, 1) := by decide +kernel
theorem dX8_cell_67 : decode cX8_cell 67 = .ok (.aload_n 0, 1) := by decide +kernel
theorem dX8_cell_68 : decode cX8_cell 68 = .ok (.iload_n 1, 1) := by decide +kernel
theorem dX8_cell_69 : decode cX8_cell 69 = .ok (.invokevirtual 152, 3) := by decide +kernel
theorem dX8_cell_72 : decode cX8_cell 72 = .ok (.ireturn, 1) := by decide +kernel
theorem dX8_cell_73 : decode cX8_cell 73 = .ok (.aload_n 0, 1) := by decide +kernel
theorem dX8_cell_74 : decode cX8_cell 74 = .ok (.aload_n 0, 1) := by decide +kernel
theorem dX8_cell_75 : decode cX8_cell 75 = .ok (.getfield 19, 3) := by decide +kernel
theorem dX8_cell_78 : decode cX8_cell 78 = .ok (.bipush 6, 2) := by decide +kernel
theorem dX8_cell_80 : decode cX8_cell 80 = .ok (.iload_n 1, 1) := by decide +kernel
theorem dX8_cell_81 : decode cX8_cell 81 = .ok (.iadd, 1) := by decide +kernel
theorem dX8_cell_82 : decode cX8_cell 82 = .ok (.iaload, 1) := by decide +kernel
theorem dX8_cell_83 : decode cX8_cell 83 = .ok (.invokevirtual 155, 3) := by decide +kernel
theorem dX8_cell_86 : decode cX8_cell 86 = .ok (.ireturn, 1) := by decide +kernel
theorem dX8_cell_87 : decode cX8_cell 87 = .ok (.iconst (-1), 1) := by decide +kernel
theorem dX8_cell_88 : decode cX8_cell 88 = .ok (.ireturn, 1) := by decide +kernel
set_option maxRecDepth 20000 in
theorem ggX8_weight_X8_isCell : GoodIn wsX8_weight wsX8_isCell := goodIn_r _ [6, 7, 8, 9, 5, 10, 11, 12, 13, 14, 15, 16, 17, 18, 19, 20, 21, 22, 23, 24, 25, 26, 27, 28, 29, 30, 31, 32, 33, 34, 35, 36] (by decide +kernel) (by decide +kernel)
set_option maxRecDepth 20000 in
theorem gX8_weight_X8_isCell : GoodIn wsX8_weight (wsV RX8 136 RX8 yX8_isCell wsX8_isCell) := goodIn_app (goodIn_of _ (by decide +kernel)) ggX8_weight_X8_isCell
theorem dX8_weight_0 : decode cX8_weight 0 = .ok (.aload_n 0, 1) := by decide +kernel
theorem dX8_weight_1 : decode cX8_weight 1 = .ok (.iload_n 1, 1) := by decide +kernel
theorem dX8_weight_2 : decode cX8_weight 2 = .ok (.invokevirtual 136, 3) := by decide +kernel
theorem dX8_weight_5 : decode cX8_weight 5 = .ok (.ifCond .eq 30, 3) := by decide +kernel
theorem dX8_weight_8 : decode cX8_weight 8 = .ok (.aload_n 0, 1) := by decide +kernel
theorem dX8_weight_9 : decode cX8_weight 9 = .ok (.iload_n 2, 1) := by decide +kernel
theorem dX8_weight_10 : decode cX8_weight 10 = .ok (.invokevirtual 136, 3) := by decide +kernel
theorem dX8_weight_13 : decode cX8_weight 13 = .ok (.ifCond .eq 22, 3) := by decide +kernel
theorem dX8_weight_16 : decode cX8_weight 16 = .ok (.iload_n 1, 1) := by decide +kernel
theorem dX8_weight_17 : decode cX8_weight 17 = .ok (.iload_n 2, 1) := by decide +kernel
theorem dX8_weight_18 : decode cX8_weight 18 = .ok (.if_icmp .eq 17, 3) := by decide +kernel
theorem dX8_weight_21 : decode cX8_weight 21 = .ok (.aload_n 0, 1) := by decide +kernel
theorem dX8_weight_22 : decode cX8_weight 22 = .ok (.getfield 13, 3) := by decide +kernel
theorem dX8_weight_25 : decode cX8_weight 25 = .ok (.bipush 6, 2) := by decide +kernel
theorem dX8_weight_27 : decode cX8_weight 27 = .ok (.iload_n 1, 1) := by decide +kernel
theorem dX8_weight_28 : decode cX8_weight 28 = .ok (.imul, 1) := by decide +kernel
theorem dX8_weight_29 : decode cX8_weight 29 = .ok (.iload_n 2, 1) := by decide +kernel
theorem dX8_weight_30 : decode cX8_weight 30 = .ok (.iadd, 1) := by decide +kernel
theorem dX8_weight_31 : decode cX8_weight 31 = .ok (.iaload, 1) := by decide +kernel
theorem dX8_weight_32 : decode cX8_weight 32 = .ok (.goto 4, 3) := by decide +kernel
theorem dX8_weight_35 : decode cX8_weight 35 = .ok (.iconst (-1), 1) := by decide +kernel
theorem dX8_weight_36 : decode cX8_weight 36 = .ok (.ireturn, 1) := by decide +kernel
set_option maxRecDepth 20000 in
theorem ggX8_far_X8_joined : GoodIn wsX8_far wsX8_joined := goodIn_r _ [6, 1, 7, 8, 9, 10, 11, 12, 13, 14, 15, 16, 17, 18, 19, 20, 21, 22, 23, 24, 25, 26, 27, 28, 29, 30, 31, 32, 33] (by decide +kernel) (by decide +kernel)
set_option maxRecDepth 20000 in
theorem gX8_far_X8_joined : GoodIn wsX8_far (wsV RX8 152 RX8 yX8_joined wsX8_joined) := goodIn_app (goodIn_of _ (by decide +kernel)) ggX8_far_X8_joined
theorem dX8_far_0 : decode cX8_far 0 = .ok (.iconst 1, 1) := by decide +kernel
theorem dX8_far_1 : decode cX8_far 1 = .ok (.iload_n 1, 1) := by decide +kernel
theorem dX8_far_2 : decode cX8_far 2 = .ok (.ishl, 1) := by decide +kernel
theorem dX8_far_3 : decode cX8_far 3 = .ok (.istore_n 3, 1) := by decide +kernel
theorem dX8_far_4 : decode cX8_far 4 = .ok (.iconst 0, 1) := by decide +kernel
theorem dX8_far_5 : decode cX8_far 5 = .ok (.istore 4, 2) := by decide +kernel
theorem dX8_far_7 : decode cX8_far 7 = .ok (.iload_n 3, 1) := by decide +kernel
theorem dX8_far_8 : decode cX8_far 8 = .ok (.iload_n 2, 1) := by decide +kernel
theorem dX8_far_9 : decode cX8_far 9 = .ok (.ishr, 1) := by decide +kernel
theorem dX8_far_10 : decode cX8_far 10 = .ok (.iconst 1, 1) := by decide +kernel
theorem dX8_far_11 : decode cX8_far 11 = .ok (.iand, 1) := by decide +kernel
theorem dX8_far_12 : decode cX8_far 12 = .ok (.ifCond .ne 58, 3) := by decide +kernel
theorem dX8_far_15 : decode cX8_far 15 = .ok (.iload_n 3, 1) := by decide +kernel
theorem dX8_far_16 : decode cX8_far 16 = .ok (.istore 5, 2) := by decide +kernel
theorem dX8_far_18 : decode cX8_far 18 = .ok (.iconst 0, 1) := by decide +kernel
theorem dX8_far_19 : decode cX8_far 19 = .ok (.istore 6, 2) := by decide +kernel
theorem dX8_far_21 : decode cX8_far 21 = .ok (.iload 6, 2) := by decide +kernel
theorem dX8_far_23 : decode cX8_far 23 = .ok (.aload_n 0, 1) := by decide +kernel
theorem dX8_far_24 : decode cX8_far 24 = .ok (.getfield 76, 3) := by decide +kernel
theorem dX8_far_27 : decode cX8_far 27 = .ok (.if_icmp .ge 34, 3) := by decide +kernel
theorem dX8_far_30 : decode cX8_far 30 = .ok (.iload 5, 2) := by decide +kernel
theorem dX8_far_32 : decode cX8_far 32 = .ok (.iload_n 3, 1) := by decide +kernel
theorem dX8_far_33 : decode cX8_far 33 = .ok (.iload 6, 2) := by decide +kernel
theorem dX8_far_35 : decode cX8_far 35 = .ok (.ishr, 1) := by decide +kernel
theorem dX8_far_36 : decode cX8_far 36 = .ok (.iconst 1, 1) := by decide +kernel
theorem dX8_far_37 : decode cX8_far 37 = .ok (.iand, 1) := by decide +kernel
theorem dX8_far_38 : decode cX8_far 38 = .ok (.iconst 1, 1) := by decide +kernel
theorem dX8_far_39 : decode cX8_far 39 = .ok (.if_icmp .ne 12, 3) := by decide +kernel
theorem dX8_far_42 : decode cX8_far 42 = .ok (.aload_n 0, 1) := by decide +kernel
theorem dX8_far_43 : decode cX8_far 43 = .ok (.iload 6, 2) := by decide +kernel
theorem dX8_far_45 : decode cX8_far 45 = .ok (.invokevirtual 152, 3) := by decide +kernel
theorem dX8_far_48 : decode cX8_far 48 = .ok (.goto 4, 3) := by decide +kernel
theorem dX8_far_51 : decode cX8_far 51 = .ok (.iconst 0, 1) := by decide +kernel
theorem dX8_far_52 : decode cX8_far 52 = .ok (.ior, 1) := by decide +kernel
theorem dX8_far_53 : decode cX8_far 53 = .ok (.istore 5, 2) := by decide +kernel
theorem dX8_far_55 : decode cX8_far 55 = .ok (.iinc 6 1, 3) := by decide +kernel
theorem dX8_far_58 : decode cX8_far 58 = .ok (.goto (-37), 3) := by decide +kernel
theorem dX8_far_61 : decode cX8_far 61 = .ok (.iload 5, 2) := by decide +kernel
theorem dX8_far_63 : decode cX8_far 63 = .ok (.istore_n 3, 1) := by decide +kernel
theorem dX8_far_64 : decode cX8_far 64 = .ok (.iinc 4 1, 3) := by decide +kernel
theorem dX8_far_67 : decode cX8_far 67 = .ok (.goto (-60), 3) := by decide +kernel
theorem dX8_far_70 : decode cX8_far 70 = .ok (.iload 4, 2) := by decide +kernel
theorem dX8_far_72 : decode cX8_far 72 = .ok (.ireturn, 1) := by decide +kernel
set_option maxRecDepth 20000 in
theorem ggX8_wide_X8_isCell : GoodIn wsX8_wide wsX8_isCell := goodIn_r _ [5, 6, 7, 8, 4, 9, 19, 20, 21, 22, 23, 24, 25, 26, 27, 28, 29, 30, 31, 32, 33, 34, 35, 36, 37, 38, 39, 40, 41, 42, 43, 44] (by decide +kernel) (by decide +kernel)
set_option maxRecDepth 20000 in
theorem gX8_wide_X8_isCell : GoodIn wsX8_wide (wsV RX8 136 RX8 yX8_isCell wsX8_isCell) := goodIn_app (goodIn_of _ (by decide +kernel)) ggX8_wide_X8_isCell
set_option maxRecDepth 20000 in
theorem ggX8_wide_X8_far : GoodIn wsX8_wide wsX8_far := goodIn_r _ [13, 6, 14, 15, 16, 4, 17, 18, 19, 20, 21, 22, 23, 24, 25, 26, 27, 28, 29, 30, 31, 32, 33, 34, 35, 36, 37, 38, 39, 40, 41, 42, 43, 44] (by decide +kernel) (by decide +kernel)
set_option maxRecDepth 20000 in
theorem gX8_wide_X8_far : GoodIn wsX8_wide (wsV RX8 158 RX8 yX8_far wsX8_far) := goodIn_app (goodIn_of _ (by decide +kernel)) ggX8_wide_X8_far
theorem dX8_wide_0 : decode cX8_wide 0 = .ok (.aload_n 0, 1) := by decide +kernel
theorem dX8_wide_1 : decode cX8_wide 1 = .ok (.iload_n 1, 1) := by decide +kernel
theorem dX8_wide_2 : decode cX8_wide 2 = .ok (.invokevirtual 136, 3) := by decide +kernel
theorem dX8_wide_5 : decode cX8_wide 5 = .ok (.ifCond .eq 20, 3) := by decide +kernel
theorem dX8_wide_8 : decode cX8_wide 8 = .ok (.aload_n 0, 1) := by decide +kernel
theorem dX8_wide_9 : decode cX8_wide 9 = .ok (.iload_n 2, 1) := by decide +kernel
theorem dX8_wide_10 : decode cX8_wide 10 = .ok (.invokevirtual 136, 3) := by decide +kernel
theorem dX8_wide_13 : decode cX8_wide 13 = .ok (.ifCond .eq 12, 3) := by decide +kernel
theorem dX8_wide_16 : decode cX8_wide 16 = .ok (.aload_n 0, 1) := by decide +kernel
theorem dX8_wide_17 : decode cX8_wide 17 = .ok (.iload_n 1, 1) := by decide +kernel
theorem dX8_wide_18 : decode cX8_wide 18 = .ok (.iload_n 2, 1) := by decide +kernel
theorem dX8_wide_19 : decode cX8_wide 19 = .ok (.invokevirtual 158, 3) := by decide +kernel
theorem dX8_wide_22 : decode cX8_wide 22 = .ok (.goto 4, 3) := by decide +kernel
theorem dX8_wide_25 : decode cX8_wide 25 = .ok (.iconst (-1), 1) := by decide +kernel
theorem dX8_wide_26 : decode cX8_wide 26 = .ok (.ireturn, 1) := by decide +kernel
set_option maxRecDepth 20000 in
theorem ggX8_isDue_X8_far : GoodIn wsX8_isDue wsX8_far := goodIn_r _ [6, 7, 8, 9, 10, 5, 11, 12, 13, 14, 15, 16, 17, 18, 19, 20, 21, 22, 23, 24, 25, 26, 27, 28, 29, 30, 31, 32, 33, 34, 35, 36, 37, 38] (by decide +kernel) (by decide +kernel)
set_option maxRecDepth 20000 in
theorem gX8_isDue_X8_far : GoodIn wsX8_isDue (wsV RX8 158 RX8 yX8_far wsX8_far) := goodIn_app (goodIn_of _ (by decide +kernel)) ggX8_isDue_X8_far
theorem dX8_isDue_0 : decode cX8_isDue 0 = .ok (.aload_n 0, 1) := by decide +kernel
theorem dX8_isDue_1 : decode cX8_isDue 1 = .ok (.getfield 19, 3) := by decide +kernel
theorem dX8_isDue_4 : decode cX8_isDue 4 = .ok (.bipush 12, 2) := by decide +kernel
theorem dX8_isDue_6 : decode cX8_isDue 6 = .ok (.iaload, 1) := by decide +kernel
theorem dX8_isDue_7 : decode cX8_isDue 7 = .ok (.tableswitch 98 0 2 #[25, 58, 78], 25) := by decide +kernel
theorem dX8_isDue_32 : decode cX8_isDue 32 = .ok (.aload_n 0, 1) := by decide +kernel
theorem dX8_isDue_33 : decode cX8_isDue 33 = .ok (.getfield 19, 3) := by decide +kernel
theorem dX8_isDue_36 : decode cX8_isDue 36 = .ok (.bipush 6, 2) := by decide +kernel
theorem dX8_isDue_38 : decode cX8_isDue 38 = .ok (.aload_n 1, 1) := by decide +kernel
theorem dX8_isDue_39 : decode cX8_isDue 39 = .ok (.bipush 14, 2) := by decide +kernel
theorem dX8_isDue_41 : decode cX8_isDue 41 = .ok (.iaload, 1) := by decide +kernel
theorem dX8_isDue_42 : decode cX8_isDue 42 = .ok (.iadd, 1) := by decide +kernel
theorem dX8_isDue_43 : decode cX8_isDue 43 = .ok (.iaload, 1) := by decide +kernel
theorem dX8_isDue_44 : decode cX8_isDue 44 = .ok (.aload_n 0, 1) := by decide +kernel
theorem dX8_isDue_45 : decode cX8_isDue 45 = .ok (.getfield 19, 3) := by decide +kernel
theorem dX8_isDue_48 : decode cX8_isDue 48 = .ok (.bipush 6, 2) := by decide +kernel
theorem dX8_isDue_50 : decode cX8_isDue 50 = .ok (.aload_n 1, 1) := by decide +kernel
theorem dX8_isDue_51 : decode cX8_isDue 51 = .ok (.bipush 15, 2) := by decide +kernel
theorem dX8_isDue_53 : decode cX8_isDue 53 = .ok (.iaload, 1) := by decide +kernel
theorem dX8_isDue_54 : decode cX8_isDue 54 = .ok (.iadd, 1) := by decide +kernel
theorem dX8_isDue_55 : decode cX8_isDue 55 = .ok (.iaload, 1) := by decide +kernel
theorem dX8_isDue_56 : decode cX8_isDue 56 = .ok (.if_icmp .eq 7, 3) := by decide +kernel
theorem dX8_isDue_59 : decode cX8_isDue 59 = .ok (.iconst 1, 1) := by decide +kernel
theorem dX8_isDue_60 : decode cX8_isDue 60 = .ok (.goto 4, 3) := by decide +kernel
theorem dX8_isDue_63 : decode cX8_isDue 63 = .ok (.iconst 0, 1) := by decide +kernel
theorem dX8_isDue_64 : decode cX8_isDue 64 = .ok (.ireturn, 1) := by decide +kernel
theorem dX8_isDue_65 : decode cX8_isDue 65 = .ok (.aload_n 1, 1) := by decide +kernel
theorem dX8_isDue_66 : decode cX8_isDue 66 = .ok (.bipush 16, 2) := by decide +kernel
theorem dX8_isDue_68 : decode cX8_isDue 68 = .ok (.iaload, 1) := by decide +kernel
theorem dX8_isDue_69 : decode cX8_isDue 69 = .ok (.aload_n 0, 1) := by decide +kernel
theorem dX8_isDue_70 : decode cX8_isDue 70 = .ok (.getfield 19, 3) := by decide +kernel
theorem dX8_isDue_73 : decode cX8_isDue 73 = .ok (.bipush 13, 2) := by decide +kernel
theorem dX8_isDue_75 : decode cX8_isDue 75 = .ok (.iaload, 1) := by decide +kernel
theorem dX8_isDue_76 : decode cX8_isDue 76 = .ok (.if_icmp .lt 7, 3) := by decide +kernel
theorem dX8_isDue_79 : decode cX8_isDue 79 = .ok (.iconst 1, 1) := by decide +kernel
theorem dX8_isDue_80 : decode cX8_isDue 80 = .ok (.goto 4, 3) := by decide +kernel
theorem dX8_isDue_83 : decode cX8_isDue 83 = .ok (.iconst 0, 1) := by decide +kernel
theorem dX8_isDue_84 : decode cX8_isDue 84 = .ok (.ireturn, 1) := by decide +kernel
theorem dX8_isDue_85 : decode cX8_isDue 85 = .ok (.aload_n 1, 1) := by decide +kernel
theorem dX8_isDue_86 : decode cX8_isDue 86 = .ok (.bipush 17, 2) := by decide +kernel
theorem dX8_isDue_88 : decode cX8_isDue 88 = .ok (.iaload, 1) := by decide +kernel
theorem dX8_isDue_89 : decode cX8_isDue 89 = .ok (.aload_n 0, 1) := by decide +kernel
theorem dX8_isDue_90 : decode cX8_isDue 90 = .ok (.getfield 19, 3) := by decide +kernel
theorem dX8_isDue_93 : decode cX8_isDue 93 = .ok (.bipush 13, 2) := by decide +kernel
theorem dX8_isDue_95 : decode cX8_isDue 95 = .ok (.iaload, 1) := by decide +kernel
theorem dX8_isDue_96 : decode cX8_isDue 96 = .ok (.if_icmp .lt 7, 3) := by decide +kernel
theorem dX8_isDue_99 : decode cX8_isDue 99 = .ok (.iconst 1, 1) := by decide +kernel
theorem dX8_isDue_100 : decode cX8_isDue 100 = .ok (.goto 4, 3) := by decide +kernel
theorem dX8_isDue_103 : decode cX8_isDue 103 = .ok (.iconst 0, 1) := by decide +kernel
theorem dX8_isDue_104 : decode cX8_isDue 104 = .ok (.ireturn, 1) := by decide +kernel
theorem dX8_isDue_105 : decode cX8_isDue 105 = .ok (.aload_n 0, 1) := by decide +kernel
theorem dX8_isDue_106 : decode cX8_isDue 106 = .ok (.aload_n 1, 1) := by decide +kernel
theorem dX8_isDue_107 : decode cX8_isDue 107 = .ok (.bipush 14, 2) := by decide +kernel
theorem dX8_isDue_109 : decode cX8_isDue 109 = .ok (.iaload, 1) := by decide +kernel
theorem dX8_isDue_110 : decode cX8_isDue 110 = .ok (.aload_n 1, 1) := by decide +kernel
theorem dX8_isDue_111 : decode cX8_isDue 111 = .ok (.bipush 15, 2) := by decide +kernel
theorem dX8_isDue_113 : decode cX8_isDue 113 = .ok (.iaload, 1) := by decide +kernel
theorem dX8_isDue_114 : decode cX8_isDue 114 = .ok (.invokevirtual 158, 3) := by decide +kernel
theorem dX8_isDue_117 : decode cX8_isDue 117 = .ok (.aload_n 0, 1) := by decide +kernel
theorem dX8_isDue_118 : decode cX8_isDue 118 = .ok (.getfield 19, 3) := by decide +kernel
theorem dX8_isDue_121 : decode cX8_isDue 121 = .ok (.bipush 13, 2) := by decide +kernel
theorem dX8_isDue_123 : decode cX8_isDue 123 = .ok (.iaload, 1) := by decide +kernel
theorem dX8_isDue_124 : decode cX8_isDue 124 = .ok (.if_icmp .lt 7, 3) := by decide +kernel
theorem dX8_isDue_127 : decode cX8_isDue 127 = .ok (.iconst 1, 1) := by decide +kernel
theorem dX8_isDue_128 : decode cX8_isDue 128 = .ok (.goto 4, 3) := by decide +kernel
theorem dX8_isDue_131 : decode cX8_isDue 131 = .ok (.iconst 0, 1) := by decide +kernel
theorem dX8_isDue_132 : decode cX8_isDue 132 = .ok (.ireturn, 1) := by decide +kernel
set_option maxRecDepth 20000 in
theorem ggX8_goes_X8_isDue : GoodIn wsX8_goes wsX8_isDue := goodIn_r _ [5, 6, 7, 8, 9, 4, 10, 11, 12, 13, 14, 15, 16, 20, 21, 22, 23, 24, 25, 26, 27, 28, 29, 30, 31, 32, 33, 34, 35, 36, 37, 38, 39, 40, 41, 42, 43, 44, 45] (by decide +kernel) (by decide +kernel)
set_option maxRecDepth 20000 in
theorem gX8_goes_X8_isDue : GoodIn wsX8_goes (wsV RX8 162 RX8 yX8_isDue wsX8_isDue) := goodIn_app (goodIn_of _ (by decide +kernel)) ggX8_goes_X8_isDue
set_option maxRecDepth 20000 in
theorem ggX8_goes_X8_registers : GoodIn wsX8_goes wsX8_registers := goodIn_r _ [19] (by decide +kernel) (by decide +kernel)
set_option maxRecDepth 20000 in
theorem gX8_goes_X8_registers : GoodIn wsX8_goes (va_wsS RX8 142 yX8_registers wsX8_registers) := goodIn_app (goodIn_of _ (by decide +kernel)) ggX8_goes_X8_registers
theorem dX8_goes_0 : decode cX8_goes 0 = .ok (.aload_n 1, 1) := by decide +kernel
theorem dX8_goes_1 : decode cX8_goes 1 = .ok (.bipush 16, 2) := by decide +kernel
theorem dX8_goes_3 : decode cX8_goes 3 = .ok (.dup2, 1) := by decide +kernel
theorem dX8_goes_4 : decode cX8_goes 4 = .ok (.iaload, 1) := by decide +kernel
theorem dX8_goes_5 : decode cX8_goes 5 = .ok (.iload_n 2, 1) := by decide +kernel
theorem dX8_goes_6 : decode cX8_goes 6 = .ok (.aload_n 1, 1) := by decide +kernel
theorem dX8_goes_7 : decode cX8_goes 7 = .ok (.bipush 14, 2) := by decide +kernel
theorem dX8_goes_9 : decode cX8_goes 9 = .ok (.iaload, 1) := by decide +kernel
theorem dX8_goes_10 : decode cX8_goes 10 = .ok (.if_icmp .ne 7, 3) := by decide +kernel
theorem dX8_goes_13 : decode cX8_goes 13 = .ok (.iconst 0, 1) := by decide +kernel
theorem dX8_goes_14 : decode cX8_goes 14 = .ok (.goto 4, 3) := by decide +kernel
theorem dX8_goes_17 : decode cX8_goes 17 = .ok (.iconst 1, 1) := by decide +kernel
theorem dX8_goes_18 : decode cX8_goes 18 = .ok (.iadd, 1) := by decide +kernel
theorem dX8_goes_19 : decode cX8_goes 19 = .ok (.iastore, 1) := by decide +kernel
theorem dX8_goes_20 : decode cX8_goes 20 = .ok (.aload_n 1, 1) := by decide +kernel
theorem dX8_goes_21 : decode cX8_goes 21 = .ok (.bipush 14, 2) := by decide +kernel
theorem dX8_goes_23 : decode cX8_goes 23 = .ok (.iload_n 2, 1) := by decide +kernel
theorem dX8_goes_24 : decode cX8_goes 24 = .ok (.iastore, 1) := by decide +kernel
theorem dX8_goes_25 : decode cX8_goes 25 = .ok (.aload_n 1, 1) := by decide +kernel
theorem dX8_goes_26 : decode cX8_goes 26 = .ok (.bipush 17, 2) := by decide +kernel
theorem dX8_goes_28 : decode cX8_goes 28 = .ok (.dup2, 1) := by decide +kernel
theorem dX8_goes_29 : decode cX8_goes 29 = .ok (.iaload, 1) := by decide +kernel
theorem dX8_goes_30 : decode cX8_goes 30 = .ok (.iconst 1, 1) := by decide +kernel
theorem dX8_goes_31 : decode cX8_goes 31 = .ok (.iadd, 1) := by decide +kernel
theorem dX8_goes_32 : decode cX8_goes 32 = .ok (.iastore, 1) := by decide +kernel
theorem dX8_goes_33 : decode cX8_goes 33 = .ok (.aload_n 0, 1) := by decide +kernel
theorem dX8_goes_34 : decode cX8_goes 34 = .ok (.aload_n 1, 1) := by decide +kernel
theorem dX8_goes_35 : decode cX8_goes 35 = .ok (.invokevirtual 162, 3) := by decide +kernel
theorem dX8_goes_38 : decode cX8_goes 38 = .ok (.ifCond .ne 5, 3) := by decide +kernel
theorem dX8_goes_41 : decode cX8_goes 41 = .ok (.iconst 0, 1) := by decide +kernel
theorem dX8_goes_42 : decode cX8_goes 42 = .ok (.ireturn, 1) := by decide +kernel
theorem dX8_goes_43 : decode cX8_goes 43 = .ok (.aload_n 1, 1) := by decide +kernel
theorem dX8_goes_44 : decode cX8_goes 44 = .ok (.bipush 18, 2) := by decide +kernel
theorem dX8_goes_46 : decode cX8_goes 46 = .ok (.dup2, 1) := by decide +kernel
theorem dX8_goes_47 : decode cX8_goes 47 = .ok (.iaload, 1) := by decide +kernel
theorem dX8_goes_48 : decode cX8_goes 48 = .ok (.iconst 1, 1) := by decide +kernel
theorem dX8_goes_49 : decode cX8_goes 49 = .ok (.iadd, 1) := by decide +kernel
theorem dX8_goes_50 : decode cX8_goes 50 = .ok (.iastore, 1) := by decide +kernel
theorem dX8_goes_51 : decode cX8_goes 51 = .ok (.aload_n 1, 1) := by decide +kernel
theorem dX8_goes_52 : decode cX8_goes 52 = .ok (.invokestatic 142, 3) := by decide +kernel
theorem dX8_goes_55 : decode cX8_goes 55 = .ok (.iconst 1, 1) := by decide +kernel
theorem dX8_goes_56 : decode cX8_goes 56 = .ok (.ireturn, 1) := by decide +kernel
set_option maxRecDepth 20000 in
theorem ggX8_tick_X8_isCell : GoodIn wsX8_tick wsX8_isCell := goodIn_r _ [7, 8, 9, 10, 6, 11, 37, 38, 39, 40, 41, 42, 43, 44, 45, 46, 47, 48, 49, 50, 51, 52, 53, 54, 55, 56, 57, 58, 59, 60, 61, 62] (by decide +kernel) (by decide +kernel)
set_option maxRecDepth 20000 in
theorem gX8_tick_X8_isCell : GoodIn wsX8_tick (wsV RX8 136 RX8 yX8_isCell wsX8_isCell) := goodIn_app (goodIn_of _ (by decide +kernel)) ggX8_tick_X8_isCell
set_option maxRecDepth 20000 in
theorem ggX8_tick_X8_keeps : GoodIn wsX8_tick wsX8_keeps := goodIn_r _ [15, 16, 17, 1, 37, 38, 39, 40, 41, 42, 43, 44, 45, 46, 47, 48, 49, 50, 51, 52, 53, 54, 55, 56, 57, 58, 59, 60, 61, 62] (by decide +kernel) (by decide +kernel)
set_option maxRecDepth 20000 in
theorem gX8_tick_X8_keeps : GoodIn wsX8_tick (wsV RX8 139 RX8 yX8_keeps wsX8_keeps) := goodIn_app (goodIn_of _ (by decide +kernel)) ggX8_tick_X8_keeps
set_option maxRecDepth 20000 in
theorem ggX8_tick_X8_goes : GoodIn wsX8_tick wsX8_goes := goodIn_r _ [21, 22, 23, 24, 6, 25, 1, 26, 27, 28, 29, 8, 30, 31, 32, 33, 2, 34, 35, 36, 37, 38, 39, 40, 41, 42, 43, 44, 45, 46, 47, 48, 49, 50, 51, 52, 53, 54, 55, 56, 57, 58, 59, 60, 61, 62] (by decide +kernel) (by decide +kernel)
set_option maxRecDepth 20000 in
theorem gX8_tick_X8_goes : GoodIn wsX8_tick (wsV RX8 166 RX8 yX8_goes wsX8_goes) := goodIn_app (goodIn_of _ (by decide +kernel)) ggX8_tick_X8_goes
theorem dX8_tick_0 : decode cX8_tick 0 = .ok (.aload_n 0, 1) := by decide +kernel
theorem dX8_tick_1 : decode cX8_tick 1 = .ok (.iload_n 1, 1) := by decide +kernel
theorem dX8_tick_2 : decode cX8_tick 2 = .ok (.invokevirtual 136, 3) := by decide +kernel
theorem dX8_tick_5 : decode cX8_tick 5 = .ok (.ifCond .ne 5, 3) := by decide +kernel
theorem dX8_tick_8 : decode cX8_tick 8 = .ok (.iconst (-1), 1) := by decide +kernel
theorem dX8_tick_9 : decode cX8_tick 9 = .ok (.ireturn, 1) := by decide +kernel
theorem dX8_tick_10 : decode cX8_tick 10 = .ok (.aload_n 0, 1) := by decide +kernel
theorem dX8_tick_11 : decode cX8_tick 11 = .ok (.getfield 19, 3) := by decide +kernel
theorem dX8_tick_14 : decode cX8_tick 14 = .ok (.bipush 14, 2) := by decide +kernel
theorem dX8_tick_16 : decode cX8_tick 16 = .ok (.iaload, 1) := by decide +kernel
theorem dX8_tick_17 : decode cX8_tick 17 = .ok (.istore_n 2, 1) := by decide +kernel
theorem dX8_tick_18 : decode cX8_tick 18 = .ok (.iload_n 1, 1) := by decide +kernel
theorem dX8_tick_19 : decode cX8_tick 19 = .ok (.iload_n 2, 1) := by decide +kernel
theorem dX8_tick_20 : decode cX8_tick 20 = .ok (.if_icmp .ne 15, 3) := by decide +kernel
theorem dX8_tick_23 : decode cX8_tick 23 = .ok (.aload_n 0, 1) := by decide +kernel
theorem dX8_tick_24 : decode cX8_tick 24 = .ok (.getfield 19, 3) := by decide +kernel
theorem dX8_tick_27 : decode cX8_tick 27 = .ok (.iload_n 1, 1) := by decide +kernel
theorem dX8_tick_28 : decode cX8_tick 28 = .ok (.iaload, 1) := by decide +kernel
theorem dX8_tick_29 : decode cX8_tick 29 = .ok (.ifCond .ne 23, 3) := by decide +kernel
theorem dX8_tick_32 : decode cX8_tick 32 = .ok (.goto 17, 3) := by decide +kernel
theorem dX8_tick_35 : decode cX8_tick 35 = .ok (.aload_n 0, 1) := by decide +kernel
theorem dX8_tick_36 : decode cX8_tick 36 = .ok (.getfield 13, 3) := by decide +kernel
theorem dX8_tick_39 : decode cX8_tick 39 = .ok (.bipush 6, 2) := by decide +kernel
theorem dX8_tick_41 : decode cX8_tick 41 = .ok (.iload_n 2, 1) := by decide +kernel
theorem dX8_tick_42 : decode cX8_tick 42 = .ok (.imul, 1) := by decide +kernel
theorem dX8_tick_43 : decode cX8_tick 43 = .ok (.iload_n 1, 1) := by decide +kernel
theorem dX8_tick_44 : decode cX8_tick 44 = .ok (.iadd, 1) := by decide +kernel
theorem dX8_tick_45 : decode cX8_tick 45 = .ok (.iaload, 1) := by decide +kernel
theorem dX8_tick_46 : decode cX8_tick 46 = .ok (.ifCond .ne 6, 3) := by decide +kernel
theorem dX8_tick_49 : decode cX8_tick 49 = .ok (.bipush (-2), 2) := by decide +kernel
theorem dX8_tick_51 : decode cX8_tick 51 = .ok (.ireturn, 1) := by decide +kernel
theorem dX8_tick_52 : decode cX8_tick 52 = .ok (.aload_n 0, 1) := by decide +kernel
theorem dX8_tick_53 : decode cX8_tick 53 = .ok (.invokevirtual 139, 3) := by decide +kernel
theorem dX8_tick_56 : decode cX8_tick 56 = .ok (.aload_n 0, 1) := by decide +kernel
theorem dX8_tick_57 : decode cX8_tick 57 = .ok (.aload_n 0, 1) := by decide +kernel
theorem dX8_tick_58 : decode cX8_tick 58 = .ok (.getfield 19, 3) := by decide +kernel
theorem dX8_tick_61 : decode cX8_tick 61 = .ok (.iload_n 1, 1) := by decide +kernel
theorem dX8_tick_62 : decode cX8_tick 62 = .ok (.invokevirtual 166, 3) := by decide +kernel
theorem dX8_tick_65 : decode cX8_tick 65 = .ok (.ireturn, 1) := by decide +kernel
set_option maxRecDepth 20000 in
theorem ggX8_handset_X8_isIn : GoodIn wsX8_handset wsX8_isIn := goodIn_r _ [6] (by decide +kernel) (by decide +kernel)
set_option maxRecDepth 20000 in
theorem gX8_handset_X8_isIn : GoodIn wsX8_handset (va_wsS RX8 98 yX8_isIn wsX8_isIn) := goodIn_app (goodIn_of _ (by decide +kernel)) ggX8_handset_X8_isIn
theorem dX8_handset_0 : decode cX8_handset 0 = .ok (.iload_n 1, 1) := by decide +kernel
theorem dX8_handset_1 : decode cX8_handset 1 = .ok (.iconst 0, 1) := by decide +kernel
theorem dX8_handset_2 : decode cX8_handset 2 = .ok (.bipush 6, 2) := by decide +kernel
theorem dX8_handset_4 : decode cX8_handset 4 = .ok (.invokestatic 98, 3) := by decide +kernel
theorem dX8_handset_7 : decode cX8_handset 7 = .ok (.ifCond .ne 5, 3) := by decide +kernel
theorem dX8_handset_10 : decode cX8_handset 10 = .ok (.iconst (-1), 1) := by decide +kernel
theorem dX8_handset_11 : decode cX8_handset 11 = .ok (.ireturn, 1) := by decide +kernel
theorem dX8_handset_12 : decode cX8_handset 12 = .ok (.iload_n 1, 1) := by decide +kernel
theorem dX8_handset_13 : decode cX8_handset 13 = .ok (.bipush 6, 2) := by decide +kernel
theorem dX8_handset_15 : decode cX8_handset 15 = .ok (.if_icmp .ge 15, 3) := by decide +kernel
theorem dX8_handset_18 : decode cX8_handset 18 = .ok (.aload_n 0, 1) := by decide +kernel
theorem dX8_handset_19 : decode cX8_handset 19 = .ok (.getfield 19, 3) := by decide +kernel
theorem dX8_handset_22 : decode cX8_handset 22 = .ok (.bipush 14, 2) := by decide +kernel
theorem dX8_handset_24 : decode cX8_handset 24 = .ok (.iload_n 1, 1) := by decide +kernel
theorem dX8_handset_25 : decode cX8_handset 25 = .ok (.iadd, 1) := by decide +kernel
theorem dX8_handset_26 : decode cX8_handset 26 = .ok (.iaload, 1) := by decide +kernel
theorem dX8_handset_27 : decode cX8_handset 27 = .ok (.goto 32, 3) := by decide +kernel
theorem dX8_handset_30 : decode cX8_handset 30 = .ok (.aload_n 0, 1) := by decide +kernel
theorem dX8_handset_31 : decode cX8_handset 31 = .ok (.getfield 16, 3) := by decide +kernel
theorem dX8_handset_34 : decode cX8_handset 34 = .ok (.iconst 1, 1) := by decide +kernel
theorem dX8_handset_35 : decode cX8_handset 35 = .ok (.iaload, 1) := by decide +kernel
theorem dX8_handset_36 : decode cX8_handset 36 = .ok (.aload_n 0, 1) := by decide +kernel
theorem dX8_handset_37 : decode cX8_handset 37 = .ok (.getfield 19, 3) := by decide +kernel
theorem dX8_handset_40 : decode cX8_handset 40 = .ok (.bipush 19, 2) := by decide +kernel
theorem dX8_handset_42 : decode cX8_handset 42 = .ok (.iaload, 1) := by decide +kernel
theorem dX8_handset_43 : decode cX8_handset 43 = .ok (.imul, 1) := by decide +kernel
theorem dX8_handset_44 : decode cX8_handset 44 = .ok (.aload_n 0, 1) := by decide +kernel
theorem dX8_handset_45 : decode cX8_handset 45 = .ok (.getfield 16, 3) := by decide +kernel
theorem dX8_handset_48 : decode cX8_handset 48 = .ok (.iconst 2, 1) := by decide +kernel
theorem dX8_handset_49 : decode cX8_handset 49 = .ok (.iaload, 1) := by decide +kernel
theorem dX8_handset_50 : decode cX8_handset 50 = .ok (.aload_n 0, 1) := by decide +kernel
theorem dX8_handset_51 : decode cX8_handset 51 = .ok (.getfield 19, 3) := by decide +kernel
theorem dX8_handset_54 : decode cX8_handset 54 = .ok (.bipush 18, 2) := by decide +kernel
theorem dX8_handset_56 : decode cX8_handset 56 = .ok (.iaload, 1) := by decide +kernel
theorem dX8_handset_57 : decode cX8_handset 57 = .ok (.imul, 1) := by decide +kernel
theorem dX8_handset_58 : decode cX8_handset 58 = .ok (.iadd, 1) := by decide +kernel
theorem dX8_handset_59 : decode cX8_handset 59 = .ok (.ireturn, 1) := by decide +kernel
set_option maxRecDepth 20000 in
theorem ggX8_allowed_X8_far : GoodIn wsX8_allowed wsX8_far := goodIn_r _ [7, 2, 8, 9, 10, 6, 11, 12, 13, 14, 15, 16, 17, 18, 19, 20, 21, 22, 23, 24, 25, 26, 27, 28, 29, 30, 31, 32, 33, 34, 35, 36, 37, 38] (by decide +kernel) (by decide +kernel)
set_option maxRecDepth 20000 in
theorem gX8_allowed_X8_far : GoodIn wsX8_allowed (wsV RX8 158 RX8 yX8_far wsX8_far) := goodIn_app (goodIn_of _ (by decide +kernel)) ggX8_allowed_X8_far
theorem dX8_allowed_0 : decode cX8_allowed 0 = .ok (.aload_n 0, 1) := by decide +kernel
theorem dX8_allowed_1 : decode cX8_allowed 1 = .ok (.getfield 19, 3) := by decide +kernel
theorem dX8_allowed_4 : decode cX8_allowed 4 = .ok (.bipush 15, 2) := by decide +kernel
theorem dX8_allowed_6 : decode cX8_allowed 6 = .ok (.iaload, 1) := by decide +kernel
theorem dX8_allowed_7 : decode cX8_allowed 7 = .ok (.istore_n 1, 1) := by decide +kernel
theorem dX8_allowed_8 : decode cX8_allowed 8 = .ok (.iconst 0, 1) := by decide +kernel
theorem dX8_allowed_9 : decode cX8_allowed 9 = .ok (.istore_n 2, 1) := by decide +kernel
theorem dX8_allowed_10 : decode cX8_allowed 10 = .ok (.iconst 0, 1) := by decide +kernel
theorem dX8_allowed_11 : decode cX8_allowed 11 = .ok (.istore_n 3, 1) := by decide +kernel
theorem dX8_allowed_12 : decode cX8_allowed 12 = .ok (.iload_n 3, 1) := by decide +kernel
theorem dX8_allowed_13 : decode cX8_allowed 13 = .ok (.aload_n 0, 1) := by decide +kernel
theorem dX8_allowed_14 : decode cX8_allowed 14 = .ok (.getfield 76, 3) := by decide +kernel
theorem dX8_allowed_17 : decode cX8_allowed 17 = .ok (.if_icmp .ge 97, 3) := by decide +kernel
theorem dX8_allowed_20 : decode cX8_allowed 20 = .ok (.aload_n 0, 1) := by decide +kernel
theorem dX8_allowed_21 : decode cX8_allowed 21 = .ok (.getfield 19, 3) := by decide +kernel
theorem dX8_allowed_24 : decode cX8_allowed 24 = .ok (.bipush 12, 2) := by decide +kernel
theorem dX8_allowed_26 : decode cX8_allowed 26 = .ok (.iaload, 1) := by decide +kernel
theorem dX8_allowed_27 : decode cX8_allowed 27 = .ok (.ifCond .ne 32, 3) := by decide +kernel
theorem dX8_allowed_30 : decode cX8_allowed 30 = .ok (.aload_n 0, 1) := by decide +kernel
theorem dX8_allowed_31 : decode cX8_allowed 31 = .ok (.getfield 19, 3) := by decide +kernel
theorem dX8_allowed_34 : decode cX8_allowed 34 = .ok (.bipush 6, 2) := by decide +kernel
theorem dX8_allowed_36 : decode cX8_allowed 36 = .ok (.iload_n 3, 1) := by decide +kernel
theorem dX8_allowed_37 : decode cX8_allowed 37 = .ok (.iadd, 1) := by decide +kernel
theorem dX8_allowed_38 : decode cX8_allowed 38 = .ok (.iaload, 1) := by decide +kernel
theorem dX8_allowed_39 : decode cX8_allowed 39 = .ok (.aload_n 0, 1) := by decide +kernel
theorem dX8_allowed_40 : decode cX8_allowed 40 = .ok (.getfield 19, 3) := by decide +kernel
theorem dX8_allowed_43 : decode cX8_allowed 43 = .ok (.bipush 6, 2) := by decide +kernel
theorem dX8_allowed_45 : decode cX8_allowed 45 = .ok (.iload_n 1, 1) := by decide +kernel
theorem dX8_allowed_46 : decode cX8_allowed 46 = .ok (.iadd, 1) := by decide +kernel
theorem dX8_allowed_47 : decode cX8_allowed 47 = .ok (.iaload, 1) := by decide +kernel
theorem dX8_allowed_48 : decode cX8_allowed 48 = .ok (.if_icmp .ne 7, 3) := by decide +kernel
theorem dX8_allowed_51 : decode cX8_allowed 51 = .ok (.iconst 1, 1) := by decide +kernel
theorem dX8_allowed_52 : decode cX8_allowed 52 = .ok (.goto 39, 3) := by decide +kernel
theorem dX8_allowed_55 : decode cX8_allowed 55 = .ok (.iconst 0, 1) := by decide +kernel
theorem dX8_allowed_56 : decode cX8_allowed 56 = .ok (.goto 35, 3) := by decide +kernel
theorem dX8_allowed_59 : decode cX8_allowed 59 = .ok (.aload_n 0, 1) := by decide +kernel
theorem dX8_allowed_60 : decode cX8_allowed 60 = .ok (.getfield 19, 3) := by decide +kernel
theorem dX8_allowed_63 : decode cX8_allowed 63 = .ok (.bipush 12, 2) := by decide +kernel
theorem dX8_allowed_65 : decode cX8_allowed 65 = .ok (.iaload, 1) := by decide +kernel
theorem dX8_allowed_66 : decode cX8_allowed 66 = .ok (.iconst 3, 1) := by decide +kernel
theorem dX8_allowed_67 : decode cX8_allowed 67 = .ok (.if_icmp .ne 19, 3) := by decide +kernel
theorem dX8_allowed_70 : decode cX8_allowed 70 = .ok (.aload_n 0, 1) := by decide +kernel
theorem dX8_allowed_71 : decode cX8_allowed 71 = .ok (.iload_n 3, 1) := by decide +kernel
theorem dX8_allowed_72 : decode cX8_allowed 72 = .ok (.iload_n 1, 1) := by decide +kernel
theorem dX8_allowed_73 : decode cX8_allowed 73 = .ok (.invokevirtual 158, 3) := by decide +kernel
theorem dX8_allowed_76 : decode cX8_allowed 76 = .ok (.aload_n 0, 1) := by decide +kernel
theorem dX8_allowed_77 : decode cX8_allowed 77 = .ok (.getfield 19, 3) := by decide +kernel
theorem dX8_allowed_80 : decode cX8_allowed 80 = .ok (.bipush 13, 2) := by decide +kernel
theorem dX8_allowed_82 : decode cX8_allowed 82 = .ok (.iaload, 1) := by decide +kernel
theorem dX8_allowed_83 : decode cX8_allowed 83 = .ok (.if_icmp .ge 7, 3) := by decide +kernel
theorem dX8_allowed_86 : decode cX8_allowed 86 = .ok (.iconst 1, 1) := by decide +kernel
theorem dX8_allowed_87 : decode cX8_allowed 87 = .ok (.goto 4, 3) := by decide +kernel
theorem dX8_allowed_90 : decode cX8_allowed 90 = .ok (.iconst 0, 1) := by decide +kernel
theorem dX8_allowed_91 : decode cX8_allowed 91 = .ok (.istore 4, 2) := by decide +kernel
theorem dX8_allowed_93 : decode cX8_allowed 93 = .ok (.iload_n 2, 1) := by decide +kernel
theorem dX8_allowed_94 : decode cX8_allowed 94 = .ok (.iload 4, 2) := by decide +kernel
theorem dX8_allowed_96 : decode cX8_allowed 96 = .ok (.ifCond .eq 9, 3) := by decide +kernel
theorem dX8_allowed_99 : decode cX8_allowed 99 = .ok (.iconst 1, 1) := by decide +kernel
theorem dX8_allowed_100 : decode cX8_allowed 100 = .ok (.iload_n 3, 1) := by decide +kernel
theorem dX8_allowed_101 : decode cX8_allowed 101 = .ok (.ishl, 1) := by decide +kernel
theorem dX8_allowed_102 : decode cX8_allowed 102 = .ok (.goto 4, 3) := by decide +kernel
theorem dX8_allowed_105 : decode cX8_allowed 105 = .ok (.iconst 0, 1) := by decide +kernel
theorem dX8_allowed_106 : decode cX8_allowed 106 = .ok (.ior, 1) := by decide +kernel
theorem dX8_allowed_107 : decode cX8_allowed 107 = .ok (.istore_n 2, 1) := by decide +kernel
theorem dX8_allowed_108 : decode cX8_allowed 108 = .ok (.iinc 3 1, 3) := by decide +kernel
theorem dX8_allowed_111 : decode cX8_allowed 111 = .ok (.goto (-99), 3) := by decide +kernel
theorem dX8_allowed_114 : decode cX8_allowed 114 = .ok (.iload_n 2, 1) := by decide +kernel
theorem dX8_allowed_115 : decode cX8_allowed 115 = .ok (.ireturn, 1) := by decide +kernel
set_option maxRecDepth 20000 in
theorem ggX8_whereIs_X8_allowed : GoodIn wsX8_whereIs wsX8_allowed := goodIn_r _ [9, 1, 4, 10, 11, 12, 8, 13, 14, 15, 16, 17, 18, 19, 20, 21, 22, 23, 24, 25, 26, 27, 28, 29, 30, 31, 32, 33, 34, 35, 36, 37, 38, 39, 40, 41, 42, 43, 44] (by decide +kernel) (by decide +kernel)
set_option maxRecDepth 20000 in
theorem gX8_whereIs_X8_allowed : GoodIn wsX8_whereIs (wsV RX8 170 RX8 yX8_allowed wsX8_allowed) := goodIn_app (goodIn_of _ (by decide +kernel)) ggX8_whereIs_X8_allowed
set_option maxRecDepth 20000 in
theorem ggX8_whereIs_X8_joined : GoodIn wsX8_whereIs wsX8_joined := goodIn_r _ [17, 4, 18, 19, 20, 21, 22, 23, 24, 25, 26, 27, 28, 29, 30, 31, 32, 33, 34, 35, 36, 37, 38, 39, 40, 41, 42, 43, 44] (by decide +kernel) (by decide +kernel)
set_option maxRecDepth 20000 in
theorem gX8_whereIs_X8_joined : GoodIn wsX8_whereIs (wsV RX8 152 RX8 yX8_joined wsX8_joined) := goodIn_app (goodIn_of _ (by decide +kernel)) ggX8_whereIs_X8_joined
theorem dX8_whereIs_0 : decode cX8_whereIs 0 = .ok (.aload_n 0, 1) := by decide +kernel
theorem dX8_whereIs_1 : decode cX8_whereIs 1 = .ok (.invokevirtual 170, 3) := by decide +kernel
theorem dX8_whereIs_4 : decode cX8_whereIs 4 = .ok (.istore_n 1, 1) := by decide +kernel
theorem dX8_whereIs_5 : decode cX8_whereIs 5 = .ok (.aload_n 0, 1) := by decide +kernel
theorem dX8_whereIs_6 : decode cX8_whereIs 6 = .ok (.getfield 19, 3) := by decide +kernel
theorem dX8_whereIs_9 : decode cX8_whereIs 9 = .ok (.bipush 12, 2) := by decide +kernel
theorem dX8_whereIs_11 : decode cX8_whereIs 11 = .ok (.iaload, 1) := by decide +kernel
theorem dX8_whereIs_12 : decode cX8_whereIs 12 = .ok (.iconst 1, 1) := by decide +kernel
theorem dX8_whereIs_13 : decode cX8_whereIs 13 = .ok (.if_icmp .ne 15, 3) := by decide +kernel
theorem dX8_whereIs_16 : decode cX8_whereIs 16 = .ok (.aload_n 0, 1) := by decide +kernel
theorem dX8_whereIs_17 : decode cX8_whereIs 17 = .ok (.getfield 19, 3) := by decide +kernel
theorem dX8_whereIs_20 : decode cX8_whereIs 20 = .ok (.bipush 13, 2) := by decide +kernel
theorem dX8_whereIs_22 : decode cX8_whereIs 22 = .ok (.iaload, 1) := by decide +kernel
theorem dX8_whereIs_23 : decode cX8_whereIs 23 = .ok (.iconst 1, 1) := by decide +kernel
theorem dX8_whereIs_24 : decode cX8_whereIs 24 = .ok (.isub, 1) := by decide +kernel
theorem dX8_whereIs_25 : decode cX8_whereIs 25 = .ok (.goto 4, 3) := by decide +kernel
theorem dX8_whereIs_28 : decode cX8_whereIs 28 = .ok (.iconst 0, 1) := by decide +kernel
theorem dX8_whereIs_29 : decode cX8_whereIs 29 = .ok (.istore_n 2, 1) := by decide +kernel
theorem dX8_whereIs_30 : decode cX8_whereIs 30 = .ok (.iconst 0, 1) := by decide +kernel
theorem dX8_whereIs_31 : decode cX8_whereIs 31 = .ok (.istore_n 3, 1) := by decide +kernel
theorem dX8_whereIs_32 : decode cX8_whereIs 32 = .ok (.iload_n 3, 1) := by decide +kernel
theorem dX8_whereIs_33 : decode cX8_whereIs 33 = .ok (.bipush 10, 2) := by decide +kernel
theorem dX8_whereIs_35 : decode cX8_whereIs 35 = .ok (.if_icmp .ge 32, 3) := by decide +kernel
theorem dX8_whereIs_38 : decode cX8_whereIs 38 = .ok (.aload_n 0, 1) := by decide +kernel
theorem dX8_whereIs_39 : decode cX8_whereIs 39 = .ok (.getfield 34, 3) := by decide +kernel
theorem dX8_whereIs_42 : decode cX8_whereIs 42 = .ok (.iload_n 3, 1) := by decide +kernel
theorem dX8_whereIs_43 : decode cX8_whereIs 43 = .ok (.iload_n 3, 1) := by decide +kernel
theorem dX8_whereIs_44 : decode cX8_whereIs 44 = .ok (.ifCond .ne 15, 3) := by decide +kernel
theorem dX8_whereIs_47 : decode cX8_whereIs 47 = .ok (.iconst 1, 1) := by decide +kernel
theorem dX8_whereIs_48 : decode cX8_whereIs 48 = .ok (.aload_n 0, 1) := by decide +kernel
theorem dX8_whereIs_49 : decode cX8_whereIs 49 = .ok (.getfield 19, 3) := by decide +kernel
theorem dX8_whereIs_52 : decode cX8_whereIs 52 = .ok (.bipush 15, 2) := by decide +kernel
theorem dX8_whereIs_54 : decode cX8_whereIs 54 = .ok (.iaload, 1) := by decide +kernel
theorem dX8_whereIs_55 : decode cX8_whereIs 55 = .ok (.ishl, 1) := by decide +kernel
theorem dX8_whereIs_56 : decode cX8_whereIs 56 = .ok (.goto 4, 3) := by decide +kernel
theorem dX8_whereIs_59 : decode cX8_whereIs 59 = .ok (.iconst 0, 1) := by decide +kernel
theorem dX8_whereIs_60 : decode cX8_whereIs 60 = .ok (.iastore, 1) := by decide +kernel
theorem dX8_whereIs_61 : decode cX8_whereIs 61 = .ok (.iinc 3 1, 3) := by decide +kernel
theorem dX8_whereIs_64 : decode cX8_whereIs 64 = .ok (.goto (-32), 3) := by decide +kernel
theorem dX8_whereIs_67 : decode cX8_whereIs 67 = .ok (.iconst 0, 1) := by decide +kernel
theorem dX8_whereIs_68 : decode cX8_whereIs 68 = .ok (.istore_n 3, 1) := by decide +kernel
theorem dX8_whereIs_69 : decode cX8_whereIs 69 = .ok (.iload_n 3, 1) := by decide +kernel
theorem dX8_whereIs_70 : decode cX8_whereIs 70 = .ok (.aload_n 0, 1) := by decide +kernel
theorem dX8_whereIs_71 : decode cX8_whereIs 71 = .ok (.getfield 19, 3) := by decide +kernel
theorem dX8_whereIs_74 : decode cX8_whereIs 74 = .ok (.bipush 17, 2) := by decide +kernel
theorem dX8_whereIs_76 : decode cX8_whereIs 76 = .ok (.iaload, 1) := by decide +kernel
theorem dX8_whereIs_77 : decode cX8_whereIs 77 = .ok (.if_icmp .ge 190, 3) := by decide +kernel
theorem dX8_whereIs_80 : decode cX8_whereIs 80 = .ok (.iconst 0, 1) := by decide +kernel
theorem dX8_whereIs_81 : decode cX8_whereIs 81 = .ok (.istore 4, 2) := by decide +kernel
theorem dX8_whereIs_83 : decode cX8_whereIs 83 = .ok (.iload 4, 2) := by decide +kernel
theorem dX8_whereIs_85 : decode cX8_whereIs 85 = .ok (.bipush 10, 2) := by decide +kernel
theorem dX8_whereIs_87 : decode cX8_whereIs 87 = .ok (.if_icmp .ge 17, 3) := by decide +kernel
theorem dX8_whereIs_90 : decode cX8_whereIs 90 = .ok (.aload_n 0, 1) := by decide +kernel
theorem dX8_whereIs_91 : decode cX8_whereIs 91 = .ok (.getfield 37, 3) := by decide +kernel
theorem dX8_whereIs_94 : decode cX8_whereIs 94 = .ok (.iload 4, 2) := by decide +kernel
theorem dX8_whereIs_96 : decode cX8_whereIs 96 = .ok (.iconst 0, 1) := by decide +kernel
theorem dX8_whereIs_97 : decode cX8_whereIs 97 = .ok (.iastore, 1) := by decide +kernel
theorem dX8_whereIs_98 : decode cX8_whereIs 98 = .ok (.iinc 4 1, 3) := by decide +kernel
theorem dX8_whereIs_101 : decode cX8_whereIs 101 = .ok (.goto (-18), 3) := by decide +kernel
theorem dX8_whereIs_104 : decode cX8_whereIs 104 = .ok (.iconst 0, 1) := by decide +kernel
theorem dX8_whereIs_105 : decode cX8_whereIs 105 = .ok (.istore 4, 2) := by decide +kernel
theorem dX8_whereIs_107 : decode cX8_whereIs 107 = .ok (.iload 4, 2) := by decide +kernel
theorem dX8_whereIs_109 : decode cX8_whereIs 109 = .ok (.iload_n 2, 1) := by decide +kernel
theorem dX8_whereIs_110 : decode cX8_whereIs 110 = .ok (.if_icmp .gt 121, 3) := by decide +kernel
theorem dX8_whereIs_113 : decode cX8_whereIs 113 = .ok (.iconst 0, 1) := by decide +kernel
theorem dX8_whereIs_114 : decode cX8_whereIs 114 = .ok (.istore 5, 2) := by decide +kernel
theorem dX8_whereIs_116 : decode cX8_whereIs 116 = .ok (.iload 5, 2) := by decide +kernel
theorem dX8_whereIs_118 : decode cX8_whereIs 118 = .ok (.aload_n 0, 1) := by decide +kernel
theorem dX8_whereIs_119 : decode cX8_whereIs 119 = .ok (.getfield 76, 3) := by decide +kernel
theorem dX8_whereIs_122 : decode cX8_whereIs 122 = .ok (.if_icmp .ge 103, 3) := by decide +kernel
theorem dX8_whereIs_125 : decode cX8_whereIs 125 = .ok (.aload_n 0, 1) := by decide +kernel
theorem dX8_whereIs_126 : decode cX8_whereIs 126 = .ok (.getfield 34, 3) := by decide +kernel
theorem dX8_whereIs_129 : decode cX8_whereIs 129 = .ok (.iload 4, 2) := by decide +kernel
theorem dX8_whereIs_131 : decode cX8_whereIs 131 = .ok (.iaload, 1) := by decide +kernel
theorem dX8_whereIs_132 : decode cX8_whereIs 132 = .ok (.iload 5, 2) := by decide +kernel
theorem dX8_whereIs_134 : decode cX8_whereIs 134 = .ok (.ishr, 1) := by decide +kernel
theorem dX8_whereIs_135 : decode cX8_whereIs 135 = .ok (.iconst 1, 1) := by decide +kernel
theorem dX8_whereIs_136 : decode cX8_whereIs 136 = .ok (.iand, 1) := by decide +kernel
theorem dX8_whereIs_137 : decode cX8_whereIs 137 = .ok (.iconst 1, 1) := by decide +kernel
theorem dX8_whereIs_138 : decode cX8_whereIs 138 = .ok (.if_icmp .ne 81, 3) := by decide +kernel
theorem dX8_whereIs_141 : decode cX8_whereIs 141 = .ok (.aload_n 0, 1) := by decide +kernel
theorem dX8_whereIs_142 : decode cX8_whereIs 142 = .ok (.getfield 37, 3) := by decide +kernel
theorem dX8_whereIs_145 : decode cX8_whereIs 145 = .ok (.iload 4, 2) := by decide +kernel
theorem dX8_whereIs_147 : decode cX8_whereIs 147 = .ok (.dup2, 1) := by decide +kernel
theorem dX8_whereIs_148 : decode cX8_whereIs 148 = .ok (.iaload, 1) := by decide +kernel
theorem dX8_whereIs_149 : decode cX8_whereIs 149 = .ok (.aload_n 0, 1) := by decide +kernel
theorem dX8_whereIs_150 : decode cX8_whereIs 150 = .ok (.getfield 19, 3) := by decide +kernel
theorem dX8_whereIs_153 : decode cX8_whereIs 153 = .ok (.iload 5, 2) := by decide +kernel
theorem dX8_whereIs_155 : decode cX8_whereIs 155 = .ok (.iaload, 1) := by decide +kernel
theorem dX8_whereIs_156 : decode cX8_whereIs 156 = .ok (.ifCond .le 10, 3) := by decide +kernel
theorem dX8_whereIs_159 : decode cX8_whereIs 159 = .ok (.iconst 1, 1) := by decide +kernel
theorem dX8_whereIs_160 : decode cX8_whereIs 160 = .ok (.iload 5, 2) := by decide +kernel
theorem dX8_whereIs_162 : decode cX8_whereIs 162 = .ok (.ishl, 1) := by decide +kernel
theorem dX8_whereIs_163 : decode cX8_whereIs 163 = .ok (.goto 4, 3) := by decide +kernel
theorem dX8_whereIs_166 : decode cX8_whereIs 166 = .ok (.iconst 0, 1) := by decide +kernel
theorem dX8_whereIs_167 : decode cX8_whereIs 167 = .ok (.ior, 1) := by decide +kernel
theorem dX8_whereIs_168 : decode cX8_whereIs 168 = .ok (.iastore, 1) := by decide +kernel
theorem dX8_whereIs_169 : decode cX8_whereIs 169 = .ok (.aload_n 0, 1) := by decide +kernel
theorem dX8_whereIs_170 : decode cX8_whereIs 170 = .ok (.getfield 19, 3) := by decide +kernel
theorem dX8_whereIs_173 : decode cX8_whereIs 173 = .ok (.bipush 12, 2) := by decide +kernel
theorem dX8_whereIs_175 : decode cX8_whereIs 175 = .ok (.iaload, 1) := by decide +kernel
theorem dX8_whereIs_176 : decode cX8_whereIs 176 = .ok (.iconst 1, 1) := by decide +kernel
theorem dX8_whereIs_177 : decode cX8_whereIs 177 = .ok (.if_icmp .ne 10, 3) := by decide +kernel
theorem dX8_whereIs_180 : decode cX8_whereIs 180 = .ok (.iload 4, 2) := by decide +kernel
theorem dX8_whereIs_182 : decode cX8_whereIs 182 = .ok (.iconst 1, 1) := by decide +kernel
theorem dX8_whereIs_183 : decode cX8_whereIs 183 = .ok (.iadd, 1) := by decide +kernel
theorem dX8_whereIs_184 : decode cX8_whereIs 184 = .ok (.goto 5, 3) := by decide +kernel
theorem dX8_whereIs_187 : decode cX8_whereIs 187 = .ok (.iload 4, 2) := by decide +kernel
theorem dX8_whereIs_189 : decode cX8_whereIs 189 = .ok (.istore 6, 2) := by decide +kernel
theorem dX8_whereIs_191 : decode cX8_whereIs 191 = .ok (.aload_n 0, 1) := by decide +kernel
theorem dX8_whereIs_192 : decode cX8_whereIs 192 = .ok (.getfield 37, 3) := by decide +kernel
theorem dX8_whereIs_195 : decode cX8_whereIs 195 = .ok (.iload 6, 2) := by decide +kernel
theorem dX8_whereIs_197 : decode cX8_whereIs 197 = .ok (.dup2, 1) := by decide +kernel
theorem dX8_whereIs_198 : decode cX8_whereIs 198 = .ok (.iaload, 1) := by decide +kernel
theorem dX8_whereIs_199 : decode cX8_whereIs 199 = .ok (.iload 6, 2) := by decide +kernel
theorem dX8_whereIs_201 : decode cX8_whereIs 201 = .ok (.iload_n 2, 1) := by decide +kernel
theorem dX8_whereIs_202 : decode cX8_whereIs 202 = .ok (.if_icmp .gt 14, 3) := by decide +kernel
theorem dX8_whereIs_205 : decode cX8_whereIs 205 = .ok (.aload_n 0, 1) := by decide +kernel
theorem dX8_whereIs_206 : decode cX8_whereIs 206 = .ok (.iload 5, 2) := by decide +kernel
theorem dX8_whereIs_208 : decode cX8_whereIs 208 = .ok (.invokevirtual 152, 3) := by decide +kernel
theorem dX8_whereIs_211 : decode cX8_whereIs 211 = .ok (.iload_n 1, 1) := by decide +kernel
theorem dX8_whereIs_212 : decode cX8_whereIs 212 = .ok (.iand, 1) := by decide +kernel
theorem dX8_whereIs_213 : decode cX8_whereIs 213 = .ok (.goto 4, 3) := by decide +kernel
theorem dX8_whereIs_216 : decode cX8_whereIs 216 = .ok (.iconst 0, 1) := by decide +kernel
theorem dX8_whereIs_217 : decode cX8_whereIs 217 = .ok (.ior, 1) := by decide +kernel
theorem dX8_whereIs_218 : decode cX8_whereIs 218 = .ok (.iastore, 1) := by decide +kernel
theorem dX8_whereIs_219 : decode cX8_whereIs 219 = .ok (.iinc 5 1, 3) := by decide +kernel
theorem dX8_whereIs_222 : decode cX8_whereIs 222 = .ok (.goto (-106), 3) := by decide +kernel
theorem dX8_whereIs_225 : decode cX8_whereIs 225 = .ok (.iinc 4 1, 3) := by decide +kernel
theorem dX8_whereIs_228 : decode cX8_whereIs 228 = .ok (.goto (-121), 3) := by decide +kernel
theorem dX8_whereIs_231 : decode cX8_whereIs 231 = .ok (.iconst 0, 1) := by decide +kernel
theorem dX8_whereIs_232 : decode cX8_whereIs 232 = .ok (.istore 4, 2) := by decide +kernel
theorem dX8_whereIs_234 : decode cX8_whereIs 234 = .ok (.iload 4, 2) := by decide +kernel
theorem dX8_whereIs_236 : decode cX8_whereIs 236 = .ok (.bipush 10, 2) := by decide +kernel
theorem dX8_whereIs_238 : decode cX8_whereIs 238 = .ok (.if_icmp .ge 23, 3) := by decide +kernel
theorem dX8_whereIs_241 : decode cX8_whereIs 241 = .ok (.aload_n 0, 1) := by decide +kernel
theorem dX8_whereIs_242 : decode cX8_whereIs 242 = .ok (.getfield 34, 3) := by decide +kernel
theorem dX8_whereIs_245 : decode cX8_whereIs 245 = .ok (.iload 4, 2) := by decide +kernel
theorem dX8_whereIs_247 : decode cX8_whereIs 247 = .ok (.aload_n 0, 1) := by decide +kernel
theorem dX8_whereIs_248 : decode cX8_whereIs 248 = .ok (.getfield 37, 3) := by decide +kernel
theorem dX8_whereIs_251 : decode cX8_whereIs 251 = .ok (.iload 4, 2) := by decide +kernel
theorem dX8_whereIs_253 : decode cX8_whereIs 253 = .ok (.iaload, 1) := by decide +kernel
theorem dX8_whereIs_254 : decode cX8_whereIs 254 = .ok (.iastore, 1) := by decide +kernel
theorem dX8_whereIs_255 : decode cX8_whereIs 255 = .ok (.iinc 4 1, 3) := by decide +kernel
theorem dX8_whereIs_258 : decode cX8_whereIs 258 = .ok (.goto (-24), 3) := by decide +kernel
theorem dX8_whereIs_261 : decode cX8_whereIs 261 = .ok (.iinc 3 1, 3) := by decide +kernel
theorem dX8_whereIs_264 : decode cX8_whereIs 264 = .ok (.goto (-195), 3) := by decide +kernel
theorem dX8_whereIs_267 : decode cX8_whereIs 267 = .ok (.iconst 0, 1) := by decide +kernel
theorem dX8_whereIs_268 : decode cX8_whereIs 268 = .ok (.istore_n 3, 1) := by decide +kernel
theorem dX8_whereIs_269 : decode cX8_whereIs 269 = .ok (.iconst 0, 1) := by decide +kernel
theorem dX8_whereIs_270 : decode cX8_whereIs 270 = .ok (.istore 4, 2) := by decide +kernel
theorem dX8_whereIs_272 : decode cX8_whereIs 272 = .ok (.iload 4, 2) := by decide +kernel
theorem dX8_whereIs_274 : decode cX8_whereIs 274 = .ok (.iload_n 2, 1) := by decide +kernel
theorem dX8_whereIs_275 : decode cX8_whereIs 275 = .ok (.if_icmp .gt 19, 3) := by decide +kernel
theorem dX8_whereIs_278 : decode cX8_whereIs 278 = .ok (.iload_n 3, 1) := by decide +kernel
theorem dX8_whereIs_279 : decode cX8_whereIs 279 = .ok (.aload_n 0, 1) := by decide +kernel
theorem dX8_whereIs_280 : decode cX8_whereIs 280 = .ok (.getfield 34, 3) := by decide +kernel
theorem dX8_whereIs_283 : decode cX8_whereIs 283 = .ok (.iload 4, 2) := by decide +kernel
theorem dX8_whereIs_285 : decode cX8_whereIs 285 = .ok (.iaload, 1) := by decide +kernel
theorem dX8_whereIs_286 : decode cX8_whereIs 286 = .ok (.ior, 1) := by decide +kernel
theorem dX8_whereIs_287 : decode cX8_whereIs 287 = .ok (.istore_n 3, 1) := by decide +kernel
theorem dX8_whereIs_288 : decode cX8_whereIs 288 = .ok (.iinc 4 1, 3) := by decide +kernel
theorem dX8_whereIs_291 : decode cX8_whereIs 291 = .ok (.goto (-19), 3) := by decide +kernel
theorem dX8_whereIs_294 : decode cX8_whereIs 294 = .ok (.iload_n 3, 1) := by decide +kernel
theorem dX8_whereIs_295 : decode cX8_whereIs 295 = .ok (.ireturn, 1) := by decide +kernel
set_option maxRecDepth 20000 in
theorem ggX8_where_X8_whereIs : GoodIn wsX8_where wsX8_whereIs := goodIn_r _ [5, 6, 7, 8, 9, 10, 11, 12, 4, 13, 14, 15, 16, 17, 18, 19, 20, 21, 22, 23, 24, 25, 26, 27, 28, 29, 30, 31, 32, 33, 34, 35, 36, 37, 38, 39, 40, 41, 42, 43, 44, 45, 46, 47, 48] (by decide +kernel) (by decide +kernel)
set_option maxRecDepth 20000 in
theorem gX8_where_X8_whereIs : GoodIn wsX8_where (wsV RX8 173 RX8 yX8_whereIs wsX8_whereIs) := goodIn_app (goodIn_of _ (by decide +kernel)) ggX8_where_X8_whereIs
theorem dX8_where_0 : decode cX8_where 0 = .ok (.aload_n 0, 1) := by decide +kernel
theorem dX8_where_1 : decode cX8_where 1 = .ok (.invokevirtual 173, 3) := by decide +kernel
theorem dX8_where_4 : decode cX8_where 4 = .ok (.ireturn, 1) := by decide +kernel
theorem dX8_determinant_0 : decode cX8_determinant 0 = .ok (.lconst 1, 1) := by decide +kernel
theorem dX8_determinant_1 : decode cX8_determinant 1 = .ok (.lstore_n 2, 1) := by decide +kernel
theorem dX8_determinant_2 : decode cX8_determinant 2 = .ok (.iconst 0, 1) := by decide +kernel
theorem dX8_determinant_3 : decode cX8_determinant 3 = .ok (.istore 4, 2) := by decide +kernel
theorem dX8_determinant_5 : decode cX8_determinant 5 = .ok (.iload 4, 2) := by decide +kernel
theorem dX8_determinant_7 : decode cX8_determinant 7 = .ok (.iconst 1, 1) := by decide +kernel
theorem dX8_determinant_8 : decode cX8_determinant 8 = .ok (.iadd, 1) := by decide +kernel
theorem dX8_determinant_9 : decode cX8_determinant 9 = .ok (.iload_n 1, 1) := by decide +kernel
theorem dX8_determinant_10 : decode cX8_determinant 10 = .ok (.if_icmp .ge 123, 3) := by decide +kernel
theorem dX8_determinant_13 : decode cX8_determinant 13 = .ok (.iload 4, 2) := by decide +kernel
theorem dX8_determinant_15 : decode cX8_determinant 15 = .ok (.iconst 1, 1) := by decide +kernel
theorem dX8_determinant_16 : decode cX8_determinant 16 = .ok (.iadd, 1) := by decide +kernel
theorem dX8_determinant_17 : decode cX8_determinant 17 = .ok (.istore 5, 2) := by decide +kernel
theorem dX8_determinant_19 : decode cX8_determinant 19 = .ok (.iload 5, 2) := by decide +kernel
theorem dX8_determinant_21 : decode cX8_determinant 21 = .ok (.iload_n 1, 1) := by decide +kernel
theorem dX8_determinant_22 : decode cX8_determinant 22 = .ok (.if_icmp .ge 92, 3) := by decide +kernel
theorem dX8_determinant_25 : decode cX8_determinant 25 = .ok (.iload 4, 2) := by decide +kernel
theorem dX8_determinant_27 : decode cX8_determinant 27 = .ok (.iconst 1, 1) := by decide +kernel
theorem dX8_determinant_28 : decode cX8_determinant 28 = .ok (.iadd, 1) := by decide +kernel
theorem dX8_determinant_29 : decode cX8_determinant 29 = .ok (.istore 6, 2) := by decide +kernel
theorem dX8_determinant_31 : decode cX8_determinant 31 = .ok (.iload 6, 2) := by decide +kernel
theorem dX8_determinant_33 : decode cX8_determinant 33 = .ok (.iload_n 1, 1) := by decide +kernel
theorem dX8_determinant_34 : decode cX8_determinant 34 = .ok (.if_icmp .ge 74, 3) := by decide +kernel
theorem dX8_determinant_37 : decode cX8_determinant 37 = .ok (.aload_n 0, 1) := by decide +kernel
theorem dX8_determinant_38 : decode cX8_determinant 38 = .ok (.getfield 44, 3) := by decide +kernel
theorem dX8_determinant_41 : decode cX8_determinant 41 = .ok (.iconst 5, 1) := by decide +kernel
theorem dX8_determinant_42 : decode cX8_determinant 42 = .ok (.iload 5, 2) := by decide +kernel
theorem dX8_determinant_44 : decode cX8_determinant 44 = .ok (.imul, 1) := by decide +kernel
theorem dX8_determinant_45 : decode cX8_determinant 45 = .ok (.iload 6, 2) := by decide +kernel
theorem dX8_determinant_47 : decode cX8_determinant 47 = .ok (.iadd, 1) := by decide +kernel
theorem dX8_determinant_48 : decode cX8_determinant 48 = .ok (.aload_n 0, 1) := by decide +kernel
theorem dX8_determinant_49 : decode cX8_determinant 49 = .ok (.getfield 44, 3) := by decide +kernel
theorem dX8_determinant_52 : decode cX8_determinant 52 = .ok (.iconst 5, 1) := by decide +kernel
theorem dX8_determinant_53 : decode cX8_determinant 53 = .ok (.iload 5, 2) := by decide +kernel
theorem dX8_determinant_55 : decode cX8_determinant 55 = .ok (.imul, 1) := by decide +kernel
theorem dX8_determinant_56 : decode cX8_determinant 56 = .ok (.iload 6, 2) := by decide +kernel
theorem dX8_determinant_58 : decode cX8_determinant 58 = .ok (.iadd, 1) := by decide +kernel
theorem dX8_determinant_59 : decode cX8_determinant 59 = .ok (.laload, 1) := by decide +kernel
theorem dX8_determinant_60 : decode cX8_determinant 60 = .ok (.aload_n 0, 1) := by decide +kernel
theorem dX8_determinant_61 : decode cX8_determinant 61 = .ok (.getfield 44, 3) := by decide +kernel
theorem dX8_determinant_64 : decode cX8_determinant 64 = .ok (.iconst 5, 1) := by decide +kernel
theorem dX8_determinant_65 : decode cX8_determinant 65 = .ok (.iload 4, 2) := by decide +kernel
theorem dX8_determinant_67 : decode cX8_determinant 67 = .ok (.imul, 1) := by decide +kernel
theorem dX8_determinant_68 : decode cX8_determinant 68 = .ok (.iload 4, 2) := by decide +kernel
theorem dX8_determinant_70 : decode cX8_determinant 70 = .ok (.iadd, 1) := by decide +kernel
theorem dX8_determinant_71 : decode cX8_determinant 71 = .ok (.laload, 1) := by decide +kernel
