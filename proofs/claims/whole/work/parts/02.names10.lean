theorem dX8_keeps_73 : decode cX8_keeps 73 = .ok (.iload_n 1, 1) := by decide +kernel
theorem dX8_keeps_74 : decode cX8_keeps 74 = .ok (.iaload, 1) := by decide +kernel
theorem dX8_keeps_75 : decode cX8_keeps 75 = .ok (.iastore, 1) := by decide +kernel
theorem dX8_keeps_76 : decode cX8_keeps 76 = .ok (.iinc 1 1, 3) := by decide +kernel
theorem dX8_keeps_79 : decode cX8_keeps 79 = .ok (.goto (-29), 3) := by decide +kernel
theorem dX8_keeps_82 : decode cX8_keeps 82 = .ok (.aload_n 0, 1) := by decide +kernel
theorem dX8_keeps_83 : decode cX8_keeps 83 = .ok (.dup, 1) := by decide +kernel
theorem dX8_keeps_84 : decode cX8_keeps 84 = .ok (.getfield 82, 3) := by decide +kernel
theorem dX8_keeps_87 : decode cX8_keeps 87 = .ok (.iconst 1, 1) := by decide +kernel
theorem dX8_keeps_88 : decode cX8_keeps 88 = .ok (.iadd, 1) := by decide +kernel
theorem dX8_keeps_89 : decode cX8_keeps 89 = .ok (.putfield 82, 3) := by decide +kernel
theorem dX8_keeps_92 : decode cX8_keeps 92 = .ok (.return_, 1) := by decide +kernel
theorem dX8_undo_0 : decode cX8_undo 0 = .ok (.aload_n 0, 1) := by decide +kernel
theorem dX8_undo_1 : decode cX8_undo 1 = .ok (.getfield 82, 3) := by decide +kernel
theorem dX8_undo_4 : decode cX8_undo 4 = .ok (.ifCond .ne 6, 3) := by decide +kernel
theorem dX8_undo_7 : decode cX8_undo 7 = .ok (.bipush (-2), 2) := by decide +kernel
theorem dX8_undo_9 : decode cX8_undo 9 = .ok (.ireturn, 1) := by decide +kernel
theorem dX8_undo_10 : decode cX8_undo 10 = .ok (.aload_n 0, 1) := by decide +kernel
theorem dX8_undo_11 : decode cX8_undo 11 = .ok (.dup, 1) := by decide +kernel
theorem dX8_undo_12 : decode cX8_undo 12 = .ok (.getfield 82, 3) := by decide +kernel
theorem dX8_undo_15 : decode cX8_undo 15 = .ok (.iconst 1, 1) := by decide +kernel
theorem dX8_undo_16 : decode cX8_undo 16 = .ok (.isub, 1) := by decide +kernel
theorem dX8_undo_17 : decode cX8_undo 17 = .ok (.putfield 82, 3) := by decide +kernel
theorem dX8_undo_20 : decode cX8_undo 20 = .ok (.iconst 0, 1) := by decide +kernel
theorem dX8_undo_21 : decode cX8_undo 21 = .ok (.istore_n 1, 1) := by decide +kernel
theorem dX8_undo_22 : decode cX8_undo 22 = .ok (.iload_n 1, 1) := by decide +kernel
theorem dX8_undo_23 : decode cX8_undo 23 = .ok (.bipush 20, 2) := by decide +kernel
theorem dX8_undo_25 : decode cX8_undo 25 = .ok (.if_icmp .ge 29, 3) := by decide +kernel
theorem dX8_undo_28 : decode cX8_undo 28 = .ok (.aload_n 0, 1) := by decide +kernel
theorem dX8_undo_29 : decode cX8_undo 29 = .ok (.getfield 19, 3) := by decide +kernel
theorem dX8_undo_32 : decode cX8_undo 32 = .ok (.iload_n 1, 1) := by decide +kernel
theorem dX8_undo_33 : decode cX8_undo 33 = .ok (.aload_n 0, 1) := by decide +kernel
theorem dX8_undo_34 : decode cX8_undo 34 = .ok (.getfield 22, 3) := by decide +kernel
theorem dX8_undo_37 : decode cX8_undo 37 = .ok (.bipush 20, 2) := by decide +kernel
theorem dX8_undo_39 : decode cX8_undo 39 = .ok (.aload_n 0, 1) := by decide +kernel
theorem dX8_undo_40 : decode cX8_undo 40 = .ok (.getfield 82, 3) := by decide +kernel
theorem dX8_undo_43 : decode cX8_undo 43 = .ok (.imul, 1) := by decide +kernel
theorem dX8_undo_44 : decode cX8_undo 44 = .ok (.iload_n 1, 1) := by decide +kernel
theorem dX8_undo_45 : decode cX8_undo 45 = .ok (.iadd, 1) := by decide +kernel
theorem dX8_undo_46 : decode cX8_undo 46 = .ok (.iaload, 1) := by decide +kernel
theorem dX8_undo_47 : decode cX8_undo 47 = .ok (.iastore, 1) := by decide +kernel
theorem dX8_undo_48 : decode cX8_undo 48 = .ok (.iinc 1 1, 3) := by decide +kernel
theorem dX8_undo_51 : decode cX8_undo 51 = .ok (.goto (-29), 3) := by decide +kernel
theorem dX8_undo_54 : decode cX8_undo 54 = .ok (.aload_n 0, 1) := by decide +kernel
theorem dX8_undo_55 : decode cX8_undo 55 = .ok (.getfield 82, 3) := by decide +kernel
theorem dX8_undo_58 : decode cX8_undo 58 = .ok (.ireturn, 1) := by decide +kernel
set_option maxRecDepth 20000 in
theorem ggX8_isCell_X8_isIn : GoodIn wsX8_isCell wsX8_isIn := goodIn_r _ [5] (by decide +kernel) (by decide +kernel)
set_option maxRecDepth 20000 in
theorem gX8_isCell_X8_isIn : GoodIn wsX8_isCell (va_wsS RX8 98 yX8_isIn wsX8_isIn) := goodIn_app (goodIn_of _ (by decide +kernel)) ggX8_isCell_X8_isIn
theorem dX8_isCell_0 : decode cX8_isCell 0 = .ok (.iload_n 1, 1) := by decide +kernel
theorem dX8_isCell_1 : decode cX8_isCell 1 = .ok (.iconst 0, 1) := by decide +kernel
theorem dX8_isCell_2 : decode cX8_isCell 2 = .ok (.aload_n 0, 1) := by decide +kernel
theorem dX8_isCell_3 : decode cX8_isCell 3 = .ok (.getfield 76, 3) := by decide +kernel
theorem dX8_isCell_6 : decode cX8_isCell 6 = .ok (.iconst 1, 1) := by decide +kernel
theorem dX8_isCell_7 : decode cX8_isCell 7 = .ok (.isub, 1) := by decide +kernel
theorem dX8_isCell_8 : decode cX8_isCell 8 = .ok (.invokestatic 98, 3) := by decide +kernel
theorem dX8_isCell_11 : decode cX8_isCell 11 = .ok (.ireturn, 1) := by decide +kernel
theorem dX8_registers_0 : decode cX8_registers 0 = .ok (.aload_n 0, 1) := by decide +kernel
theorem dX8_registers_1 : decode cX8_registers 1 = .ok (.bipush 15, 2) := by decide +kernel
theorem dX8_registers_3 : decode cX8_registers 3 = .ok (.aload_n 0, 1) := by decide +kernel
theorem dX8_registers_4 : decode cX8_registers 4 = .ok (.bipush 14, 2) := by decide +kernel
theorem dX8_registers_6 : decode cX8_registers 6 = .ok (.iaload, 1) := by decide +kernel
theorem dX8_registers_7 : decode cX8_registers 7 = .ok (.iastore, 1) := by decide +kernel
theorem dX8_registers_8 : decode cX8_registers 8 = .ok (.aload_n 0, 1) := by decide +kernel
theorem dX8_registers_9 : decode cX8_registers 9 = .ok (.bipush 16, 2) := by decide +kernel
theorem dX8_registers_11 : decode cX8_registers 11 = .ok (.iconst 0, 1) := by decide +kernel
theorem dX8_registers_12 : decode cX8_registers 12 = .ok (.iastore, 1) := by decide +kernel
theorem dX8_registers_13 : decode cX8_registers 13 = .ok (.aload_n 0, 1) := by decide +kernel
theorem dX8_registers_14 : decode cX8_registers 14 = .ok (.bipush 17, 2) := by decide +kernel
theorem dX8_registers_16 : decode cX8_registers 16 = .ok (.iconst 0, 1) := by decide +kernel
theorem dX8_registers_17 : decode cX8_registers 17 = .ok (.iastore, 1) := by decide +kernel
theorem dX8_registers_18 : decode cX8_registers 18 = .ok (.return_, 1) := by decide +kernel
set_option maxRecDepth 20000 in
theorem ggX8_set_X8_isCell : GoodIn wsX8_set wsX8_isCell := goodIn_r _ [6, 7, 8, 9, 5, 10, 20, 21, 22, 23, 24, 25, 26, 27, 28, 29, 30, 31, 32, 33, 34, 35, 36, 37, 38, 39, 40, 41, 42, 43, 44, 45] (by decide +kernel) (by decide +kernel)
set_option maxRecDepth 20000 in
theorem gX8_set_X8_isCell : GoodIn wsX8_set (wsV RX8 136 RX8 yX8_isCell wsX8_isCell) := goodIn_app (goodIn_of _ (by decide +kernel)) ggX8_set_X8_isCell
set_option maxRecDepth 20000 in
theorem ggX8_set_X8_isIn : GoodIn wsX8_set wsX8_isIn := goodIn_r _ [10] (by decide +kernel) (by decide +kernel)
set_option maxRecDepth 20000 in
theorem gX8_set_X8_isIn : GoodIn wsX8_set (va_wsS RX8 98 yX8_isIn wsX8_isIn) := goodIn_app (goodIn_of _ (by decide +kernel)) ggX8_set_X8_isIn
set_option maxRecDepth 20000 in
theorem ggX8_set_X8_keeps : GoodIn wsX8_set wsX8_keeps := goodIn_r _ [14, 15, 16, 1, 20, 21, 22, 23, 24, 25, 26, 27, 28, 29, 30, 31, 32, 33, 34, 35, 36, 37, 38, 39, 40, 41, 42, 43, 44, 45] (by decide +kernel) (by decide +kernel)
set_option maxRecDepth 20000 in
theorem gX8_set_X8_keeps : GoodIn wsX8_set (wsV RX8 139 RX8 yX8_keeps wsX8_keeps) := goodIn_app (goodIn_of _ (by decide +kernel)) ggX8_set_X8_keeps
set_option maxRecDepth 20000 in
theorem ggX8_set_X8_registers : GoodIn wsX8_set wsX8_registers := goodIn_r _ [19] (by decide +kernel) (by decide +kernel)
set_option maxRecDepth 20000 in
theorem gX8_set_X8_registers : GoodIn wsX8_set (va_wsS RX8 142 yX8_registers wsX8_registers) := goodIn_app (goodIn_of _ (by decide +kernel)) ggX8_set_X8_registers
theorem dX8_set_0 : decode cX8_set 0 = .ok (.aload_n 0, 1) := by decide +kernel
theorem dX8_set_1 : decode cX8_set 1 = .ok (.iload_n 1, 1) := by decide +kernel
theorem dX8_set_2 : decode cX8_set 2 = .ok (.invokevirtual 136, 3) := by decide +kernel
theorem dX8_set_5 : decode cX8_set 5 = .ok (.ifCond .eq 30, 3) := by decide +kernel
theorem dX8_set_8 : decode cX8_set 8 = .ok (.iload_n 2, 1) := by decide +kernel
theorem dX8_set_9 : decode cX8_set 9 = .ok (.iconst 0, 1) := by decide +kernel
theorem dX8_set_10 : decode cX8_set 10 = .ok (.iconst 1, 1) := by decide +kernel
theorem dX8_set_11 : decode cX8_set 11 = .ok (.invokestatic 98, 3) := by decide +kernel
theorem dX8_set_14 : decode cX8_set 14 = .ok (.ifCond .eq 21, 3) := by decide +kernel
theorem dX8_set_17 : decode cX8_set 17 = .ok (.iload_n 3, 1) := by decide +kernel
theorem dX8_set_18 : decode cX8_set 18 = .ok (.iconst 0, 1) := by decide +kernel
theorem dX8_set_19 : decode cX8_set 19 = .ok (.iload_n 2, 1) := by decide +kernel
theorem dX8_set_20 : decode cX8_set 20 = .ok (.ifCond .ne 8, 3) := by decide +kernel
theorem dX8_set_23 : decode cX8_set 23 = .ok (.bipush 9, 2) := by decide +kernel
theorem dX8_set_25 : decode cX8_set 25 = .ok (.goto 4, 3) := by decide +kernel
theorem dX8_set_28 : decode cX8_set 28 = .ok (.iconst 5, 1) := by decide +kernel
theorem dX8_set_29 : decode cX8_set 29 = .ok (.invokestatic 98, 3) := by decide +kernel
theorem dX8_set_32 : decode cX8_set 32 = .ok (.ifCond .ne 5, 3) := by decide +kernel
theorem dX8_set_35 : decode cX8_set 35 = .ok (.iconst (-1), 1) := by decide +kernel
theorem dX8_set_36 : decode cX8_set 36 = .ok (.ireturn, 1) := by decide +kernel
theorem dX8_set_37 : decode cX8_set 37 = .ok (.aload_n 0, 1) := by decide +kernel
theorem dX8_set_38 : decode cX8_set 38 = .ok (.getfield 19, 3) := by decide +kernel
theorem dX8_set_41 : decode cX8_set 41 = .ok (.bipush 6, 2) := by decide +kernel
theorem dX8_set_43 : decode cX8_set 43 = .ok (.iload_n 2, 1) := by decide +kernel
theorem dX8_set_44 : decode cX8_set 44 = .ok (.imul, 1) := by decide +kernel
theorem dX8_set_45 : decode cX8_set 45 = .ok (.iload_n 1, 1) := by decide +kernel
theorem dX8_set_46 : decode cX8_set 46 = .ok (.iadd, 1) := by decide +kernel
theorem dX8_set_47 : decode cX8_set 47 = .ok (.iaload, 1) := by decide +kernel
theorem dX8_set_48 : decode cX8_set 48 = .ok (.istore 4, 2) := by decide +kernel
theorem dX8_set_50 : decode cX8_set 50 = .ok (.iload 4, 2) := by decide +kernel
theorem dX8_set_52 : decode cX8_set 52 = .ok (.iload_n 3, 1) := by decide +kernel
theorem dX8_set_53 : decode cX8_set 53 = .ok (.if_icmp .ne 6, 3) := by decide +kernel
theorem dX8_set_56 : decode cX8_set 56 = .ok (.bipush (-2), 2) := by decide +kernel
theorem dX8_set_58 : decode cX8_set 58 = .ok (.ireturn, 1) := by decide +kernel
theorem dX8_set_59 : decode cX8_set 59 = .ok (.aload_n 0, 1) := by decide +kernel
theorem dX8_set_60 : decode cX8_set 60 = .ok (.invokevirtual 139, 3) := by decide +kernel
theorem dX8_set_63 : decode cX8_set 63 = .ok (.aload_n 0, 1) := by decide +kernel
theorem dX8_set_64 : decode cX8_set 64 = .ok (.getfield 19, 3) := by decide +kernel
theorem dX8_set_67 : decode cX8_set 67 = .ok (.bipush 6, 2) := by decide +kernel
theorem dX8_set_69 : decode cX8_set 69 = .ok (.iload_n 2, 1) := by decide +kernel
theorem dX8_set_70 : decode cX8_set 70 = .ok (.imul, 1) := by decide +kernel
theorem dX8_set_71 : decode cX8_set 71 = .ok (.iload_n 1, 1) := by decide +kernel
theorem dX8_set_72 : decode cX8_set 72 = .ok (.iadd, 1) := by decide +kernel
theorem dX8_set_73 : decode cX8_set 73 = .ok (.iload_n 3, 1) := by decide +kernel
theorem dX8_set_74 : decode cX8_set 74 = .ok (.iastore, 1) := by decide +kernel
theorem dX8_set_75 : decode cX8_set 75 = .ok (.aload_n 0, 1) := by decide +kernel
theorem dX8_set_76 : decode cX8_set 76 = .ok (.getfield 19, 3) := by decide +kernel
theorem dX8_set_79 : decode cX8_set 79 = .ok (.invokestatic 142, 3) := by decide +kernel
theorem dX8_set_82 : decode cX8_set 82 = .ok (.iload 4, 2) := by decide +kernel
theorem dX8_set_84 : decode cX8_set 84 = .ok (.ireturn, 1) := by decide +kernel
set_option maxRecDepth 20000 in
theorem ggX8_law_X8_isLaw : GoodIn wsX8_law wsX8_isLaw := goodIn_r _ [5, 6, 7, 4, 8] (by decide +kernel) (by decide +kernel)
set_option maxRecDepth 20000 in
theorem gX8_law_X8_isLaw : GoodIn wsX8_law (va_wsS RX8 109 yX8_isLaw wsX8_isLaw) := goodIn_app (goodIn_of _ (by decide +kernel)) ggX8_law_X8_isLaw
set_option maxRecDepth 20000 in
theorem ggX8_law_X8_keeps : GoodIn wsX8_law wsX8_keeps := goodIn_r _ [12, 13, 14, 1, 18, 19, 20, 21, 22, 23, 24, 25, 26, 27, 28, 29, 30, 31, 32, 33, 34, 35, 36, 37, 38, 39, 40, 41, 42, 43] (by decide +kernel) (by decide +kernel)
set_option maxRecDepth 20000 in
theorem gX8_law_X8_keeps : GoodIn wsX8_law (wsV RX8 139 RX8 yX8_keeps wsX8_keeps) := goodIn_app (goodIn_of _ (by decide +kernel)) ggX8_law_X8_keeps
set_option maxRecDepth 20000 in
theorem ggX8_law_X8_registers : GoodIn wsX8_law wsX8_registers := goodIn_r _ [17] (by decide +kernel) (by decide +kernel)
set_option maxRecDepth 20000 in
theorem gX8_law_X8_registers : GoodIn wsX8_law (va_wsS RX8 142 yX8_registers wsX8_registers) := goodIn_app (goodIn_of _ (by decide +kernel)) ggX8_law_X8_registers
theorem dX8_law_0 : decode cX8_law 0 = .ok (.iload_n 1, 1) := by decide +kernel
theorem dX8_law_1 : decode cX8_law 1 = .ok (.iload_n 2, 1) := by decide +kernel
theorem dX8_law_2 : decode cX8_law 2 = .ok (.invokestatic 109, 3) := by decide +kernel
theorem dX8_law_5 : decode cX8_law 5 = .ok (.ifCond .ne 5, 3) := by decide +kernel
theorem dX8_law_8 : decode cX8_law 8 = .ok (.iconst (-1), 1) := by decide +kernel
theorem dX8_law_9 : decode cX8_law 9 = .ok (.ireturn, 1) := by decide +kernel
theorem dX8_law_10 : decode cX8_law 10 = .ok (.bipush 10, 2) := by decide +kernel
theorem dX8_law_12 : decode cX8_law 12 = .ok (.aload_n 0, 1) := by decide +kernel
theorem dX8_law_13 : decode cX8_law 13 = .ok (.getfield 19, 3) := by decide +kernel
theorem dX8_law_16 : decode cX8_law 16 = .ok (.bipush 12, 2) := by decide +kernel
theorem dX8_law_18 : decode cX8_law 18 = .ok (.iaload, 1) := by decide +kernel
theorem dX8_law_19 : decode cX8_law 19 = .ok (.imul, 1) := by decide +kernel
theorem dX8_law_20 : decode cX8_law 20 = .ok (.aload_n 0, 1) := by decide +kernel
theorem dX8_law_21 : decode cX8_law 21 = .ok (.getfield 19, 3) := by decide +kernel
theorem dX8_law_24 : decode cX8_law 24 = .ok (.bipush 13, 2) := by decide +kernel
theorem dX8_law_26 : decode cX8_law 26 = .ok (.iaload, 1) := by decide +kernel
theorem dX8_law_27 : decode cX8_law 27 = .ok (.iadd, 1) := by decide +kernel
theorem dX8_law_28 : decode cX8_law 28 = .ok (.istore_n 3, 1) := by decide +kernel
theorem dX8_law_29 : decode cX8_law 29 = .ok (.iload_n 3, 1) := by decide +kernel
theorem dX8_law_30 : decode cX8_law 30 = .ok (.bipush 10, 2) := by decide +kernel
theorem dX8_law_32 : decode cX8_law 32 = .ok (.iload_n 1, 1) := by decide +kernel
theorem dX8_law_33 : decode cX8_law 33 = .ok (.imul, 1) := by decide +kernel
theorem dX8_law_34 : decode cX8_law 34 = .ok (.iload_n 2, 1) := by decide +kernel
theorem dX8_law_35 : decode cX8_law 35 = .ok (.iadd, 1) := by decide +kernel
theorem dX8_law_36 : decode cX8_law 36 = .ok (.if_icmp .ne 6, 3) := by decide +kernel
theorem dX8_law_39 : decode cX8_law 39 = .ok (.bipush (-2), 2) := by decide +kernel
theorem dX8_law_41 : decode cX8_law 41 = .ok (.ireturn, 1) := by decide +kernel
theorem dX8_law_42 : decode cX8_law 42 = .ok (.aload_n 0, 1) := by decide +kernel
theorem dX8_law_43 : decode cX8_law 43 = .ok (.invokevirtual 139, 3) := by decide +kernel
theorem dX8_law_46 : decode cX8_law 46 = .ok (.aload_n 0, 1) := by decide +kernel
theorem dX8_law_47 : decode cX8_law 47 = .ok (.getfield 19, 3) := by decide +kernel
theorem dX8_law_50 : decode cX8_law 50 = .ok (.bipush 12, 2) := by decide +kernel
theorem dX8_law_52 : decode cX8_law 52 = .ok (.iload_n 1, 1) := by decide +kernel
theorem dX8_law_53 : decode cX8_law 53 = .ok (.iastore, 1) := by decide +kernel
theorem dX8_law_54 : decode cX8_law 54 = .ok (.aload_n 0, 1) := by decide +kernel
theorem dX8_law_55 : decode cX8_law 55 = .ok (.getfield 19, 3) := by decide +kernel
theorem dX8_law_58 : decode cX8_law 58 = .ok (.bipush 13, 2) := by decide +kernel
theorem dX8_law_60 : decode cX8_law 60 = .ok (.iload_n 2, 1) := by decide +kernel
theorem dX8_law_61 : decode cX8_law 61 = .ok (.iastore, 1) := by decide +kernel
theorem dX8_law_62 : decode cX8_law 62 = .ok (.aload_n 0, 1) := by decide +kernel
theorem dX8_law_63 : decode cX8_law 63 = .ok (.getfield 19, 3) := by decide +kernel
theorem dX8_law_66 : decode cX8_law 66 = .ok (.invokestatic 142, 3) := by decide +kernel
theorem dX8_law_69 : decode cX8_law 69 = .ok (.iload_n 3, 1) := by decide +kernel
theorem dX8_law_70 : decode cX8_law 70 = .ok (.ireturn, 1) := by decide +kernel
theorem dX8_out_0 : decode cX8_out 0 = .ok (.iconst 0, 1) := by decide +kernel
theorem dX8_out_1 : decode cX8_out 1 = .ok (.istore_n 2, 1) := by decide +kernel
theorem dX8_out_2 : decode cX8_out 2 = .ok (.iconst 0, 1) := by decide +kernel
theorem dX8_out_3 : decode cX8_out 3 = .ok (.istore_n 3, 1) := by decide +kernel
theorem dX8_out_4 : decode cX8_out 4 = .ok (.iload_n 3, 1) := by decide +kernel
theorem dX8_out_5 : decode cX8_out 5 = .ok (.aload_n 0, 1) := by decide +kernel
theorem dX8_out_6 : decode cX8_out 6 = .ok (.getfield 76, 3) := by decide +kernel
theorem dX8_out_9 : decode cX8_out 9 = .ok (.if_icmp .ge 23, 3) := by decide +kernel
theorem dX8_out_12 : decode cX8_out 12 = .ok (.iload_n 2, 1) := by decide +kernel
theorem dX8_out_13 : decode cX8_out 13 = .ok (.aload_n 0, 1) := by decide +kernel
theorem dX8_out_14 : decode cX8_out 14 = .ok (.getfield 13, 3) := by decide +kernel
theorem dX8_out_17 : decode cX8_out 17 = .ok (.bipush 6, 2) := by decide +kernel
theorem dX8_out_19 : decode cX8_out 19 = .ok (.iload_n 1, 1) := by decide +kernel
theorem dX8_out_20 : decode cX8_out 20 = .ok (.imul, 1) := by decide +kernel
theorem dX8_out_21 : decode cX8_out 21 = .ok (.iload_n 3, 1) := by decide +kernel
theorem dX8_out_22 : decode cX8_out 22 = .ok (.iadd, 1) := by decide +kernel
theorem dX8_out_23 : decode cX8_out 23 = .ok (.iaload, 1) := by decide +kernel
theorem dX8_out_24 : decode cX8_out 24 = .ok (.iadd, 1) := by decide +kernel
theorem dX8_out_25 : decode cX8_out 25 = .ok (.istore_n 2, 1) := by decide +kernel
theorem dX8_out_26 : decode cX8_out 26 = .ok (.iinc 3 1, 3) := by decide +kernel
theorem dX8_out_29 : decode cX8_out 29 = .ok (.goto (-25), 3) := by decide +kernel
theorem dX8_out_32 : decode cX8_out 32 = .ok (.iload_n 2, 1) := by decide +kernel
theorem dX8_out_33 : decode cX8_out 33 = .ok (.ireturn, 1) := by decide +kernel
set_option maxRecDepth 20000 in
theorem ggX8_sum_X8_out : GoodIn wsX8_sum wsX8_out := goodIn_r _ [6, 7, 8, 9, 10, 11, 12, 13, 14, 15, 16, 17, 18, 19, 20, 21, 22, 23, 24, 25, 26, 27, 28, 29, 30, 31, 32, 33, 34] (by decide +kernel) (by decide +kernel)
set_option maxRecDepth 20000 in
theorem gX8_sum_X8_out : GoodIn wsX8_sum (wsV RX8 146 RX8 yX8_out wsX8_out) := goodIn_app (goodIn_of _ (by decide +kernel)) ggX8_sum_X8_out
theorem dX8_sum_0 : decode cX8_sum 0 = .ok (.aload_n 0, 1) := by decide +kernel
theorem dX8_sum_1 : decode cX8_sum 1 = .ok (.iload_n 1, 1) := by decide +kernel
theorem dX8_sum_2 : decode cX8_sum 2 = .ok (.invokevirtual 146, 3) := by decide +kernel
theorem dX8_sum_5 : decode cX8_sum 5 = .ok (.aload_n 0, 1) := by decide +kernel
theorem dX8_sum_6 : decode cX8_sum 6 = .ok (.getfield 19, 3) := by decide +kernel
theorem dX8_sum_9 : decode cX8_sum 9 = .ok (.iload_n 1, 1) := by decide +kernel
theorem dX8_sum_10 : decode cX8_sum 10 = .ok (.iaload, 1) := by decide +kernel
theorem dX8_sum_11 : decode cX8_sum 11 = .ok (.iadd, 1) := by decide +kernel
theorem dX8_sum_12 : decode cX8_sum 12 = .ok (.ireturn, 1) := by decide +kernel
theorem dX8_joined_0 : decode cX8_joined 0 = .ok (.iconst 0, 1) := by decide +kernel
theorem dX8_joined_1 : decode cX8_joined 1 = .ok (.istore_n 2, 1) := by decide +kernel
theorem dX8_joined_2 : decode cX8_joined 2 = .ok (.iconst 0, 1) := by decide +kernel
theorem dX8_joined_3 : decode cX8_joined 3 = .ok (.istore_n 3, 1) := by decide +kernel
theorem dX8_joined_4 : decode cX8_joined 4 = .ok (.iload_n 3, 1) := by decide +kernel
theorem dX8_joined_5 : decode cX8_joined 5 = .ok (.aload_n 0, 1) := by decide +kernel
theorem dX8_joined_6 : decode cX8_joined 6 = .ok (.getfield 76, 3) := by decide +kernel
theorem dX8_joined_9 : decode cX8_joined 9 = .ok (.if_icmp .ge 33, 3) := by decide +kernel
theorem dX8_joined_12 : decode cX8_joined 12 = .ok (.iload_n 2, 1) := by decide +kernel
theorem dX8_joined_13 : decode cX8_joined 13 = .ok (.aload_n 0, 1) := by decide +kernel
theorem dX8_joined_14 : decode cX8_joined 14 = .ok (.getfield 13, 3) := by decide +kernel
theorem dX8_joined_17 : decode cX8_joined 17 = .ok (.bipush 6, 2) := by decide +kernel
theorem dX8_joined_19 : decode cX8_joined 19 = .ok (.iload_n 1, 1) := by decide +kernel
theorem dX8_joined_20 : decode cX8_joined 20 = .ok (.imul, 1) := by decide +kernel
theorem dX8_joined_21 : decode cX8_joined 21 = .ok (.iload_n 3, 1) := by decide +kernel
theorem dX8_joined_22 : decode cX8_joined 22 = .ok (.iadd, 1) := by decide +kernel
theorem dX8_joined_23 : decode cX8_joined 23 = .ok (.iaload, 1) := by decide +kernel
theorem dX8_joined_24 : decode cX8_joined 24 = .ok (.ifCond .le 9, 3) := by decide +kernel
theorem dX8_joined_27 : decode cX8_joined 27 = .ok (.iconst 1, 1) := by decide +kernel
theorem dX8_joined_28 : decode cX8_joined 28 = .ok (.iload_n 3, 1) := by decide +kernel
theorem dX8_joined_29 : decode cX8_joined 29 = .ok (.ishl, 1) := by decide +kernel
theorem dX8_joined_30 : decode cX8_joined 30 = .ok (.goto 4, 3) := by decide +kernel
theorem dX8_joined_33 : decode cX8_joined 33 = .ok (.iconst 0, 1) := by decide +kernel
theorem dX8_joined_34 : decode cX8_joined 34 = .ok (.ior, 1) := by decide +kernel
theorem dX8_joined_35 : decode cX8_joined 35 = .ok (.istore_n 2, 1) := by decide +kernel
theorem dX8_joined_36 : decode cX8_joined 36 = .ok (.iinc 3 1, 3) := by decide +kernel
theorem dX8_joined_39 : decode cX8_joined 39 = .ok (.goto (-35), 3) := by decide +kernel
theorem dX8_joined_42 : decode cX8_joined 42 = .ok (.iload_n 2, 1) := by decide +kernel
theorem dX8_joined_43 : decode cX8_joined 43 = .ok (.ireturn, 1) := by decide +kernel
theorem dX8_likeArea_0 : decode cX8_likeArea 0 = .ok (.iconst 0, 1) := by decide +kernel
theorem dX8_likeArea_1 : decode cX8_likeArea 1 = .ok (.istore_n 2, 1) := by decide +kernel
theorem dX8_likeArea_2 : decode cX8_likeArea 2 = .ok (.iconst 0, 1) := by decide +kernel
theorem dX8_likeArea_3 : decode cX8_likeArea 3 = .ok (.istore_n 3, 1) := by decide +kernel
theorem dX8_likeArea_4 : decode cX8_likeArea 4 = .ok (.iload_n 3, 1) := by decide +kernel
theorem dX8_likeArea_5 : decode cX8_likeArea 5 = .ok (.aload_n 0, 1) := by decide +kernel
theorem dX8_likeArea_6 : decode cX8_likeArea 6 = .ok (.getfield 76, 3) := by decide +kernel
theorem dX8_likeArea_9 : decode cX8_likeArea 9 = .ok (.if_icmp .ge 30, 3) := by decide +kernel
theorem dX8_likeArea_12 : decode cX8_likeArea 12 = .ok (.iload_n 2, 1) := by decide +kernel
theorem dX8_likeArea_13 : decode cX8_likeArea 13 = .ok (.aload_n 0, 1) := by decide +kernel
theorem dX8_likeArea_14 : decode cX8_likeArea 14 = .ok (.getfield 19, 3) := by decide +kernel
theorem dX8_likeArea_17 : decode cX8_likeArea 17 = .ok (.bipush 6, 2) := by decide +kernel
theorem dX8_likeArea_19 : decode cX8_likeArea 19 = .ok (.iload_n 3, 1) := by decide +kernel
theorem dX8_likeArea_20 : decode cX8_likeArea 20 = .ok (.iadd, 1) := by decide +kernel
theorem dX8_likeArea_21 : decode cX8_likeArea 21 = .ok (.iaload, 1) := by decide +kernel
theorem dX8_likeArea_22 : decode cX8_likeArea 22 = .ok (.iload_n 1, 1) := by decide +kernel
theorem dX8_likeArea_23 : decode cX8_likeArea 23 = .ok (.if_icmp .ne 7, 3) := by decide +kernel
theorem dX8_likeArea_26 : decode cX8_likeArea 26 = .ok (.iconst 1, 1) := by decide +kernel
theorem dX8_likeArea_27 : decode cX8_likeArea 27 = .ok (.goto 4, 3) := by decide +kernel
theorem dX8_likeArea_30 : decode cX8_likeArea 30 = .ok (.iconst 0, 1) := by decide +kernel
theorem dX8_likeArea_31 : decode cX8_likeArea 31 = .ok (.iadd, 1) := by decide +kernel
theorem dX8_likeArea_32 : decode cX8_likeArea 32 = .ok (.istore_n 2, 1) := by decide +kernel
theorem dX8_likeArea_33 : decode cX8_likeArea 33 = .ok (.iinc 3 1, 3) := by decide +kernel
theorem dX8_likeArea_36 : decode cX8_likeArea 36 = .ok (.goto (-32), 3) := by decide +kernel
theorem dX8_likeArea_39 : decode cX8_likeArea 39 = .ok (.iload_n 2, 1) := by decide +kernel
theorem dX8_likeArea_40 : decode cX8_likeArea 40 = .ok (.ireturn, 1) := by decide +kernel
set_option maxRecDepth 20000 in
theorem ggX8_cell_X8_isCell : GoodIn wsX8_cell wsX8_isCell := goodIn_r _ [6, 7, 8, 9, 5, 10, 28, 29, 30, 31, 32, 33, 34, 35, 36, 37, 38, 39, 40, 41, 42, 43, 44, 45, 46, 47, 48, 49, 50, 51, 52, 53] (by decide +kernel) (by decide +kernel)
set_option maxRecDepth 20000 in
theorem gX8_cell_X8_isCell : GoodIn wsX8_cell (wsV RX8 136 RX8 yX8_isCell wsX8_isCell) := goodIn_app (goodIn_of _ (by decide +kernel)) ggX8_cell_X8_isCell
set_option maxRecDepth 20000 in
theorem ggX8_cell_X8_sum : GoodIn wsX8_cell wsX8_sum := goodIn_r _ [14, 1, 15, 16, 17, 5, 18, 7, 19, 28, 29, 30, 31, 32, 33, 34, 35, 36, 37, 38, 39, 40, 41, 42, 43, 44, 45, 46, 47, 48, 49, 50, 51, 52, 53] (by decide +kernel) (by decide +kernel)
set_option maxRecDepth 20000 in
theorem gX8_cell_X8_sum : GoodIn wsX8_cell (wsV RX8 149 RX8 yX8_sum wsX8_sum) := goodIn_app (goodIn_of _ (by decide +kernel)) ggX8_cell_X8_sum
set_option maxRecDepth 20000 in
theorem ggX8_cell_X8_joined : GoodIn wsX8_cell wsX8_joined := goodIn_r _ [23, 7, 19, 28, 29, 30, 31, 32, 33, 34, 35, 36, 37, 38, 39, 40, 41, 42, 43, 44, 45, 46, 47, 48, 49, 50, 51, 52, 53] (by decide +kernel) (by decide +kernel)
set_option maxRecDepth 20000 in
theorem gX8_cell_X8_joined : GoodIn wsX8_cell (wsV RX8 152 RX8 yX8_joined wsX8_joined) := goodIn_app (goodIn_of _ (by decide +kernel)) ggX8_cell_X8_joined
set_option maxRecDepth 20000 in
theorem ggX8_cell_X8_likeArea : GoodIn wsX8_cell wsX8_likeArea := goodIn_r _ [27, 7, 1, 28, 29, 30, 31, 32, 33, 34, 35, 36, 37, 38, 39, 40, 41, 42, 43, 44, 45, 46, 47, 48, 49, 50, 51, 52, 53] (by decide +kernel) (by decide +kernel)
set_option maxRecDepth 20000 in
theorem gX8_cell_X8_likeArea : GoodIn wsX8_cell (wsV RX8 155 RX8 yX8_likeArea wsX8_likeArea) := goodIn_app (goodIn_of _ (by decide +kernel)) ggX8_cell_X8_likeArea
theorem dX8_cell_0 : decode cX8_cell 0 = .ok (.aload_n 0, 1) := by decide +kernel
theorem dX8_cell_1 : decode cX8_cell 1 = .ok (.iload_n 1, 1) := by decide +kernel
theorem dX8_cell_2 : decode cX8_cell 2 = .ok (.invokevirtual 136, 3) := by decide +kernel
theorem dX8_cell_5 : decode cX8_cell 5 = .ok (.ifCond .ne 5, 3) := by decide +kernel
theorem dX8_cell_8 : decode cX8_cell 8 = .ok (.iconst (-1), 1) := by decide +kernel
theorem dX8_cell_9 : decode cX8_cell 9 = .ok (.ireturn, 1) := by decide +kernel
theorem dX8_cell_10 : decode cX8_cell 10 = .ok (.iload_n 2, 1) := by decide +kernel
theorem dX8_cell_11 : decode cX8_cell 11 = .ok (.tableswitch 76 0 4 #[33, 40, 50, 56, 62], 33) := by decide +kernel
theorem dX8_cell_44 : decode cX8_cell 44 = .ok (.aload_n 0, 1) := by decide +kernel
theorem dX8_cell_45 : decode cX8_cell 45 = .ok (.getfield 19, 3) := by decide +kernel
theorem dX8_cell_48 : decode cX8_cell 48 = .ok (.iload_n 1, 1) := by decide +kernel
theorem dX8_cell_49 : decode cX8_cell 49 = .ok (.iaload, 1) := by decide +kernel
theorem dX8_cell_50 : decode cX8_cell 50 = .ok (.ireturn, 1) := by decide +kernel
theorem dX8_cell_51 : decode cX8_cell 51 = .ok (.aload_n 0, 1) := by decide +kernel
theorem dX8_cell_52 : decode cX8_cell 52 = .ok (.getfield 19, 3) := by decide +kernel
theorem dX8_cell_55 : decode cX8_cell 55 = .ok (.bipush 6, 2) := by decide +kernel
theorem dX8_cell_57 : decode cX8_cell 57 = .ok (.iload_n 1, 1) := by decide +kernel
theorem dX8_cell_58 : decode cX8_cell 58 = .ok (.iadd, 1) := by decide +kernel
theorem dX8_cell_59 : decode cX8_cell 59 = .ok (.iaload, 1) := by decide +kernel
theorem dX8_cell_60 : decode cX8_cell 60 = .ok (.ireturn, 1) := by decide +kernel
theorem dX8_cell_61 : decode cX8_cell 61 = .ok (.aload_n 0, 1) := by decide +kernel
theorem dX8_cell_62 : decode cX8_cell 62 = .ok (.iload_n 1, 1) := by decide +kernel
theorem dX8_cell_63 : decode cX8_cell 63 = .ok (.invokevirtual 149, 3) := by decide +kernel
theorem dX8_cell_66 : decode cX8_cell 66 = .ok (.ireturn, 1) := by decide +kernel
theorem dX8_cell_67 : decode cX8_cell 67 = .ok (.aload_n 0, 1) := by decide +kernel
theorem dX8_cell_68 : decode cX8_cell 68 = .ok (.iload_n 1, 1) := by decide +kernel
theorem dX8_cell_69 : decode cX8_cell 69 = .ok (.invokevirtual 152, 3) := by decide +kernel
theorem dX8_cell_72 : decode cX8_cell 72 = .ok (.ireturn, 1) := by decide +kernel
theorem dX8_cell_73 : decode cX8_cell 73 = .ok (.aload_n 0, 1) := by decide +kernel
theorem dX8_cell_74 : decode cX8_cell 74 = .ok (.aload_n 0, 1) := by decide +kernel
theorem dX8_cell_75 : decode cX8_cell 75 = .ok (.getfield 19, 3) := by decide +kernel
theorem dX8_cell_78 : decode cX8_cell 78 = .ok (.bipush 6, 2) := by decide +kernel
theorem dX8_cell_80 : decode cX8_cell 80 = .ok (.iload_n 1, 1) := by decide +kernel
theorem dX8_cell_81 : decode cX8_cell 81 = .ok (.iadd, 1) := by decide +kernel
theorem dX8_cell_82 : decode cX8_cell 82 = .ok (.iaload, 1) := by decide +kernel
theorem dX8_cell_83 : decode cX8_cell 83 = .ok (.invokevirtual 155, 3) := by decide +kernel
theorem dX8_cell_86 : decode cX8_cell 86 = .ok (.ireturn, 1) := by decide +kernel
theorem dX8_cell_87 : decode cX8_cell 87 = .ok (.iconst (-1), 1) := by decide +kernel
theorem dX8_cell_88 : decode cX8_cell 88 = .ok (.ireturn, 1) := by decide +kernel
set_option maxRecDepth 20000 in
theorem ggX8_weight_X8_isCell : GoodIn wsX8_weight wsX8_isCell := goodIn_r _ [6, 7, 8, 9, 5, 10, 11, 12, 13, 14, 15, 16, 17, 18, 19, 20, 21, 22, 23, 24, 25, 26, 27, 28, 29, 30, 31, 32, 33, 34, 35, 36] (by decide +kernel) (by decide +kernel)
set_option maxRecDepth 20000 in
theorem gX8_weight_X8_isCell : GoodIn wsX8_weight (wsV RX8 136 RX8 yX8_isCell wsX8_isCell) := goodIn_app (goodIn_of _ (by decide +kernel)) ggX8_weight_X8_isCell
theorem dX8_weight_0 : decode cX8_weight 0 = .ok (.aload_n 0, 1) := by decide +kernel
theorem dX8_weight_1 : decode cX8_weight 1 = .ok (.iload_n 1, 1) := by decide +kernel
theorem dX8_weight_2 : decode cX8_weight 2 = .ok (.invokevirtual 136, 3) := by decide +kernel
theorem dX8_weight_5 : decode cX8_weight 5 = .ok (.ifCond .eq 30, 3) := by decide +kernel
theorem dX8_weight_8 : decode cX8_weight 8 = .ok (.aload_n 0, 1) := by decide +kernel
theorem dX8_weight_9 : decode cX8_weight 9 = .ok (.iload_n 2, 1) := by decide +kernel
theorem dX8_weight_10 : decode cX8_weight 10 = .ok (.invokevirtual 136, 3) := by decide +kernel
theorem dX8_weight_13 : decode cX8_weight 13 = .ok (.ifCond .eq 22, 3) := by decide +kernel
theorem dX8_weight_16 : decode cX8_weight 16 = .ok (.iload_n 1, 1) := by decide +kernel
theorem dX8_weight_17 : decode cX8_weight 17 = .ok (.iload_n 2, 1) := by decide +kernel
theorem dX8_weight_18 : decode cX8_weight 18 = .ok (.if_icmp .eq 17, 3) := by decide +kernel
theorem dX8_weight_21 : decode cX8_weight 21 = .ok (.aload_n 0, 1) := by decide +kernel
theorem dX8_weight_22 : decode cX8_weight 22 = .ok (.getfield 13, 3) := by decide +kernel
theorem dX8_weight_25 : decode cX8_weight 25 = .ok (.bipush 6, 2) := by decide +kernel
theorem dX8_weight_27 : decode cX8_weight 27 = .ok (.iload_n 1, 1) := by decide +kernel
theorem dX8_weight_28 : decode cX8_weight 28 = .ok (.imul, 1) := by decide +kernel
theorem dX8_weight_29 : decode cX8_weight 29 = .ok (.iload_n 2, 1) := by decide +kernel
theorem dX8_weight_30 : decode cX8_weight 30 = .ok (.iadd, 1) := by decide +kernel
theorem dX8_weight_31 : decode cX8_weight 31 = .ok (.iaload, 1) := by decide +kernel
theorem dX8_weight_32 : decode cX8_weight 32 = .ok (.goto 4, 3) := by decide +kernel
theorem dX8_weight_35 : decode cX8_weight 35 = .ok (.iconst (-1), 1) := by decide +kernel
theorem dX8_weight_36 : decode cX8_weight 36 = .ok (.ireturn, 1) := by decide +kernel
set_option maxRecDepth 20000 in
theorem ggX8_far_X8_joined : GoodIn wsX8_far wsX8_joined := goodIn_r _ [6, 1, 7, 8, 9, 10, 11, 12, 13, 14, 15, 16, 17, 18, 19, 20, 21, 22, 23, 24, 25, 26, 27, 28, 29, 30, 31, 32, 33] (by decide +kernel) (by decide +kernel)
set_option maxRecDepth 20000 in
theorem gX8_far_X8_joined : GoodIn wsX8_far (wsV RX8 152 RX8 yX8_joined wsX8_joined) := goodIn_app (goodIn_of _ (by decide +kernel)) ggX8_far_X8_joined
theorem dX8_far_0 : decode cX8_far 0 = .ok (.iconst 1, 1) := by decide +kernel
theorem dX8_far_1 : decode cX8_far 1 = .ok (.iload_n 1, 1) := by decide +kernel
theorem dX8_far_2 : decode cX8_far 2 = .ok (.ishl, 1) := by decide +kernel
theorem dX8_far_3 : decode cX8_far 3 = .ok (.istore_n 3, 1) := by decide +kernel
theorem dX8_far_4 : decode cX8_far 4 = .ok (.iconst 0, 1) := by decide +kernel
theorem dX8_far_5 : decode cX8_far 5 = .ok (.istore 4, 2) := by decide +kernel
theorem dX8_far_7 : decode cX8_far 7 = .ok (.iload_n 3, 1) := by decide +kernel
theorem dX8_far_8 : decode cX8_far 8 = .ok (.iload_n 2, 1) := by decide +kernel
theorem dX8_far_9 : decode cX8_far 9 = .ok (.ishr, 1) := by decide +kernel
theorem dX8_far_10 : decode cX8_far 10 = .ok (.iconst 1, 1) := by decide +kernel
theorem dX8_far_11 : decode cX8_far 11 = .ok (.iand, 1) := by decide +kernel
theorem dX8_far_12 : decode cX8_far 12 = .ok (.ifCond .ne 58, 3) := by decide +kernel
theorem dX8_far_15 : decode cX8_far 15 = .ok (.iload_n 3, 1) := by decide +kernel
theorem dX8_far_16 : decode cX8_far 16 = .ok (.istore 5, 2) := by decide +kernel
theorem dX8_far_18 : decode cX8_far 18 = .ok (.iconst 0, 1) := by decide +kernel
theorem dX8_far_19 : decode cX8_far 19 = .ok (.istore 6, 2) := by decide +kernel
theorem dX8_far_21 : decode cX8_far 21 = .ok (.iload 6, 2) := by decide +kernel
theorem dX8_far_23 : decode cX8_far 23 = .ok (.aload_n 0, 1) := by decide +kernel
theorem dX8_far_24 : decode cX8_far 24 = .ok (.getfield 76, 3) := by decide +kernel
theorem dX8_far_27 : decode cX8_far 27 = .ok (.if_icmp .ge 34, 3) := by decide +kernel
theorem dX8_far_30 : decode cX8_far 30 = .ok (.iload 5, 2) := by decide +kernel
theorem dX8_far_32 : decode cX8_far 32 = .ok (.iload_n 3, 1) := by decide +kernel
theorem dX8_far_33 : decode cX8_far 33 = .ok (.iload 6, 2) := by decide +kernel
theorem dX8_far_35 : decode cX8_far 35 = .ok (.ishr, 1) := by decide +kernel
theorem dX8_far_36 : decode cX8_far 36 = .ok (.iconst 1, 1) := by decide +kernel
theorem dX8_far_37 : decode cX8_far 37 = .ok (.iand, 1) := by decide +kernel
theorem dX8_far_38 : decode cX8_far 38 = .ok (.iconst 1, 1) := by decide +kernel
theorem dX8_far_39 : decode cX8_far 39 = .ok (.if_icmp .ne 12, 3) := by decide +kernel
theorem dX8_far_42 : decode cX8_far 42 = .ok (.aload_n 0, 1) := by decide +kernel
theorem dX8_far_43 : decode cX8_far 43 = .ok (.iload 6, 2) := by decide +kernel
theorem dX8_far_45 : decode cX8_far 45 = .ok (.invokevirtual 152, 3) := by decide +kernel
theorem dX8_far_48 : decode cX8_far 48 = .ok (.goto 4, 3) := by decide +kernel
theorem dX8_far_51 : decode cX8_far 51 = .ok (.iconst 0, 1) := by decide +kernel
theorem dX8_far_52 : decode cX8_far 52 = .ok (.ior, 1) := by decide +kernel
theorem dX8_far_53 : decode cX8_far 53 = .ok (.istore 5, 2) := by decide +kernel
theorem dX8_far_55 : decode cX8_far 55 = .ok (.iinc 6 1, 3) := by decide +kernel
theorem dX8_far_58 : decode cX8_far 58 = .ok (.goto (-37), 3) := by decide +kernel
theorem dX8_far_61 : decode cX8_far 61 = .ok (.iload 5, 2) := by decide +kernel
theorem dX8_far_63 : decode cX8_far 63 = .ok (.istore_n 3, 1) := by decide +kernel
theorem dX8_far_64 : decode cX8_far 64 = .ok (.iinc 4 1, 3) := by decide +kernel
theorem dX8_far_67 : decode cX8_far 67 = .ok (.goto (-60), 3) := by decide +kernel
theorem dX8_far_70 : decode cX8_far 70 = .ok (.iload 4, 2) := by decide +kernel
theorem dX8_far_72 : decode cX8_far 72 = .ok (.ireturn, 1) := by decide +kernel
set_option maxRecDepth 20000 in
theorem ggX8_wide_X8_isCell : GoodIn wsX8_wide wsX8_isCell := goodIn_r _ [5, 6, 7, 8, 4, 9, 19, 20, 21, 22, 23, 24, 25, 26, 27, 28, 29, 30, 31, 32, 33, 34, 35, 36, 37, 38, 39, 40, 41, 42, 43, 44] (by decide +kernel) (by decide +kernel)
set_option maxRecDepth 20000 in
theorem gX8_wide_X8_isCell : GoodIn wsX8_wide (wsV RX8 136 RX8 yX8_isCell wsX8_isCell) := goodIn_app (goodIn_of _ (by decide +kernel)) ggX8_wide_X8_isCell
set_option maxRecDepth 20000 in
theorem ggX8_wide_X8_far : GoodIn wsX8_wide wsX8_far := goodIn_r _ [13, 6, 14, 15, 16, 4, 17, 18, 19, 20, 21, 22, 23, 24, 25, 26, 27, 28, 29, 30, 31, 32, 33, 34, 35, 36, 37, 38, 39, 40, 41, 42, 43, 44] (by decide +kernel) (by decide +kernel)
set_option maxRecDepth 20000 in
theorem gX8_wide_X8_far : GoodIn wsX8_wide (wsV RX8 158 RX8 yX8_far wsX8_far) := goodIn_app (goodIn_of _ (by decide +kernel)) ggX8_wide_X8_far
theorem dX8_wide_0 : decode cX8_wide 0 = .ok (.aload_n 0, 1) := by decide +kernel
theorem dX8_wide_1 : decode cX8_wide 1 = .ok (.iload_n 1, 1) := by decide +kernel
theorem dX8_wide_2 : decode cX8_wide 2 = .ok (.invokevirtual 136, 3) := by decide +kernel
theorem dX8_wide_5 : decode cX8_wide 5 = .ok (.ifCond .eq 20, 3) := by decide +kernel
theorem dX8_wide_8 : decode cX8_wide 8 = .ok (.aload_n 0, 1) := by decide +kernel
theorem dX8_wide_9 : decode cX8_wide 9 = .ok (.iload_n 2, 1) := by decide +kernel
theorem dX8_wide_10 : decode cX8_wide 10 = .ok (.invokevirtual 136, 3) := by decide +kernel
theorem dX8_wide_13 : decode cX8_wide 13 = .ok (.ifCond .eq 12, 3) := by decide +kernel
theorem dX8_wide_16 : decode cX8_wide 16 = .ok (.aload_n 0, 1) := by decide +kernel
theorem dX8_wide_17 : decode cX8_wide 17 = .ok (.iload_n 1, 1) := by decide +kernel
theorem dX8_wide_18 : decode cX8_wide 18 = .ok (.iload_n 2, 1) := by decide +kernel
theorem dX8_wide_19 : decode cX8_wide 19 = .ok (.invokevirtual 158, 3) := by decide +kernel
theorem dX8_wide_22 : decode cX8_wide 22 = .ok (.goto 4, 3) := by decide +kernel
theorem dX8_wide_25 : decode cX8_wide 25 = .ok (.iconst (-1), 1) := by decide +kernel
theorem dX8_wide_26 : decode cX8_wide 26 = .ok (.ireturn, 1) := by decide +kernel
set_option maxRecDepth 20000 in
theorem ggX8_isDue_X8_far : GoodIn wsX8_isDue wsX8_far := goodIn_r _ [6, 7, 8, 9, 10, 5, 11, 12, 13, 14, 15, 16, 17, 18, 19, 20, 21, 22, 23, 24, 25, 26, 27, 28, 29, 30, 31, 32, 33, 34, 35, 36, 37, 38] (by decide +kernel) (by decide +kernel)
set_option maxRecDepth 20000 in
theorem gX8_isDue_X8_far : GoodIn wsX8_isDue (wsV RX8 158 RX8 yX8_far wsX8_far) := goodIn_app (goodIn_of _ (by decide +kernel)) ggX8_isDue_X8_far
theorem dX8_isDue_0 : decode cX8_isDue 0 = .ok (.aload_n 0, 1) := by decide +kernel
theorem dX8_isDue_1 : decode cX8_isDue 1 = .ok (.getfield 19, 3) := by decide +kernel
theorem dX8_isDue_4 : decode cX8_isDue 4 = .ok (.bipush 12, 2) := by decide +kernel
theorem dX8_isDue_6 : decode cX8_isDue 6 = .ok (.iaload, 1) := by decide +kernel
theorem dX8_isDue_7 : decode cX8_isDue 7 = .ok (.tableswitch 98 0 2 #[25, 58, 78], 25) := by decide +kernel
theorem dX8_isDue_32 : decode cX8_isDue 32 = .ok (.aload_n 0, 1) := by decide +kernel
theorem dX8_isDue_33 : decode cX8_isDue 33 = .ok (.getfield 19, 3) := by decide +kernel
theorem dX8_isDue_36 : decode cX8_isDue 36 = .ok (.bipush 6, 2) := by decide +kernel
theorem dX8_isDue_38 : decode cX8_isDue 38 = .ok (.aload_n 1, 1) := by decide +kernel
theorem dX8_isDue_39 : decode cX8_isDue 39 = .ok (.bipush 14, 2) := by decide +kernel
theorem dX8_isDue_41 : decode cX8_isDue 41 = .ok (.iaload, 1) := by decide +kernel
theorem dX8_isDue_42 : decode cX8_isDue 42 = .ok (.iadd, 1) := by decide +kernel
theorem dX8_isDue_43 : decode cX8_isDue 43 = .ok (.iaload, 1) := by decide +kernel
theorem dX8_isDue_44 : decode cX8_isDue 44 = .ok (.aload_n 0, 1) := by decide +kernel
theorem dX8_isDue_45 : decode cX8_isDue 45 = .ok (.getfield 19, 3) := by decide +kernel
theorem dX8_isDue_48 : decode cX8_isDue 48 = .ok (.bipush 6, 2) := by decide +kernel
theorem dX8_isDue_50 : decode cX8_isDue 50 = .ok (.aload_n 1, 1) := by decide +kernel
theorem dX8_isDue_51 : decode cX8_isDue 51 = .ok (.bipush 15, 2) := by decide +kernel
theorem dX8_isDue_53 : decode cX8_isDue 53 = .ok (.iaload, 1) := by decide +kernel
theorem dX8_isDue_54 : decode cX8_isDue 54 = .ok (.iadd, 1) := by decide +kernel
theorem dX8_isDue_55 : decode cX8_isDue 55 = .ok (.iaload, 1) := by decide +kernel
theorem dX8_isDue_56 : decode cX8_isDue 56 = .ok (.if_icmp .eq 7, 3) := by decide +kernel
theorem dX8_isDue_59 : decode cX8_isDue 59 = .ok (.iconst 1, 1) := by decide +kernel
theorem dX8_isDue_60 : decode cX8_isDue 60 = .ok (.goto 4, 3) := by decide +kernel
theorem dX8_isDue_63 : decode cX8_isDue 63 = .ok (.iconst 0, 1) := by decide +kernel
theorem dX8_isDue_64 : decode cX8_isDue 64 = .ok (.ireturn, 1) := by decide +kernel
theorem dX8_isDue_65 : decode cX8_isDue 65 = .ok (.aload_n 1, 1) := by decide +kernel
theorem dX8_isDue_66 : decode cX8_isDue 66 = .ok (.bipush 16, 2) := by decide +kernel
theorem dX8_isDue_68 : decode cX8_isDue 68 = .ok (.iaload, 1) := by decide +kernel
theorem dX8_isDue_69 : decode cX8_isDue 69 = .ok (.aload_n 0, 1) := by decide +kernel
theorem dX8_isDue_70 : decode cX8_isDue 70 = .ok (.getfield 19, 3) := by decide +kernel
theorem dX8_isDue_73 : decode cX8_isDue 73 = .ok (.bipush 13, 2) := by decide +kernel
theorem dX8_isDue_75 : decode cX8_isDue 75 = .ok (.iaload, 1) := by decide +kernel
theorem dX8_isDue_76 : decode cX8_isDue 76 = .ok (.if_icmp .lt 7, 3) := by decide +kernel
theorem dX8_isDue_79 : decode cX8_isDue 79 = .ok (.iconst 1, 1) := by decide +kernel
theorem dX8_isDue_80 : decode cX8_isDue 80 = .ok (.goto 4, 3) := by decide +kernel
theorem dX8_isDue_83 : decode cX8_isDue 83 = .ok (.iconst 0, 1) := by decide +kernel
theorem dX8_isDue_84 : decode cX8_isDue 84 = .ok (.ireturn, 1) := by decide +kernel
theorem dX8_isDue_85 : decode cX8_isDue 85 = .ok (.aload_n 1, 1) := by decide +kernel
theorem dX8_isDue_86 : decode cX8_isDue 86 = .ok (.bipush 17, 2) := by decide +kernel
theorem dX8_isDue_88 : decode cX8_isDue 88 = .ok (.iaload, 1) := by decide +kernel
theorem dX8_isDue_89 : decode cX8_isDue 89 = .ok (.aload_n 0, 1) := by decide +kernel
theorem dX8_isDue_90 : decode cX8_isDue 90 = .ok (.getfield 19, 3) := by decide +kernel
theorem dX8_isDue_93 : decode cX8_isDue 93 = .ok (.bipush 13, 2) := by decide +kernel
theorem dX8_isDue_95 : decode cX8_isDue 95 = .ok (.iaload, 1) := by decide +kernel
theorem dX8_isDue_96 : decode cX8_isDue 96 = .ok (.if_icmp .lt 7, 3) := by decide +kernel
theorem dX8_isDue_99 : decode cX8_isDue 99 = .ok (.iconst 1, 1) := by decide +kernel
theorem dX8_isDue_100 : decode cX8_isDue 100 = .ok (.goto 4, 3) := by decide +kernel
theorem dX8_isDue_103 : decode cX8_isDue 103 = .ok (.iconst 0, 1) := by decide +kernel
theorem dX8_isDue_104 : decode cX8_isDue 104 = .ok (.ireturn, 1) := by decide +kernel
theorem dX8_isDue_105 : decode cX8_isDue 105 = .ok (.aload_n 0, 1) := by decide +kernel
theorem dX8_isDue_106 : decode cX8_isDue 106 = .ok (.aload_n 1, 1) := by decide +kernel
theorem dX8_isDue_107 : decode cX8_isDue 107 = .ok (.bipush 14, 2) := by decide +kernel
theorem dX8_isDue_109 : decode cX8_isDue 109 = .ok (.iaload, 1) := by decide +kernel
theorem dX8_isDue_110 : decode cX8_isDue 110 = .ok (.aload_n 1, 1) := by decide +kernel
theorem dX8_isDue_111 : decode cX8_isDue 111 = .ok (.bipush 15, 2) := by decide +kernel
theorem dX8_isDue_113 : decode cX8_isDue 113 = .ok (.iaload, 1) := by decide +kernel
theorem dX8_isDue_114 : decode cX8_isDue 114 = .ok (.invokevirtual 158, 3) := by decide +kernel
theorem dX8_isDue_117 : decode cX8_isDue 117 = .ok (.aload_n 0, 1) := by decide +kernel
theorem dX8_isDue_118 : decode cX8_isDue 118 = .ok (.getfield 19, 3) := by decide +kernel
theorem dX8_isDue_121 : decode cX8_isDue 121 = .ok (.bipush 13, 2) := by decide +kernel
theorem dX8_isDue_123 : decode cX8_isDue 123 = .ok (.iaload, 1) := by decide +kernel
theorem dX8_isDue_124 : decode cX8_isDue 124 = .ok (.if_icmp .lt 7, 3) := by decide +kernel
theorem dX8_isDue_127 : decode cX8_isDue 127 = .ok (.iconst 1, 1) := by decide +kernel
theorem dX8_isDue_128 : decode cX8_isDue 128 = .ok (.goto 4, 3) := by decide +kernel
theorem dX8_isDue_131 : decode cX8_isDue 131 = .ok (.iconst 0, 1) := by decide +kernel
theorem dX8_isDue_132 : decode cX8_isDue 132 = .ok (.ireturn, 1) := by decide +kernel
set_option maxRecDepth 20000 in
theorem ggX8_goes_X8_isDue : GoodIn wsX8_goes wsX8_isDue := goodIn_r _ [5, 6, 7, 8, 9, 4, 10, 11, 12, 13, 14, 15, 16, 20, 21, 22, 23, 24, 25, 26, 27, 28, 29, 30, 31, 32, 33, 34, 35, 36, 37, 38, 39, 40, 41, 42, 43, 44, 45] (by decide +kernel) (by decide +kernel)
set_option maxRecDepth 20000 in
theorem gX8_goes_X8_isDue : GoodIn wsX8_goes (wsV RX8 162 RX8 yX8_isDue wsX8_isDue) := goodIn_app (goodIn_of _ (by decide +kernel)) ggX8_goes_X8_isDue
set_option maxRecDepth 20000 in
theorem ggX8_goes_X8_registers : GoodIn wsX8_goes wsX8_registers := goodIn_r _ [19] (by decide +kernel) (by decide +kernel)
set_option maxRecDepth 20000 in
theorem gX8_goes_X8_registers : GoodIn wsX8_goes (va_wsS RX8 142 yX8_registers wsX8_registers) := goodIn_app (goodIn_of _ (by decide +kernel)) ggX8_goes_X8_registers
theorem dX8_goes_0 : decode cX8_goes 0 = .ok (.aload_n 1, 1) := by decide +kernel
theorem dX8_goes_1 : decode cX8_goes 1 = .ok (.bipush 16, 2) := by decide +kernel
theorem dX8_goes_3 : decode cX8_goes 3 = .ok (.dup2, 1) := by decide +kernel
theorem dX8_goes_4 : decode cX8_goes 4 = .ok (.iaload, 1) := by decide +kernel
theorem dX8_goes_5 : decode cX8_goes 5 = .ok (.iload_n 2, 1) := by decide +kernel
theorem dX8_goes_6 : decode cX8_goes 6 = .ok (.aload_n 1, 1) := by decide +kernel
theorem dX8_goes_7 : decode cX8_goes 7 = .ok (.bipush 14, 2) := by decide +kernel
theorem dX8_goes_9 : decode cX8_goes 9 = .ok (.iaload, 1) := by decide +kernel
theorem dX8_goes_10 : decode cX8_goes 10 = .ok (.if_icmp .ne 7, 3) := by decide +kernel
theorem dX8_goes_13 : decode cX8_goes 13 = .ok (.iconst 0, 1) := by decide +kernel
theorem dX8_goes_14 : decode cX8_goes 14 = .ok (.goto 4, 3) := by decide +kernel
theorem dX8_goes_17 : decode cX8_goes 17 = .ok (.iconst 1, 1) := by decide +kernel
theorem dX8_goes_18 : decode cX8_goes 18 = .ok (.iadd, 1) := by decide +kernel
theorem dX8_goes_19 : decode cX8_goes 19 = .ok (.iastore, 1) := by decide +kernel
theorem dX8_goes_20 : decode cX8_goes 20 = .ok (.aload_n 1, 1) := by decide +kernel
theorem dX8_goes_21 : decode cX8_goes 21 = .ok (.bipush 14, 2) := by decide +kernel
theorem dX8_goes_23 : decode cX8_goes 23 = .ok (.iload_n 2, 1) := by decide +kernel
theorem dX8_goes_24 : decode cX8_goes 24 = .ok (.iastore, 1) := by decide +kernel
theorem dX8_goes_25 : decode cX8_goes 25 = .ok (.aload_n 1, 1) := by decide +kernel
theorem dX8_goes_26 : decode cX8_goes 26 = .ok (.bipush 17, 2) := by decide +kernel
theorem dX8_goes_28 : decode cX8_goes 28 = .ok (.dup2, 1) := by decide +kernel
theorem dX8_goes_29 : decode cX8_goes 29 = .ok (.iaload, 1) := by decide +kernel
theorem dX8_goes_30 : decode cX8_goes 30 = .ok (.iconst 1, 1) := by decide +kernel
theorem dX8_goes_31 : decode cX8_goes 31 = .ok (.iadd, 1) := by decide +kernel
theorem dX8_goes_32 : decode cX8_goes 32 = .ok (.iastore, 1) := by decide +kernel
theorem dX8_goes_33 : decode cX8_goes 33 = .ok (.aload_n 0, 1) := by decide +kernel
theorem dX8_goes_34 : decode cX8_goes 34 = .ok (.aload_n 1, 1) := by decide +kernel
theorem dX8_goes_35 : decode cX8_goes 35 = .ok (.invokevirtual 162, 3) := by decide +kernel
theorem dX8_goes_38 : decode cX8_goes 38 = .ok (.ifCond .ne 5, 3) := by decide +kernel
theorem dX8_goes_41 : decode cX8_goes 41 = .ok (.iconst 0, 1) := by decide +kernel
theorem dX8_goes_42 : decode cX8_goes 42 = .ok (.ireturn, 1) := by decide +kernel
theorem dX8_goes_43 : decode cX8_goes 43 = .ok (.aload_n 1, 1) := by decide +kernel
theorem dX8_goes_44 : decode cX8_goes 44 = .ok (.bipush 18, 2) := by decide +kernel
theorem dX8_goes_46 : decode cX8_goes 46 = .ok (.dup2, 1) := by decide +kernel
theorem dX8_goes_47 : decode cX8_goes 47 = .ok (.iaload, 1) := by decide +kernel
theorem dX8_goes_48 : decode cX8_goes 48 = .ok (.iconst 1, 1) := by decide +kernel
theorem dX8_goes_49 : decode cX8_goes 49 = .ok (.iadd, 1) := by decide +kernel
theorem dX8_goes_50 : decode cX8_goes 50 = .ok (.iastore, 1) := by decide +kernel
theorem dX8_goes_51 : decode cX8_goes 51 = .ok (.aload_n 1, 1) := by decide +kernel
theorem dX8_goes_52 : decode cX8_goes 52 = .ok (.invokestatic 142, 3) := by decide +kernel
theorem dX8_goes_55 : decode cX8_goes 55 = .ok (.iconst 1, 1) := by decide +kernel
theorem dX8_goes_56 : decode cX8_goes 56 = .ok (.ireturn, 1) := by decide +kernel
set_option maxRecDepth 20000 in
theorem ggX8_tick_X8_isCell : GoodIn wsX8_tick wsX8_isCell := goodIn_r _ [7, 8, 9, 10, 6, 11, 37, 38, 39, 40, 41, 42, 43, 44, 45, 46, 47, 48, 49, 50, 51, 52, 53, 54, 55, 56, 57, 58, 59, 60, 61, 62] (by decide +kernel) (by decide +kernel)
set_option maxRecDepth 20000 in
theorem gX8_tick_X8_isCell : GoodIn wsX8_tick (wsV RX8 136 RX8 yX8_isCell wsX8_isCell) := goodIn_app (goodIn_of _ (by decide +kernel)) ggX8_tick_X8_isCell
set_option maxRecDepth 20000 in
theorem ggX8_tick_X8_keeps : GoodIn wsX8_tick wsX8_keeps := goodIn_r _ [15, 16, 17, 1, 37, 38, 39, 40, 41, 42, 43, 44, 45, 46, 47, 48, 49, 50, 51, 52, 53, 54, 55, 56, 57, 58, 59, 60, 61, 62] (by decide +kernel) (by decide +kernel)
set_option maxRecDepth 20000 in
theorem gX8_tick_X8_keeps : GoodIn wsX8_tick (wsV RX8 139 RX8 yX8_keeps wsX8_keeps) := goodIn_app (goodIn_of _ (by decide +kernel)) ggX8_tick_X8_keeps
set_option maxRecDepth 20000 in
theorem ggX8_tick_X8_goes : GoodIn wsX8_tick wsX8_goes := goodIn_r _ [21, 22, 23, 24, 6, 25, 1, 26, 27, 28, 29, 8, 30, 31, 32, 33, 2, 34, 35, 36, 37, 38, 39, 40, 41, 42, 43, 44, 45, 46, 47, 48, 49, 50, 51, 52, 53, 54, 55, 56, 57, 58, 59, 60, 61, 62] (by decide +kernel) (by decide +kernel)
set_option maxRecDepth 20000 in
theorem gX8_tick_X8_goes : GoodIn wsX8_tick (wsV RX8 166 RX8 yX8_goes wsX8_goes) := goodIn_app (goodIn_of _ (by decide +kernel)) ggX8_tick_X8_goes
theorem dX8_tick_0 : decode cX8_tick 0 = .ok (.aload_n 0, 1) := by decide +kernel
theorem dX8_tick_1 : decode cX8_tick 1 = .ok (.iload_n 1, 1) := by decide +kernel
theorem dX8_tick_2 : decode cX8_tick 2 = .ok (.invokevirtual 136, 3) := by decide +kernel
theorem dX8_tick_5 : decode cX8_tick 5 = .ok (.ifCond .ne 5, 3) := by decide +kernel
theorem dX8_tick_8 : decode cX8_tick 8 = .ok (.iconst (-1), 1) := by decide +kernel
theorem dX8_tick_9 : decode cX8_tick 9 = .ok (.ireturn, 1) := by decide +kernel
theorem dX8_tick_10 : decode cX8_tick 10 = .ok (.aload_n 0, 1) := by decide +kernel
theorem dX8_tick_11 : decode cX8_tick 11 = .ok (.getfield 19, 3) := by decide +kernel
theorem dX8_tick_14 : decode cX8_tick 14 = .ok (.bipush 14, 2) := by decide +kernel
theorem dX8_tick_16 : decode cX8_tick 16 = .ok (.iaload, 1) := by decide +kernel
theorem dX8_tick_17 : decode cX8_tick 17 = .ok (.istore_n 2, 1) := by decide +kernel
theorem dX8_tick_18 : decode cX8_tick 18 = .ok (.iload_n 1, 1) := by decide +kernel
theorem dX8_tick_19 : decode cX8_tick 19 = .ok (.iload_n 2, 1) := by decide +kernel
theorem dX8_tick_20 : decode cX8_tick 20 = .ok (.if_icmp .ne 15, 3) := by decide +kernel
theorem dX8_tick_23 : decode cX8_tick 23 = .ok (.aload_n 0, 1) := by decide +kernel
theorem dX8_tick_24 : decode cX8_tick 24 = .ok (.getfield 19, 3) := by decide +kernel
theorem dX8_tick_27 : decode cX8_tick 27 = .ok (.iload_n 1, 1) := by decide +kernel
theorem dX8_tick_28 : decode cX8_tick 28 = .ok (.iaload, 1) := by decide +kernel
theorem dX8_tick_29 : decode cX8_tick 29 = .ok (.ifCond .ne 23, 3) := by decide +kernel
theorem dX8_tick_32 : decode cX8_tick 32 = .ok (.goto 17, 3) := by decide +kernel
theorem dX8_tick_35 : decode cX8_tick 35 = .ok (.aload_n 0, 1) := by decide +kernel
theorem dX8_tick_36 : decode cX8_tick 36 = .ok (.getfield 13, 3) := by decide +kernel
theorem dX8_tick_39 : decode cX8_tick 39 = .ok (.bipush 6, 2) := by decide +kernel
theorem dX8_tick_41 : decode cX8_tick 41 = .ok (.iload_n 2, 1) := by decide +kernel
theorem dX8_tick_42 : decode cX8_tick 42 = .ok (.imul, 1) := by decide +kernel
theorem dX8_tick_43 : decode cX8_tick 43 = .ok (.iload_n 1, 1) := by decide +kernel
theorem dX8_tick_44 : decode cX8_tick 44 = .ok (.iadd, 1) := by decide +kernel
theorem dX8_tick_45 : decode cX8_tick 45 = .ok (.iaload, 1) := by decide +kernel
theorem dX8_tick_46 : decode cX8_tick 46 = .ok (.ifCond .ne 6, 3) := by decide +kernel
theorem dX8_tick_49 : decode cX8_tick 49 = .ok (.bipush (-2), 2) := by decide +kernel
theorem dX8_tick_51 : decode cX8_tick 51 = .ok (.ireturn, 1) := by decide +kernel
theorem dX8_tick_52 : decode cX8_tick 52 = .ok (.aload_n 0, 1) := by decide +kernel
theorem dX8_tick_53 : decode cX8_tick 53 = .ok (.invokevirtual 139, 3) := by decide +kernel
theorem dX8_tick_56 : decode cX8_tick 56 = .ok (.aload_n 0, 1) := by decide +kernel
theorem dX8_tick_57 : decode cX8_tick 57 = .ok (.aload_n 0, 1) := by decide +kernel
theorem dX8_tick_58 : decode cX8_tick 58 = .ok (.getfield 19, 3) := by decide +kernel
theorem dX8_tick_61 : decode cX8_tick 61 = .ok (.iload_n 1, 1) := by decide +kernel
theorem dX8_tick_62 : decode cX8_tick 62 = .ok (.invokevirtual 166, 3) := by decide +kernel
theorem dX8_tick_65 : decode cX8_tick 65 = .ok (.ireturn, 1) := by decide +kernel
set_option maxRecDepth 20000 in
theorem ggX8_handset_X8_isIn : GoodIn wsX8_handset wsX8_isIn := goodIn_r _ [6] (by decide +kernel) (by decide +kernel)
set_option maxRecDepth 20000 in
theorem gX8_handset_X8_isIn : GoodIn wsX8_handset (va_wsS RX8 98 yX8_isIn wsX8_isIn) := goodIn_app (goodIn_of _ (by decide +kernel)) ggX8_handset_X8_isIn
theorem dX8_handset_0 : decode cX8_handset 0 = .ok (.iload_n 1, 1) := by decide +kernel
theorem dX8_handset_1 : decode cX8_handset 1 = .ok (.iconst 0, 1) := by decide +kernel
theorem dX8_handset_2 : decode cX8_handset 2 = .ok (.bipush 6, 2) := by decide +kernel
theorem dX8_handset_4 : decode cX8_handset 4 = .ok (.invokestatic 98, 3) := by decide +kernel
theorem dX8_handset_7 : decode cX8_handset 7 = .ok (.ifCond .ne 5, 3) := by decide +kernel
theorem dX8_handset_10 : decode cX8_handset 10 = .ok (.iconst (-1), 1) := by decide +kernel
theorem dX8_handset_11 : decode cX8_handset 11 = .ok (.ireturn, 1) := by decide +kernel
theorem dX8_handset_12 : decode cX8_handset 12 = .ok (.iload_n 1, 1) := by decide +kernel
theorem dX8_handset_13 : decode cX8_handset 13 = .ok (.bipush 6, 2) := by decide +kernel
theorem dX8_handset_15 : decode cX8_handset 15 = .ok (.if_icmp .ge 15, 3) := by decide +kernel
theorem dX8_handset_18 : decode cX8_handset 18 = .ok (.aload_n 0, 1) := by decide +kernel
theorem dX8_handset_19 : decode cX8_handset 19 = .ok (.getfield 19, 3) := by decide +kernel
theorem dX8_handset_22 : decode cX8_handset 22 = .ok (.bipush 14, 2) := by decide +kernel
theorem dX8_handset_24 : decode cX8_handset 24 = .ok (.iload_n 1, 1) := by decide +kernel
theorem dX8_handset_25 : decode cX8_handset 25 = .ok (.iadd, 1) := by decide +kernel
theorem dX8_handset_26 : decode cX8_handset 26 = .ok (.iaload, 1) := by decide +kernel
theorem dX8_handset_27 : decode cX8_handset 27 = .ok (.goto 32, 3) := by decide +kernel
theorem dX8_handset_30 : decode cX8_handset 30 = .ok (.aload_n 0, 1) := by decide +kernel
theorem dX8_handset_31 : decode cX8_handset 31 = .ok (.getfield 16, 3) := by decide +kernel
theorem dX8_handset_34 : decode cX8_handset 34 = .ok (.iconst 1, 1) := by decide +kernel
theorem dX8_handset_35 : decode cX8_handset 35 = .ok (.iaload, 1) := by decide +kernel
theorem dX8_handset_36 : decode cX8_handset 36 = .ok (.aload_n 0, 1) := by decide +kernel
theorem dX8_handset_37 : decode cX8_handset 37 = .ok (.getfield 19, 3) := by decide +kernel
theorem dX8_handset_40 : decode cX8_handset 40 = .ok (.bipush 19, 2) := by decide +kernel
theorem dX8_handset_42 : decode cX8_handset 42 = .ok (.iaload, 1) := by decide +kernel
theorem dX8_handset_43 : decode cX8_handset 43 = .ok (.imul, 1) := by decide +kernel
theorem dX8_handset_44 : decode cX8_handset 44 = .ok (.aload_n 0, 1) := by decide +kernel
theorem dX8_handset_45 : decode cX8_handset 45 = .ok (.getfield 16, 3) := by decide +kernel
theorem dX8_handset_48 : decode cX8_handset 48 = .ok (.iconst 2, 1) := by decide +kernel
theorem dX8_handset_49 : decode cX8_handset 49 = .ok (.iaload, 1) := by decide +kernel
theorem dX8_handset_50 : decode cX8_handset 50 = .ok (.aload_n 0, 1) := by decide +kernel
theorem dX8_handset_51 : decode cX8_handset 51 = .ok (.getfield 19, 3) := by decide +kernel
theorem dX8_handset_54 : decode cX8_handset 54 = .ok (.bipush 18, 2) := by decide +kernel
theorem dX8_handset_56 : decode cX8_handset 56 = .ok (.iaload, 1) := by decide +kernel
theorem dX8_handset_57 : decode cX8_handset 57 = .ok (.imul, 1) := by decide +kernel
theorem dX8_handset_58 : decode cX8_handset 58 = .ok (.iadd, 1) := by decide +kernel
theorem dX8_handset_59 : decode cX8_handset 59 = .ok (.ireturn, 1) := by decide +kernel
set_option maxRecDepth 20000 in
theorem ggX8_allowed_X8_far : GoodIn wsX8_allowed wsX8_far := goodIn_r _ [7, 2, 8, 9, 10, 6, 11, 12, 13, 14, 15, 16, 17, 18, 19, 20, 21, 22, 23, 24, 25, 26, 27, 28, 29, 30, 31, 32, 33, 34, 35, 36, 37, 38] (by decide +kernel) (by decide +kernel)
set_option maxRecDepth 20000 in
theorem gX8_allowed_X8_far : GoodIn wsX8_allowed (wsV RX8 158 RX8 yX8_far wsX8_far) := goodIn_app (goodIn_of _ (by decide +kernel)) ggX8_allowed_X8_far
theorem dX8_allowed_0 : decode cX8_allowed 0 = .ok (.aload_n 0, 1) := by decide +kernel
theorem dX8_allowed_1 : decode cX8_allowed 1 = .ok (.getfield 19, 3) := by decide +kernel
theorem dX8_allowed_4 : decode cX8_allowed 4 = .ok (.bipush 15, 2) := by decide +kernel
theorem dX8_allowed_6 : decode cX8_allowed 6 = .ok (.iaload, 1) := by decide +kernel
theorem dX8_allowed_7 : decode cX8_allowed 7 = .ok (.istore_n 1, 1) := by decide +kernel
theorem dX8_allowed_8 : decode cX8_allowed 8 = .ok (.iconst 0, 1) := by decide +kernel
theorem dX8_allowed_9 : decode cX8_allowed 9 = .ok (.istore_n 2, 1) := by decide +kernel
theorem dX8_allowed_10 : decode cX8_allowed 10 = .ok (.iconst 0, 1) := by decide +kernel
theorem dX8_allowed_11 : decode cX8_allowed 11 = .ok (.istore_n 3, 1) := by decide +kernel
theorem dX8_allowed_12 : decode cX8_allowed 12 = .ok (.iload_n 3, 1) := by decide +kernel
theorem dX8_allowed_13 : decode cX8_allowed 13 = .ok (.aload_n 0, 1) := by decide +kernel
theorem dX8_allowed_14 : decode cX8_allowed 14 = .ok (.getfield 76, 3) := by decide +kernel
theorem dX8_allowed_17 : decode cX8_allowed 17 = .ok (.if_icmp .ge 97, 3) := by decide +kernel
theorem dX8_allowed_20 : decode cX8_allowed 20 = .ok (.aload_n 0, 1) := by decide +kernel
theorem dX8_allowed_21 : decode cX8_allowed 21 = .ok (.getfield 19, 3) := by decide +kernel
theorem dX8_allowed_24 : decode cX8_allowed 24 = .ok (.bipush 12, 2) := by decide +kernel
theorem dX8_allowed_26 : decode cX8_allowed 26 = .ok (.iaload, 1) := by decide +kernel
theorem dX8_allowed_27 : decode cX8_allowed 27 = .ok (.ifCond .ne 32, 3) := by decide +kernel
theorem dX8_allowed_30 : decode cX8_allowed 30 = .ok (.aload_n 0, 1) := by decide +kernel
theorem dX8_allowed_31 : decode cX8_allowed 31 = .ok (.getfield 19, 3) := by decide +kernel
theorem dX8_allowed_34 : decode cX8_allowed 34 = .ok (.bipush 6, 2) := by decide +kernel
theorem dX8_allowed_36 : decode cX8_allowed 36 = .ok (.iload_n 3, 1) := by decide +kernel
theorem dX8_allowed_37 : decode cX8_allowed 37 = .ok (.iadd, 1) := by decide +kernel
theorem dX8_allowed_38 : decode cX8_allowed 38 = .ok (.iaload, 1) := by decide +kernel
theorem dX8_allowed_39 : decode cX8_allowed 39 = .ok (.aload_n 0, 1) := by decide +kernel
theorem dX8_allowed_40 : decode cX8_allowed 40 = .ok (.getfield 19, 3) := by decide +kernel
theorem dX8_allowed_43 : decode cX8_allowed 43 = .ok (.bipush 6, 2) := by decide +kernel
theorem dX8_allowed_45 : decode cX8_allowed 45 = .ok (.iload_n 1, 1) := by decide +kernel
theorem dX8_allowed_46 : decode cX8_allowed 46 = .ok (.iadd, 1) := by decide +kernel
theorem dX8_allowed_47 : decode cX8_allowed 47 = .ok (.iaload, 1) := by decide +kernel
theorem dX8_allowed_48 : decode cX8_allowed 48 = .ok (.if_icmp .ne 7, 3) := by decide +kernel
theorem dX8_allowed_51 : decode cX8_allowed 51 = .ok (.iconst 1, 1) := by decide +kernel
theorem dX8_allowed_52 : decode cX8_allowed 52 = .ok (.goto 39, 3) := by decide +kernel
theorem dX8_allowed_55 : decode cX8_allowed 55 = .ok (.iconst 0, 1) := by decide +kernel
theorem dX8_allowed_56 : decode cX8_allowed 56 = .ok (.goto 35, 3) := by decide +kernel
theorem dX8_allowed_59 : decode cX8_allowed 59 = .ok (.aload_n 0, 1) := by decide +kernel
theorem dX8_allowed_60 : decode cX8_allowed 60 = .ok (.getfield 19, 3) := by decide +kernel
theorem dX8_allowed_63 : decode cX8_allowed 63 = .ok (.bipush 12, 2) := by decide +kernel
theorem dX8_allowed_65 : decode cX8_allowed 65 = .ok (.iaload, 1) := by decide +kernel
theorem dX8_allowed_66 : decode cX8_allowed 66 = .ok (.iconst 3, 1) := by decide +kernel
theorem dX8_allowed_67 : decode cX8_allowed 67 = .ok (.if_icmp .ne 19, 3) := by decide +kernel
theorem dX8_allowed_70 : decode cX8_allowed 70 = .ok (.aload_n 0, 1) := by decide +kernel
theorem dX8_allowed_71 : decode cX8_allowed 71 = .ok (.iload_n 3, 1) := by decide +kernel
theorem dX8_allowed_72 : decode cX8_allowed 72 = .ok (.iload_n 1, 1) := by decide +kernel
theorem dX8_allowed_73 : decode cX8_allowed 73 = .ok (.invokevirtual 158, 3) := by decide +kernel
theorem dX8_allowed_76 : decode cX8_allowed 76 = .ok (.aload_n 0, 1) := by decide +kernel
theorem dX8_allowed_77 : decode cX8_allowed 77 = .ok (.getfield 19, 3) := by decide +kernel
theorem dX8_allowed_80 : decode cX8_allowed 80 = .ok (.bipush 13, 2) := by decide +kernel
theorem dX8_allowed_82 : decode cX8_allowed 82 = .ok (.iaload, 1) := by decide +kernel
theorem dX8_allowed_83 : decode cX8_allowed 83 = .ok (.if_icmp .ge 7, 3) := by decide +kernel
theorem dX8_allowed_86 : decode cX8_allowed 86 = .ok (.iconst 1, 1) := by decide +kernel
theorem dX8_allowed_87 : decode cX8_allowed 87 = .ok (.goto 4, 3) := by decide +kernel
theorem dX8_allowed_90 : decode cX8_allowed 90 = .ok (.iconst 0, 1) := by decide +kernel
theorem dX8_allowed_91 : decode cX8_allowed 91 = .ok (.istore 4, 2) := by decide +kernel
theorem dX8_allowed_93 : decode cX8_allowed 93 = .ok (.iload_n 2, 1) := by decide +kernel
theorem dX8_allowed_94 : decode cX8_allowed 94 = .ok (.iload 4, 2) := by decide +kernel
theorem dX8_allowed_96 : decode cX8_allowed 96 = .ok (.ifCond .eq 9, 3) := by decide +kernel
theorem dX8_allowed_99 : decode cX8_allowed 99 = .ok (.iconst 1, 1) := by decide +kernel
theorem dX8_allowed_100 : decode cX8_allowed 100 = .ok (.iload_n 3, 1) := by decide +kernel
theorem dX8_allowed_101 : decode cX8_allowed 101 = .ok (.ishl, 1) := by decide +kernel
theorem dX8_allowed_102 : decode cX8_allowed 102 = .ok (.goto 4, 3) := by decide +kernel
theorem dX8_allowed_105 : decode cX8_allowed 105 = .ok (.iconst 0, 1) := by decide +kernel
theorem dX8_allowed_106 : decode cX8_allowed 106 = .ok (.ior, 1) := by decide +kernel
theorem dX8_allowed_107 : decode cX8_allowed 107 = .ok (.istore_n 2, 1) := by decide +kernel
theorem dX8_allowed_108 : decode cX8_allowed 108 = .ok (.iinc 3 1, 3) := by decide +kernel
theorem dX8_allowed_111 : decode cX8_allowed 111 = .ok (.goto (-99), 3) := by decide +kernel
theorem dX8_allowed_114 : decode cX8_allowed 114 = .ok (.iload_n 2, 1) := by decide +kernel
theorem dX8_allowed_115 : decode cX8_allowed 115 = .ok (.ireturn, 1) := by decide +kernel
set_option maxRecDepth 20000 in
theorem ggX8_whereIs_X8_allowed : GoodIn wsX8_whereIs wsX8_allowed := goodIn_r _ [9, 1, 4, 10, 11, 12, 8, 13, 14, 15, 16, 17, 18, 19, 20, 21, 22, 23, 24, 25, 26, 27, 28, 29, 30, 31, 32, 33, 34, 35, 36, 37, 38, 39, 40, 41, 42, 43, 44] (by decide +kernel) (by decide +kernel)
set_option maxRecDepth 20000 in
theorem gX8_whereIs_X8_allowed : GoodIn wsX8_whereIs (wsV RX8 170 RX8 yX8_allowed wsX8_allowed) := goodIn_app (goodIn_of _ (by decide +kernel)) ggX8_whereIs_X8_allowed
set_option maxRecDepth 20000 in
theorem ggX8_whereIs_X8_joined : GoodIn wsX8_whereIs wsX8_joined := goodIn_r _ [17, 4, 18, 19, 20, 21, 22, 23, 24, 25, 26, 27, 28, 29, 30, 31, 32, 33, 34, 35, 36, 37, 38, 39, 40, 41, 42, 43, 44] (by decide +kernel) (by decide +kernel)
set_option maxRecDepth 20000 in
theorem gX8_whereIs_X8_joined : GoodIn wsX8_whereIs (wsV RX8 152 RX8 yX8_joined wsX8_joined) := goodIn_app (goodIn_of _ (by decide +kernel)) ggX8_whereIs_X8_joined
theorem dX8_whereIs_0 : decode cX8_whereIs 0 = .ok (.aload_n 0, 1) := by decide +kernel
theorem dX8_whereIs_1 : decode cX8_whereIs 1 = .ok (.invokevirtual 170, 3) := by decide +kernel
theorem dX8_whereIs_4 : decode cX8_whereIs 4 = .ok (.istore_n 1, 1) := by decide +kernel
theorem dX8_whereIs_5 : decode cX8_whereIs 5 = .ok (.aload_n 0, 1) := by decide +kernel
theorem dX8_whereIs_6 : decode cX8_whereIs 6 = .ok (.getfield 19, 3) := by decide +kernel
theorem dX8_whereIs_9 : decode cX8_whereIs 9 = .ok (.bipush 12, 2) := by decide +kernel
theorem dX8_whereIs_11 : decode cX8_whereIs 11 = .ok (.iaload, 1) := by decide +kernel
theorem dX8_whereIs_12 : decode cX8_whereIs 12 = .ok (.iconst 1, 1) := by decide +kernel
theorem dX8_whereIs_13 : decode cX8_whereIs 13 = .ok (.if_icmp .ne 15, 3) := by decide +kernel
theorem dX8_whereIs_16 : decode cX8_whereIs 16 = .ok (.aload_n 0, 1) := by decide +kernel
theorem dX8_whereIs_17 : decode cX8_whereIs 17 = .ok (.getfield 19, 3) := by decide +kernel
theorem dX8_whereIs_20 : decode cX8_whereIs 20 = .ok (.bipush 13, 2) := by decide +kernel
theorem dX8_whereIs_22 : decode cX8_whereIs 22 = .ok (.iaload, 1) := by decide +kernel
theorem dX8_whereIs_23 : decode cX8_whereIs 23 = .ok (.iconst 1, 1) := by decide +kernel
theorem dX8_whereIs_24 : decode cX8_whereIs 24 = .ok (.isub, 1) := by decide +kernel
theorem dX8_whereIs_25 : decode cX8_whereIs 25 = .ok (.goto 4, 3) := by decide +kernel
theorem dX8_whereIs_28 : decode cX8_whereIs 28 = .ok (.iconst 0, 1) := by decide +kernel
theorem dX8_whereIs_29 : decode cX8_whereIs 29 = .ok (.istore_n 2, 1) := by decide +kernel
theorem dX8_whereIs_30 : decode cX8_whereIs 30 = .ok (.iconst 0, 1) := by decide +kernel
theorem dX8_whereIs_31 : decode cX8_whereIs 31 = .ok (.istore_n 3, 1) := by decide +kernel
theorem dX8_whereIs_32 : decode cX8_whereIs 32 = .ok (.iload_n 3, 1) := by decide +kernel
theorem dX8_whereIs_33 : decode cX8_whereIs 33 = .ok (.bipush 10, 2) := by decide +kernel
theorem dX8_whereIs_35 : decode cX8_whereIs 35 = .ok (.if_icmp .ge 32, 3) := by decide +kernel
theorem dX8_whereIs_38 : decode cX8_whereIs 38 = .ok (.aload_n 0, 1) := by decide +kernel
theorem dX8_whereIs_39 : decode cX8_whereIs 39 = .ok (.getfield 34, 3) := by decide +kernel
theorem dX8_whereIs_42 : decode cX8_whereIs 42 = .ok (.iload_n 3, 1) := by decide +kernel
theorem dX8_whereIs_43 : decode cX8_whereIs 43 = .ok (.iload_n 3, 1) := by decide +kernel
theorem dX8_whereIs_44 : decode cX8_whereIs 44 = .ok (.ifCond .ne 15, 3) := by decide +kernel
theorem dX8_whereIs_47 : decode cX8_whereIs 47 = .ok (.iconst 1, 1) := by decide +kernel
theorem dX8_whereIs_48 : decode cX8_whereIs 48 = .ok (.aload_n 0, 1) := by decide +kernel
theorem dX8_whereIs_49 : decode cX8_whereIs 49 = .ok (.getfield 19, 3) := by decide +kernel
theorem dX8_whereIs_52 : decode cX8_whereIs 52 = .ok (.bipush 15, 2) := by decide +kernel
theorem dX8_whereIs_54 : decode cX8_whereIs 54 = .ok (.iaload, 1) := by decide +kernel
theorem dX8_whereIs_55 : decode cX8_whereIs 55 = .ok (.ishl, 1) := by decide +kernel
theorem dX8_whereIs_56 : decode cX8_whereIs 56 = .ok (.goto 4, 3) := by decide +kernel
theorem dX8_whereIs_59 : decode cX8_whereIs 59 = .ok (.iconst 0, 1) := by decide +kernel
theorem dX8_whereIs_60 : decode cX8_whereIs 60 = .ok (.iastore, 1) := by decide +kernel
theorem dX8_whereIs_61 : decode cX8_whereIs 61 = .ok (.iinc 3 1, 3) := by decide +kernel
theorem dX8_whereIs_64 : decode cX8_whereIs 64 = .ok (.goto (-32), 3) := by decide +kernel
theorem dX8_whereIs_67 : decode cX8_whereIs 67 = .ok (.iconst 0, 1) := by decide +kernel
theorem dX8_whereIs_68 : decode cX8_whereIs 68 = .ok (.istore_n 3, 1) := by decide +kernel
theorem dX8_whereIs_69 : decode cX8_whereIs 69 = .ok (.iload_n 3, 1) := by decide +kernel
theorem dX8_whereIs_70 : decode cX8_whereIs 70 = .ok (.aload_n 0, 1) := by decide +kernel
theorem dX8_whereIs_71 : decode cX8_whereIs 71 = .ok (.getfield 19, 3) := by decide +kernel
theorem dX8_whereIs_74 : decode cX8_whereIs 74 = .ok (.bipush 17, 2) := by decide +kernel
theorem dX8_whereIs_76 : decode cX8_whereIs 76 = .ok (.iaload, 1) := by decide +kernel
theorem dX8_whereIs_77 : decode cX8_whereIs 77 = .ok (.if_icmp .ge 190, 3) := by decide +kernel
theorem dX8_whereIs_80 : decode cX8_whereIs 80 = .ok (.iconst 0, 1) := by decide +kernel
theorem dX8_whereIs_81 : decode cX8_whereIs 81 = .ok (.istore 4, 2) := by decide +kernel
theorem dX8_whereIs_83 : decode cX8_whereIs 83 = .ok (.iload 4, 2) := by decide +kernel
theorem dX8_whereIs_85 : decode cX8_whereIs 85 = .ok (.bipush 10, 2) := by decide +kernel
theorem dX8_whereIs_87 : decode cX8_whereIs 87 = .ok (.if_icmp .ge 17, 3) := by decide +kernel
theorem dX8_whereIs_90 : decode cX8_whereIs 90 = .ok (.aload_n 0, 1) := by decide +kernel
theorem dX8_whereIs_91 : decode cX8_whereIs 91 = .ok (.getfield 37, 3) := by decide +kernel
theorem dX8_whereIs_94 : decode cX8_whereIs 94 = .ok (.iload 4, 2) := by decide +kernel
theorem dX8_whereIs_96 : decode cX8_whereIs 96 = .ok (.iconst 0, 1) := by decide +kernel
theorem dX8_whereIs_97 : decode cX8_whereIs 97 = .ok (.iastore, 1) := by decide +kernel
theorem dX8_whereIs_98 : decode cX8_whereIs 98 = .ok (.iinc 4 1, 3) := by decide +kernel
theorem dX8_whereIs_101 : decode cX8_whereIs 101 = .ok (.goto (-18), 3) := by decide +kernel
theorem dX8_whereIs_104 : decode cX8_whereIs 104 = .ok (.iconst 0, 1) := by decide +kernel
theorem dX8_whereIs_105 : decode cX8_whereIs 105 = .ok (.istore 4, 2) := by decide +kernel
theorem dX8_whereIs_107 : decode cX8_whereIs 107 = .ok (.iload 4, 2) := by decide +kernel
theorem dX8_whereIs_109 : decode cX8_whereIs 109 = .ok (.iload_n 2, 1) := by decide +kernel
theorem dX8_whereIs_110 : decode cX8_whereIs 110 = .ok (.if_icmp .gt 121, 3) := by decide +kernel
theorem dX8_whereIs_113 : decode cX8_whereIs 113 = .ok (.iconst 0, 1) := by decide +kernel
theorem dX8_whereIs_114 : decode cX8_whereIs 114 = .ok (.istore 5, 2) := by decide +kernel
theorem dX8_whereIs_116 : decode cX8_whereIs 116 = .ok (.iload 5, 2) := by decide +kernel
theorem dX8_whereIs_118 : decode cX8_whereIs 118 = .ok (.aload_n 0, 1) := by decide +kernel
theorem dX8_whereIs_119 : decode cX8_whereIs 119 = .ok (.getfield 76, 3) := by decide +kernel
theorem dX8_whereIs_122 : decode cX8_whereIs 122 = .ok (.if_icmp .ge 103, 3) := by decide +kernel
theorem dX8_whereIs_125 : decode cX8_whereIs 125 = .ok (.aload_n 0, 1) := by decide +kernel
theorem dX8_whereIs_126 : decode cX8_whereIs 126 = .ok (.getfield 34, 3) := by decide +kernel
theorem dX8_whereIs_129 : decode cX8_whereIs 129 = .ok (.iload 4, 2) := by decide +kernel
theorem dX8_whereIs_131 : decode cX8_whereIs 131 = .ok (.iaload, 1) := by decide +kernel
theorem dX8_whereIs_132 : decode cX8_whereIs 132 = .ok (.iload 5, 2) := by decide +kernel
theorem dX8_whereIs_134 : decode cX8_whereIs 134 = .ok (.ishr, 1) := by decide +kernel
theorem dX8_whereIs_135 : decode cX8_whereIs 135 = .ok (.iconst 1, 1) := by decide +kernel
theorem dX8_whereIs_136 : decode cX8_whereIs 136 = .ok (.iand, 1) := by decide +kernel
theorem dX8_whereIs_137 : decode cX8_whereIs 137 = .ok (.iconst 1, 1) := by decide +kernel
theorem dX8_whereIs_138 : decode cX8_whereIs 138 = .ok (.if_icmp .ne 81, 3) := by decide +kernel
theorem dX8_whereIs_141 : decode cX8_whereIs 141 = .ok (.aload_n 0, 1) := by decide +kernel
theorem dX8_whereIs_142 : decode cX8_whereIs 142 = .ok (.getfield 37, 3) := by decide +kernel
theorem dX8_whereIs_145 : decode cX8_whereIs 145 = .ok (.iload 4, 2) := by decide +kernel
theorem dX8_whereIs_147 : decode cX8_whereIs 147 = .ok (.dup2, 1) := by decide +kernel
theorem dX8_whereIs_148 : decode cX8_whereIs 148 = .ok (.iaload, 1) := by decide +kernel
theorem dX8_whereIs_149 : decode cX8_whereIs 149 = .ok (.aload_n 0, 1) := by decide +kernel
theorem dX8_whereIs_150 : decode cX8_whereIs 150 = .ok (.getfield 19, 3) := by decide +kernel
theorem dX8_whereIs_153 : decode cX8_whereIs 153 = .ok (.iload 5, 2) := by decide +kernel
theorem dX8_whereIs_155 : decode cX8_whereIs 155 = .ok (.iaload, 1) := by decide +kernel
theorem dX8_whereIs_156 : decode cX8_whereIs 156 = .ok (.ifCond .le 10, 3) := by decide +kernel
theorem dX8_whereIs_159 : decode cX8_whereIs 159 = .ok (.iconst 1, 1) := by decide +kernel
theorem dX8_whereIs_160 : decode cX8_whereIs 160 = .ok (.iload 5, 2) := by decide +kernel
theorem dX8_whereIs_162 : decode cX8_whereIs 162 = .ok (.ishl, 1) := by decide +kernel
theorem dX8_whereIs_163 : decode cX8_whereIs 163 = .ok (.goto 4, 3) := by decide +kernel
theorem dX8_whereIs_166 : decode cX8_whereIs 166 = .ok (.iconst 0, 1) := by decide +kernel
theorem dX8_whereIs_167 : decode cX8_whereIs 167 = .ok (.ior, 1) := by decide +kernel
theorem dX8_whereIs_168 : decode cX8_whereIs 168 = .ok (.iastore, 1) := by decide +kernel
theorem dX8_whereIs_169 : decode cX8_whereIs 169 = .ok (.aload_n 0, 1) := by decide +kernel
theorem dX8_whereIs_170 : decode cX8_whereIs 170 = .ok (.getfield 19, 3) := by decide +kernel
theorem dX8_whereIs_173 : decode cX8_whereIs 173 = .ok (.bipush 12, 2) := by decide +kernel
theorem dX8_whereIs_175 : decode cX8_whereIs 175 = .ok (.iaload, 1) := by decide +kernel
theorem dX8_whereIs_176 : decode cX8_whereIs 176 = .ok (.iconst 1, 1) := by decide +kernel
theorem dX8_whereIs_177 : decode cX8_whereIs 177 = .ok (.if_icmp .ne 10, 3) := by decide +kernel
theorem dX8_whereIs_180 : decode cX8_whereIs 180 = .ok (.iload 4, 2) := by decide +kernel
theorem dX8_whereIs_182 : decode cX8_whereIs 182 = .ok (.iconst 1, 1) := by decide +kernel
theorem dX8_whereIs_183 : decode cX8_whereIs 183 = .ok (.iadd, 1) := by decide +kernel
theorem dX8_whereIs_184 : decode cX8_whereIs 184 = .ok (.goto 5, 3) := by decide +kernel
theorem dX8_whereIs_187 : decode cX8_whereIs 187 = .ok (.iload 4, 2) := by decide +kernel
theorem dX8_whereIs_189 : decode cX8_whereIs 189 = .ok (.istore 6, 2) := by decide +kernel
theorem dX8_whereIs_191 : decode cX8_whereIs 191 = .ok (.aload_n 0, 1) := by decide +kernel
theorem dX8_whereIs_192 : decode cX8_whereIs 192 = .ok (.getfield 37, 3) := by decide +kernel
theorem dX8_whereIs_195 : decode cX8_whereIs 195 = .ok (.iload 6, 2) := by decide +kernel
theorem dX8_whereIs_197 : decode cX8_whereIs 197 = .ok (.dup2, 1) := by decide +kernel
theorem dX8_whereIs_198 : decode cX8_whereIs 198 = .ok (.iaload, 1) := by decide +kernel
theorem dX8_whereIs_199 : decode cX8_whereIs 199 = .ok (.iload 6, 2) := by decide +kernel
theorem dX8_whereIs_201 : decode cX8_whereIs 201 = .ok (.iload_n 2, 1) := by decide +kernel
