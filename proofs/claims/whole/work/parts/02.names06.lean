set_option maxRecDepth 20000 in
theorem ggX4_canGo_X7_holds : GoodIn wsX4_canGo wsX7_holds := goodIn_r _ [6] (by decide +kernel) (by decide +kernel)
set_option maxRecDepth 20000 in
theorem gX4_canGo_X7_holds_n57 : GoodIn wsX4_canGo (wsX7_holds) := ggX4_canGo_X7_holds
theorem dX4_canGo_0 : decode cX4_canGo 0 = .ok (.iload_n 2, 1) := by decide +kernel
theorem dX4_canGo_1 : decode cX4_canGo 1 = .ok (.aload_n 0, 1) := by decide +kernel
theorem dX4_canGo_2 : decode cX4_canGo 2 = .ok (.getfield 25, 3) := by decide +kernel
theorem dX4_canGo_5 : decode cX4_canGo 5 = .ok (.if_icmp .ne 20, 3) := by decide +kernel
theorem dX4_canGo_8 : decode cX4_canGo 8 = .ok (.aload_n 0, 1) := by decide +kernel
theorem dX4_canGo_9 : decode cX4_canGo 9 = .ok (.getfield 9, 3) := by decide +kernel
theorem dX4_canGo_12 : decode cX4_canGo 12 = .ok (.iload_n 2, 1) := by decide +kernel
theorem dX4_canGo_13 : decode cX4_canGo 13 = .ok (.iaload, 1) := by decide +kernel
theorem dX4_canGo_14 : decode cX4_canGo 14 = .ok (.ifCond .le 7, 3) := by decide +kernel
theorem dX4_canGo_17 : decode cX4_canGo 17 = .ok (.iconst 1, 1) := by decide +kernel
theorem dX4_canGo_18 : decode cX4_canGo 18 = .ok (.goto 20, 3) := by decide +kernel
theorem dX4_canGo_21 : decode cX4_canGo 21 = .ok (.iconst 0, 1) := by decide +kernel
theorem dX4_canGo_22 : decode cX4_canGo 22 = .ok (.goto 16, 3) := by decide +kernel
theorem dX4_canGo_25 : decode cX4_canGo 25 = .ok (.aload_n 1, 1) := by decide +kernel
theorem dX4_canGo_26 : decode cX4_canGo 26 = .ok (.getfield 52, 3) := by decide +kernel
theorem dX4_canGo_29 : decode cX4_canGo 29 = .ok (.aload_n 0, 1) := by decide +kernel
theorem dX4_canGo_30 : decode cX4_canGo 30 = .ok (.getfield 25, 3) := by decide +kernel
theorem dX4_canGo_33 : decode cX4_canGo 33 = .ok (.iaload, 1) := by decide +kernel
theorem dX4_canGo_34 : decode cX4_canGo 34 = .ok (.iload_n 2, 1) := by decide +kernel
theorem dX4_canGo_35 : decode cX4_canGo 35 = .ok (.invokestatic 57, 3) := by decide +kernel
theorem dX4_canGo_38 : decode cX4_canGo 38 = .ok (.ireturn, 1) := by decide +kernel
set_option maxRecDepth 20000 in
theorem ggX4_go_X4_isDue : GoodIn wsX4_go wsX4_isDue := goodIn_r _ [9, 10, 2, 11, 3, 1, 12, 13, 14, 8, 15, 16, 17, 18, 23, 24, 25, 26, 27, 28, 29, 30, 31, 32, 33, 34, 35, 36, 37, 38, 39, 40, 41, 42, 43, 44] (by decide +kernel) (by decide +kernel)
set_option maxRecDepth 20000 in
theorem gX4_go_X4_isDue : GoodIn wsX4_go (wsV RX4 61 RX4 yX4_isDue wsX4_isDue) := goodIn_app (goodIn_of _ (by decide +kernel)) ggX4_go_X4_isDue
set_option maxRecDepth 20000 in
theorem ggX4_go_X4_register : GoodIn wsX4_go wsX4_register := goodIn_r _ [22, 1, 17, 2, 3, 23, 24, 25, 26, 27, 28, 29, 30, 31, 32] (by decide +kernel) (by decide +kernel)
set_option maxRecDepth 20000 in
theorem gX4_go_X4_register : GoodIn wsX4_go (wsV RX4 34 RX4 yX4_register wsX4_register) := goodIn_app (goodIn_of _ (by decide +kernel)) ggX4_go_X4_register
theorem dX4_go_0 : decode cX4_go 0 = .ok (.iload_n 2, 1) := by decide +kernel
theorem dX4_go_1 : decode cX4_go 1 = .ok (.aload_n 0, 1) := by decide +kernel
theorem dX4_go_2 : decode cX4_go 2 = .ok (.getfield 25, 3) := by decide +kernel
theorem dX4_go_5 : decode cX4_go 5 = .ok (.if_icmp .eq 13, 3) := by decide +kernel
theorem dX4_go_8 : decode cX4_go 8 = .ok (.aload_n 0, 1) := by decide +kernel
theorem dX4_go_9 : decode cX4_go 9 = .ok (.dup, 1) := by decide +kernel
theorem dX4_go_10 : decode cX4_go 10 = .ok (.getfield 46, 3) := by decide +kernel
theorem dX4_go_13 : decode cX4_go 13 = .ok (.iconst 1, 1) := by decide +kernel
theorem dX4_go_14 : decode cX4_go 14 = .ok (.iadd, 1) := by decide +kernel
theorem dX4_go_15 : decode cX4_go 15 = .ok (.putfield 46, 3) := by decide +kernel
theorem dX4_go_18 : decode cX4_go 18 = .ok (.aload_n 0, 1) := by decide +kernel
theorem dX4_go_19 : decode cX4_go 19 = .ok (.dup, 1) := by decide +kernel
theorem dX4_go_20 : decode cX4_go 20 = .ok (.getfield 49, 3) := by decide +kernel
theorem dX4_go_23 : decode cX4_go 23 = .ok (.iconst 1, 1) := by decide +kernel
theorem dX4_go_24 : decode cX4_go 24 = .ok (.iadd, 1) := by decide +kernel
theorem dX4_go_25 : decode cX4_go 25 = .ok (.putfield 49, 3) := by decide +kernel
theorem dX4_go_28 : decode cX4_go 28 = .ok (.aload_n 0, 1) := by decide +kernel
theorem dX4_go_29 : decode cX4_go 29 = .ok (.iload_n 2, 1) := by decide +kernel
theorem dX4_go_30 : decode cX4_go 30 = .ok (.putfield 25, 3) := by decide +kernel
theorem dX4_go_33 : decode cX4_go 33 = .ok (.aload_n 0, 1) := by decide +kernel
theorem dX4_go_34 : decode cX4_go 34 = .ok (.aload_n 1, 1) := by decide +kernel
theorem dX4_go_35 : decode cX4_go 35 = .ok (.invokevirtual 61, 3) := by decide +kernel
theorem dX4_go_38 : decode cX4_go 38 = .ok (.ifCond .ne 5, 3) := by decide +kernel
theorem dX4_go_41 : decode cX4_go 41 = .ok (.iconst 0, 1) := by decide +kernel
theorem dX4_go_42 : decode cX4_go 42 = .ok (.ireturn, 1) := by decide +kernel
theorem dX4_go_43 : decode cX4_go 43 = .ok (.aload_n 0, 1) := by decide +kernel
theorem dX4_go_44 : decode cX4_go 44 = .ok (.invokevirtual 34, 3) := by decide +kernel
theorem dX4_go_47 : decode cX4_go 47 = .ok (.aload_n 0, 1) := by decide +kernel
theorem dX4_go_48 : decode cX4_go 48 = .ok (.dup, 1) := by decide +kernel
theorem dX4_go_49 : decode cX4_go 49 = .ok (.getfield 28, 3) := by decide +kernel
theorem dX4_go_52 : decode cX4_go 52 = .ok (.iconst 1, 1) := by decide +kernel
theorem dX4_go_53 : decode cX4_go 53 = .ok (.iadd, 1) := by decide +kernel
theorem dX4_go_54 : decode cX4_go 54 = .ok (.putfield 28, 3) := by decide +kernel
theorem dX4_go_57 : decode cX4_go 57 = .ok (.iconst 1, 1) := by decide +kernel
theorem dX4_go_58 : decode cX4_go 58 = .ok (.ireturn, 1) := by decide +kernel
set_option maxRecDepth 20000 in
theorem ggX4_isDue_X4_isOutside : GoodIn wsX4_isDue wsX4_isOutside := goodIn_r _ [10, 1, 11, 12, 13, 3, 14, 15, 16, 17, 18, 19, 20, 21, 22, 23, 24, 25, 26, 27, 28, 29, 30, 31, 32, 33, 34, 35] (by decide +kernel) (by decide +kernel)
set_option maxRecDepth 20000 in
theorem gX4_isDue_X4_isOutside : GoodIn wsX4_isDue (wsV RX4 65 RX4 yX4_isOutside wsX4_isOutside) := goodIn_app (goodIn_of _ (by decide +kernel)) ggX4_isDue_X4_isOutside
theorem dX4_isDue_0 : decode cX4_isDue 0 = .ok (.aload_n 0, 1) := by decide +kernel
theorem dX4_isDue_1 : decode cX4_isDue 1 = .ok (.getfield 18, 3) := by decide +kernel
theorem dX4_isDue_4 : decode cX4_isDue 4 = .ok (.lookupswitch 62 #[(1, 28), (2, 45)], 28) := by decide +kernel
theorem dX4_isDue_32 : decode cX4_isDue 32 = .ok (.aload_n 0, 1) := by decide +kernel
theorem dX4_isDue_33 : decode cX4_isDue 33 = .ok (.getfield 46, 3) := by decide +kernel
theorem dX4_isDue_36 : decode cX4_isDue 36 = .ok (.aload_n 0, 1) := by decide +kernel
theorem dX4_isDue_37 : decode cX4_isDue 37 = .ok (.getfield 22, 3) := by decide +kernel
theorem dX4_isDue_40 : decode cX4_isDue 40 = .ok (.if_icmp .lt 7, 3) := by decide +kernel
theorem dX4_isDue_43 : decode cX4_isDue 43 = .ok (.iconst 1, 1) := by decide +kernel
theorem dX4_isDue_44 : decode cX4_isDue 44 = .ok (.goto 4, 3) := by decide +kernel
theorem dX4_isDue_47 : decode cX4_isDue 47 = .ok (.iconst 0, 1) := by decide +kernel
theorem dX4_isDue_48 : decode cX4_isDue 48 = .ok (.ireturn, 1) := by decide +kernel
theorem dX4_isDue_49 : decode cX4_isDue 49 = .ok (.aload_n 0, 1) := by decide +kernel
theorem dX4_isDue_50 : decode cX4_isDue 50 = .ok (.getfield 49, 3) := by decide +kernel
theorem dX4_isDue_53 : decode cX4_isDue 53 = .ok (.aload_n 0, 1) := by decide +kernel
theorem dX4_isDue_54 : decode cX4_isDue 54 = .ok (.getfield 22, 3) := by decide +kernel
theorem dX4_isDue_57 : decode cX4_isDue 57 = .ok (.if_icmp .lt 7, 3) := by decide +kernel
theorem dX4_isDue_60 : decode cX4_isDue 60 = .ok (.iconst 1, 1) := by decide +kernel
theorem dX4_isDue_61 : decode cX4_isDue 61 = .ok (.goto 4, 3) := by decide +kernel
theorem dX4_isDue_64 : decode cX4_isDue 64 = .ok (.iconst 0, 1) := by decide +kernel
theorem dX4_isDue_65 : decode cX4_isDue 65 = .ok (.ireturn, 1) := by decide +kernel
theorem dX4_isDue_66 : decode cX4_isDue 66 = .ok (.aload_n 0, 1) := by decide +kernel
theorem dX4_isDue_67 : decode cX4_isDue 67 = .ok (.aload_n 1, 1) := by decide +kernel
theorem dX4_isDue_68 : decode cX4_isDue 68 = .ok (.aload_n 0, 1) := by decide +kernel
theorem dX4_isDue_69 : decode cX4_isDue 69 = .ok (.getfield 25, 3) := by decide +kernel
theorem dX4_isDue_72 : decode cX4_isDue 72 = .ok (.invokevirtual 65, 3) := by decide +kernel
theorem dX4_isDue_75 : decode cX4_isDue 75 = .ok (.ireturn, 1) := by decide +kernel
theorem dX4_isOutside_0 : decode cX4_isOutside 0 = .ok (.aload_n 0, 1) := by decide +kernel
theorem dX4_isOutside_1 : decode cX4_isOutside 1 = .ok (.getfield 18, 3) := by decide +kernel
theorem dX4_isOutside_4 : decode cX4_isOutside 4 = .ok (.lookupswitch 76 #[(0, 28), (3, 52)], 28) := by decide +kernel
theorem dX4_isOutside_32 : decode cX4_isOutside 32 = .ok (.aload_n 0, 1) := by decide +kernel
theorem dX4_isOutside_33 : decode cX4_isOutside 33 = .ok (.getfield 15, 3) := by decide +kernel
theorem dX4_isOutside_36 : decode cX4_isOutside 36 = .ok (.iload_n 2, 1) := by decide +kernel
theorem dX4_isOutside_37 : decode cX4_isOutside 37 = .ok (.iaload, 1) := by decide +kernel
theorem dX4_isOutside_38 : decode cX4_isOutside 38 = .ok (.aload_n 0, 1) := by decide +kernel
theorem dX4_isOutside_39 : decode cX4_isOutside 39 = .ok (.getfield 15, 3) := by decide +kernel
theorem dX4_isOutside_42 : decode cX4_isOutside 42 = .ok (.aload_n 0, 1) := by decide +kernel
theorem dX4_isOutside_43 : decode cX4_isOutside 43 = .ok (.getfield 43, 3) := by decide +kernel
theorem dX4_isOutside_46 : decode cX4_isOutside 46 = .ok (.iaload, 1) := by decide +kernel
theorem dX4_isOutside_47 : decode cX4_isOutside 47 = .ok (.if_icmp .eq 7, 3) := by decide +kernel
theorem dX4_isOutside_50 : decode cX4_isOutside 50 = .ok (.iconst 1, 1) := by decide +kernel
theorem dX4_isOutside_51 : decode cX4_isOutside 51 = .ok (.goto 4, 3) := by decide +kernel
theorem dX4_isOutside_54 : decode cX4_isOutside 54 = .ok (.iconst 0, 1) := by decide +kernel
theorem dX4_isOutside_55 : decode cX4_isOutside 55 = .ok (.ireturn, 1) := by decide +kernel
theorem dX4_isOutside_56 : decode cX4_isOutside 56 = .ok (.aload_n 1, 1) := by decide +kernel
theorem dX4_isOutside_57 : decode cX4_isOutside 57 = .ok (.getfield 69, 3) := by decide +kernel
theorem dX4_isOutside_60 : decode cX4_isOutside 60 = .ok (.aload_n 0, 1) := by decide +kernel
theorem dX4_isOutside_61 : decode cX4_isOutside 61 = .ok (.getfield 43, 3) := by decide +kernel
theorem dX4_isOutside_64 : decode cX4_isOutside 64 = .ok (.aaload, 1) := by decide +kernel
theorem dX4_isOutside_65 : decode cX4_isOutside 65 = .ok (.iload_n 2, 1) := by decide +kernel
theorem dX4_isOutside_66 : decode cX4_isOutside 66 = .ok (.iaload, 1) := by decide +kernel
theorem dX4_isOutside_67 : decode cX4_isOutside 67 = .ok (.aload_n 0, 1) := by decide +kernel
theorem dX4_isOutside_68 : decode cX4_isOutside 68 = .ok (.getfield 22, 3) := by decide +kernel
theorem dX4_isOutside_71 : decode cX4_isOutside 71 = .ok (.if_icmp .lt 7, 3) := by decide +kernel
theorem dX4_isOutside_74 : decode cX4_isOutside 74 = .ok (.iconst 1, 1) := by decide +kernel
theorem dX4_isOutside_75 : decode cX4_isOutside 75 = .ok (.goto 4, 3) := by decide +kernel
theorem dX4_isOutside_78 : decode cX4_isOutside 78 = .ok (.iconst 0, 1) := by decide +kernel
theorem dX4_isOutside_79 : decode cX4_isOutside 79 = .ok (.ireturn, 1) := by decide +kernel
theorem dX4_isOutside_80 : decode cX4_isOutside 80 = .ok (.iconst 0, 1) := by decide +kernel
theorem dX4_isOutside_81 : decode cX4_isOutside 81 = .ok (.ireturn, 1) := by decide +kernel
theorem dX4_drawnCell_0 : decode cX4_drawnCell 0 = .ok (.aload_n 0, 1) := by decide +kernel
theorem dX4_drawnCell_1 : decode cX4_drawnCell 1 = .ok (.getfield 9, 3) := by decide +kernel
theorem dX4_drawnCell_4 : decode cX4_drawnCell 4 = .ok (.aload_n 0, 1) := by decide +kernel
theorem dX4_drawnCell_5 : decode cX4_drawnCell 5 = .ok (.getfield 25, 3) := by decide +kernel
theorem dX4_drawnCell_8 : decode cX4_drawnCell 8 = .ok (.iaload, 1) := by decide +kernel
theorem dX4_drawnCell_9 : decode cX4_drawnCell 9 = .ok (.aload_n 1, 1) := by decide +kernel
theorem dX4_drawnCell_10 : decode cX4_drawnCell 10 = .ok (.getfield 73, 3) := by decide +kernel
theorem dX4_drawnCell_13 : decode cX4_drawnCell 13 = .ok (.aload_n 0, 1) := by decide +kernel
theorem dX4_drawnCell_14 : decode cX4_drawnCell 14 = .ok (.getfield 25, 3) := by decide +kernel
theorem dX4_drawnCell_17 : decode cX4_drawnCell 17 = .ok (.iaload, 1) := by decide +kernel
theorem dX4_drawnCell_18 : decode cX4_drawnCell 18 = .ok (.iadd, 1) := by decide +kernel
theorem dX4_drawnCell_19 : decode cX4_drawnCell 19 = .ok (.istore_n 3, 1) := by decide +kernel
theorem dX4_drawnCell_20 : decode cX4_drawnCell 20 = .ok (.iload_n 3, 1) := by decide +kernel
theorem dX4_drawnCell_21 : decode cX4_drawnCell 21 = .ok (.ifCond .le 9, 3) := by decide +kernel
theorem dX4_drawnCell_24 : decode cX4_drawnCell 24 = .ok (.iload_n 2, 1) := by decide +kernel
theorem dX4_drawnCell_25 : decode cX4_drawnCell 25 = .ok (.iload_n 3, 1) := by decide +kernel
theorem dX4_drawnCell_26 : decode cX4_drawnCell 26 = .ok (.irem, 1) := by decide +kernel
theorem dX4_drawnCell_27 : decode cX4_drawnCell 27 = .ok (.goto 4, 3) := by decide +kernel
theorem dX4_drawnCell_30 : decode cX4_drawnCell 30 = .ok (.iconst 0, 1) := by decide +kernel
theorem dX4_drawnCell_31 : decode cX4_drawnCell 31 = .ok (.istore 4, 2) := by decide +kernel
theorem dX4_drawnCell_33 : decode cX4_drawnCell 33 = .ok (.aload_n 0, 1) := by decide +kernel
theorem dX4_drawnCell_34 : decode cX4_drawnCell 34 = .ok (.getfield 9, 3) := by decide +kernel
theorem dX4_drawnCell_37 : decode cX4_drawnCell 37 = .ok (.aload_n 0, 1) := by decide +kernel
theorem dX4_drawnCell_38 : decode cX4_drawnCell 38 = .ok (.getfield 25, 3) := by decide +kernel
theorem dX4_drawnCell_41 : decode cX4_drawnCell 41 = .ok (.iaload, 1) := by decide +kernel
theorem dX4_drawnCell_42 : decode cX4_drawnCell 42 = .ok (.istore 5, 2) := by decide +kernel
theorem dX4_drawnCell_44 : decode cX4_drawnCell 44 = .ok (.iload 4, 2) := by decide +kernel
theorem dX4_drawnCell_46 : decode cX4_drawnCell 46 = .ok (.iload 5, 2) := by decide +kernel
theorem dX4_drawnCell_48 : decode cX4_drawnCell 48 = .ok (.if_icmp .ge 8, 3) := by decide +kernel
theorem dX4_drawnCell_51 : decode cX4_drawnCell 51 = .ok (.aload_n 0, 1) := by decide +kernel
theorem dX4_drawnCell_52 : decode cX4_drawnCell 52 = .ok (.getfield 25, 3) := by decide +kernel
theorem dX4_drawnCell_55 : decode cX4_drawnCell 55 = .ok (.ireturn, 1) := by decide +kernel
theorem dX4_drawnCell_56 : decode cX4_drawnCell 56 = .ok (.iconst 0, 1) := by decide +kernel
theorem dX4_drawnCell_57 : decode cX4_drawnCell 57 = .ok (.istore 6, 2) := by decide +kernel
theorem dX4_drawnCell_59 : decode cX4_drawnCell 59 = .ok (.iload 6, 2) := by decide +kernel
theorem dX4_drawnCell_61 : decode cX4_drawnCell 61 = .ok (.aload_n 1, 1) := by decide +kernel
theorem dX4_drawnCell_62 : decode cX4_drawnCell 62 = .ok (.getfield 76, 3) := by decide +kernel
theorem dX4_drawnCell_65 : decode cX4_drawnCell 65 = .ok (.if_icmp .ge 36, 3) := by decide +kernel
theorem dX4_drawnCell_68 : decode cX4_drawnCell 68 = .ok (.iload 5, 2) := by decide +kernel
theorem dX4_drawnCell_70 : decode cX4_drawnCell 70 = .ok (.aload_n 1, 1) := by decide +kernel
theorem dX4_drawnCell_71 : decode cX4_drawnCell 71 = .ok (.getfield 79, 3) := by decide +kernel
theorem dX4_drawnCell_74 : decode cX4_drawnCell 74 = .ok (.aload_n 0, 1) := by decide +kernel
theorem dX4_drawnCell_75 : decode cX4_drawnCell 75 = .ok (.getfield 25, 3) := by decide +kernel
theorem dX4_drawnCell_78 : decode cX4_drawnCell 78 = .ok (.aaload, 1) := by decide +kernel
theorem dX4_drawnCell_79 : decode cX4_drawnCell 79 = .ok (.iload 6, 2) := by decide +kernel
theorem dX4_drawnCell_81 : decode cX4_drawnCell 81 = .ok (.iaload, 1) := by decide +kernel
theorem dX4_drawnCell_82 : decode cX4_drawnCell 82 = .ok (.iadd, 1) := by decide +kernel
theorem dX4_drawnCell_83 : decode cX4_drawnCell 83 = .ok (.istore 5, 2) := by decide +kernel
theorem dX4_drawnCell_85 : decode cX4_drawnCell 85 = .ok (.iload 4, 2) := by decide +kernel
theorem dX4_drawnCell_87 : decode cX4_drawnCell 87 = .ok (.iload 5, 2) := by decide +kernel
theorem dX4_drawnCell_89 : decode cX4_drawnCell 89 = .ok (.if_icmp .ge 6, 3) := by decide +kernel
theorem dX4_drawnCell_92 : decode cX4_drawnCell 92 = .ok (.iload 6, 2) := by decide +kernel
theorem dX4_drawnCell_94 : decode cX4_drawnCell 94 = .ok (.ireturn, 1) := by decide +kernel
theorem dX4_drawnCell_95 : decode cX4_drawnCell 95 = .ok (.iinc 6 1, 3) := by decide +kernel
theorem dX4_drawnCell_98 : decode cX4_drawnCell 98 = .ok (.goto (-39), 3) := by decide +kernel
theorem dX4_drawnCell_101 : decode cX4_drawnCell 101 = .ok (.aload_n 0, 1) := by decide +kernel
theorem dX4_drawnCell_102 : decode cX4_drawnCell 102 = .ok (.getfield 25, 3) := by decide +kernel
theorem dX4_drawnCell_105 : decode cX4_drawnCell 105 = .ok (.ireturn, 1) := by decide +kernel
theorem dX5_init_0 : decode cX5_init 0 = .ok (.aload_n 0, 1) := by decide +kernel
theorem dX5_init_1 : decode cX5_init 1 = .ok (.invokespecial 3, 3) := by decide +kernel
theorem dX5_init_4 : decode cX5_init 4 = .ok (.aload_n 0, 1) := by decide +kernel
theorem dX5_init_5 : decode cX5_init 5 = .ok (.sipush 200, 3) := by decide +kernel
theorem dX5_init_8 : decode cX5_init 8 = .ok (.newarray .int, 2) := by decide +kernel
theorem dX5_init_10 : decode cX5_init 10 = .ok (.putfield 9, 3) := by decide +kernel
theorem dX5_init_13 : decode cX5_init 13 = .ok (.aload_n 0, 1) := by decide +kernel
theorem dX5_init_14 : decode cX5_init 14 = .ok (.iconst 4, 1) := by decide +kernel
theorem dX5_init_15 : decode cX5_init 15 = .ok (.newarray .int, 2) := by decide +kernel
theorem dX5_init_17 : decode cX5_init 17 = .ok (.putfield 15, 3) := by decide +kernel
theorem dX5_init_20 : decode cX5_init 20 = .ok (.return_, 1) := by decide +kernel
theorem dX5_append_0 : decode cX5_append 0 = .ok (.aload_n 0, 1) := by decide +kernel
theorem dX5_append_1 : decode cX5_append 1 = .ok (.getfield 18, 3) := by decide +kernel
theorem dX5_append_4 : decode cX5_append 4 = .ok (.sipush 200, 3) := by decide +kernel
theorem dX5_append_7 : decode cX5_append 7 = .ok (.if_icmp .lt 5, 3) := by decide +kernel
theorem dX5_append_10 : decode cX5_append 10 = .ok (.iconst 0, 1) := by decide +kernel
theorem dX5_append_11 : decode cX5_append 11 = .ok (.ireturn, 1) := by decide +kernel
theorem dX5_append_12 : decode cX5_append 12 = .ok (.aload_n 0, 1) := by decide +kernel
theorem dX5_append_13 : decode cX5_append 13 = .ok (.getfield 9, 3) := by decide +kernel
theorem dX5_append_16 : decode cX5_append 16 = .ok (.aload_n 0, 1) := by decide +kernel
theorem dX5_append_17 : decode cX5_append 17 = .ok (.getfield 18, 3) := by decide +kernel
theorem dX5_append_20 : decode cX5_append 20 = .ok (.iload_n 1, 1) := by decide +kernel
theorem dX5_append_21 : decode cX5_append 21 = .ok (.iastore, 1) := by decide +kernel
theorem dX5_append_22 : decode cX5_append 22 = .ok (.aload_n 0, 1) := by decide +kernel
theorem dX5_append_23 : decode cX5_append 23 = .ok (.dup, 1) := by decide +kernel
theorem dX5_append_24 : decode cX5_append 24 = .ok (.getfield 18, 3) := by decide +kernel
theorem dX5_append_27 : decode cX5_append 27 = .ok (.iconst 1, 1) := by decide +kernel
theorem dX5_append_28 : decode cX5_append 28 = .ok (.iadd, 1) := by decide +kernel
theorem dX5_append_29 : decode cX5_append 29 = .ok (.putfield 18, 3) := by decide +kernel
theorem dX5_append_32 : decode cX5_append 32 = .ok (.iconst 1, 1) := by decide +kernel
theorem dX5_append_33 : decode cX5_append 33 = .ok (.ireturn, 1) := by decide +kernel
set_option maxRecDepth 20000 in
theorem ggX5_readInto_X1_begin : GoodIn wsX5_readInto wsX1_begin := goodIn_r _ [7, 8, 9, 10, 11, 12, 13, 14, 15, 16, 6, 17, 18, 19, 20, 21, 114, 115, 116, 117, 118, 119, 120, 121, 122, 123, 124, 125] (by decide +kernel) (by decide +kernel)
set_option maxRecDepth 20000 in
theorem gX5_readInto_X1_begin : GoodIn wsX5_readInto (wsV RX5 22 RX1 yX1_begin wsX1_begin) := goodIn_app (goodIn_of _ (by decide +kernel)) ggX5_readInto_X1_begin
set_option maxRecDepth 20000 in
theorem ggX5_readInto_X4_begin : GoodIn wsX5_readInto wsX4_begin := goodIn_r _ [26, 27, 28, 29, 30, 31, 32, 33, 34, 35, 36, 25, 37, 38, 39, 40, 126, 127, 128, 129, 130, 131, 132, 133, 134, 135] (by decide +kernel) (by decide +kernel)
set_option maxRecDepth 20000 in
theorem gX5_readInto_X4_begin : GoodIn wsX5_readInto (wsV RX5 28 RX4 yX4_begin wsX4_begin) := goodIn_app (goodIn_of _ (by decide +kernel)) ggX5_readInto_X4_begin
set_option maxRecDepth 20000 in
theorem ggX5_readInto_X5_readItem : GoodIn wsX5_readInto wsX5_readItem := goodIn_r _ [45, 1, 46, 47, 48, 49, 50, 51, 44, 52, 2, 53, 54, 55, 56, 57, 58, 59, 60, 61, 62, 63, 64, 65, 66, 67, 68, 69, 70, 71, 72, 73, 74, 3, 4, 5, 6, 7, 8, 9, 10, 11, 12, 13, 14, 15, 16, 17, 18, 19, 20, 21, 75, 76, 77, 78, 79, 80, 81, 82, 83, 84, 85, 86, 87, 88, 89, 90, 91, 92, 93, 94, 95, 96, 97, 98, 99, 100, 101, 102, 103, 104, 105, 106, 107, 108, 109, 110, 111, 112, 113, 114, 115, 116, 117, 118, 119, 120, 121, 122, 123, 124, 125, 126, 127, 128, 129, 130, 131, 132, 133, 134, 135] (by decide +kernel) (by decide +kernel)
set_option maxRecDepth 20000 in
theorem gX5_readInto_X5_readItem : GoodIn wsX5_readInto (wsV RX5 35 RX5 yX5_readItem wsX5_readItem) := goodIn_app (goodIn_of _ (by decide +kernel)) ggX5_readInto_X5_readItem
theorem dX5_readInto_0 : decode cX5_readInto 0 = .ok (.aload_n 1, 1) := by decide +kernel
theorem dX5_readInto_1 : decode cX5_readInto 1 = .ok (.iconst 0, 1) := by decide +kernel
theorem dX5_readInto_2 : decode cX5_readInto 2 = .ok (.invokevirtual 22, 3) := by decide +kernel
theorem dX5_readInto_5 : decode cX5_readInto 5 = .ok (.aload_n 2, 1) := by decide +kernel
theorem dX5_readInto_6 : decode cX5_readInto 6 = .ok (.invokevirtual 28, 3) := by decide +kernel
theorem dX5_readInto_9 : decode cX5_readInto 9 = .ok (.aload_n 0, 1) := by decide +kernel
theorem dX5_readInto_10 : decode cX5_readInto 10 = .ok (.iconst 0, 1) := by decide +kernel
theorem dX5_readInto_11 : decode cX5_readInto 11 = .ok (.putfield 32, 3) := by decide +kernel
theorem dX5_readInto_14 : decode cX5_readInto 14 = .ok (.iconst 0, 1) := by decide +kernel
theorem dX5_readInto_15 : decode cX5_readInto 15 = .ok (.istore_n 3, 1) := by decide +kernel
theorem dX5_readInto_16 : decode cX5_readInto 16 = .ok (.iload_n 3, 1) := by decide +kernel
theorem dX5_readInto_17 : decode cX5_readInto 17 = .ok (.sipush 200, 3) := by decide +kernel
theorem dX5_readInto_20 : decode cX5_readInto 20 = .ok (.if_icmp .ge 38, 3) := by decide +kernel
theorem dX5_readInto_23 : decode cX5_readInto 23 = .ok (.aload_n 0, 1) := by decide +kernel
theorem dX5_readInto_24 : decode cX5_readInto 24 = .ok (.getfield 32, 3) := by decide +kernel
theorem dX5_readInto_27 : decode cX5_readInto 27 = .ok (.aload_n 0, 1) := by decide +kernel
theorem dX5_readInto_28 : decode cX5_readInto 28 = .ok (.getfield 18, 3) := by decide +kernel
theorem dX5_readInto_31 : decode cX5_readInto 31 = .ok (.if_icmp .ge 27, 3) := by decide +kernel
theorem dX5_readInto_34 : decode cX5_readInto 34 = .ok (.aload_n 0, 1) := by decide +kernel
theorem dX5_readInto_35 : decode cX5_readInto 35 = .ok (.getfield 32, 3) := by decide +kernel
theorem dX5_readInto_38 : decode cX5_readInto 38 = .ok (.istore 4, 2) := by decide +kernel
theorem dX5_readInto_40 : decode cX5_readInto 40 = .ok (.aload_n 0, 1) := by decide +kernel
theorem dX5_readInto_41 : decode cX5_readInto 41 = .ok (.aload_n 1, 1) := by decide +kernel
theorem dX5_readInto_42 : decode cX5_readInto 42 = .ok (.aload_n 2, 1) := by decide +kernel
theorem dX5_readInto_43 : decode cX5_readInto 43 = .ok (.invokevirtual 35, 3) := by decide +kernel
theorem dX5_readInto_46 : decode cX5_readInto 46 = .ok (.ifCond .ne 6, 3) := by decide +kernel
theorem dX5_readInto_49 : decode cX5_readInto 49 = .ok (.iload 4, 2) := by decide +kernel
theorem dX5_readInto_51 : decode cX5_readInto 51 = .ok (.ireturn, 1) := by decide +kernel
theorem dX5_readInto_52 : decode cX5_readInto 52 = .ok (.iinc 3 1, 3) := by decide +kernel
theorem dX5_readInto_55 : decode cX5_readInto 55 = .ok (.goto (-39), 3) := by decide +kernel
theorem dX5_readInto_58 : decode cX5_readInto 58 = .ok (.bipush (-4), 2) := by decide +kernel
theorem dX5_readInto_60 : decode cX5_readInto 60 = .ok (.ireturn, 1) := by decide +kernel
set_option maxRecDepth 20000 in
theorem ggX5_readItem_X5_letterHere : GoodIn wsX5_readItem wsX5_letterHere := goodIn_r _ [9, 1, 10, 11, 87, 88, 89, 90] (by decide +kernel) (by decide +kernel)
set_option maxRecDepth 20000 in
theorem gX5_readItem_X5_letterHere : GoodIn wsX5_readItem (wsV RX5 39 RX5 yX5_letterHere wsX5_letterHere) := goodIn_app (goodIn_of _ (by decide +kernel)) ggX5_readItem_X5_letterHere
set_option maxRecDepth 20000 in
theorem ggX5_readItem_X5_numbersBehind : GoodIn wsX5_readItem wsX5_numbersBehind := goodIn_r _ [15] (by decide +kernel) (by decide +kernel)
set_option maxRecDepth 20000 in
theorem gX5_readItem_X5_numbersBehind : GoodIn wsX5_readItem (wsV RX5 46 RX5 yX5_numbersBehind wsX5_numbersBehind) := goodIn_app (goodIn_of _ (by decide +kernel)) ggX5_readItem_X5_numbersBehind
set_option maxRecDepth 20000 in
theorem ggX5_readItem_X5_readNumbers : GoodIn wsX5_readItem wsX5_readNumbers := goodIn_r _ [19, 20, 1, 21, 22, 23, 8, 24, 25, 26, 27, 28, 10, 11, 5, 6, 7, 9, 87, 88, 89, 90] (by decide +kernel) (by decide +kernel)
set_option maxRecDepth 20000 in
theorem gX5_readItem_X5_readNumbers : GoodIn wsX5_readItem (wsV RX5 50 RX5 yX5_readNumbers wsX5_readNumbers) := goodIn_app (goodIn_of _ (by decide +kernel)) ggX5_readItem_X5_readNumbers
set_option maxRecDepth 20000 in
theorem ggX5_readItem_X5_takeCells : GoodIn wsX5_readItem wsX5_takeCells := goodIn_r _ [32, 20, 33, 34, 35, 36, 37, 38, 39, 40, 41, 42, 43, 44, 45, 46, 47, 48, 49, 50, 51, 87, 88, 89, 90, 91, 92, 93, 94, 95, 96, 97, 98, 99, 100, 101, 102] (by decide +kernel) (by decide +kernel)
set_option maxRecDepth 20000 in
theorem gX5_readItem_X5_takeCells : GoodIn wsX5_readItem (wsV RX5 54 RX5 yX5_takeCells wsX5_takeCells) := goodIn_app (goodIn_of _ (by decide +kernel)) ggX5_readItem_X5_takeCells
set_option maxRecDepth 20000 in
theorem ggX5_readItem_X5_takeJoin : GoodIn wsX5_readItem wsX5_takeJoin := goodIn_r _ [55, 20, 2, 56, 57, 58, 59, 8, 60, 61, 62, 63, 36, 64, 39, 65, 66, 67, 68, 42, 43, 40, 41, 87, 88, 89, 90, 91, 92, 93, 94, 95, 96, 97, 98, 99, 100, 101, 102] (by decide +kernel) (by decide +kernel)
set_option maxRecDepth 20000 in
theorem gX5_readItem_X5_takeJoin : GoodIn wsX5_readItem (wsV RX5 58 RX5 yX5_takeJoin wsX5_takeJoin) := goodIn_app (goodIn_of _ (by decide +kernel)) ggX5_readItem_X5_takeJoin
set_option maxRecDepth 20000 in
theorem ggX5_readItem_X5_takeCellNumber : GoodIn wsX5_readItem wsX5_takeCellNumber := goodIn_r _ [72, 20, 2, 87, 88, 89, 90, 91, 92, 93, 94, 95, 96, 97, 98, 99, 100, 101, 102] (by decide +kernel) (by decide +kernel)
set_option maxRecDepth 20000 in
theorem gX5_readItem_X5_takeCellNumber : GoodIn wsX5_readItem (wsV RX5 64 RX5 yX5_takeCellNumber wsX5_takeCellNumber) := goodIn_app (goodIn_of _ (by decide +kernel)) ggX5_readItem_X5_takeCellNumber
set_option maxRecDepth 20000 in
theorem ggX5_readItem_X5_takeLaw : GoodIn wsX5_readItem wsX5_takeLaw := goodIn_r _ [76, 20, 77, 78, 79, 80, 81, 87, 88, 89, 90, 103, 104, 105, 106, 107, 108, 109, 110, 111, 112] (by decide +kernel) (by decide +kernel)
set_option maxRecDepth 20000 in
theorem gX5_readItem_X5_takeLaw : GoodIn wsX5_readItem (wsV RX5 71 RX5 yX5_takeLaw wsX5_takeLaw) := goodIn_app (goodIn_of _ (by decide +kernel)) ggX5_readItem_X5_takeLaw
set_option maxRecDepth 20000 in
theorem ggX5_readItem_X5_takePrices : GoodIn wsX5_readItem wsX5_takePrices := goodIn_r _ [85, 20, 86, 45, 46, 36, 47, 48, 49, 50, 51, 87, 88, 89, 90, 91, 92, 93, 94, 95, 96, 97, 98, 99, 100, 101, 102] (by decide +kernel) (by decide +kernel)
set_option maxRecDepth 20000 in
theorem gX5_readItem_X5_takePrices : GoodIn wsX5_readItem (wsV RX5 75 RX5 yX5_takePrices wsX5_takePrices) := goodIn_app (goodIn_of _ (by decide +kernel)) ggX5_readItem_X5_takePrices
theorem dX5_readItem_0 : decode cX5_readItem 0 = .ok (.aload_n 0, 1) := by decide +kernel
theorem dX5_readItem_1 : decode cX5_readItem 1 = .ok (.invokevirtual 39, 3) := by decide +kernel
theorem dX5_readItem_4 : decode cX5_readItem 4 = .ok (.istore_n 3, 1) := by decide +kernel
theorem dX5_readItem_5 : decode cX5_readItem 5 = .ok (.aload_n 0, 1) := by decide +kernel
theorem dX5_readItem_6 : decode cX5_readItem 6 = .ok (.dup, 1) := by decide +kernel
theorem dX5_readItem_7 : decode cX5_readItem 7 = .ok (.getfield 32, 3) := by decide +kernel
theorem dX5_readItem_10 : decode cX5_readItem 10 = .ok (.iconst 1, 1) := by decide +kernel
theorem dX5_readItem_11 : decode cX5_readItem 11 = .ok (.iadd, 1) := by decide +kernel
theorem dX5_readItem_12 : decode cX5_readItem 12 = .ok (.putfield 32, 3) := by decide +kernel
theorem dX5_readItem_15 : decode cX5_readItem 15 = .ok (.aload_n 1, 1) := by decide +kernel
theorem dX5_readItem_16 : decode cX5_readItem 16 = .ok (.getfield 43, 3) := by decide +kernel
theorem dX5_readItem_19 : decode cX5_readItem 19 = .ok (.ifCond .ne 7, 3) := by decide +kernel
theorem dX5_readItem_22 : decode cX5_readItem 22 = .ok (.iconst 1, 1) := by decide +kernel
theorem dX5_readItem_23 : decode cX5_readItem 23 = .ok (.goto 4, 3) := by decide +kernel
theorem dX5_readItem_26 : decode cX5_readItem 26 = .ok (.iconst 0, 1) := by decide +kernel
theorem dX5_readItem_27 : decode cX5_readItem 27 = .ok (.istore 4, 2) := by decide +kernel
theorem dX5_readItem_29 : decode cX5_readItem 29 = .ok (.iload 4, 2) := by decide +kernel
theorem dX5_readItem_31 : decode cX5_readItem 31 = .ok (.iload_n 3, 1) := by decide +kernel
theorem dX5_readItem_32 : decode cX5_readItem 32 = .ok (.bipush 110, 2) := by decide +kernel
theorem dX5_readItem_34 : decode cX5_readItem 34 = .ok (.if_icmp .ne 7, 3) := by decide +kernel
theorem dX5_readItem_37 : decode cX5_readItem 37 = .ok (.iconst 1, 1) := by decide +kernel
theorem dX5_readItem_38 : decode cX5_readItem 38 = .ok (.goto 4, 3) := by decide +kernel
theorem dX5_readItem_41 : decode cX5_readItem 41 = .ok (.iconst 0, 1) := by decide +kernel
theorem dX5_readItem_42 : decode cX5_readItem 42 = .ok (.if_icmp .ne 15, 3) := by decide +kernel
theorem dX5_readItem_45 : decode cX5_readItem 45 = .ok (.aload_n 0, 1) := by decide +kernel
theorem dX5_readItem_46 : decode cX5_readItem 46 = .ok (.aload_n 0, 1) := by decide +kernel
theorem dX5_readItem_47 : decode cX5_readItem 47 = .ok (.iload_n 3, 1) := by decide +kernel
theorem dX5_readItem_48 : decode cX5_readItem 48 = .ok (.invokevirtual 46, 3) := by decide +kernel
theorem dX5_readItem_51 : decode cX5_readItem 51 = .ok (.invokevirtual 50, 3) := by decide +kernel
theorem dX5_readItem_54 : decode cX5_readItem 54 = .ok (.ifCond .ne 5, 3) := by decide +kernel
theorem dX5_readItem_57 : decode cX5_readItem 57 = .ok (.iconst 0, 1) := by decide +kernel
theorem dX5_readItem_58 : decode cX5_readItem 58 = .ok (.ireturn, 1) := by decide +kernel
theorem dX5_readItem_59 : decode cX5_readItem 59 = .ok (.iload_n 3, 1) := by decide +kernel
theorem dX5_readItem_60 : decode cX5_readItem 60 = .ok (.tableswitch 139 97 115 #[116, 139, 139, 139, 139, 139, 139, 139, 139, 98, 139, 127, 139, 92, 139, 133, 139, 139, 104], 92) := by decide +kernel
theorem dX5_readItem_152 : decode cX5_readItem 152 = .ok (.aload_n 0, 1) := by decide +kernel
theorem dX5_readItem_153 : decode cX5_readItem 153 = .ok (.aload_n 1, 1) := by decide +kernel
theorem dX5_readItem_154 : decode cX5_readItem 154 = .ok (.invokevirtual 54, 3) := by decide +kernel
theorem dX5_readItem_157 : decode cX5_readItem 157 = .ok (.ireturn, 1) := by decide +kernel
theorem dX5_readItem_158 : decode cX5_readItem 158 = .ok (.aload_n 0, 1) := by decide +kernel
theorem dX5_readItem_159 : decode cX5_readItem 159 = .ok (.aload_n 1, 1) := by decide +kernel
theorem dX5_readItem_160 : decode cX5_readItem 160 = .ok (.invokevirtual 58, 3) := by decide +kernel
theorem dX5_readItem_163 : decode cX5_readItem 163 = .ok (.ireturn, 1) := by decide +kernel
theorem dX5_readItem_164 : decode cX5_readItem 164 = .ok (.aload_n 0, 1) := by decide +kernel
theorem dX5_readItem_165 : decode cX5_readItem 165 = .ok (.aload_n 1, 1) := by decide +kernel
theorem dX5_readItem_166 : decode cX5_readItem 166 = .ok (.aload_n 2, 1) := by decide +kernel
theorem dX5_readItem_167 : decode cX5_readItem 167 = .ok (.getfield 61, 3) := by decide +kernel
theorem dX5_readItem_170 : decode cX5_readItem 170 = .ok (.bipush 9, 2) := by decide +kernel
theorem dX5_readItem_172 : decode cX5_readItem 172 = .ok (.invokevirtual 64, 3) := by decide +kernel
theorem dX5_readItem_175 : decode cX5_readItem 175 = .ok (.ireturn, 1) := by decide +kernel
theorem dX5_readItem_176 : decode cX5_readItem 176 = .ok (.aload_n 0, 1) := by decide +kernel
theorem dX5_readItem_177 : decode cX5_readItem 177 = .ok (.aload_n 1, 1) := by decide +kernel
theorem dX5_readItem_178 : decode cX5_readItem 178 = .ok (.aload_n 2, 1) := by decide +kernel
theorem dX5_readItem_179 : decode cX5_readItem 179 = .ok (.getfield 68, 3) := by decide +kernel
theorem dX5_readItem_182 : decode cX5_readItem 182 = .ok (.iconst 5, 1) := by decide +kernel
theorem dX5_readItem_183 : decode cX5_readItem 183 = .ok (.invokevirtual 64, 3) := by decide +kernel
theorem dX5_readItem_186 : decode cX5_readItem 186 = .ok (.ireturn, 1) := by decide +kernel
theorem dX5_readItem_187 : decode cX5_readItem 187 = .ok (.aload_n 0, 1) := by decide +kernel
theorem dX5_readItem_188 : decode cX5_readItem 188 = .ok (.aload_n 2, 1) := by decide +kernel
theorem dX5_readItem_189 : decode cX5_readItem 189 = .ok (.invokevirtual 71, 3) := by decide +kernel
theorem dX5_readItem_192 : decode cX5_readItem 192 = .ok (.ireturn, 1) := by decide +kernel
theorem dX5_readItem_193 : decode cX5_readItem 193 = .ok (.aload_n 0, 1) := by decide +kernel
theorem dX5_readItem_194 : decode cX5_readItem 194 = .ok (.aload_n 1, 1) := by decide +kernel
theorem dX5_readItem_195 : decode cX5_readItem 195 = .ok (.invokevirtual 75, 3) := by decide +kernel
theorem dX5_readItem_198 : decode cX5_readItem 198 = .ok (.ireturn, 1) := by decide +kernel
theorem dX5_readItem_199 : decode cX5_readItem 199 = .ok (.iconst 0, 1) := by decide +kernel
theorem dX5_readItem_200 : decode cX5_readItem 200 = .ok (.ireturn, 1) := by decide +kernel
theorem dX5_numbersBehind_0 : decode cX5_numbersBehind 0 = .ok (.iload_n 1, 1) := by decide +kernel
theorem dX5_numbersBehind_1 : decode cX5_numbersBehind 1 = .ok (.tableswitch 97 97 115 #[93, 97, 97, 97, 97, 97, 97, 97, 97, 95, 97, 93, 97, 91, 97, 95, 97, 97, 93], 91) := by decide +kernel
theorem dX5_numbersBehind_92 : decode cX5_numbersBehind 92 = .ok (.iconst 1, 1) := by decide +kernel
theorem dX5_numbersBehind_93 : decode cX5_numbersBehind 93 = .ok (.ireturn, 1) := by decide +kernel
theorem dX5_numbersBehind_94 : decode cX5_numbersBehind 94 = .ok (.iconst 2, 1) := by decide +kernel
theorem dX5_numbersBehind_95 : decode cX5_numbersBehind 95 = .ok (.ireturn, 1) := by decide +kernel
theorem dX5_numbersBehind_96 : decode cX5_numbersBehind 96 = .ok (.iconst 4, 1) := by decide +kernel
theorem dX5_numbersBehind_97 : decode cX5_numbersBehind 97 = .ok (.ireturn, 1) := by decide +kernel
theorem dX5_numbersBehind_98 : decode cX5_numbersBehind 98 = .ok (.iconst 0, 1) := by decide +kernel
theorem dX5_numbersBehind_99 : decode cX5_numbersBehind 99 = .ok (.ireturn, 1) := by decide +kernel
set_option maxRecDepth 20000 in
theorem ggX5_takeCells_X1_begin : GoodIn wsX5_takeCells wsX1_begin := goodIn_r _ [6, 7, 8, 9, 10, 11, 12, 13, 14, 15, 5, 16, 17, 18, 19, 20, 25, 26, 27, 28, 29, 30, 31, 32, 33, 34, 35, 36] (by decide +kernel) (by decide +kernel)
set_option maxRecDepth 20000 in
theorem gX5_takeCells_X1_begin : GoodIn wsX5_takeCells (wsV RX5 22 RX1 yX1_begin wsX1_begin) := goodIn_app (goodIn_of _ (by decide +kernel)) ggX5_takeCells_X1_begin
theorem dX5_takeCells_0 : decode cX5_takeCells 0 = .ok (.aload_n 0, 1) := by decide +kernel
theorem dX5_takeCells_1 : decode cX5_takeCells 1 = .ok (.getfield 15, 3) := by decide +kernel
theorem dX5_takeCells_4 : decode cX5_takeCells 4 = .ok (.iconst 0, 1) := by decide +kernel
theorem dX5_takeCells_5 : decode cX5_takeCells 5 = .ok (.iaload, 1) := by decide +kernel
theorem dX5_takeCells_6 : decode cX5_takeCells 6 = .ok (.iconst 2, 1) := by decide +kernel
theorem dX5_takeCells_7 : decode cX5_takeCells 7 = .ok (.if_icmp .lt 14, 3) := by decide +kernel
theorem dX5_takeCells_10 : decode cX5_takeCells 10 = .ok (.aload_n 0, 1) := by decide +kernel
theorem dX5_takeCells_11 : decode cX5_takeCells 11 = .ok (.getfield 15, 3) := by decide +kernel
theorem dX5_takeCells_14 : decode cX5_takeCells 14 = .ok (.iconst 0, 1) := by decide +kernel
theorem dX5_takeCells_15 : decode cX5_takeCells 15 = .ok (.iaload, 1) := by decide +kernel
theorem dX5_takeCells_16 : decode cX5_takeCells 16 = .ok (.bipush 6, 2) := by decide +kernel
theorem dX5_takeCells_18 : decode cX5_takeCells 18 = .ok (.if_icmp .le 5, 3) := by decide +kernel
theorem dX5_takeCells_21 : decode cX5_takeCells 21 = .ok (.iconst 0, 1) := by decide +kernel
theorem dX5_takeCells_22 : decode cX5_takeCells 22 = .ok (.ireturn, 1) := by decide +kernel
theorem dX5_takeCells_23 : decode cX5_takeCells 23 = .ok (.aload_n 1, 1) := by decide +kernel
theorem dX5_takeCells_24 : decode cX5_takeCells 24 = .ok (.aload_n 0, 1) := by decide +kernel
theorem dX5_takeCells_25 : decode cX5_takeCells 25 = .ok (.getfield 15, 3) := by decide +kernel
theorem dX5_takeCells_28 : decode cX5_takeCells 28 = .ok (.iconst 0, 1) := by decide +kernel
theorem dX5_takeCells_29 : decode cX5_takeCells 29 = .ok (.iaload, 1) := by decide +kernel
theorem dX5_takeCells_30 : decode cX5_takeCells 30 = .ok (.invokevirtual 22, 3) := by decide +kernel
theorem dX5_takeCells_33 : decode cX5_takeCells 33 = .ok (.iconst 1, 1) := by decide +kernel
theorem dX5_takeCells_34 : decode cX5_takeCells 34 = .ok (.ireturn, 1) := by decide +kernel
set_option maxRecDepth 20000 in
theorem ggX5_takeJoin_X5_isWeight : GoodIn wsX5_takeJoin wsX5_isWeight := goodIn_r _ [8] (by decide +kernel) (by decide +kernel)
set_option maxRecDepth 20000 in
theorem gX5_takeJoin_X5_isWeight : GoodIn wsX5_takeJoin (wsV RX5 82 RX5 yX5_isWeight wsX5_isWeight) := goodIn_app (goodIn_of _ (by decide +kernel)) ggX5_takeJoin_X5_isWeight
set_option maxRecDepth 20000 in
theorem ggX5_takeJoin_X1_join : GoodIn wsX5_takeJoin wsX1_join := goodIn_r _ [13, 14, 15, 16, 17, 12, 18, 19, 20, 21, 22, 27, 28, 29, 30, 31, 32, 33, 34, 35, 36, 37, 38] (by decide +kernel) (by decide +kernel)
set_option maxRecDepth 20000 in
theorem gX5_takeJoin_X1_join : GoodIn wsX5_takeJoin (wsV RX5 85 RX1 yX1_join wsX1_join) := goodIn_app (goodIn_of _ (by decide +kernel)) ggX5_takeJoin_X1_join
theorem dX5_takeJoin_0 : decode cX5_takeJoin 0 = .ok (.aload_n 0, 1) := by decide +kernel
theorem dX5_takeJoin_1 : decode cX5_takeJoin 1 = .ok (.getfield 15, 3) := by decide +kernel
theorem dX5_takeJoin_4 : decode cX5_takeJoin 4 = .ok (.iconst 0, 1) := by decide +kernel
theorem dX5_takeJoin_5 : decode cX5_takeJoin 5 = .ok (.iaload, 1) := by decide +kernel
theorem dX5_takeJoin_6 : decode cX5_takeJoin 6 = .ok (.istore_n 2, 1) := by decide +kernel
theorem dX5_takeJoin_7 : decode cX5_takeJoin 7 = .ok (.aload_n 0, 1) := by decide +kernel
theorem dX5_takeJoin_8 : decode cX5_takeJoin 8 = .ok (.getfield 15, 3) := by decide +kernel
theorem dX5_takeJoin_11 : decode cX5_takeJoin 11 = .ok (.iconst 1, 1) := by decide +kernel
theorem dX5_takeJoin_12 : decode cX5_takeJoin 12 = .ok (.iaload, 1) := by decide +kernel
theorem dX5_takeJoin_13 : decode cX5_takeJoin 13 = .ok (.istore_n 3, 1) := by decide +kernel
theorem dX5_takeJoin_14 : decode cX5_takeJoin 14 = .ok (.iload_n 2, 1) := by decide +kernel
theorem dX5_takeJoin_15 : decode cX5_takeJoin 15 = .ok (.aload_n 1, 1) := by decide +kernel
theorem dX5_takeJoin_16 : decode cX5_takeJoin 16 = .ok (.getfield 43, 3) := by decide +kernel
theorem dX5_takeJoin_19 : decode cX5_takeJoin 19 = .ok (.if_icmp .ge 53, 3) := by decide +kernel
theorem dX5_takeJoin_22 : decode cX5_takeJoin 22 = .ok (.iload_n 3, 1) := by decide +kernel
theorem dX5_takeJoin_23 : decode cX5_takeJoin 23 = .ok (.aload_n 1, 1) := by decide +kernel
theorem dX5_takeJoin_24 : decode cX5_takeJoin 24 = .ok (.getfield 43, 3) := by decide +kernel
theorem dX5_takeJoin_27 : decode cX5_takeJoin 27 = .ok (.if_icmp .ge 45, 3) := by decide +kernel
theorem dX5_takeJoin_30 : decode cX5_takeJoin 30 = .ok (.iload_n 2, 1) := by decide +kernel
theorem dX5_takeJoin_31 : decode cX5_takeJoin 31 = .ok (.iload_n 3, 1) := by decide +kernel
theorem dX5_takeJoin_32 : decode cX5_takeJoin 32 = .ok (.if_icmp .eq 40, 3) := by decide +kernel
theorem dX5_takeJoin_35 : decode cX5_takeJoin 35 = .ok (.aload_n 1, 1) := by decide +kernel
theorem dX5_takeJoin_36 : decode cX5_takeJoin 36 = .ok (.getfield 78, 3) := by decide +kernel
theorem dX5_takeJoin_39 : decode cX5_takeJoin 39 = .ok (.iload_n 2, 1) := by decide +kernel
theorem dX5_takeJoin_40 : decode cX5_takeJoin 40 = .ok (.aaload, 1) := by decide +kernel
theorem dX5_takeJoin_41 : decode cX5_takeJoin 41 = .ok (.iload_n 3, 1) := by decide +kernel
theorem dX5_takeJoin_42 : decode cX5_takeJoin 42 = .ok (.iaload, 1) := by decide +kernel
theorem dX5_takeJoin_43 : decode cX5_takeJoin 43 = .ok (.ifCond .ne 29, 3) := by decide +kernel
theorem dX5_takeJoin_46 : decode cX5_takeJoin 46 = .ok (.aload_n 0, 1) := by decide +kernel
theorem dX5_takeJoin_47 : decode cX5_takeJoin 47 = .ok (.aload_n 0, 1) := by decide +kernel
theorem dX5_takeJoin_48 : decode cX5_takeJoin 48 = .ok (.getfield 15, 3) := by decide +kernel
theorem dX5_takeJoin_51 : decode cX5_takeJoin 51 = .ok (.iconst 2, 1) := by decide +kernel
theorem dX5_takeJoin_52 : decode cX5_takeJoin 52 = .ok (.iaload, 1) := by decide +kernel
theorem dX5_takeJoin_53 : decode cX5_takeJoin 53 = .ok (.invokevirtual 82, 3) := by decide +kernel
theorem dX5_takeJoin_56 : decode cX5_takeJoin 56 = .ok (.ifCond .eq 16, 3) := by decide +kernel
theorem dX5_takeJoin_59 : decode cX5_takeJoin 59 = .ok (.aload_n 0, 1) := by decide +kernel
theorem dX5_takeJoin_60 : decode cX5_takeJoin 60 = .ok (.aload_n 0, 1) := by decide +kernel
theorem dX5_takeJoin_61 : decode cX5_takeJoin 61 = .ok (.getfield 15, 3) := by decide +kernel
theorem dX5_takeJoin_64 : decode cX5_takeJoin 64 = .ok (.iconst 3, 1) := by decide +kernel
theorem dX5_takeJoin_65 : decode cX5_takeJoin 65 = .ok (.iaload, 1) := by decide +kernel
theorem dX5_takeJoin_66 : decode cX5_takeJoin 66 = .ok (.invokevirtual 82, 3) := by decide +kernel
theorem dX5_takeJoin_69 : decode cX5_takeJoin 69 = .ok (.ifCond .ne 5, 3) := by decide +kernel
theorem dX5_takeJoin_72 : decode cX5_takeJoin 72 = .ok (.iconst 0, 1) := by decide +kernel
theorem dX5_takeJoin_73 : decode cX5_takeJoin 73 = .ok (.ireturn, 1) := by decide +kernel
theorem dX5_takeJoin_74 : decode cX5_takeJoin 74 = .ok (.aload_n 1, 1) := by decide +kernel
theorem dX5_takeJoin_75 : decode cX5_takeJoin 75 = .ok (.iload_n 2, 1) := by decide +kernel
theorem dX5_takeJoin_76 : decode cX5_takeJoin 76 = .ok (.iload_n 3, 1) := by decide +kernel
theorem dX5_takeJoin_77 : decode cX5_takeJoin 77 = .ok (.aload_n 0, 1) := by decide +kernel
theorem dX5_takeJoin_78 : decode cX5_takeJoin 78 = .ok (.getfield 15, 3) := by decide +kernel
theorem dX5_takeJoin_81 : decode cX5_takeJoin 81 = .ok (.iconst 2, 1) := by decide +kernel
theorem dX5_takeJoin_82 : decode cX5_takeJoin 82 = .ok (.iaload, 1) := by decide +kernel
theorem dX5_takeJoin_83 : decode cX5_takeJoin 83 = .ok (.aload_n 0, 1) := by decide +kernel
theorem dX5_takeJoin_84 : decode cX5_takeJoin 84 = .ok (.getfield 15, 3) := by decide +kernel
theorem dX5_takeJoin_87 : decode cX5_takeJoin 87 = .ok (.iconst 3, 1) := by decide +kernel
theorem dX5_takeJoin_88 : decode cX5_takeJoin 88 = .ok (.iaload, 1) := by decide +kernel
theorem dX5_takeJoin_89 : decode cX5_takeJoin 89 = .ok (.invokevirtual 85, 3) := by decide +kernel
theorem dX5_takeJoin_92 : decode cX5_takeJoin 92 = .ok (.iconst 1, 1) := by decide +kernel
theorem dX5_takeJoin_93 : decode cX5_takeJoin 93 = .ok (.ireturn, 1) := by decide +kernel
theorem dX5_isWeight_0 : decode cX5_isWeight 0 = .ok (.iload_n 1, 1) := by decide +kernel
theorem dX5_isWeight_1 : decode cX5_isWeight 1 = .ok (.iconst 1, 1) := by decide +kernel
theorem dX5_isWeight_2 : decode cX5_isWeight 2 = .ok (.if_icmp .lt 12, 3) := by decide +kernel
theorem dX5_isWeight_5 : decode cX5_isWeight 5 = .ok (.iload_n 1, 1) := by decide +kernel
theorem dX5_isWeight_6 : decode cX5_isWeight 6 = .ok (.iconst 4, 1) := by decide +kernel
theorem dX5_isWeight_7 : decode cX5_isWeight 7 = .ok (.if_icmp .gt 7, 3) := by decide +kernel
theorem dX5_isWeight_10 : decode cX5_isWeight 10 = .ok (.iconst 1, 1) := by decide +kernel
theorem dX5_isWeight_11 : decode cX5_isWeight 11 = .ok (.goto 4, 3) := by decide +kernel
theorem dX5_isWeight_14 : decode cX5_isWeight 14 = .ok (.iconst 0, 1) := by decide +kernel
theorem dX5_isWeight_15 : decode cX5_isWeight 15 = .ok (.ireturn, 1) := by decide +kernel
theorem dX5_takeCellNumber_0 : decode cX5_takeCellNumber 0 = .ok (.aload_n 0, 1) := by decide +kernel
theorem dX5_takeCellNumber_1 : decode cX5_takeCellNumber 1 = .ok (.getfield 15, 3) := by decide +kernel
theorem dX5_takeCellNumber_4 : decode cX5_takeCellNumber 4 = .ok (.iconst 0, 1) := by decide +kernel
theorem dX5_takeCellNumber_5 : decode cX5_takeCellNumber 5 = .ok (.iaload, 1) := by decide +kernel
theorem dX5_takeCellNumber_6 : decode cX5_takeCellNumber 6 = .ok (.aload_n 1, 1) := by decide +kernel
theorem dX5_takeCellNumber_7 : decode cX5_takeCellNumber 7 = .ok (.getfield 43, 3) := by decide +kernel
theorem dX5_takeCellNumber_10 : decode cX5_takeCellNumber 10 = .ok (.if_icmp .ge 13, 3) := by decide +kernel
theorem dX5_takeCellNumber_13 : decode cX5_takeCellNumber 13 = .ok (.aload_n 0, 1) := by decide +kernel
theorem dX5_takeCellNumber_14 : decode cX5_takeCellNumber 14 = .ok (.getfield 15, 3) := by decide +kernel
theorem dX5_takeCellNumber_17 : decode cX5_takeCellNumber 17 = .ok (.iconst 1, 1) := by decide +kernel
theorem dX5_takeCellNumber_18 : decode cX5_takeCellNumber 18 = .ok (.iaload, 1) := by decide +kernel
theorem dX5_takeCellNumber_19 : decode cX5_takeCellNumber 19 = .ok (.iload_n 3, 1) := by decide +kernel
theorem dX5_takeCellNumber_20 : decode cX5_takeCellNumber 20 = .ok (.if_icmp .le 5, 3) := by decide +kernel
theorem dX5_takeCellNumber_23 : decode cX5_takeCellNumber 23 = .ok (.iconst 0, 1) := by decide +kernel
theorem dX5_takeCellNumber_24 : decode cX5_takeCellNumber 24 = .ok (.ireturn, 1) := by decide +kernel
theorem dX5_takeCellNumber_25 : decode cX5_takeCellNumber 25 = .ok (.aload_n 2, 1) := by decide +kernel
theorem dX5_takeCellNumber_26 : decode cX5_takeCellNumber 26 = .ok (.aload_n 0, 1) := by decide +kernel
theorem dX5_takeCellNumber_27 : decode cX5_takeCellNumber 27 = .ok (.getfield 15, 3) := by decide +kernel
theorem dX5_takeCellNumber_30 : decode cX5_takeCellNumber 30 = .ok (.iconst 0, 1) := by decide +kernel
theorem dX5_takeCellNumber_31 : decode cX5_takeCellNumber 31 = .ok (.iaload, 1) := by decide +kernel
theorem dX5_takeCellNumber_32 : decode cX5_takeCellNumber 32 = .ok (.aload_n 0, 1) := by decide +kernel
theorem dX5_takeCellNumber_33 : decode cX5_takeCellNumber 33 = .ok (.getfield 15, 3) := by decide +kernel
theorem dX5_takeCellNumber_36 : decode cX5_takeCellNumber 36 = .ok (.iconst 1, 1) := by decide +kernel
theorem dX5_takeCellNumber_37 : decode cX5_takeCellNumber 37 = .ok (.iaload, 1) := by decide +kernel
theorem dX5_takeCellNumber_38 : decode cX5_takeCellNumber 38 = .ok (.iastore, 1) := by decide +kernel
theorem dX5_takeCellNumber_39 : decode cX5_takeCellNumber 39 = .ok (.iconst 1, 1) := by decide +kernel
theorem dX5_takeCellNumber_40 : decode cX5_takeCellNumber 40 = .ok (.ireturn, 1) := by decide +kernel
set_option maxRecDepth 20000 in
theorem ggX5_takeLaw_X7_isLaw : GoodIn wsX5_takeLaw wsX7_isLaw := goodIn_r _ [6] (by decide +kernel) (by decide +kernel)
set_option maxRecDepth 20000 in
theorem gX5_takeLaw_X7_isLaw_n89 : GoodIn wsX5_takeLaw (wsX7_isLaw) := ggX5_takeLaw_X7_isLaw
theorem dX5_takeLaw_0 : decode cX5_takeLaw 0 = .ok (.aload_n 0, 1) := by decide +kernel
theorem dX5_takeLaw_1 : decode cX5_takeLaw 1 = .ok (.getfield 15, 3) := by decide +kernel
theorem dX5_takeLaw_4 : decode cX5_takeLaw 4 = .ok (.iconst 0, 1) := by decide +kernel
theorem dX5_takeLaw_5 : decode cX5_takeLaw 5 = .ok (.iaload, 1) := by decide +kernel
theorem dX5_takeLaw_6 : decode cX5_takeLaw 6 = .ok (.aload_n 0, 1) := by decide +kernel
theorem dX5_takeLaw_7 : decode cX5_takeLaw 7 = .ok (.getfield 15, 3) := by decide +kernel
theorem dX5_takeLaw_10 : decode cX5_takeLaw 10 = .ok (.iconst 1, 1) := by decide +kernel
theorem dX5_takeLaw_11 : decode cX5_takeLaw 11 = .ok (.iaload, 1) := by decide +kernel
theorem dX5_takeLaw_12 : decode cX5_takeLaw 12 = .ok (.invokestatic 89, 3) := by decide +kernel
theorem dX5_takeLaw_15 : decode cX5_takeLaw 15 = .ok (.ifCond .ne 5, 3) := by decide +kernel
theorem dX5_takeLaw_18 : decode cX5_takeLaw 18 = .ok (.iconst 0, 1) := by decide +kernel
theorem dX5_takeLaw_19 : decode cX5_takeLaw 19 = .ok (.ireturn, 1) := by decide +kernel
theorem dX5_takeLaw_20 : decode cX5_takeLaw 20 = .ok (.aload_n 1, 1) := by decide +kernel
theorem dX5_takeLaw_21 : decode cX5_takeLaw 21 = .ok (.aload_n 0, 1) := by decide +kernel
theorem dX5_takeLaw_22 : decode cX5_takeLaw 22 = .ok (.getfield 15, 3) := by decide +kernel
theorem dX5_takeLaw_25 : decode cX5_takeLaw 25 = .ok (.iconst 0, 1) := by decide +kernel
theorem dX5_takeLaw_26 : decode cX5_takeLaw 26 = .ok (.iaload, 1) := by decide +kernel
theorem dX5_takeLaw_27 : decode cX5_takeLaw 27 = .ok (.putfield 93, 3) := by decide +kernel
theorem dX5_takeLaw_30 : decode cX5_takeLaw 30 = .ok (.aload_n 1, 1) := by decide +kernel
theorem dX5_takeLaw_31 : decode cX5_takeLaw 31 = .ok (.aload_n 0, 1) := by decide +kernel
theorem dX5_takeLaw_32 : decode cX5_takeLaw 32 = .ok (.getfield 15, 3) := by decide +kernel
theorem dX5_takeLaw_35 : decode cX5_takeLaw 35 = .ok (.iconst 1, 1) := by decide +kernel
theorem dX5_takeLaw_36 : decode cX5_takeLaw 36 = .ok (.iaload, 1) := by decide +kernel
theorem dX5_takeLaw_37 : decode cX5_takeLaw 37 = .ok (.putfield 96, 3) := by decide +kernel
theorem dX5_takeLaw_40 : decode cX5_takeLaw 40 = .ok (.iconst 1, 1) := by decide +kernel
theorem dX5_takeLaw_41 : decode cX5_takeLaw 41 = .ok (.ireturn, 1) := by decide +kernel
set_option maxRecDepth 20000 in
theorem ggX5_takePrices_X1_price : GoodIn wsX5_takePrices wsX1_price := goodIn_r _ [6, 7, 8, 9, 10, 15, 16, 17, 18, 19, 20, 21, 22, 23, 24, 25, 26] (by decide +kernel) (by decide +kernel)
set_option maxRecDepth 20000 in
theorem gX5_takePrices_X1_price : GoodIn wsX5_takePrices (wsV RX5 99 RX1 yX1_price wsX1_price) := goodIn_app (goodIn_of _ (by decide +kernel)) ggX5_takePrices_X1_price
theorem dX5_takePrices_0 : decode cX5_takePrices 0 = .ok (.aload_n 0, 1) := by decide +kernel
theorem dX5_takePrices_1 : decode cX5_takePrices 1 = .ok (.getfield 15, 3) := by decide +kernel
theorem dX5_takePrices_4 : decode cX5_takePrices 4 = .ok (.iconst 0, 1) := by decide +kernel
theorem dX5_takePrices_5 : decode cX5_takePrices 5 = .ok (.iaload, 1) := by decide +kernel
theorem dX5_takePrices_6 : decode cX5_takePrices 6 = .ok (.iconst 1, 1) := by decide +kernel
theorem dX5_takePrices_7 : decode cX5_takePrices 7 = .ok (.if_icmp .lt 13, 3) := by decide +kernel
theorem dX5_takePrices_10 : decode cX5_takePrices 10 = .ok (.aload_n 0, 1) := by decide +kernel
theorem dX5_takePrices_11 : decode cX5_takePrices 11 = .ok (.getfield 15, 3) := by decide +kernel
theorem dX5_takePrices_14 : decode cX5_takePrices 14 = .ok (.iconst 0, 1) := by decide +kernel
theorem dX5_takePrices_15 : decode cX5_takePrices 15 = .ok (.iaload, 1) := by decide +kernel
theorem dX5_takePrices_16 : decode cX5_takePrices 16 = .ok (.iconst 4, 1) := by decide +kernel
theorem dX5_takePrices_17 : decode cX5_takePrices 17 = .ok (.if_icmp .le 5, 3) := by decide +kernel
theorem dX5_takePrices_20 : decode cX5_takePrices 20 = .ok (.iconst 0, 1) := by decide +kernel
theorem dX5_takePrices_21 : decode cX5_takePrices 21 = .ok (.ireturn, 1) := by decide +kernel
theorem dX5_takePrices_22 : decode cX5_takePrices 22 = .ok (.aload_n 1, 1) := by decide +kernel
theorem dX5_takePrices_23 : decode cX5_takePrices 23 = .ok (.aload_n 0, 1) := by decide +kernel
theorem dX5_takePrices_24 : decode cX5_takePrices 24 = .ok (.getfield 15, 3) := by decide +kernel
theorem dX5_takePrices_27 : decode cX5_takePrices 27 = .ok (.iconst 0, 1) := by decide +kernel
theorem dX5_takePrices_28 : decode cX5_takePrices 28 = .ok (.iaload, 1) := by decide +kernel
theorem dX5_takePrices_29 : decode cX5_takePrices 29 = .ok (.aload_n 0, 1) := by decide +kernel
theorem dX5_takePrices_30 : decode cX5_takePrices 30 = .ok (.getfield 15, 3) := by decide +kernel
theorem dX5_takePrices_33 : decode cX5_takePrices 33 = .ok (.iconst 1, 1) := by decide +kernel
theorem dX5_takePrices_34 : decode cX5_takePrices 34 = .ok (.iaload, 1) := by decide +kernel
theorem dX5_takePrices_35 : decode cX5_takePrices 35 = .ok (.aload_n 0, 1) := by decide +kernel
theorem dX5_takePrices_36 : decode cX5_takePrices 36 = .ok (.getfield 15, 3) := by decide +kernel
theorem dX5_takePrices_39 : decode cX5_takePrices 39 = .ok (.iconst 2, 1) := by decide +kernel
theorem dX5_takePrices_40 : decode cX5_takePrices 40 = .ok (.iaload, 1) := by decide +kernel
theorem dX5_takePrices_41 : decode cX5_takePrices 41 = .ok (.aload_n 0, 1) := by decide +kernel
theorem dX5_takePrices_42 : decode cX5_takePrices 42 = .ok (.getfield 15, 3) := by decide +kernel
theorem dX5_takePrices_45 : decode cX5_takePrices 45 = .ok (.iconst 3, 1) := by decide +kernel
theorem dX5_takePrices_46 : decode cX5_takePrices 46 = .ok (.iaload, 1) := by decide +kernel
theorem dX5_takePrices_47 : decode cX5_takePrices 47 = .ok (.invokevirtual 99, 3) := by decide +kernel
theorem dX5_takePrices_50 : decode cX5_takePrices 50 = .ok (.iconst 1, 1) := by decide +kernel
theorem dX5_takePrices_51 : decode cX5_takePrices 51 = .ok (.ireturn, 1) := by decide +kernel
set_option maxRecDepth 20000 in
theorem ggX5_readNumbers_X5_readNumber : GoodIn wsX5_readNumbers wsX5_readNumber := goodIn_r _ [7, 2, 8, 9, 10, 6, 11, 12, 13, 18, 19, 20, 21] (by decide +kernel) (by decide +kernel)
set_option maxRecDepth 20000 in
theorem gX5_readNumbers_X5_readNumber : GoodIn wsX5_readNumbers (wsV RX5 102 RX5 yX5_readNumber wsX5_readNumber) := goodIn_app (goodIn_of _ (by decide +kernel)) ggX5_readNumbers_X5_readNumber
set_option maxRecDepth 20000 in
theorem ggX5_readNumbers_X5_letterHere : GoodIn wsX5_readNumbers wsX5_letterHere := goodIn_r _ [17, 2, 12, 13, 18, 19, 20, 21] (by decide +kernel) (by decide +kernel)
set_option maxRecDepth 20000 in
theorem gX5_readNumbers_X5_letterHere : GoodIn wsX5_readNumbers (wsV RX5 39 RX5 yX5_letterHere wsX5_letterHere) := goodIn_app (goodIn_of _ (by decide +kernel)) ggX5_readNumbers_X5_letterHere
theorem dX5_readNumbers_0 : decode cX5_readNumbers 0 = .ok (.iconst 0, 1) := by decide +kernel
theorem dX5_readNumbers_1 : decode cX5_readNumbers 1 = .ok (.istore_n 2, 1) := by decide +kernel
theorem dX5_readNumbers_2 : decode cX5_readNumbers 2 = .ok (.iload_n 2, 1) := by decide +kernel
theorem dX5_readNumbers_3 : decode cX5_readNumbers 3 = .ok (.iload_n 1, 1) := by decide +kernel
theorem dX5_readNumbers_4 : decode cX5_readNumbers 4 = .ok (.if_icmp .ge 66, 3) := by decide +kernel
theorem dX5_readNumbers_7 : decode cX5_readNumbers 7 = .ok (.iload_n 2, 1) := by decide +kernel
theorem dX5_readNumbers_8 : decode cX5_readNumbers 8 = .ok (.iconst 4, 1) := by decide +kernel
theorem dX5_readNumbers_9 : decode cX5_readNumbers 9 = .ok (.if_icmp .ge 61, 3) := by decide +kernel
theorem dX5_readNumbers_12 : decode cX5_readNumbers 12 = .ok (.aload_n 0, 1) := by decide +kernel
theorem dX5_readNumbers_13 : decode cX5_readNumbers 13 = .ok (.getfield 15, 3) := by decide +kernel
theorem dX5_readNumbers_16 : decode cX5_readNumbers 16 = .ok (.iload_n 2, 1) := by decide +kernel
theorem dX5_readNumbers_17 : decode cX5_readNumbers 17 = .ok (.aload_n 0, 1) := by decide +kernel
theorem dX5_readNumbers_18 : decode cX5_readNumbers 18 = .ok (.invokevirtual 102, 3) := by decide +kernel
theorem dX5_readNumbers_21 : decode cX5_readNumbers 21 = .ok (.iastore, 1) := by decide +kernel
theorem dX5_readNumbers_22 : decode cX5_readNumbers 22 = .ok (.aload_n 0, 1) := by decide +kernel
theorem dX5_readNumbers_23 : decode cX5_readNumbers 23 = .ok (.getfield 15, 3) := by decide +kernel
theorem dX5_readNumbers_26 : decode cX5_readNumbers 26 = .ok (.iload_n 2, 1) := by decide +kernel
theorem dX5_readNumbers_27 : decode cX5_readNumbers 27 = .ok (.iaload, 1) := by decide +kernel
theorem dX5_readNumbers_28 : decode cX5_readNumbers 28 = .ok (.ifCond .lt 24, 3) := by decide +kernel
theorem dX5_readNumbers_31 : decode cX5_readNumbers 31 = .ok (.aload_n 0, 1) := by decide +kernel
theorem dX5_readNumbers_32 : decode cX5_readNumbers 32 = .ok (.invokevirtual 39, 3) := by decide +kernel
theorem dX5_readNumbers_35 : decode cX5_readNumbers 35 = .ok (.iload_n 2, 1) := by decide +kernel
theorem dX5_readNumbers_36 : decode cX5_readNumbers 36 = .ok (.iconst 1, 1) := by decide +kernel
theorem dX5_readNumbers_37 : decode cX5_readNumbers 37 = .ok (.iadd, 1) := by decide +kernel
theorem dX5_readNumbers_38 : decode cX5_readNumbers 38 = .ok (.iload_n 1, 1) := by decide +kernel
theorem dX5_readNumbers_39 : decode cX5_readNumbers 39 = .ok (.if_icmp .ge 8, 3) := by decide +kernel
theorem dX5_readNumbers_42 : decode cX5_readNumbers 42 = .ok (.bipush 44, 2) := by decide +kernel
theorem dX5_readNumbers_44 : decode cX5_readNumbers 44 = .ok (.goto 5, 3) := by decide +kernel
theorem dX5_readNumbers_47 : decode cX5_readNumbers 47 = .ok (.bipush 59, 2) := by decide +kernel
theorem dX5_readNumbers_49 : decode cX5_readNumbers 49 = .ok (.if_icmp .eq 5, 3) := by decide +kernel
theorem dX5_readNumbers_52 : decode cX5_readNumbers 52 = .ok (.iconst 0, 1) := by decide +kernel
theorem dX5_readNumbers_53 : decode cX5_readNumbers 53 = .ok (.ireturn, 1) := by decide +kernel
theorem dX5_readNumbers_54 : decode cX5_readNumbers 54 = .ok (.aload_n 0, 1) := by decide +kernel
theorem dX5_readNumbers_55 : decode cX5_readNumbers 55 = .ok (.dup, 1) := by decide +kernel
theorem dX5_readNumbers_56 : decode cX5_readNumbers 56 = .ok (.getfield 32, 3) := by decide +kernel
theorem dX5_readNumbers_59 : decode cX5_readNumbers 59 = .ok (.iconst 1, 1) := by decide +kernel
theorem dX5_readNumbers_60 : decode cX5_readNumbers 60 = .ok (.iadd, 1) := by decide +kernel
theorem dX5_readNumbers_61 : decode cX5_readNumbers 61 = .ok (.putfield 32, 3) := by decide +kernel
theorem dX5_readNumbers_64 : decode cX5_readNumbers 64 = .ok (.iinc 2 1, 3) := by decide +kernel
theorem dX5_readNumbers_67 : decode cX5_readNumbers 67 = .ok (.goto (-65), 3) := by decide +kernel
theorem dX5_readNumbers_70 : decode cX5_readNumbers 70 = .ok (.iload_n 1, 1) := by decide +kernel
theorem dX5_readNumbers_71 : decode cX5_readNumbers 71 = .ok (.ifCond .le 7, 3) := by decide +kernel
theorem dX5_readNumbers_74 : decode cX5_readNumbers 74 = .ok (.iconst 1, 1) := by decide +kernel
theorem dX5_readNumbers_75 : decode cX5_readNumbers 75 = .ok (.goto 4, 3) := by decide +kernel
theorem dX5_readNumbers_78 : decode cX5_readNumbers 78 = .ok (.iconst 0, 1) := by decide +kernel
theorem dX5_readNumbers_79 : decode cX5_readNumbers 79 = .ok (.ireturn, 1) := by decide +kernel
set_option maxRecDepth 20000 in
theorem ggX5_readNumber_X5_figureHere : GoodIn wsX5_readNumber wsX5_figureHere := goodIn_r _ [6, 1, 7, 8, 9, 10, 11, 12] (by decide +kernel) (by decide +kernel)
set_option maxRecDepth 20000 in
theorem gX5_readNumber_X5_figureHere : GoodIn wsX5_readNumber (wsV RX5 105 RX5 yX5_figureHere wsX5_figureHere) := goodIn_app (goodIn_of _ (by decide +kernel)) ggX5_readNumber_X5_figureHere
theorem dX5_readNumber_0 : decode cX5_readNumber 0 = .ok (.aload_n 0, 1) := by decide +kernel
theorem dX5_readNumber_1 : decode cX5_readNumber 1 = .ok (.invokevirtual 105, 3) := by decide +kernel
theorem dX5_readNumber_4 : decode cX5_readNumber 4 = .ok (.istore_n 1, 1) := by decide +kernel
theorem dX5_readNumber_5 : decode cX5_readNumber 5 = .ok (.iload_n 1, 1) := by decide +kernel
theorem dX5_readNumber_6 : decode cX5_readNumber 6 = .ok (.ifCond .ge 5, 3) := by decide +kernel
theorem dX5_readNumber_9 : decode cX5_readNumber 9 = .ok (.iconst (-1), 1) := by decide +kernel
theorem dX5_readNumber_10 : decode cX5_readNumber 10 = .ok (.ireturn, 1) := by decide +kernel
theorem dX5_readNumber_11 : decode cX5_readNumber 11 = .ok (.aload_n 0, 1) := by decide +kernel
theorem dX5_readNumber_12 : decode cX5_readNumber 12 = .ok (.dup, 1) := by decide +kernel
theorem dX5_readNumber_13 : decode cX5_readNumber 13 = .ok (.getfield 32, 3) := by decide +kernel
theorem dX5_readNumber_16 : decode cX5_readNumber 16 = .ok (.iconst 1, 1) := by decide +kernel
theorem dX5_readNumber_17 : decode cX5_readNumber 17 = .ok (.iadd, 1) := by decide +kernel
theorem dX5_readNumber_18 : decode cX5_readNumber 18 = .ok (.putfield 32, 3) := by decide +kernel
theorem dX5_readNumber_21 : decode cX5_readNumber 21 = .ok (.aload_n 0, 1) := by decide +kernel
theorem dX5_readNumber_22 : decode cX5_readNumber 22 = .ok (.invokevirtual 105, 3) := by decide +kernel
theorem dX5_readNumber_25 : decode cX5_readNumber 25 = .ok (.istore_n 2, 1) := by decide +kernel
theorem dX5_readNumber_26 : decode cX5_readNumber 26 = .ok (.iload_n 2, 1) := by decide +kernel
theorem dX5_readNumber_27 : decode cX5_readNumber 27 = .ok (.ifCond .ge 5, 3) := by decide +kernel
theorem dX5_readNumber_30 : decode cX5_readNumber 30 = .ok (.iload_n 1, 1) := by decide +kernel
theorem dX5_readNumber_31 : decode cX5_readNumber 31 = .ok (.ireturn, 1) := by decide +kernel
theorem dX5_readNumber_32 : decode cX5_readNumber 32 = .ok (.aload_n 0, 1) := by decide +kernel
theorem dX5_readNumber_33 : decode cX5_readNumber 33 = .ok (.dup, 1) := by decide +kernel
theorem dX5_readNumber_34 : decode cX5_readNumber 34 = .ok (.getfield 32, 3) := by decide +kernel
theorem dX5_readNumber_37 : decode cX5_readNumber 37 = .ok (.iconst 1, 1) := by decide +kernel
theorem dX5_readNumber_38 : decode cX5_readNumber 38 = .ok (.iadd, 1) := by decide +kernel
theorem dX5_readNumber_39 : decode cX5_readNumber 39 = .ok (.putfield 32, 3) := by decide +kernel
theorem dX5_readNumber_42 : decode cX5_readNumber 42 = .ok (.bipush 10, 2) := by decide +kernel
theorem dX5_readNumber_44 : decode cX5_readNumber 44 = .ok (.iload_n 1, 1) := by decide +kernel
theorem dX5_readNumber_45 : decode cX5_readNumber 45 = .ok (.imul, 1) := by decide +kernel
theorem dX5_readNumber_46 : decode cX5_readNumber 46 = .ok (.iload_n 2, 1) := by decide +kernel
theorem dX5_readNumber_47 : decode cX5_readNumber 47 = .ok (.iadd, 1) := by decide +kernel
theorem dX5_readNumber_48 : decode cX5_readNumber 48 = .ok (.ireturn, 1) := by decide +kernel
theorem dX5_figureHere_0 : decode cX5_figureHere 0 = .ok (.aload_n 0, 1) := by decide +kernel
theorem dX5_figureHere_1 : decode cX5_figureHere 1 = .ok (.getfield 32, 3) := by decide +kernel
theorem dX5_figureHere_4 : decode cX5_figureHere 4 = .ok (.aload_n 0, 1) := by decide +kernel
theorem dX5_figureHere_5 : decode cX5_figureHere 5 = .ok (.getfield 18, 3) := by decide +kernel
theorem dX5_figureHere_8 : decode cX5_figureHere 8 = .ok (.if_icmp .ge 35, 3) := by decide +kernel
theorem dX5_figureHere_11 : decode cX5_figureHere 11 = .ok (.aload_n 0, 1) := by decide +kernel
theorem dX5_figureHere_12 : decode cX5_figureHere 12 = .ok (.getfield 9, 3) := by decide +kernel
theorem dX5_figureHere_15 : decode cX5_figureHere 15 = .ok (.aload_n 0, 1) := by decide +kernel
theorem dX5_figureHere_16 : decode cX5_figureHere 16 = .ok (.getfield 32, 3) := by decide +kernel
theorem dX5_figureHere_19 : decode cX5_figureHere 19 = .ok (.iaload, 1) := by decide +kernel
theorem dX5_figureHere_20 : decode cX5_figureHere 20 = .ok (.bipush 48, 2) := by decide +kernel
theorem dX5_figureHere_22 : decode cX5_figureHere 22 = .ok (.if_icmp .lt 21, 3) := by decide +kernel
theorem dX5_figureHere_25 : decode cX5_figureHere 25 = .ok (.aload_n 0, 1) := by decide +kernel
theorem dX5_figureHere_26 : decode cX5_figureHere 26 = .ok (.getfield 9, 3) := by decide +kernel
theorem dX5_figureHere_29 : decode cX5_figureHere 29 = .ok (.aload_n 0, 1) := by decide +kernel
theorem dX5_figureHere_30 : decode cX5_figureHere 30 = .ok (.getfield 32, 3) := by decide +kernel
theorem dX5_figureHere_33 : decode cX5_figureHere 33 = .ok (.iaload, 1) := by decide +kernel
theorem dX5_figureHere_34 : decode cX5_figureHere 34 = .ok (.bipush 57, 2) := by decide +kernel
theorem dX5_figureHere_36 : decode cX5_figureHere 36 = .ok (.if_icmp .gt 7, 3) := by decide +kernel
theorem dX5_figureHere_39 : decode cX5_figureHere 39 = .ok (.iconst 1, 1) := by decide +kernel
theorem dX5_figureHere_40 : decode cX5_figureHere 40 = .ok (.goto 4, 3) := by decide +kernel
theorem dX5_figureHere_43 : decode cX5_figureHere 43 = .ok (.iconst 0, 1) := by decide +kernel
theorem dX5_figureHere_44 : decode cX5_figureHere 44 = .ok (.istore_n 1, 1) := by decide +kernel
theorem dX5_figureHere_45 : decode cX5_figureHere 45 = .ok (.iload_n 1, 1) := by decide +kernel
theorem dX5_figureHere_46 : decode cX5_figureHere 46 = .ok (.ifCond .eq 18, 3) := by decide +kernel
theorem dX5_figureHere_49 : decode cX5_figureHere 49 = .ok (.aload_n 0, 1) := by decide +kernel
theorem dX5_figureHere_50 : decode cX5_figureHere 50 = .ok (.getfield 9, 3) := by decide +kernel
theorem dX5_figureHere_53 : decode cX5_figureHere 53 = .ok (.aload_n 0, 1) := by decide +kernel
theorem dX5_figureHere_54 : decode cX5_figureHere 54 = .ok (.getfield 32, 3) := by decide +kernel
theorem dX5_figureHere_57 : decode cX5_figureHere 57 = .ok (.iaload, 1) := by decide +kernel
theorem dX5_figureHere_58 : decode cX5_figureHere 58 = .ok (.bipush 48, 2) := by decide +kernel
theorem dX5_figureHere_60 : decode cX5_figureHere 60 = .ok (.isub, 1) := by decide +kernel
theorem dX5_figureHere_61 : decode cX5_figureHere 61 = .ok (.goto 4, 3) := by decide +kernel
theorem dX5_figureHere_64 : decode cX5_figureHere 64 = .ok (.iconst (-1), 1) := by decide +kernel
theorem dX5_figureHere_65 : decode cX5_figureHere 65 = .ok (.ireturn, 1) := by decide +kernel
theorem dX5_letterHere_0 : decode cX5_letterHere 0 = .ok (.aload_n 0, 1) := by decide +kernel
theorem dX5_letterHere_1 : decode cX5_letterHere 1 = .ok (.getfield 32, 3) := by decide +kernel
theorem dX5_letterHere_4 : decode cX5_letterHere 4 = .ok (.aload_n 0, 1) := by decide +kernel
theorem dX5_letterHere_5 : decode cX5_letterHere 5 = .ok (.getfield 18, 3) := by decide +kernel
theorem dX5_letterHere_8 : decode cX5_letterHere 8 = .ok (.if_icmp .ge 15, 3) := by decide +kernel
theorem dX5_letterHere_11 : decode cX5_letterHere 11 = .ok (.aload_n 0, 1) := by decide +kernel
theorem dX5_letterHere_12 : decode cX5_letterHere 12 = .ok (.getfield 9, 3) := by decide +kernel
theorem dX5_letterHere_15 : decode cX5_letterHere 15 = .ok (.aload_n 0, 1) := by decide +kernel
theorem dX5_letterHere_16 : decode cX5_letterHere 16 = .ok (.getfield 32, 3) := by decide +kernel
theorem dX5_letterHere_19 : decode cX5_letterHere 19 = .ok (.iaload, 1) := by decide +kernel
theorem dX5_letterHere_20 : decode cX5_letterHere 20 = .ok (.goto 4, 3) := by decide +kernel
theorem dX5_letterHere_23 : decode cX5_letterHere 23 = .ok (.iconst (-1), 1) := by decide +kernel
theorem dX5_letterHere_24 : decode cX5_letterHere 24 = .ok (.ireturn, 1) := by decide +kernel
theorem dX6_init_0 : decode cX6_init 0 = .ok (.aload_n 0, 1) := by decide +kernel
theorem dX6_init_1 : decode cX6_init 1 = .ok (.invokespecial 3, 3) := by decide +kernel
theorem dX6_init_4 : decode cX6_init 4 = .ok (.aload_n 0, 1) := by decide +kernel
theorem dX6_init_5 : decode cX6_init 5 = .ok (.bipush 9, 2) := by decide +kernel
theorem dX6_init_7 : decode cX6_init 7 = .ok (.newarray .int, 2) := by decide +kernel
theorem dX6_init_9 : decode cX6_init 9 = .ok (.putfield 9, 3) := by decide +kernel
theorem dX6_init_12 : decode cX6_init 12 = .ok (.return_, 1) := by decide +kernel
set_option maxRecDepth 20000 in
theorem ggX6_find_X6_insideOf : GoodIn wsX6_find wsX6_insideOf := goodIn_r _ [14, 15, 16, 17, 18, 19, 20, 21, 22, 23, 24, 25, 54, 55, 56, 57, 58, 59, 60, 61, 62, 63, 64, 65, 43, 44, 45, 46, 47, 48, 49, 50, 51, 52] (by decide +kernel) (by decide +kernel)
set_option maxRecDepth 20000 in
theorem gX6_find_X6_insideOf : GoodIn wsX6_find (wsV RX6 30 RX6 yX6_insideOf wsX6_insideOf) := goodIn_app (goodIn_of _ (by decide +kernel)) ggX6_find_X6_insideOf
set_option maxRecDepth 20000 in
theorem ggX6_find_X6_step : GoodIn wsX6_find wsX6_step := goodIn_r _ [29, 1, 7, 30, 31, 32, 13, 33, 15, 34, 35, 36, 37, 38, 39, 40, 41, 42, 43, 44, 45, 46, 47, 48, 49, 50, 51, 52, 53, 54, 55, 56, 57, 58, 59, 60, 61, 62, 63, 64, 65] (by decide +kernel) (by decide +kernel)
set_option maxRecDepth 20000 in
theorem gX6_find_X6_step : GoodIn wsX6_find (wsV RX6 40 RX6 yX6_step wsX6_step) := goodIn_app (goodIn_of _ (by decide +kernel)) ggX6_find_X6_step
theorem dX6_find_0 : decode cX6_find 0 = .ok (.aload_n 2, 1) := by decide +kernel
theorem dX6_find_1 : decode cX6_find 1 = .ok (.getfield 15, 3) := by decide +kernel
theorem dX6_find_4 : decode cX6_find 4 = .ok (.iconst 1, 1) := by decide +kernel
theorem dX6_find_5 : decode cX6_find 5 = .ok (.if_icmp .ne 15, 3) := by decide +kernel
theorem dX6_find_8 : decode cX6_find 8 = .ok (.aload_n 2, 1) := by decide +kernel
theorem dX6_find_9 : decode cX6_find 9 = .ok (.getfield 21, 3) := by decide +kernel
theorem dX6_find_12 : decode cX6_find 12 = .ok (.bipush 9, 2) := by decide +kernel
theorem dX6_find_14 : decode cX6_find 14 = .ok (.invokestatic 24, 3) := by decide +kernel
theorem dX6_find_17 : decode cX6_find 17 = .ok (.goto 4, 3) := by decide +kernel
theorem dX6_find_20 : decode cX6_find 20 = .ok (.iconst 1, 1) := by decide +kernel
theorem dX6_find_21 : decode cX6_find 21 = .ok (.istore_n 3, 1) := by decide +kernel
theorem dX6_find_22 : decode cX6_find 22 = .ok (.aload_n 0, 1) := by decide +kernel
theorem dX6_find_23 : decode cX6_find 23 = .ok (.aload_n 1, 1) := by decide +kernel
theorem dX6_find_24 : decode cX6_find 24 = .ok (.aload_n 2, 1) := by decide +kernel
theorem dX6_find_25 : decode cX6_find 25 = .ok (.invokevirtual 30, 3) := by decide +kernel
theorem dX6_find_28 : decode cX6_find 28 = .ok (.istore 4, 2) := by decide +kernel
theorem dX6_find_30 : decode cX6_find 30 = .ok (.iconst 1, 1) := by decide +kernel
theorem dX6_find_31 : decode cX6_find 31 = .ok (.istore 5, 2) := by decide +kernel
theorem dX6_find_33 : decode cX6_find 33 = .ok (.iload 5, 2) := by decide +kernel
theorem dX6_find_35 : decode cX6_find 35 = .ok (.iload_n 3, 1) := by decide +kernel
theorem dX6_find_36 : decode cX6_find 36 = .ok (.if_icmp .ge 17, 3) := by decide +kernel
theorem dX6_find_39 : decode cX6_find 39 = .ok (.aload_n 0, 1) := by decide +kernel
theorem dX6_find_40 : decode cX6_find 40 = .ok (.getfield 9, 3) := by decide +kernel
theorem dX6_find_43 : decode cX6_find 43 = .ok (.iload 5, 2) := by decide +kernel
theorem dX6_find_45 : decode cX6_find 45 = .ok (.iconst 0, 1) := by decide +kernel
theorem dX6_find_46 : decode cX6_find 46 = .ok (.iastore, 1) := by decide +kernel
theorem dX6_find_47 : decode cX6_find 47 = .ok (.iinc 5 1, 3) := by decide +kernel
theorem dX6_find_50 : decode cX6_find 50 = .ok (.goto (-17), 3) := by decide +kernel
theorem dX6_find_53 : decode cX6_find 53 = .ok (.aload_n 0, 1) := by decide +kernel
theorem dX6_find_54 : decode cX6_find 54 = .ok (.getfield 9, 3) := by decide +kernel
theorem dX6_find_57 : decode cX6_find 57 = .ok (.iconst 0, 1) := by decide +kernel
theorem dX6_find_58 : decode cX6_find 58 = .ok (.iconst 1, 1) := by decide +kernel
theorem dX6_find_59 : decode cX6_find 59 = .ok (.aload_n 2, 1) := by decide +kernel
theorem dX6_find_60 : decode cX6_find 60 = .ok (.getfield 34, 3) := by decide +kernel
theorem dX6_find_63 : decode cX6_find 63 = .ok (.ishl, 1) := by decide +kernel
theorem dX6_find_64 : decode cX6_find 64 = .ok (.iastore, 1) := by decide +kernel
theorem dX6_find_65 : decode cX6_find 65 = .ok (.iconst 1, 1) := by decide +kernel
theorem dX6_find_66 : decode cX6_find 66 = .ok (.istore 5, 2) := by decide +kernel
theorem dX6_find_68 : decode cX6_find 68 = .ok (.iconst 0, 1) := by decide +kernel
theorem dX6_find_69 : decode cX6_find 69 = .ok (.istore 6, 2) := by decide +kernel
theorem dX6_find_71 : decode cX6_find 71 = .ok (.iload 6, 2) := by decide +kernel
theorem dX6_find_73 : decode cX6_find 73 = .ok (.aload_n 2, 1) := by decide +kernel
theorem dX6_find_74 : decode cX6_find 74 = .ok (.getfield 37, 3) := by decide +kernel
theorem dX6_find_77 : decode cX6_find 77 = .ok (.if_icmp .ge 25, 3) := by decide +kernel
theorem dX6_find_80 : decode cX6_find 80 = .ok (.iload 5, 2) := by decide +kernel
theorem dX6_find_82 : decode cX6_find 82 = .ok (.ifCond .eq 20, 3) := by decide +kernel
theorem dX6_find_85 : decode cX6_find 85 = .ok (.aload_n 0, 1) := by decide +kernel
theorem dX6_find_86 : decode cX6_find 86 = .ok (.aload_n 1, 1) := by decide +kernel
theorem dX6_find_87 : decode cX6_find 87 = .ok (.aload_n 2, 1) := by decide +kernel
theorem dX6_find_88 : decode cX6_find 88 = .ok (.iload_n 3, 1) := by decide +kernel
theorem dX6_find_89 : decode cX6_find 89 = .ok (.iload 4, 2) := by decide +kernel
theorem dX6_find_91 : decode cX6_find 91 = .ok (.invokevirtual 40, 3) := by decide +kernel
theorem dX6_find_94 : decode cX6_find 94 = .ok (.istore 5, 2) := by decide +kernel
theorem dX6_find_96 : decode cX6_find 96 = .ok (.iinc 6 1, 3) := by decide +kernel
theorem dX6_find_99 : decode cX6_find 99 = .ok (.goto (-28), 3) := by decide +kernel
theorem dX6_find_102 : decode cX6_find 102 = .ok (.iconst 0, 1) := by decide +kernel
theorem dX6_find_103 : decode cX6_find 103 = .ok (.istore 6, 2) := by decide +kernel
theorem dX6_find_105 : decode cX6_find 105 = .ok (.iconst 0, 1) := by decide +kernel
theorem dX6_find_106 : decode cX6_find 106 = .ok (.istore 7, 2) := by decide +kernel
theorem dX6_find_108 : decode cX6_find 108 = .ok (.iload 7, 2) := by decide +kernel
theorem dX6_find_110 : decode cX6_find 110 = .ok (.iload_n 3, 1) := by decide +kernel
theorem dX6_find_111 : decode cX6_find 111 = .ok (.if_icmp .ge 21, 3) := by decide +kernel
theorem dX6_find_114 : decode cX6_find 114 = .ok (.iload 6, 2) := by decide +kernel
theorem dX6_find_116 : decode cX6_find 116 = .ok (.aload_n 0, 1) := by decide +kernel
theorem dX6_find_117 : decode cX6_find 117 = .ok (.getfield 9, 3) := by decide +kernel
theorem dX6_find_120 : decode cX6_find 120 = .ok (.iload 7, 2) := by decide +kernel
theorem dX6_find_122 : decode cX6_find 122 = .ok (.iaload, 1) := by decide +kernel
theorem dX6_find_123 : decode cX6_find 123 = .ok (.ior, 1) := by decide +kernel
theorem dX6_find_124 : decode cX6_find 124 = .ok (.istore 6, 2) := by decide +kernel
