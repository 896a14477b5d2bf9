theorem dX6_find_126 : decode cX6_find 126 = .ok (.iinc 7 1, 3) := by decide +kernel
theorem dX6_find_129 : decode cX6_find 129 = .ok (.goto (-21), 3) := by decide +kernel
theorem dX6_find_132 : decode cX6_find 132 = .ok (.iload 6, 2) := by decide +kernel
theorem dX6_find_134 : decode cX6_find 134 = .ok (.ireturn, 1) := by decide +kernel
set_option maxRecDepth 20000 in
theorem ggX6_insideOf_X4_isOutside : GoodIn wsX6_insideOf wsX4_isOutside := goodIn_r _ [6, 7, 8, 9, 10, 11, 24, 25, 26, 27, 28, 29, 30, 31, 32, 33, 12, 13, 14, 15, 16, 17, 18, 19, 20, 21, 22, 23] (by decide +kernel) (by decide +kernel)
set_option maxRecDepth 20000 in
theorem gX6_insideOf_X4_isOutside : GoodIn wsX6_insideOf (wsV RX6 49 RX4 yX4_isOutside wsX4_isOutside) := goodIn_app (goodIn_of _ (by decide +kernel)) ggX6_insideOf_X4_isOutside
theorem dX6_insideOf_0 : decode cX6_insideOf 0 = .ok (.iconst 0, 1) := by decide +kernel
theorem dX6_insideOf_1 : decode cX6_insideOf 1 = .ok (.istore_n 3, 1) := by decide +kernel
theorem dX6_insideOf_2 : decode cX6_insideOf 2 = .ok (.iconst 0, 1) := by decide +kernel
theorem dX6_insideOf_3 : decode cX6_insideOf 3 = .ok (.istore 4, 2) := by decide +kernel
theorem dX6_insideOf_5 : decode cX6_insideOf 5 = .ok (.iload 4, 2) := by decide +kernel
theorem dX6_insideOf_7 : decode cX6_insideOf 7 = .ok (.aload_n 1, 1) := by decide +kernel
theorem dX6_insideOf_8 : decode cX6_insideOf 8 = .ok (.getfield 44, 3) := by decide +kernel
theorem dX6_insideOf_11 : decode cX6_insideOf 11 = .ok (.if_icmp .ge 26, 3) := by decide +kernel
theorem dX6_insideOf_14 : decode cX6_insideOf 14 = .ok (.aload_n 2, 1) := by decide +kernel
theorem dX6_insideOf_15 : decode cX6_insideOf 15 = .ok (.aload_n 1, 1) := by decide +kernel
theorem dX6_insideOf_16 : decode cX6_insideOf 16 = .ok (.iload 4, 2) := by decide +kernel
theorem dX6_insideOf_18 : decode cX6_insideOf 18 = .ok (.invokevirtual 49, 3) := by decide +kernel
theorem dX6_insideOf_21 : decode cX6_insideOf 21 = .ok (.ifCond .ne 10, 3) := by decide +kernel
theorem dX6_insideOf_24 : decode cX6_insideOf 24 = .ok (.iload_n 3, 1) := by decide +kernel
theorem dX6_insideOf_25 : decode cX6_insideOf 25 = .ok (.iconst 1, 1) := by decide +kernel
theorem dX6_insideOf_26 : decode cX6_insideOf 26 = .ok (.iload 4, 2) := by decide +kernel
theorem dX6_insideOf_28 : decode cX6_insideOf 28 = .ok (.ishl, 1) := by decide +kernel
theorem dX6_insideOf_29 : decode cX6_insideOf 29 = .ok (.ior, 1) := by decide +kernel
theorem dX6_insideOf_30 : decode cX6_insideOf 30 = .ok (.istore_n 3, 1) := by decide +kernel
theorem dX6_insideOf_31 : decode cX6_insideOf 31 = .ok (.iinc 4 1, 3) := by decide +kernel
theorem dX6_insideOf_34 : decode cX6_insideOf 34 = .ok (.goto (-29), 3) := by decide +kernel
theorem dX6_insideOf_37 : decode cX6_insideOf 37 = .ok (.iload_n 3, 1) := by decide +kernel
theorem dX6_insideOf_38 : decode cX6_insideOf 38 = .ok (.ireturn, 1) := by decide +kernel
set_option maxRecDepth 20000 in
theorem ggX6_step_X6_movers : GoodIn wsX6_step wsX6_movers := goodIn_r _ [7, 8, 9, 10, 11, 12, 29, 30, 31, 32, 33, 34, 35, 36, 37, 38, 39, 40] (by decide +kernel) (by decide +kernel)
set_option maxRecDepth 20000 in
theorem gX6_step_X6_movers : GoodIn wsX6_step (wsV RX6 53 RX6 yX6_movers wsX6_movers) := goodIn_app (goodIn_of _ (by decide +kernel)) ggX6_step_X6_movers
set_option maxRecDepth 20000 in
theorem ggX6_step_X6_stayers : GoodIn wsX6_step wsX6_stayers := goodIn_r _ [16, 8, 17, 10, 11, 12, 29, 30, 31, 32, 33, 34, 35, 36, 37, 38, 39, 40, 18, 19, 20, 21, 22, 23, 24, 25, 26, 27] (by decide +kernel) (by decide +kernel)
set_option maxRecDepth 20000 in
theorem gX6_step_X6_stayers : GoodIn wsX6_step (wsV RX6 57 RX6 yX6_stayers wsX6_stayers) := goodIn_app (goodIn_of _ (by decide +kernel)) ggX6_step_X6_stayers
theorem dX6_step_0 : decode cX6_step 0 = .ok (.iconst 0, 1) := by decide +kernel
theorem dX6_step_1 : decode cX6_step 1 = .ok (.istore 5, 2) := by decide +kernel
theorem dX6_step_3 : decode cX6_step 3 = .ok (.iload_n 3, 1) := by decide +kernel
theorem dX6_step_4 : decode cX6_step 4 = .ok (.iconst 1, 1) := by decide +kernel
theorem dX6_step_5 : decode cX6_step 5 = .ok (.isub, 1) := by decide +kernel
theorem dX6_step_6 : decode cX6_step 6 = .ok (.istore 6, 2) := by decide +kernel
theorem dX6_step_8 : decode cX6_step 8 = .ok (.iload 6, 2) := by decide +kernel
theorem dX6_step_10 : decode cX6_step 10 = .ok (.ifCond .lt 109, 3) := by decide +kernel
theorem dX6_step_13 : decode cX6_step 13 = .ok (.aload_n 2, 1) := by decide +kernel
theorem dX6_step_14 : decode cX6_step 14 = .ok (.getfield 15, 3) := by decide +kernel
theorem dX6_step_17 : decode cX6_step 17 = .ok (.iconst 1, 1) := by decide +kernel
theorem dX6_step_18 : decode cX6_step 18 = .ok (.if_icmp .eq 18, 3) := by decide +kernel
theorem dX6_step_21 : decode cX6_step 21 = .ok (.aload_n 0, 1) := by decide +kernel
theorem dX6_step_22 : decode cX6_step 22 = .ok (.aload_n 1, 1) := by decide +kernel
theorem dX6_step_23 : decode cX6_step 23 = .ok (.aload_n 0, 1) := by decide +kernel
theorem dX6_step_24 : decode cX6_step 24 = .ok (.getfield 9, 3) := by decide +kernel
theorem dX6_step_27 : decode cX6_step 27 = .ok (.iload 6, 2) := by decide +kernel
theorem dX6_step_29 : decode cX6_step 29 = .ok (.iaload, 1) := by decide +kernel
theorem dX6_step_30 : decode cX6_step 30 = .ok (.invokevirtual 53, 3) := by decide +kernel
theorem dX6_step_33 : decode cX6_step 33 = .ok (.goto 26, 3) := by decide +kernel
theorem dX6_step_36 : decode cX6_step 36 = .ok (.iload 6, 2) := by decide +kernel
theorem dX6_step_38 : decode cX6_step 38 = .ok (.ifCond .le 20, 3) := by decide +kernel
theorem dX6_step_41 : decode cX6_step 41 = .ok (.aload_n 0, 1) := by decide +kernel
theorem dX6_step_42 : decode cX6_step 42 = .ok (.aload_n 1, 1) := by decide +kernel
theorem dX6_step_43 : decode cX6_step 43 = .ok (.aload_n 0, 1) := by decide +kernel
theorem dX6_step_44 : decode cX6_step 44 = .ok (.getfield 9, 3) := by decide +kernel
theorem dX6_step_47 : decode cX6_step 47 = .ok (.iload 6, 2) := by decide +kernel
theorem dX6_step_49 : decode cX6_step 49 = .ok (.iconst 1, 1) := by decide +kernel
theorem dX6_step_50 : decode cX6_step 50 = .ok (.isub, 1) := by decide +kernel
theorem dX6_step_51 : decode cX6_step 51 = .ok (.iaload, 1) := by decide +kernel
theorem dX6_step_52 : decode cX6_step 52 = .ok (.invokevirtual 53, 3) := by decide +kernel
theorem dX6_step_55 : decode cX6_step 55 = .ok (.goto 4, 3) := by decide +kernel
theorem dX6_step_58 : decode cX6_step 58 = .ok (.iconst 0, 1) := by decide +kernel
theorem dX6_step_59 : decode cX6_step 59 = .ok (.istore 7, 2) := by decide +kernel
theorem dX6_step_61 : decode cX6_step 61 = .ok (.aload_n 0, 1) := by decide +kernel
theorem dX6_step_62 : decode cX6_step 62 = .ok (.aload_n 1, 1) := by decide +kernel
theorem dX6_step_63 : decode cX6_step 63 = .ok (.aload_n 2, 1) := by decide +kernel
theorem dX6_step_64 : decode cX6_step 64 = .ok (.aload_n 0, 1) := by decide +kernel
theorem dX6_step_65 : decode cX6_step 65 = .ok (.getfield 9, 3) := by decide +kernel
theorem dX6_step_68 : decode cX6_step 68 = .ok (.iload 6, 2) := by decide +kernel
theorem dX6_step_70 : decode cX6_step 70 = .ok (.iaload, 1) := by decide +kernel
theorem dX6_step_71 : decode cX6_step 71 = .ok (.invokevirtual 57, 3) := by decide +kernel
theorem dX6_step_74 : decode cX6_step 74 = .ok (.iload 7, 2) := by decide +kernel
theorem dX6_step_76 : decode cX6_step 76 = .ok (.ior, 1) := by decide +kernel
theorem dX6_step_77 : decode cX6_step 77 = .ok (.iload 4, 2) := by decide +kernel
theorem dX6_step_79 : decode cX6_step 79 = .ok (.iand, 1) := by decide +kernel
theorem dX6_step_80 : decode cX6_step 80 = .ok (.istore 8, 2) := by decide +kernel
theorem dX6_step_82 : decode cX6_step 82 = .ok (.iload 5, 2) := by decide +kernel
theorem dX6_step_84 : decode cX6_step 84 = .ok (.iload 8, 2) := by decide +kernel
theorem dX6_step_86 : decode cX6_step 86 = .ok (.aload_n 0, 1) := by decide +kernel
theorem dX6_step_87 : decode cX6_step 87 = .ok (.getfield 9, 3) := by decide +kernel
theorem dX6_step_90 : decode cX6_step 90 = .ok (.iload 6, 2) := by decide +kernel
theorem dX6_step_92 : decode cX6_step 92 = .ok (.iaload, 1) := by decide +kernel
theorem dX6_step_93 : decode cX6_step 93 = .ok (.if_icmp .eq 7, 3) := by decide +kernel
theorem dX6_step_96 : decode cX6_step 96 = .ok (.iconst 1, 1) := by decide +kernel
theorem dX6_step_97 : decode cX6_step 97 = .ok (.goto 4, 3) := by decide +kernel
theorem dX6_step_100 : decode cX6_step 100 = .ok (.iconst 0, 1) := by decide +kernel
theorem dX6_step_101 : decode cX6_step 101 = .ok (.ior, 1) := by decide +kernel
theorem dX6_step_102 : decode cX6_step 102 = .ok (.istore 5, 2) := by decide +kernel
theorem dX6_step_104 : decode cX6_step 104 = .ok (.aload_n 0, 1) := by decide +kernel
theorem dX6_step_105 : decode cX6_step 105 = .ok (.getfield 9, 3) := by decide +kernel
theorem dX6_step_108 : decode cX6_step 108 = .ok (.iload 6, 2) := by decide +kernel
theorem dX6_step_110 : decode cX6_step 110 = .ok (.iload 8, 2) := by decide +kernel
theorem dX6_step_112 : decode cX6_step 112 = .ok (.iastore, 1) := by decide +kernel
theorem dX6_step_113 : decode cX6_step 113 = .ok (.iinc 6 (-1), 3) := by decide +kernel
theorem dX6_step_116 : decode cX6_step 116 = .ok (.goto (-108), 3) := by decide +kernel
theorem dX6_step_119 : decode cX6_step 119 = .ok (.iload 5, 2) := by decide +kernel
theorem dX6_step_121 : decode cX6_step 121 = .ok (.ireturn, 1) := by decide +kernel
set_option maxRecDepth 20000 in
theorem ggX6_stayers_X7_holds : GoodIn wsX6_stayers wsX7_holds := goodIn_r _ [5] (by decide +kernel) (by decide +kernel)
set_option maxRecDepth 20000 in
theorem gX6_stayers_X7_holds_n61 : GoodIn wsX6_stayers (wsX7_holds) := ggX6_stayers_X7_holds
theorem dX6_stayers_0 : decode cX6_stayers 0 = .ok (.iconst 0, 1) := by decide +kernel
theorem dX6_stayers_1 : decode cX6_stayers 1 = .ok (.istore 4, 2) := by decide +kernel
theorem dX6_stayers_3 : decode cX6_stayers 3 = .ok (.iconst 0, 1) := by decide +kernel
theorem dX6_stayers_4 : decode cX6_stayers 4 = .ok (.istore 5, 2) := by decide +kernel
theorem dX6_stayers_6 : decode cX6_stayers 6 = .ok (.iload 5, 2) := by decide +kernel
theorem dX6_stayers_8 : decode cX6_stayers 8 = .ok (.aload_n 1, 1) := by decide +kernel
theorem dX6_stayers_9 : decode cX6_stayers 9 = .ok (.getfield 44, 3) := by decide +kernel
theorem dX6_stayers_12 : decode cX6_stayers 12 = .ok (.if_icmp .ge 37, 3) := by decide +kernel
theorem dX6_stayers_15 : decode cX6_stayers 15 = .ok (.iload_n 3, 1) := by decide +kernel
theorem dX6_stayers_16 : decode cX6_stayers 16 = .ok (.iload 5, 2) := by decide +kernel
theorem dX6_stayers_18 : decode cX6_stayers 18 = .ok (.invokestatic 61, 3) := by decide +kernel
theorem dX6_stayers_21 : decode cX6_stayers 21 = .ok (.ifCond .eq 22, 3) := by decide +kernel
theorem dX6_stayers_24 : decode cX6_stayers 24 = .ok (.aload_n 2, 1) := by decide +kernel
theorem dX6_stayers_25 : decode cX6_stayers 25 = .ok (.getfield 65, 3) := by decide +kernel
theorem dX6_stayers_28 : decode cX6_stayers 28 = .ok (.iload 5, 2) := by decide +kernel
theorem dX6_stayers_30 : decode cX6_stayers 30 = .ok (.iaload, 1) := by decide +kernel
theorem dX6_stayers_31 : decode cX6_stayers 31 = .ok (.ifCond .le 12, 3) := by decide +kernel
theorem dX6_stayers_34 : decode cX6_stayers 34 = .ok (.iload 4, 2) := by decide +kernel
theorem dX6_stayers_36 : decode cX6_stayers 36 = .ok (.iconst 1, 1) := by decide +kernel
theorem dX6_stayers_37 : decode cX6_stayers 37 = .ok (.iload 5, 2) := by decide +kernel
theorem dX6_stayers_39 : decode cX6_stayers 39 = .ok (.ishl, 1) := by decide +kernel
theorem dX6_stayers_40 : decode cX6_stayers 40 = .ok (.ior, 1) := by decide +kernel
theorem dX6_stayers_41 : decode cX6_stayers 41 = .ok (.istore 4, 2) := by decide +kernel
theorem dX6_stayers_43 : decode cX6_stayers 43 = .ok (.iinc 5 1, 3) := by decide +kernel
theorem dX6_stayers_46 : decode cX6_stayers 46 = .ok (.goto (-40), 3) := by decide +kernel
theorem dX6_stayers_49 : decode cX6_stayers 49 = .ok (.iload 4, 2) := by decide +kernel
theorem dX6_stayers_51 : decode cX6_stayers 51 = .ok (.ireturn, 1) := by decide +kernel
set_option maxRecDepth 20000 in
theorem ggX6_movers_X7_holds : GoodIn wsX6_movers wsX7_holds := goodIn_r _ [5] (by decide +kernel) (by decide +kernel)
set_option maxRecDepth 20000 in
theorem gX6_movers_X7_holds_n61 : GoodIn wsX6_movers (wsX7_holds) := ggX6_movers_X7_holds
theorem dX6_movers_0 : decode cX6_movers 0 = .ok (.iconst 0, 1) := by decide +kernel
theorem dX6_movers_1 : decode cX6_movers 1 = .ok (.istore_n 3, 1) := by decide +kernel
theorem dX6_movers_2 : decode cX6_movers 2 = .ok (.iconst 0, 1) := by decide +kernel
theorem dX6_movers_3 : decode cX6_movers 3 = .ok (.istore 4, 2) := by decide +kernel
theorem dX6_movers_5 : decode cX6_movers 5 = .ok (.iload 4, 2) := by decide +kernel
theorem dX6_movers_7 : decode cX6_movers 7 = .ok (.aload_n 1, 1) := by decide +kernel
theorem dX6_movers_8 : decode cX6_movers 8 = .ok (.getfield 44, 3) := by decide +kernel
theorem dX6_movers_11 : decode cX6_movers 11 = .ok (.if_icmp .ge 28, 3) := by decide +kernel
theorem dX6_movers_14 : decode cX6_movers 14 = .ok (.iload_n 2, 1) := by decide +kernel
theorem dX6_movers_15 : decode cX6_movers 15 = .ok (.iload 4, 2) := by decide +kernel
theorem dX6_movers_17 : decode cX6_movers 17 = .ok (.invokestatic 61, 3) := by decide +kernel
theorem dX6_movers_20 : decode cX6_movers 20 = .ok (.ifCond .eq 13, 3) := by decide +kernel
theorem dX6_movers_23 : decode cX6_movers 23 = .ok (.iload_n 3, 1) := by decide +kernel
theorem dX6_movers_24 : decode cX6_movers 24 = .ok (.aload_n 1, 1) := by decide +kernel
theorem dX6_movers_25 : decode cX6_movers 25 = .ok (.getfield 68, 3) := by decide +kernel
theorem dX6_movers_28 : decode cX6_movers 28 = .ok (.iload 4, 2) := by decide +kernel
theorem dX6_movers_30 : decode cX6_movers 30 = .ok (.iaload, 1) := by decide +kernel
theorem dX6_movers_31 : decode cX6_movers 31 = .ok (.ior, 1) := by decide +kernel
theorem dX6_movers_32 : decode cX6_movers 32 = .ok (.istore_n 3, 1) := by decide +kernel
theorem dX6_movers_33 : decode cX6_movers 33 = .ok (.iinc 4 1, 3) := by decide +kernel
theorem dX6_movers_36 : decode cX6_movers 36 = .ok (.goto (-31), 3) := by decide +kernel
theorem dX6_movers_39 : decode cX6_movers 39 = .ok (.iload_n 3, 1) := by decide +kernel
theorem dX6_movers_40 : decode cX6_movers 40 = .ok (.ireturn, 1) := by decide +kernel
set_option maxRecDepth 20000 in
theorem ggX7_init_X5_init : GoodIn wsX7_init wsX5_init := goodIn_r _ [37, 38, 2, 3, 39, 40, 41, 281, 282, 283, 284] (by decide +kernel) (by decide +kernel)
set_option maxRecDepth 20000 in
theorem gX7_init_X5_init_n9 : GoodIn wsX7_init (wsX5_init) := ggX7_init_X5_init
set_option maxRecDepth 20000 in
theorem ggX7_init_X2_init : GoodIn wsX7_init wsX2_init := goodIn_r _ [44, 45, 2, 3, 46, 47, 25, 26, 48, 49, 50, 39, 51, 52, 295, 296, 297, 309, 310, 311, 312, 313, 314, 315, 316, 317, 318] (by decide +kernel) (by decide +kernel)
set_option maxRecDepth 20000 in
theorem gX7_init_X2_init : GoodIn wsX7_init (wsX2_init) := ggX7_init_X2_init
set_option maxRecDepth 20000 in
theorem ggX7_init_X0_init : GoodIn wsX7_init wsX0_init := goodIn_r _ [54, 55, 2, 3, 56, 57, 39, 58, 59, 298, 299, 300, 301, 302, 303] (by decide +kernel) (by decide +kernel)
set_option maxRecDepth 20000 in
theorem gX7_init_X0_init_n25 : GoodIn wsX7_init (wsX0_init) := ggX7_init_X0_init
set_option maxRecDepth 20000 in
theorem ggX7_init_X6_init : GoodIn wsX7_init wsX6_init := goodIn_r _ [61, 62, 2, 3, 39, 63, 304] (by decide +kernel) (by decide +kernel)
set_option maxRecDepth 20000 in
theorem gX7_init_X6_init_n32 : GoodIn wsX7_init (wsX6_init) := ggX7_init_X6_init
set_option maxRecDepth 20000 in
theorem ggX7_init_X3_init : GoodIn wsX7_init wsX3_init := goodIn_r _ [65, 66, 2, 3, 39, 67, 305, 306, 307, 308] (by decide +kernel) (by decide +kernel)
set_option maxRecDepth 20000 in
theorem gX7_init_X3_init_n39 : GoodIn wsX7_init (wsX3_init) := ggX7_init_X3_init
set_option maxRecDepth 20000 in
theorem ggX7_init_X4_init : GoodIn wsX7_init wsX4_init := goodIn_r _ [49, 50, 2, 3, 39, 51, 52, 309, 310, 311, 312, 313, 314, 315, 316, 317, 318] (by decide +kernel) (by decide +kernel)
set_option maxRecDepth 20000 in
theorem gX7_init_X4_init_n46 : GoodIn wsX7_init (wsX4_init) := ggX7_init_X4_init
set_option maxRecDepth 20000 in
theorem ggX7_init_X1_init : GoodIn wsX7_init wsX1_init := goodIn_r _ [69, 70, 2, 3, 71, 39, 72, 73, 74, 75, 56, 76, 77, 319, 320, 321, 322, 323, 324, 325, 326, 327, 328, 329, 330] (by decide +kernel) (by decide +kernel)
set_option maxRecDepth 20000 in
theorem gX7_init_X1_init_n53 : GoodIn wsX7_init (wsX1_init) := ggX7_init_X1_init
set_option maxRecDepth 20000 in
theorem ggX7_init_J0_length_8abf5 : GoodIn wsX7_init wsJ0_length_8abf5 := goodIn_r _ [82, 83, 84, 85, 86, 81, 87, 88, 89] (by decide +kernel) (by decide +kernel)
set_option maxRecDepth 20000 in
theorem gX7_init_J0_length_8abf5 : GoodIn wsX7_init (wsV RX7 69 RJ0 yJ0_length_8abf5 wsJ0_length_8abf5) := goodIn_app (goodIn_of _ (by decide +kernel)) ggX7_init_J0_length_8abf5
set_option maxRecDepth 20000 in
theorem ggX7_init_J0_charAt_5068e : GoodIn wsX7_init wsJ0_charAt_5068e := goodIn_r _ [93, 83, 94, 95, 96, 81, 97, 88, 89, 98, 99, 100, 101, 102, 103, 104, 105, 106, 107, 108, 109, 110, 111, 112, 113, 114, 115, 116, 117, 118, 119, 120, 121, 122, 123, 124, 125, 126] (by decide +kernel) (by decide +kernel)
set_option maxRecDepth 20000 in
theorem gX7_init_J0_charAt_5068e : GoodIn wsX7_init (wsV RX7 75 RJ0 yJ0_charAt_5068e wsJ0_charAt_5068e) := goodIn_app (goodIn_of _ (by decide +kernel)) ggX7_init_J0_charAt_5068e
set_option maxRecDepth 20000 in
theorem ggX7_init_X5_append : GoodIn wsX7_init wsX5_append := goodIn_r _ [130, 131, 40, 281, 282, 283, 284] (by decide +kernel) (by decide +kernel)
set_option maxRecDepth 20000 in
theorem gX7_init_X5_append : GoodIn wsX7_init (wsV RX7 79 RX5 yX5_append wsX5_append) := goodIn_app (goodIn_of _ (by decide +kernel)) ggX7_init_X5_append
set_option maxRecDepth 20000 in
theorem ggX7_init_X7_layText : GoodIn wsX7_init wsX7_layText := goodIn_r _ [136, 7, 33, 34, 31, 32, 11, 137, 15, 138, 139, 140, 6, 141, 142, 131, 143, 144, 145, 30, 146, 147, 148, 74, 75, 72, 73, 149, 150, 151, 152, 153, 154, 155, 156, 157, 158, 159, 26, 160, 51, 52, 161, 162, 163, 164, 165, 166, 167, 168, 169, 170, 171, 172, 173, 174, 175, 176, 177, 178, 179, 180, 181, 182, 183, 40, 184, 185, 186, 187, 188, 189, 190, 191, 41, 192, 193, 194, 195, 196, 197, 198, 199, 200, 201, 202, 203, 204, 205, 206, 207, 208, 209, 210, 211, 212, 213, 214, 215, 216, 217, 218, 219, 220, 221, 222, 223, 224, 225, 226, 227, 228, 229, 230, 231, 135, 232, 233, 234, 235, 236, 237, 238, 239, 240, 241, 242, 243, 244, 245, 246, 247, 248, 249, 76, 250, 251, 252, 253, 77, 254, 255, 256, 257, 258, 259, 260, 261, 262, 263, 264, 265, 266, 267, 268, 269, 270, 271, 272, 273, 14, 274, 275, 276, 57, 277, 278, 279, 280, 285, 286, 287, 288, 289, 290, 291, 292, 293, 294, 295, 296, 297, 281, 282, 283, 284, 319, 320, 321, 322, 323, 324, 325, 326, 327, 328, 329, 330, 309, 310, 311, 312, 313, 314, 315, 316, 317, 318, 298, 299, 300, 301, 302, 303] (by decide +kernel) (by decide +kernel)
set_option maxRecDepth 20000 in
theorem gX7_init_X7_layText : GoodIn wsX7_init (wsV RX7 83 RX7 yX7_layText wsX7_layText) := goodIn_app (goodIn_of _ (by decide +kernel)) ggX7_init_X7_layText
theorem dX7_init_0 : decode cX7_init 0 = .ok (.aload_n 0, 1) := by decide +kernel
theorem dX7_init_1 : decode cX7_init 1 = .ok (.invokespecial 1, 3) := by decide +kernel
theorem dX7_init_4 : decode cX7_init 4 = .ok (.aload_n 0, 1) := by decide +kernel
theorem dX7_init_5 : decode cX7_init 5 = .ok (.new 7, 3) := by decide +kernel
theorem dX7_init_8 : decode cX7_init 8 = .ok (.dup, 1) := by decide +kernel
theorem dX7_init_9 : decode cX7_init 9 = .ok (.invokespecial 9, 3) := by decide +kernel
theorem dX7_init_12 : decode cX7_init 12 = .ok (.putfield 10, 3) := by decide +kernel
theorem dX7_init_15 : decode cX7_init 15 = .ok (.aload_n 0, 1) := by decide +kernel
theorem dX7_init_16 : decode cX7_init 16 = .ok (.new 16, 3) := by decide +kernel
theorem dX7_init_19 : decode cX7_init 19 = .ok (.dup, 1) := by decide +kernel
theorem dX7_init_20 : decode cX7_init 20 = .ok (.invokespecial 18, 3) := by decide +kernel
theorem dX7_init_23 : decode cX7_init 23 = .ok (.putfield 19, 3) := by decide +kernel
theorem dX7_init_26 : decode cX7_init 26 = .ok (.aload_n 0, 1) := by decide +kernel
theorem dX7_init_27 : decode cX7_init 27 = .ok (.new 23, 3) := by decide +kernel
theorem dX7_init_30 : decode cX7_init 30 = .ok (.dup, 1) := by decide +kernel
theorem dX7_init_31 : decode cX7_init 31 = .ok (.invokespecial 25, 3) := by decide +kernel
theorem dX7_init_34 : decode cX7_init 34 = .ok (.putfield 26, 3) := by decide +kernel
theorem dX7_init_37 : decode cX7_init 37 = .ok (.aload_n 0, 1) := by decide +kernel
theorem dX7_init_38 : decode cX7_init 38 = .ok (.new 30, 3) := by decide +kernel
theorem dX7_init_41 : decode cX7_init 41 = .ok (.dup, 1) := by decide +kernel
theorem dX7_init_42 : decode cX7_init 42 = .ok (.invokespecial 32, 3) := by decide +kernel
theorem dX7_init_45 : decode cX7_init 45 = .ok (.putfield 33, 3) := by decide +kernel
theorem dX7_init_48 : decode cX7_init 48 = .ok (.aload_n 0, 1) := by decide +kernel
theorem dX7_init_49 : decode cX7_init 49 = .ok (.new 37, 3) := by decide +kernel
theorem dX7_init_52 : decode cX7_init 52 = .ok (.dup, 1) := by decide +kernel
theorem dX7_init_53 : decode cX7_init 53 = .ok (.invokespecial 39, 3) := by decide +kernel
theorem dX7_init_56 : decode cX7_init 56 = .ok (.putfield 40, 3) := by decide +kernel
theorem dX7_init_59 : decode cX7_init 59 = .ok (.aload_n 0, 1) := by decide +kernel
theorem dX7_init_60 : decode cX7_init 60 = .ok (.new 44, 3) := by decide +kernel
theorem dX7_init_63 : decode cX7_init 63 = .ok (.dup, 1) := by decide +kernel
theorem dX7_init_64 : decode cX7_init 64 = .ok (.invokespecial 46, 3) := by decide +kernel
theorem dX7_init_67 : decode cX7_init 67 = .ok (.putfield 47, 3) := by decide +kernel
theorem dX7_init_70 : decode cX7_init 70 = .ok (.aload_n 0, 1) := by decide +kernel
theorem dX7_init_71 : decode cX7_init 71 = .ok (.new 51, 3) := by decide +kernel
theorem dX7_init_74 : decode cX7_init 74 = .ok (.dup, 1) := by decide +kernel
theorem dX7_init_75 : decode cX7_init 75 = .ok (.invokespecial 53, 3) := by decide +kernel
theorem dX7_init_78 : decode cX7_init 78 = .ok (.putfield 54, 3) := by decide +kernel
theorem dX7_init_81 : decode cX7_init 81 = .ok (.aload_n 0, 1) := by decide +kernel
theorem dX7_init_82 : decode cX7_init 82 = .ok (.new 44, 3) := by decide +kernel
theorem dX7_init_85 : decode cX7_init 85 = .ok (.dup, 1) := by decide +kernel
theorem dX7_init_86 : decode cX7_init 86 = .ok (.invokespecial 46, 3) := by decide +kernel
theorem dX7_init_89 : decode cX7_init 89 = .ok (.putfield 58, 3) := by decide +kernel
theorem dX7_init_92 : decode cX7_init 92 = .ok (.aload_n 0, 1) := by decide +kernel
theorem dX7_init_93 : decode cX7_init 93 = .ok (.new 51, 3) := by decide +kernel
theorem dX7_init_96 : decode cX7_init 96 = .ok (.dup, 1) := by decide +kernel
theorem dX7_init_97 : decode cX7_init 97 = .ok (.invokespecial 53, 3) := by decide +kernel
theorem dX7_init_100 : decode cX7_init 100 = .ok (.putfield 61, 3) := by decide +kernel
theorem dX7_init_103 : decode cX7_init 103 = .ok (.aload_n 0, 1) := by decide +kernel
theorem dX7_init_104 : decode cX7_init 104 = .ok (.new 44, 3) := by decide +kernel
theorem dX7_init_107 : decode cX7_init 107 = .ok (.dup, 1) := by decide +kernel
theorem dX7_init_108 : decode cX7_init 108 = .ok (.invokespecial 46, 3) := by decide +kernel
theorem dX7_init_111 : decode cX7_init 111 = .ok (.putfield 64, 3) := by decide +kernel
theorem dX7_init_114 : decode cX7_init 114 = .ok (.iconst 0, 1) := by decide +kernel
theorem dX7_init_115 : decode cX7_init 115 = .ok (.istore_n 1, 1) := by decide +kernel
theorem dX7_init_116 : decode cX7_init 116 = .ok (.iload_n 1, 1) := by decide +kernel
theorem dX7_init_117 : decode cX7_init 117 = .ok (.ldc 67, 2) := by decide +kernel
theorem dX7_init_119 : decode cX7_init 119 = .ok (.invokevirtual 69, 3) := by decide +kernel
theorem dX7_init_122 : decode cX7_init 122 = .ok (.if_icmp .ge 23, 3) := by decide +kernel
theorem dX7_init_125 : decode cX7_init 125 = .ok (.aload_n 0, 1) := by decide +kernel
theorem dX7_init_126 : decode cX7_init 126 = .ok (.getfield 10, 3) := by decide +kernel
theorem dX7_init_129 : decode cX7_init 129 = .ok (.ldc 67, 2) := by decide +kernel
theorem dX7_init_131 : decode cX7_init 131 = .ok (.iload_n 1, 1) := by decide +kernel
theorem dX7_init_132 : decode cX7_init 132 = .ok (.invokevirtual 75, 3) := by decide +kernel
theorem dX7_init_135 : decode cX7_init 135 = .ok (.invokevirtual 79, 3) := by decide +kernel
theorem dX7_init_138 : decode cX7_init 138 = .ok (.pop, 1) := by decide +kernel
theorem dX7_init_139 : decode cX7_init 139 = .ok (.iinc 1 1, 3) := by decide +kernel
theorem dX7_init_142 : decode cX7_init 142 = .ok (.goto (-26), 3) := by decide +kernel
theorem dX7_init_145 : decode cX7_init 145 = .ok (.aload_n 0, 1) := by decide +kernel
theorem dX7_init_146 : decode cX7_init 146 = .ok (.invokevirtual 83, 3) := by decide +kernel
theorem dX7_init_149 : decode cX7_init 149 = .ok (.pop, 1) := by decide +kernel
theorem dX7_init_150 : decode cX7_init 150 = .ok (.aload_n 0, 1) := by decide +kernel
theorem dX7_init_151 : decode cX7_init 151 = .ok (.getfield 10, 3) := by decide +kernel
theorem dX7_init_154 : decode cX7_init 154 = .ok (.iconst 0, 1) := by decide +kernel
theorem dX7_init_155 : decode cX7_init 155 = .ok (.putfield 87, 3) := by decide +kernel
theorem dX7_init_158 : decode cX7_init 158 = .ok (.return_, 1) := by decide +kernel
set_option maxRecDepth 20000 in
theorem ggX7_write_X5_append : GoodIn wsX7_write wsX5_append := goodIn_r _ [7, 8, 9, 20, 21, 22, 23] (by decide +kernel) (by decide +kernel)
set_option maxRecDepth 20000 in
theorem gX7_write_X5_append : GoodIn wsX7_write (wsV RX7 79 RX5 yX5_append wsX5_append) := goodIn_app (goodIn_of _ (by decide +kernel)) ggX7_write_X5_append
theorem dX7_write_0 : decode cX7_write 0 = .ok (.iload_n 1, 1) := by decide +kernel
theorem dX7_write_1 : decode cX7_write 1 = .ok (.bipush 32, 2) := by decide +kernel
theorem dX7_write_3 : decode cX7_write 3 = .ok (.if_icmp .lt 9, 3) := by decide +kernel
theorem dX7_write_6 : decode cX7_write 6 = .ok (.iload_n 1, 1) := by decide +kernel
theorem dX7_write_7 : decode cX7_write 7 = .ok (.bipush 126, 2) := by decide +kernel
theorem dX7_write_9 : decode cX7_write 9 = .ok (.if_icmp .le 5, 3) := by decide +kernel
theorem dX7_write_12 : decode cX7_write 12 = .ok (.iconst (-1), 1) := by decide +kernel
theorem dX7_write_13 : decode cX7_write 13 = .ok (.ireturn, 1) := by decide +kernel
theorem dX7_write_14 : decode cX7_write 14 = .ok (.aload_n 0, 1) := by decide +kernel
theorem dX7_write_15 : decode cX7_write 15 = .ok (.getfield 10, 3) := by decide +kernel
theorem dX7_write_18 : decode cX7_write 18 = .ok (.iload_n 1, 1) := by decide +kernel
theorem dX7_write_19 : decode cX7_write 19 = .ok (.invokevirtual 79, 3) := by decide +kernel
theorem dX7_write_22 : decode cX7_write 22 = .ok (.ifCond .eq 13, 3) := by decide +kernel
theorem dX7_write_25 : decode cX7_write 25 = .ok (.aload_n 0, 1) := by decide +kernel
theorem dX7_write_26 : decode cX7_write 26 = .ok (.getfield 10, 3) := by decide +kernel
theorem dX7_write_29 : decode cX7_write 29 = .ok (.getfield 87, 3) := by decide +kernel
theorem dX7_write_32 : decode cX7_write 32 = .ok (.goto 5, 3) := by decide +kernel
theorem dX7_write_35 : decode cX7_write 35 = .ok (.bipush (-3), 2) := by decide +kernel
theorem dX7_write_37 : decode cX7_write 37 = .ok (.ireturn, 1) := by decide +kernel
theorem dX7_wipe_0 : decode cX7_wipe 0 = .ok (.aload_n 0, 1) := by decide +kernel
theorem dX7_wipe_1 : decode cX7_wipe 1 = .ok (.getfield 10, 3) := by decide +kernel
theorem dX7_wipe_4 : decode cX7_wipe 4 = .ok (.getfield 87, 3) := by decide +kernel
theorem dX7_wipe_7 : decode cX7_wipe 7 = .ok (.istore_n 1, 1) := by decide +kernel
theorem dX7_wipe_8 : decode cX7_wipe 8 = .ok (.aload_n 0, 1) := by decide +kernel
theorem dX7_wipe_9 : decode cX7_wipe 9 = .ok (.getfield 10, 3) := by decide +kernel
theorem dX7_wipe_12 : decode cX7_wipe 12 = .ok (.iconst 0, 1) := by decide +kernel
theorem dX7_wipe_13 : decode cX7_wipe 13 = .ok (.putfield 87, 3) := by decide +kernel
theorem dX7_wipe_16 : decode cX7_wipe 16 = .ok (.iload_n 1, 1) := by decide +kernel
theorem dX7_wipe_17 : decode cX7_wipe 17 = .ok (.ireturn, 1) := by decide +kernel
set_option maxRecDepth 20000 in
theorem ggX7_fault_X5_readInto : GoodIn wsX7_fault wsX5_readInto := goodIn_r _ [8, 9, 10, 11, 12, 13, 14, 15, 16, 17, 18, 19, 20, 21, 22, 23, 24, 25, 26, 27, 28, 29, 30, 31, 32, 33, 34, 35, 36, 37, 38, 39, 40, 41, 42, 43, 44, 45, 46, 47, 48, 49, 50, 51, 7, 52, 53, 54, 55, 56, 57, 58, 59, 60, 61, 62, 63, 64, 65, 66, 67, 68, 69, 70, 71, 72, 73, 74, 75, 76, 77, 78, 79, 80, 81, 82, 83, 84, 85, 86, 87, 88, 89, 90, 91, 92, 93, 94, 95, 96, 97, 98, 99, 100, 101, 102, 103, 104, 105, 106, 107, 108, 109, 110, 111, 112, 113, 114, 115, 116, 127, 128, 129, 130, 131, 132, 133, 134, 135, 136, 137, 138, 139, 140, 141, 142, 143, 144, 145, 146, 147, 148, 149, 150, 151, 152] (by decide +kernel) (by decide +kernel)
set_option maxRecDepth 20000 in
theorem gX7_fault_X5_readInto : GoodIn wsX7_fault (wsV RX7 90 RX5 yX5_readInto wsX5_readInto) := goodIn_app (goodIn_of _ (by decide +kernel)) ggX7_fault_X5_readInto
theorem dX7_fault_0 : decode cX7_fault 0 = .ok (.aload_n 0, 1) := by decide +kernel
theorem dX7_fault_1 : decode cX7_fault 1 = .ok (.getfield 10, 3) := by decide +kernel
theorem dX7_fault_4 : decode cX7_fault 4 = .ok (.aload_n 0, 1) := by decide +kernel
theorem dX7_fault_5 : decode cX7_fault 5 = .ok (.getfield 61, 3) := by decide +kernel
theorem dX7_fault_8 : decode cX7_fault 8 = .ok (.aload_n 0, 1) := by decide +kernel
theorem dX7_fault_9 : decode cX7_fault 9 = .ok (.getfield 64, 3) := by decide +kernel
theorem dX7_fault_12 : decode cX7_fault 12 = .ok (.invokevirtual 90, 3) := by decide +kernel
theorem dX7_fault_15 : decode cX7_fault 15 = .ok (.ireturn, 1) := by decide +kernel
set_option maxRecDepth 20000 in
theorem ggX7_lay_X7_layText : GoodIn wsX7_lay wsX7_layText := goodIn_r _ [7, 8, 9, 10, 1, 11, 12, 13, 14, 15, 16, 17, 18, 19, 20, 21, 22, 23, 24, 25, 26, 27, 28, 29, 30, 31, 32, 33, 34, 35, 36, 37, 38, 39, 40, 41, 42, 43, 44, 45, 46, 47, 48, 49, 50, 51, 52, 53, 54, 55, 56, 57, 58, 59, 60, 61, 62, 63, 64, 65, 66, 67, 68, 69, 70, 71, 72, 73, 74, 75, 76, 77, 78, 79, 80, 81, 82, 83, 84, 85, 86, 87, 88, 89, 90, 91, 92, 93, 94, 95, 96, 97, 98, 99, 100, 101, 102, 103, 104, 105, 106, 107, 108, 109, 110, 111, 112, 113, 114, 115, 116, 117, 118, 119, 120, 6, 121, 122, 123, 124, 125, 126, 127, 128, 129, 130, 131, 132, 133, 134, 135, 136, 137, 138, 139, 140, 141, 142, 143, 144, 145, 146, 147, 148, 149, 150, 151, 152, 153, 154, 155, 156, 157, 158, 159, 160, 161, 162, 163, 164, 165, 166, 167, 168, 169, 170, 171, 172, 173, 174, 175, 176, 177, 178, 179, 180, 181, 182, 183, 196, 197, 198, 199, 200, 201, 202, 184, 185, 186, 187, 188, 189, 190, 191, 192, 193, 194, 195, 203, 204, 205, 206, 207, 208, 209, 210, 211, 212, 213, 214, 215, 216, 217, 218] (by decide +kernel) (by decide +kernel)
set_option maxRecDepth 20000 in
theorem gX7_lay_X7_layText : GoodIn wsX7_lay (wsV RX7 83 RX7 yX7_layText wsX7_layText) := goodIn_app (goodIn_of _ (by decide +kernel)) ggX7_lay_X7_layText
theorem dX7_lay_0 : decode cX7_lay 0 = .ok (.aload_n 0, 1) := by decide +kernel
theorem dX7_lay_1 : decode cX7_lay 1 = .ok (.invokevirtual 83, 3) := by decide +kernel
theorem dX7_lay_4 : decode cX7_lay 4 = .ok (.ifCond .eq 13, 3) := by decide +kernel
theorem dX7_lay_7 : decode cX7_lay 7 = .ok (.aload_n 0, 1) := by decide +kernel
theorem dX7_lay_8 : decode cX7_lay 8 = .ok (.getfield 54, 3) := by decide +kernel
theorem dX7_lay_11 : decode cX7_lay 11 = .ok (.getfield 94, 3) := by decide +kernel
theorem dX7_lay_14 : decode cX7_lay 14 = .ok (.goto 5, 3) := by decide +kernel
theorem dX7_lay_17 : decode cX7_lay 17 = .ok (.bipush (-2), 2) := by decide +kernel
theorem dX7_lay_19 : decode cX7_lay 19 = .ok (.ireturn, 1) := by decide +kernel
set_option maxRecDepth 20000 in
theorem ggX7_layText_X5_readInto : GoodIn wsX7_layText wsX5_readInto := goodIn_r _ [13, 14, 15, 16, 17, 18, 19, 20, 21, 22, 23, 24, 25, 26, 27, 28, 29, 30, 31, 32, 33, 34, 35, 36, 37, 38, 39, 40, 41, 42, 43, 44, 45, 46, 47, 48, 49, 50, 51, 52, 53, 54, 55, 56, 12, 57, 58, 59, 60, 61, 62, 63, 64, 65, 66, 67, 68, 69, 70, 71, 72, 73, 74, 75, 76, 77, 78, 79, 80, 81, 82, 83, 84, 85, 86, 87, 88, 89, 90, 91, 92, 93, 94, 95, 96, 97, 98, 99, 100, 101, 102, 103, 104, 105, 106, 107, 108, 109, 110, 111, 112, 113, 114, 115, 116, 117, 118, 119, 120, 121, 182, 183, 184, 185, 186, 187, 188, 189, 190, 191, 192, 193, 194, 195, 196, 197, 198, 199, 200, 201, 202, 203, 204, 205, 206, 207] (by decide +kernel) (by decide +kernel)
set_option maxRecDepth 20000 in
theorem gX7_layText_X5_readInto : GoodIn wsX7_layText (wsV RX7 90 RX5 yX5_readInto wsX5_readInto) := goodIn_app (goodIn_of _ (by decide +kernel)) ggX7_layText_X5_readInto
set_option maxRecDepth 20000 in
theorem ggX7_layText_X1_isWhole : GoodIn wsX7_layText wsX1_isWhole := goodIn_r _ [125, 21, 26, 126, 127, 128, 129, 186, 187, 188, 189, 190, 191, 192, 193, 194, 195, 196, 197] (by decide +kernel) (by decide +kernel)
set_option maxRecDepth 20000 in
theorem gX7_layText_X1_isWhole : GoodIn wsX7_layText (wsV RX7 97 RX1 yX1_isWhole wsX1_isWhole) := goodIn_app (goodIn_of _ (by decide +kernel)) ggX7_layText_X1_isWhole
set_option maxRecDepth 20000 in
theorem ggX7_layText_X1_growTrees : GoodIn wsX7_layText wsX1_growTrees := goodIn_r _ [133, 21, 134, 135, 136, 137, 19, 138, 139, 140, 141, 142, 143, 144, 145, 146, 147, 148, 149, 150, 151, 152, 153, 154, 24, 25, 155, 115, 156, 186, 187, 188, 189, 190, 191, 192, 193, 194, 195, 196, 197] (by decide +kernel) (by decide +kernel)
set_option maxRecDepth 20000 in
theorem gX7_layText_X1_growTrees : GoodIn wsX7_layText (wsV RX7 100 RX1 yX1_growTrees wsX1_growTrees) := goodIn_app (goodIn_of _ (by decide +kernel)) ggX7_layText_X1_growTrees
set_option maxRecDepth 20000 in
theorem ggX7_layText_X0_reckon : GoodIn wsX7_layText wsX0_reckon := goodIn_r _ [161, 162, 163, 164, 165, 166, 167, 168, 208, 209, 210, 211, 212, 213, 186, 187, 188, 189, 190, 191, 192, 193, 194, 195, 196, 197, 198, 199, 200, 201, 202, 203, 204, 205, 206, 207] (by decide +kernel) (by decide +kernel)
set_option maxRecDepth 20000 in
theorem gX7_layText_X0_reckon : GoodIn wsX7_layText (wsV RX7 106 RX0 yX0_reckon wsX0_reckon) := goodIn_app (goodIn_of _ (by decide +kernel)) ggX7_layText_X0_reckon
theorem dX7_layText_0 : decode cX7_layText 0 = .ok (.aload_n 0, 1) := by decide +kernel
theorem dX7_layText_1 : decode cX7_layText 1 = .ok (.getfield 10, 3) := by decide +kernel
theorem dX7_layText_4 : decode cX7_layText 4 = .ok (.aload_n 0, 1) := by decide +kernel
theorem dX7_layText_5 : decode cX7_layText 5 = .ok (.getfield 61, 3) := by decide +kernel
theorem dX7_layText_8 : decode cX7_layText 8 = .ok (.aload_n 0, 1) := by decide +kernel
theorem dX7_layText_9 : decode cX7_layText 9 = .ok (.getfield 64, 3) := by decide +kernel
theorem dX7_layText_12 : decode cX7_layText 12 = .ok (.invokevirtual 90, 3) := by decide +kernel
theorem dX7_layText_15 : decode cX7_layText 15 = .ok (.bipush (-4), 2) := by decide +kernel
theorem dX7_layText_17 : decode cX7_layText 17 = .ok (.if_icmp .ne 13, 3) := by decide +kernel
theorem dX7_layText_20 : decode cX7_layText 20 = .ok (.aload_n 0, 1) := by decide +kernel
theorem dX7_layText_21 : decode cX7_layText 21 = .ok (.getfield 61, 3) := by decide +kernel
theorem dX7_layText_24 : decode cX7_layText 24 = .ok (.invokevirtual 97, 3) := by decide +kernel
theorem dX7_layText_27 : decode cX7_layText 27 = .ok (.ifCond .ne 5, 3) := by decide +kernel
theorem dX7_layText_30 : decode cX7_layText 30 = .ok (.iconst 0, 1) := by decide +kernel
theorem dX7_layText_31 : decode cX7_layText 31 = .ok (.ireturn, 1) := by decide +kernel
theorem dX7_layText_32 : decode cX7_layText 32 = .ok (.aload_n 0, 1) := by decide +kernel
theorem dX7_layText_33 : decode cX7_layText 33 = .ok (.getfield 54, 3) := by decide +kernel
theorem dX7_layText_36 : decode cX7_layText 36 = .ok (.astore_n 1, 1) := by decide +kernel
theorem dX7_layText_37 : decode cX7_layText 37 = .ok (.aload_n 0, 1) := by decide +kernel
theorem dX7_layText_38 : decode cX7_layText 38 = .ok (.getfield 58, 3) := by decide +kernel
theorem dX7_layText_41 : decode cX7_layText 41 = .ok (.astore_n 2, 1) := by decide +kernel
theorem dX7_layText_42 : decode cX7_layText 42 = .ok (.aload_n 0, 1) := by decide +kernel
theorem dX7_layText_43 : decode cX7_layText 43 = .ok (.aload_n 0, 1) := by decide +kernel
theorem dX7_layText_44 : decode cX7_layText 44 = .ok (.getfield 61, 3) := by decide +kernel
theorem dX7_layText_47 : decode cX7_layText 47 = .ok (.putfield 54, 3) := by decide +kernel
theorem dX7_layText_50 : decode cX7_layText 50 = .ok (.aload_n 0, 1) := by decide +kernel
theorem dX7_layText_51 : decode cX7_layText 51 = .ok (.aload_n 0, 1) := by decide +kernel
theorem dX7_layText_52 : decode cX7_layText 52 = .ok (.getfield 64, 3) := by decide +kernel
theorem dX7_layText_55 : decode cX7_layText 55 = .ok (.putfield 58, 3) := by decide +kernel
theorem dX7_layText_58 : decode cX7_layText 58 = .ok (.aload_n 0, 1) := by decide +kernel
theorem dX7_layText_59 : decode cX7_layText 59 = .ok (.aload_n 1, 1) := by decide +kernel
theorem dX7_layText_60 : decode cX7_layText 60 = .ok (.putfield 61, 3) := by decide +kernel
theorem dX7_layText_63 : decode cX7_layText 63 = .ok (.aload_n 0, 1) := by decide +kernel
theorem dX7_layText_64 : decode cX7_layText 64 = .ok (.aload_n 2, 1) := by decide +kernel
theorem dX7_layText_65 : decode cX7_layText 65 = .ok (.putfield 64, 3) := by decide +kernel
theorem dX7_layText_68 : decode cX7_layText 68 = .ok (.aload_n 0, 1) := by decide +kernel
theorem dX7_layText_69 : decode cX7_layText 69 = .ok (.getfield 54, 3) := by decide +kernel
theorem dX7_layText_72 : decode cX7_layText 72 = .ok (.invokevirtual 100, 3) := by decide +kernel
theorem dX7_layText_75 : decode cX7_layText 75 = .ok (.aload_n 0, 1) := by decide +kernel
theorem dX7_layText_76 : decode cX7_layText 76 = .ok (.getfield 19, 3) := by decide +kernel
theorem dX7_layText_79 : decode cX7_layText 79 = .ok (.iconst 0, 1) := by decide +kernel
theorem dX7_layText_80 : decode cX7_layText 80 = .ok (.putfield 103, 3) := by decide +kernel
theorem dX7_layText_83 : decode cX7_layText 83 = .ok (.aload_n 0, 1) := by decide +kernel
theorem dX7_layText_84 : decode cX7_layText 84 = .ok (.getfield 26, 3) := by decide +kernel
theorem dX7_layText_87 : decode cX7_layText 87 = .ok (.aload_n 0, 1) := by decide +kernel
theorem dX7_layText_88 : decode cX7_layText 88 = .ok (.getfield 54, 3) := by decide +kernel
theorem dX7_layText_91 : decode cX7_layText 91 = .ok (.aload_n 0, 1) := by decide +kernel
theorem dX7_layText_92 : decode cX7_layText 92 = .ok (.getfield 58, 3) := by decide +kernel
theorem dX7_layText_95 : decode cX7_layText 95 = .ok (.invokevirtual 106, 3) := by decide +kernel
theorem dX7_layText_98 : decode cX7_layText 98 = .ok (.iconst 1, 1) := by decide +kernel
theorem dX7_layText_99 : decode cX7_layText 99 = .ok (.ireturn, 1) := by decide +kernel
set_option maxRecDepth 20000 in
theorem ggX7_set_X7_isCell : GoodIn wsX7_set wsX7_isCell := goodIn_r _ [11, 6, 12, 60, 61, 62, 63, 64, 65, 66, 67, 68, 69, 80, 81, 82, 83, 84, 85, 86, 87, 88, 89, 90, 91] (by decide +kernel) (by decide +kernel)
set_option maxRecDepth 20000 in
theorem gX7_set_X7_isCell : GoodIn wsX7_set (wsV RX7 110 RX7 yX7_isCell wsX7_isCell) := goodIn_app (goodIn_of _ (by decide +kernel)) ggX7_set_X7_isCell
set_option maxRecDepth 20000 in
theorem ggX7_set_X2_keep : GoodIn wsX7_set wsX2_keep := goodIn_r _ [17, 18, 19, 20, 21, 22, 23, 24, 25, 26, 27, 28, 29, 30, 31, 32, 33, 34, 35, 36, 37, 38, 39, 40, 41, 42, 43, 92, 93, 94, 70, 71, 72, 73, 74, 75, 76, 77, 78, 79] (by decide +kernel) (by decide +kernel)
set_option maxRecDepth 20000 in
theorem gX7_set_X2_keep : GoodIn wsX7_set (wsV RX7 120 RX2 yX2_keep wsX2_keep) := goodIn_app (goodIn_of _ (by decide +kernel)) ggX7_set_X2_keep
set_option maxRecDepth 20000 in
theorem ggX7_set_X0_reckon : GoodIn wsX7_set wsX0_reckon := goodIn_r _ [48, 49, 50, 51, 52, 53, 54, 55, 95, 96, 97, 98, 99, 100, 80, 81, 82, 83, 84, 85, 86, 87, 88, 89, 90, 91, 70, 71, 72, 73, 74, 75, 76, 77, 78, 79] (by decide +kernel) (by decide +kernel)
set_option maxRecDepth 20000 in
theorem gX7_set_X0_reckon : GoodIn wsX7_set (wsV RX7 106 RX0 yX0_reckon wsX0_reckon) := goodIn_app (goodIn_of _ (by decide +kernel)) ggX7_set_X0_reckon
set_option maxRecDepth 20000 in
theorem ggX7_set_X4_register : GoodIn wsX7_set wsX4_register := goodIn_r _ [59, 38, 39, 40, 41, 70, 71, 72, 73, 74, 75, 76, 77, 78, 79] (by decide +kernel) (by decide +kernel)
set_option maxRecDepth 20000 in
theorem gX7_set_X4_register : GoodIn wsX7_set (wsV RX7 124 RX4 yX4_register wsX4_register) := goodIn_app (goodIn_of _ (by decide +kernel)) ggX7_set_X4_register
theorem dX7_set_0 : decode cX7_set 0 = .ok (.aload_n 0, 1) := by decide +kernel
theorem dX7_set_1 : decode cX7_set 1 = .ok (.iload_n 1, 1) := by decide +kernel
theorem dX7_set_2 : decode cX7_set 2 = .ok (.invokevirtual 110, 3) := by decide +kernel
theorem dX7_set_5 : decode cX7_set 5 = .ok (.ifCond .eq 30, 3) := by decide +kernel
theorem dX7_set_8 : decode cX7_set 8 = .ok (.iload_n 2, 1) := by decide +kernel
theorem dX7_set_9 : decode cX7_set 9 = .ok (.ifCond .lt 26, 3) := by decide +kernel
theorem dX7_set_12 : decode cX7_set 12 = .ok (.iload_n 2, 1) := by decide +kernel
theorem dX7_set_13 : decode cX7_set 13 = .ok (.iconst 1, 1) := by decide +kernel
theorem dX7_set_14 : decode cX7_set 14 = .ok (.if_icmp .gt 21, 3) := by decide +kernel
theorem dX7_set_17 : decode cX7_set 17 = .ok (.iload_n 3, 1) := by decide +kernel
theorem dX7_set_18 : decode cX7_set 18 = .ok (.ifCond .lt 17, 3) := by decide +kernel
theorem dX7_set_21 : decode cX7_set 21 = .ok (.iload_n 3, 1) := by decide +kernel
theorem dX7_set_22 : decode cX7_set 22 = .ok (.iload_n 2, 1) := by decide +kernel
theorem dX7_set_23 : decode cX7_set 23 = .ok (.ifCond .ne 8, 3) := by decide +kernel
theorem dX7_set_26 : decode cX7_set 26 = .ok (.bipush 9, 2) := by decide +kernel
theorem dX7_set_28 : decode cX7_set 28 = .ok (.goto 4, 3) := by decide +kernel
theorem dX7_set_31 : decode cX7_set 31 = .ok (.iconst 5, 1) := by decide +kernel
theorem dX7_set_32 : decode cX7_set 32 = .ok (.if_icmp .le 5, 3) := by decide +kernel
theorem dX7_set_35 : decode cX7_set 35 = .ok (.iconst (-1), 1) := by decide +kernel
theorem dX7_set_36 : decode cX7_set 36 = .ok (.ireturn, 1) := by decide +kernel
theorem dX7_set_37 : decode cX7_set 37 = .ok (.iload_n 2, 1) := by decide +kernel
theorem dX7_set_38 : decode cX7_set 38 = .ok (.ifCond .ne 15, 3) := by decide +kernel
theorem dX7_set_41 : decode cX7_set 41 = .ok (.aload_n 0, 1) := by decide +kernel
theorem dX7_set_42 : decode cX7_set 42 = .ok (.getfield 58, 3) := by decide +kernel
theorem dX7_set_45 : decode cX7_set 45 = .ok (.getfield 113, 3) := by decide +kernel
theorem dX7_set_48 : decode cX7_set 48 = .ok (.iload_n 1, 1) := by decide +kernel
theorem dX7_set_49 : decode cX7_set 49 = .ok (.iaload, 1) := by decide +kernel
theorem dX7_set_50 : decode cX7_set 50 = .ok (.goto 12, 3) := by decide +kernel
theorem dX7_set_53 : decode cX7_set 53 = .ok (.aload_n 0, 1) := by decide +kernel
theorem dX7_set_54 : decode cX7_set 54 = .ok (.getfield 58, 3) := by decide +kernel
theorem dX7_set_57 : decode cX7_set 57 = .ok (.getfield 117, 3) := by decide +kernel
theorem dX7_set_60 : decode cX7_set 60 = .ok (.iload_n 1, 1) := by decide +kernel
theorem dX7_set_61 : decode cX7_set 61 = .ok (.iaload, 1) := by decide +kernel
theorem dX7_set_62 : decode cX7_set 62 = .ok (.istore 4, 2) := by decide +kernel
theorem dX7_set_64 : decode cX7_set 64 = .ok (.iload 4, 2) := by decide +kernel
theorem dX7_set_66 : decode cX7_set 66 = .ok (.iload_n 3, 1) := by decide +kernel
theorem dX7_set_67 : decode cX7_set 67 = .ok (.if_icmp .ne 6, 3) := by decide +kernel
theorem dX7_set_70 : decode cX7_set 70 = .ok (.bipush (-2), 2) := by decide +kernel
theorem dX7_set_72 : decode cX7_set 72 = .ok (.ireturn, 1) := by decide +kernel
theorem dX7_set_73 : decode cX7_set 73 = .ok (.aload_n 0, 1) := by decide +kernel
theorem dX7_set_74 : decode cX7_set 74 = .ok (.getfield 19, 3) := by decide +kernel
theorem dX7_set_77 : decode cX7_set 77 = .ok (.aload_n 0, 1) := by decide +kernel
theorem dX7_set_78 : decode cX7_set 78 = .ok (.getfield 58, 3) := by decide +kernel
theorem dX7_set_81 : decode cX7_set 81 = .ok (.invokevirtual 120, 3) := by decide +kernel
theorem dX7_set_84 : decode cX7_set 84 = .ok (.iload_n 2, 1) := by decide +kernel
theorem dX7_set_85 : decode cX7_set 85 = .ok (.ifCond .ne 31, 3) := by decide +kernel
theorem dX7_set_88 : decode cX7_set 88 = .ok (.aload_n 0, 1) := by decide +kernel
theorem dX7_set_89 : decode cX7_set 89 = .ok (.getfield 58, 3) := by decide +kernel
theorem dX7_set_92 : decode cX7_set 92 = .ok (.getfield 113, 3) := by decide +kernel
theorem dX7_set_95 : decode cX7_set 95 = .ok (.iload_n 1, 1) := by decide +kernel
theorem dX7_set_96 : decode cX7_set 96 = .ok (.iload_n 3, 1) := by decide +kernel
theorem dX7_set_97 : decode cX7_set 97 = .ok (.iastore, 1) := by decide +kernel
theorem dX7_set_98 : decode cX7_set 98 = .ok (.aload_n 0, 1) := by decide +kernel
theorem dX7_set_99 : decode cX7_set 99 = .ok (.getfield 26, 3) := by decide +kernel
theorem dX7_set_102 : decode cX7_set 102 = .ok (.aload_n 0, 1) := by decide +kernel
theorem dX7_set_103 : decode cX7_set 103 = .ok (.getfield 54, 3) := by decide +kernel
theorem dX7_set_106 : decode cX7_set 106 = .ok (.aload_n 0, 1) := by decide +kernel
theorem dX7_set_107 : decode cX7_set 107 = .ok (.getfield 58, 3) := by decide +kernel
theorem dX7_set_110 : decode cX7_set 110 = .ok (.invokevirtual 106, 3) := by decide +kernel
theorem dX7_set_113 : decode cX7_set 113 = .ok (.goto 13, 3) := by decide +kernel
theorem dX7_set_116 : decode cX7_set 116 = .ok (.aload_n 0, 1) := by decide +kernel
theorem dX7_set_117 : decode cX7_set 117 = .ok (.getfield 58, 3) := by decide +kernel
theorem dX7_set_120 : decode cX7_set 120 = .ok (.getfield 117, 3) := by decide +kernel
theorem dX7_set_123 : decode cX7_set 123 = .ok (.iload_n 1, 1) := by decide +kernel
theorem dX7_set_124 : decode cX7_set 124 = .ok (.iload_n 3, 1) := by decide +kernel
theorem dX7_set_125 : decode cX7_set 125 = .ok (.iastore, 1) := by decide +kernel
theorem dX7_set_126 : decode cX7_set 126 = .ok (.aload_n 0, 1) := by decide +kernel
theorem dX7_set_127 : decode cX7_set 127 = .ok (.getfield 58, 3) := by decide +kernel
theorem dX7_set_130 : decode cX7_set 130 = .ok (.invokevirtual 124, 3) := by decide +kernel
theorem dX7_set_133 : decode cX7_set 133 = .ok (.iload 4, 2) := by decide +kernel
theorem dX7_set_135 : decode cX7_set 135 = .ok (.ireturn, 1) := by decide +kernel
set_option maxRecDepth 20000 in
theorem ggX7_law_X7_isLaw : GoodIn wsX7_law wsX7_isLaw := goodIn_r _ [8] (by decide +kernel) (by decide +kernel)
set_option maxRecDepth 20000 in
theorem gX7_law_X7_isLaw : GoodIn wsX7_law (va_wsS RX7 127 yX7_isLaw wsX7_isLaw) := goodIn_app (goodIn_of _ (by decide +kernel)) ggX7_law_X7_isLaw
set_option maxRecDepth 20000 in
theorem ggX7_law_X2_keep : GoodIn wsX7_law wsX2_keep := goodIn_r _ [13, 14, 15, 16, 17, 18, 19, 20, 21, 22, 23, 24, 25, 26, 27, 28, 29, 30, 31, 32, 33, 34, 35, 36, 37, 38, 39, 64, 65, 66, 54, 55, 56, 57, 58, 59, 60, 61, 62, 63] (by decide +kernel) (by decide +kernel)
set_option maxRecDepth 20000 in
theorem gX7_law_X2_keep : GoodIn wsX7_law (wsV RX7 120 RX2 yX2_keep wsX2_keep) := goodIn_app (goodIn_of _ (by decide +kernel)) ggX7_law_X2_keep
set_option maxRecDepth 20000 in
theorem ggX7_law_X4_register : GoodIn wsX7_law wsX4_register := goodIn_r _ [43, 34, 35, 36, 37, 54, 55, 56, 57, 58, 59, 60, 61, 62, 63] (by decide +kernel) (by decide +kernel)
set_option maxRecDepth 20000 in
theorem gX7_law_X4_register : GoodIn wsX7_law (wsV RX7 124 RX4 yX4_register wsX4_register) := goodIn_app (goodIn_of _ (by decide +kernel)) ggX7_law_X4_register
theorem dX7_law_0 : decode cX7_law 0 = .ok (.iload_n 1, 1) := by decide +kernel
theorem dX7_law_1 : decode cX7_law 1 = .ok (.iload_n 2, 1) := by decide +kernel
theorem dX7_law_2 : decode cX7_law 2 = .ok (.invokestatic 127, 3) := by decide +kernel
theorem dX7_law_5 : decode cX7_law 5 = .ok (.ifCond .ne 5, 3) := by decide +kernel
theorem dX7_law_8 : decode cX7_law 8 = .ok (.iconst (-1), 1) := by decide +kernel
theorem dX7_law_9 : decode cX7_law 9 = .ok (.ireturn, 1) := by decide +kernel
theorem dX7_law_10 : decode cX7_law 10 = .ok (.aload_n 0, 1) := by decide +kernel
theorem dX7_law_11 : decode cX7_law 11 = .ok (.getfield 58, 3) := by decide +kernel
theorem dX7_law_14 : decode cX7_law 14 = .ok (.getfield 131, 3) := by decide +kernel
theorem dX7_law_17 : decode cX7_law 17 = .ok (.iload_n 1, 1) := by decide +kernel
theorem dX7_law_18 : decode cX7_law 18 = .ok (.if_icmp .ne 17, 3) := by decide +kernel
theorem dX7_law_21 : decode cX7_law 21 = .ok (.aload_n 0, 1) := by decide +kernel
theorem dX7_law_22 : decode cX7_law 22 = .ok (.getfield 58, 3) := by decide +kernel
theorem dX7_law_25 : decode cX7_law 25 = .ok (.getfield 134, 3) := by decide +kernel
theorem dX7_law_28 : decode cX7_law 28 = .ok (.iload_n 2, 1) := by decide +kernel
theorem dX7_law_29 : decode cX7_law 29 = .ok (.if_icmp .ne 6, 3) := by decide +kernel
theorem dX7_law_32 : decode cX7_law 32 = .ok (.bipush (-2), 2) := by decide +kernel
theorem dX7_law_34 : decode cX7_law 34 = .ok (.ireturn, 1) := by decide +kernel
theorem dX7_law_35 : decode cX7_law 35 = .ok (.bipush 10, 2) := by decide +kernel
theorem dX7_law_37 : decode cX7_law 37 = .ok (.aload_n 0, 1) := by decide +kernel
theorem dX7_law_38 : decode cX7_law 38 = .ok (.getfield 58, 3) := by decide +kernel
theorem dX7_law_41 : decode cX7_law 41 = .ok (.getfield 131, 3) := by decide +kernel
theorem dX7_law_44 : decode cX7_law 44 = .ok (.imul, 1) := by decide +kernel
theorem dX7_law_45 : decode cX7_law 45 = .ok (.aload_n 0, 1) := by decide +kernel
theorem dX7_law_46 : decode cX7_law 46 = .ok (.getfield 58, 3) := by decide +kernel
theorem dX7_law_49 : decode cX7_law 49 = .ok (.getfield 134, 3) := by decide +kernel
theorem dX7_law_52 : decode cX7_law 52 = .ok (.iadd, 1) := by decide +kernel
theorem dX7_law_53 : decode cX7_law 53 = .ok (.istore_n 3, 1) := by decide +kernel
theorem dX7_law_54 : decode cX7_law 54 = .ok (.aload_n 0, 1) := by decide +kernel
theorem dX7_law_55 : decode cX7_law 55 = .ok (.getfield 19, 3) := by decide +kernel
theorem dX7_law_58 : decode cX7_law 58 = .ok (.aload_n 0, 1) := by decide +kernel
theorem dX7_law_59 : decode cX7_law 59 = .ok (.getfield 58, 3) := by decide +kernel
theorem dX7_law_62 : decode cX7_law 62 = .ok (.invokevirtual 120, 3) := by decide +kernel
theorem dX7_law_65 : decode cX7_law 65 = .ok (.aload_n 0, 1) := by decide +kernel
theorem dX7_law_66 : decode cX7_law 66 = .ok (.getfield 58, 3) := by decide +kernel
theorem dX7_law_69 : decode cX7_law 69 = .ok (.iload_n 1, 1) := by decide +kernel
theorem dX7_law_70 : decode cX7_law 70 = .ok (.putfield 131, 3) := by decide +kernel
theorem dX7_law_73 : decode cX7_law 73 = .ok (.aload_n 0, 1) := by decide +kernel
theorem dX7_law_74 : decode cX7_law 74 = .ok (.getfield 58, 3) := by decide +kernel
theorem dX7_law_77 : decode cX7_law 77 = .ok (.iload_n 2, 1) := by decide +kernel
theorem dX7_law_78 : decode cX7_law 78 = .ok (.putfield 134, 3) := by decide +kernel
theorem dX7_law_81 : decode cX7_law 81 = .ok (.aload_n 0, 1) := by decide +kernel
theorem dX7_law_82 : decode cX7_law 82 = .ok (.getfield 58, 3) := by decide +kernel
theorem dX7_law_85 : decode cX7_law 85 = .ok (.invokevirtual 124, 3) := by decide +kernel
theorem dX7_law_88 : decode cX7_law 88 = .ok (.iload_n 3, 1) := by decide +kernel
theorem dX7_law_89 : decode cX7_law 89 = .ok (.ireturn, 1) := by decide +kernel
set_option maxRecDepth 20000 in
theorem ggX7_give_X0_findBest : GoodIn wsX7_give wsX0_findBest := goodIn_r _ [12, 13, 14, 15, 16, 17, 18, 19, 11, 20, 21, 22, 23, 24, 25, 26, 27, 28, 29, 30, 31, 32, 33, 34, 35, 36, 37, 38, 39, 40, 41, 42, 43, 44, 45, 46, 47, 48, 49, 50, 51, 52, 53, 54, 118, 119, 120, 121, 122, 123, 96, 97, 98, 99, 100, 101, 102, 103, 104, 105, 106, 107] (by decide +kernel) (by decide +kernel)
set_option maxRecDepth 20000 in
theorem gX7_give_X0_findBest : GoodIn wsX7_give (wsV RX7 137 RX0 yX0_findBest wsX0_findBest) := goodIn_app (goodIn_of _ (by decide +kernel)) ggX7_give_X0_findBest
set_option maxRecDepth 20000 in
theorem ggX7_give_X2_keep : GoodIn wsX7_give wsX2_keep := goodIn_r _ [59, 60, 61, 62, 63, 64, 53, 65, 66, 67, 68, 69, 70, 71, 72, 40, 41, 42, 73, 74, 75, 76, 77, 78, 79, 80, 81, 124, 125, 126, 108, 109, 110, 111, 112, 113, 114, 115, 116, 117] (by decide +kernel) (by decide +kernel)
set_option maxRecDepth 20000 in
theorem gX7_give_X2_keep : GoodIn wsX7_give (wsV RX7 120 RX2 yX2_keep wsX2_keep) := goodIn_app (goodIn_of _ (by decide +kernel)) ggX7_give_X2_keep
set_option maxRecDepth 20000 in
theorem ggX7_give_X4_register : GoodIn wsX7_give wsX4_register := goodIn_r _ [85, 76, 77, 78, 79, 108, 109, 110, 111, 112, 113, 114, 115, 116, 117] (by decide +kernel) (by decide +kernel)
set_option maxRecDepth 20000 in
theorem gX7_give_X4_register : GoodIn wsX7_give (wsV RX7 124 RX4 yX4_register wsX4_register) := goodIn_app (goodIn_of _ (by decide +kernel)) ggX7_give_X4_register
theorem dX7_give_0 : decode cX7_give 0 = .ok (.aload_n 0, 1) := by decide +kernel
theorem dX7_give_1 : decode cX7_give 1 = .ok (.getfield 26, 3) := by decide +kernel
theorem dX7_give_4 : decode cX7_give 4 = .ok (.aload_n 0, 1) := by decide +kernel
theorem dX7_give_5 : decode cX7_give 5 = .ok (.getfield 54, 3) := by decide +kernel
theorem dX7_give_8 : decode cX7_give 8 = .ok (.invokevirtual 137, 3) := by decide +kernel
theorem dX7_give_11 : decode cX7_give 11 = .ok (.aload_n 0, 1) := by decide +kernel
theorem dX7_give_12 : decode cX7_give 12 = .ok (.getfield 19, 3) := by decide +kernel
theorem dX7_give_15 : decode cX7_give 15 = .ok (.aload_n 0, 1) := by decide +kernel
theorem dX7_give_16 : decode cX7_give 16 = .ok (.getfield 58, 3) := by decide +kernel
theorem dX7_give_19 : decode cX7_give 19 = .ok (.invokevirtual 120, 3) := by decide +kernel
theorem dX7_give_22 : decode cX7_give 22 = .ok (.iconst 0, 1) := by decide +kernel
theorem dX7_give_23 : decode cX7_give 23 = .ok (.istore_n 1, 1) := by decide +kernel
theorem dX7_give_24 : decode cX7_give 24 = .ok (.iconst 0, 1) := by decide +kernel
theorem dX7_give_25 : decode cX7_give 25 = .ok (.istore_n 2, 1) := by decide +kernel
theorem dX7_give_26 : decode cX7_give 26 = .ok (.iload_n 2, 1) := by decide +kernel
theorem dX7_give_27 : decode cX7_give 27 = .ok (.aload_n 0, 1) := by decide +kernel
theorem dX7_give_28 : decode cX7_give 28 = .ok (.getfield 54, 3) := by decide +kernel
theorem dX7_give_31 : decode cX7_give 31 = .ok (.getfield 94, 3) := by decide +kernel
theorem dX7_give_34 : decode cX7_give 34 = .ok (.if_icmp .ge 51, 3) := by decide +kernel
theorem dX7_give_37 : decode cX7_give 37 = .ok (.aload_n 0, 1) := by decide +kernel
theorem dX7_give_38 : decode cX7_give 38 = .ok (.getfield 58, 3) := by decide +kernel
theorem dX7_give_41 : decode cX7_give 41 = .ok (.getfield 117, 3) := by decide +kernel
theorem dX7_give_44 : decode cX7_give 44 = .ok (.iload_n 2, 1) := by decide +kernel
theorem dX7_give_45 : decode cX7_give 45 = .ok (.iaload, 1) := by decide +kernel
theorem dX7_give_46 : decode cX7_give 46 = .ok (.aload_n 0, 1) := by decide +kernel
theorem dX7_give_47 : decode cX7_give 47 = .ok (.getfield 26, 3) := by decide +kernel
theorem dX7_give_50 : decode cX7_give 50 = .ok (.getfield 141, 3) := by decide +kernel
theorem dX7_give_53 : decode cX7_give 53 = .ok (.iload_n 2, 1) := by decide +kernel
theorem dX7_give_54 : decode cX7_give 54 = .ok (.iaload, 1) := by decide +kernel
theorem dX7_give_55 : decode cX7_give 55 = .ok (.if_icmp .eq 6, 3) := by decide +kernel
theorem dX7_give_58 : decode cX7_give 58 = .ok (.iinc 1 1, 3) := by decide +kernel
theorem dX7_give_61 : decode cX7_give 61 = .ok (.aload_n 0, 1) := by decide +kernel
theorem dX7_give_62 : decode cX7_give 62 = .ok (.getfield 58, 3) := by decide +kernel
theorem dX7_give_65 : decode cX7_give 65 = .ok (.getfield 117, 3) := by decide +kernel
theorem dX7_give_68 : decode cX7_give 68 = .ok (.iload_n 2, 1) := by decide +kernel
theorem dX7_give_69 : decode cX7_give 69 = .ok (.aload_n 0, 1) := by decide +kernel
theorem dX7_give_70 : decode cX7_give 70 = .ok (.getfield 26, 3) := by decide +kernel
theorem dX7_give_73 : decode cX7_give 73 = .ok (.getfield 141, 3) := by decide +kernel
theorem dX7_give_76 : decode cX7_give 76 = .ok (.iload_n 2, 1) := by decide +kernel
theorem dX7_give_77 : decode cX7_give 77 = .ok (.iaload, 1) := by decide +kernel
theorem dX7_give_78 : decode cX7_give 78 = .ok (.iastore, 1) := by decide +kernel
theorem dX7_give_79 : decode cX7_give 79 = .ok (.iinc 2 1, 3) := by decide +kernel
theorem dX7_give_82 : decode cX7_give 82 = .ok (.goto (-56), 3) := by decide +kernel
theorem dX7_give_85 : decode cX7_give 85 = .ok (.aload_n 0, 1) := by decide +kernel
theorem dX7_give_86 : decode cX7_give 86 = .ok (.getfield 58, 3) := by decide +kernel
theorem dX7_give_89 : decode cX7_give 89 = .ok (.invokevirtual 124, 3) := by decide +kernel
theorem dX7_give_92 : decode cX7_give 92 = .ok (.iload_n 1, 1) := by decide +kernel
theorem dX7_give_93 : decode cX7_give 93 = .ok (.ireturn, 1) := by decide +kernel
set_option maxRecDepth 20000 in
theorem ggX7_undo_X2_bringBack : GoodIn wsX7_undo wsX2_bringBack := goodIn_r _ [10, 11, 12, 13, 14, 15, 16, 17, 18, 19, 20, 21, 22, 23, 24, 25, 26, 27, 28, 29, 30, 31, 32, 55, 56, 57, 58, 59, 60, 61, 62, 63, 64, 65, 66, 67] (by decide +kernel) (by decide +kernel)
set_option maxRecDepth 20000 in
theorem gX7_undo_X2_bringBack : GoodIn wsX7_undo (wsV RX7 144 RX2 yX2_bringBack wsX2_bringBack) := goodIn_app (goodIn_of _ (by decide +kernel)) ggX7_undo_X2_bringBack
set_option maxRecDepth 20000 in
theorem ggX7_undo_X0_reckon : GoodIn wsX7_undo wsX0_reckon := goodIn_r _ [37, 38, 39, 40, 41, 42, 43, 44, 68, 69, 70, 71, 72, 73, 74, 75, 76, 77, 78, 79, 80, 81, 82, 83, 84, 85, 58, 59, 60, 61, 62, 63, 64, 65, 66, 67] (by decide +kernel) (by decide +kernel)
set_option maxRecDepth 20000 in
theorem gX7_undo_X0_reckon : GoodIn wsX7_undo (wsV RX7 106 RX0 yX0_reckon wsX0_reckon) := goodIn_app (goodIn_of _ (by decide +kernel)) ggX7_undo_X0_reckon
theorem dX7_undo_0 : decode cX7_undo 0 = .ok (.aload_n 0, 1) := by decide +kernel
theorem dX7_undo_1 : decode cX7_undo 1 = .ok (.getfield 19, 3) := by decide +kernel
theorem dX7_undo_4 : decode cX7_undo 4 = .ok (.aload_n 0, 1) := by decide +kernel
theorem dX7_undo_5 : decode cX7_undo 5 = .ok (.getfield 58, 3) := by decide +kernel
theorem dX7_undo_8 : decode cX7_undo 8 = .ok (.invokevirtual 144, 3) := by decide +kernel
theorem dX7_undo_11 : decode cX7_undo 11 = .ok (.ifCond .ne 6, 3) := by decide +kernel
theorem dX7_undo_14 : decode cX7_undo 14 = .ok (.bipush (-2), 2) := by decide +kernel
theorem dX7_undo_16 : decode cX7_undo 16 = .ok (.ireturn, 1) := by decide +kernel
theorem dX7_undo_17 : decode cX7_undo 17 = .ok (.aload_n 0, 1) := by decide +kernel
theorem dX7_undo_18 : decode cX7_undo 18 = .ok (.getfield 26, 3) := by decide +kernel
theorem dX7_undo_21 : decode cX7_undo 21 = .ok (.aload_n 0, 1) := by decide +kernel
theorem dX7_undo_22 : decode cX7_undo 22 = .ok (.getfield 54, 3) := by decide +kernel
theorem dX7_undo_25 : decode cX7_undo 25 = .ok (.aload_n 0, 1) := by decide +kernel
theorem dX7_undo_26 : decode cX7_undo 26 = .ok (.getfield 58, 3) := by decide +kernel
theorem dX7_undo_29 : decode cX7_undo 29 = .ok (.invokevirtual 106, 3) := by decide +kernel
theorem dX7_undo_32 : decode cX7_undo 32 = .ok (.aload_n 0, 1) := by decide +kernel
theorem dX7_undo_33 : decode cX7_undo 33 = .ok (.getfield 19, 3) := by decide +kernel
theorem dX7_undo_36 : decode cX7_undo 36 = .ok (.getfield 103, 3) := by decide +kernel
theorem dX7_undo_39 : decode cX7_undo 39 = .ok (.ireturn, 1) := by decide +kernel
set_option maxRecDepth 20000 in
theorem ggX7_cell_X7_isCell : GoodIn wsX7_cell wsX7_isCell := goodIn_r _ [12, 4, 7, 16, 17, 18, 19, 20, 21, 22, 23, 24, 25, 36, 37, 38, 39, 40, 41, 42, 43, 44, 45, 46, 47] (by decide +kernel) (by decide +kernel)
set_option maxRecDepth 20000 in
theorem gX7_cell_X7_isCell : GoodIn wsX7_cell (wsV RX7 110 RX7 yX7_isCell wsX7_isCell) := goodIn_app (goodIn_of _ (by decide +kernel)) ggX7_cell_X7_isCell
set_option maxRecDepth 20000 in
theorem ggX7_cell_X7_sameArea : GoodIn wsX7_cell wsX7_sameArea := goodIn_r _ [15] (by decide +kernel) (by decide +kernel)
set_option maxRecDepth 20000 in
theorem gX7_cell_X7_sameArea : GoodIn wsX7_cell (va_wsS RX7 154 yX7_sameArea wsX7_sameArea) := goodIn_app (goodIn_of _ (by decide +kernel)) ggX7_cell_X7_sameArea
theorem dX7_cell_0 : decode cX7_cell 0 = .ok (.aload_n 0, 1) := by decide +kernel
theorem dX7_cell_1 : decode cX7_cell 1 = .ok (.iload_n 1, 1) := by decide +kernel
theorem dX7_cell_2 : decode cX7_cell 2 = .ok (.invokevirtual 110, 3) := by decide +kernel
theorem dX7_cell_5 : decode cX7_cell 5 = .ok (.ifCond .ne 5, 3) := by decide +kernel
theorem dX7_cell_8 : decode cX7_cell 8 = .ok (.iconst (-1), 1) := by decide +kernel
theorem dX7_cell_9 : decode cX7_cell 9 = .ok (.ireturn, 1) := by decide +kernel
theorem dX7_cell_10 : decode cX7_cell 10 = .ok (.iload_n 2, 1) := by decide +kernel
theorem dX7_cell_11 : decode cX7_cell 11 = .ok (.tableswitch 102 0 4 #[33, 43, 53, 73, 83], 33) := by decide +kernel
theorem dX7_cell_44 : decode cX7_cell 44 = .ok (.aload_n 0, 1) := by decide +kernel
theorem dX7_cell_45 : decode cX7_cell 45 = .ok (.getfield 58, 3) := by decide +kernel
theorem dX7_cell_48 : decode cX7_cell 48 = .ok (.getfield 113, 3) := by decide +kernel
theorem dX7_cell_51 : decode cX7_cell 51 = .ok (.iload_n 1, 1) := by decide +kernel
theorem dX7_cell_52 : decode cX7_cell 52 = .ok (.iaload, 1) := by decide +kernel
theorem dX7_cell_53 : decode cX7_cell 53 = .ok (.ireturn, 1) := by decide +kernel
theorem dX7_cell_54 : decode cX7_cell 54 = .ok (.aload_n 0, 1) := by decide +kernel
theorem dX7_cell_55 : decode cX7_cell 55 = .ok (.getfield 58, 3) := by decide +kernel
theorem dX7_cell_58 : decode cX7_cell 58 = .ok (.getfield 117, 3) := by decide +kernel
theorem dX7_cell_61 : decode cX7_cell 61 = .ok (.iload_n 1, 1) := by decide +kernel
theorem dX7_cell_62 : decode cX7_cell 62 = .ok (.iaload, 1) := by decide +kernel
theorem dX7_cell_63 : decode cX7_cell 63 = .ok (.ireturn, 1) := by decide +kernel
theorem dX7_cell_64 : decode cX7_cell 64 = .ok (.aload_n 0, 1) := by decide +kernel
theorem dX7_cell_65 : decode cX7_cell 65 = .ok (.getfield 58, 3) := by decide +kernel
theorem dX7_cell_68 : decode cX7_cell 68 = .ok (.getfield 113, 3) := by decide +kernel
theorem dX7_cell_71 : decode cX7_cell 71 = .ok (.iload_n 1, 1) := by decide +kernel
theorem dX7_cell_72 : decode cX7_cell 72 = .ok (.iaload, 1) := by decide +kernel
theorem dX7_cell_73 : decode cX7_cell 73 = .ok (.aload_n 0, 1) := by decide +kernel
theorem dX7_cell_74 : decode cX7_cell 74 = .ok (.getfield 54, 3) := by decide +kernel
theorem dX7_cell_77 : decode cX7_cell 77 = .ok (.getfield 148, 3) := by decide +kernel
theorem dX7_cell_80 : decode cX7_cell 80 = .ok (.iload_n 1, 1) := by decide +kernel
theorem dX7_cell_81 : decode cX7_cell 81 = .ok (.iaload, 1) := by decide +kernel
theorem dX7_cell_82 : decode cX7_cell 82 = .ok (.iadd, 1) := by decide +kernel
theorem dX7_cell_83 : decode cX7_cell 83 = .ok (.ireturn, 1) := by decide +kernel
theorem dX7_cell_84 : decode cX7_cell 84 = .ok (.aload_n 0, 1) := by decide +kernel
theorem dX7_cell_85 : decode cX7_cell 85 = .ok (.getfield 54, 3) := by decide +kernel
theorem dX7_cell_88 : decode cX7_cell 88 = .ok (.getfield 151, 3) := by decide +kernel
theorem dX7_cell_91 : decode cX7_cell 91 = .ok (.iload_n 1, 1) := by decide +kernel
theorem dX7_cell_92 : decode cX7_cell 92 = .ok (.iaload, 1) := by decide +kernel
theorem dX7_cell_93 : decode cX7_cell 93 = .ok (.ireturn, 1) := by decide +kernel
theorem dX7_cell_94 : decode cX7_cell 94 = .ok (.aload_n 0, 1) := by decide +kernel
theorem dX7_cell_95 : decode cX7_cell 95 = .ok (.getfield 54, 3) := by decide +kernel
theorem dX7_cell_98 : decode cX7_cell 98 = .ok (.getfield 94, 3) := by decide +kernel
theorem dX7_cell_101 : decode cX7_cell 101 = .ok (.aload_n 0, 1) := by decide +kernel
theorem dX7_cell_102 : decode cX7_cell 102 = .ok (.getfield 58, 3) := by decide +kernel
theorem dX7_cell_105 : decode cX7_cell 105 = .ok (.getfield 117, 3) := by decide +kernel
theorem dX7_cell_108 : decode cX7_cell 108 = .ok (.iload_n 1, 1) := by decide +kernel
theorem dX7_cell_109 : decode cX7_cell 109 = .ok (.invokestatic 154, 3) := by decide +kernel
theorem dX7_cell_112 : decode cX7_cell 112 = .ok (.ireturn, 1) := by decide +kernel
theorem dX7_cell_113 : decode cX7_cell 113 = .ok (.iconst (-1), 1) := by decide +kernel
theorem dX7_cell_114 : decode cX7_cell 114 = .ok (.ireturn, 1) := by decide +kernel
set_option maxRecDepth 20000 in
theorem ggX7_weight_X7_isCell : GoodIn wsX7_weight wsX7_isCell := goodIn_r _ [7, 1, 8, 9, 10, 11, 12, 13, 14, 15, 16, 17, 18, 19, 20, 21, 22, 23, 24, 25, 26, 27, 28, 29, 30] (by decide +kernel) (by decide +kernel)
set_option maxRecDepth 20000 in
theorem gX7_weight_X7_isCell : GoodIn wsX7_weight (wsV RX7 110 RX7 yX7_isCell wsX7_isCell) := goodIn_app (goodIn_of _ (by decide +kernel)) ggX7_weight_X7_isCell
theorem dX7_weight_0 : decode cX7_weight 0 = .ok (.aload_n 0, 1) := by decide +kernel
theorem dX7_weight_1 : decode cX7_weight 1 = .ok (.iload_n 1, 1) := by decide +kernel
theorem dX7_weight_2 : decode cX7_weight 2 = .ok (.invokevirtual 110, 3) := by decide +kernel
theorem dX7_weight_5 : decode cX7_weight 5 = .ok (.ifCond .eq 16, 3) := by decide +kernel
theorem dX7_weight_8 : decode cX7_weight 8 = .ok (.aload_n 0, 1) := by decide +kernel
theorem dX7_weight_9 : decode cX7_weight 9 = .ok (.iload_n 2, 1) := by decide +kernel
theorem dX7_weight_10 : decode cX7_weight 10 = .ok (.invokevirtual 110, 3) := by decide +kernel
theorem dX7_weight_13 : decode cX7_weight 13 = .ok (.ifCond .eq 8, 3) := by decide +kernel
theorem dX7_weight_16 : decode cX7_weight 16 = .ok (.iload_n 1, 1) := by decide +kernel
theorem dX7_weight_17 : decode cX7_weight 17 = .ok (.iload_n 2, 1) := by decide +kernel
theorem dX7_weight_18 : decode cX7_weight 18 = .ok (.if_icmp .ne 5, 3) := by decide +kernel
theorem dX7_weight_21 : decode cX7_weight 21 = .ok (.iconst (-1), 1) := by decide +kernel
theorem dX7_weight_22 : decode cX7_weight 22 = .ok (.ireturn, 1) := by decide +kernel
theorem dX7_weight_23 : decode cX7_weight 23 = .ok (.aload_n 0, 1) := by decide +kernel
theorem dX7_weight_24 : decode cX7_weight 24 = .ok (.getfield 54, 3) := by decide +kernel
theorem dX7_weight_27 : decode cX7_weight 27 = .ok (.getfield 158, 3) := by decide +kernel
theorem dX7_weight_30 : decode cX7_weight 30 = .ok (.iload_n 1, 1) := by decide +kernel
theorem dX7_weight_31 : decode cX7_weight 31 = .ok (.aaload, 1) := by decide +kernel
theorem dX7_weight_32 : decode cX7_weight 32 = .ok (.iload_n 2, 1) := by decide +kernel
theorem dX7_weight_33 : decode cX7_weight 33 = .ok (.iaload, 1) := by decide +kernel
theorem dX7_weight_34 : decode cX7_weight 34 = .ok (.ireturn, 1) := by decide +kernel
set_option maxRecDepth 20000 in
theorem ggX7_wide_X7_isCell : GoodIn wsX7_wide wsX7_isCell := goodIn_r _ [7, 1, 8, 9, 10, 11, 12, 13, 14, 15, 16, 17, 18, 19, 20, 21, 22, 23, 24, 25, 26, 27, 28, 29, 30] (by decide +kernel) (by decide +kernel)
set_option maxRecDepth 20000 in
theorem gX7_wide_X7_isCell : GoodIn wsX7_wide (wsV RX7 110 RX7 yX7_isCell wsX7_isCell) := goodIn_app (goodIn_of _ (by decide +kernel)) ggX7_wide_X7_isCell
theorem dX7_wide_0 : decode cX7_wide 0 = .ok (.aload_n 0, 1) := by decide +kernel
theorem dX7_wide_1 : decode cX7_wide 1 = .ok (.iload_n 1, 1) := by decide +kernel
theorem dX7_wide_2 : decode cX7_wide 2 = .ok (.invokevirtual 110, 3) := by decide +kernel
theorem dX7_wide_5 : decode cX7_wide 5 = .ok (.ifCond .eq 11, 3) := by decide +kernel
theorem dX7_wide_8 : decode cX7_wide 8 = .ok (.aload_n 0, 1) := by decide +kernel
theorem dX7_wide_9 : decode cX7_wide 9 = .ok (.iload_n 2, 1) := by decide +kernel
theorem dX7_wide_10 : decode cX7_wide 10 = .ok (.invokevirtual 110, 3) := by decide +kernel
theorem dX7_wide_13 : decode cX7_wide 13 = .ok (.ifCond .ne 5, 3) := by decide +kernel
theorem dX7_wide_16 : decode cX7_wide 16 = .ok (.iconst (-1), 1) := by decide +kernel
theorem dX7_wide_17 : decode cX7_wide 17 = .ok (.ireturn, 1) := by decide +kernel
theorem dX7_wide_18 : decode cX7_wide 18 = .ok (.aload_n 0, 1) := by decide +kernel
theorem dX7_wide_19 : decode cX7_wide 19 = .ok (.getfield 54, 3) := by decide +kernel
theorem dX7_wide_22 : decode cX7_wide 22 = .ok (.getfield 162, 3) := by decide +kernel
theorem dX7_wide_25 : decode cX7_wide 25 = .ok (.iload_n 1, 1) := by decide +kernel
theorem dX7_wide_26 : decode cX7_wide 26 = .ok (.aaload, 1) := by decide +kernel
theorem dX7_wide_27 : decode cX7_wide 27 = .ok (.iload_n 2, 1) := by decide +kernel
theorem dX7_wide_28 : decode cX7_wide 28 = .ok (.iaload, 1) := by decide +kernel
theorem dX7_wide_29 : decode cX7_wide 29 = .ok (.ireturn, 1) := by decide +kernel
set_option maxRecDepth 20000 in
theorem ggX7_tick_X7_isCell : GoodIn wsX7_tick wsX7_isCell := goodIn_r _ [8, 2, 9, 65, 66, 67, 68, 69, 70, 71, 72, 73, 74, 75, 76, 77, 78, 79, 80, 81, 82, 83, 84, 85, 86] (by decide +kernel) (by decide +kernel)
set_option maxRecDepth 20000 in
theorem gX7_tick_X7_isCell : GoodIn wsX7_tick (wsV RX7 110 RX7 yX7_isCell wsX7_isCell) := goodIn_app (goodIn_of _ (by decide +kernel)) ggX7_tick_X7_isCell
set_option maxRecDepth 20000 in
theorem ggX7_tick_X4_canGo : GoodIn wsX7_tick wsX4_canGo := goodIn_r _ [14, 15, 16, 17, 18, 7, 19, 87, 88, 89, 90, 91, 92, 93, 94, 95, 96, 75, 76, 77, 78, 79, 80, 81, 82, 83, 84, 85, 86] (by decide +kernel) (by decide +kernel)
set_option maxRecDepth 20000 in
theorem gX7_tick_X4_canGo : GoodIn wsX7_tick (wsV RX7 165 RX4 yX4_canGo wsX4_canGo) := goodIn_app (goodIn_of _ (by decide +kernel)) ggX7_tick_X4_canGo
set_option maxRecDepth 20000 in
theorem ggX7_tick_X2_keep : GoodIn wsX7_tick wsX2_keep := goodIn_r _ [24, 25, 26, 27, 28, 29, 30, 31, 32, 33, 34, 13, 35, 16, 36, 37, 38, 39, 40, 41, 42, 15, 43, 44, 45, 46, 47, 97, 98, 99, 87, 88, 89, 90, 91, 92, 93, 94, 95, 96] (by decide +kernel) (by decide +kernel)
set_option maxRecDepth 20000 in
theorem gX7_tick_X2_keep : GoodIn wsX7_tick (wsV RX7 120 RX2 yX2_keep wsX2_keep) := goodIn_app (goodIn_of _ (by decide +kernel)) ggX7_tick_X2_keep
set_option maxRecDepth 20000 in
theorem ggX7_tick_X4_go : GoodIn wsX7_tick wsX4_go := goodIn_r _ [51, 15, 44, 45, 46, 52, 53, 54, 13, 55, 41, 42, 56, 57, 58, 59, 40, 43, 60, 61, 62, 63, 64, 87, 88, 89, 90, 91, 92, 93, 94, 95, 96, 75, 76, 77, 78, 79, 80, 81, 82, 83, 84, 85, 86] (by decide +kernel) (by decide +kernel)
set_option maxRecDepth 20000 in
theorem gX7_tick_X4_go : GoodIn wsX7_tick (wsV RX7 169 RX4 yX4_go wsX4_go) := goodIn_app (goodIn_of _ (by decide +kernel)) ggX7_tick_X4_go
theorem dX7_tick_0 : decode cX7_tick 0 = .ok (.aload_n 0, 1) := by decide +kernel
theorem dX7_tick_1 : decode cX7_tick 1 = .ok (.iload_n 1, 1) := by decide +kernel
theorem dX7_tick_2 : decode cX7_tick 2 = .ok (.invokevirtual 110, 3) := by decide +kernel
theorem dX7_tick_5 : decode cX7_tick 5 = .ok (.ifCond .ne 5, 3) := by decide +kernel
theorem dX7_tick_8 : decode cX7_tick 8 = .ok (.iconst (-1), 1) := by decide +kernel
theorem dX7_tick_9 : decode cX7_tick 9 = .ok (.ireturn, 1) := by decide +kernel
theorem dX7_tick_10 : decode cX7_tick 10 = .ok (.aload_n 0, 1) := by decide +kernel
theorem dX7_tick_11 : decode cX7_tick 11 = .ok (.getfield 58, 3) := by decide +kernel
theorem dX7_tick_14 : decode cX7_tick 14 = .ok (.aload_n 0, 1) := by decide +kernel
theorem dX7_tick_15 : decode cX7_tick 15 = .ok (.getfield 54, 3) := by decide +kernel
theorem dX7_tick_18 : decode cX7_tick 18 = .ok (.iload_n 1, 1) := by decide +kernel
theorem dX7_tick_19 : decode cX7_tick 19 = .ok (.invokevirtual 165, 3) := by decide +kernel
theorem dX7_tick_22 : decode cX7_tick 22 = .ok (.ifCond .ne 6, 3) := by decide +kernel
theorem dX7_tick_25 : decode cX7_tick 25 = .ok (.bipush (-2), 2) := by decide +kernel
theorem dX7_tick_27 : decode cX7_tick 27 = .ok (.ireturn, 1) := by decide +kernel
theorem dX7_tick_28 : decode cX7_tick 28 = .ok (.aload_n 0, 1) := by decide +kernel
theorem dX7_tick_29 : decode cX7_tick 29 = .ok (.getfield 19, 3) := by decide +kernel
theorem dX7_tick_32 : decode cX7_tick 32 = .ok (.aload_n 0, 1) := by decide +kernel
theorem dX7_tick_33 : decode cX7_tick 33 = .ok (.getfield 58, 3) := by decide +kernel
theorem dX7_tick_36 : decode cX7_tick 36 = .ok (.invokevirtual 120, 3) := by decide +kernel
theorem dX7_tick_39 : decode cX7_tick 39 = .ok (.aload_n 0, 1) := by decide +kernel
theorem dX7_tick_40 : decode cX7_tick 40 = .ok (.getfield 58, 3) := by decide +kernel
theorem dX7_tick_43 : decode cX7_tick 43 = .ok (.aload_n 0, 1) := by decide +kernel
theorem dX7_tick_44 : decode cX7_tick 44 = .ok (.getfield 54, 3) := by decide +kernel
theorem dX7_tick_47 : decode cX7_tick 47 = .ok (.iload_n 1, 1) := by decide +kernel
theorem dX7_tick_48 : decode cX7_tick 48 = .ok (.invokevirtual 169, 3) := by decide +kernel
theorem dX7_tick_51 : decode cX7_tick 51 = .ok (.ifCond .eq 7, 3) := by decide +kernel
theorem dX7_tick_54 : decode cX7_tick 54 = .ok (.iconst 1, 1) := by decide +kernel
theorem dX7_tick_55 : decode cX7_tick 55 = .ok (.goto 4, 3) := by decide +kernel
theorem dX7_tick_58 : decode cX7_tick 58 = .ok (.iconst 0, 1) := by decide +kernel
theorem dX7_tick_59 : decode cX7_tick 59 = .ok (.ireturn, 1) := by decide +kernel
set_option maxRecDepth 20000 in
theorem ggX7_page_X7_seek : GoodIn wsX7_page wsX7_seek := goodIn_r _ [11, 1, 12, 13, 3, 14, 15, 16, 17, 18, 19, 20, 21, 22, 23, 24, 25, 26, 27, 28, 29, 30, 31, 32, 33, 34, 35, 36, 37, 38, 39, 40, 41, 42, 43, 44, 45, 46, 47, 48, 49, 50, 51, 52, 53, 54, 55, 10, 56, 57, 58, 59, 60, 61, 62, 63, 64, 65, 66, 67, 68, 69, 70, 71, 72, 73, 74, 75, 76, 77, 78, 79, 80, 81, 82, 83, 84, 85, 86, 87, 88, 89, 90, 124, 125, 126, 127, 128, 129, 130, 131, 132, 133, 148, 149, 150, 151, 152, 153, 154, 155, 156, 157, 158, 159, 160, 161, 162, 163, 164, 165, 138, 139, 140, 141, 142, 143, 144, 145, 146, 147, 166, 134, 135, 136, 137] (by decide +kernel) (by decide +kernel)
set_option maxRecDepth 20000 in
theorem gX7_page_X7_seek : GoodIn wsX7_page (wsV RX7 172 RX7 yX7_seek wsX7_seek) := goodIn_app (goodIn_of _ (by decide +kernel)) ggX7_page_X7_seek
set_option maxRecDepth 20000 in
theorem ggX7_page_X3_cellsOf : GoodIn wsX7_page wsX3_cellsOf := goodIn_r _ [94, 67, 68, 75, 87, 88, 89, 65, 90, 55, 10, 56, 134, 135, 136, 137] (by decide +kernel) (by decide +kernel)
