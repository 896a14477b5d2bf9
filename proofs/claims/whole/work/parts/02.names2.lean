theorem dX3_meanPaged_41 : decode cX3_meanPaged 41 = .ok (.aload_n 2, 1) := by decide +kernel
theorem dX3_meanPaged_42 : decode cX3_meanPaged 42 = .ok (.aload_n 0, 1) := by decide +kernel
theorem dX3_meanPaged_43 : decode cX3_meanPaged 43 = .ok (.getfield 9, 3) := by decide +kernel
theorem dX3_meanPaged_46 : decode cX3_meanPaged 46 = .ok (.iload 6, 2) := by decide +kernel
theorem dX3_meanPaged_48 : decode cX3_meanPaged 48 = .ok (.iaload, 1) := by decide +kernel
theorem dX3_meanPaged_49 : decode cX3_meanPaged 49 = .ok (.laload, 1) := by decide +kernel
theorem dX3_meanPaged_50 : decode cX3_meanPaged 50 = .ok (.lmul, 1) := by decide +kernel
theorem dX3_meanPaged_51 : decode cX3_meanPaged 51 = .ok (.ladd, 1) := by decide +kernel
theorem dX3_meanPaged_52 : decode cX3_meanPaged 52 = .ok (.lstore_n 3, 1) := by decide +kernel
theorem dX3_meanPaged_53 : decode cX3_meanPaged 53 = .ok (.iinc 6 (-1), 3) := by decide +kernel
theorem dX3_meanPaged_56 : decode cX3_meanPaged 56 = .ok (.goto (-40), 3) := by decide +kernel
theorem dX3_meanPaged_59 : decode cX3_meanPaged 59 = .ok (.lload_n 3, 1) := by decide +kernel
theorem dX3_meanPaged_60 : decode cX3_meanPaged 60 = .ok (.lreturn, 1) := by decide +kernel
set_option maxRecDepth 20000 in
theorem ggX3_cellsOf_X3_isCutBehind : GoodIn wsX3_cellsOf wsX3_isCutBehind := goodIn_r _ [8, 1, 9, 10, 11, 12, 13, 14, 15] (by decide +kernel) (by decide +kernel)
set_option maxRecDepth 20000 in
theorem gX3_cellsOf_X3_isCutBehind : GoodIn wsX3_cellsOf (wsV RX3 41 RX3 yX3_isCutBehind wsX3_isCutBehind) := goodIn_app (goodIn_of _ (by decide +kernel)) ggX3_cellsOf_X3_isCutBehind
theorem dX3_cellsOf_0 : decode cX3_cellsOf 0 = .ok (.iconst 0, 1) := by decide +kernel
theorem dX3_cellsOf_1 : decode cX3_cellsOf 1 = .ok (.istore_n 2, 1) := by decide +kernel
theorem dX3_cellsOf_2 : decode cX3_cellsOf 2 = .ok (.iconst 0, 1) := by decide +kernel
theorem dX3_cellsOf_3 : decode cX3_cellsOf 3 = .ok (.istore_n 3, 1) := by decide +kernel
theorem dX3_cellsOf_4 : decode cX3_cellsOf 4 = .ok (.iconst 0, 1) := by decide +kernel
theorem dX3_cellsOf_5 : decode cX3_cellsOf 5 = .ok (.istore 4, 2) := by decide +kernel
theorem dX3_cellsOf_7 : decode cX3_cellsOf 7 = .ok (.iload 4, 2) := by decide +kernel
theorem dX3_cellsOf_9 : decode cX3_cellsOf 9 = .ok (.aload_n 0, 1) := by decide +kernel
theorem dX3_cellsOf_10 : decode cX3_cellsOf 10 = .ok (.getfield 15, 3) := by decide +kernel
theorem dX3_cellsOf_13 : decode cX3_cellsOf 13 = .ok (.if_icmp .ge 42, 3) := by decide +kernel
theorem dX3_cellsOf_16 : decode cX3_cellsOf 16 = .ok (.iload_n 3, 1) := by decide +kernel
theorem dX3_cellsOf_17 : decode cX3_cellsOf 17 = .ok (.iload_n 1, 1) := by decide +kernel
theorem dX3_cellsOf_18 : decode cX3_cellsOf 18 = .ok (.if_icmp .ne 15, 3) := by decide +kernel
theorem dX3_cellsOf_21 : decode cX3_cellsOf 21 = .ok (.iload_n 2, 1) := by decide +kernel
theorem dX3_cellsOf_22 : decode cX3_cellsOf 22 = .ok (.iconst 1, 1) := by decide +kernel
theorem dX3_cellsOf_23 : decode cX3_cellsOf 23 = .ok (.aload_n 0, 1) := by decide +kernel
theorem dX3_cellsOf_24 : decode cX3_cellsOf 24 = .ok (.getfield 9, 3) := by decide +kernel
theorem dX3_cellsOf_27 : decode cX3_cellsOf 27 = .ok (.iload 4, 2) := by decide +kernel
theorem dX3_cellsOf_29 : decode cX3_cellsOf 29 = .ok (.iaload, 1) := by decide +kernel
theorem dX3_cellsOf_30 : decode cX3_cellsOf 30 = .ok (.ishl, 1) := by decide +kernel
theorem dX3_cellsOf_31 : decode cX3_cellsOf 31 = .ok (.ior, 1) := by decide +kernel
theorem dX3_cellsOf_32 : decode cX3_cellsOf 32 = .ok (.istore_n 2, 1) := by decide +kernel
theorem dX3_cellsOf_33 : decode cX3_cellsOf 33 = .ok (.aload_n 0, 1) := by decide +kernel
theorem dX3_cellsOf_34 : decode cX3_cellsOf 34 = .ok (.aload_n 0, 1) := by decide +kernel
theorem dX3_cellsOf_35 : decode cX3_cellsOf 35 = .ok (.getfield 28, 3) := by decide +kernel
theorem dX3_cellsOf_38 : decode cX3_cellsOf 38 = .ok (.iload 4, 2) := by decide +kernel
theorem dX3_cellsOf_40 : decode cX3_cellsOf 40 = .ok (.invokevirtual 41, 3) := by decide +kernel
theorem dX3_cellsOf_43 : decode cX3_cellsOf 43 = .ok (.ifCond .eq 6, 3) := by decide +kernel
theorem dX3_cellsOf_46 : decode cX3_cellsOf 46 = .ok (.iinc 3 1, 3) := by decide +kernel
theorem dX3_cellsOf_49 : decode cX3_cellsOf 49 = .ok (.iinc 4 1, 3) := by decide +kernel
theorem dX3_cellsOf_52 : decode cX3_cellsOf 52 = .ok (.goto (-45), 3) := by decide +kernel
theorem dX3_cellsOf_55 : decode cX3_cellsOf 55 = .ok (.iload_n 2, 1) := by decide +kernel
theorem dX3_cellsOf_56 : decode cX3_cellsOf 56 = .ok (.ireturn, 1) := by decide +kernel
theorem dX4_init_0 : decode cX4_init 0 = .ok (.aload_n 0, 1) := by decide +kernel
theorem dX4_init_1 : decode cX4_init 1 = .ok (.invokespecial 3, 3) := by decide +kernel
theorem dX4_init_4 : decode cX4_init 4 = .ok (.aload_n 0, 1) := by decide +kernel
theorem dX4_init_5 : decode cX4_init 5 = .ok (.bipush 6, 2) := by decide +kernel
theorem dX4_init_7 : decode cX4_init 7 = .ok (.newarray .int, 2) := by decide +kernel
theorem dX4_init_9 : decode cX4_init 9 = .ok (.putfield 9, 3) := by decide +kernel
theorem dX4_init_12 : decode cX4_init 12 = .ok (.aload_n 0, 1) := by decide +kernel
theorem dX4_init_13 : decode cX4_init 13 = .ok (.bipush 6, 2) := by decide +kernel
theorem dX4_init_15 : decode cX4_init 15 = .ok (.newarray .int, 2) := by decide +kernel
theorem dX4_init_17 : decode cX4_init 17 = .ok (.putfield 15, 3) := by decide +kernel
theorem dX4_init_20 : decode cX4_init 20 = .ok (.return_, 1) := by decide +kernel
set_option maxRecDepth 20000 in
theorem ggX4_begin_X4_register : GoodIn wsX4_begin wsX4_register := goodIn_r _ [12, 5, 13, 14, 15, 16, 17, 18, 19, 20, 21, 22, 23, 24, 25] (by decide +kernel) (by decide +kernel)
set_option maxRecDepth 20000 in
theorem gX4_begin_X4_register : GoodIn wsX4_begin (wsV RX4 34 RX4 yX4_register wsX4_register) := goodIn_app (goodIn_of _ (by decide +kernel)) ggX4_begin_X4_register
theorem dX4_begin_0 : decode cX4_begin 0 = .ok (.iconst 0, 1) := by decide +kernel
theorem dX4_begin_1 : decode cX4_begin 1 = .ok (.istore_n 1, 1) := by decide +kernel
theorem dX4_begin_2 : decode cX4_begin 2 = .ok (.iload_n 1, 1) := by decide +kernel
theorem dX4_begin_3 : decode cX4_begin 3 = .ok (.bipush 6, 2) := by decide +kernel
theorem dX4_begin_5 : decode cX4_begin 5 = .ok (.if_icmp .ge 23, 3) := by decide +kernel
theorem dX4_begin_8 : decode cX4_begin 8 = .ok (.aload_n 0, 1) := by decide +kernel
theorem dX4_begin_9 : decode cX4_begin 9 = .ok (.getfield 9, 3) := by decide +kernel
theorem dX4_begin_12 : decode cX4_begin 12 = .ok (.iload_n 1, 1) := by decide +kernel
theorem dX4_begin_13 : decode cX4_begin 13 = .ok (.iconst 1, 1) := by decide +kernel
theorem dX4_begin_14 : decode cX4_begin 14 = .ok (.iastore, 1) := by decide +kernel
theorem dX4_begin_15 : decode cX4_begin 15 = .ok (.aload_n 0, 1) := by decide +kernel
theorem dX4_begin_16 : decode cX4_begin 16 = .ok (.getfield 15, 3) := by decide +kernel
theorem dX4_begin_19 : decode cX4_begin 19 = .ok (.iload_n 1, 1) := by decide +kernel
theorem dX4_begin_20 : decode cX4_begin 20 = .ok (.iconst 0, 1) := by decide +kernel
theorem dX4_begin_21 : decode cX4_begin 21 = .ok (.iastore, 1) := by decide +kernel
theorem dX4_begin_22 : decode cX4_begin 22 = .ok (.iinc 1 1, 3) := by decide +kernel
theorem dX4_begin_25 : decode cX4_begin 25 = .ok (.goto (-23), 3) := by decide +kernel
theorem dX4_begin_28 : decode cX4_begin 28 = .ok (.aload_n 0, 1) := by decide +kernel
theorem dX4_begin_29 : decode cX4_begin 29 = .ok (.iconst 0, 1) := by decide +kernel
theorem dX4_begin_30 : decode cX4_begin 30 = .ok (.putfield 18, 3) := by decide +kernel
theorem dX4_begin_33 : decode cX4_begin 33 = .ok (.aload_n 0, 1) := by decide +kernel
theorem dX4_begin_34 : decode cX4_begin 34 = .ok (.iconst 0, 1) := by decide +kernel
theorem dX4_begin_35 : decode cX4_begin 35 = .ok (.putfield 22, 3) := by decide +kernel
theorem dX4_begin_38 : decode cX4_begin 38 = .ok (.aload_n 0, 1) := by decide +kernel
theorem dX4_begin_39 : decode cX4_begin 39 = .ok (.iconst 0, 1) := by decide +kernel
theorem dX4_begin_40 : decode cX4_begin 40 = .ok (.putfield 25, 3) := by decide +kernel
theorem dX4_begin_43 : decode cX4_begin 43 = .ok (.aload_n 0, 1) := by decide +kernel
theorem dX4_begin_44 : decode cX4_begin 44 = .ok (.iconst 0, 1) := by decide +kernel
theorem dX4_begin_45 : decode cX4_begin 45 = .ok (.putfield 28, 3) := by decide +kernel
theorem dX4_begin_48 : decode cX4_begin 48 = .ok (.aload_n 0, 1) := by decide +kernel
theorem dX4_begin_49 : decode cX4_begin 49 = .ok (.iconst 0, 1) := by decide +kernel
theorem dX4_begin_50 : decode cX4_begin 50 = .ok (.putfield 31, 3) := by decide +kernel
theorem dX4_begin_53 : decode cX4_begin 53 = .ok (.aload_n 0, 1) := by decide +kernel
theorem dX4_begin_54 : decode cX4_begin 54 = .ok (.invokevirtual 34, 3) := by decide +kernel
theorem dX4_begin_57 : decode cX4_begin 57 = .ok (.return_, 1) := by decide +kernel
theorem dX4_copyFrom_0 : decode cX4_copyFrom 0 = .ok (.aload_n 1, 1) := by decide +kernel
theorem dX4_copyFrom_1 : decode cX4_copyFrom 1 = .ok (.getfield 9, 3) := by decide +kernel
theorem dX4_copyFrom_4 : decode cX4_copyFrom 4 = .ok (.iconst 0, 1) := by decide +kernel
theorem dX4_copyFrom_5 : decode cX4_copyFrom 5 = .ok (.aload_n 0, 1) := by decide +kernel
theorem dX4_copyFrom_6 : decode cX4_copyFrom 6 = .ok (.getfield 9, 3) := by decide +kernel
theorem dX4_copyFrom_9 : decode cX4_copyFrom 9 = .ok (.iconst 0, 1) := by decide +kernel
theorem dX4_copyFrom_10 : decode cX4_copyFrom 10 = .ok (.bipush 6, 2) := by decide +kernel
theorem dX4_copyFrom_12 : decode cX4_copyFrom 12 = .ok (.invokestatic 37, 3) := by decide +kernel
theorem dX4_copyFrom_15 : decode cX4_copyFrom 15 = .ok (.aload_n 1, 1) := by decide +kernel
theorem dX4_copyFrom_16 : decode cX4_copyFrom 16 = .ok (.getfield 15, 3) := by decide +kernel
theorem dX4_copyFrom_19 : decode cX4_copyFrom 19 = .ok (.iconst 0, 1) := by decide +kernel
theorem dX4_copyFrom_20 : decode cX4_copyFrom 20 = .ok (.aload_n 0, 1) := by decide +kernel
theorem dX4_copyFrom_21 : decode cX4_copyFrom 21 = .ok (.getfield 15, 3) := by decide +kernel
theorem dX4_copyFrom_24 : decode cX4_copyFrom 24 = .ok (.iconst 0, 1) := by decide +kernel
theorem dX4_copyFrom_25 : decode cX4_copyFrom 25 = .ok (.bipush 6, 2) := by decide +kernel
theorem dX4_copyFrom_27 : decode cX4_copyFrom 27 = .ok (.invokestatic 37, 3) := by decide +kernel
theorem dX4_copyFrom_30 : decode cX4_copyFrom 30 = .ok (.aload_n 0, 1) := by decide +kernel
theorem dX4_copyFrom_31 : decode cX4_copyFrom 31 = .ok (.aload_n 1, 1) := by decide +kernel
theorem dX4_copyFrom_32 : decode cX4_copyFrom 32 = .ok (.getfield 18, 3) := by decide +kernel
theorem dX4_copyFrom_35 : decode cX4_copyFrom 35 = .ok (.putfield 18, 3) := by decide +kernel
theorem dX4_copyFrom_38 : decode cX4_copyFrom 38 = .ok (.aload_n 0, 1) := by decide +kernel
theorem dX4_copyFrom_39 : decode cX4_copyFrom 39 = .ok (.aload_n 1, 1) := by decide +kernel
theorem dX4_copyFrom_40 : decode cX4_copyFrom 40 = .ok (.getfield 22, 3) := by decide +kernel
theorem dX4_copyFrom_43 : decode cX4_copyFrom 43 = .ok (.putfield 22, 3) := by decide +kernel
theorem dX4_copyFrom_46 : decode cX4_copyFrom 46 = .ok (.aload_n 0, 1) := by decide +kernel
theorem dX4_copyFrom_47 : decode cX4_copyFrom 47 = .ok (.aload_n 1, 1) := by decide +kernel
theorem dX4_copyFrom_48 : decode cX4_copyFrom 48 = .ok (.getfield 25, 3) := by decide +kernel
theorem dX4_copyFrom_51 : decode cX4_copyFrom 51 = .ok (.putfield 25, 3) := by decide +kernel
theorem dX4_copyFrom_54 : decode cX4_copyFrom 54 = .ok (.aload_n 0, 1) := by decide +kernel
theorem dX4_copyFrom_55 : decode cX4_copyFrom 55 = .ok (.aload_n 1, 1) := by decide +kernel
theorem dX4_copyFrom_56 : decode cX4_copyFrom 56 = .ok (.getfield 43, 3) := by decide +kernel
theorem dX4_copyFrom_59 : decode cX4_copyFrom 59 = .ok (.putfield 43, 3) := by decide +kernel
theorem dX4_copyFrom_62 : decode cX4_copyFrom 62 = .ok (.aload_n 0, 1) := by decide +kernel
theorem dX4_copyFrom_63 : decode cX4_copyFrom 63 = .ok (.aload_n 1, 1) := by decide +kernel
theorem dX4_copyFrom_64 : decode cX4_copyFrom 64 = .ok (.getfield 46, 3) := by decide +kernel
theorem dX4_copyFrom_67 : decode cX4_copyFrom 67 = .ok (.putfield 46, 3) := by decide +kernel
theorem dX4_copyFrom_70 : decode cX4_copyFrom 70 = .ok (.aload_n 0, 1) := by decide +kernel
theorem dX4_copyFrom_71 : decode cX4_copyFrom 71 = .ok (.aload_n 1, 1) := by decide +kernel
theorem dX4_copyFrom_72 : decode cX4_copyFrom 72 = .ok (.getfield 49, 3) := by decide +kernel
theorem dX4_copyFrom_75 : decode cX4_copyFrom 75 = .ok (.putfield 49, 3) := by decide +kernel
theorem dX4_copyFrom_78 : decode cX4_copyFrom 78 = .ok (.aload_n 0, 1) := by decide +kernel
theorem dX4_copyFrom_79 : decode cX4_copyFrom 79 = .ok (.aload_n 1, 1) := by decide +kernel
theorem dX4_copyFrom_80 : decode cX4_copyFrom 80 = .ok (.getfield 28, 3) := by decide +kernel
theorem dX4_copyFrom_83 : decode cX4_copyFrom 83 = .ok (.putfield 28, 3) := by decide +kernel
theorem dX4_copyFrom_86 : decode cX4_copyFrom 86 = .ok (.aload_n 0, 1) := by decide +kernel
theorem dX4_copyFrom_87 : decode cX4_copyFrom 87 = .ok (.aload_n 1, 1) := by decide +kernel
theorem dX4_copyFrom_88 : decode cX4_copyFrom 88 = .ok (.getfield 31, 3) := by decide +kernel
theorem dX4_copyFrom_91 : decode cX4_copyFrom 91 = .ok (.putfield 31, 3) := by decide +kernel
theorem dX4_copyFrom_94 : decode cX4_copyFrom 94 = .ok (.return_, 1) := by decide +kernel
theorem dX4_register_0 : decode cX4_register 0 = .ok (.aload_n 0, 1) := by decide +kernel
theorem dX4_register_1 : decode cX4_register 1 = .ok (.aload_n 0, 1) := by decide +kernel
theorem dX4_register_2 : decode cX4_register 2 = .ok (.getfield 25, 3) := by decide +kernel
theorem dX4_register_5 : decode cX4_register 5 = .ok (.putfield 43, 3) := by decide +kernel
theorem dX4_register_8 : decode cX4_register 8 = .ok (.aload_n 0, 1) := by decide +kernel
theorem dX4_register_9 : decode cX4_register 9 = .ok (.iconst 0, 1) := by decide +kernel
theorem dX4_register_10 : decode cX4_register 10 = .ok (.putfield 46, 3) := by decide +kernel
theorem dX4_register_13 : decode cX4_register 13 = .ok (.aload_n 0, 1) := by decide +kernel
theorem dX4_register_14 : decode cX4_register 14 = .ok (.iconst 0, 1) := by decide +kernel
theorem dX4_register_15 : decode cX4_register 15 = .ok (.putfield 49, 3) := by decide +kernel
theorem dX4_register_18 : decode cX4_register 18 = .ok (.return_, 1) := by decide +kernel
set_option maxRecDepth 20000 in
theorem ggX4_canGo_X7_holds : GoodIn wsX4_canGo wsX7_holds := goodIn_r _ [6] (by decide +kernel) (by decide +kernel)
set_option maxRecDepth 20000 in
theorem gX4_canGo_X7_holds_n57 : GoodIn wsX4_canGo (wsX7_holds) := ggX4_canGo_X7_holds
theorem dX4_canGo_0 : decode cX4_canGo 0 = .ok (.iload_n 2, 1) := by decide +kernel
theorem dX4_canGo_1 : decode cX4_canGo 1 = .ok (.aload_n 0, 1) := by decide +kernel
theorem dX4_canGo_2 : decode cX4_canGo 2 = .ok (.getfield 25, 3) := by decide +kernel
theorem dX4_canGo_5 : decode cX4_canGo 5 = .ok (.if_icmp .ne 20, 3) := by decide +kernel
theorem dX4_canGo_8 : decode cX4_canGo 8 = .ok (.aload_n 0, 1) := by decide +kernel
theorem dX4_canGo_9 : decode cX4_canGo 9 = .ok (.getfield 9, 3) := by decide +kernel
theorem dX4_canGo_12 : decode cX4_canGo 12 = .ok (.iload_n 2, 1) := by decide +kernel
theorem dX4_canGo_13 : decode cX4_canGo 13 = .ok (.iaload, 1) := by decide +kernel
theorem dX4_canGo_14 : decode cX4_canGo 14 = .ok (.ifCond .le 7, 3) := by decide +kernel
theorem dX4_canGo_17 : decode cX4_canGo 17 = .ok (.iconst 1, 1) := by decide +kernel
theorem dX4_canGo_18 : decode cX4_canGo 18 = .ok (.goto 20, 3) := by decide +kernel
theorem dX4_canGo_21 : decode cX4_canGo 21 = .ok (.iconst 0, 1) := by decide +kernel
theorem dX4_canGo_22 : decode cX4_canGo 22 = .ok (.goto 16, 3) := by decide +kernel
theorem dX4_canGo_25 : decode cX4_canGo 25 = .ok (.aload_n 1, 1) := by decide +kernel
theorem dX4_canGo_26 : decode cX4_canGo 26 = .ok (.getfield 52, 3) := by decide +kernel
theorem dX4_canGo_29 : decode cX4_canGo 29 = .ok (.aload_n 0, 1) := by decide +kernel
theorem dX4_canGo_30 : decode cX4_canGo 30 = .ok (.getfield 25, 3) := by decide +kernel
theorem dX4_canGo_33 : decode cX4_canGo 33 = .ok (.iaload, 1) := by decide +kernel
theorem dX4_canGo_34 : decode cX4_canGo 34 = .ok (.iload_n 2, 1) := by decide +kernel
theorem dX4_canGo_35 : decode cX4_canGo 35 = .ok (.invokestatic 57, 3) := by decide +kernel
theorem dX4_canGo_38 : decode cX4_canGo 38 = .ok (.ireturn, 1) := by decide +kernel
set_option maxRecDepth 20000 in
theorem ggX4_go_X4_isDue : GoodIn wsX4_go wsX4_isDue := goodIn_r _ [9, 10, 2, 11, 3, 1, 12, 13, 14, 8, 15, 16, 17, 18, 23, 24, 25, 26, 27, 28, 29, 30, 31, 32, 33, 34, 35, 36, 37, 38, 39, 40, 41, 42, 43, 44] (by decide +kernel) (by decide +kernel)
set_option maxRecDepth 20000 in
theorem gX4_go_X4_isDue : GoodIn wsX4_go (wsV RX4 61 RX4 yX4_isDue wsX4_isDue) := goodIn_app (goodIn_of _ (by decide +kernel)) ggX4_go_X4_isDue
set_option maxRecDepth 20000 in
theorem ggX4_go_X4_register : GoodIn wsX4_go wsX4_register := goodIn_r _ [22, 1, 17, 2, 3, 23, 24, 25, 26, 27, 28, 29, 30, 31, 32] (by decide +kernel) (by decide +kernel)
set_option maxRecDepth 20000 in
theorem gX4_go_X4_register : GoodIn wsX4_go (wsV RX4 34 RX4 yX4_register wsX4_register) := goodIn_app (goodIn_of _ (by decide +kernel)) ggX4_go_X4_register
theorem dX4_go_0 : decode cX4_go 0 = .ok (.iload_n 2, 1) := by decide +kernel
theorem dX4_go_1 : decode cX4_go 1 = .ok (.aload_n 0, 1) := by decide +kernel
theorem dX4_go_2 : decode cX4_go 2 = .ok (.getfield 25, 3) := by decide +kernel
theorem dX4_go_5 : decode cX4_go 5 = .ok (.if_icmp .eq 13, 3) := by decide +kernel
theorem dX4_go_8 : decode cX4_go 8 = .ok (.aload_n 0, 1) := by decide +kernel
theorem dX4_go_9 : decode cX4_go 9 = .ok (.dup, 1) := by decide +kernel
theorem dX4_go_10 : decode cX4_go 10 = .ok (.getfield 46, 3) := by decide +kernel
theorem dX4_go_13 : decode cX4_go 13 = .ok (.iconst 1, 1) := by decide +kernel
theorem dX4_go_14 : decode cX4_go 14 = .ok (.iadd, 1) := by decide +kernel
theorem dX4_go_15 : decode cX4_go 15 = .ok (.putfield 46, 3) := by decide +kernel
theorem dX4_go_18 : decode cX4_go 18 = .ok (.aload_n 0, 1) := by decide +kernel
theorem dX4_go_19 : decode cX4_go 19 = .ok (.dup, 1) := by decide +kernel
theorem dX4_go_20 : decode cX4_go 20 = .ok (.getfield 49, 3) := by decide +kernel
theorem dX4_go_23 : decode cX4_go 23 = .ok (.iconst 1, 1) := by decide +kernel
theorem dX4_go_24 : decode cX4_go 24 = .ok (.iadd, 1) := by decide +kernel
theorem dX4_go_25 : decode cX4_go 25 = .ok (.putfield 49, 3) := by decide +kernel
theorem dX4_go_28 : decode cX4_go 28 = .ok (.aload_n 0, 1) := by decide +kernel
theorem dX4_go_29 : decode cX4_go 29 = .ok (.iload_n 2, 1) := by decide +kernel
theorem dX4_go_30 : decode cX4_go 30 = .ok (.putfield 25, 3) := by decide +kernel
theorem dX4_go_33 : decode cX4_go 33 = .ok (.aload_n 0, 1) := by decide +kernel
theorem dX4_go_34 : decode cX4_go 34 = .ok (.aload_n 1, 1) := by decide +kernel
theorem dX4_go_35 : decode cX4_go 35 = .ok (.invokevirtual 61, 3) := by decide +kernel
theorem dX4_go_38 : decode cX4_go 38 = .ok (.ifCond .ne 5, 3) := by decide +kernel
theorem dX4_go_41 : decode cX4_go 41 = .ok (.iconst 0, 1) := by decide +kernel
theorem dX4_go_42 : decode cX4_go 42 = .ok (.ireturn, 1) := by decide +kernel
theorem dX4_go_43 : decode cX4_go 43 = .ok (.aload_n 0, 1) := by decide +kernel
theorem dX4_go_44 : decode cX4_go 44 = .ok (.invokevirtual 34, 3) := by decide +kernel
theorem dX4_go_47 : decode cX4_go 47 = .ok (.aload_n 0, 1) := by decide +kernel
theorem dX4_go_48 : decode cX4_go 48 = .ok (.dup, 1) := by decide +kernel
theorem dX4_go_49 : decode cX4_go 49 = .ok (.getfield 28, 3) := by decide +kernel
theorem dX4_go_52 : decode cX4_go 52 = .ok (.iconst 1, 1) := by decide +kernel
theorem dX4_go_53 : decode cX4_go 53 = .ok (.iadd, 1) := by decide +kernel
theorem dX4_go_54 : decode cX4_go 54 = .ok (.putfield 28, 3) := by decide +kernel
theorem dX4_go_57 : decode cX4_go 57 = .ok (.iconst 1, 1) := by decide +kernel
theorem dX4_go_58 : decode cX4_go 58 = .ok (.ireturn, 1) := by decide +kernel
set_option maxRecDepth 20000 in
theorem ggX4_isDue_X4_isOutside : GoodIn wsX4_isDue wsX4_isOutside := goodIn_r _ [10, 1, 11, 12, 13, 3, 14, 15, 16, 17, 18, 19, 20, 21, 22, 23, 24, 25, 26, 27, 28, 29, 30, 31, 32, 33, 34, 35] (by decide +kernel) (by decide +kernel)
set_option maxRecDepth 20000 in
theorem gX4_isDue_X4_isOutside : GoodIn wsX4_isDue (wsV RX4 65 RX4 yX4_isOutside wsX4_isOutside) := goodIn_app (goodIn_of _ (by decide +kernel)) ggX4_isDue_X4_isOutside
theorem dX4_isDue_0 : decode cX4_isDue 0 = .ok (.aload_n 0, 1) := by decide +kernel
theorem dX4_isDue_1 : decode cX4_isDue 1 = .ok (.getfield 18, 3) := by decide +kernel
theorem dX4_isDue_4 : decode cX4_isDue 4 = .ok (.lookupswitch 62 #[(1, 28), (2, 45)], 28) := by decide +kernel
theorem dX4_isDue_32 : decode cX4_isDue 32 = .ok (.aload_n 0, 1) := by decide +kernel
theorem dX4_isDue_33 : decode cX4_isDue 33 = .ok (.getfield 46, 3) := by decide +kernel
theorem dX4_isDue_36 : decode cX4_isDue 36 = .ok (.aload_n 0, 1) := by decide +kernel
theorem dX4_isDue_37 : decode cX4_isDue 37 = .ok (.getfield 22, 3) := by decide +kernel
theorem dX4_isDue_40 : decode cX4_isDue 40 = .ok (.if_icmp .lt 7, 3) := by decide +kernel
theorem dX4_isDue_43 : decode cX4_isDue 43 = .ok (.iconst 1, 1) := by decide +kernel
theorem dX4_isDue_44 : decode cX4_isDue 44 = .ok (.goto 4, 3) := by decide +kernel
theorem dX4_isDue_47 : decode cX4_isDue 47 = .ok (.iconst 0, 1) := by decide +kernel
theorem dX4_isDue_48 : decode cX4_isDue 48 = .ok (.ireturn, 1) := by decide +kernel
theorem dX4_isDue_49 : decode cX4_isDue 49 = .ok (.aload_n 0, 1) := by decide +kernel
theorem dX4_isDue_50 : decode cX4_isDue 50 = .ok (.getfield 49, 3) := by decide +kernel
theorem dX4_isDue_53 : decode cX4_isDue 53 = .ok (.aload_n 0, 1) := by decide +kernel
theorem dX4_isDue_54 : decode cX4_isDue 54 = .ok (.getfield 22, 3) := by decide +kernel
theorem dX4_isDue_57 : decode cX4_isDue 57 = .ok (.if_icmp .lt 7, 3) := by decide +kernel
theorem dX4_isDue_60 : decode cX4_isDue 60 = .ok (.iconst 1, 1) := by decide +kernel
theorem dX4_isDue_61 : decode cX4_isDue 61 = .ok (.goto 4, 3) := by decide +kernel
theorem dX4_isDue_64 : decode cX4_isDue 64 = .ok (.iconst 0, 1) := by decide +kernel
theorem dX4_isDue_65 : decode cX4_isDue 65 = .ok (.ireturn, 1) := by decide +kernel
theorem dX4_isDue_66 : decode cX4_isDue 66 = .ok (.aload_n 0, 1) := by decide +kernel
theorem dX4_isDue_67 : decode cX4_isDue 67 = .ok (.aload_n 1, 1) := by decide +kernel
theorem dX4_isDue_68 : decode cX4_isDue 68 = .ok (.aload_n 0, 1) := by decide +kernel
theorem dX4_isDue_69 : decode cX4_isDue 69 = .ok (.getfield 25, 3) := by decide +kernel
theorem dX4_isDue_72 : decode cX4_isDue 72 = .ok (.invokevirtual 65, 3) := by decide +kernel
theorem dX4_isDue_75 : decode cX4_isDue 75 = .ok (.ireturn, 1) := by decide +kernel
theorem dX4_isOutside_0 : decode cX4_isOutside 0 = .ok (.aload_n 0, 1) := by decide +kernel
theorem dX4_isOutside_1 : decode cX4_isOutside 1 = .ok (.getfield 18, 3) := by decide +kernel
theorem dX4_isOutside_4 : decode cX4_isOutside 4 = .ok (.lookupswitch 76 #[(0, 28), (3, 52)], 28) := by decide +kernel
theorem dX4_isOutside_32 : decode cX4_isOutside 32 = .ok (.aload_n 0, 1) := by decide +kernel
theorem dX4_isOutside_33 : decode cX4_isOutside 33 = .ok (.getfield 15, 3) := by decide +kernel
theorem dX4_isOutside_36 : decode cX4_isOutside 36 = .ok (.iload_n 2, 1) := by decide +kernel
theorem dX4_isOutside_37 : decode cX4_isOutside 37 = .ok (.iaload, 1) := by decide +kernel
theorem dX4_isOutside_38 : decode cX4_isOutside 38 = .ok (.aload_n 0, 1) := by decide +kernel
theorem dX4_isOutside_39 : decode cX4_isOutside 39 = .ok (.getfield 15, 3) := by decide +kernel
theorem dX4_isOutside_42 : decode cX4_isOutside 42 = .ok (.aload_n 0, 1) := by decide +kernel
theorem dX4_isOutside_43 : decode cX4_isOutside 43 = .ok (.getfield 43, 3) := by decide +kernel
theorem dX4_isOutside_46 : decode cX4_isOutside 46 = .ok (.iaload, 1) := by decide +kernel
theorem dX4_isOutside_47 : decode cX4_isOutside 47 = .ok (.if_icmp .eq 7, 3) := by decide +kernel
theorem dX4_isOutside_50 : decode cX4_isOutside 50 = .ok (.iconst 1, 1) := by decide +kernel
theorem dX4_isOutside_51 : decode cX4_isOutside 51 = .ok (.goto 4, 3) := by decide +kernel
theorem dX4_isOutside_54 : decode cX4_isOutside 54 = .ok (.iconst 0, 1) := by decide +kernel
theorem dX4_isOutside_55 : decode cX4_isOutside 55 = .ok (.ireturn, 1) := by decide +kernel
theorem dX4_isOutside_56 : decode cX4_isOutside 56 = .ok (.aload_n 1, 1) := by decide +kernel
theorem dX4_isOutside_57 : decode cX4_isOutside 57 = .ok (.getfield 69, 3) := by decide +kernel
theorem dX4_isOutside_60 : decode cX4_isOutside 60 = .ok (.aload_n 0, 1) := by decide +kernel
theorem dX4_isOutside_61 : decode cX4_isOutside 61 = .ok (.getfield 43, 3) := by decide +kernel
theorem dX4_isOutside_64 : decode cX4_isOutside 64 = .ok (.aaload, 1) := by decide +kernel
theorem dX4_isOutside_65 : decode cX4_isOutside 65 = .ok (.iload_n 2, 1) := by decide +kernel
theorem dX4_isOutside_66 : decode cX4_isOutside 66 = .ok (.iaload, 1) := by decide +kernel
theorem dX4_isOutside_67 : decode cX4_isOutside 67 = .ok (.aload_n 0, 1) := by decide +kernel
theorem dX4_isOutside_68 : decode cX4_isOutside 68 = .ok (.getfield 22, 3) := by decide +kernel
theorem dX4_isOutside_71 : decode cX4_isOutside 71 = .ok (.if_icmp .lt 7, 3) := by decide +kernel
theorem dX4_isOutside_74 : decode cX4_isOutside 74 = .ok (.iconst 1, 1) := by decide +kernel
theorem dX4_isOutside_75 : decode cX4_isOutside 75 = .ok (.goto 4, 3) := by decide +kernel
theorem dX4_isOutside_78 : decode cX4_isOutside 78 = .ok (.iconst 0, 1) := by decide +kernel
theorem dX4_isOutside_79 : decode cX4_isOutside 79 = .ok (.ireturn, 1) := by decide +kernel
theorem dX4_isOutside_80 : decode cX4_isOutside 80 = .ok (.iconst 0, 1) := by decide +kernel
theorem dX4_isOutside_81 : decode cX4_isOutside 81 = .ok (.ireturn, 1) := by decide +kernel
theorem dX4_drawnCell_0 : decode cX4_drawnCell 0 = .ok (.aload_n 0, 1) := by decide +kernel
theorem dX4_drawnCell_1 : decode cX4_drawnCell 1 = .ok (.getfield 9, 3) := by decide +kernel
theorem dX4_drawnCell_4 : decode cX4_drawnCell 4 = .ok (.aload_n 0, 1) := by decide +kernel
theorem dX4_drawnCell_5 : decode cX4_drawnCell 5 = .ok (.getfield 25, 3) := by decide +kernel
theorem dX4_drawnCell_8 : decode cX4_drawnCell 8 = .ok (.iaload, 1) := by decide +kernel
theorem dX4_drawnCell_9 : decode cX4_drawnCell 9 = .ok (.aload_n 1, 1) := by decide +kernel
theorem dX4_drawnCell_10 : decode cX4_drawnCell 10 = .ok (.getfield 73, 3) := by decide +kernel
theorem dX4_drawnCell_13 : decode cX4_drawnCell 13 = .ok (.aload_n 0, 1) := by decide +kernel
theorem dX4_drawnCell_14 : decode cX4_drawnCell 14 = .ok (.getfield 25, 3) := by decide +kernel
theorem dX4_drawnCell_17 : decode cX4_drawnCell 17 = .ok (.iaload, 1) := by decide +kernel
theorem dX4_drawnCell_18 : decode cX4_drawnCell 18 = .ok (.iadd, 1) := by decide +kernel
theorem dX4_drawnCell_19 : decode cX4_drawnCell 19 = .ok (.istore_n 3, 1) := by decide +kernel
theorem dX4_drawnCell_20 : decode cX4_drawnCell 20 = .ok (.iload_n 3, 1) := by decide +kernel
theorem dX4_drawnCell_21 : decode cX4_drawnCell 21 = .ok (.ifCond .le 9, 3) := by decide +kernel
theorem dX4_drawnCell_24 : decode cX4_drawnCell 24 = .ok (.iload_n 2, 1) := by decide +kernel
theorem dX4_drawnCell_25 : decode cX4_drawnCell 25 = .ok (.iload_n 3, 1) := by decide +kernel
theorem dX4_drawnCell_26 : decode cX4_drawnCell 26 = .ok (.irem, 1) := by decide +kernel
theorem dX4_drawnCell_27 : decode cX4_drawnCell 27 = .ok (.goto 4, 3) := by decide +kernel
theorem dX4_drawnCell_30 : decode cX4_drawnCell 30 = .ok (.iconst 0, 1) := by decide +kernel
theorem dX4_drawnCell_31 : decode cX4_drawnCell 31 = .ok (.istore 4, 2) := by decide +kernel
theorem dX4_drawnCell_33 : decode cX4_drawnCell 33 = .ok (.aload_n 0, 1) := by decide +kernel
theorem dX4_drawnCell_34 : decode cX4_drawnCell 34 = .ok (.getfield 9, 3) := by decide +kernel
theorem dX4_drawnCell_37 : decode cX4_drawnCell 37 = .ok (.aload_n 0, 1) := by decide +kernel
theorem dX4_drawnCell_38 : decode cX4_drawnCell 38 = .ok (.getfield 25, 3) := by decide +kernel
theorem dX4_drawnCell_41 : decode cX4_drawnCell 41 = .ok (.iaload, 1) := by decide +kernel
theorem dX4_drawnCell_42 : decode cX4_drawnCell 42 = .ok (.istore 5, 2) := by decide +kernel
theorem dX4_drawnCell_44 : decode cX4_drawnCell 44 = .ok (.iload 4, 2) := by decide +kernel
theorem dX4_drawnCell_46 : decode cX4_drawnCell 46 = .ok (.iload 5, 2) := by decide +kernel
theorem dX4_drawnCell_48 : decode cX4_drawnCell 48 = .ok (.if_icmp .ge 8, 3) := by decide +kernel
theorem dX4_drawnCell_51 : decode cX4_drawnCell 51 = .ok (.aload_n 0, 1) := by decide +kernel
theorem dX4_drawnCell_52 : decode cX4_drawnCell 52 = .ok (.getfield 25, 3) := by decide +kernel
theorem dX4_drawnCell_55 : decode cX4_drawnCell 55 = .ok (.ireturn, 1) := by decide +kernel
theorem dX4_drawnCell_56 : decode cX4_drawnCell 56 = .ok (.iconst 0, 1) := by decide +kernel
theorem dX4_drawnCell_57 : decode cX4_drawnCell 57 = .ok (.istore 6, 2) := by decide +kernel
theorem dX4_drawnCell_59 : decode cX4_drawnCell 59 = .ok (.iload 6, 2) := by decide +kernel
theorem dX4_drawnCell_61 : decode cX4_drawnCell 61 = .ok (.aload_n 1, 1) := by decide +kernel
theorem dX4_drawnCell_62 : decode cX4_drawnCell 62 = .ok (.getfield 76, 3) := by decide +kernel
theorem dX4_drawnCell_65 : decode cX4_drawnCell 65 = .ok (.if_icmp .ge 36, 3) := by decide +kernel
theorem dX4_drawnCell_68 : decode cX4_drawnCell 68 = .ok (.iload 5, 2) := by decide +kernel
theorem dX4_drawnCell_70 : decode cX4_drawnCell 70 = .ok (.aload_n 1, 1) := by decide +kernel
theorem dX4_drawnCell_71 : decode cX4_drawnCell 71 = .ok (.getfield 79, 3) := by decide +kernel
theorem dX4_drawnCell_74 : decode cX4_drawnCell 74 = .ok (.aload_n 0, 1) := by decide +kernel
theorem dX4_drawnCell_75 : decode cX4_drawnCell 75 = .ok (.getfield 25, 3) := by decide +kernel
theorem dX4_drawnCell_78 : decode cX4_drawnCell 78 = .ok (.aaload, 1) := by decide +kernel
theorem dX4_drawnCell_79 : decode cX4_drawnCell 79 = .ok (.iload 6, 2) := by decide +kernel
theorem dX4_drawnCell_81 : decode cX4_drawnCell 81 = .ok (.iaload, 1) := by decide +kernel
theorem dX4_drawnCell_82 : decode cX4_drawnCell 82 = .ok (.iadd, 1) := by decide +kernel
theorem dX4_drawnCell_83 : decode cX4_drawnCell 83 = .ok (.istore 5, 2) := by decide +kernel
theorem dX4_drawnCell_85 : decode cX4_drawnCell 85 = .ok (.iload 4, 2) := by decide +kernel
theorem dX4_drawnCell_87 : decode cX4_drawnCell 87 = .ok (.iload 5, 2) := by decide +kernel
theorem dX4_drawnCell_89 : decode cX4_drawnCell 89 = .ok (.if_icmp .ge 6, 3) := by decide +kernel
theorem dX4_drawnCell_92 : decode cX4_drawnCell 92 = .ok (.iload 6, 2) := by decide +kernel
theorem dX4_drawnCell_94 : decode cX4_drawnCell 94 = .ok (.ireturn, 1) := by decide +kernel
theorem dX4_drawnCell_95 : decode cX4_drawnCell 95 = .ok (.iinc 6 1, 3) := by decide +kernel
theorem dX4_drawnCell_98 : decode cX4_drawnCell 98 = .ok (.goto (-39), 3) := by decide +kernel
theorem dX4_drawnCell_101 : decode cX4_drawnCell 101 = .ok (.aload_n 0, 1) := by decide +kernel
theorem dX4_drawnCell_102 : decode cX4_drawnCell 102 = .ok (.getfield 25, 3) := by decide +kernel
theorem dX4_drawnCell_105 : decode cX4_drawnCell 105 = .ok (.ireturn, 1) := by decide +kernel
theorem dX5_init_0 : decode cX5_init 0 = .ok (.aload_n 0, 1) := by decide +kernel
theorem dX5_init_1 : decode cX5_init 1 = .ok (.invokespecial 3, 3) := by decide +kernel
theorem dX5_init_4 : decode cX5_init 4 = .ok (.aload_n 0, 1) := by decide +kernel
theorem dX5_init_5 : decode cX5_init 5 = .ok (.sipush 200, 3) := by decide +kernel
theorem dX5_init_8 : decode cX5_init 8 = .ok (.newarray .int, 2) := by decide +kernel
theorem dX5_init_10 : decode cX5_init 10 = .ok (.putfield 9, 3) := by decide +kernel
theorem dX5_init_13 : decode cX5_init 13 = .ok (.aload_n 0, 1) := by decide +kernel
theorem dX5_init_14 : decode cX5_init 14 = .ok (.iconst 4, 1) := by decide +kernel
theorem dX5_init_15 : decode cX5_init 15 = .ok (.newarray .int, 2) := by decide +kernel
theorem dX5_init_17 : decode cX5_init 17 = .ok (.putfield 15, 3) := by decide +kernel
theorem dX5_init_20 : decode cX5_init 20 = .ok (.return_, 1) := by decide +kernel
theorem dX5_append_0 : decode cX5_append 0 = .ok (.aload_n 0, 1) := by decide +kernel
theorem dX5_append_1 : decode cX5_append 1 = .ok (.getfield 18, 3) := by decide +kernel
theorem dX5_append_4 : decode cX5_append 4 = .ok (.sipush 200, 3) := by decide +kernel
theorem dX5_append_7 : decode cX5_append 7 = .ok (.if_icmp .lt 5, 3) := by decide +kernel
theorem dX5_append_10 : decode cX5_append 10 = .ok (.iconst 0, 1) := by decide +kernel
theorem dX5_append_11 : decode cX5_append 11 = .ok (.ireturn, 1) := by decide +kernel
theorem dX5_append_12 : decode cX5_append 12 = .ok (.aload_n 0, 1) := by decide +kernel
theorem dX5_append_13 : decode cX5_append 13 = .ok (.getfield 9, 3) := by decide +kernel
theorem dX5_append_16 : decode cX5_append 16 = .ok (.aload_n 0, 1) := by decide +kernel
theorem dX5_append_17 : decode cX5_append 17 = .ok (.getfield 18, 3) := by decide +kernel
theorem dX5_append_20 : decode cX5_append 20 = .ok (.iload_n 1, 1) := by decide +kernel
theorem dX5_append_21 : decode cX5_append 21 = .ok (.iastore, 1) := by decide +kernel
theorem dX5_append_22 : decode cX5_append 22 = .ok (.aload_n 0, 1) := by decide +kernel
theorem dX5_append_23 : decode cX5_append 23 = .ok (.dup, 1) := by decide +kernel
theorem dX5_append_24 : decode cX5_append 24 = .ok (.getfield 18, 3) := by decide +kernel
theorem dX5_append_27 : decode cX5_append 27 = .ok (.iconst 1, 1) := by decide +kernel
theorem dX5_append_28 : decode cX5_append 28 = .ok (.iadd, 1) := by decide +kernel
theorem dX5_append_29 : decode cX5_append 29 = .ok (.putfield 18, 3) := by decide +kernel
theorem dX5_append_32 : decode cX5_append 32 = .ok (.iconst 1, 1) := by decide +kernel
theorem dX5_append_33 : decode cX5_append 33 = .ok (.ireturn, 1) := by decide +kernel
set_option maxRecDepth 20000 in
theorem ggX5_readInto_X1_begin : GoodIn wsX5_readInto wsX1_begin := goodIn_r _ [7, 8, 9, 10, 11, 12, 13, 14, 15, 16, 6, 17, 18, 19, 20, 21, 114, 115, 116, 117, 118, 119, 120, 121, 122, 123, 124, 125] (by decide +kernel) (by decide +kernel)
set_option maxRecDepth 20000 in
theorem gX5_readInto_X1_begin : GoodIn wsX5_readInto (wsV RX5 22 RX1 yX1_begin wsX1_begin) := goodIn_app (goodIn_of _ (by decide +kernel)) ggX5_readInto_X1_begin
set_option maxRecDepth 20000 in
theorem ggX5_readInto_X4_begin : GoodIn wsX5_readInto wsX4_begin := goodIn_r _ [26, 27, 28, 29, 30, 31, 32, 33, 34, 35, 36, 25, 37, 38, 39, 40, 126, 127, 128, 129, 130, 131, 132, 133, 134, 135] (by decide +kernel) (by decide +kernel)
set_option maxRecDepth 20000 in
theorem gX5_readInto_X4_begin : GoodIn wsX5_readInto (wsV RX5 28 RX4 yX4_begin wsX4_begin) := goodIn_app (goodIn_of _ (by decide +kernel)) ggX5_readInto_X4_begin
set_option maxRecDepth 20000 in
theorem ggX5_readInto_X5_readItem : GoodIn wsX5_readInto wsX5_readItem := goodIn_r _ [45, 1, 46, 47, 48, 49, 50, 51, 44, 52, 2, 53, 54, 55, 56, 57, 58, 59, 60, 61, 62, 63, 64, 65, 66, 67, 68, 69, 70, 71, 72, 73, 74, 3, 4, 5, 6, 7, 8, 9, 10, 11, 12, 13, 14, 15, 16, 17, 18, 19, 20, 21, 75, 76, 77, 78, 79, 80, 81, 82, 83, 84, 85, 86, 87, 88, 89, 90, 91, 92, 93, 94, 95, 96, 97, 98, 99, 100, 101, 102, 103, 104, 105, 106, 107, 108, 109, 110, 111, 112, 113, 114, 115, 116, 117, 118, 119, 120, 121, 122, 123, 124, 125, 126, 127, 128, 129, 130, 131, 132, 133, 134, 135] (by decide +kernel) (by decide +kernel)
set_option maxRecDepth 20000 in
theorem gX5_readInto_X5_readItem : GoodIn wsX5_readInto (wsV RX5 35 RX5 yX5_readItem wsX5_readItem) := goodIn_app (goodIn_of _ (by decide +kernel)) ggX5_readInto_X5_readItem
theorem dX5_readInto_0 : decode cX5_readInto 0 = .ok (.aload_n 1, 1) := by decide +kernel
theorem dX5_readInto_1 : decode cX5_readInto 1 = .ok (.iconst 0, 1) := by decide +kernel
theorem dX5_readInto_2 : decode cX5_readInto 2 = .ok (.invokevirtual 22, 3) := by decide +kernel
theorem dX5_readInto_5 : decode cX5_readInto 5 = .ok (.aload_n 2, 1) := by decide +kernel
theorem dX5_readInto_6 : decode cX5_readInto 6 = .ok (.invokevirtual 28, 3) := by decide +kernel
theorem dX5_readInto_9 : decode cX5_readInto 9 = .ok (.aload_n 0, 1) := by decide +kernel
theorem dX5_readInto_10 : decode cX5_readInto 10 = .ok (.iconst 0, 1) := by decide +kernel
theorem dX5_readInto_11 : decode cX5_readInto 11 = .ok (.putfield 32, 3) := by decide +kernel
theorem dX5_readInto_14 : decode cX5_readInto 14 = .ok (.iconst 0, 1) := by decide +kernel
theorem dX5_readInto_15 : decode cX5_readInto 15 = .ok (.istore_n 3, 1) := by decide +kernel
theorem dX5_readInto_16 : decode cX5_readInto 16 = .ok (.iload_n 3, 1) := by decide +kernel
theorem dX5_readInto_17 : decode cX5_readInto 17 = .ok (.sipush 200, 3) := by decide +kernel
theorem dX5_readInto_20 : decode cX5_readInto 20 = .ok (.if_icmp .ge 38, 3) := by decide +kernel
theorem dX5_readInto_23 : decode cX5_readInto 23 = .ok (.aload_n 0, 1) := by decide +kernel
theorem dX5_readInto_24 : decode cX5_readInto 24 = .ok (.getfield 32, 3) := by decide +kernel
theorem dX5_readInto_27 : decode cX5_readInto 27 = .ok (.aload_n 0, 1) := by decide +kernel
theorem dX5_readInto_28 : decode cX5_readInto 28 = .ok (.getfield 18, 3) := by decide +kernel
theorem dX5_readInto_31 : decode cX5_readInto 31 = .ok (.if_icmp .ge 27, 3) := by decide +kernel
theorem dX5_readInto_34 : decode cX5_readInto 34 = .ok (.aload_n 0, 1) := by decide +kernel
theorem dX5_readInto_35 : decode cX5_readInto 35 = .ok (.getfield 32, 3) := by decide +kernel
theorem dX5_readInto_38 : decode cX5_readInto 38 = .ok (.istore 4, 2) := by decide +kernel
theorem dX5_readInto_40 : decode cX5_readInto 40 = .ok (.aload_n 0, 1) := by decide +kernel
theorem dX5_readInto_41 : decode cX5_readInto 41 = .ok (.aload_n 1, 1) := by decide +kernel
theorem dX5_readInto_42 : decode cX5_readInto 42 = .ok (.aload_n 2, 1) := by decide +kernel
theorem dX5_readInto_43 : decode cX5_readInto 43 = .ok (.invokevirtual 35, 3) := by decide +kernel
theorem dX5_readInto_46 : decode cX5_readInto 46 = .ok (.ifCond .ne 6, 3) := by decide +kernel
theorem dX5_readInto_49 : decode cX5_readInto 49 = .ok (.iload 4, 2) := by decide +kernel
theorem dX5_readInto_51 : decode cX5_readInto 51 = .ok (.ireturn, 1) := by decide +kernel
theorem dX5_readInto_52 : decode cX5_readInto 52 = .ok (.iinc 3 1, 3) := by decide +kernel
theorem dX5_readInto_55 : decode cX5_readInto 55 = .ok (.goto (-39), 3) := by decide +kernel
theorem dX5_readInto_58 : decode cX5_readInto 58 = .ok (.bipush (-4), 2) := by decide +kernel
theorem dX5_readInto_60 : decode cX5_readInto 60 = .ok (.ireturn, 1) := by decide +kernel
set_option maxRecDepth 20000 in
theorem ggX5_readItem_X5_letterHere : GoodIn wsX5_readItem wsX5_letterHere := goodIn_r _ [9, 1, 10, 11, 87, 88, 89, 90] (by decide +kernel) (by decide +kernel)
set_option maxRecDepth 20000 in
theorem gX5_readItem_X5_letterHere : GoodIn wsX5_readItem (wsV RX5 39 RX5 yX5_letterHere wsX5_letterHere) := goodIn_app (goodIn_of _ (by decide +kernel)) ggX5_readItem_X5_letterHere
set_option maxRecDepth 20000 in
theorem ggX5_readItem_X5_numbersBehind : GoodIn wsX5_readItem wsX5_numbersBehind := goodIn_r _ [15] (by decide +kernel) (by decide +kernel)
set_option maxRecDepth 20000 in
theorem gX5_readItem_X5_numbersBehind : GoodIn wsX5_readItem (wsV RX5 46 RX5 yX5_numbersBehind wsX5_numbersBehind) := goodIn_app (goodIn_of _ (by decide +kernel)) ggX5_readItem_X5_numbersBehind
set_option maxRecDepth 20000 in
theorem ggX5_readItem_X5_readNumbers : GoodIn wsX5_readItem wsX5_readNumbers := goodIn_r _ [19, 20, 1, 21, 22, 23, 8, 24, 25, 26, 27, 28, 10, 11, 5, 6, 7, 9, 87, 88, 89, 90] (by decide +kernel) (by decide +kernel)
set_option maxRecDepth 20000 in
theorem gX5_readItem_X5_readNumbers : GoodIn wsX5_readItem (wsV RX5 50 RX5 yX5_readNumbers wsX5_readNumbers) := goodIn_app (goodIn_of _ (by decide +kernel)) ggX5_readItem_X5_readNumbers
set_option maxRecDepth 20000 in
theorem ggX5_readItem_X5_takeCells : GoodIn wsX5_readItem wsX5_takeCells := goodIn_r _ [32, 20, 33, 34, 35, 36, 37, 38, 39, 40, 41, 42, 43, 44, 45, 46, 47, 48, 49, 50, 51, 87, 88, 89, 90, 91, 92, 93, 94, 95, 96, 97, 98, 99, 100, 101, 102] (by decide +kernel) (by decide +kernel)
set_option maxRecDepth 20000 in
theorem gX5_readItem_X5_takeCells : GoodIn wsX5_readItem (wsV RX5 54 RX5 yX5_takeCells wsX5_takeCells) := goodIn_app (goodIn_of _ (by decide +kernel)) ggX5_readItem_X5_takeCells
set_option maxRecDepth 20000 in
theorem ggX5_readItem_X5_takeJoin : GoodIn wsX5_readItem wsX5_takeJoin := goodIn_r _ [55, 20, 2, 56, 57, 58, 59, 8, 60, 61, 62, 63, 36, 64, 39, 65, 66, 67, 68, 42, 43, 40, 41, 87, 88, 89, 90, 91, 92, 93, 94, 95, 96, 97, 98, 99, 100, 101, 102] (by decide +kernel) (by decide +kernel)
set_option maxRecDepth 20000 in
theorem gX5_readItem_X5_takeJoin : GoodIn wsX5_readItem (wsV RX5 58 RX5 yX5_takeJoin wsX5_takeJoin) := goodIn_app (goodIn_of _ (by decide +kernel)) ggX5_readItem_X5_takeJoin
set_option maxRecDepth 20000 in
theorem ggX5_readItem_X5_takeCellNumber : GoodIn wsX5_readItem wsX5_takeCellNumber := goodIn_r _ [72, 20, 2, 87, 88, 89, 90, 91, 92, 93, 94, 95, 96, 97, 98, 99, 100, 101, 102] (by decide +kernel) (by decide +kernel)
set_option maxRecDepth 20000 in
theorem gX5_readItem_X5_takeCellNumber : GoodIn wsX5_readItem (wsV RX5 64 RX5 yX5_takeCellNumber wsX5_takeCellNumber) := goodIn_app (goodIn_of _ (by decide +kernel)) ggX5_readItem_X5_takeCellNumber
set_option maxRecDepth 20000 in
theorem ggX5_readItem_X5_takeLaw : GoodIn wsX5_readItem wsX5_takeLaw := goodIn_r _ [76, 20, 77, 78, 79, 80, 81, 87, 88, 89, 90, 103, 104, 105, 106, 107, 108, 109, 110, 111, 112] (by decide +kernel) (by decide +kernel)
set_option maxRecDepth 20000 in
theorem gX5_readItem_X5_takeLaw : GoodIn wsX5_readItem (wsV RX5 71 RX5 yX5_takeLaw wsX5_takeLaw) := goodIn_app (goodIn_of _ (by decide +kernel)) ggX5_readItem_X5_takeLaw
set_option maxRecDepth 20000 in
theorem ggX5_readItem_X5_takePrices : GoodIn wsX5_readItem wsX5_takePrices := goodIn_r _ [85, 20, 86, 45, 46, 36, 47, 48, 49, 50, 51, 87, 88, 89, 90, 91, 92, 93, 94, 95, 96, 97, 98, 99, 100, 101, 102] (by decide +kernel) (by decide +kernel)
set_option maxRecDepth 20000 in
theorem gX5_readItem_X5_takePrices : GoodIn wsX5_readItem (wsV RX5 75 RX5 yX5_takePrices wsX5_takePrices) := goodIn_app (goodIn_of _ (by decide +kernel)) ggX5_readItem_X5_takePrices
theorem dX5_readItem_0 : decode cX5_readItem 0 = .ok (.aload_n 0, 1) := by decide +kernel
theorem dX5_readItem_1 : decode cX5_readItem 1 = .ok (.invokevirtual 39, 3) := by decide +kernel
theorem dX5_readItem_4 : decode cX5_readItem 4 = .ok (.istore_n 3, 1) := by decide +kernel
theorem dX5_readItem_5 : decode cX5_readItem 5 = .ok (.aload_n 0, 1) := by decide +kernel
theorem dX5_readItem_6 : decode cX5_readItem 6 = .ok (.dup, 1) := by decide +kernel
theorem dX5_readItem_7 : decode cX5_readItem 7 = .ok (.getfield 32, 3) := by decide +kernel
theorem dX5_readItem_10 : decode cX5_readItem 10 = .ok (.iconst 1, 1) := by decide +kernel
theorem dX5_readItem_11 : decode cX5_readItem 11 = .ok (.iadd, 1) := by decide +kernel
theorem dX5_readItem_12 : decode cX5_readItem 12 = .ok (.putfield 32, 3) := by decide +kernel
theorem dX5_readItem_15 : decode cX5_readItem 15 = .ok (.aload_n 1, 1) := by decide +kernel
theorem dX5_readItem_16 : decode cX5_readItem 16 = .ok (.getfield 43, 3) := by decide +kernel
theorem dX5_readItem_19 : decode cX5_readItem 19 = .ok (.ifCond .ne 7, 3) := by decide +kernel
theorem dX5_readItem_22 : decode cX5_readItem 22 = .ok (.iconst 1, 1) := by decide +kernel
theorem dX5_readItem_23 : decode cX5_readItem 23 = .ok (.goto 4, 3) := by decide +kernel
theorem dX5_readItem_26 : decode cX5_readItem 26 = .ok (.iconst 0, 1) := by decide +kernel
theorem dX5_readItem_27 : decode cX5_readItem 27 = .ok (.istore 4, 2) := by decide +kernel
theorem dX5_readItem_29 : decode cX5_readItem 29 = .ok (.iload 4, 2) := by decide +kernel
theorem dX5_readItem_31 : decode cX5_readItem 31 = .ok (.iload_n 3, 1) := by decide +kernel
theorem dX5_readItem_32 : decode cX5_readItem 32 = .ok (.bipush 110, 2) := by decide +kernel
theorem dX5_readItem_34 : decode cX5_readItem 34 = .ok (.if_icmp .ne 7, 3) := by decide +kernel
theorem dX5_readItem_37 : decode cX5_readItem 37 = .ok (.iconst 1, 1) := by decide +kernel
theorem dX5_readItem_38 : decode cX5_readItem 38 = .ok (.goto 4, 3) := by decide +kernel
theorem dX5_readItem_41 : decode cX5_readItem 41 = .ok (.iconst 0, 1) := by decide +kernel
theorem dX5_readItem_42 : decode cX5_readItem 42 = .ok (.if_icmp .ne 15, 3) := by decide +kernel
theorem dX5_readItem_45 : decode cX5_readItem 45 = .ok (.aload_n 0, 1) := by decide +kernel
theorem dX5_readItem_46 : decode cX5_readItem 46 = .ok (.aload_n 0, 1) := by decide +kernel
theorem dX5_readItem_47 : decode cX5_readItem 47 = .ok (.iload_n 3, 1) := by decide +kernel
theorem dX5_readItem_48 : decode cX5_readItem 48 = .ok (.invokevirtual 46, 3) := by decide +kernel
theorem dX5_readItem_51 : decode cX5_readItem 51 = .ok (.invokevirtual 50, 3) := by decide +kernel
theorem dX5_readItem_54 : decode cX5_readItem 54 = .ok (.ifCond .ne 5, 3) := by decide +kernel
theorem dX5_readItem_57 : decode cX5_readItem 57 = .ok (.iconst 0, 1) := by decide +kernel
theorem dX5_readItem_58 : decode cX5_readItem 58 = .ok (.ireturn, 1) := by decide +kernel
theorem dX5_readItem_59 : decode cX5_readItem 59 = .ok (.iload_n 3, 1) := by decide +kernel
theorem dX5_readItem_60 : decode cX5_readItem 60 = .ok (.tableswitch 139 97 115 #[116, 139, 139, 139, 139, 139, 139, 139, 139, 98, 139, 127, 139, 92, 139, 133, 139, 139, 104], 92) := by decide +kernel
theorem dX5_readItem_152 : decode cX5_readItem 152 = .ok (.aload_n 0, 1) := by decide +kernel
theorem dX5_readItem_153 : decode cX5_readItem 153 = .ok (.aload_n 1, 1) := by decide +kernel
theorem dX5_readItem_154 : decode cX5_readItem 154 = .ok (.invokevirtual 54, 3) := by decide +kernel
theorem dX5_readItem_157 : decode cX5_readItem 157 = .ok (.ireturn, 1) := by decide +kernel
theorem dX5_readItem_158 : decode cX5_readItem 158 = .ok (.aload_n 0, 1) := by decide +kernel
theorem dX5_readItem_159 : decode cX5_readItem 159 = .ok (.aload_n 1, 1) := by decide +kernel
theorem dX5_readItem_160 : decode cX5_readItem 160 = .ok (.invokevirtual 58, 3) := by decide +kernel
theorem dX5_readItem_163 : decode cX5_readItem 163 = .ok (.ireturn, 1) := by decide +kernel
theorem dX5_readItem_164 : decode cX5_readItem 164 = .ok (.aload_n 0, 1) := by decide +kernel
theorem dX5_readItem_165 : decode cX5_readItem 165 = .ok (.aload_n 1, 1) := by decide +kernel
theorem dX5_readItem_166 : decode cX5_readItem 166 = .ok (.aload_n 2, 1) := by decide +kernel
theorem dX5_readItem_167 : decode cX5_readItem 167 = .ok (.getfield 61, 3) := by decide +kernel
theorem dX5_readItem_170 : decode cX5_readItem 170 = .ok (.bipush 9, 2) := by decide +kernel
theorem dX5_readItem_172 : decode cX5_readItem 172 = .ok (.invokevirtual 64, 3) := by decide +kernel
theorem dX5_readItem_175 : decode cX5_readItem 175 = .ok (.ireturn, 1) := by decide +kernel
theorem dX5_readItem_176 : decode cX5_readItem 176 = .ok (.aload_n 0, 1) := by decide +kernel
theorem dX5_readItem_177 : decode cX5_readItem 177 = .ok (.aload_n 1, 1) := by decide +kernel
theorem dX5_readItem_178 : decode cX5_readItem 178 = .ok (.aload_n 2, 1) := by decide +kernel
theorem dX5_readItem_179 : decode cX5_readItem 179 = .ok (.getfield 68, 3) := by decide +kernel
theorem dX5_readItem_182 : decode cX5_readItem 182 = .ok (.iconst 5, 1) := by decide +kernel
theorem dX5_readItem_183 : decode cX5_readItem 183 = .ok (.invokevirtual 64, 3) := by decide +kernel
theorem dX5_readItem_186 : decode cX5_readItem 186 = .ok (.ireturn, 1) := by decide +kernel
theorem dX5_readItem_187 : decode cX5_readItem 187 = .ok (.aload_n 0, 1) := by decide +kernel
theorem dX5_readItem_188 : decode cX5_readItem 188 = .ok (.aload_n 2, 1) := by decide +kernel
theorem dX5_readItem_189 : decode cX5_readItem 189 = .ok (.invokevirtual 71, 3) := by decide +kernel
theorem dX5_readItem_192 : decode cX5_readItem 192 = .ok (.ireturn, 1) := by decide +kernel
theorem dX5_readItem_193 : decode cX5_readItem 193 = .ok (.aload_n 0, 1) := by decide +kernel
theorem dX5_readItem_194 : decode cX5_readItem 194 = .ok (.aload_n 1, 1) := by decide +kernel
theorem dX5_readItem_195 : decode cX5_readItem 195 = .ok (.invokevirtual 75, 3) := by decide +kernel
theorem dX5_readItem_198 : decode cX5_readItem 198 = .ok (.ireturn, 1) := by decide +kernel
theorem dX5_readItem_199 : decode cX5_readItem 199 = .ok (.iconst 0, 1) := by decide +kernel
theorem dX5_readItem_200 : decode cX5_readItem 200 = .ok (.ireturn, 1) := by decide +kernel
theorem dX5_numbersBehind_0 : decode cX5_numbersBehind 0 = .ok (.iload_n 1, 1) := by decide +kernel
theorem dX5_numbersBehind_1 : decode cX5_numbersBehind 1 = .ok (.tableswitch 97 97 115 #[93, 97, 97, 97, 97, 97, 97, 97, 97, 95, 97, 93, 97, 91, 97, 95, 97, 97, 93], 91) := by decide +kernel
theorem dX5_numbersBehind_92 : decode cX5_numbersBehind 92 = .ok (.iconst 1, 1) := by decide +kernel
theorem dX5_numbersBehind_93 : decode cX5_numbersBehind 93 = .ok (.ireturn, 1) := by decide +kernel
theorem dX5_numbersBehind_94 : decode cX5_numbersBehind 94 = .ok (.iconst 2, 1) := by decide +kernel
theorem dX5_numbersBehind_95 : decode cX5_numbersBehind 95 = .ok (.ireturn, 1) := by decide +kernel
theorem dX5_numbersBehind_96 : decode cX5_numbersBehind 96 = .ok (.iconst 4, 1) := by decide +kernel
theorem dX5_numbersBehind_97 : decode cX5_numbersBehind 97 = .ok (.ireturn, 1) := by decide +kernel
theorem dX5_numbersBehind_98 : decode cX5_numbersBehind 98 = .ok (.iconst 0, 1) := by decide +kernel
theorem dX5_numbersBehind_99 : decode cX5_numbersBehind 99 = .ok (.ireturn, 1) := by decide +kernel
set_option maxRecDepth 20000 in
theorem ggX5_takeCells_X1_begin : GoodIn wsX5_takeCells wsX1_begin := goodIn_r _ [6, 7, 8, 9, 10, 11, 12, 13, 14, 15, 5, 16, 17, 18, 19, 20, 25, 26, 27, 28, 29, 30, 31, 32, 33, 34, 35, 36] (by decide +kernel) (by decide +kernel)
set_option maxRecDepth 20000 in
theorem gX5_takeCells_X1_begin : GoodIn wsX5_takeCells (wsV RX5 22 RX1 yX1_begin wsX1_begin) := goodIn_app (goodIn_of _ (by decide +kernel)) ggX5_takeCells_X1_begin
theorem dX5_takeCells_0 : decode cX5_takeCells 0 = .ok (.aload_n 0, 1) := by decide +kernel
theorem dX5_takeCells_1 : decode cX5_takeCells 1 = .ok (.getfield 15, 3) := by decide +kernel
theorem dX5_takeCells_4 : decode cX5_takeCells 4 = .ok (.iconst 0, 1) := by decide +kernel
theorem dX5_takeCells_5 : decode cX5_takeCells 5 = .ok (.iaload, 1) := by decide +kernel
theorem dX5_takeCells_6 : decode cX5_takeCells 6 = .ok (.iconst 2, 1) := by decide +kernel
theorem dX5_takeCells_7 : decode cX5_takeCells 7 = .ok (.if_icmp .lt 14, 3) := by decide +kernel
theorem dX5_takeCells_10 : decode cX5_takeCells 10 = .ok (.aload_n 0, 1) := by decide +kernel
theorem dX5_takeCells_11 : decode cX5_takeCells 11 = .ok (.getfield 15, 3) := by decide +kernel
theorem dX5_takeCells_14 : decode cX5_takeCells 14 = .ok (.iconst 0, 1) := by decide +kernel
theorem dX5_takeCells_15 : decode cX5_takeCells 15 = .ok (.iaload, 1) := by decide +kernel
theorem dX5_takeCells_16 : decode cX5_takeCells 16 = .ok (.bipush 6, 2) := by decide +kernel
theorem dX5_takeCells_18 : decode cX5_takeCells 18 = .ok (.if_icmp .le 5, 3) := by decide +kernel
theorem dX5_takeCells_21 : decode cX5_takeCells 21 = .ok (.iconst 0, 1) := by decide +kernel
theorem dX5_takeCells_22 : decode cX5_takeCells 22 = .ok (.ireturn, 1) := by decide +kernel
theorem dX5_takeCells_23 : decode cX5_takeCells 23 = .ok (.aload_n 1, 1) := by decide +kernel
theorem dX5_takeCells_24 : decode cX5_takeCells 24 = .ok (.aload_n 0, 1) := by decide +kernel
theorem dX5_takeCells_25 : decode cX5_takeCells 25 = .ok (.getfield 15, 3) := by decide +kernel
theorem dX5_takeCells_28 : decode cX5_takeCells 28 = .ok (.iconst 0, 1) := by decide +kernel
theorem dX5_takeCells_29 : decode cX5_takeCells 29 = .ok (.iaload, 1) := by decide +kernel
theorem dX5_takeCells_30 : decode cX5_takeCells 30 = .ok (.invokevirtual 22, 3) := by decide +kernel
theorem dX5_takeCells_33 : decode cX5_takeCells 33 = .ok (.iconst 1, 1) := by decide +kernel
theorem dX5_takeCells_34 : decode cX5_takeCells 34 = .ok (.ireturn, 1) := by decide +kernel
set_option maxRecDepth 20000 in
theorem ggX5_takeJoin_X5_isWeight : GoodIn wsX5_takeJoin wsX5_isWeight := goodIn_r _ [8] (by decide +kernel) (by decide +kernel)
set_option maxRecDepth 20000 in
theorem gX5_takeJoin_X5_isWeight : GoodIn wsX5_takeJoin (wsV RX5 82 RX5 yX5_isWeight wsX5_isWeight) := goodIn_app (goodIn_of _ (by decide +kernel)) ggX5_takeJoin_X5_isWeight
set_option maxRecDepth 20000 in
theorem ggX5_takeJoin_X1_join : GoodIn wsX5_takeJoin wsX1_join := goodIn_r _ [13, 14, 15, 16, 17, 12, 18, 19, 20, 21, 22, 27, 28, 29, 30, 31, 32, 33, 34, 35, 36, 37, 38] (by decide +kernel) (by decide +kernel)
set_option maxRecDepth 20000 in
theorem gX5_takeJoin_X1_join : GoodIn wsX5_takeJoin (wsV RX5 85 RX1 yX1_join wsX1_join) := goodIn_app (goodIn_of _ (by decide +kernel)) ggX5_takeJoin_X1_join
theorem dX5_takeJoin_0 : decode cX5_takeJoin 0 = .ok (.aload_n 0, 1) := by decide +kernel
theorem dX5_takeJoin_1 : decode cX5_takeJoin 1 = .ok (.getfield 15, 3) := by decide +kernel
theorem dX5_takeJoin_4 : decode cX5_takeJoin 4 = .ok (.iconst 0, 1) := by decide +kernel
theorem dX5_takeJoin_5 : decode cX5_takeJoin 5 = .ok (.iaload, 1) := by decide +kernel
theorem dX5_takeJoin_6 : decode cX5_takeJoin 6 = .ok (.istore_n 2, 1) := by decide +kernel
theorem dX5_takeJoin_7 : decode cX5_takeJoin 7 = .ok (.aload_n 0, 1) := by decide +kernel
theorem dX5_takeJoin_8 : decode cX5_takeJoin 8 = .ok (.getfield 15, 3) := by decide +kernel
theorem dX5_takeJoin_11 : decode cX5_takeJoin 11 = .ok (.iconst 1, 1) := by decide +kernel
theorem dX5_takeJoin_12 : decode cX5_takeJoin 12 = .ok (.iaload, 1) := by decide +kernel
theorem dX5_takeJoin_13 : decode cX5_takeJoin 13 = .ok (.istore_n 3, 1) := by decide +kernel
theorem dX5_takeJoin_14 : decode cX5_takeJoin 14 = .ok (.iload_n 2, 1) := by decide +kernel
theorem dX5_takeJoin_15 : decode cX5_takeJoin 15 = .ok (.aload_n 1, 1) := by decide +kernel
theorem dX5_takeJoin_16 : decode cX5_takeJoin 16 = .ok (.getfield 43, 3) := by decide +kernel
theorem dX5_takeJoin_19 : decode cX5_takeJoin 19 = .ok (.if_icmp .ge 53, 3) := by decide +kernel
theorem dX5_takeJoin_22 : decode cX5_takeJoin 22 = .ok (.iload_n 3, 1) := by decide +kernel
theorem dX5_takeJoin_23 : decode cX5_takeJoin 23 = .ok (.aload_n 1, 1) := by decide +kernel
theorem dX5_takeJoin_24 : decode cX5_takeJoin 24 = .ok (.getfield 43, 3) := by decide +kernel
theorem dX5_takeJoin_27 : decode cX5_takeJoin 27 = .ok (.if_icmp .ge 45, 3) := by decide +kernel
theorem dX5_takeJoin_30 : decode cX5_takeJoin 30 = .ok (.iload_n 2, 1) := by decide +kernel
theorem dX5_takeJoin_31 : decode cX5_takeJoin 31 = .ok (.iload_n 3, 1) := by decide +kernel
theorem dX5_takeJoin_32 : decode cX5_takeJoin 32 = .ok (.if_icmp .eq 40, 3) := by decide +kernel
theorem dX5_takeJoin_35 : decode cX5_takeJoin 35 = .ok (.aload_n 1, 1) := by decide +kernel
theorem dX5_takeJoin_36 : decode cX5_takeJoin 36 = .ok (.getfield 78, 3) := by decide +kernel
theorem dX5_takeJoin_39 : decode cX5_takeJoin 39 = .ok (.iload_n 2, 1) := by decide +kernel
theorem dX5_takeJoin_40 : decode cX5_takeJoin 40 = .ok (.aaload, 1) := by decide +kernel
theorem dX5_takeJoin_41 : decode cX5_takeJoin 41 = .ok (.iload_n 3, 1) := by decide +kernel
theorem dX5_takeJoin_42 : decode cX5_takeJoin 42 = .ok (.iaload, 1) := by decide +kernel
theorem dX5_takeJoin_43 : decode cX5_takeJoin 43 = .ok (.ifCond .ne 29, 3) := by decide +kernel
theorem dX5_takeJoin_46 : decode cX5_takeJoin 46 = .ok (.aload_n 0, 1) := by decide +kernel
theorem dX5_takeJoin_47 : decode cX5_takeJoin 47 = .ok (.aload_n 0, 1) := by decide +kernel
theorem dX5_takeJoin_48 : decode cX5_takeJoin 48 = .ok (.getfield 15, 3) := by decide +kernel
theorem dX5_takeJoin_51 : decode cX5_takeJoin 51 = .ok (.iconst 2, 1) := by decide +kernel
theorem dX5_takeJoin_52 : decode cX5_takeJoin 52 = .ok (.iaload, 1) := by decide +kernel
theorem dX5_takeJoin_53 : decode cX5_takeJoin 53 = .ok (.invokevirtual 82, 3) := by decide +kernel
theorem dX5_takeJoin_56 : decode cX5_takeJoin 56 = .ok (.ifCond .eq 16, 3) := by decide +kernel
theorem dX5_takeJoin_59 : decode cX5_takeJoin 59 = .ok (.aload_n 0, 1) := by decide +kernel
theorem dX5_takeJoin_60 : decode cX5_takeJoin 60 = .ok (.aload_n 0, 1) := by decide +kernel
theorem dX5_takeJoin_61 : decode cX5_takeJoin 61 = .ok (.getfield 15, 3) := by decide +kernel
theorem dX5_takeJoin_64 : decode cX5_takeJoin 64 = .ok (.iconst 3, 1) := by decide +kernel
theorem dX5_takeJoin_65 : decode cX5_takeJoin 65 = .ok (.iaload, 1) := by decide +kernel
theorem dX5_takeJoin_66 : decode cX5_takeJoin 66 = .ok (.invokevirtual 82, 3) := by decide +kernel
theorem dX5_takeJoin_69 : decode cX5_takeJoin 69 = .ok (.ifCond .ne 5, 3) := by decide +kernel
theorem dX5_takeJoin_72 : decode cX5_takeJoin 72 = .ok (.iconst 0, 1) := by decide +kernel
theorem dX5_takeJoin_73 : decode cX5_takeJoin 73 = .ok (.ireturn, 1) := by decide +kernel
theorem dX5_takeJoin_74 : decode cX5_takeJoin 74 = .ok (.aload_n 1, 1) := by decide +kernel
theorem dX5_takeJoin_75 : decode cX5_takeJoin 75 = .ok (.iload_n 2, 1) := by decide +kernel
theorem dX5_takeJoin_76 : decode cX5_takeJoin 76 = .ok (.iload_n 3, 1) := by decide +kernel
theorem dX5_takeJoin_77 : decode cX5_takeJoin 77 = .ok (.aload_n 0, 1) := by decide +kernel
theorem dX5_takeJoin_78 : decode cX5_takeJoin 78 = .ok (.getfield 15, 3) := by decide +kernel
theorem dX5_takeJoin_81 : decode cX5_takeJoin 81 = .ok (.iconst 2, 1) := by decide +kernel
theorem dX5_takeJoin_82 : decode cX5_takeJoin 82 = .ok (.iaload, 1) := by decide +kernel
theorem dX5_takeJoin_83 : decode cX5_takeJoin 83 = .ok (.aload_n 0, 1) := by decide +kernel
theorem dX5_takeJoin_84 : decode cX5_takeJoin 84 = .ok (.getfield 15, 3) := by decide +kernel
theorem dX5_takeJoin_87 : decode cX5_takeJoin 87 = .ok (.iconst 3, 1) := by decide +kernel
theorem dX5_takeJoin_88 : decode cX5_takeJoin 88 = .ok (.iaload, 1) := by decide +kernel
theorem dX5_takeJoin_89 : decode cX5_takeJoin 89 = .ok (.invokevirtual 85, 3) := by decide +kernel
theorem dX5_takeJoin_92 : decode cX5_takeJoin 92 = .ok (.iconst 1, 1) := by decide +kernel
theorem dX5_takeJoin_93 : decode cX5_takeJoin 93 = .ok (.ireturn, 1) := by decide +kernel
theorem dX5_isWeight_0 : decode cX5_isWeight 0 = .ok (.iload_n 1, 1) := by decide +kernel
theorem dX5_isWeight_1 : decode cX5_isWeight 1 = .ok (.iconst 1, 1) := by decide +kernel
theorem dX5_isWeight_2 : decode cX5_isWeight 2 = .ok (.if_icmp .lt 12, 3) := by decide +kernel
theorem dX5_isWeight_5 : decode cX5_isWeight 5 = .ok (.iload_n 1, 1) := by decide +kernel
theorem dX5_isWeight_6 : decode cX5_isWeight 6 = .ok (.iconst 4, 1) := by decide +kernel
theorem dX5_isWeight_7 : decode cX5_isWeight 7 = .ok (.if_icmp .gt 7, 3) := by decide +kernel
theorem dX5_isWeight_10 : decode cX5_isWeight 10 = .ok (.iconst 1, 1) := by decide +kernel
theorem dX5_isWeight_11 : decode cX5_isWeight 11 = .ok (.goto 4, 3) := by decide +kernel
theorem dX5_isWeight_14 : decode cX5_isWeight 14 = .ok (.iconst 0, 1) := by decide +kernel
theorem dX5_isWeight_15 : decode cX5_isWeight 15 = .ok (.ireturn, 1) := by decide +kernel
theorem dX5_takeCellNumber_0 : decode cX5_takeCellNumber 0 = .ok (.aload_n 0, 1) := by decide +kernel
theorem dX5_takeCellNumber_1 : decode cX5_takeCellNumber 1 = .ok (.getfield 15, 3) := by decide +kernel
theorem dX5_takeCellNumber_4 : decode cX5_takeCellNumber 4 = .ok (.iconst 0, 1) := by decide +kernel
theorem dX5_takeCellNumber_5 : decode cX5_takeCellNumber 5 = .ok (.iaload, 1) := by decide +kernel
theorem dX5_takeCellNumber_6 : decode cX5_takeCellNumber 6 = .ok (.aload_n 1, 1) := by decide +kernel
theorem dX5_takeCellNumber_7 : decode cX5_takeCellNumber 7 = .ok (.getfield 43, 3) := by decide +kernel
theorem dX5_takeCellNumber_10 : decode cX5_takeCellNumber 10 = .ok (.if_icmp .ge 13, 3) := by decide +kernel
theorem dX5_takeCellNumber_13 : decode cX5_takeCellNumber 13 = .ok (.aload_n 0, 1) := by decide +kernel
theorem dX5_takeCellNumber_14 : decode cX5_takeCellNumber 14 = .ok (.getfield 15, 3) := by decide +kernel
theorem dX5_takeCellNumber_17 : decode cX5_takeCellNumber 17 = .ok (.iconst 1, 1) := by decide +kernel
theorem dX5_takeCellNumber_18 : decode cX5_takeCellNumber 18 = .ok (.iaload, 1) := by decide +kernel
theorem dX5_takeCellNumber_19 : decode cX5_takeCellNumber 19 = .ok (.iload_n 3, 1) := by decide +kernel
theorem dX5_takeCellNumber_20 : decode cX5_takeCellNumber 20 = .ok (.if_icmp .le 5, 3) := by decide +kernel
theorem dX5_takeCellNumber_23 : decode cX5_takeCellNumber 23 = .ok (.iconst 0, 1) := by decide +kernel
theorem dX5_takeCellNumber_24 : decode cX5_takeCellNumber 24 = .ok (.ireturn, 1) := by decide +kernel
theorem dX5_takeCellNumber_25 : decode cX5_takeCellNumber 25 = .ok (.aload_n 2, 1) := by decide +kernel
theorem dX5_takeCellNumber_26 : decode cX5_takeCellNumber 26 = .ok (.aload_n 0, 1) := by decide +kernel
theorem dX5_takeCellNumber_27 : decode cX5_takeCellNumber 27 = .ok (.getfield 15, 3) := by decide +kernel
theorem dX5_takeCellNumber_30 : decode cX5_takeCellNumber 30 = .ok (.iconst 0, 1) := by decide +kernel
theorem dX5_takeCellNumber_31 : decode cX5_takeCellNumber 31 = .ok (.iaload, 1) := by decide +kernel
theorem dX5_takeCellNumber_32 : decode cX5_takeCellNumber 32 = .ok (.aload_n 0, 1) := by decide +kernel
theorem dX5_takeCellNumber_33 : decode cX5_takeCellNumber 33 = .ok (.getfield 15, 3) := by decide +kernel
theorem dX5_takeCellNumber_36 : decode cX5_takeCellNumber 36 = .ok (.iconst 1, 1) := by decide +kernel
theorem dX5_takeCellNumber_37 : decode cX5_takeCellNumber 37 = .ok (.iaload, 1) := by decide +kernel
theorem dX5_takeCellNumber_38 : decode cX5_takeCellNumber 38 = .ok (.iastore, 1) := by decide +kernel
theorem dX5_takeCellNumber_39 : decode cX5_takeCellNumber 39 = .ok (.iconst 1, 1) := by decide +kernel
theorem dX5_takeCellNumber_40 : decode cX5_takeCellNumber 40 = .ok (.ireturn, 1) := by decide +kernel
set_option maxRecDepth 20000 in
theorem ggX5_takeLaw_X7_isLaw : GoodIn wsX5_takeLaw wsX7_isLaw := goodIn_r _ [6] (by decide +kernel) (by decide +kernel)
set_option maxRecDepth 20000 in
theorem gX5_takeLaw_X7_isLaw_n89 : GoodIn wsX5_takeLaw (wsX7_isLaw) := ggX5_takeLaw_X7_isLaw
theorem dX5_takeLaw_0 : decode cX5_takeLaw 0 = .ok (.aload_n 0, 1) := by decide +kernel
theorem dX5_takeLaw_1 : decode cX5_takeLaw 1 = .ok (.getfield 15, 3) := by decide +kernel
theorem dX5_takeLaw_4 : decode cX5_takeLaw 4 = .ok (.iconst 0, 1) := by decide +kernel
theorem dX5_takeLaw_5 : decode cX5_takeLaw 5 = .ok (.iaload, 1) := by decide +kernel
theorem dX5_takeLaw_6 : decode cX5_takeLaw 6 = .ok (.aload_n 0, 1) := by decide +kernel
theorem dX5_takeLaw_7 : decode cX5_takeLaw 7 = .ok (.getfield 15, 3) := by decide +kernel
theorem dX5_takeLaw_10 : decode cX5_takeLaw 10 = .ok (.iconst 1, 1) := by decide +kernel
theorem dX5_takeLaw_11 : decode cX5_takeLaw 11 = .ok (.iaload, 1) := by decide +kernel
theorem dX5_takeLaw_12 : decode cX5_takeLaw 12 = .ok (.invokestatic 89, 3) := by decide +kernel
theorem dX5_takeLaw_15 : decode cX5_takeLaw 15 = .ok (.ifCond .ne 5, 3) := by decide +kernel
theorem dX5_takeLaw_18 : decode cX5_takeLaw 18 = .ok (.iconst 0, 1) := by decide +kernel
theorem dX5_takeLaw_19 : decode cX5_takeLaw 19 = .ok (.ireturn, 1) := by decide +kernel
theorem dX5_takeLaw_20 : decode cX5_takeLaw 20 = .ok (.aload_n 1, 1) := by decide +kernel
theorem dX5_takeLaw_21 : decode cX5_takeLaw 21 = .ok (.aload_n 0, 1) := by decide +kernel
theorem dX5_takeLaw_22 : decode cX5_takeLaw 22 = .ok (.getfield 15, 3) := by decide +kernel
theorem dX5_takeLaw_25 : decode cX5_takeLaw 25 = .ok (.iconst 0, 1) := by decide +kernel
theorem dX5_takeLaw_26 : decode cX5_takeLaw 26 = .ok (.iaload, 1) := by decide +kernel
theorem dX5_takeLaw_27 : decode cX5_takeLaw 27 = .ok (.putfield 93, 3) := by decide +kernel
theorem dX5_takeLaw_30 : decode cX5_takeLaw 30 = .ok (.aload_n 1, 1) := by decide +kernel
theorem dX5_takeLaw_31 : decode cX5_takeLaw 31 = .ok (.aload_n 0, 1) := by decide +kernel
theorem dX5_takeLaw_32 : decode cX5_takeLaw 32 = .ok (.getfield 15, 3) := by decide +kernel
theorem dX5_takeLaw_35 : decode cX5_takeLaw 35 = .ok (.iconst 1, 1) := by decide +kernel
theorem dX5_takeLaw_36 : decode cX5_takeLaw 36 = .ok (.iaload, 1) := by decide +kernel
theorem dX5_takeLaw_37 : decode cX5_takeLaw 37 = .ok (.putfield 96, 3) := by decide +kernel
theorem dX5_takeLaw_40 : decode cX5_takeLaw 40 = .ok (.iconst 1, 1) := by decide +kernel
theorem dX5_takeLaw_41 : decode cX5_takeLaw 41 = .ok (.ireturn, 1) := by decide +kernel
set_option maxRecDepth 20000 in
theorem ggX5_takePrices_X1_price : GoodIn wsX5_takePrices wsX1_price := goodIn_r _ [6, 7, 8, 9, 10, 15, 16, 17, 18, 19, 20, 21, 22, 23, 24, 25, 26] (by decide +kernel) (by decide +kernel)
set_option maxRecDepth 20000 in
theorem gX5_takePrices_X1_price : GoodIn wsX5_takePrices (wsV RX5 99 RX1 yX1_price wsX1_price) := goodIn_app (goodIn_of _ (by decide +kernel)) ggX5_takePrices_X1_price
theorem dX5_takePrices_0 : decode cX5_takePrices 0 = .ok (.aload_n 0, 1) := by decide +kernel
theorem dX5_takePrices_1 : decode cX5_takePrices 1 = .ok (.getfield 15, 3) := by decide +kernel
theorem dX5_takePrices_4 : decode cX5_takePrices 4 = .ok (.iconst 0, 1) := by decide +kernel
theorem dX5_takePrices_5 : decode cX5_takePrices 5 = .ok (.iaload, 1) := by decide +kernel
theorem dX5_takePrices_6 : decode cX5_takePrices 6 = .ok (.iconst 1, 1) := by decide +kernel
theorem dX5_takePrices_7 : decode cX5_takePrices 7 = .ok (.if_icmp .lt 13, 3) := by decide +kernel
theorem dX5_takePrices_10 : decode cX5_takePrices 10 = .ok (.aload_n 0, 1) := by decide +kernel
theorem dX5_takePrices_11 : decode cX5_takePrices 11 = .ok (.getfield 15, 3) := by decide +kernel
theorem dX5_takePrices_14 : decode cX5_takePrices 14 = .ok (.iconst 0, 1) := by decide +kernel
theorem dX5_takePrices_15 : decode cX5_takePrices 15 = .ok (.iaload, 1) := by decide +kernel
theorem dX5_takePrices_16 : decode cX5_takePrices 16 = .ok (.iconst 4, 1) := by decide +kernel
theorem dX5_takePrices_17 : decode cX5_takePrices 17 = .ok (.if_icmp .le 5, 3) := by decide +kernel
theorem dX5_takePrices_20 : decode cX5_takePrices 20 = .ok (.iconst 0, 1) := by decide +kernel
theorem dX5_takePrices_21 : decode cX5_takePrices 21 = .ok (.ireturn, 1) := by decide +kernel
theorem dX5_takePrices_22 : decode cX5_takePrices 22 = .ok (.aload_n 1, 1) := by decide +kernel
theorem dX5_takePrices_23 : decode cX5_takePrices 23 = .ok (.aload_n 0, 1) := by decide +kernel
theorem dX5_takePrices_24 : decode cX5_takePrices 24 = .ok (.getfield 15, 3) := by decide +kernel
theorem dX5_takePrices_27 : decode cX5_takePrices 27 = .ok (.iconst 0, 1) := by decide +kernel
theorem dX5_takePrices_28 : decode cX5_takePrices 28 = .ok (.iaload, 1) := by decide +kernel
theorem dX5_takePrices_29 : decode cX5_takePrices 29 = .ok (.aload_n 0, 1) := by decide +kernel
theorem dX5_takePrices_30 : decode cX5_takePrices 30 = .ok (.getfield 15, 3) := by decide +kernel
theorem dX5_takePrices_33 : decode cX5_takePrices 33 = .ok (.iconst 1, 1) := by decide +kernel
theorem dX5_takePrices_34 : decode cX5_takePrices 34 = .ok (.iaload, 1) := by decide +kernel
theorem dX5_takePrices_35 : decode cX5_takePrices 35 = .ok (.aload_n 0, 1) := by decide +kernel
theorem dX5_takePrices_36 : decode cX5_takePrices 36 = .ok (.getfield 15, 3) := by decide +kernel
theorem dX5_takePrices_39 : decode cX5_takePrices 39 = .ok (.iconst 2, 1) := by decide +kernel
theorem dX5_takePrices_40 : decode cX5_takePrices 40 = .ok (.iaload, 1) := by decide +kernel
theorem dX5_takePrices_41 : decode cX5_takePrices 41 = .ok (.aload_n 0, 1) := by decide +kernel
theorem dX5_takePrices_42 : decode cX5_takePrices 42 = .ok (.getfield 15, 3) := by decide +kernel
theorem dX5_takePrices_45 : decode cX5_takePrices 45 = .ok (.iconst 3, 1) := by decide +kernel
theorem dX5_takePrices_46 : decode cX5_takePrices 46 = .ok (.iaload, 1) := by decide +kernel
theorem dX5_takePrices_47 : decode cX5_takePrices 47 = .ok (.invokevirtual 99, 3) := by decide +kernel
theorem dX5_takePrices_50 : decode cX5_takePrices 50 = .ok (.iconst 1, 1) := by decide +kernel
theorem dX5_takePrices_51 : decode cX5_takePrices 51 = .ok (.ireturn, 1) := by decide +kernel
set_option maxRecDepth 20000 in
theorem ggX5_readNumbers_X5_readNumber : GoodIn wsX5_readNumbers wsX5_readNumber := goodIn_r _ [7, 2, 8, 9, 10, 6, 11, 12, 13, 18, 19, 20, 21] (by decide +kernel) (by decide +kernel)
set_option maxRecDepth 20000 in
theorem gX5_readNumbers_X5_readNumber : GoodIn wsX5_readNumbers (wsV RX5 102 RX5 yX5_readNumber wsX5_readNumber) := goodIn_app (goodIn_of _ (by decide +kernel)) ggX5_readNumbers_X5_readNumber
set_option maxRecDepth 20000 in
theorem ggX5_readNumbers_X5_letterHere : GoodIn wsX5_readNumbers wsX5_letterHere := goodIn_r _ [17, 2, 12, 13, 18, 19, 20, 21] (by decide +kernel) (by decide +kernel)
set_option maxRecDepth 20000 in
theorem gX5_readNumbers_X5_letterHere : GoodIn wsX5_readNumbers (wsV RX5 39 RX5 yX5_letterHere wsX5_letterHere) := goodIn_app (goodIn_of _ (by decide +kernel)) ggX5_readNumbers_X5_letterHere
theorem dX5_readNumbers_0 : decode cX5_readNumbers 0 = .ok (.iconst 0, 1) := by decide +kernel
theorem dX5_readNumbers_1 : decode cX5_readNumbers 1 = .ok (.istore_n 2, 1) := by decide +kernel
theorem dX5_readNumbers_2 : decode cX5_readNumbers 2 = .ok (.iload_n 2, 1) := by decide +kernel
theorem dX5_readNumbers_3 : decode cX5_readNumbers 3 = .ok (.iload_n 1, 1) := by decide +kernel
theorem dX5_readNumbers_4 : decode cX5_readNumbers 4 = .ok (.if_icmp .ge 66, 3) := by decide +kernel
theorem dX5_readNumbers_7 : decode cX5_readNumbers 7 = .ok (.iload_n 2, 1) := by decide +kernel
theorem dX5_readNumbers_8 : decode cX5_readNumbers 8 = .ok (.iconst 4, 1) := by decide +kernel
theorem dX5_readNumbers_9 : decode cX5_readNumbers 9 = .ok (.if_icmp .ge 61, 3) := by decide +kernel
theorem dX5_readNumbers_12 : decode cX5_readNumbers 12 = .ok (.aload_n 0, 1) := by decide +kernel
theorem dX5_readNumbers_13 : decode cX5_readNumbers 13 = .ok (.getfield 15, 3) := by decide +kernel
theorem dX5_readNumbers_16 : decode cX5_readNumbers 16 = .ok (.iload_n 2, 1) := by decide +kernel
theorem dX5_readNumbers_17 : decode cX5_readNumbers 17 = .ok (.aload_n 0, 1) := by decide +kernel
theorem dX5_readNumbers_18 : decode cX5_readNumbers 18 = .ok (.invokevirtual 102, 3) := by decide +kernel
theorem dX5_readNumbers_21 : decode cX5_readNumbers 21 = .ok (.iastore, 1) := by decide +kernel
theorem dX5_readNumbers_22 : decode cX5_readNumbers 22 = .ok (.aload_n 0, 1) := by decide +kernel
theorem dX5_readNumbers_23 : decode cX5_readNumbers 23 = .ok (.getfield 15, 3) := by decide +kernel
theorem dX5_readNumbers_26 : decode cX5_readNumbers 26 = .ok (.iload_n 2, 1) := by decide +kernel
theorem dX5_readNumbers_27 : decode cX5_readNumbers 27 = .ok (.iaload, 1) := by decide +kernel
theorem dX5_readNumbers_28 : decode cX5_readNumbers 28 = .ok (.ifCond .lt 24, 3) := by decide +kernel
theorem dX5_readNumbers_31 : decode cX5_readNumbers 31 = .ok (.aload_n 0, 1) := by decide +kernel
theorem dX5_readNumbers_32 : decode cX5_readNumbers 32 = .ok (.invokevirtual 39, 3) := by decide +kernel
theorem dX5_readNumbers_35 : decode cX5_readNumbers 35 = .ok (.iload_n 2, 1) := by decide +kernel
theorem dX5_readNumbers_36 : decode cX5_readNumbers 36 = .ok (.iconst 1, 1) := by decide +kernel
theorem dX5_readNumbers_37 : decode cX5_readNumbers 37 = .ok (.iadd, 1) := by decide +kernel
theorem dX5_readNumbers_38 : decode cX5_readNumbers 38 = .ok (.iload_n 1, 1) := by decide +kernel
theorem dX5_readNumbers_39 : decode cX5_readNumbers 39 = .ok (.if_icmp .ge 8, 3) := by decide +kernel
theorem dX5_readNumbers_42 : decode cX5_readNumbers 42 = .ok (.bipush 44, 2) := by decide +kernel
theorem dX5_readNumbers_44 : decode cX5_readNumbers 44 = .ok (.goto 5, 3) := by decide +kernel
theorem dX5_readNumbers_47 : decode cX5_readNumbers 47 = .ok (.bipush 59, 2) := by decide +kernel
theorem dX5_readNumbers_49 : decode cX5_readNumbers 49 = .ok (.if_icmp .eq 5, 3) := by decide +kernel
theorem dX5_readNumbers_52 : decode cX5_readNumbers 52 = .ok (.iconst 0, 1) := by decide +kernel
theorem dX5_readNumbers_53 : decode cX5_readNumbers 53 = .ok (.ireturn, 1) := by decide +kernel
theorem dX5_readNumbers_54 : decode cX5_readNumbers 54 = .ok (.aload_n 0, 1) := by decide +kernel
theorem dX5_readNumbers_55 : decode cX5_readNumbers 55 = .ok (.dup, 1) := by decide +kernel
theorem dX5_readNumbers_56 : decode cX5_readNumbers 56 = .ok (.getfield 32, 3) := by decide +kernel
theorem dX5_readNumbers_59 : decode cX5_readNumbers 59 = .ok (.iconst 1, 1) := by decide +kernel
theorem dX5_readNumbers_60 : decode cX5_readNumbers 60 = .ok (.iadd, 1) := by decide +kernel
theorem dX5_readNumbers_61 : decode cX5_readNumbers 61 = .ok (.putfield 32, 3) := by decide +kernel
theorem dX5_readNumbers_64 : decode cX5_readNumbers 64 = .ok (.iinc 2 1, 3) := by decide +kernel
theorem dX5_readNumbers_67 : decode cX5_readNumbers 67 = .ok (.goto (-65), 3) := by decide +kernel
theorem dX5_readNumbers_70 : decode cX5_readNumbers 70 = .ok (.iload_n 1, 1) := by decide +kernel
theorem dX5_readNumbers_71 : decode cX5_readNumbers 71 = .ok (.ifCond .le 7, 3) := by decide +kernel
theorem dX5_readNumbers_74 : decode cX5_readNumbers 74 = .ok (.iconst 1, 1) := by decide +kernel
theorem dX5_readNumbers_75 : decode cX5_readNumbers 75 = .ok (.goto 4, 3) := by decide +kernel
theorem dX5_readNumbers_78 : decode cX5_readNumbers 78 = .ok (.iconst 0, 1) := by decide +kernel
theorem dX5_readNumbers_79 : decode cX5_readNumbers 79 = .ok (.ireturn, 1) := by decide +kernel
set_option maxRecDepth 20000 in
theorem ggX5_readNumber_X5_figureHere : GoodIn wsX5_readNumber wsX5_figureHere := goodIn_r _ [6, 1, 7, 8, 9, 10, 11, 12] (by decide +kernel) (by decide +kernel)
set_option maxRecDepth 20000 in
theorem gX5_readNumber_X5_figureHere : GoodIn wsX5_readNumber (wsV RX5 105 RX5 yX5_figureHere wsX5_figureHere) := goodIn_app (goodIn_of _ (by decide +kernel)) ggX5_readNumber_X5_figureHere
theorem dX5_readNumber_0 : decode cX5_readNumber 0 = .ok (.aload_n 0, 1) := by decide +kernel
theorem dX5_readNumber_1 : decode cX5_readNumber 1 = .ok (.invokevirtual 105, 3) := by decide +kernel
theorem dX5_readNumber_4 : decode cX5_readNumber 4 = .ok (.istore_n 1, 1) := by decide +kernel
theorem dX5_readNumber_5 : decode cX5_readNumber 5 = .ok (.iload_n 1, 1) := by decide +kernel
theorem dX5_readNumber_6 : decode cX5_readNumber 6 = .ok (.ifCond .ge 5, 3) := by decide +kernel
theorem dX5_readNumber_9 : decode cX5_readNumber 9 = .ok (.iconst (-1), 1) := by decide +kernel
theorem dX5_readNumber_10 : decode cX5_readNumber 10 = .ok (.ireturn, 1) := by decide +kernel
theorem dX5_readNumber_11 : decode cX5_readNumber 11 = .ok (.aload_n 0, 1) := by decide +kernel
theorem dX5_readNumber_12 : decode cX5_readNumber 12 = .ok (.dup, 1) := by decide +kernel
theorem dX5_readNumber_13 : decode cX5_readNumber 13 = .ok (.getfield 32, 3) := by decide +kernel
theorem dX5_readNumber_16 : decode cX5_readNumber 16 = .ok (.iconst 1, 1) := by decide +kernel
theorem dX5_readNumber_17 : decode cX5_readNumber 17 = .ok (.iadd, 1) := by decide +kernel
theorem dX5_readNumber_18 : decode cX5_readNumber 18 = .ok (.putfield 32, 3) := by decide +kernel
theorem dX5_readNumber_21 : decode cX5_readNumber 21 = .ok (.aload_n 0, 1) := by decide +kernel
theorem dX5_readNumber_22 : decode cX5_readNumber 22 = .ok (.invokevirtual 105, 3) := by decide +kernel
theorem dX5_readNumber_25 : decode cX5_readNumber 25 = .ok (.istore_n 2, 1) := by decide +kernel
theorem dX5_readNumber_26 : decode cX5_readNumber 26 = .ok (.iload_n 2, 1) := by decide +kernel
theorem dX5_readNumber_27 : decode cX5_readNumber 27 = .ok (.ifCond .ge 5, 3) := by decide +kernel
theorem dX5_readNumber_30 : decode cX5_readNumber 30 = .ok (.iload_n 1, 1) := by decide +kernel
theorem dX5_readNumber_31 : decode cX5_readNumber 31 = .ok (.ireturn, 1) := by decide +kernel
theorem dX5_readNumber_32 : decode cX5_readNumber 32 = .ok (.aload_n 0, 1) := by decide +kernel
theorem dX5_readNumber_33 : decode cX5_readNumber 33 = .ok (.dup, 1) := by decide +kernel
theorem dX5_readNumber_34 : decode cX5_readNumber 34 = .ok (.getfield 32, 3) := by decide +kernel
theorem dX5_readNumber_37 : decode cX5_readNumber 37 = .ok (.iconst 1, 1) := by decide +kernel
theorem dX5_readNumber_38 : decode cX5_readNumber 38 = .ok (.iadd, 1) := by decide +kernel
theorem dX5_readNumber_39 : decode cX5_readNumber 39 = .ok (.putfield 32, 3) := by decide +kernel
theorem dX5_readNumber_42 : decode cX5_readNumber 42 = .ok (.bipush 10, 2) := by decide +kernel
theorem dX5_readNumber_44 : decode cX5_readNumber 44 = .ok (.iload_n 1, 1) := by decide +kernel
theorem dX5_readNumber_45 : decode cX5_readNumber 45 = .ok (.imul, 1) := by decide +kernel
theorem dX5_readNumber_46 : decode cX5_readNumber 46 = .ok (.iload_n 2, 1) := by decide +kernel
theorem dX5_readNumber_47 : decode cX5_readNumber 47 = .ok (.iadd, 1) := by decide +kernel
theorem dX5_readNumber_48 : decode cX5_readNumber 48 = .ok (.ireturn, 1) := by decide +kernel
theorem dX5_figureHere_0 : decode cX5_figureHere 0 = .ok (.aload_n 0, 1) := by decide +kernel
theorem dX5_figureHere_1 : decode cX5_figureHere 1 = .ok (.getfield 32, 3) := by decide +kernel
theorem dX5_figureHere_4 : decode cX5_figureHere 4 = .ok (.aload_n 0, 1) := by decide +kernel
theorem dX5_figureHere_5 : decode cX5_figureHere 5 = .ok (.getfield 18, 3) := by decide +kernel
theorem dX5_figureHere_8 : decode cX5_figureHere 8 = .ok (.if_icmp .ge 35, 3) := by decide +kernel
theorem dX5_figureHere_11 : decode cX5_figureHere 11 = .ok (.aload_n 0, 1) := by decide +kernel
theorem dX5_figureHere_12 : decode cX5_figureHere 12 = .ok (.getfield 9, 3) := by decide +kernel
theorem dX5_figureHere_15 : decode cX5_figureHere 15 = .ok (.aload_n 0, 1) := by decide +kernel
theorem dX5_figureHere_16 : decode cX5_figureHere 16 = .ok (.getfield 32, 3) := by decide +kernel
theorem dX5_figureHere_19 : decode cX5_figureHere 19 = .ok (.iaload, 1) := by decide +kernel
theorem dX5_figureHere_20 : decode cX5_figureHere 20 = .ok (.bipush 48, 2) := by decide +kernel
theorem dX5_figureHere_22 : decode cX5_figureHere 22 = .ok (.if_icmp .lt 21, 3) := by decide +kernel
theorem dX5_figureHere_25 : decode cX5_figureHere 25 = .ok (.aload_n 0, 1) := by decide +kernel
theorem dX5_figureHere_26 : decode cX5_figureHere 26 = .ok (.getfield 9, 3) := by decide +kernel
theorem dX5_figureHere_29 : decode cX5_figureHere 29 = .ok (.aload_n 0, 1) := by decide +kernel
theorem dX5_figureHere_30 : decode cX5_figureHere 30 = .ok (.getfield 32, 3) := by decide +kernel
theorem dX5_figureHere_33 : decode cX5_figureHere 33 = .ok (.iaload, 1) := by decide +kernel
theorem dX5_figureHere_34 : decode cX5_figureHere 34 = .ok (.bipush 57, 2) := by decide +kernel
theorem dX5_figureHere_36 : decode cX5_figureHere 36 = .ok (.if_icmp .gt 7, 3) := by decide +kernel
theorem dX5_figureHere_39 : decode cX5_figureHere 39 = .ok (.iconst 1, 1) := by decide +kernel
theorem dX5_figureHere_40 : decode cX5_figureHere 40 = .ok (.goto 4, 3) := by decide +kernel
theorem dX5_figureHere_43 : decode cX5_figureHere 43 = .ok (.iconst 0, 1) := by decide +kernel
theorem dX5_figureHere_44 : decode cX5_figureHere 44 = .ok (.istore_n 1, 1) := by decide +kernel
theorem dX5_figureHere_45 : decode cX5_figureHere 45 = .ok (.iload_n 1, 1) := by decide +kernel
theorem dX5_figureHere_46 : decode cX5_figureHere 46 = .ok (.ifCond .eq 18, 3) := by decide +kernel
theorem dX5_figureHere_49 : decode cX5_figureHere 49 = .ok (.aload_n 0, 1) := by decide +kernel
theorem dX5_figureHere_50 : decode cX5_figureHere 50 = .ok (.getfield 9, 3) := by decide +kernel
theorem dX5_figureHere_53 : decode cX5_figureHere 53 = .ok (.aload_n 0, 1) := by decide +kernel
theorem dX5_figureHere_54 : decode cX5_figureHere 54 = .ok (.getfield 32, 3) := by decide +kernel
theorem dX5_figureHere_57 : decode cX5_figureHere 57 = .ok (.iaload, 1) := by decide +kernel
theorem dX5_figureHere_58 : decode cX5_figureHere 58 = .ok (.bipush 48, 2) := by decide +kernel
theorem dX5_figureHere_60 : decode cX5_figureHere 60 = .ok (.isub, 1) := by decide +kernel
theorem dX5_figureHere_61 : decode cX5_figureHere 61 = .ok (.goto 4, 3) := by decide +kernel
theorem dX5_figureHere_64 : decode cX5_figureHere 64 = .ok (.iconst (-1), 1) := by decide +kernel
theorem dX5_figureHere_65 : decode cX5_figureHere 65 = .ok (.ireturn, 1) := by decide +kernel
theorem dX5_letterHere_0 : decode cX5_letterHere 0 = .ok (.aload_n 0, 1) := by decide +kernel
theorem dX5_letterHere_1 : decode cX5_letterHere 1 = .ok (.getfield 32, 3) := by decide +kernel
theorem dX5_letterHere_4 : decode cX5_letterHere 4 = .ok (.aload_n 0, 1) := by decide +kernel
theorem dX5_letterHere_5 : decode cX5_letterHere 5 = .ok (.getfield 18, 3) := by decide +kernel
theorem dX5_letterHere_8 : decode cX5_letterHere 8 = .ok (.if_icmp .ge 15, 3) := by decide +kernel
theorem dX5_letterHere_11 : decode cX5_letterHere 11 = .ok (.aload_n 0, 1) := by decide +kernel
theorem dX5_letterHere_12 : decode cX5_letterHere 12 = .ok (.getfield 9, 3) := by decide +kernel
theorem dX5_letterHere_15 : decode cX5_letterHere 15 = .ok (.aload_n 0, 1) := by decide +kernel
theorem dX5_letterHere_16 : decode cX5_letterHere 16 = .ok (.getfield 32, 3) := by decide +kernel
theorem dX5_letterHere_19 : decode cX5_letterHere 19 = .ok (.iaload, 1) := by decide +kernel
theorem dX5_letterHere_20 : decode cX5_letterHere 20 = .ok (.goto 4, 3) := by decide +kernel
theorem dX5_letterHere_23 : decode cX5_letterHere 23 = .ok (.iconst (-1), 1) := by decide +kernel
theorem dX5_letterHere_24 : decode cX5_letterHere 24 = .ok (.ireturn, 1) := by decide +kernel
theorem dX6_init_0 : decode cX6_init 0 = .ok (.aload_n 0, 1) := by decide +kernel
theorem dX6_init_1 : decode cX6_init 1 = .ok (.invokespecial 3, 3) := by decide +kernel
theorem dX6_init_4 : decode cX6_init 4 = .ok (.aload_n 0, 1) := by decide +kernel
theorem dX6_init_5 : decode cX6_init 5 = .ok (.bipush 9, 2) := by decide +kernel
theorem dX6_init_7 : decode cX6_init 7 = .ok (.newarray .int, 2) := by decide +kernel
theorem dX6_init_9 : decode cX6_init 9 = .ok (.putfield 9, 3) := by decide +kernel
theorem dX6_init_12 : decode cX6_init 12 = .ok (.return_, 1) := by decide +kernel
set_option maxRecDepth 20000 in
theorem ggX6_find_X6_insideOf : GoodIn wsX6_find wsX6_insideOf := goodIn_r _ [14, 15, 16, 17, 18, 19, 20, 21, 22, 23, 24, 25, 54, 55, 56, 57, 58, 59, 60, 61, 62, 63, 64, 65, 43, 44, 45, 46, 47, 48, 49, 50, 51, 52] (by decide +kernel) (by decide +kernel)
set_option maxRecDepth 20000 in
theorem gX6_find_X6_insideOf : GoodIn wsX6_find (wsV RX6 30 RX6 yX6_insideOf wsX6_insideOf) := goodIn_app (goodIn_of _ (by decide +kernel)) ggX6_find_X6_insideOf
set_option maxRecDepth 20000 in
theorem ggX6_find_X6_step : GoodIn wsX6_find wsX6_step := goodIn_r _ [29, 1, 7, 30, 31, 32, 13, 33, 15, 34, 35, 36, 37, 38, 39, 40, 41, 42, 43, 44, 45, 46, 47, 48, 49, 50, 51, 52, 53, 54, 55, 56, 57, 58, 59, 60, 61, 62, 63, 64, 65] (by decide +kernel) (by decide +kernel)
set_option maxRecDepth 20000 in
theorem gX6_find_X6_step : GoodIn wsX6_find (wsV RX6 40 RX6 yX6_step wsX6_step) := goodIn_app (goodIn_of _ (by decide +kernel)) ggX6_find_X6_step
theorem dX6_find_0 : decode cX6_find 0 = .ok (.aload_n 2, 1) := by decide +kernel
theorem dX6_find_1 : decode cX6_find 1 = .ok (.getfield 15, 3) := by decide +kernel
theorem dX6_find_4 : decode cX6_find 4 = .ok (.iconst 1, 1) := by decide +kernel
theorem dX6_find_5 : decode cX6_find 5 = .ok (.if_icmp .ne 15, 3) := by decide +kernel
theorem dX6_find_8 : decode cX6_find 8 = .ok (.aload_n 2, 1) := by decide +kernel
theorem dX6_find_9 : decode cX6_find 9 = .ok (.getfield 21, 3) := by decide +kernel
theorem dX6_find_12 : decode cX6_find 12 = .ok (.bipush 9, 2) := by decide +kernel
theorem dX6_find_14 : decode cX6_find 14 = .ok (.invokestatic 24, 3) := by decide +kernel
theorem dX6_find_17 : decode cX6_find 17 = .ok (.goto 4, 3) := by decide +kernel
theorem dX6_find_20 : decode cX6_find 20 = .ok (.iconst 1, 1) := by decide +kernel
theorem dX6_find_21 : decode cX6_find 21 = .ok (.istore_n 3, 1) := by decide +kernel
theorem dX6_find_22 : decode cX6_find 22 = .ok (.aload_n 0, 1) := by decide +kernel
theorem dX6_find_23 : decode cX6_find 23 = .ok (.aload_n 1, 1) := by decide +kernel
theorem dX6_find_24 : decode cX6_find 24 = .ok (.aload_n 2, 1) := by decide +kernel
theorem dX6_find_25 : decode cX6_find 25 = .ok (.invokevirtual 30, 3) := by decide +kernel
theorem dX6_find_28 : decode cX6_find 28 = .ok (.istore 4, 2) := by decide +kernel
theorem dX6_find_30 : decode cX6_find 30 = .ok (.iconst 1, 1) := by decide +kernel
theorem dX6_find_31 : decode cX6_find 31 = .ok (.istore 5, 2) := by decide +kernel
theorem dX6_find_33 : decode cX6_find 33 = .ok (.iload 5, 2) := by decide +kernel
theorem dX6_find_35 : decode cX6_find 35 = .ok (.iload_n 3, 1) := by decide +kernel
theorem dX6_find_36 : decode cX6_find 36 = .ok (.if_icmp .ge 17, 3) := by decide +kernel
theorem dX6_find_39 : decode cX6_find 39 = .ok (.aload_n 0, 1) := by decide +kernel
theorem dX6_find_40 : decode cX6_find 40 = .ok (.getfield 9, 3) := by decide +kernel
theorem dX6_find_43 : decode cX6_find 43 = .ok (.iload 5, 2) := by decide +kernel
theorem dX6_find_45 : decode cX6_find 45 = .ok (.iconst 0, 1) := by decide +kernel
theorem dX6_find_46 : decode cX6_find 46 = .ok (.iastore, 1) := by decide +kernel
theorem dX6_find_47 : decode cX6_find 47 = .ok (.iinc 5 1, 3) := by decide +kernel
theorem dX6_find_50 : decode cX6_find 50 = .ok (.goto (-17), 3) := by decide +kernel
theorem dX6_find_53 : decode cX6_find 53 = .ok (.aload_n 0, 1) := by decide +kernel
theorem dX6_find_54 : decode cX6_find 54 = .ok (.getfield 9, 3) := by decide +kernel
theorem dX6_find_57 : decode cX6_find 57 = .ok (.iconst 0, 1) := by decide +kernel
theorem dX6_find_58 : decode cX6_find 58 = .ok (.iconst 1, 1) := by decide +kernel
theorem dX6_find_59 : decode cX6_find 59 = .ok (.aload_n 2, 1) := by decide +kernel
theorem dX6_find_60 : decode cX6_find 60 = .ok (.getfield 34, 3) := by decide +kernel
theorem dX6_find_63 : decode cX6_find 63 = .ok (.ishl, 1) := by decide +kernel
theorem dX6_find_64 : decode cX6_find 64 = .ok (.iastore, 1) := by decide +kernel
theorem dX6_find_65 : decode cX6_find 65 = .ok (.iconst 1, 1) := by decide +kernel
theorem dX6_find_66 : decode cX6_find 66 = .ok (.istore 5, 2) := by decide +kernel
theorem dX6_find_68 : decode cX6_find 68 = .ok (.iconst 0, 1) := by decide +kernel
theorem dX6_find_69 : decode cX6_find 69 = .ok (.istore 6, 2) := by decide +kernel
theorem dX6_find_71 : decode cX6_find 71 = .ok (.iload 6, 2) := by decide +kernel
theorem dX6_find_73 : decode cX6_find 73 = .ok (.aload_n 2, 1) := by decide +kernel
theorem dX6_find_74 : decode cX6_find 74 = .ok (.getfield 37, 3) := by decide +kernel
theorem dX6_find_77 : decode cX6_find 77 = .ok (.if_icmp .ge 25, 3) := by decide +kernel
theorem dX6_find_80 : decode cX6_find 80 = .ok (.iload 5, 2) := by decide +kernel
theorem dX6_find_82 : decode cX6_find 82 = .ok (.ifCond .eq 20, 3) := by decide +kernel
theorem dX6_find_85 : decode cX6_find 85 = .ok (.aload_n 0, 1) := by decide +kernel
theorem dX6_find_86 : decode cX6_find 86 = .ok (.aload_n 1, 1) := by decide +kernel
theorem dX6_find_87 : decode cX6_find 87 = .ok (.aload_n 2, 1) := by decide +kernel
theorem dX6_find_88 : decode cX6_find 88 = .ok (.iload_n 3, 1) := by decide +kernel
theorem dX6_find_89 : decode cX6_find 89 = .ok (.iload 4, 2) := by decide +kernel
theorem dX6_find_91 : decode cX6_find 91 = .ok (.invokevirtual 40, 3) := by decide +kernel
theorem dX6_find_94 : decode cX6_find 94 = .ok (.istore 5, 2) := by decide +kernel
theorem dX6_find_96 : decode cX6_find 96 = .ok (.iinc 6 1, 3) := by decide +kernel
theorem dX6_find_99 : decode cX6_find 99 = .ok (.goto (-28), 3) := by decide +kernel
theorem dX6_find_102 : decode cX6_find 102 = .ok (.iconst 0, 1) := by decide +kernel
theorem dX6_find_103 : decode cX6_find 103 = .ok (.istore 6, 2) := by decide +kernel
theorem dX6_find_105 : decode cX6_find 105 = .ok (.iconst 0, 1) := by decide +kernel
theorem dX6_find_106 : decode cX6_find 106 = .ok (.istore 7, 2) := by decide +kernel
theorem dX6_find_108 : decode cX6_find 108 = .ok (.iload 7, 2) := by decide +kernel
theorem dX6_find_110 : decode cX6_find 110 = .ok (.iload_n 3, 1) := by decide +kernel
theorem dX6_find_111 : decode cX6_find 111 = .ok (.if_icmp .ge 21, 3) := by decide +kernel
theorem dX6_find_114 : decode cX6_find 114 = .ok (.iload 6, 2) := by decide +kernel
theorem dX6_find_116 : decode cX6_find 116 = .ok (.aload_n 0, 1) := by decide +kernel
theorem dX6_find_117 : decode cX6_find 117 = .ok (.getfield 9, 3) := by decide +kernel
theorem dX6_find_120 : decode cX6_find 120 = .ok (.iload 7, 2) := by decide +kernel
theorem dX6_find_122 : decode cX6_find 122 = .ok (.iaload, 1) := by decide +kernel
theorem dX6_find_123 : decode cX6_find 123 = .ok (.ior, 1) := by decide +kernel
theorem dX6_find_124 : decode cX6_find 124 = .ok (.istore 6, 2) := by decide +kernel
theorem dX6_find_126 : decode cX6_find 126 = .ok (.iinc 7 1, 3) := by decide +kernel
theorem dX6_find_129 : decode cX6_find 129 = .ok (.goto (-21), 3) := by decide +kernel
theorem dX6_find_132 : decode cX6_find 132 = .ok (.iload 6, 2) := by decide +kernel
theorem dX6_find_134 : decode cX6_find 134 = .ok (.ireturn, 1) := by decide +kernel
set_option maxRecDepth 20000 in
theorem ggX6_insideOf_X4_isOutside : GoodIn wsX6_insideOf wsX4_isOutside := goodIn_r _ [6, 7, 8, 9, 10, 11, 24, 25, 26, 27, 28, 29, 30, 31, 32, 33, 12, 13, 14, 15, 16, 17, 18, 19, 20, 21, 22, 23] (by decide +kernel) (by decide +kernel)
set_option maxRecDepth 20000 in
theorem gX6_insideOf_X4_isOutside : GoodIn wsX6_insideOf (wsV RX6 49 RX4 yX4_isOutside wsX4_isOutside) := goodIn_app (goodIn_of _ (by decide +kernel)) ggX6_insideOf_X4_isOutside
theorem dX6_insideOf_0 : decode cX6_insideOf 0 = .ok (.iconst 0, 1) := by decide +kernel
theorem dX6_insideOf_1 : decode cX6_insideOf 1 = .ok (.istore_n 3, 1) := by decide +kernel
theorem dX6_insideOf_2 : decode cX6_insideOf 2 = .ok (.iconst 0, 1) := by decide +kernel
theorem dX6_insideOf_3 : decode cX6_insideOf 3 = .ok (.istore 4, 2) := by decide +kernel
theorem dX6_insideOf_5 : decode cX6_insideOf 5 = .ok (.iload 4, 2) := by decide +kernel
theorem dX6_insideOf_7 : decode cX6_insideOf 7 = .ok (.aload_n 1, 1) := by decide +kernel
theorem dX6_insideOf_8 : decode cX6_insideOf 8 = .ok (.getfield 44, 3) := by decide +kernel
theorem dX6_insideOf_11 : decode cX6_insideOf 11 = .ok (.if_icmp .ge 26, 3) := by decide +kernel
theorem dX6_insideOf_14 : decode cX6_insideOf 14 = .ok (.aload_n 2, 1) := by decide +kernel
theorem dX6_insideOf_15 : decode cX6_insideOf 15 = .ok (.aload_n 1, 1) := by decide +kernel
theorem dX6_insideOf_16 : decode cX6_insideOf 16 = .ok (.iload 4, 2) := by decide +kernel
theorem dX6_insideOf_18 : decode cX6_insideOf 18 = .ok (.invokevirtual 49, 3) := by decide +kernel
theorem dX6_insideOf_21 : decode cX6_insideOf 21 = .ok (.ifCond .ne 10, 3) := by decide +kernel
theorem dX6_insideOf_24 : decode cX6_insideOf 24 = .ok (.iload_n 3, 1) := by decide +kernel
theorem dX6_insideOf_25 : decode cX6_insideOf 25 = .ok (.iconst 1, 1) := by decide +kernel
theorem dX6_insideOf_26 : decode cX6_insideOf 26 = .ok (.iload 4, 2) := by decide +kernel
theorem dX6_insideOf_28 : decode cX6_insideOf 28 = .ok (.ishl, 1) := by decide +kernel
theorem dX6_insideOf_29 : decode cX6_insideOf 29 = .ok (.ior, 1) := by decide +kernel
theorem dX6_insideOf_30 : decode cX6_insideOf 30 = .ok (.istore_n 3, 1) := by decide +kernel
theorem dX6_insideOf_31 : decode cX6_insideOf 31 = .ok (.iinc 4 1, 3) := by decide +kernel
theorem dX6_insideOf_34 : decode cX6_insideOf 34 = .ok (.goto (-29), 3) := by decide +kernel
theorem dX6_insideOf_37 : decode cX6_insideOf 37 = .ok (.iload_n 3, 1) := by decide +kernel
theorem dX6_insideOf_38 : decode cX6_insideOf 38 = .ok (.ireturn, 1) := by decide +kernel
set_option maxRecDepth 20000 in
theorem ggX6_step_X6_movers : GoodIn wsX6_step wsX6_movers := goodIn_r _ [7, 8, 9, 10, 11, 12, 29, 30, 31, 32, 33, 34, 35, 36, 37, 38, 39, 40] (by decide +kernel) (by decide +kernel)
set_option maxRecDepth 20000 in
theorem gX6_step_X6_movers : GoodIn wsX6_step (wsV RX6 53 RX6 yX6_movers wsX6_movers) := goodIn_app (goodIn_of _ (by decide +kernel)) ggX6_step_X6_movers
set_option maxRecDepth 20000 in
theorem ggX6_step_X6_stayers : GoodIn wsX6_step wsX6_stayers := goodIn_r _ [16, 8, 17, 10, 11, 12, 29, 30, 31, 32, 33, 34, 35, 36, 37, 38, 39, 40, 18, 19, 20, 21, 22, 23, 24, 25, 26, 27] (by decide +kernel) (by decide +kernel)
set_option maxRecDepth 20000 in
theorem gX6_step_X6_stayers : GoodIn wsX6_step (wsV RX6 57 RX6 yX6_stayers wsX6_stayers) := goodIn_app (goodIn_of _ (by decide +kernel)) ggX6_step_X6_stayers
theorem dX6_step_0 : decode cX6_step 0 = .ok (.iconst 0, 1) := by decide +kernel
theorem dX6_step_1 : decode cX6_step 1 = .ok (.istore 5, 2) := by decide +kernel
theorem dX6_step_3 : decode cX6_step 3 = .ok (.iload_n 3, 1) := by decide +kernel
theorem dX6_step_4 : decode cX6_step 4 = .ok (.iconst 1, 1) := by decide +kernel
theorem dX6_step_5 : decode cX6_step 5 = .ok (.isub, 1) := by decide +kernel
theorem dX6_step_6 : decode cX6_step 6 = .ok (.istore 6, 2) := by decide +kernel
theorem dX6_step_8 : decode cX6_step 8 = .ok (.iload 6, 2) := by decide +kernel
theorem dX6_step_10 : decode cX6_step 10 = .ok (.ifCond .lt 109, 3) := by decide +kernel
theorem dX6_step_13 : decode cX6_step 13 = .ok (.aload_n 2, 1) := by decide +kernel
theorem dX6_step_14 : decode cX6_step 14 = .ok (.getfield 15, 3) := by decide +kernel
theorem dX6_step_17 : decode cX6_step 17 = .ok (.iconst 1, 1) := by decide +kernel
theorem dX6_step_18 : decode cX6_step 18 = .ok (.if_icmp .eq 18, 3) := by decide +kernel
theorem dX6_step_21 : decode cX6_step 21 = .ok (.aload_n 0, 1) := by decide +kernel
theorem dX6_step_22 : decode cX6_step 22 = .ok (.aload_n 1, 1) := by decide +kernel
theorem dX6_step_23 : decode cX6_step 23 = .ok (.aload_n 0, 1) := by decide +kernel
theorem dX6_step_24 : decode cX6_step 24 = .ok (.getfield 9, 3) := by decide +kernel
theorem dX6_step_27 : decode cX6_step 27 = .ok (.iload 6, 2) := by decide +kernel
theorem dX6_step_29 : decode cX6_step 29 = .ok (.iaload, 1) := by decide +kernel
theorem dX6_step_30 : decode cX6_step 30 = .ok (.invokevirtual 53, 3) := by decide +kernel
theorem dX6_step_33 : decode cX6_step 33 = .ok (.goto 26, 3) := by decide +kernel
theorem dX6_step_36 : decode cX6_step 36 = .ok (.iload 6, 2) := by decide +kernel
theorem dX6_step_38 : decode cX6_step 38 = .ok (.ifCond .le 20, 3) := by decide +kernel
theorem dX6_step_41 : decode cX6_step 41 = .ok (.aload_n 0, 1) := by decide +kernel
theorem dX6_step_42 : decode cX6_step 42 = .ok (.aload_n 1, 1) := by decide +kernel
theorem dX6_step_43 : decode cX6_step 43 = .ok (.aload_n 0, 1) := by decide +kernel
theorem dX6_step_44 : decode cX6_step 44 = .ok (.getfield 9, 3) := by decide +kernel
theorem dX6_step_47 : decode cX6_step 47 = .ok (.iload 6, 2) := by decide +kernel
theorem dX6_step_49 : decode cX6_step 49 = .ok (.iconst 1, 1) := by decide +kernel
theorem dX6_step_50 : decode cX6_step 50 = .ok (.isub, 1) := by decide +kernel
theorem dX6_step_51 : decode cX6_step 51 = .ok (.iaload, 1) := by decide +kernel
theorem dX6_step_52 : decode cX6_step 52 = .ok (.invokevirtual 53, 3) := by decide +kernel
theorem dX6_step_55 : decode cX6_step 55 = .ok (.goto 4, 3) := by decide +kernel
theorem dX6_step_58 : decode cX6_step 58 = .ok (.iconst 0, 1) := by decide +kernel
theorem dX6_step_59 : decode cX6_step 59 = .ok (.istore 7, 2) := by decide +kernel
theorem dX6_step_61 : decode cX6_step 61 = .ok (.aload_n 0, 1) := by decide +kernel
theorem dX6_step_62 : decode cX6_step 62 = .ok (.aload_n 1, 1) := by decide +kernel
theorem dX6_step_63 : decode cX6_step 63 = .ok (.aload_n 2, 1) := by decide +kernel
theorem dX6_step_64 : decode cX6_step 64 = .ok (.aload_n 0, 1) := by decide +kernel
theorem dX6_step_65 : decode cX6_step 65 = .ok (.getfield 9, 3) := by decide +kernel
theorem dX6_step_68 : decode cX6_step 68 = .ok (.iload 6, 2) := by decide +kernel
theorem dX6_step_70 : decode cX6_step 70 = .ok (.iaload, 1) := by decide +kernel
theorem dX6_step_71 : decode cX6_step 71 = .ok (.invokevirtual 57, 3) := by decide +kernel
theorem dX6_step_74 : decode cX6_step 74 = .ok (.iload 7, 2) := by decide +kernel
theorem dX6_step_76 : decode cX6_step 76 = .ok (.ior, 1) := by decide +kernel
theorem dX6_step_77 : decode cX6_step 77 = .ok (.iload 4, 2) := by decide +kernel
theorem dX6_step_79 : decode cX6_step 79 = .ok (.iand, 1) := by decide +kernel
theorem dX6_step_80 : decode cX6_step 80 = .ok (.istore 8, 2) := by decide +kernel
theorem dX6_step_82 : decode cX6_step 82 = .ok (.iload 5, 2) := by decide +kernel
theorem dX6_step_84 : decode cX6_step 84 = .ok (.iload 8, 2) := by decide +kernel
theorem dX6_step_86 : decode cX6_step 86 = .ok (.aload_n 0, 1) := by decide +kernel
theorem dX6_step_87 : decode cX6_step 87 = .ok (.getfield 9, 3) := by decide +kernel
theorem dX6_step_90 : decode cX6_step 90 = .ok (.iload 6, 2) := by decide +kernel
theorem dX6_step_92 : decode cX6_step 92 = .ok (.iaload, 1) := by decide +kernel
theorem dX6_step_93 : decode cX6_step 93 = .ok (.if_icmp .eq 7, 3) := by decide +kernel
theorem dX6_step_96 : decode cX6_step 96 = .ok (.iconst 1, 1) := by decide +kernel
theorem dX6_step_97 : decode cX6_step 97 = .ok (.goto 4, 3) := by decide +kernel
theorem dX6_step_100 : decode cX6_step 100 = .ok (.iconst 0, 1) := by decide +kernel
theorem dX6_step_101 : decode cX6_step 101 = .ok (.ior, 1) := by decide +kernel
theorem dX6_step_102 : decode cX6_step 102 = .ok (.istore 5, 2) := by decide +kernel
theorem dX6_step_104 : decode cX6_step 104 = .ok (.aload_n 0, 1) := by decide +kernel
theorem dX6_step_105 : decode cX6_step 105 = .ok (.getfield 9, 3) := by decide +kernel
theorem dX6_step_108 : decode cX6_step 108 = .ok (.iload 6, 2) := by decide +kernel
theorem dX6_step_110 : decode cX6_step 110 = .ok (.iload 8, 2) := by decide +kernel
theorem dX6_step_112 : decode cX6_step 112 = .ok (.iastore, 1) := by decide +kernel
theorem dX6_step_113 : decode cX6_step 113 = .ok (.iinc 6 (-1), 3) := by decide +kernel
theorem dX6_step_116 : decode cX6_step 116 = .ok (.goto (-108), 3) := by decide +kernel
theorem dX6_step_119 : decode cX6_step 119 = .ok (.iload 5, 2) := by decide +kernel
theorem dX6_step_121 : decode cX6_step 121 = .ok (.ireturn, 1) := by decide +kernel
set_option maxRecDepth 20000 in
theorem ggX6_stayers_X7_holds : GoodIn wsX6_stayers wsX7_holds := goodIn_r _ [5] (by decide +kernel) (by decide +kernel)
set_option maxRecDepth 20000 in
theorem gX6_stayers_X7_holds_n61 : GoodIn wsX6_stayers (wsX7_holds) := ggX6_stayers_X7_holds
theorem dX6_stayers_0 : decode cX6_stayers 0 = .ok (.iconst 0, 1) := by decide +kernel
theorem dX6_stayers_1 : decode cX6_stayers 1 = .ok (.istore 4, 2) := by decide +kernel
theorem dX6_stayers_3 : decode cX6_stayers 3 = .ok (.iconst 0, 1) := by decide +kernel
theorem dX6_stayers_4 : decode cX6_stayers 4 = .ok (.istore 5, 2) := by decide +kernel
theorem dX6_stayers_6 : decode cX6_stayers 6 = .ok (.iload 5, 2) := by decide +kernel
theorem dX6_stayers_8 : decode cX6_stayers 8 = .ok (.aload_n 1, 1) := by decide +kernel
theorem dX6_stayers_9 : decode cX6_stayers 9 = .ok (.getfield 44, 3) := by decide +kernel
theorem dX6_stayers_12 : decode cX6_stayers 12 = .ok (.if_icmp .ge 37, 3) := by decide +kernel
theorem dX6_stayers_15 : decode cX6_stayers 15 = .ok (.iload_n 3, 1) := by decide +kernel
theorem dX6_stayers_16 : decode cX6_stayers 16 = .ok (.iload 5, 2) := by decide +kernel
theorem dX6_stayers_18 : decode cX6_stayers 18 = .ok (.invokestatic 61, 3) := by decide +kernel
theorem dX6_stayers_21 : decode cX6_stayers 21 = .ok (.ifCond .eq 22, 3) := by decide +kernel
theorem dX6_stayers_24 : decode cX6_stayers 24 = .ok (.aload_n 2, 1) := by decide +kernel
theorem dX6_stayers_25 : decode cX6_stayers 25 = .ok (.getfield 65, 3) := by decide +kernel
theorem dX6_stayers_28 : decode cX6_stayers 28 = .ok (.iload 5, 2) := by decide +kernel
theorem dX6_stayers_30 : decode cX6_stayers 30 = .ok (.iaload, 1) := by decide +kernel
theorem dX6_stayers_31 : decode cX6_stayers 31 = .ok (.ifCond .le 12, 3) := by decide +kernel
theorem dX6_stayers_34 : decode cX6_stayers 34 = .ok (.iload 4, 2) := by decide +kernel
theorem dX6_stayers_36 : decode cX6_stayers 36 = .ok (.iconst 1, 1) := by decide +kernel
theorem dX6_stayers_37 : decode cX6_stayers 37 = .ok (.iload 5, 2) := by decide +kernel
theorem dX6_stayers_39 : decode cX6_stayers 39 = .ok (.ishl, 1) := by decide +kernel
theorem dX6_stayers_40 : decode cX6_stayers 40 = .ok (.ior, 1) := by decide +kernel
theorem dX6_stayers_41 : decode cX6_stayers 41 = .ok (.istore 4, 2) := by decide +kernel
theorem dX6_stayers_43 : decode cX6_stayers 43 = .ok (.iinc 5 1, 3) := by decide +kernel
theorem dX6_stayers_46 : decode cX6_stayers 46 = .ok (.goto (-40), 3) := by decide +kernel
theorem dX6_stayers_49 : decode cX6_stayers 49 = .ok (.iload 4, 2) := by decide +kernel
theorem dX6_stayers_51 : decode cX6_stayers 51 = .ok (.ireturn, 1) := by decide +kernel
set_option maxRecDepth 20000 in
theorem ggX6_movers_X7_holds : GoodIn wsX6_movers wsX7_holds := goodIn_r _ [5] (by decide +kernel) (by decide +kernel)
set_option maxRecDepth 20000 in
theorem gX6_movers_X7_holds_n61 : GoodIn wsX6_movers (wsX7_holds) := ggX6_movers_X7_holds
theorem dX6_movers_0 : decode cX6_movers 0 = .ok (.iconst 0, 1) := by decide +kernel
theorem dX6_movers_1 : decode cX6_movers 1 = .ok (.istore_n 3, 1) := by decide +kernel
theorem dX6_movers_2 : decode cX6_movers 2 = .ok (.iconst 0, 1) := by decide +kernel
theorem dX6_movers_3 : decode cX6_movers 3 = .ok (.istore 4, 2) := by decide +kernel
theorem dX6_movers_5 : decode cX6_movers 5 = .ok (.iload 4, 2) := by decide +kernel
theorem dX6_movers_7 : decode cX6_movers 7 = .ok (.aload_n 1, 1) := by decide +kernel
theorem dX6_movers_8 : decode cX6_movers 8 = .ok (.getfield 44, 3) := by decide +kernel
theorem dX6_movers_11 : decode cX6_movers 11 = .ok (.if_icmp .ge 28, 3) := by decide +kernel
theorem dX6_movers_14 : decode cX6_movers 14 = .ok (.iload_n 2, 1) := by decide +kernel
theorem dX6_movers_15 : decode cX6_movers 15 = .ok (.iload 4, 2) := by decide +kernel
theorem dX6_movers_17 : decode cX6_movers 17 = .ok (.invokestatic 61, 3) := by decide +kernel
theorem dX6_movers_20 : decode cX6_movers 20 = .ok (.ifCond .eq 13, 3) := by decide +kernel
theorem dX6_movers_23 : decode cX6_movers 23 = .ok (.iload_n 3, 1) := by decide +kernel
theorem dX6_movers_24 : decode cX6_movers 24 = .ok (.aload_n 1, 1) := by decide +kernel
theorem dX6_movers_25 : decode cX6_movers 25 = .ok (.getfield 68, 3) := by decide +kernel
theorem dX6_movers_28 : decode cX6_movers 28 = .ok (.iload 4, 2) := by decide +kernel
theorem dX6_movers_30 : decode cX6_movers 30 = .ok (.iaload, 1) := by decide +kernel
theorem dX6_movers_31 : decode cX6_movers 31 = .ok (.ior, 1) := by decide +kernel
theorem dX6_movers_32 : decode cX6_movers 32 = .ok (.istore_n 3, 1) := by decide +kernel
theorem dX6_movers_33 : decode cX6_movers 33 = .ok (.iinc 4 1, 3) := by decide +kernel
theorem dX6_movers_36 : decode cX6_movers 36 = .ok (.goto (-31), 3) := by decide +kernel
theorem dX6_movers_39 : decode cX6_movers 39 = .ok (.iload_n 3, 1) := by decide +kernel
theorem dX6_movers_40 : decode cX6_movers 40 = .ok (.ireturn, 1) := by decide +kernel
set_option maxRecDepth 20000 in
theorem ggX7_init_X5_init : GoodIn wsX7_init wsX5_init := goodIn_r _ [37, 38, 2, 3, 39, 40, 41, 281, 282, 283, 284] (by decide +kernel) (by decide +kernel)
set_option maxRecDepth 20000 in
theorem gX7_init_X5_init_n9 : GoodIn wsX7_init (wsX5_init) := ggX7_init_X5_init
set_option maxRecDepth 20000 in
theorem ggX7_init_X2_init : GoodIn wsX7_init wsX2_init := goodIn_r _ [44, 45, 2, 3, 46, 47, 25, 26, 48, 49, 50, 39, 51, 52, 295, 296, 297, 309, 310, 311, 312, 313, 314, 315, 316, 317, 318] (by decide +kernel) (by decide +kernel)
set_option maxRecDepth 20000 in
theorem gX7_init_X2_init : GoodIn wsX7_init (wsX2_init) := ggX7_init_X2_init
set_option maxRecDepth 20000 in
theorem ggX7_init_X0_init : GoodIn wsX7_init wsX0_init := goodIn_r _ [54, 55, 2, 3, 56, 57, 39, 58, 59, 298, 299, 300, 301, 302, 303] (by decide +kernel) (by decide +kernel)
set_option maxRecDepth 20000 in
theorem gX7_init_X0_init_n25 : GoodIn wsX7_init (wsX0_init) := ggX7_init_X0_init
set_option maxRecDepth 20000 in
theorem ggX7_init_X6_init : GoodIn wsX7_init wsX6_init := goodIn_r _ [61, 62, 2, 3, 39, 63, 304] (by decide +kernel) (by decide +kernel)
set_option maxRecDepth 20000 in
theorem gX7_init_X6_init_n32 : GoodIn wsX7_init (wsX6_init) := ggX7_init_X6_init
set_option maxRecDepth 20000 in
theorem ggX7_init_X3_init : GoodIn wsX7_init wsX3_init := goodIn_r _ [65, 66, 2, 3, 39, 67, 305, 306, 307, 308] (by decide +kernel) (by decide +kernel)
set_option maxRecDepth 20000 in
theorem gX7_init_X3_init_n39 : GoodIn wsX7_init (wsX3_init) := ggX7_init_X3_init
set_option maxRecDepth 20000 in
theorem ggX7_init_X4_init : GoodIn wsX7_init wsX4_init := goodIn_r _ [49, 50, 2, 3, 39, 51, 52, 309, 310, 311, 312, 313, 314, 315, 316, 317, 318] (by decide +kernel) (by decide +kernel)
set_option maxRecDepth 20000 in
theorem gX7_init_X4_init_n46 : GoodIn wsX7_init (wsX4_init) := ggX7_init_X4_init
set_option maxRecDepth 20000 in
theorem ggX7_init_X1_init : GoodIn wsX7_init wsX1_init := goodIn_r _ [69, 70, 2, 3, 71, 39, 72, 73, 74, 75, 56, 76, 77, 319, 320, 321, 322, 323, 324, 325, 326, 327, 328, 329, 330] (by decide +kernel) (by decide +kernel)
set_option maxRecDepth 20000 in
theorem gX7_init_X1_init_n53 : GoodIn wsX7_init (wsX1_init) := ggX7_init_X1_init
set_option maxRecDepth 20000 in
theorem ggX7_init_J0_length_8abf5 : GoodIn wsX7_init wsJ0_length_8abf5 := goodIn_r _ [82, 83, 84, 85, 86, 81, 87, 88, 89] (by decide +kernel) (by decide +kernel)
set_option maxRecDepth 20000 in
theorem gX7_init_J0_length_8abf5 : GoodIn wsX7_init (wsV RX7 69 RJ0 yJ0_length_8abf5 wsJ0_length_8abf5) := goodIn_app (goodIn_of _ (by decide +kernel)) ggX7_init_J0_length_8abf5
set_option maxRecDepth 20000 in
theorem ggX7_init_J0_charAt_5068e : GoodIn wsX7_init wsJ0_charAt_5068e := goodIn_r _ [93, 83, 94, 95, 96, 81, 97, 88, 89, 98, 99, 100, 101, 102, 103, 104, 105, 106, 107, 108, 109, 110, 111, 112, 113, 114, 115, 116, 117, 118, 119, 120, 121, 122, 123, 124, 125, 126] (by decide +kernel) (by decide +kernel)
set_option maxRecDepth 20000 in
theorem gX7_init_J0_charAt_5068e : GoodIn wsX7_init (wsV RX7 75 RJ0 yJ0_charAt_5068e wsJ0_charAt_5068e) := goodIn_app (goodIn_of _ (by decide +kernel)) ggX7_init_J0_charAt_5068e
set_option maxRecDepth 20000 in
theorem ggX7_init_X5_append : GoodIn wsX7_init wsX5_append := goodIn_r _ [130, 131, 40, 281, 282, 283, 284] (by decide +kernel) (by decide +kernel)
set_option maxRecDepth 20000 in
theorem gX7_init_X5_append : GoodIn wsX7_init (wsV RX7 79 RX5 yX5_append wsX5_append) := goodIn_app (goodIn_of _ (by decide +kernel)) ggX7_init_X5_append
set_option maxRecDepth 20000 in
theorem ggX7_init_X7_layText : GoodIn wsX7_init wsX7_layText := goodIn_r _ [136, 7, 33, 34, 31, 32, 11, 137, 15, 138, 139, 140, 6, 141, 142, 131, 143, 144, 145, 30, 146, 147, 148, 74, 75, 72, 73, 149, 150, 151, 152, 153, 154, 155, 156, 157, 158, 159, 26, 160, 51, 52, 161, 162, 163, 164, 165, 166, 167, 168, 169, 170, 171, 172, 173, 174, 175, 176, 177, 178, 179, 180, 181, 182, 183, 40, 184, 185, 186, 187, 188, 189, 190, 191, 41, 192, 193, 194, 195, 196, 197, 198, 199, 200, 201, 202, 203, 204, 205, 206, 207, 208, 209, 210, 211, 212, 213, 214, 215, 216, 217, 218, 219, 220, 221, 222, 223, 224, 225, 226, 227, 228, 229, 230, 231, 135, 232, 233, 234, 235, 236, 237, 238, 239, 240, 241, 242, 243, 244, 245, 246, 247, 248, 249, 76, 250, 251, 252, 253, 77, 254, 255, 256, 257, 258, 259, 260, 261, 262, 263, 264, 265, 266, 267, 268, 269, 270, 271, 272, 273, 14, 274, 275, 276, 57, 277, 278, 279, 280, 285, 286, 287, 288, 289, 290, 291, 292, 293, 294, 295, 296, 297, 281, 282, 283, 284, 319, 320, 321, 322, 323, 324, 325, 326, 327, 328, 329, 330, 309, 310, 311, 312, 313, 314, 315, 316, 317, 318, 298, 299, 300, 301, 302, 303] (by decide +kernel) (by decide +kernel)
set_option maxRecDepth 20000 in
theorem gX7_init_X7_layText : GoodIn wsX7_init (wsV RX7 83 RX7 yX7_layText wsX7_layText) := goodIn_app (goodIn_of _ (by decide +kernel)) ggX7_init_X7_layText
theorem dX7_init_0 : decode cX7_init 0 = .ok (.aload_n 0, 1) := by decide +kernel
theorem dX7_init_1 : decode cX7_init 1 = .ok (.invokespecial 1, 3) := by decide +kernel
theorem dX7_init_4 : decode cX7_init 4 = .ok (.aload_n 0, 1) := by decide +kernel
theorem dX7_init_5 : decode cX7_init 5 = .ok (.new 7, 3) := by decide +kernel
theorem dX7_init_8 : decode cX7_init 8 = .ok (.dup, 1) := by decide +kernel
theorem dX7_init_9 : decode cX7_init 9 = .ok (.invokespecial 9, 3) := by decide +kernel
theorem dX7_init_12 : decode cX7_init 12 = .ok (.putfield 10, 3) := by decide +kernel
theorem dX7_init_15 : decode cX7_init 15 = .ok (.aload_n 0, 1) := by decide +kernel
theorem dX7_init_16 : decode cX7_init 16 = .ok (.new 16, 3) := by decide +kernel
theorem dX7_init_19 : decode cX7_init 19 = .ok (.dup, 1) := by decide +kernel
theorem dX7_init_20 : decode cX7_init 20 = .ok (.invokespecial 18, 3) := by decide +kernel
theorem dX7_init_23 : decode cX7_init 23 = .ok (.putfield 19, 3) := by decide +kernel
theorem dX7_init_26 : decode cX7_init 26 = .ok (.aload_n 0, 1) := by decide +kernel
theorem dX7_init_27 : decode cX7_init 27 = .ok (.new 23, 3) := by decide +kernel
theorem dX7_init_30 : decode cX7_init 30 = .ok (.dup, 1) := by decide +kernel
theorem dX7_init_31 : decode cX7_init 31 = .ok (.invokespecial 25, 3) := by decide +kernel
theorem dX7_init_34 : decode cX7_init 34 = .ok (.putfield 26, 3) := by decide +kernel
theorem dX7_init_37 : decode cX7_init 37 = .ok (.aload_n 0, 1) := by decide +kernel
theorem dX7_init_38 : decode cX7_init 38 = .ok (.new 30, 3) := by decide +kernel
theorem dX7_init_41 : decode cX7_init 41 = .ok (.dup, 1) := by decide +kernel
theorem dX7_init_42 : decode cX7_init 42 = .ok (.invokespecial 32, 3) := by decide +kernel
theorem dX7_init_45 : decode cX7_init 45 = .ok (.putfield 33, 3) := by decide +kernel
theorem dX7_init_48 : decode cX7_init 48 = .ok (.aload_n 0, 1) := by decide +kernel
theorem dX7_init_49 : decode cX7_init 49 = .ok (.new 37, 3) := by decide +kernel
theorem dX7_init_52 : decode cX7_init 52 = .ok (.dup, 1) := by decide +kernel
theorem dX7_init_53 : decode cX7_init 53 = .ok (.invokespecial 39, 3) := by decide +kernel
theorem dX7_init_56 : decode cX7_init 56 = .ok (.putfield 40, 3) := by decide +kernel
theorem dX7_init_59 : decode cX7_init 59 = .ok (.aload_n 0, 1) := by decide +kernel
theorem dX7_init_60 : decode cX7_init 60 = .ok (.new 44, 3) := by decide +kernel
theorem dX7_init_63 : decode cX7_init 63 = .ok (.dup, 1) := by decide +kernel
theorem dX7_init_64 : decode cX7_init 64 = .ok (.invokespecial 46, 3) := by decide +kernel
theorem dX7_init_67 : decode cX7_init 67 = .ok (.putfield 47, 3) := by decide +kernel
theorem dX7_init_70 : decode cX7_init 70 = .ok (.aload_n 0, 1) := by decide +kernel
theorem dX7_init_71 : decode cX7_init 71 = .ok (.new 51, 3) := by decide +kernel
theorem dX7_init_74 : decode cX7_init 74 = .ok (.dup, 1) := by decide +kernel
theorem dX7_init_75 : decode cX7_init 75 = .ok (.invokespecial 53, 3) := by decide +kernel
theorem dX7_init_78 : decode cX7_init 78 = .ok (.putfield 54, 3) := by decide +kernel
theorem dX7_init_81 : decode cX7_init 81 = .ok (.aload_n 0, 1) := by decide +kernel
theorem dX7_init_82 : decode cX7_init 82 = .ok (.new 44, 3) := by decide +kernel
theorem dX7_init_85 : decode cX7_init 85 = .ok (.dup, 1) := by decide +kernel
theorem dX7_init_86 : decode cX7_init 86 = .ok (.invokespecial 46, 3) := by decide +kernel
theorem dX7_init_89 : decode cX7_init 89 = .ok (.putfield 58, 3) := by decide +kernel
theorem dX7_init_92 : decode cX7_init 92 = .ok (.aload_n 0, 1) := by decide +kernel
theorem dX7_init_93 : decode cX7_init 93 = .ok (.new 51, 3) := by decide +kernel
theorem dX7_init_96 : decode cX7_init 96 = .ok (.dup, 1) := by decide +kernel
theorem dX7_init_97 : decode cX7_init 97 = .ok (.invokespecial 53, 3) := by decide +kernel
theorem dX7_init_100 : decode cX7_init 100 = .ok (.putfield 61, 3) := by decide +kernel
theorem dX7_init_103 : decode cX7_init 103 = .ok (.aload_n 0, 1) := by decide +kernel
theorem dX7_init_104 : decode cX7_init 104 = .ok (.new 44, 3) := by decide +kernel
theorem dX7_init_107 : decode cX7_init 107 = .ok (.dup, 1) := by decide +kernel
theorem dX7_init_108 : decode cX7_init 108 = .ok (.invokespecial 46, 3) := by decide +kernel
theorem dX7_init_111 : decode cX7_init 111 = .ok (.putfield 64, 3) := by decide +kernel
theorem dX7_init_114 : decode cX7_init 114 = .ok (.iconst 0, 1) := by decide +kernel
theorem dX7_init_115 : decode cX7_init 115 = .ok (.istore_n 1, 1) := by decide +kernel
theorem dX7_init_116 : decode cX7_init 116 = .ok (.iload_n 1, 1) := by decide +kernel
theorem dX7_init_117 : decode cX7_init 117 = .ok (.ldc 67, 2) := by decide +kernel
theorem dX7_init_119 : decode cX7_init 119 = .ok (.invokevirtual 69, 3) := by decide +kernel
theorem dX7_init_122 : decode cX7_init 122 = .ok (.if_icmp .ge 23, 3) := by decide +kernel
theorem dX7_init_125 : decode cX7_init 125 = .ok (.aload_n 0, 1) := by decide +kernel
theorem dX7_init_126 : decode cX7_init 126 = .ok (.getfield 10, 3) := by decide +kernel
theorem dX7_init_129 : decode cX7_init 129 = .ok (.ldc 67, 2) := by decide +kernel
theorem dX7_init_131 : decode cX7_init 131 = .ok (.iload_n 1, 1) := by decide +kernel
theorem dX7_init_132 : decode cX7_init 132 = .ok (.invokevirtual 75, 3) := by decide +kernel
theorem dX7_init_135 : decode cX7_init 135 = .ok (.invokevirtual 79, 3) := by decide +kernel
theorem dX7_init_138 : decode cX7_init 138 = .ok (.pop, 1) := by decide +kernel
theorem dX7_init_139 : decode cX7_init 139 = .ok (.iinc 1 1, 3) := by decide +kernel
theorem dX7_init_142 : decode cX7_init 142 = .ok (.goto (-26), 3) := by decide +kernel
theorem dX7_init_145 : decode cX7_init 145 = .ok (.aload_n 0, 1) := by decide +kernel
theorem dX7_init_146 : decode cX7_init 146 = .ok (.invokevirtual 83, 3) := by decide +kernel
theorem dX7_init_149 : decode cX7_init 149 = .ok (.pop, 1) := by decide +kernel
theorem dX7_init_150 : decode cX7_init 150 = .ok (.aload_n 0, 1) := by decide +kernel
theorem dX7_init_151 : decode cX7_init 151 = .ok (.getfield 10, 3) := by decide +kernel
theorem dX7_init_154 : decode cX7_init 154 = .ok (.iconst 0, 1) := by decide +kernel
theorem dX7_init_155 : decode cX7_init 155 = .ok (.putfield 87, 3) := by decide +kernel
theorem dX7_init_158 : decode cX7_init 158 = .ok (.return_, 1) := by decide +kernel
set_option maxRecDepth 20000 in
theorem ggX7_write_X5_append : GoodIn wsX7_write wsX5_append := goodIn_r _ [7, 8, 9, 20, 21, 22, 23] (by decide +kernel) (by decide +kernel)
set_option maxRecDepth 20000 in
theorem gX7_write_X5_append : GoodIn wsX7_write (wsV RX7 79 RX5 yX5_append wsX5_append) := goodIn_app (goodIn_of _ (by decide +kernel)) ggX7_write_X5_append
theorem dX7_write_0 : decode cX7_write 0 = .ok (.iload_n 1, 1) := by decide +kernel
theorem dX7_write_1 : decode cX7_write 1 = .ok (.bipush 32, 2) := by decide +kernel
theorem dX7_write_3 : decode cX7_write 3 = .ok (.if_icmp .lt 9, 3) := by decide +kernel
theorem dX7_write_6 : decode cX7_write 6 = .ok (.iload_n 1, 1) := by decide +kernel
theorem dX7_write_7 : decode cX7_write 7 = .ok (.bipush 126, 2) := by decide +kernel
theorem dX7_write_9 : decode cX7_write 9 = .ok (.if_icmp .le 5, 3) := by decide +kernel
theorem dX7_write_12 : decode cX7_write 12 = .ok (.iconst (-1), 1) := by decide +kernel
theorem dX7_write_13 : decode cX7_write 13 = .ok (.ireturn, 1) := by decide +kernel
theorem dX7_write_14 : decode cX7_write 14 = .ok (.aload_n 0, 1) := by decide +kernel
theorem dX7_write_15 : decode cX7_write 15 = .ok (.getfield 10, 3) := by decide +kernel
theorem dX7_write_18 : decode cX7_write 18 = .ok (.iload_n 1, 1) := by decide +kernel
theorem dX7_write_19 : decode cX7_write 19 = .ok (.invokevirtual 79, 3) := by decide +kernel
theorem dX7_write_22 : decode cX7_write 22 = .ok (.ifCond .eq 13, 3) := by decide +kernel
theorem dX7_write_25 : decode cX7_write 25 = .ok (.aload_n 0, 1) := by decide +kernel
theorem dX7_write_26 : decode cX7_write 26 = .ok (.getfield 10, 3) := by decide +kernel
theorem dX7_write_29 : decode cX7_write 29 = .ok (.getfield 87, 3) := by decide +kernel
theorem dX7_write_32 : decode cX7_write 32 = .ok (.goto 5, 3) := by decide +kernel
theorem dX7_write_35 : decode cX7_write 35 = .ok (.bipush (-3), 2) := by decide +kernel
theorem dX7_write_37 : decode cX7_write 37 = .ok (.ireturn, 1) := by decide +kernel
theorem dX7_wipe_0 : decode cX7_wipe 0 = .ok (.aload_n 0, 1) := by decide +kernel
theorem dX7_wipe_1 : decode cX7_wipe 1 = .ok (.getfield 10, 3) := by decide +kernel
theorem dX7_wipe_4 : decode cX7_wipe 4 = .ok (.getfield 87, 3) := by decide +kernel
theorem dX7_wipe_7 : decode cX7_wipe 7 = .ok (.istore_n 1, 1) := by decide +kernel
theorem dX7_wipe_8 : decode cX7_wipe 8 = .ok (.aload_n 0, 1) := by decide +kernel
theorem dX7_wipe_9 : decode cX7_wipe 9 = .ok (.getfield 10, 3) := by decide +kernel
theorem dX7_wipe_12 : decode cX7_wipe 12 = .ok (.iconst 0, 1) := by decide +kernel
theorem dX7_wipe_13 : decode cX7_wipe 13 = .ok (.putfield 87, 3) := by decide +kernel
theorem dX7_wipe_16 : decode cX7_wipe 16 = .ok (.iload_n 1, 1) := by decide +kernel
theorem dX7_wipe_17 : decode cX7_wipe 17 = .ok (.ireturn, 1) := by decide +kernel
set_option maxRecDepth 20000 in
theorem ggX7_fault_X5_readInto : GoodIn wsX7_fault wsX5_readInto := goodIn_r _ [8, 9, 10, 11, 12, 13, 14, 15, 16, 17, 18, 19, 20, 21, 22, 23, 24, 25, 26, 27, 28, 29, 30, 31, 32, 33, 34, 35, 36, 37, 38, 39, 40, 41, 42, 43, 44, 45, 46, 47, 48, 49, 50, 51, 7, 52, 53, 54, 55, 56, 57, 58, 59, 60, 61, 62, 63, 64, 65, 66, 67, 68, 69, 70, 71, 72, 73, 74, 75, 76, 77, 78, 79, 80, 81, 82, 83, 84, 85, 86, 87, 88, 89, 90, 91, 92, 93, 94, 95, 96, 97, 98, 99, 100, 101, 102, 103, 104, 105, 106, 107, 108, 109, 110, 111, 112, 113, 114, 115, 116, 127, 128, 129, 130, 131, 132, 133, 134, 135, 136, 137, 138, 139, 140, 141, 142, 143, 144, 145, 146, 147, 148, 149, 150, 151, 152] (by decide +kernel) (by decide +kernel)
set_option maxRecDepth 20000 in
theorem gX7_fault_X5_readInto : GoodIn wsX7_fault (wsV RX7 90 RX5 yX5_readInto wsX5_readInto) := goodIn_app (goodIn_of _ (by decide +kernel)) ggX7_fault_X5_readInto
theorem dX7_fault_0 : decode cX7_fault 0 = .ok (.aload_n 0, 1) := by decide +kernel
theorem dX7_fault_1 : decode cX7_fault 1 = .ok (.getfield 10, 3) := by decide +kernel
theorem dX7_fault_4 : decode cX7_fault 4 = .ok (.aload_n 0, 1) := by decide +kernel
theorem dX7_fault_5 : decode cX7_fault 5 = .ok (.getfield 61, 3) := by decide +kernel
theorem dX7_fault_8 : decode cX7_fault 8 = .ok (.aload_n 0, 1) := by decide +kernel
theorem dX7_fault_9 : decode cX7_fault 9 = .ok (.getfield 64, 3) := by decide +kernel
theorem dX7_fault_12 : decode cX7_fault 12 = .ok (.invokevirtual 90, 3) := by decide +kernel
theorem dX7_fault_15 : decode cX7_fault 15 = .ok (.ireturn, 1) := by decide +kernel
set_option maxRecDepth 20000 in
theorem ggX7_lay_X7_layText : GoodIn wsX7_lay wsX7_layText := goodIn_r _ [7, 8, 9, 10, 1, 11, 12, 13, 14, 15, 16, 17, 18, 19, 20, 21, 22, 23, 24, 25, 26, 27, 28, 29, 30, 31, 32, 33, 34, 35, 36, 37, 38, 39, 40, 41, 42, 43, 44, 45, 46, 47, 48, 49, 50, 51, 52, 53, 54, 55, 56, 57, 58, 59, 60, 61, 62, 63, 64, 65, 66, 67, 68, 69, 70, 71, 72, 73, 74, 75, 76, 77, 78, 79, 80, 81, 82, 83, 84, 85, 86, 87, 88, 89, 90, 91, 92, 93, 94, 95, 96, 97, 98, 99, 100, 101, 102, 103, 104, 105, 106, 107, 108, 109, 110, 111, 112, 113, 114, 115, 116, 117, 118, 119, 120, 6, 121, 122, 123, 124, 125, 126, 127, 128, 129, 130, 131, 132, 133, 134, 135, 136, 137, 138, 139, 140, 141, 142, 143, 144, 145, 146, 147, 148, 149, 150, 151, 152, 153, 154, 155, 156, 157, 158, 159, 160, 161, 162, 163, 164, 165, 166, 167, 168, 169, 170, 171, 172, 173, 174, 175, 176, 177, 178, 179, 180, 181, 182, 183, 196, 197, 198, 199, 200, 201, 202, 184, 185, 186, 187, 188, 189, 190, 191, 192, 193, 194, 195, 203, 204, 205, 206, 207, 208, 209, 210, 211, 212, 213, 214, 215, 216, 217, 218] (by decide +kernel) (by decide +kernel)
set_option maxRecDepth 20000 in
theorem gX7_lay_X7_layText : GoodIn wsX7_lay (wsV RX7 83 RX7 yX7_layText wsX7_layText) := goodIn_app (goodIn_of _ (by decide +kernel)) ggX7_lay_X7_layText
theorem dX7_lay_0 : decode cX7_lay 0 = .ok (.aload_n 0, 1) := by decide +kernel
theorem dX7_lay_1 : decode cX7_lay 1 = .ok (.invokevirtual 83, 3) := by decide +kernel
theorem dX7_lay_4 : decode cX7_lay 4 = .ok (.ifCond .eq 13, 3) := by decide +kernel
theorem dX7_lay_7 : decode cX7_lay 7 = .ok (.aload_n 0, 1) := by decide +kernel
theorem dX7_lay_8 : decode cX7_lay 8 = .ok (.getfield 54, 3) := by decide +kernel
theorem dX7_lay_11 : decode cX7_lay 11 = .ok (.getfield 94, 3) := by decide +kernel
theorem dX7_lay_14 : decode cX7_lay 14 = .ok (.goto 5, 3) := by decide +kernel
theorem dX7_lay_17 : decode cX7_lay 17 = .ok (.bipush (-2), 2) := by decide +kernel
theorem dX7_lay_19 : decode cX7_lay 19 = .ok (.ireturn, 1) := by decide +kernel
set_option maxRecDepth 20000 in
theorem ggX7_layText_X5_readInto : GoodIn wsX7_layText wsX5_readInto := goodIn_r _ [13, 14, 15, 16, 17, 18, 19, 20, 21, 22, 23, 24, 25, 26, 27, 28, 29, 30, 31, 32, 33, 34, 35, 36, 37, 38, 39, 40, 41, 42, 43, 44, 45, 46, 47, 48, 49, 50, 51, 52, 53, 54, 55, 56, 12, 57, 58, 59, 60, 61, 62, 63, 64, 65, 66, 67, 68, 69, 70, 71, 72, 73, 74, 75, 76, 77, 78, 79, 80, 81, 82, 83, 84, 85, 86, 87, 88, 89, 90, 91, 92, 93, 94, 95, 96, 97, 98, 99, 100, 101, 102, 103, 104, 105, 106, 107, 108, 109, 110, 111, 112, 113, 114, 115, 116, 117, 118, 119, 120, 121, 182, 183, 184, 185, 186, 187, 188, 189, 190, 191, 192, 193, 194, 195, 196, 197, 198, 199, 200, 201, 202, 203, 204, 205, 206, 207] (by decide +kernel) (by decide +kernel)
set_option maxRecDepth 20000 in
theorem gX7_layText_X5_readInto : GoodIn wsX7_layText (wsV RX7 90 RX5 yX5_readInto wsX5_readInto) := goodIn_app (goodIn_of _ (by decide +kernel)) ggX7_layText_X5_readInto
set_option maxRecDepth 20000 in
theorem ggX7_layText_X1_isWhole : GoodIn wsX7_layText wsX1_isWhole := goodIn_r _ [125, 21, 26, 126, 127, 128, 129, 186, 187, 188, 189, 190, 191, 192, 193, 194, 195, 196, 197] (by decide +kernel) (by decide +kernel)
set_option maxRecDepth 20000 in
theorem gX7_layText_X1_isWhole : GoodIn wsX7_layText (wsV RX7 97 RX1 yX1_isWhole wsX1_isWhole) := goodIn_app (goodIn_of _ (by decide +kernel)) ggX7_layText_X1_isWhole
set_option maxRecDepth 20000 in
theorem ggX7_layText_X1_growTrees : GoodIn wsX7_layText wsX1_growTrees := goodIn_r _ [133, 21, 134, 135, 136, 137, 19, 138, 139, 140, 141, 142, 143, 144, 145, 146, 147, 148, 149, 150, 151, 152, 153, 154, 24, 25, 155, 115, 156, 186, 187, 188, 189, 190, 191, 192, 193, 194, 195, 196, 197] (by decide +kernel) (by decide +kernel)
set_option maxRecDepth 20000 in
theorem gX7_layText_X1_growTrees : GoodIn wsX7_layText (wsV RX7 100 RX1 yX1_growTrees wsX1_growTrees) := goodIn_app (goodIn_of _ (by decide +kernel)) ggX7_layText_X1_growTrees
set_option maxRecDepth 20000 in
theorem ggX7_layText_X0_reckon : GoodIn wsX7_layText wsX0_reckon := goodIn_r _ [161, 162, 163, 164, 165, 166, 167, 168, 208, 209, 210, 211, 212, 213, 186, 187, 188, 189, 190, 191, 192, 193, 194, 195, 196, 197, 198, 199, 200, 201, 202, 203, 204, 205, 206, 207] (by decide +kernel) (by decide +kernel)
set_option maxRecDepth 20000 in
theorem gX7_layText_X0_reckon : GoodIn wsX7_layText (wsV RX7 106 RX0 yX0_reckon wsX0_reckon) := goodIn_app (goodIn_of _ (by decide +kernel)) ggX7_layText_X0_reckon
theorem dX7_layText_0 : decode cX7_layText 0 = .ok (.aload_n 0, 1) := by decide +kernel
theorem dX7_layText_1 : decode cX7_layText 1 = .ok (.getfield 10, 3) := by decide +kernel
theorem dX7_layText_4 : decode cX7_layText 4 = .ok (.aload_n 0, 1) := by decide +kernel
theorem dX7_layText_5 : decode cX7_layText 5 = .ok (.getfield 61, 3) := by decide +kernel
theorem dX7_layText_8 : decode cX7_layText 8 = .ok (.aload_n 0, 1) := by decide +kernel
theorem dX7_layText_9 : decode cX7_layText 9 = .ok (.getfield 64, 3) := by decide +kernel
theorem dX7_layText_12 : decode cX7_layText 12 = .ok (.invokevirtual 90, 3) := by decide +kernel
theorem dX7_layText_15 : decode cX7_layText 15 = .ok (.bipush (-4), 2) := by decide +kernel
theorem dX7_layText_17 : decode cX7_layText 17 = .ok (.if_icmp .ne 13, 3) := by decide +kernel
theorem dX7_layText_20 : decode cX7_layText 20 = .ok (.aload_n 0, 1) := by decide +kernel
theorem dX7_layText_21 : decode cX7_layText 21 = .ok (.getfield 61, 3) := by decide +kernel
theorem dX7_layText_24 : decode cX7_layText 24 = .ok (.invokevirtual 97, 3) := by decide +kernel
theorem dX7_layText_27 : decode cX7_layText 27 = .ok (.ifCond .ne 5, 3) := by decide +kernel
theorem dX7_layText_30 : decode cX7_layText 30 = .ok (.iconst 0, 1) := by decide +kernel
theorem dX7_layText_31 : decode cX7_layText 31 = .ok (.ireturn, 1) := by decide +kernel
theorem dX7_layText_32 : decode cX7_layText 32 = .ok (.aload_n 0, 1) := by decide +kernel
theorem dX7_layText_33 : decode cX7_layText 33 = .ok (.getfield 54, 3) := by decide +kernel
theorem dX7_layText_36 : decode cX7_layText 36 = .ok (.astore_n 1, 1) := by decide +kernel
theorem dX7_layText_37 : decode cX7_layText 37 = .ok (.aload_n 0, 1) := by decide +kernel
theorem dX7_layText_38 : decode cX7_layText 38 = .ok (.getfield 58, 3) := by decide +kernel
theorem dX7_layText_41 : decode cX7_layText 41 = .ok (.astore_n 2, 1) := by decide +kernel
theorem dX7_layText_42 : decode cX7_layText 42 = .ok (.aload_n 0, 1) := by decide +kernel
theorem dX7_layText_43 : decode cX7_layText 43 = .ok (.aload_n 0, 1) := by decide +kernel
theorem dX7_layText_44 : decode cX7_layText 44 = .ok (.getfield 61, 3) := by decide +kernel
theorem dX7_layText_47 : decode cX7_layText 47 = .ok (.putfield 54, 3) := by decide +kernel
theorem dX7_layText_50 : decode cX7_layText 50 = .ok (.aload_n 0, 1) := by decide +kernel
theorem dX7_layText_51 : decode cX7_layText 51 = .ok (.aload_n 0, 1) := by decide +kernel
theorem dX7_layText_52 : decode cX7_layText 52 = .ok (.getfield 64, 3) := by decide +kernel
theorem dX7_layText_55 : decode cX7_layText 55 = .ok (.putfield 58, 3) := by decide +kernel
theorem dX7_layText_58 : decode cX7_layText 58 = .ok (.aload_n 0, 1) := by decide +kernel
theorem dX7_layText_59 : decode cX7_layText 59 = .ok (.aload_n 1, 1) := by decide +kernel
theorem dX7_layText_60 : decode cX7_layText 60 = .ok (.putfield 61, 3) := by decide +kernel
theorem dX7_layText_63 : decode cX7_layText 63 = .ok (.aload_n 0, 1) := by decide +kernel
theorem dX7_layText_64 : decode cX7_layText 64 = .ok (.aload_n 2, 1) := by decide +kernel
theorem dX7_layText_65 : decode cX7_layText 65 = .ok (.putfield 64, 3) := by decide +kernel
theorem dX7_layText_68 : decode cX7_layText 68 = .ok (.aload_n 0, 1) := by decide +kernel
theorem dX7_layText_69 : decode cX7_layText 69 = .ok (.getfield 54, 3) := by decide +kernel
theorem dX7_layText_72 : decode cX7_layText 72 = .ok (.invokevirtual 100, 3) := by decide +kernel
theorem dX7_layText_75 : decode cX7_layText 75 = .ok (.aload_n 0, 1) := by decide +kernel
theorem dX7_layText_76 : decode cX7_layText 76 = .ok (.getfield 19, 3) := by decide +kernel
theorem dX7_layText_79 : decode cX7_layText 79 = .ok (.iconst 0, 1) := by decide +kernel
theorem dX7_layText_80 : decode cX7_layText 80 = .ok (.putfield 103, 3) := by decide +kernel
theorem dX7_layText_83 : decode cX7_layText 83 = .ok (.aload_n 0, 1) := by decide +kernel
theorem dX7_layText_84 : decode cX7_layText 84 = .ok (.getfield 26, 3) := by decide +kernel
theorem dX7_layText_87 : decode cX7_layText 87 = .ok (.aload_n 0, 1) := by decide +kernel
theorem dX7_layText_88 : decode cX7_layText 88 = .ok (.getfield 54, 3) := by decide +kernel
theorem dX7_layText_91 : decode cX7_layText 91 = .ok (.aload_n 0, 1) := by decide +kernel
theorem dX7_layText_92 : decode cX7_layText 92 = .ok (.getfield 58, 3) := by decide +kernel
theorem dX7_layText_95 : decode cX7_layText 95 = .ok (.invokevirtual 106, 3) := by decide +kernel
theorem dX7_layText_98 : decode cX7_layText 98 = .ok (.iconst 1, 1) := by decide +kernel
theorem dX7_layText_99 : decode cX7_layText 99 = .ok (.ireturn, 1) := by decide +kernel
set_option maxRecDepth 20000 in
theorem ggX7_set_X7_isCell : GoodIn wsX7_set wsX7_isCell := goodIn_r _ [11, 6, 12, 60, 61, 62, 63, 64, 65, 66, 67, 68, 69, 80, 81, 82, 83, 84, 85, 86, 87, 88, 89, 90, 91] (by decide +kernel) (by decide +kernel)
set_option maxRecDepth 20000 in
theorem gX7_set_X7_isCell : GoodIn wsX7_set (wsV RX7 110 RX7 yX7_isCell wsX7_isCell) := goodIn_app (goodIn_of _ (by decide +kernel)) ggX7_set_X7_isCell
set_option maxRecDepth 20000 in
theorem ggX7_set_X2_keep : GoodIn wsX7_set wsX2_keep := goodIn_r _ [17, 18, 19, 20, 21, 22, 23, 24, 25, 26, 27, 28, 29, 30, 31, 32, 33, 34, 35, 36, 37, 38, 39, 40, 41, 42, 43, 92, 93, 94, 70, 71, 72, 73, 74, 75, 76, 77, 78, 79] (by decide +kernel) (by decide +kernel)
set_option maxRecDepth 20000 in
theorem gX7_set_X2_keep : GoodIn wsX7_set (wsV RX7 120 RX2 yX2_keep wsX2_keep) := goodIn_app (goodIn_of _ (by decide +kernel)) ggX7_set_X2_keep
set_option maxRecDepth 20000 in
theorem ggX7_set_X0_reckon : GoodIn wsX7_set wsX0_reckon := goodIn_r _ [48, 49, 50, 51, 52, 53, 54, 55, 95, 96, 97, 98, 99, 100, 80, 81, 82, 83, 84, 85, 86, 87, 88, 89, 90, 91, 70, 71, 72, 73, 74, 75, 76, 77, 78, 79] (by decide +kernel) (by decide +kernel)
set_option maxRecDepth 20000 in
theorem gX7_set_X0_reckon : GoodIn wsX7_set (wsV RX7 106 RX0 yX0_reckon wsX0_reckon) := goodIn_app (goodIn_of _ (by decide +kernel)) ggX7_set_X0_reckon
set_option maxRecDepth 20000 in
theorem ggX7_set_X4_register : GoodIn wsX7_set wsX4_register := goodIn_r _ [59, 38, 39, 40, 41, 70, 71, 72, 73, 74, 75, 76, 77, 78, 79] (by decide +kernel) (by decide +kernel)
set_option maxRecDepth 20000 in
theorem gX7_set_X4_register : GoodIn wsX7_set (wsV RX7 124 RX4 yX4_register wsX4_register) := goodIn_app (goodIn_of _ (by decide +kernel)) ggX7_set_X4_register
theorem dX7_set_0 : decode cX7_set 0 = .ok (.aload_n 0, 1) := by decide +kernel
theorem dX7_set_1 : decode cX7_set 1 = .ok (.iload_n 1, 1) := by decide +kernel
theorem dX7_set_2 : decode cX7_set 2 = .ok (.invokevirtual 110, 3) := by decide +kernel
theorem dX7_set_5 : decode cX7_set 5 = .ok (.ifCond .eq 30, 3) := by decide +kernel
theorem dX7_set_8 : decode cX7_set 8 = .ok (.iload_n 2, 1) := by decide +kernel
theorem dX7_set_9 : decode cX7_set 9 = .ok (.ifCond .lt 26, 3) := by decide +kernel
theorem dX7_set_12 : decode cX7_set 12 = .ok (.iload_n 2, 1) := by decide +kernel
theorem dX7_set_13 : decode cX7_set 13 = .ok (.iconst 1, 1) := by decide +kernel
theorem dX7_set_14 : decode cX7_set 14 = .ok (.if_icmp .gt 21, 3) := by decide +kernel
theorem dX7_set_17 : decode cX7_set 17 = .ok (.iload_n 3, 1) := by decide +kernel
theorem dX7_set_18 : decode cX7_set 18 = .ok (.ifCond .lt 17, 3) := by decide +kernel
theorem dX7_set_21 : decode cX7_set 21 = .ok (.iload_n 3, 1) := by decide +kernel
theorem dX7_set_22 : decode cX7_set 22 = .ok (.iload_n 2, 1) := by decide +kernel
theorem dX7_set_23 : decode cX7_set 23 = .ok (.ifCond .ne 8, 3) := by decide +kernel
theorem dX7_set_26 : decode cX7_set 26 = .ok (.bipush 9, 2) := by decide +kernel
theorem dX7_set_28 : decode cX7_set 28 = .ok (.goto 4, 3) := by decide +kernel
theorem dX7_set_31 : decode cX7_set 31 = .ok (.iconst 5, 1) := by decide +kernel
theorem dX7_set_32 : decode cX7_set 32 = .ok (.if_icmp .le 5, 3) := by decide +kernel
theorem dX7_set_35 : decode cX7_set 35 = .ok (.iconst (-1), 1) := by decide +kernel
theorem dX7_set_36 : decode cX7_set 36 = .ok (.ireturn, 1) := by decide +kernel
theorem dX7_set_37 : decode cX7_set 37 = .ok (.iload_n 2, 1) := by decide +kernel
theorem dX7_set_38 : decode cX7_set 38 = .ok (.ifCond .ne 15, 3) := by decide +kernel
theorem dX7_set_41 : decode cX7_set 41 = .ok (.aload_n 0, 1) := by decide +kernel
theorem dX7_set_42 : decode cX7_set 42 = .ok (.getfield 58, 3) := by decide +kernel
theorem dX7_set_45 : decode cX7_set 45 = .ok (.getfield 113, 3) := by decide +kernel
theorem dX7_set_48 : decode cX7_set 48 = .ok (.iload_n 1, 1) := by decide +kernel
theorem dX7_set_49 : decode cX7_set 49 = .ok (.iaload, 1) := by decide +kernel
theorem dX7_set_50 : decode cX7_set 50 = .ok (.goto 12, 3) := by decide +kernel
theorem dX7_set_53 : decode cX7_set 53 = .ok (.aload_n 0, 1) := by decide +kernel
theorem dX7_set_54 : decode cX7_set 54 = .ok (.getfield 58, 3) := by decide +kernel
theorem dX7_set_57 : decode cX7_set 57 = .ok (.getfield 117, 3) := by decide +kernel
theorem dX7_set_60 : decode cX7_set 60 = .ok (.iload_n 1, 1) := by decide +kernel
theorem dX7_set_61 : decode cX7_set 61 = .ok (.iaload, 1) := by decide +kernel
theorem dX7_set_62 : decode cX7_set 62 = .ok (.istore 4, 2) := by decide +kernel
theorem dX7_set_64 : decode cX7_set 64 = .ok (.iload 4, 2) := by decide +kernel
theorem dX7_set_66 : decode cX7_set 66 = .ok (.iload_n 3, 1) := by decide +kernel
theorem dX7_set_67 : decode cX7_set 67 = .ok (.if_icmp .ne 6, 3) := by decide +kernel
theorem dX7_set_70 : decode cX7_set 70 = .ok (.bipush (-2), 2) := by decide +kernel
theorem dX7_set_72 : decode cX7_set 72 = .ok (.ireturn, 1) := by decide +kernel
theorem dX7_set_73 : decode cX7_set 73 = .ok (.aload_n 0, 1) := by decide +kernel
theorem dX7_set_74 : decode cX7_set 74 = .ok (.getfield 19, 3) := by decide +kernel
theorem dX7_set_77 : decode cX7_set 77 = .ok (.aload_n 0, 1) := by decide +kernel
theorem dX7_set_78 : decode cX7_set 78 = .ok (.getfield 58, 3) := by decide +kernel
theorem dX7_set_81 : decode cX7_set 81 = .ok (.invokevirtual 120, 3) := by decide +kernel
theorem dX7_set_84 : decode cX7_set 84 = .ok (.iload_n 2, 1) := by decide +kernel
theorem dX7_set_85 : decode cX7_set 85 = .ok (.ifCond .ne 31, 3) := by decide +kernel
theorem dX7_set_88 : decode cX7_set 88 = .ok (.aload_n 0, 1) := by decide +kernel
theorem dX7_set_89 : decode cX7_set 89 = .ok (.getfield 58, 3) := by decide +kernel
theorem dX7_set_92 : decode cX7_set 92 = .ok (.getfield 113, 3) := by decide +kernel
theorem dX7_set_95 : decode cX7_set 95 = .ok (.iload_n 1, 1) := by decide +kernel
theorem dX7_set_96 : decode cX7_set 96 = .ok (.iload_n 3, 1) := by decide +kernel
theorem dX7_set_97 : decode cX7_set 97 = .ok (.iastore, 1) := by decide +kernel
theorem dX7_set_98 : decode cX7_set 98 = .ok (.aload_n 0, 1) := by decide +kernel
theorem dX7_set_99 : decode cX7_set 99 = .ok (.getfield 26, 3) := by decide +kernel
theorem dX7_set_102 : decode cX7_set 102 = .ok (.aload_n 0, 1) := by decide +kernel
theorem dX7_set_103 : decode cX7_set 103 = .ok (.getfield 54, 3) := by decide +kernel
theorem dX7_set_106 : decode cX7_set 106 = .ok (.aload_n 0, 1) := by decide +kernel
theorem dX7_set_107 : decode cX7_set 107 = .ok (.getfield 58, 3) := by decide +kernel
theorem dX7_set_110 : decode cX7_set 110 = .ok (.invokevirtual 106, 3) := by decide +kernel
theorem dX7_set_113 : decode cX7_set 113 = .ok (.goto 13, 3) := by decide +kernel
theorem dX7_set_116 : decode cX7_set 116 = .ok (.aload_n 0, 1) := by decide +kernel
theorem dX7_set_117 : decode cX7_set 117 = .ok (.getfield 58, 3) := by decide +kernel
theorem dX7_set_120 : decode cX7_set 120 = .ok (.getfield 117, 3) := by decide +kernel
theorem dX7_set_123 : decode cX7_set 123 = .ok (.iload_n 1, 1) := by decide +kernel
theorem dX7_set_124 : decode cX7_set 124 = .ok (.iload_n 3, 1) := by decide +kernel
theorem dX7_set_125 : decode cX7_set 125 = .ok (.iastore, 1) := by decide +kernel
theorem dX7_set_126 : decode cX7_set 126 = .ok (.aload_n 0, 1) := by decide +kernel
theorem dX7_set_127 : decode cX7_set 127 = .ok (.getfield 58, 3) := by decide +kernel
theorem dX7_set_130 : decode cX7_set 130 = .ok (.invokevirtual 124, 3) := by decide +kernel
theorem dX7_set_133 : decode cX7_set 133 = .ok (.iload 4, 2) := by decide +kernel
theorem dX7_set_135 : decode cX7_set 135 = .ok (.ireturn, 1) := by decide +kernel
set_option maxRecDepth 20000 in
theorem ggX7_law_X7_isLaw : GoodIn wsX7_law wsX7_isLaw := goodIn_r _ [8] (by decide +kernel) (by decide +kernel)
set_option maxRecDepth 20000 in
theorem gX7_law_X7_isLaw : GoodIn wsX7_law (va_wsS RX7 127 yX7_isLaw wsX7_isLaw) := goodIn_app (goodIn_of _ (by decide +kernel)) ggX7_law_X7_isLaw
set_option maxRecDepth 20000 in
theorem ggX7_law_X2_keep : GoodIn wsX7_law wsX2_keep := goodIn_r _ [13, 14, 15, 16, 17, 18, 19, 20, 21, 22, 23, 24, 25, 26, 27, 28, 29, 30, 31, 32, 33, 34, 35, 36, 37, 38, 39, 64, 65, 66, 54, 55, 56, 57, 58, 59, 60, 61, 62, 63] (by decide +kernel) (by decide +kernel)
set_option maxRecDepth 20000 in
theorem gX7_law_X2_keep : GoodIn wsX7_law (wsV RX7 120 RX2 yX2_keep wsX2_keep) := goodIn_app (goodIn_of _ (by decide +kernel)) ggX7_law_X2_keep
set_option maxRecDepth 20000 in
theorem ggX7_law_X4_register : GoodIn wsX7_law wsX4_register := goodIn_r _ [43, 34, 35, 36, 37, 54, 55, 56, 57, 58, 59, 60, 61, 62, 63] (by decide +kernel) (by decide +kernel)
set_option maxRecDepth 20000 in
theorem gX7_law_X4_register : GoodIn wsX7_law (wsV RX7 124 RX4 yX4_register wsX4_register) := goodIn_app (goodIn_of _ (by decide +kernel)) ggX7_law_X4_register
theorem dX7_law_0 : decode cX7_law 0 = .ok (.iload_n 1, 1) := by decide +kernel
theorem dX7_law_1 : decode cX7_law 1 = .ok (.iload_n 2, 1) := by decide +kernel
theorem dX7_law_2 : decode cX7_law 2 = .ok (.invokestatic 127, 3) := by decide +kernel
theorem dX7_law_5 : decode cX7_law 5 = .ok (.ifCond .ne 5, 3) := by decide +kernel
theorem dX7_law_8 : decode cX7_law 8 = .ok (.iconst (-1), 1) := by decide +kernel
theorem dX7_law_9 : decode cX7_law 9 = .ok (.ireturn, 1) := by decide +kernel
theorem dX7_law_10 : decode cX7_law 10 = .ok (.aload_n 0, 1) := by decide +kernel
theorem dX7_law_11 : decode cX7_law 11 = .ok (.getfield 58, 3) := by decide +kernel
theorem dX7_law_14 : decode cX7_law 14 = .ok (.getfield 131, 3) := by decide +kernel
theorem dX7_law_17 : decode cX7_law 17 = .ok (.iload_n 1, 1) := by decide +kernel
theorem dX7_law_18 : decode cX7_law 18 = .ok (.if_icmp .ne 17, 3) := by decide +kernel
theorem dX7_law_21 : decode cX7_law 21 = .ok (.aload_n 0, 1) := by decide +kernel
theorem dX7_law_22 : decode cX7_law 22 = .ok (.getfield 58, 3) := by decide +kernel
theorem dX7_law_25 : decode cX7_law 25 = .ok (.getfield 134, 3) := by decide +kernel
theorem dX7_law_28 : decode cX7_law 28 = .ok (.iload_n 2, 1) := by decide +kernel
theorem dX7_law_29 : decode cX7_law 29 = .ok (.if_icmp .ne 6, 3) := by decide +kernel
theorem dX7_law_32 : decode cX7_law 32 = .ok (.bipush (-2), 2) := by decide +kernel
theorem dX7_law_34 : decode cX7_law 34 = .ok (.ireturn, 1) := by decide +kernel
theorem dX7_law_35 : decode cX7_law 35 = .ok (.bipush 10, 2) := by decide +kernel
theorem dX7_law_37 : decode cX7_law 37 = .ok (.aload_n 0, 1) := by decide +kernel
theorem dX7_law_38 : decode cX7_law 38 = .ok (.getfield 58, 3) := by decide +kernel
theorem dX7_law_41 : decode cX7_law 41 = .ok (.getfield 131, 3) := by decide +kernel
theorem dX7_law_44 : decode cX7_law 44 = .ok (.imul, 1) := by decide +kernel
theorem dX7_law_45 : decode cX7_law 45 = .ok (.aload_n 0, 1) := by decide +kernel
theorem dX7_law_46 : decode cX7_law 46 = .ok (.getfield 58, 3) := by decide +kernel
theorem dX7_law_49 : decode cX7_law 49 = .ok (.getfield 134, 3) := by decide +kernel
theorem dX7_law_52 : decode cX7_law 52 = .ok (.iadd, 1) := by decide +kernel
theorem dX7_law_53 : decode cX7_law 53 = .ok (.istore_n 3, 1) := by decide +kernel
theorem dX7_law_54 : decode cX7_law 54 = .ok (.aload_n 0, 1) := by decide +kernel
theorem dX7_law_55 : decode cX7_law 55 = .ok (.getfield 19, 3) := by decide +kernel
theorem dX7_law_58 : decode cX7_law 58 = .ok (.aload_n 0, 1) := by decide +kernel
theorem dX7_law_59 : decode cX7_law 59 = .ok (.getfield 58, 3) := by decide +kernel
theorem dX7_law_62 : decode cX7_law 62 = .ok (.invokevirtual 120, 3) := by decide +kernel
theorem dX7_law_65 : decode cX7_law 65 = .ok (.aload_n 0, 1) := by decide +kernel
theorem dX7_law_66 : decode cX7_law 66 = .ok (.getfield 58, 3) := by decide +kernel
theorem dX7_law_69 : decode cX7_law 69 = .ok (.iload_n 1, 1) := by decide +kernel
theorem dX7_law_70 : decode cX7_law 70 = .ok (.putfield 131, 3) := by decide +kernel
theorem dX7_law_73 : decode cX7_law 73 = .ok (.aload_n 0, 1) := by decide +kernel
theorem dX7_law_74 : decode cX7_law 74 = .ok (.getfield 58, 3) := by decide +kernel
theorem dX7_law_77 : decode cX7_law 77 = .ok (.iload_n 2, 1) := by decide +kernel
theorem dX7_law_78 : decode cX7_law 78 = .ok (.putfield 134, 3) := by decide +kernel
theorem dX7_law_81 : decode cX7_law 81 = .ok (.aload_n 0, 1) := by decide +kernel
theorem dX7_law_82 : decode cX7_law 82 = .ok (.getfield 58, 3) := by decide +kernel
theorem dX7_law_85 : decode cX7_law 85 = .ok (.invokevirtual 124, 3) := by decide +kernel
theorem dX7_law_88 : decode cX7_law 88 = .ok (.iload_n 3, 1) := by decide +kernel
theorem dX7_law_89 : decode cX7_law 89 = .ok (.ireturn, 1) := by decide +kernel
set_option maxRecDepth 20000 in
theorem ggX7_give_X0_findBest : GoodIn wsX7_give wsX0_findBest := goodIn_r _ [12, 13, 14, 15, 16, 17, 18, 19, 11, 20, 21, 22, 23, 24, 25, 26, 27, 28, 29, 30, 31, 32, 33, 34, 35, 36, 37, 38, 39, 40, 41, 42, 43, 44, 45, 46, 47, 48, 49, 50, 51, 52, 53, 54, 118, 119, 120, 121, 122, 123, 96, 97, 98, 99, 100, 101, 102, 103, 104, 105, 106, 107] (by decide +kernel) (by decide +kernel)
set_option maxRecDepth 20000 in
theorem gX7_give_X0_findBest : GoodIn wsX7_give (wsV RX7 137 RX0 yX0_findBest wsX0_findBest) := goodIn_app (goodIn_of _ (by decide +kernel)) ggX7_give_X0_findBest
set_option maxRecDepth 20000 in
theorem ggX7_give_X2_keep : GoodIn wsX7_give wsX2_keep := goodIn_r _ [59, 60, 61, 62, 63, 64, 53, 65, 66, 67, 68, 69, 70, 71, 72, 40, 41, 42, 73, 74, 75, 76, 77, 78, 79, 80, 81, 124, 125, 126, 108, 109, 110, 111, 112, 113, 114, 115, 116, 117] (by decide +kernel) (by decide +kernel)
set_option maxRecDepth 20000 in
theorem gX7_give_X2_keep : GoodIn wsX7_give (wsV RX7 120 RX2 yX2_keep wsX2_keep) := goodIn_app (goodIn_of _ (by decide +kernel)) ggX7_give_X2_keep
set_option maxRecDepth 20000 in
theorem ggX7_give_X4_register : GoodIn wsX7_give wsX4_register := goodIn_r _ [85, 76, 77, 78, 79, 108, 109, 110, 111, 112, 113, 114, 115, 116, 117] (by decide +kernel) (by decide +kernel)
set_option maxRecDepth 20000 in
theorem gX7_give_X4_register : GoodIn wsX7_give (wsV RX7 124 RX4 yX4_register wsX4_register) := goodIn_app (goodIn_of _ (by decide +kernel)) ggX7_give_X4_register
theorem dX7_give_0 : decode cX7_give 0 = .ok (.aload_n 0, 1) := by decide +kernel
theorem dX7_give_1 : decode cX7_give 1 = .ok (.getfield 26, 3) := by decide +kernel
theorem dX7_give_4 : decode cX7_give 4 = .ok (.aload_n 0, 1) := by decide +kernel
theorem dX7_give_5 : decode cX7_give 5 = .ok (.getfield 54, 3) := by decide +kernel
theorem dX7_give_8 : decode cX7_give 8 = .ok (.invokevirtual 137, 3) := by decide +kernel
theorem dX7_give_11 : decode cX7_give 11 = .ok (.aload_n 0, 1) := by decide +kernel
theorem dX7_give_12 : decode cX7_give 12 = .ok (.getfield 19, 3) := by decide +kernel
theorem dX7_give_15 : decode cX7_give 15 = .ok (.aload_n 0, 1) := by decide +kernel
theorem dX7_give_16 : decode cX7_give 16 = .ok (.getfield 58, 3) := by decide +kernel
theorem dX7_give_19 : decode cX7_give 19 = .ok (.invokevirtual 120, 3) := by decide +kernel
theorem dX7_give_22 : decode cX7_give 22 = .ok (.iconst 0, 1) := by decide +kernel
theorem dX7_give_23 : decode cX7_give 23 = .ok (.istore_n 1, 1) := by decide +kernel
theorem dX7_give_24 : decode cX7_give 24 = .ok (.iconst 0, 1) := by decide +kernel
theorem dX7_give_25 : decode cX7_give 25 = .ok (.istore_n 2, 1) := by decide +kernel
theorem dX7_give_26 : decode cX7_give 26 = .ok (.iload_n 2, 1) := by decide +kernel
theorem dX7_give_27 : decode cX7_give 27 = .ok (.aload_n 0, 1) := by decide +kernel
theorem dX7_give_28 : decode cX7_give 28 = .ok (.getfield 54, 3) := by decide +kernel
theorem dX7_give_31 : decode cX7_give 31 = .ok (.getfield 94, 3) := by decide +kernel
theorem dX7_give_34 : decode cX7_give 34 = .ok (.if_icmp .ge 51, 3) := by decide +kernel
theorem dX7_give_37 : decode cX7_give 37 = .ok (.aload_n 0, 1) := by decide +kernel
theorem dX7_give_38 : decode cX7_give 38 = .ok (.getfield 58, 3) := by decide +kernel
theorem dX7_give_41 : decode cX7_give 41 = .ok (.getfield 117, 3) := by decide +kernel
theorem dX7_give_44 : decode cX7_give 44 = .ok (.iload_n 2, 1) := by decide +kernel
theorem dX7_give_45 : decode cX7_give 45 = .ok (.iaload, 1) := by decide +kernel
theorem dX7_give_46 : decode cX7_give 46 = .ok (.aload_n 0, 1) := by decide +kernel
theorem dX7_give_47 : decode cX7_give 47 = .ok (.getfield 26, 3) := by decide +kernel
theorem dX7_give_50 : decode cX7_give 50 = .ok (.getfield 141, 3) := by decide +kernel
theorem dX7_give_53 : decode cX7_give 53 = .ok (.iload_n 2, 1) := by decide +kernel
theorem dX7_give_54 : decode cX7_give 54 = .ok (.iaload, 1) := by decide +kernel
theorem dX7_give_55 : decode cX7_give 55 = .ok (.if_icmp .eq 6, 3) := by decide +kernel
theorem dX7_give_58 : decode cX7_give 58 = .ok (.iinc 1 1, 3) := by decide +kernel
theorem dX7_give_61 : decode cX7_give 61 = .ok (.aload_n 0, 1) := by decide +kernel
theorem dX7_give_62 : decode cX7_give 62 = .ok (.getfield 58, 3) := by decide +kernel
theorem dX7_give_65 : decode cX7_give 65 = .ok (.getfield 117, 3) := by decide +kernel
theorem dX7_give_68 : decode cX7_give 68 = .ok (.iload_n 2, 1) := by decide +kernel
theorem dX7_give_69 : decode cX7_give 69 = .ok (.aload_n 0, 1) := by decide +kernel
theorem dX7_give_70 : decode cX7_give 70 = .ok (.getfield 26, 3) := by decide +kernel
theorem dX7_give_73 : decode cX7_give 73 = .ok (.getfield 141, 3) := by decide +kernel
theorem dX7_give_76 : decode cX7_give 76 = .ok (.iload_n 2, 1) := by decide +kernel
theorem dX7_give_77 : decode cX7_give 77 = .ok (.iaload, 1) := by decide +kernel
theorem dX7_give_78 : decode cX7_give 78 = .ok (.iastore, 1) := by decide +kernel
theorem dX7_give_79 : decode cX7_give 79 = .ok (.iinc 2 1, 3) := by decide +kernel
theorem dX7_give_82 : decode cX7_give 82 = .ok (.goto (-56), 3) := by decide +kernel
theorem dX7_give_85 : decode cX7_give 85 = .ok (.aload_n 0, 1) := by decide +kernel
theorem dX7_give_86 : decode cX7_give 86 = .ok (.getfield 58, 3) := by decide +kernel
theorem dX7_give_89 : decode cX7_give 89 = .ok (.invokevirtual 124, 3) := by decide +kernel
theorem dX7_give_92 : decode cX7_give 92 = .ok (.iload_n 1, 1) := by decide +kernel
theorem dX7_give_93 : decode cX7_give 93 = .ok (.ireturn, 1) := by decide +kernel
set_option maxRecDepth 20000 in
theorem ggX7_undo_X2_bringBack : GoodIn wsX7_undo wsX2_bringBack := goodIn_r _ [10, 11, 12, 13, 14, 15, 16, 17, 18, 19, 20, 21, 22, 23, 24, 25, 26, 27, 28, 29, 30, 31, 32, 55, 56, 57, 58, 59, 60, 61, 62, 63, 64, 65, 66, 67] (by decide +kernel) (by decide +kernel)
set_option maxRecDepth 20000 in
theorem gX7_undo_X2_bringBack : GoodIn wsX7_undo (wsV RX7 144 RX2 yX2_bringBack wsX2_bringBack) := goodIn_app (goodIn_of _ (by decide +kernel)) ggX7_undo_X2_bringBack
set_option maxRecDepth 20000 in
theorem ggX7_undo_X0_reckon : GoodIn wsX7_undo wsX0_reckon := goodIn_r _ [37, 38, 39, 40, 41, 42, 43, 44, 68, 69, 70, 71, 72, 73, 74, 75, 76, 77, 78, 79, 80, 81, 82, 83, 84, 85, 58, 59, 60, 61, 62, 63, 64, 65, 66, 67] (by decide +kernel) (by decide +kernel)
set_option maxRecDepth 20000 in
theorem gX7_undo_X0_reckon : GoodIn wsX7_undo (wsV RX7 106 RX0 yX0_reckon wsX0_reckon) := goodIn_app (goodIn_of _ (by decide +kernel)) ggX7_undo_X0_reckon
theorem dX7_undo_0 : decode cX7_undo 0 = .ok (.aload_n 0, 1) := by decide +kernel
theorem dX7_undo_1 : decode cX7_undo 1 = .ok (.getfield 19, 3) := by decide +kernel
theorem dX7_undo_4 : decode cX7_undo 4 = .ok (.aload_n 0, 1) := by decide +kernel
theorem dX7_undo_5 : decode cX7_undo 5 = .ok (.getfield 58, 3) := by decide +kernel
theorem dX7_undo_8 : decode cX7_undo 8 = .ok (.invokevirtual 144, 3) := by decide +kernel
theorem dX7_undo_11 : decode cX7_undo 11 = .ok (.ifCond .ne 6, 3) := by decide +kernel
theorem dX7_undo_14 : decode cX7_undo 14 = .ok (.bipush (-2), 2) := by decide +kernel
theorem dX7_undo_16 : decode cX7_undo 16 = .ok (.ireturn, 1) := by decide +kernel
theorem dX7_undo_17 : decode cX7_undo 17 = .ok (.aload_n 0, 1) := by decide +kernel
theorem dX7_undo_18 : decode cX7_undo 18 = .ok (.getfield 26, 3) := by decide +kernel
theorem dX7_undo_21 : decode cX7_undo 21 = .ok (.aload_n 0, 1) := by decide +kernel
theorem dX7_undo_22 : decode cX7_undo 22 = .ok (.getfield 54, 3) := by decide +kernel
theorem dX7_undo_25 : decode cX7_undo 25 = .ok (.aload_n 0, 1) := by decide +kernel
theorem dX7_undo_26 : decode cX7_undo 26 = .ok (.getfield 58, 3) := by decide +kernel
theorem dX7_undo_29 : decode cX7_undo 29 = .ok (.invokevirtual 106, 3) := by decide +kernel
theorem dX7_undo_32 : decode cX7_undo 32 = .ok (.aload_n 0, 1) := by decide +kernel
theorem dX7_undo_33 : decode cX7_undo 33 = .ok (.getfield 19, 3) := by decide +kernel
theorem dX7_undo_36 : decode cX7_undo 36 = .ok (.getfield 103, 3) := by decide +kernel
theorem dX7_undo_39 : decode cX7_undo 39 = .ok (.ireturn, 1) := by decide +kernel
set_option maxRecDepth 20000 in
theorem ggX7_cell_X7_isCell : GoodIn wsX7_cell wsX7_isCell := goodIn_r _ [12, 4, 7, 16, 17, 18, 19, 20, 21, 22, 23, 24, 25, 36, 37, 38, 39, 40, 41, 42, 43, 44, 45, 46, 47] (by decide +kernel) (by decide +kernel)
set_option maxRecDepth 20000 in
theorem gX7_cell_X7_isCell : GoodIn wsX7_cell (wsV RX7 110 RX7 yX7_isCell wsX7_isCell) := goodIn_app (goodIn_of _ (by decide +kernel)) ggX7_cell_X7_isCell
set_option maxRecDepth 20000 in
theorem ggX7_cell_X7_sameArea : GoodIn wsX7_cell wsX7_sameArea := goodIn_r _ [15] (by decide +kernel) (by decide +kernel)
set_option maxRecDepth 20000 in
theorem gX7_cell_X7_sameArea : GoodIn wsX7_cell (va_wsS RX7 154 yX7_sameArea wsX7_sameArea) := goodIn_app (goodIn_of _ (by decide +kernel)) ggX7_cell_X7_sameArea
theorem dX7_cell_0 : decode cX7_cell 0 = .ok (.aload_n 0, 1) := by decide +kernel
theorem dX7_cell_1 : decode cX7_cell 1 = .ok (.iload_n 1, 1) := by decide +kernel
theorem dX7_cell_2 : decode cX7_cell 2 = .ok (.invokevirtual 110, 3) := by decide +kernel
theorem dX7_cell_5 : decode cX7_cell 5 = .ok (.ifCond .ne 5, 3) := by decide +kernel
theorem dX7_cell_8 : decode cX7_cell 8 = .ok (.iconst (-1), 1) := by decide +kernel
theorem dX7_cell_9 : decode cX7_cell 9 = .ok (.ireturn, 1) := by decide +kernel
theorem dX7_cell_10 : decode cX7_cell 10 = .ok (.iload_n 2, 1) := by decide +kernel
theorem dX7_cell_11 : decode cX7_cell 11 = .ok (.tableswitch 102 0 4 #[33, 43, 53, 73, 83], 33) := by decide +kernel
theorem dX7_cell_44 : decode cX7_cell 44 = .ok (.aload_n 0, 1) := by decide +kernel
theorem dX7_cell_45 : decode cX7_cell 45 = .ok (.getfield 58, 3) := by decide +kernel
theorem dX7_cell_48 : decode cX7_cell 48 = .ok (.getfield 113, 3) := by decide +kernel
theorem dX7_cell_51 : decode cX7_cell 51 = .ok (.iload_n 1, 1) := by decide +kernel
theorem dX7_cell_52 : decode cX7_cell 52 = .ok (.iaload, 1) := by decide +kernel
theorem dX7_cell_53 : decode cX7_cell 53 = .ok (.ireturn, 1) := by decide +kernel
theorem dX7_cell_54 : decode cX7_cell 54 = .ok (.aload_n 0, 1) := by decide +kernel
theorem dX7_cell_55 : decode cX7_cell 55 = .ok (.getfield 58, 3) := by decide +kernel
theorem dX7_cell_58 : decode cX7_cell 58 = .ok (.getfield 117, 3) := by decide +kernel
theorem dX7_cell_61 : decode cX7_cell 61 = .ok (.iload_n 1, 1) := by decide +kernel
theorem dX7_cell_62 : decode cX7_cell 62 = .ok (.iaload, 1) := by decide +kernel
theorem dX7_cell_63 : decode cX7_cell 63 = .ok (.ireturn, 1) := by decide +kernel
theorem dX7_cell_64 : decode cX7_cell 64 = .ok (.aload_n 0, 1) := by decide +kernel
theorem dX7_cell_65 : decode cX7_cell 65 = .ok (.getfield 58, 3) := by decide +kernel
theorem dX7_cell_68 : decode cX7_cell 68 = .ok (.getfield 113, 3) := by decide +kernel
theorem dX7_cell_71 : decode cX7_cell 71 = .ok (.iload_n 1, 1) := by decide +kernel
theorem dX7_cell_72 : decode cX7_cell 72 = .ok (.iaload, 1) := by decide +kernel
theorem dX7_cell_73 : decode cX7_cell 73 = .ok (.aload_n 0, 1) := by decide +kernel
theorem dX7_cell_74 : decode cX7_cell 74 = .ok (.getfield 54, 3) := by decide +kernel
theorem dX7_cell_77 : decode cX7_cell 77 = .ok (.getfield 148, 3) := by decide +kernel
theorem dX7_cell_80 : decode cX7_cell 80 = .ok (.iload_n 1, 1) := by decide +kernel
theorem dX7_cell_81 : decode cX7_cell 81 = .ok (.iaload, 1) := by decide +kernel
theorem dX7_cell_82 : decode cX7_cell 82 = .ok (.iadd, 1) := by decide +kernel
theorem dX7_cell_83 : decode cX7_cell 83 = .ok (.ireturn, 1) := by decide +kernel
theorem dX7_cell_84 : decode cX7_cell 84 = .ok (.aload_n 0, 1) := by decide +kernel
theorem dX7_cell_85 : decode cX7_cell 85 = .ok (.getfield 54, 3) := by decide +kernel
theorem dX7_cell_88 : decode cX7_cell 88 = .ok (.getfield 151, 3) := by decide +kernel
theorem dX7_cell_91 : decode cX7_cell 91 = .ok (.iload_n 1, 1) := by decide +kernel
theorem dX7_cell_92 : decode cX7_cell 92 = .ok (.iaload, 1) := by decide +kernel
theorem dX7_cell_93 : decode cX7_cell 93 = .ok (.ireturn, 1) := by decide +kernel
theorem dX7_cell_94 : decode cX7_cell 94 = .ok (.aload_n 0, 1) := by decide +kernel
theorem dX7_cell_95 : decode cX7_cell 95 = .ok (.getfield 54, 3) := by decide +kernel
theorem dX7_cell_98 : decode cX7_cell 98 = .ok (.getfield 94, 3) := by decide +kernel
theorem dX7_cell_101 : decode cX7_cell 101 = .ok (.aload_n 0, 1) := by decide +kernel
theorem dX7_cell_102 : decode cX7_cell 102 = .ok (.getfield 58, 3) := by decide +kernel
theorem dX7_cell_105 : decode cX7_cell 105 = .ok (.getfield 117, 3) := by decide +kernel
theorem dX7_cell_108 : decode cX7_cell 108 = .ok (.iload_n 1, 1) := by decide +kernel
theorem dX7_cell_109 : decode cX7_cell 109 = .ok (.invokestatic 154, 3) := by decide +kernel
theorem dX7_cell_112 : decode cX7_cell 112 = .ok (.ireturn, 1) := by decide +kernel
theorem dX7_cell_113 : decode cX7_cell 113 = .ok (.iconst (-1), 1) := by decide +kernel
theorem dX7_cell_114 : decode cX7_cell 114 = .ok (.ireturn, 1) := by decide +kernel
set_option maxRecDepth 20000 in
theorem ggX7_weight_X7_isCell : GoodIn wsX7_weight wsX7_isCell := goodIn_r _ [7, 1, 8, 9, 10, 11, 12, 13, 14, 15, 16, 17, 18, 19, 20, 21, 22, 23, 24, 25, 26, 27, 28, 29, 30] (by decide +kernel) (by decide +kernel)
set_option maxRecDepth 20000 in
theorem gX7_weight_X7_isCell : GoodIn wsX7_weight (wsV RX7 110 RX7 yX7_isCell wsX7_isCell) := goodIn_app (goodIn_of _ (by decide +kernel)) ggX7_weight_X7_isCell
theorem dX7_weight_0 : decode cX7_weight 0 = .ok (.aload_n 0, 1) := by decide +kernel
theorem dX7_weight_1 : decode cX7_weight 1 = .ok (.iload_n 1, 1) := by decide +kernel
theorem dX7_weight_2 : decode cX7_weight 2 = .ok (.invokevirtual 110, 3) := by decide +kernel
theorem dX7_weight_5 : decode cX7_weight 5 = .ok (.ifCond .eq 16, 3) := by decide +kernel
theorem dX7_weight_8 : decode cX7_weight 8 = .ok (.aload_n 0, 1) := by decide +kernel
theorem dX7_weight_9 : decode cX7_weight 9 = .ok (.iload_n 2, 1) := by decide +kernel
theorem dX7_weight_10 : decode cX7_weight 10 = .ok (.invokevirtual 110, 3) := by decide +kernel
theorem dX7_weight_13 : decode cX7_weight 13 = .ok (.ifCond .eq 8, 3) := by decide +kernel
theorem dX7_weight_16 : decode cX7_weight 16 = .ok (.iload_n 1, 1) := by decide +kernel
theorem dX7_weight_17 : decode cX7_weight 17 = .ok (.iload_n 2, 1) := by decide +kernel
theorem dX7_weight_18 : decode cX7_weight 18 = .ok (.if_icmp .ne 5, 3) := by decide +kernel
theorem dX7_weight_21 : decode cX7_weight 21 = .ok (.iconst (-1), 1) := by decide +kernel
theorem dX7_weight_22 : decode cX7_weight 22 = .ok (.ireturn, 1) := by decide +kernel
theorem dX7_weight_23 : decode cX7_weight 23 = .ok (.aload_n 0, 1) := by decide +kernel
theorem dX7_weight_24 : decode cX7_weight 24 = .ok (.getfield 54, 3) := by decide +kernel
theorem dX7_weight_27 : decode cX7_weight 27 = .ok (.getfield 158, 3) := by decide +kernel
theorem dX7_weight_30 : decode cX7_weight 30 = .ok (.iload_n 1, 1) := by decide +kernel
theorem dX7_weight_31 : decode cX7_weight 31 = .ok (.aaload, 1) := by decide +kernel
theorem dX7_weight_32 : decode cX7_weight 32 = .ok (.iload_n 2, 1) := by decide +kernel
theorem dX7_weight_33 : decode cX7_weight 33 = .ok (.iaload, 1) := by decide +kernel
theorem dX7_weight_34 : decode cX7_weight 34 = .ok (.ireturn, 1) := by decide +kernel
set_option maxRecDepth 20000 in
theorem ggX7_wide_X7_isCell : GoodIn wsX7_wide wsX7_isCell := goodIn_r _ [7, 1, 8, 9, 10, 11, 12, 13, 14, 15, 16, 17, 18, 19, 20, 21, 22, 23, 24, 25, 26, 27, 28, 29, 30] (by decide +kernel) (by decide +kernel)
set_option maxRecDepth 20000 in
theorem gX7_wide_X7_isCell : GoodIn wsX7_wide (wsV RX7 110 RX7 yX7_isCell wsX7_isCell) := goodIn_app (goodIn_of _ (by decide +kernel)) ggX7_wide_X7_isCell
theorem dX7_wide_0 : decode cX7_wide 0 = .ok (.aload_n 0, 1) := by decide +kernel
theorem dX7_wide_1 : decode cX7_wide 1 = .ok (.iload_n 1, 1) := by decide +kernel
theorem dX7_wide_2 : decode cX7_wide 2 = .ok (.invokevirtual 110, 3) := by decide +kernel
theorem dX7_wide_5 : decode cX7_wide 5 = .ok (.ifCond .eq 11, 3) := by decide +kernel
theorem dX7_wide_8 : decode cX7_wide 8 = .ok (.aload_n 0, 1) := by decide +kernel
theorem dX7_wide_9 : decode cX7_wide 9 = .ok (.iload_n 2, 1) := by decide +kernel
theorem dX7_wide_10 : decode cX7_wide 10 = .ok (.invokevirtual 110, 3) := by decide +kernel
theorem dX7_wide_13 : decode cX7_wide 13 = .ok (.ifCond .ne 5, 3) := by decide +kernel
theorem dX7_wide_16 : decode cX7_wide 16 = .ok (.iconst (-1), 1) := by decide +kernel
theorem dX7_wide_17 : decode cX7_wide 17 = .ok (.ireturn, 1) := by decide +kernel
theorem dX7_wide_18 : decode cX7_wide 18 = .ok (.aload_n 0, 1) := by decide +kernel
theorem dX7_wide_19 : decode cX7_wide 19 = .ok (.getfield 54, 3) := by decide +kernel
theorem dX7_wide_22 : decode cX7_wide 22 = .ok (.getfield 162, 3) := by decide +kernel
theorem dX7_wide_25 : decode cX7_wide 25 = .ok (.iload_n 1, 1) := by decide +kernel
theorem dX7_wide_26 : decode cX7_wide 26 = .ok (.aaload, 1) := by decide +kernel
theorem dX7_wide_27 : decode cX7_wide 27 = .ok (.iload_n 2, 1) := by decide +kernel
theorem dX7_wide_28 : decode cX7_wide 28 = .ok (.iaload, 1) := by decide +kernel
theorem dX7_wide_29 : decode cX7_wide 29 = .ok (.ireturn, 1) := by decide +kernel
set_option maxRecDepth 20000 in
theorem ggX7_tick_X7_isCell : GoodIn wsX7_tick wsX7_isCell := goodIn_r _ [8, 2, 9, 65, 66, 67, 68, 69, 70, 71, 72, 73, 74, 75, 76, 77, 78, 79, 80, 81, 82, 83, 84, 85, 86] (by decide +kernel) (by decide +kernel)
set_option maxRecDepth 20000 in
theorem gX7_tick_X7_isCell : GoodIn wsX7_tick (wsV RX7 110 RX7 yX7_isCell wsX7_isCell) := goodIn_app (goodIn_of _ (by decide +kernel)) ggX7_tick_X7_isCell
set_option maxRecDepth 20000 in
theorem ggX7_tick_X4_canGo : GoodIn wsX7_tick wsX4_canGo := goodIn_r _ [14, 15, 16, 17, 18, 7, 19, 87, 88, 89, 90, 91, 92, 93, 94, 95, 96, 75, 76, 77, 78, 79, 80, 81, 82, 83, 84, 85, 86] (by decide +kernel) (by decide +kernel)
set_option maxRecDepth 20000 in
theorem gX7_tick_X4_canGo : GoodIn wsX7_tick (wsV RX7 165 RX4 yX4_canGo wsX4_canGo) := goodIn_app (goodIn_of _ (by decide +kernel)) ggX7_tick_X4_canGo
set_option maxRecDepth 20000 in
theorem ggX7_tick_X2_keep : GoodIn wsX7_tick wsX2_keep := goodIn_r _ [24, 25, 26, 27, 28, 29, 30, 31, 32, 33, 34, 13, 35, 16, 36, 37, 38, 39, 40, 41, 42, 15, 43, 44, 45, 46, 47, 97, 98, 99, 87, 88, 89, 90, 91, 92, 93, 94, 95, 96] (by decide +kernel) (by decide +kernel)
set_option maxRecDepth 20000 in
theorem gX7_tick_X2_keep : GoodIn wsX7_tick (wsV RX7 120 RX2 yX2_keep wsX2_keep) := goodIn_app (goodIn_of _ (by decide +kernel)) ggX7_tick_X2_keep
set_option maxRecDepth 20000 in
theorem ggX7_tick_X4_go : GoodIn wsX7_tick wsX4_go := goodIn_r _ [51, 15, 44, 45, 46, 52, 53, 54, 13, 55, 41, 42, 56, 57, 58, 59, 40, 43, 60, 61, 62, 63, 64, 87, 88, 89, 90, 91, 92, 93, 94, 95, 96, 75, 76, 77, 78, 79, 80, 81, 82, 83, 84, 85, 86] (by decide +kernel) (by decide +kernel)
set_option maxRecDepth 20000 in
theorem gX7_tick_X4_go : GoodIn wsX7_tick (wsV RX7 169 RX4 yX4_go wsX4_go) := goodIn_app (goodIn_of _ (by decide +kernel)) ggX7_tick_X4_go
theorem dX7_tick_0 : decode cX7_tick 0 = .ok (.aload_n 0, 1) := by decide +kernel
theorem dX7_tick_1 : decode cX7_tick 1 = .ok (.iload_n 1, 1) := by decide +kernel
theorem dX7_tick_2 : decode cX7_tick 2 = .ok (.invokevirtual 110, 3) := by decide +kernel
theorem dX7_tick_5 : decode cX7_tick 5 = .ok (.ifCond .ne 5, 3) := by decide +kernel
theorem dX7_tick_8 : decode cX7_tick 8 = .ok (.iconst (-1), 1) := by decide +kernel
theorem dX7_tick_9 : decode cX7_tick 9 = .ok (.ireturn, 1) := by decide +kernel
theorem dX7_tick_10 : decode cX7_tick 10 = .ok (.aload_n 0, 1) := by decide +kernel
theorem dX7_tick_11 : decode cX7_tick 11 = .ok (.getfield 58, 3) := by decide +kernel
theorem dX7_tick_14 : decode cX7_tick 14 = .ok (.aload_n 0, 1) := by decide +kernel
theorem dX7_tick_15 : decode cX7_tick 15 = .ok (.getfield 54, 3) := by decide +kernel
theorem dX7_tick_18 : decode cX7_tick 18 = .ok (.iload_n 1, 1) := by decide +kernel
theorem dX7_tick_19 : decode cX7_tick 19 = .ok (.invokevirtual 165, 3) := by decide +kernel
theorem dX7_tick_22 : decode cX7_tick 22 = .ok (.ifCond .ne 6, 3) := by decide +kernel
theorem dX7_tick_25 : decode cX7_tick 25 = .ok (.bipush (-2), 2) := by decide +kernel
theorem dX7_tick_27 : decode cX7_tick 27 = .ok (.ireturn, 1) := by decide +kernel
theorem dX7_tick_28 : decode cX7_tick 28 = .ok (.aload_n 0, 1) := by decide +kernel
theorem dX7_tick_29 : decode cX7_tick 29 = .ok (.getfield 19, 3) := by decide +kernel
theorem dX7_tick_32 : decode cX7_tick 32 = .ok (.aload_n 0, 1) := by decide +kernel
theorem dX7_tick_33 : decode cX7_tick 33 = .ok (.getfield 58, 3) := by decide +kernel
theorem dX7_tick_36 : decode cX7_tick 36 = .ok (.invokevirtual 120, 3) := by decide +kernel
theorem dX7_tick_39 : decode cX7_tick 39 = .ok (.aload_n 0, 1) := by decide +kernel
theorem dX7_tick_40 : decode cX7_tick 40 = .ok (.getfield 58, 3) := by decide +kernel
theorem dX7_tick_43 : decode cX7_tick 43 = .ok (.aload_n 0, 1) := by decide +kernel
theorem dX7_tick_44 : decode cX7_tick 44 = .ok (.getfield 54, 3) := by decide +kernel
theorem dX7_tick_47 : decode cX7_tick 47 = .ok (.iload_n 1, 1) := by decide +kernel
theorem dX7_tick_48 : decode cX7_tick 48 = .ok (.invokevirtual 169, 3) := by decide +kernel
theorem dX7_tick_51 : decode cX7_tick 51 = .ok (.ifCond .eq 7, 3) := by decide +kernel
theorem dX7_tick_54 : decode cX7_tick 54 = .ok (.iconst 1, 1) := by decide +kernel
theorem dX7_tick_55 : decode cX7_tick 55 = .ok (.goto 4, 3) := by decide +kernel
theorem dX7_tick_58 : decode cX7_tick 58 = .ok (.iconst 0, 1) := by decide +kernel
theorem dX7_tick_59 : decode cX7_tick 59 = .ok (.ireturn, 1) := by decide +kernel
set_option maxRecDepth 20000 in
theorem ggX7_page_X7_seek : GoodIn wsX7_page wsX7_seek := goodIn_r _ [11, 1, 12, 13, 3, 14, 15, 16, 17, 18, 19, 20, 21, 22, 23, 24, 25, 26, 27, 28, 29, 30, 31, 32, 33, 34, 35, 36, 37, 38, 39, 40, 41, 42, 43, 44, 45, 46, 47, 48, 49, 50, 51, 52, 53, 54, 55, 10, 56, 57, 58, 59, 60, 61, 62, 63, 64, 65, 66, 67, 68, 69, 70, 71, 72, 73, 74, 75, 76, 77, 78, 79, 80, 81, 82, 83, 84, 85, 86, 87, 88, 89, 90, 124, 125, 126, 127, 128, 129, 130, 131, 132, 133, 148, 149, 150, 151, 152, 153, 154, 155, 156, 157, 158, 159, 160, 161, 162, 163, 164, 165, 138, 139, 140, 141, 142, 143, 144, 145, 146, 147, 166, 134, 135, 136, 137] (by decide +kernel) (by decide +kernel)
set_option maxRecDepth 20000 in
theorem gX7_page_X7_seek : GoodIn wsX7_page (wsV RX7 172 RX7 yX7_seek wsX7_seek) := goodIn_app (goodIn_of _ (by decide +kernel)) ggX7_page_X7_seek
set_option maxRecDepth 20000 in
theorem ggX7_page_X3_cellsOf : GoodIn wsX7_page wsX3_cellsOf := goodIn_r _ [94, 67, 68, 75, 87, 88, 89, 65, 90, 55, 10, 56, 134, 135, 136, 137] (by decide +kernel) (by decide +kernel)
set_option maxRecDepth 20000 in
theorem gX7_page_X3_cellsOf : GoodIn wsX7_page (wsV RX7 178 RX3 yX3_cellsOf wsX3_cellsOf) := goodIn_app (goodIn_of _ (by decide +kernel)) ggX7_page_X3_cellsOf
set_option maxRecDepth 20000 in
theorem ggX7_page_J6_bitCount_0f7a4 : GoodIn wsX7_page wsJ6_bitCount_0f7a4 := goodIn_r _ [79, 80, 81, 82] (by decide +kernel) (by decide +kernel)
set_option maxRecDepth 20000 in
theorem gX7_page_J6_bitCount_0f7a4 : GoodIn wsX7_page (va_wsS RX7 182 yJ6_bitCount_0f7a4 wsJ6_bitCount_0f7a4) := goodIn_app (goodIn_of _ (by decide +kernel)) ggX7_page_J6_bitCount_0f7a4
set_option maxRecDepth 20000 in
theorem ggX7_page_X7_holds : GoodIn wsX7_page wsX7_holds := goodIn_r _ [56] (by decide +kernel) (by decide +kernel)
set_option maxRecDepth 20000 in
theorem gX7_page_X7_holds : GoodIn wsX7_page (va_wsS RX7 190 yX7_holds wsX7_holds) := goodIn_app (goodIn_of _ (by decide +kernel)) ggX7_page_X7_holds
set_option maxRecDepth 20000 in
theorem ggX7_page_X2_keep : GoodIn wsX7_page wsX2_keep := goodIn_r _ [101, 102, 103, 104, 105, 25, 26, 27, 106, 107, 108, 39, 109, 110, 111, 112, 113, 114, 42, 41, 45, 115, 43, 116, 117, 118, 119, 167, 168, 169, 138, 139, 140, 141, 142, 143, 144, 145, 146, 147] (by decide +kernel) (by decide +kernel)
set_option maxRecDepth 20000 in
theorem gX7_page_X2_keep : GoodIn wsX7_page (wsV RX7 120 RX2 yX2_keep wsX2_keep) := goodIn_app (goodIn_of _ (by decide +kernel)) ggX7_page_X2_keep
set_option maxRecDepth 20000 in
theorem ggX7_page_X4_register : GoodIn wsX7_page wsX4_register := goodIn_r _ [123, 115, 43, 116, 117, 138, 139, 140, 141, 142, 143, 144, 145, 146, 147] (by decide +kernel) (by decide +kernel)
set_option maxRecDepth 20000 in
theorem gX7_page_X4_register : GoodIn wsX7_page (wsV RX7 124 RX4 yX4_register wsX4_register) := goodIn_app (goodIn_of _ (by decide +kernel)) ggX7_page_X4_register
theorem dX7_page_0 : decode cX7_page 0 = .ok (.aload_n 0, 1) := by decide +kernel
theorem dX7_page_1 : decode cX7_page 1 = .ok (.invokevirtual 172, 3) := by decide +kernel
theorem dX7_page_4 : decode cX7_page 4 = .ok (.iconst 0, 1) := by decide +kernel
theorem dX7_page_5 : decode cX7_page 5 = .ok (.istore_n 1, 1) := by decide +kernel
theorem dX7_page_6 : decode cX7_page 6 = .ok (.iconst 0, 1) := by decide +kernel
theorem dX7_page_7 : decode cX7_page 7 = .ok (.istore_n 2, 1) := by decide +kernel
theorem dX7_page_8 : decode cX7_page 8 = .ok (.iload_n 2, 1) := by decide +kernel
theorem dX7_page_9 : decode cX7_page 9 = .ok (.aload_n 0, 1) := by decide +kernel
theorem dX7_page_10 : decode cX7_page 10 = .ok (.getfield 40, 3) := by decide +kernel
theorem dX7_page_13 : decode cX7_page 13 = .ok (.getfield 175, 3) := by decide +kernel
theorem dX7_page_16 : decode cX7_page 16 = .ok (.if_icmp .ge 42, 3) := by decide +kernel
theorem dX7_page_19 : decode cX7_page 19 = .ok (.aload_n 0, 1) := by decide +kernel
theorem dX7_page_20 : decode cX7_page 20 = .ok (.getfield 40, 3) := by decide +kernel
theorem dX7_page_23 : decode cX7_page 23 = .ok (.iload_n 2, 1) := by decide +kernel
theorem dX7_page_24 : decode cX7_page 24 = .ok (.invokevirtual 178, 3) := by decide +kernel
theorem dX7_page_27 : decode cX7_page 27 = .ok (.istore_n 3, 1) := by decide +kernel
theorem dX7_page_28 : decode cX7_page 28 = .ok (.iload_n 1, 1) := by decide +kernel
theorem dX7_page_29 : decode cX7_page 29 = .ok (.iload_n 3, 1) := by decide +kernel
theorem dX7_page_30 : decode cX7_page 30 = .ok (.invokestatic 182, 3) := by decide +kernel
theorem dX7_page_33 : decode cX7_page 33 = .ok (.iadd, 1) := by decide +kernel
theorem dX7_page_34 : decode cX7_page 34 = .ok (.istore_n 1, 1) := by decide +kernel
theorem dX7_page_35 : decode cX7_page 35 = .ok (.iload_n 3, 1) := by decide +kernel
theorem dX7_page_36 : decode cX7_page 36 = .ok (.aload_n 0, 1) := by decide +kernel
theorem dX7_page_37 : decode cX7_page 37 = .ok (.getfield 58, 3) := by decide +kernel
theorem dX7_page_40 : decode cX7_page 40 = .ok (.getfield 187, 3) := by decide +kernel
theorem dX7_page_43 : decode cX7_page 43 = .ok (.invokestatic 190, 3) := by decide +kernel
theorem dX7_page_46 : decode cX7_page 46 = .ok (.ifCond .eq 6, 3) := by decide +kernel
theorem dX7_page_49 : decode cX7_page 49 = .ok (.goto 9, 3) := by decide +kernel
theorem dX7_page_52 : decode cX7_page 52 = .ok (.iinc 2 1, 3) := by decide +kernel
theorem dX7_page_55 : decode cX7_page 55 = .ok (.goto (-47), 3) := by decide +kernel
theorem dX7_page_58 : decode cX7_page 58 = .ok (.aload_n 0, 1) := by decide +kernel
theorem dX7_page_59 : decode cX7_page 59 = .ok (.getfield 19, 3) := by decide +kernel
theorem dX7_page_62 : decode cX7_page 62 = .ok (.aload_n 0, 1) := by decide +kernel
theorem dX7_page_63 : decode cX7_page 63 = .ok (.getfield 58, 3) := by decide +kernel
theorem dX7_page_66 : decode cX7_page 66 = .ok (.invokevirtual 120, 3) := by decide +kernel
theorem dX7_page_69 : decode cX7_page 69 = .ok (.aload_n 0, 1) := by decide +kernel
theorem dX7_page_70 : decode cX7_page 70 = .ok (.getfield 58, 3) := by decide +kernel
theorem dX7_page_73 : decode cX7_page 73 = .ok (.dup, 1) := by decide +kernel
theorem dX7_page_74 : decode cX7_page 74 = .ok (.getfield 193, 3) := by decide +kernel
theorem dX7_page_77 : decode cX7_page 77 = .ok (.iload_n 1, 1) := by decide +kernel
theorem dX7_page_78 : decode cX7_page 78 = .ok (.iadd, 1) := by decide +kernel
theorem dX7_page_79 : decode cX7_page 79 = .ok (.putfield 193, 3) := by decide +kernel
theorem dX7_page_82 : decode cX7_page 82 = .ok (.aload_n 0, 1) := by decide +kernel
theorem dX7_page_83 : decode cX7_page 83 = .ok (.getfield 58, 3) := by decide +kernel
theorem dX7_page_86 : decode cX7_page 86 = .ok (.invokevirtual 124, 3) := by decide +kernel
theorem dX7_page_89 : decode cX7_page 89 = .ok (.iload_n 1, 1) := by decide +kernel
theorem dX7_page_90 : decode cX7_page 90 = .ok (.ireturn, 1) := by decide +kernel
theorem dX7_handset_0 : decode cX7_handset 0 = .ok (.iload_n 1, 1) := by decide +kernel
theorem dX7_handset_1 : decode cX7_handset 1 = .ok (.tableswitch 123 0 6 #[43, 51, 59, 67, 75, 83, 91], 43) := by decide +kernel
theorem dX7_handset_44 : decode cX7_handset 44 = .ok (.aload_n 0, 1) := by decide +kernel
theorem dX7_handset_45 : decode cX7_handset 45 = .ok (.getfield 58, 3) := by decide +kernel
theorem dX7_handset_48 : decode cX7_handset 48 = .ok (.getfield 187, 3) := by decide +kernel
theorem dX7_handset_51 : decode cX7_handset 51 = .ok (.ireturn, 1) := by decide +kernel
theorem dX7_handset_52 : decode cX7_handset 52 = .ok (.aload_n 0, 1) := by decide +kernel
theorem dX7_handset_53 : decode cX7_handset 53 = .ok (.getfield 58, 3) := by decide +kernel
theorem dX7_handset_56 : decode cX7_handset 56 = .ok (.getfield 196, 3) := by decide +kernel
theorem dX7_handset_59 : decode cX7_handset 59 = .ok (.ireturn, 1) := by decide +kernel
theorem dX7_handset_60 : decode cX7_handset 60 = .ok (.aload_n 0, 1) := by decide +kernel
theorem dX7_handset_61 : decode cX7_handset 61 = .ok (.getfield 58, 3) := by decide +kernel
theorem dX7_handset_64 : decode cX7_handset 64 = .ok (.getfield 199, 3) := by decide +kernel
theorem dX7_handset_67 : decode cX7_handset 67 = .ok (.ireturn, 1) := by decide +kernel
theorem dX7_handset_68 : decode cX7_handset 68 = .ok (.aload_n 0, 1) := by decide +kernel
theorem dX7_handset_69 : decode cX7_handset 69 = .ok (.getfield 58, 3) := by decide +kernel
theorem dX7_handset_72 : decode cX7_handset 72 = .ok (.getfield 202, 3) := by decide +kernel
theorem dX7_handset_75 : decode cX7_handset 75 = .ok (.ireturn, 1) := by decide +kernel
theorem dX7_handset_76 : decode cX7_handset 76 = .ok (.aload_n 0, 1) := by decide +kernel
theorem dX7_handset_77 : decode cX7_handset 77 = .ok (.getfield 58, 3) := by decide +kernel
theorem dX7_handset_80 : decode cX7_handset 80 = .ok (.getfield 205, 3) := by decide +kernel
theorem dX7_handset_83 : decode cX7_handset 83 = .ok (.ireturn, 1) := by decide +kernel
theorem dX7_handset_84 : decode cX7_handset 84 = .ok (.aload_n 0, 1) := by decide +kernel
theorem dX7_handset_85 : decode cX7_handset 85 = .ok (.getfield 58, 3) := by decide +kernel
theorem dX7_handset_88 : decode cX7_handset 88 = .ok (.getfield 193, 3) := by decide +kernel
theorem dX7_handset_91 : decode cX7_handset 91 = .ok (.ireturn, 1) := by decide +kernel
theorem dX7_handset_92 : decode cX7_handset 92 = .ok (.aload_n 0, 1) := by decide +kernel
theorem dX7_handset_93 : decode cX7_handset 93 = .ok (.getfield 54, 3) := by decide +kernel
theorem dX7_handset_96 : decode cX7_handset 96 = .ok (.getfield 208, 3) := by decide +kernel
theorem dX7_handset_99 : decode cX7_handset 99 = .ok (.aload_n 0, 1) := by decide +kernel
theorem dX7_handset_100 : decode cX7_handset 100 = .ok (.getfield 58, 3) := by decide +kernel
theorem dX7_handset_103 : decode cX7_handset 103 = .ok (.getfield 193, 3) := by decide +kernel
theorem dX7_handset_106 : decode cX7_handset 106 = .ok (.imul, 1) := by decide +kernel
theorem dX7_handset_107 : decode cX7_handset 107 = .ok (.aload_n 0, 1) := by decide +kernel
theorem dX7_handset_108 : decode cX7_handset 108 = .ok (.getfield 54, 3) := by decide +kernel
theorem dX7_handset_111 : decode cX7_handset 111 = .ok (.getfield 211, 3) := by decide +kernel
theorem dX7_handset_114 : decode cX7_handset 114 = .ok (.aload_n 0, 1) := by decide +kernel
theorem dX7_handset_115 : decode cX7_handset 115 = .ok (.getfield 58, 3) := by decide +kernel
theorem dX7_handset_118 : decode cX7_handset 118 = .ok (.getfield 205, 3) := by decide +kernel
theorem dX7_handset_121 : decode cX7_handset 121 = .ok (.imul, 1) := by decide +kernel
theorem dX7_handset_122 : decode cX7_handset 122 = .ok (.iadd, 1) := by decide +kernel
theorem dX7_handset_123 : decode cX7_handset 123 = .ok (.ireturn, 1) := by decide +kernel
theorem dX7_handset_124 : decode cX7_handset 124 = .ok (.iconst (-1), 1) := by decide +kernel
theorem dX7_handset_125 : decode cX7_handset 125 = .ok (.ireturn, 1) := by decide +kernel
set_option maxRecDepth 20000 in
theorem ggX7_where_X6_find : GoodIn wsX7_where wsX6_find := goodIn_r _ [8, 9, 10, 11, 12, 13, 14, 15, 16, 17, 18, 19, 20, 7, 21, 22, 23, 24, 25, 26, 27, 28, 29, 30, 31, 32, 33, 34, 35, 36, 37, 38, 39, 40, 41, 42, 43, 44, 45, 46, 47, 48, 49, 60, 61, 62, 63, 64, 65, 66, 67, 68, 69, 70, 71, 72, 73, 74, 75, 76, 77, 78, 79, 80, 81, 82] (by decide +kernel) (by decide +kernel)
set_option maxRecDepth 20000 in
theorem gX7_where_X6_find : GoodIn wsX7_where (wsV RX7 214 RX6 yX6_find wsX6_find) := goodIn_app (goodIn_of _ (by decide +kernel)) ggX7_where_X6_find
theorem dX7_where_0 : decode cX7_where 0 = .ok (.aload_n 0, 1) := by decide +kernel
theorem dX7_where_1 : decode cX7_where 1 = .ok (.getfield 33, 3) := by decide +kernel
theorem dX7_where_4 : decode cX7_where 4 = .ok (.aload_n 0, 1) := by decide +kernel
theorem dX7_where_5 : decode cX7_where 5 = .ok (.getfield 54, 3) := by decide +kernel
theorem dX7_where_8 : decode cX7_where 8 = .ok (.aload_n 0, 1) := by decide +kernel
theorem dX7_where_9 : decode cX7_where 9 = .ok (.getfield 58, 3) := by decide +kernel
theorem dX7_where_12 : decode cX7_where 12 = .ok (.invokevirtual 214, 3) := by decide +kernel
theorem dX7_where_15 : decode cX7_where 15 = .ok (.ireturn, 1) := by decide +kernel
set_option maxRecDepth 20000 in
theorem ggX7_round_X7_seek : GoodIn wsX7_round wsX7_seek := goodIn_r _ [7, 1, 8, 9, 10, 11, 12, 13, 14, 15, 16, 17, 18, 19, 20, 21, 22, 23, 24, 25, 26, 27, 28, 29, 30, 31, 32, 33, 34, 35, 36, 37, 38, 39, 40, 41, 42, 43, 44, 45, 46, 47, 48, 49, 50, 51, 52, 6, 53, 54, 55, 56, 57, 58, 59, 60, 61, 62, 63, 64, 65, 66, 67, 68, 69, 70, 71, 72, 73, 74, 75, 76, 77, 78, 79, 80, 81, 82, 83, 84, 85, 86, 87, 92, 93, 94, 95, 96, 97, 98, 99, 100, 101, 106, 107, 108, 109, 110, 111, 112, 113, 114, 115, 116, 117, 118, 119, 120, 121, 122, 123, 124, 125, 126, 127, 128, 129, 130, 131, 132, 133, 134, 102, 103, 104, 105] (by decide +kernel) (by decide +kernel)
set_option maxRecDepth 20000 in
theorem gX7_round_X7_seek : GoodIn wsX7_round (wsV RX7 172 RX7 yX7_seek wsX7_seek) := goodIn_app (goodIn_of _ (by decide +kernel)) ggX7_round_X7_seek
set_option maxRecDepth 20000 in
theorem ggX7_round_X3_cellsOf : GoodIn wsX7_round wsX3_cellsOf := goodIn_r _ [91, 64, 65, 72, 84, 85, 86, 62, 87, 52, 6, 53, 102, 103, 104, 105] (by decide +kernel) (by decide +kernel)
set_option maxRecDepth 20000 in
theorem gX7_round_X3_cellsOf : GoodIn wsX7_round (wsV RX7 178 RX3 yX3_cellsOf wsX3_cellsOf) := goodIn_app (goodIn_of _ (by decide +kernel)) ggX7_round_X3_cellsOf
theorem dX7_round_0 : decode cX7_round 0 = .ok (.iload_n 1, 1) := by decide +kernel
theorem dX7_round_1 : decode cX7_round 1 = .ok (.iconst (-1), 1) := by decide +kernel
theorem dX7_round_2 : decode cX7_round 2 = .ok (.if_icmp .ge 5, 3) := by decide +kernel
theorem dX7_round_5 : decode cX7_round 5 = .ok (.iconst (-1), 1) := by decide +kernel
theorem dX7_round_6 : decode cX7_round 6 = .ok (.ireturn, 1) := by decide +kernel
theorem dX7_round_7 : decode cX7_round 7 = .ok (.aload_n 0, 1) := by decide +kernel
theorem dX7_round_8 : decode cX7_round 8 = .ok (.invokevirtual 172, 3) := by decide +kernel
theorem dX7_round_11 : decode cX7_round 11 = .ok (.iload_n 1, 1) := by decide +kernel
theorem dX7_round_12 : decode cX7_round 12 = .ok (.iconst (-1), 1) := by decide +kernel
theorem dX7_round_13 : decode cX7_round 13 = .ok (.if_icmp .ne 11, 3) := by decide +kernel
theorem dX7_round_16 : decode cX7_round 16 = .ok (.aload_n 0, 1) := by decide +kernel
theorem dX7_round_17 : decode cX7_round 17 = .ok (.getfield 40, 3) := by decide +kernel
theorem dX7_round_20 : decode cX7_round 20 = .ok (.getfield 175, 3) := by decide +kernel
theorem dX7_round_23 : decode cX7_round 23 = .ok (.ireturn, 1) := by decide +kernel
theorem dX7_round_24 : decode cX7_round 24 = .ok (.iload_n 1, 1) := by decide +kernel
theorem dX7_round_25 : decode cX7_round 25 = .ok (.aload_n 0, 1) := by decide +kernel
theorem dX7_round_26 : decode cX7_round 26 = .ok (.getfield 40, 3) := by decide +kernel
theorem dX7_round_29 : decode cX7_round 29 = .ok (.getfield 175, 3) := by decide +kernel
theorem dX7_round_32 : decode cX7_round 32 = .ok (.if_icmp .ge 14, 3) := by decide +kernel
theorem dX7_round_35 : decode cX7_round 35 = .ok (.aload_n 0, 1) := by decide +kernel
theorem dX7_round_36 : decode cX7_round 36 = .ok (.getfield 40, 3) := by decide +kernel
theorem dX7_round_39 : decode cX7_round 39 = .ok (.iload_n 1, 1) := by decide +kernel
theorem dX7_round_40 : decode cX7_round 40 = .ok (.invokevirtual 178, 3) := by decide +kernel
theorem dX7_round_43 : decode cX7_round 43 = .ok (.goto 5, 3) := by decide +kernel
theorem dX7_round_46 : decode cX7_round 46 = .ok (.bipush (-4), 2) := by decide +kernel
theorem dX7_round_48 : decode cX7_round 48 = .ok (.ireturn, 1) := by decide +kernel
set_option maxRecDepth 20000 in
theorem ggX7_seek_X6_find : GoodIn wsX7_seek wsX6_find := goodIn_r _ [12, 13, 14, 15, 16, 17, 18, 19, 20, 21, 22, 23, 24, 11, 25, 26, 27, 28, 29, 30, 31, 32, 33, 34, 35, 36, 37, 38, 39, 40, 41, 42, 43, 44, 45, 46, 47, 48, 49, 50, 51, 52, 53, 111, 112, 113, 114, 115, 116, 117, 118, 119, 120, 121, 99, 100, 101, 102, 103, 104, 105, 106, 107, 108, 109, 110] (by decide +kernel) (by decide +kernel)
set_option maxRecDepth 20000 in
theorem gX7_seek_X6_find : GoodIn wsX7_seek (wsV RX7 214 RX6 yX6_find wsX6_find) := goodIn_app (goodIn_of _ (by decide +kernel)) ggX7_seek_X6_find
set_option maxRecDepth 20000 in
theorem ggX7_seek_X3_lineUp : GoodIn wsX7_seek wsX3_lineUp := goodIn_r _ [58, 59, 60, 46, 47, 48, 122, 123, 124, 125] (by decide +kernel) (by decide +kernel)
set_option maxRecDepth 20000 in
theorem gX7_seek_X3_lineUp : GoodIn wsX7_seek (wsV RX7 221 RX3 yX3_lineUp wsX3_lineUp) := goodIn_app (goodIn_of _ (by decide +kernel)) ggX7_seek_X3_lineUp
set_option maxRecDepth 20000 in
theorem ggX7_seek_X3_split : GoodIn wsX7_seek wsX3_split := goodIn_r _ [64, 65, 66, 67, 59, 68, 69, 70, 71, 72, 73, 74, 75, 76, 77, 57, 78, 60, 79, 80, 81, 82, 46, 47, 48, 122, 123, 124, 125] (by decide +kernel) (by decide +kernel)
set_option maxRecDepth 20000 in
theorem gX7_seek_X3_split : GoodIn wsX7_seek (wsV RX7 228 RX3 yX3_split wsX3_split) := goodIn_app (goodIn_of _ (by decide +kernel)) ggX7_seek_X3_split
theorem dX7_seek_0 : decode cX7_seek 0 = .ok (.aload_n 0, 1) := by decide +kernel
theorem dX7_seek_1 : decode cX7_seek 1 = .ok (.getfield 40, 3) := by decide +kernel
theorem dX7_seek_4 : decode cX7_seek 4 = .ok (.aload_n 0, 1) := by decide +kernel
theorem dX7_seek_5 : decode cX7_seek 5 = .ok (.getfield 33, 3) := by decide +kernel
theorem dX7_seek_8 : decode cX7_seek 8 = .ok (.aload_n 0, 1) := by decide +kernel
theorem dX7_seek_9 : decode cX7_seek 9 = .ok (.getfield 54, 3) := by decide +kernel
theorem dX7_seek_12 : decode cX7_seek 12 = .ok (.aload_n 0, 1) := by decide +kernel
theorem dX7_seek_13 : decode cX7_seek 13 = .ok (.getfield 58, 3) := by decide +kernel
theorem dX7_seek_16 : decode cX7_seek 16 = .ok (.invokevirtual 214, 3) := by decide +kernel
theorem dX7_seek_19 : decode cX7_seek 19 = .ok (.aload_n 0, 1) := by decide +kernel
theorem dX7_seek_20 : decode cX7_seek 20 = .ok (.getfield 26, 3) := by decide +kernel
theorem dX7_seek_23 : decode cX7_seek 23 = .ok (.getfield 217, 3) := by decide +kernel
theorem dX7_seek_26 : decode cX7_seek 26 = .ok (.invokevirtual 221, 3) := by decide +kernel
theorem dX7_seek_29 : decode cX7_seek 29 = .ok (.aload_n 0, 1) := by decide +kernel
theorem dX7_seek_30 : decode cX7_seek 30 = .ok (.getfield 40, 3) := by decide +kernel
theorem dX7_seek_33 : decode cX7_seek 33 = .ok (.aload_n 0, 1) := by decide +kernel
theorem dX7_seek_34 : decode cX7_seek 34 = .ok (.getfield 54, 3) := by decide +kernel
theorem dX7_seek_37 : decode cX7_seek 37 = .ok (.getfield 225, 3) := by decide +kernel
theorem dX7_seek_40 : decode cX7_seek 40 = .ok (.aload_n 0, 1) := by decide +kernel
theorem dX7_seek_41 : decode cX7_seek 41 = .ok (.getfield 26, 3) := by decide +kernel
theorem dX7_seek_44 : decode cX7_seek 44 = .ok (.getfield 217, 3) := by decide +kernel
theorem dX7_seek_47 : decode cX7_seek 47 = .ok (.invokevirtual 228, 3) := by decide +kernel
theorem dX7_seek_50 : decode cX7_seek 50 = .ok (.return_, 1) := by decide +kernel
set_option maxRecDepth 20000 in
theorem ggX7_chance_X7_isCell : GoodIn wsX7_chance wsX7_isCell := goodIn_r _ [9, 10, 11, 21, 22, 23, 24, 25, 26, 27, 28, 29, 30, 37, 38, 39, 40, 41, 42, 43, 44, 45, 46, 47, 48] (by decide +kernel) (by decide +kernel)
set_option maxRecDepth 20000 in
theorem gX7_chance_X7_isCell : GoodIn wsX7_chance (wsV RX7 110 RX7 yX7_isCell wsX7_isCell) := goodIn_app (goodIn_of _ (by decide +kernel)) ggX7_chance_X7_isCell
set_option maxRecDepth 20000 in
theorem ggX7_chance_X7_isPart : GoodIn wsX7_chance wsX7_isPart := goodIn_r _ [14] (by decide +kernel) (by decide +kernel)
set_option maxRecDepth 20000 in
theorem gX7_chance_X7_isPart : GoodIn wsX7_chance (va_wsS RX7 231 yX7_isPart wsX7_isPart) := goodIn_app (goodIn_of _ (by decide +kernel)) ggX7_chance_X7_isPart
set_option maxRecDepth 20000 in
theorem ggX7_chance_X7_lowest : GoodIn wsX7_chance wsX7_lowest := goodIn_r _ [17, 18, 19, 8, 20] (by decide +kernel) (by decide +kernel)
set_option maxRecDepth 20000 in
theorem gX7_chance_X7_lowest : GoodIn wsX7_chance (va_wsS RX7 240 yX7_lowest wsX7_lowest) := goodIn_app (goodIn_of _ (by decide +kernel)) ggX7_chance_X7_lowest
theorem dX7_chance_0 : decode cX7_chance 0 = .ok (.aload_n 0, 1) := by decide +kernel
theorem dX7_chance_1 : decode cX7_chance 1 = .ok (.iload_n 1, 1) := by decide +kernel
theorem dX7_chance_2 : decode cX7_chance 2 = .ok (.invokevirtual 110, 3) := by decide +kernel
theorem dX7_chance_5 : decode cX7_chance 5 = .ok (.ifCond .eq 10, 3) := by decide +kernel
theorem dX7_chance_8 : decode cX7_chance 8 = .ok (.iload_n 2, 1) := by decide +kernel
theorem dX7_chance_9 : decode cX7_chance 9 = .ok (.invokestatic 231, 3) := by decide +kernel
theorem dX7_chance_12 : decode cX7_chance 12 = .ok (.ifCond .ne 7, 3) := by decide +kernel
theorem dX7_chance_15 : decode cX7_chance 15 = .ok (.ldc2_w 234, 3) := by decide +kernel
theorem dX7_chance_18 : decode cX7_chance 18 = .ok (.lreturn, 1) := by decide +kernel
theorem dX7_chance_19 : decode cX7_chance 19 = .ok (.aload_n 0, 1) := by decide +kernel
theorem dX7_chance_20 : decode cX7_chance 20 = .ok (.getfield 26, 3) := by decide +kernel
theorem dX7_chance_23 : decode cX7_chance 23 = .ok (.getfield 217, 3) := by decide +kernel
theorem dX7_chance_26 : decode cX7_chance 26 = .ok (.iload_n 1, 1) := by decide +kernel
theorem dX7_chance_27 : decode cX7_chance 27 = .ok (.laload, 1) := by decide +kernel
theorem dX7_chance_28 : decode cX7_chance 28 = .ok (.aload_n 0, 1) := by decide +kernel
theorem dX7_chance_29 : decode cX7_chance 29 = .ok (.getfield 26, 3) := by decide +kernel
theorem dX7_chance_32 : decode cX7_chance 32 = .ok (.getfield 236, 3) := by decide +kernel
theorem dX7_chance_35 : decode cX7_chance 35 = .ok (.iload_n 2, 1) := by decide +kernel
theorem dX7_chance_36 : decode cX7_chance 36 = .ok (.invokestatic 240, 3) := by decide +kernel
theorem dX7_chance_39 : decode cX7_chance 39 = .ok (.lreturn, 1) := by decide +kernel
set_option maxRecDepth 20000 in
theorem ggX7_mean_X7_isPart : GoodIn wsX7_mean wsX7_isPart := goodIn_r _ [11] (by decide +kernel) (by decide +kernel)
set_option maxRecDepth 20000 in
theorem gX7_mean_X7_isPart : GoodIn wsX7_mean (va_wsS RX7 231 yX7_isPart wsX7_isPart) := goodIn_app (goodIn_of _ (by decide +kernel)) ggX7_mean_X7_isPart
set_option maxRecDepth 20000 in
theorem ggX7_mean_X0_crosses : GoodIn wsX7_mean wsX0_crosses := goodIn_r _ [16, 17, 18, 19, 75, 76, 77, 78, 79, 80, 81, 82, 83, 84, 85, 86] (by decide +kernel) (by decide +kernel)
set_option maxRecDepth 20000 in
theorem gX7_mean_X0_crosses : GoodIn wsX7_mean (wsV RX7 244 RX0 yX0_crosses wsX0_crosses) := goodIn_app (goodIn_of _ (by decide +kernel)) ggX7_mean_X0_crosses
set_option maxRecDepth 20000 in
theorem ggX7_mean_X7_lowest : GoodIn wsX7_mean wsX7_lowest := goodIn_r _ [22, 23, 24, 10, 25] (by decide +kernel) (by decide +kernel)
set_option maxRecDepth 20000 in
theorem gX7_mean_X7_lowest : GoodIn wsX7_mean (va_wsS RX7 240 yX7_lowest wsX7_lowest) := goodIn_app (goodIn_of _ (by decide +kernel)) ggX7_mean_X7_lowest
set_option maxRecDepth 20000 in
theorem ggX7_mean_X0_movesOn : GoodIn wsX7_mean wsX0_movesOn := goodIn_r _ [29, 17, 18, 30, 75, 76, 77, 78, 79, 80, 81, 82, 83, 84, 85, 86] (by decide +kernel) (by decide +kernel)
set_option maxRecDepth 20000 in
theorem gX7_mean_X0_movesOn : GoodIn wsX7_mean (wsV RX7 248 RX0 yX0_movesOn wsX0_movesOn) := goodIn_app (goodIn_of _ (by decide +kernel)) ggX7_mean_X0_movesOn
set_option maxRecDepth 20000 in
theorem ggX7_mean_X7_rate : GoodIn wsX7_mean wsX7_rate := goodIn_r _ [34, 4, 35, 2, 3, 5, 6, 36, 37, 12, 13, 14, 15, 16, 17, 18, 19, 20, 21, 10, 22, 23, 24, 25, 26, 27, 28, 29, 30, 49, 50, 51, 52, 53, 54, 55, 56, 57, 58, 59, 60, 61, 62, 63, 64, 65, 66, 67, 68, 69, 70, 71, 72, 73, 74, 75, 76, 77, 78, 79, 80, 81, 82, 83, 84, 85, 86] (by decide +kernel) (by decide +kernel)
set_option maxRecDepth 20000 in
theorem gX7_mean_X7_rate : GoodIn wsX7_mean (wsV RX7 252 RX7 yX7_rate wsX7_rate) := goodIn_app (goodIn_of _ (by decide +kernel)) ggX7_mean_X7_rate
set_option maxRecDepth 20000 in
theorem ggX7_mean_X0_expense : GoodIn wsX7_mean wsX0_expense := goodIn_r _ [41, 17, 42, 43, 44, 45, 46, 10, 47, 48, 13, 14, 15, 16, 18, 19, 75, 76, 77, 78, 79, 80, 81, 82, 83, 84, 85, 86, 69, 70, 71, 72, 73, 74] (by decide +kernel) (by decide +kernel)
set_option maxRecDepth 20000 in
theorem gX7_mean_X0_expense : GoodIn wsX7_mean (wsV RX7 256 RX0 yX0_expense wsX0_expense) := goodIn_app (goodIn_of _ (by decide +kernel)) ggX7_mean_X0_expense
theorem dX7_mean_0 : decode cX7_mean 0 = .ok (.iload_n 2, 1) := by decide +kernel
theorem dX7_mean_1 : decode cX7_mean 1 = .ok (.invokestatic 231, 3) := by decide +kernel
theorem dX7_mean_4 : decode cX7_mean 4 = .ok (.ifCond .ne 7, 3) := by decide +kernel
theorem dX7_mean_7 : decode cX7_mean 7 = .ok (.ldc2_w 234, 3) := by decide +kernel
theorem dX7_mean_10 : decode cX7_mean 10 = .ok (.lreturn, 1) := by decide +kernel
theorem dX7_mean_11 : decode cX7_mean 11 = .ok (.iload_n 1, 1) := by decide +kernel
theorem dX7_mean_12 : decode cX7_mean 12 = .ok (.tableswitch 125 0 3 #[32, 62, 85, 91], 32) := by decide +kernel
theorem dX7_mean_44 : decode cX7_mean 44 = .ok (.aload_n 0, 1) := by decide +kernel
theorem dX7_mean_45 : decode cX7_mean 45 = .ok (.getfield 26, 3) := by decide +kernel
theorem dX7_mean_48 : decode cX7_mean 48 = .ok (.aload_n 0, 1) := by decide +kernel
theorem dX7_mean_49 : decode cX7_mean 49 = .ok (.getfield 54, 3) := by decide +kernel
theorem dX7_mean_52 : decode cX7_mean 52 = .ok (.aload_n 0, 1) := by decide +kernel
theorem dX7_mean_53 : decode cX7_mean 53 = .ok (.getfield 58, 3) := by decide +kernel
theorem dX7_mean_56 : decode cX7_mean 56 = .ok (.getfield 117, 3) := by decide +kernel
theorem dX7_mean_59 : decode cX7_mean 59 = .ok (.invokevirtual 244, 3) := by decide +kernel
theorem dX7_mean_62 : decode cX7_mean 62 = .ok (.aload_n 0, 1) := by decide +kernel
theorem dX7_mean_63 : decode cX7_mean 63 = .ok (.getfield 26, 3) := by decide +kernel
theorem dX7_mean_66 : decode cX7_mean 66 = .ok (.getfield 236, 3) := by decide +kernel
theorem dX7_mean_69 : decode cX7_mean 69 = .ok (.iload_n 2, 1) := by decide +kernel
theorem dX7_mean_70 : decode cX7_mean 70 = .ok (.invokestatic 240, 3) := by decide +kernel
theorem dX7_mean_73 : decode cX7_mean 73 = .ok (.lreturn, 1) := by decide +kernel
theorem dX7_mean_74 : decode cX7_mean 74 = .ok (.aload_n 0, 1) := by decide +kernel
theorem dX7_mean_75 : decode cX7_mean 75 = .ok (.getfield 26, 3) := by decide +kernel
theorem dX7_mean_78 : decode cX7_mean 78 = .ok (.aload_n 0, 1) := by decide +kernel
theorem dX7_mean_79 : decode cX7_mean 79 = .ok (.getfield 54, 3) := by decide +kernel
theorem dX7_mean_82 : decode cX7_mean 82 = .ok (.invokevirtual 248, 3) := by decide +kernel
theorem dX7_mean_85 : decode cX7_mean 85 = .ok (.aload_n 0, 1) := by decide +kernel
theorem dX7_mean_86 : decode cX7_mean 86 = .ok (.getfield 26, 3) := by decide +kernel
theorem dX7_mean_89 : decode cX7_mean 89 = .ok (.getfield 236, 3) := by decide +kernel
theorem dX7_mean_92 : decode cX7_mean 92 = .ok (.iload_n 2, 1) := by decide +kernel
theorem dX7_mean_93 : decode cX7_mean 93 = .ok (.invokestatic 240, 3) := by decide +kernel
theorem dX7_mean_96 : decode cX7_mean 96 = .ok (.lreturn, 1) := by decide +kernel
theorem dX7_mean_97 : decode cX7_mean 97 = .ok (.aload_n 0, 1) := by decide +kernel
theorem dX7_mean_98 : decode cX7_mean 98 = .ok (.iload_n 2, 1) := by decide +kernel
theorem dX7_mean_99 : decode cX7_mean 99 = .ok (.invokevirtual 252, 3) := by decide +kernel
theorem dX7_mean_102 : decode cX7_mean 102 = .ok (.lreturn, 1) := by decide +kernel
theorem dX7_mean_103 : decode cX7_mean 103 = .ok (.aload_n 0, 1) := by decide +kernel
theorem dX7_mean_104 : decode cX7_mean 104 = .ok (.getfield 26, 3) := by decide +kernel
theorem dX7_mean_107 : decode cX7_mean 107 = .ok (.aload_n 0, 1) := by decide +kernel
theorem dX7_mean_108 : decode cX7_mean 108 = .ok (.getfield 54, 3) := by decide +kernel
theorem dX7_mean_111 : decode cX7_mean 111 = .ok (.aload_n 0, 1) := by decide +kernel
theorem dX7_mean_112 : decode cX7_mean 112 = .ok (.getfield 58, 3) := by decide +kernel
theorem dX7_mean_115 : decode cX7_mean 115 = .ok (.getfield 117, 3) := by decide +kernel
theorem dX7_mean_118 : decode cX7_mean 118 = .ok (.invokevirtual 256, 3) := by decide +kernel
theorem dX7_mean_121 : decode cX7_mean 121 = .ok (.ldc2_w 259, 3) := by decide +kernel
theorem dX7_mean_124 : decode cX7_mean 124 = .ok (.aload_n 0, 1) := by decide +kernel
theorem dX7_mean_125 : decode cX7_mean 125 = .ok (.getfield 26, 3) := by decide +kernel
theorem dX7_mean_128 : decode cX7_mean 128 = .ok (.getfield 236, 3) := by decide +kernel
theorem dX7_mean_131 : decode cX7_mean 131 = .ok (.lmul, 1) := by decide +kernel
theorem dX7_mean_132 : decode cX7_mean 132 = .ok (.iload_n 2, 1) := by decide +kernel
theorem dX7_mean_133 : decode cX7_mean 133 = .ok (.invokestatic 240, 3) := by decide +kernel
theorem dX7_mean_136 : decode cX7_mean 136 = .ok (.lreturn, 1) := by decide +kernel
theorem dX7_mean_137 : decode cX7_mean 137 = .ok (.ldc2_w 234, 3) := by decide +kernel
theorem dX7_mean_140 : decode cX7_mean 140 = .ok (.lreturn, 1) := by decide +kernel
set_option maxRecDepth 20000 in
theorem ggX7_rate_X0_crosses : GoodIn wsX7_rate wsX0_crosses := goodIn_r _ [13, 14, 15, 16, 55, 56, 57, 58, 59, 60, 61, 62, 63, 64, 65, 66] (by decide +kernel) (by decide +kernel)
set_option maxRecDepth 20000 in
theorem gX7_rate_X0_crosses : GoodIn wsX7_rate (wsV RX7 244 RX0 yX0_crosses wsX0_crosses) := goodIn_app (goodIn_of _ (by decide +kernel)) ggX7_rate_X0_crosses
set_option maxRecDepth 20000 in
theorem ggX7_rate_X7_lowest : GoodIn wsX7_rate wsX7_lowest := goodIn_r _ [20, 21, 22, 19, 23] (by decide +kernel) (by decide +kernel)
set_option maxRecDepth 20000 in
theorem gX7_rate_X7_lowest : GoodIn wsX7_rate (va_wsS RX7 240 yX7_lowest wsX7_lowest) := goodIn_app (goodIn_of _ (by decide +kernel)) ggX7_rate_X7_lowest
set_option maxRecDepth 20000 in
theorem ggX7_rate_X0_movesOn : GoodIn wsX7_rate wsX0_movesOn := goodIn_r _ [27, 14, 15, 28, 55, 56, 57, 58, 59, 60, 61, 62, 63, 64, 65, 66] (by decide +kernel) (by decide +kernel)
set_option maxRecDepth 20000 in
theorem gX7_rate_X0_movesOn : GoodIn wsX7_rate (wsV RX7 248 RX0 yX0_movesOn wsX0_movesOn) := goodIn_app (goodIn_of _ (by decide +kernel)) ggX7_rate_X0_movesOn
theorem dX7_rate_0 : decode cX7_rate 0 = .ok (.aload_n 0, 1) := by decide +kernel
theorem dX7_rate_1 : decode cX7_rate 1 = .ok (.getfield 58, 3) := by decide +kernel
theorem dX7_rate_4 : decode cX7_rate 4 = .ok (.getfield 131, 3) := by decide +kernel
theorem dX7_rate_7 : decode cX7_rate 7 = .ok (.tableswitch 101 0 2 #[25, 55, 87], 25) := by decide +kernel
theorem dX7_rate_32 : decode cX7_rate 32 = .ok (.aload_n 0, 1) := by decide +kernel
theorem dX7_rate_33 : decode cX7_rate 33 = .ok (.getfield 26, 3) := by decide +kernel
theorem dX7_rate_36 : decode cX7_rate 36 = .ok (.aload_n 0, 1) := by decide +kernel
theorem dX7_rate_37 : decode cX7_rate 37 = .ok (.getfield 54, 3) := by decide +kernel
theorem dX7_rate_40 : decode cX7_rate 40 = .ok (.aload_n 0, 1) := by decide +kernel
theorem dX7_rate_41 : decode cX7_rate 41 = .ok (.getfield 58, 3) := by decide +kernel
theorem dX7_rate_44 : decode cX7_rate 44 = .ok (.getfield 117, 3) := by decide +kernel
theorem dX7_rate_47 : decode cX7_rate 47 = .ok (.invokevirtual 244, 3) := by decide +kernel
theorem dX7_rate_50 : decode cX7_rate 50 = .ok (.aload_n 0, 1) := by decide +kernel
theorem dX7_rate_51 : decode cX7_rate 51 = .ok (.getfield 26, 3) := by decide +kernel
theorem dX7_rate_54 : decode cX7_rate 54 = .ok (.getfield 236, 3) := by decide +kernel
theorem dX7_rate_57 : decode cX7_rate 57 = .ok (.iload_n 1, 1) := by decide +kernel
theorem dX7_rate_58 : decode cX7_rate 58 = .ok (.invokestatic 240, 3) := by decide +kernel
theorem dX7_rate_61 : decode cX7_rate 61 = .ok (.lreturn, 1) := by decide +kernel
theorem dX7_rate_62 : decode cX7_rate 62 = .ok (.aload_n 0, 1) := by decide +kernel
theorem dX7_rate_63 : decode cX7_rate 63 = .ok (.getfield 26, 3) := by decide +kernel
theorem dX7_rate_66 : decode cX7_rate 66 = .ok (.aload_n 0, 1) := by decide +kernel
theorem dX7_rate_67 : decode cX7_rate 67 = .ok (.getfield 54, 3) := by decide +kernel
theorem dX7_rate_70 : decode cX7_rate 70 = .ok (.invokevirtual 248, 3) := by decide +kernel
theorem dX7_rate_73 : decode cX7_rate 73 = .ok (.aload_n 0, 1) := by decide +kernel
theorem dX7_rate_74 : decode cX7_rate 74 = .ok (.getfield 58, 3) := by decide +kernel
theorem dX7_rate_77 : decode cX7_rate 77 = .ok (.getfield 134, 3) := by decide +kernel
theorem dX7_rate_80 : decode cX7_rate 80 = .ok (.i2l, 1) := by decide +kernel
theorem dX7_rate_81 : decode cX7_rate 81 = .ok (.aload_n 0, 1) := by decide +kernel
theorem dX7_rate_82 : decode cX7_rate 82 = .ok (.getfield 26, 3) := by decide +kernel
theorem dX7_rate_85 : decode cX7_rate 85 = .ok (.getfield 236, 3) := by decide +kernel
theorem dX7_rate_88 : decode cX7_rate 88 = .ok (.lmul, 1) := by decide +kernel
theorem dX7_rate_89 : decode cX7_rate 89 = .ok (.iload_n 1, 1) := by decide +kernel
theorem dX7_rate_90 : decode cX7_rate 90 = .ok (.invokestatic 240, 3) := by decide +kernel
theorem dX7_rate_93 : decode cX7_rate 93 = .ok (.lreturn, 1) := by decide +kernel
theorem dX7_rate_94 : decode cX7_rate 94 = .ok (.lconst 1, 1) := by decide +kernel
theorem dX7_rate_95 : decode cX7_rate 95 = .ok (.aload_n 0, 1) := by decide +kernel
theorem dX7_rate_96 : decode cX7_rate 96 = .ok (.getfield 58, 3) := by decide +kernel
theorem dX7_rate_99 : decode cX7_rate 99 = .ok (.getfield 134, 3) := by decide +kernel
theorem dX7_rate_102 : decode cX7_rate 102 = .ok (.i2l, 1) := by decide +kernel
theorem dX7_rate_103 : decode cX7_rate 103 = .ok (.iload_n 1, 1) := by decide +kernel
theorem dX7_rate_104 : decode cX7_rate 104 = .ok (.invokestatic 240, 3) := by decide +kernel
theorem dX7_rate_107 : decode cX7_rate 107 = .ok (.lreturn, 1) := by decide +kernel
theorem dX7_rate_108 : decode cX7_rate 108 = .ok (.ldc2_w 261, 3) := by decide +kernel
theorem dX7_rate_111 : decode cX7_rate 111 = .ok (.lreturn, 1) := by decide +kernel
set_option maxRecDepth 20000 in
theorem ggX7_best_X7_isCell : GoodIn wsX7_best wsX7_isCell := goodIn_r _ [8, 2, 9, 56, 57, 58, 59, 60, 61, 62, 63, 64, 65, 72, 73, 74, 75, 76, 77, 78, 79, 80, 81, 82, 83] (by decide +kernel) (by decide +kernel)
set_option maxRecDepth 20000 in
theorem gX7_best_X7_isCell : GoodIn wsX7_best (wsV RX7 110 RX7 yX7_isCell wsX7_isCell) := goodIn_app (goodIn_of _ (by decide +kernel)) ggX7_best_X7_isCell
set_option maxRecDepth 20000 in
theorem ggX7_best_X0_findBest : GoodIn wsX7_best wsX0_findBest := goodIn_r _ [14, 15, 16, 17, 18, 19, 20, 21, 13, 22, 23, 24, 25, 26, 27, 7, 28, 29, 30, 31, 32, 33, 34, 35, 36, 37, 38, 39, 40, 41, 42, 43, 44, 45, 46, 47, 48, 49, 50, 51, 52, 53, 54, 55, 66, 67, 68, 69, 70, 71, 72, 73, 74, 75, 76, 77, 78, 79, 80, 81, 82, 83] (by decide +kernel) (by decide +kernel)
set_option maxRecDepth 20000 in
theorem gX7_best_X0_findBest : GoodIn wsX7_best (wsV RX7 137 RX0 yX0_findBest wsX0_findBest) := goodIn_app (goodIn_of _ (by decide +kernel)) ggX7_best_X0_findBest
theorem dX7_best_0 : decode cX7_best 0 = .ok (.aload_n 0, 1) := by decide +kernel
theorem dX7_best_1 : decode cX7_best 1 = .ok (.iload_n 1, 1) := by decide +kernel
theorem dX7_best_2 : decode cX7_best 2 = .ok (.invokevirtual 110, 3) := by decide +kernel
theorem dX7_best_5 : decode cX7_best 5 = .ok (.ifCond .ne 5, 3) := by decide +kernel
theorem dX7_best_8 : decode cX7_best 8 = .ok (.iconst (-1), 1) := by decide +kernel
theorem dX7_best_9 : decode cX7_best 9 = .ok (.ireturn, 1) := by decide +kernel
theorem dX7_best_10 : decode cX7_best 10 = .ok (.aload_n 0, 1) := by decide +kernel
theorem dX7_best_11 : decode cX7_best 11 = .ok (.getfield 26, 3) := by decide +kernel
theorem dX7_best_14 : decode cX7_best 14 = .ok (.aload_n 0, 1) := by decide +kernel
theorem dX7_best_15 : decode cX7_best 15 = .ok (.getfield 54, 3) := by decide +kernel
theorem dX7_best_18 : decode cX7_best 18 = .ok (.invokevirtual 137, 3) := by decide +kernel
theorem dX7_best_21 : decode cX7_best 21 = .ok (.aload_n 0, 1) := by decide +kernel
theorem dX7_best_22 : decode cX7_best 22 = .ok (.getfield 26, 3) := by decide +kernel
theorem dX7_best_25 : decode cX7_best 25 = .ok (.getfield 141, 3) := by decide +kernel
theorem dX7_best_28 : decode cX7_best 28 = .ok (.iload_n 1, 1) := by decide +kernel
theorem dX7_best_29 : decode cX7_best 29 = .ok (.iaload, 1) := by decide +kernel
theorem dX7_best_30 : decode cX7_best 30 = .ok (.ireturn, 1) := by decide +kernel
set_option maxRecDepth 20000 in
theorem ggX7_least_X7_isPart : GoodIn wsX7_least wsX7_isPart := goodIn_r _ [10] (by decide +kernel) (by decide +kernel)
set_option maxRecDepth 20000 in
theorem gX7_least_X7_isPart : GoodIn wsX7_least (va_wsS RX7 231 yX7_isPart wsX7_isPart) := goodIn_app (goodIn_of _ (by decide +kernel)) ggX7_least_X7_isPart
set_option maxRecDepth 20000 in
theorem ggX7_least_X0_findBest : GoodIn wsX7_least wsX0_findBest := goodIn_r _ [15, 16, 17, 18, 19, 20, 21, 22, 14, 23, 24, 25, 26, 27, 28, 9, 29, 30, 31, 32, 33, 34, 35, 36, 37, 38, 39, 40, 41, 42, 43, 44, 45, 46, 47, 48, 49, 50, 51, 52, 53, 54, 55, 56, 73, 74, 75, 76, 77, 78, 79, 80, 81, 82, 83, 84, 85, 86, 87, 88, 89, 90] (by decide +kernel) (by decide +kernel)
set_option maxRecDepth 20000 in
theorem gX7_least_X0_findBest : GoodIn wsX7_least (wsV RX7 137 RX0 yX0_findBest wsX0_findBest) := goodIn_app (goodIn_of _ (by decide +kernel)) ggX7_least_X0_findBest
set_option maxRecDepth 20000 in
theorem ggX7_least_X7_lowest : GoodIn wsX7_least wsX7_lowest := goodIn_r _ [59, 60, 61, 9, 62] (by decide +kernel) (by decide +kernel)
set_option maxRecDepth 20000 in
theorem gX7_least_X7_lowest : GoodIn wsX7_least (va_wsS RX7 240 yX7_lowest wsX7_lowest) := goodIn_app (goodIn_of _ (by decide +kernel)) ggX7_least_X7_lowest
theorem dX7_least_0 : decode cX7_least 0 = .ok (.iload_n 1, 1) := by decide +kernel
theorem dX7_least_1 : decode cX7_least 1 = .ok (.invokestatic 231, 3) := by decide +kernel
theorem dX7_least_4 : decode cX7_least 4 = .ok (.ifCond .ne 7, 3) := by decide +kernel
theorem dX7_least_7 : decode cX7_least 7 = .ok (.ldc2_w 234, 3) := by decide +kernel
theorem dX7_least_10 : decode cX7_least 10 = .ok (.lreturn, 1) := by decide +kernel
theorem dX7_least_11 : decode cX7_least 11 = .ok (.aload_n 0, 1) := by decide +kernel
theorem dX7_least_12 : decode cX7_least 12 = .ok (.getfield 26, 3) := by decide +kernel
theorem dX7_least_15 : decode cX7_least 15 = .ok (.aload_n 0, 1) := by decide +kernel
theorem dX7_least_16 : decode cX7_least 16 = .ok (.getfield 54, 3) := by decide +kernel
theorem dX7_least_19 : decode cX7_least 19 = .ok (.invokevirtual 137, 3) := by decide +kernel
theorem dX7_least_22 : decode cX7_least 22 = .ok (.aload_n 0, 1) := by decide +kernel
theorem dX7_least_23 : decode cX7_least 23 = .ok (.getfield 26, 3) := by decide +kernel
theorem dX7_least_26 : decode cX7_least 26 = .ok (.getfield 263, 3) := by decide +kernel
theorem dX7_least_29 : decode cX7_least 29 = .ok (.ldc2_w 259, 3) := by decide +kernel
theorem dX7_least_32 : decode cX7_least 32 = .ok (.aload_n 0, 1) := by decide +kernel
theorem dX7_least_33 : decode cX7_least 33 = .ok (.getfield 26, 3) := by decide +kernel
