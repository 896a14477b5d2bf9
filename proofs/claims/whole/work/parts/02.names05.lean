theorem dX1_init_17 : decode cX1_init 17 = .ok (.bipush 6, 2) := by decide +kernel
theorem dX1_init_19 : decode cX1_init 19 = .ok (.bipush 6, 2) := by decide +kernel
theorem dX1_init_21 : decode cX1_init 21 = .ok (.multianewarray 9 2, 4) := by decide +kernel
theorem dX1_init_25 : decode cX1_init 25 = .ok (.putfield 16, 3) := by decide +kernel
theorem dX1_init_28 : decode cX1_init 28 = .ok (.aload_n 0, 1) := by decide +kernel
theorem dX1_init_29 : decode cX1_init 29 = .ok (.bipush 6, 2) := by decide +kernel
theorem dX1_init_31 : decode cX1_init 31 = .ok (.newarray .int, 2) := by decide +kernel
theorem dX1_init_33 : decode cX1_init 33 = .ok (.putfield 19, 3) := by decide +kernel
theorem dX1_init_36 : decode cX1_init 36 = .ok (.aload_n 0, 1) := by decide +kernel
theorem dX1_init_37 : decode cX1_init 37 = .ok (.bipush 6, 2) := by decide +kernel
theorem dX1_init_39 : decode cX1_init 39 = .ok (.newarray .int, 2) := by decide +kernel
theorem dX1_init_41 : decode cX1_init 41 = .ok (.putfield 23, 3) := by decide +kernel
theorem dX1_init_44 : decode cX1_init 44 = .ok (.aload_n 0, 1) := by decide +kernel
theorem dX1_init_45 : decode cX1_init 45 = .ok (.bipush 6, 2) := by decide +kernel
theorem dX1_init_47 : decode cX1_init 47 = .ok (.newarray .long, 2) := by decide +kernel
theorem dX1_init_49 : decode cX1_init 49 = .ok (.putfield 26, 3) := by decide +kernel
theorem dX1_init_52 : decode cX1_init 52 = .ok (.aload_n 0, 1) := by decide +kernel
theorem dX1_init_53 : decode cX1_init 53 = .ok (.bipush 64, 2) := by decide +kernel
theorem dX1_init_55 : decode cX1_init 55 = .ok (.newarray .long, 2) := by decide +kernel
theorem dX1_init_57 : decode cX1_init 57 = .ok (.putfield 30, 3) := by decide +kernel
theorem dX1_init_60 : decode cX1_init 60 = .ok (.return_, 1) := by decide +kernel
set_option maxRecDepth 20000 in
theorem ggX1_begin_X1_price : GoodIn wsX1_begin wsX1_price := goodIn_r _ [11, 12, 13, 14, 15, 16, 17, 18, 19, 20, 21, 22, 23, 24, 25, 26, 27] (by decide +kernel) (by decide +kernel)
set_option maxRecDepth 20000 in
theorem gX1_begin_X1_price : GoodIn wsX1_begin (wsV RX1 40 RX1 yX1_price wsX1_price) := goodIn_app (goodIn_of _ (by decide +kernel)) ggX1_begin_X1_price
theorem dX1_begin_0 : decode cX1_begin 0 = .ok (.aload_n 0, 1) := by decide +kernel
theorem dX1_begin_1 : decode cX1_begin 1 = .ok (.iload_n 1, 1) := by decide +kernel
theorem dX1_begin_2 : decode cX1_begin 2 = .ok (.putfield 33, 3) := by decide +kernel
theorem dX1_begin_5 : decode cX1_begin 5 = .ok (.aload_n 0, 1) := by decide +kernel
theorem dX1_begin_6 : decode cX1_begin 6 = .ok (.iconst 0, 1) := by decide +kernel
theorem dX1_begin_7 : decode cX1_begin 7 = .ok (.putfield 37, 3) := by decide +kernel
theorem dX1_begin_10 : decode cX1_begin 10 = .ok (.iconst 0, 1) := by decide +kernel
theorem dX1_begin_11 : decode cX1_begin 11 = .ok (.istore_n 2, 1) := by decide +kernel
theorem dX1_begin_12 : decode cX1_begin 12 = .ok (.iload_n 2, 1) := by decide +kernel
theorem dX1_begin_13 : decode cX1_begin 13 = .ok (.bipush 6, 2) := by decide +kernel
theorem dX1_begin_15 : decode cX1_begin 15 = .ok (.if_icmp .ge 65, 3) := by decide +kernel
theorem dX1_begin_18 : decode cX1_begin 18 = .ok (.aload_n 0, 1) := by decide +kernel
theorem dX1_begin_19 : decode cX1_begin 19 = .ok (.getfield 19, 3) := by decide +kernel
theorem dX1_begin_22 : decode cX1_begin 22 = .ok (.iload_n 2, 1) := by decide +kernel
theorem dX1_begin_23 : decode cX1_begin 23 = .ok (.iconst 0, 1) := by decide +kernel
theorem dX1_begin_24 : decode cX1_begin 24 = .ok (.iastore, 1) := by decide +kernel
theorem dX1_begin_25 : decode cX1_begin 25 = .ok (.aload_n 0, 1) := by decide +kernel
theorem dX1_begin_26 : decode cX1_begin 26 = .ok (.getfield 23, 3) := by decide +kernel
theorem dX1_begin_29 : decode cX1_begin 29 = .ok (.iload_n 2, 1) := by decide +kernel
theorem dX1_begin_30 : decode cX1_begin 30 = .ok (.iconst 0, 1) := by decide +kernel
theorem dX1_begin_31 : decode cX1_begin 31 = .ok (.iastore, 1) := by decide +kernel
theorem dX1_begin_32 : decode cX1_begin 32 = .ok (.iconst 0, 1) := by decide +kernel
theorem dX1_begin_33 : decode cX1_begin 33 = .ok (.istore_n 3, 1) := by decide +kernel
theorem dX1_begin_34 : decode cX1_begin 34 = .ok (.iload_n 3, 1) := by decide +kernel
theorem dX1_begin_35 : decode cX1_begin 35 = .ok (.bipush 6, 2) := by decide +kernel
theorem dX1_begin_37 : decode cX1_begin 37 = .ok (.if_icmp .ge 37, 3) := by decide +kernel
theorem dX1_begin_40 : decode cX1_begin 40 = .ok (.aload_n 0, 1) := by decide +kernel
theorem dX1_begin_41 : decode cX1_begin 41 = .ok (.getfield 11, 3) := by decide +kernel
theorem dX1_begin_44 : decode cX1_begin 44 = .ok (.iload_n 2, 1) := by decide +kernel
theorem dX1_begin_45 : decode cX1_begin 45 = .ok (.aaload, 1) := by decide +kernel
theorem dX1_begin_46 : decode cX1_begin 46 = .ok (.iload_n 3, 1) := by decide +kernel
theorem dX1_begin_47 : decode cX1_begin 47 = .ok (.iconst 0, 1) := by decide +kernel
theorem dX1_begin_48 : decode cX1_begin 48 = .ok (.iastore, 1) := by decide +kernel
theorem dX1_begin_49 : decode cX1_begin 49 = .ok (.aload_n 0, 1) := by decide +kernel
theorem dX1_begin_50 : decode cX1_begin 50 = .ok (.getfield 16, 3) := by decide +kernel
theorem dX1_begin_53 : decode cX1_begin 53 = .ok (.iload_n 2, 1) := by decide +kernel
theorem dX1_begin_54 : decode cX1_begin 54 = .ok (.aaload, 1) := by decide +kernel
theorem dX1_begin_55 : decode cX1_begin 55 = .ok (.iload_n 3, 1) := by decide +kernel
theorem dX1_begin_56 : decode cX1_begin 56 = .ok (.iload_n 2, 1) := by decide +kernel
theorem dX1_begin_57 : decode cX1_begin 57 = .ok (.iload_n 3, 1) := by decide +kernel
theorem dX1_begin_58 : decode cX1_begin 58 = .ok (.if_icmp .ne 7, 3) := by decide +kernel
theorem dX1_begin_61 : decode cX1_begin 61 = .ok (.iconst 0, 1) := by decide +kernel
theorem dX1_begin_62 : decode cX1_begin 62 = .ok (.goto 5, 3) := by decide +kernel
theorem dX1_begin_65 : decode cX1_begin 65 = .ok (.bipush 99, 2) := by decide +kernel
theorem dX1_begin_67 : decode cX1_begin 67 = .ok (.iastore, 1) := by decide +kernel
theorem dX1_begin_68 : decode cX1_begin 68 = .ok (.iinc 3 1, 3) := by decide +kernel
theorem dX1_begin_71 : decode cX1_begin 71 = .ok (.goto (-37), 3) := by decide +kernel
theorem dX1_begin_74 : decode cX1_begin 74 = .ok (.iinc 2 1, 3) := by decide +kernel
theorem dX1_begin_77 : decode cX1_begin 77 = .ok (.goto (-65), 3) := by decide +kernel
theorem dX1_begin_80 : decode cX1_begin 80 = .ok (.aload_n 0, 1) := by decide +kernel
theorem dX1_begin_81 : decode cX1_begin 81 = .ok (.iconst 2, 1) := by decide +kernel
theorem dX1_begin_82 : decode cX1_begin 82 = .ok (.iconst 1, 1) := by decide +kernel
theorem dX1_begin_83 : decode cX1_begin 83 = .ok (.iconst 5, 1) := by decide +kernel
theorem dX1_begin_84 : decode cX1_begin 84 = .ok (.bipush 10, 2) := by decide +kernel
theorem dX1_begin_86 : decode cX1_begin 86 = .ok (.invokevirtual 40, 3) := by decide +kernel
theorem dX1_begin_89 : decode cX1_begin 89 = .ok (.return_, 1) := by decide +kernel
theorem dX1_price_0 : decode cX1_price 0 = .ok (.aload_n 0, 1) := by decide +kernel
theorem dX1_price_1 : decode cX1_price 1 = .ok (.iload_n 1, 1) := by decide +kernel
theorem dX1_price_2 : decode cX1_price 2 = .ok (.putfield 44, 3) := by decide +kernel
theorem dX1_price_5 : decode cX1_price 5 = .ok (.aload_n 0, 1) := by decide +kernel
theorem dX1_price_6 : decode cX1_price 6 = .ok (.iload_n 2, 1) := by decide +kernel
theorem dX1_price_7 : decode cX1_price 7 = .ok (.putfield 47, 3) := by decide +kernel
theorem dX1_price_10 : decode cX1_price 10 = .ok (.aload_n 0, 1) := by decide +kernel
theorem dX1_price_11 : decode cX1_price 11 = .ok (.iload_n 3, 1) := by decide +kernel
theorem dX1_price_12 : decode cX1_price 12 = .ok (.putfield 50, 3) := by decide +kernel
theorem dX1_price_15 : decode cX1_price 15 = .ok (.aload_n 0, 1) := by decide +kernel
theorem dX1_price_16 : decode cX1_price 16 = .ok (.iload 4, 2) := by decide +kernel
theorem dX1_price_18 : decode cX1_price 18 = .ok (.putfield 53, 3) := by decide +kernel
theorem dX1_price_21 : decode cX1_price 21 = .ok (.return_, 1) := by decide +kernel
set_option maxRecDepth 20000 in
theorem ggX1_join_X1_lead : GoodIn wsX1_join wsX1_lead := goodIn_r _ [6, 7, 8, 9, 10, 11, 12, 13, 14, 15, 16, 17, 18, 19, 20, 21, 22] (by decide +kernel) (by decide +kernel)
set_option maxRecDepth 20000 in
theorem gX1_join_X1_lead : GoodIn wsX1_join (wsV RX1 56 RX1 yX1_lead wsX1_lead) := goodIn_app (goodIn_of _ (by decide +kernel)) ggX1_join_X1_lead
theorem dX1_join_0 : decode cX1_join 0 = .ok (.aload_n 0, 1) := by decide +kernel
theorem dX1_join_1 : decode cX1_join 1 = .ok (.dup, 1) := by decide +kernel
theorem dX1_join_2 : decode cX1_join 2 = .ok (.getfield 37, 3) := by decide +kernel
theorem dX1_join_5 : decode cX1_join 5 = .ok (.iconst 1, 1) := by decide +kernel
theorem dX1_join_6 : decode cX1_join 6 = .ok (.iadd, 1) := by decide +kernel
theorem dX1_join_7 : decode cX1_join 7 = .ok (.putfield 37, 3) := by decide +kernel
theorem dX1_join_10 : decode cX1_join 10 = .ok (.aload_n 0, 1) := by decide +kernel
theorem dX1_join_11 : decode cX1_join 11 = .ok (.iload_n 1, 1) := by decide +kernel
theorem dX1_join_12 : decode cX1_join 12 = .ok (.iload_n 2, 1) := by decide +kernel
theorem dX1_join_13 : decode cX1_join 13 = .ok (.iload_n 3, 1) := by decide +kernel
theorem dX1_join_14 : decode cX1_join 14 = .ok (.invokevirtual 56, 3) := by decide +kernel
theorem dX1_join_17 : decode cX1_join 17 = .ok (.aload_n 0, 1) := by decide +kernel
theorem dX1_join_18 : decode cX1_join 18 = .ok (.iload_n 2, 1) := by decide +kernel
theorem dX1_join_19 : decode cX1_join 19 = .ok (.iload_n 1, 1) := by decide +kernel
theorem dX1_join_20 : decode cX1_join 20 = .ok (.iload 4, 2) := by decide +kernel
theorem dX1_join_22 : decode cX1_join 22 = .ok (.invokevirtual 56, 3) := by decide +kernel
theorem dX1_join_25 : decode cX1_join 25 = .ok (.return_, 1) := by decide +kernel
theorem dX1_lead_0 : decode cX1_lead 0 = .ok (.aload_n 0, 1) := by decide +kernel
theorem dX1_lead_1 : decode cX1_lead 1 = .ok (.getfield 11, 3) := by decide +kernel
theorem dX1_lead_4 : decode cX1_lead 4 = .ok (.iload_n 1, 1) := by decide +kernel
theorem dX1_lead_5 : decode cX1_lead 5 = .ok (.aaload, 1) := by decide +kernel
theorem dX1_lead_6 : decode cX1_lead 6 = .ok (.iload_n 2, 1) := by decide +kernel
theorem dX1_lead_7 : decode cX1_lead 7 = .ok (.iload_n 3, 1) := by decide +kernel
theorem dX1_lead_8 : decode cX1_lead 8 = .ok (.iastore, 1) := by decide +kernel
theorem dX1_lead_9 : decode cX1_lead 9 = .ok (.aload_n 0, 1) := by decide +kernel
theorem dX1_lead_10 : decode cX1_lead 10 = .ok (.getfield 16, 3) := by decide +kernel
theorem dX1_lead_13 : decode cX1_lead 13 = .ok (.iload_n 1, 1) := by decide +kernel
theorem dX1_lead_14 : decode cX1_lead 14 = .ok (.aaload, 1) := by decide +kernel
theorem dX1_lead_15 : decode cX1_lead 15 = .ok (.iload_n 2, 1) := by decide +kernel
theorem dX1_lead_16 : decode cX1_lead 16 = .ok (.iconst 1, 1) := by decide +kernel
theorem dX1_lead_17 : decode cX1_lead 17 = .ok (.iastore, 1) := by decide +kernel
theorem dX1_lead_18 : decode cX1_lead 18 = .ok (.aload_n 0, 1) := by decide +kernel
theorem dX1_lead_19 : decode cX1_lead 19 = .ok (.getfield 19, 3) := by decide +kernel
theorem dX1_lead_22 : decode cX1_lead 22 = .ok (.iload_n 1, 1) := by decide +kernel
theorem dX1_lead_23 : decode cX1_lead 23 = .ok (.dup2, 1) := by decide +kernel
theorem dX1_lead_24 : decode cX1_lead 24 = .ok (.iaload, 1) := by decide +kernel
theorem dX1_lead_25 : decode cX1_lead 25 = .ok (.iconst 1, 1) := by decide +kernel
theorem dX1_lead_26 : decode cX1_lead 26 = .ok (.iload_n 2, 1) := by decide +kernel
theorem dX1_lead_27 : decode cX1_lead 27 = .ok (.ishl, 1) := by decide +kernel
theorem dX1_lead_28 : decode cX1_lead 28 = .ok (.ior, 1) := by decide +kernel
theorem dX1_lead_29 : decode cX1_lead 29 = .ok (.iastore, 1) := by decide +kernel
theorem dX1_lead_30 : decode cX1_lead 30 = .ok (.aload_n 0, 1) := by decide +kernel
theorem dX1_lead_31 : decode cX1_lead 31 = .ok (.getfield 23, 3) := by decide +kernel
theorem dX1_lead_34 : decode cX1_lead 34 = .ok (.iload_n 1, 1) := by decide +kernel
theorem dX1_lead_35 : decode cX1_lead 35 = .ok (.dup2, 1) := by decide +kernel
theorem dX1_lead_36 : decode cX1_lead 36 = .ok (.iaload, 1) := by decide +kernel
theorem dX1_lead_37 : decode cX1_lead 37 = .ok (.iload_n 3, 1) := by decide +kernel
theorem dX1_lead_38 : decode cX1_lead 38 = .ok (.iadd, 1) := by decide +kernel
theorem dX1_lead_39 : decode cX1_lead 39 = .ok (.iastore, 1) := by decide +kernel
theorem dX1_lead_40 : decode cX1_lead 40 = .ok (.return_, 1) := by decide +kernel
theorem dX1_isWhole_0 : decode cX1_isWhole 0 = .ok (.iconst 0, 1) := by decide +kernel
theorem dX1_isWhole_1 : decode cX1_isWhole 1 = .ok (.istore_n 1, 1) := by decide +kernel
theorem dX1_isWhole_2 : decode cX1_isWhole 2 = .ok (.iload_n 1, 1) := by decide +kernel
theorem dX1_isWhole_3 : decode cX1_isWhole 3 = .ok (.aload_n 0, 1) := by decide +kernel
theorem dX1_isWhole_4 : decode cX1_isWhole 4 = .ok (.getfield 33, 3) := by decide +kernel
theorem dX1_isWhole_7 : decode cX1_isWhole 7 = .ok (.if_icmp .ge 77, 3) := by decide +kernel
theorem dX1_isWhole_10 : decode cX1_isWhole 10 = .ok (.iconst 0, 1) := by decide +kernel
theorem dX1_isWhole_11 : decode cX1_isWhole 11 = .ok (.istore_n 2, 1) := by decide +kernel
theorem dX1_isWhole_12 : decode cX1_isWhole 12 = .ok (.iload_n 2, 1) := by decide +kernel
theorem dX1_isWhole_13 : decode cX1_isWhole 13 = .ok (.aload_n 0, 1) := by decide +kernel
theorem dX1_isWhole_14 : decode cX1_isWhole 14 = .ok (.getfield 33, 3) := by decide +kernel
theorem dX1_isWhole_17 : decode cX1_isWhole 17 = .ok (.if_icmp .ge 61, 3) := by decide +kernel
theorem dX1_isWhole_20 : decode cX1_isWhole 20 = .ok (.iconst 0, 1) := by decide +kernel
theorem dX1_isWhole_21 : decode cX1_isWhole 21 = .ok (.istore_n 3, 1) := by decide +kernel
theorem dX1_isWhole_22 : decode cX1_isWhole 22 = .ok (.iload_n 3, 1) := by decide +kernel
theorem dX1_isWhole_23 : decode cX1_isWhole 23 = .ok (.aload_n 0, 1) := by decide +kernel
theorem dX1_isWhole_24 : decode cX1_isWhole 24 = .ok (.getfield 33, 3) := by decide +kernel
theorem dX1_isWhole_27 : decode cX1_isWhole 27 = .ok (.if_icmp .ge 45, 3) := by decide +kernel
theorem dX1_isWhole_30 : decode cX1_isWhole 30 = .ok (.aload_n 0, 1) := by decide +kernel
theorem dX1_isWhole_31 : decode cX1_isWhole 31 = .ok (.getfield 16, 3) := by decide +kernel
theorem dX1_isWhole_34 : decode cX1_isWhole 34 = .ok (.iload_n 2, 1) := by decide +kernel
theorem dX1_isWhole_35 : decode cX1_isWhole 35 = .ok (.aaload, 1) := by decide +kernel
theorem dX1_isWhole_36 : decode cX1_isWhole 36 = .ok (.iload_n 3, 1) := by decide +kernel
theorem dX1_isWhole_37 : decode cX1_isWhole 37 = .ok (.aload_n 0, 1) := by decide +kernel
theorem dX1_isWhole_38 : decode cX1_isWhole 38 = .ok (.getfield 16, 3) := by decide +kernel
theorem dX1_isWhole_41 : decode cX1_isWhole 41 = .ok (.iload_n 2, 1) := by decide +kernel
theorem dX1_isWhole_42 : decode cX1_isWhole 42 = .ok (.aaload, 1) := by decide +kernel
theorem dX1_isWhole_43 : decode cX1_isWhole 43 = .ok (.iload_n 3, 1) := by decide +kernel
theorem dX1_isWhole_44 : decode cX1_isWhole 44 = .ok (.iaload, 1) := by decide +kernel
theorem dX1_isWhole_45 : decode cX1_isWhole 45 = .ok (.aload_n 0, 1) := by decide +kernel
theorem dX1_isWhole_46 : decode cX1_isWhole 46 = .ok (.getfield 16, 3) := by decide +kernel
theorem dX1_isWhole_49 : decode cX1_isWhole 49 = .ok (.iload_n 2, 1) := by decide +kernel
theorem dX1_isWhole_50 : decode cX1_isWhole 50 = .ok (.aaload, 1) := by decide +kernel
theorem dX1_isWhole_51 : decode cX1_isWhole 51 = .ok (.iload_n 1, 1) := by decide +kernel
theorem dX1_isWhole_52 : decode cX1_isWhole 52 = .ok (.iaload, 1) := by decide +kernel
theorem dX1_isWhole_53 : decode cX1_isWhole 53 = .ok (.aload_n 0, 1) := by decide +kernel
theorem dX1_isWhole_54 : decode cX1_isWhole 54 = .ok (.getfield 16, 3) := by decide +kernel
theorem dX1_isWhole_57 : decode cX1_isWhole 57 = .ok (.iload_n 1, 1) := by decide +kernel
theorem dX1_isWhole_58 : decode cX1_isWhole 58 = .ok (.aaload, 1) := by decide +kernel
theorem dX1_isWhole_59 : decode cX1_isWhole 59 = .ok (.iload_n 3, 1) := by decide +kernel
theorem dX1_isWhole_60 : decode cX1_isWhole 60 = .ok (.iaload, 1) := by decide +kernel
theorem dX1_isWhole_61 : decode cX1_isWhole 61 = .ok (.iadd, 1) := by decide +kernel
theorem dX1_isWhole_62 : decode cX1_isWhole 62 = .ok (.invokestatic 60, 3) := by decide +kernel
theorem dX1_isWhole_65 : decode cX1_isWhole 65 = .ok (.iastore, 1) := by decide +kernel
theorem dX1_isWhole_66 : decode cX1_isWhole 66 = .ok (.iinc 3 1, 3) := by decide +kernel
theorem dX1_isWhole_69 : decode cX1_isWhole 69 = .ok (.goto (-47), 3) := by decide +kernel
theorem dX1_isWhole_72 : decode cX1_isWhole 72 = .ok (.iinc 2 1, 3) := by decide +kernel
theorem dX1_isWhole_75 : decode cX1_isWhole 75 = .ok (.goto (-63), 3) := by decide +kernel
theorem dX1_isWhole_78 : decode cX1_isWhole 78 = .ok (.iinc 1 1, 3) := by decide +kernel
theorem dX1_isWhole_81 : decode cX1_isWhole 81 = .ok (.goto (-79), 3) := by decide +kernel
theorem dX1_isWhole_84 : decode cX1_isWhole 84 = .ok (.iconst 1, 1) := by decide +kernel
theorem dX1_isWhole_85 : decode cX1_isWhole 85 = .ok (.istore_n 1, 1) := by decide +kernel
theorem dX1_isWhole_86 : decode cX1_isWhole 86 = .ok (.iload_n 1, 1) := by decide +kernel
theorem dX1_isWhole_87 : decode cX1_isWhole 87 = .ok (.aload_n 0, 1) := by decide +kernel
theorem dX1_isWhole_88 : decode cX1_isWhole 88 = .ok (.getfield 33, 3) := by decide +kernel
theorem dX1_isWhole_91 : decode cX1_isWhole 91 = .ok (.if_icmp .ge 24, 3) := by decide +kernel
theorem dX1_isWhole_94 : decode cX1_isWhole 94 = .ok (.aload_n 0, 1) := by decide +kernel
theorem dX1_isWhole_95 : decode cX1_isWhole 95 = .ok (.getfield 16, 3) := by decide +kernel
theorem dX1_isWhole_98 : decode cX1_isWhole 98 = .ok (.iconst 0, 1) := by decide +kernel
theorem dX1_isWhole_99 : decode cX1_isWhole 99 = .ok (.aaload, 1) := by decide +kernel
theorem dX1_isWhole_100 : decode cX1_isWhole 100 = .ok (.iload_n 1, 1) := by decide +kernel
theorem dX1_isWhole_101 : decode cX1_isWhole 101 = .ok (.iaload, 1) := by decide +kernel
theorem dX1_isWhole_102 : decode cX1_isWhole 102 = .ok (.bipush 99, 2) := by decide +kernel
theorem dX1_isWhole_104 : decode cX1_isWhole 104 = .ok (.if_icmp .lt 5, 3) := by decide +kernel
theorem dX1_isWhole_107 : decode cX1_isWhole 107 = .ok (.iconst 0, 1) := by decide +kernel
theorem dX1_isWhole_108 : decode cX1_isWhole 108 = .ok (.ireturn, 1) := by decide +kernel
theorem dX1_isWhole_109 : decode cX1_isWhole 109 = .ok (.iinc 1 1, 3) := by decide +kernel
theorem dX1_isWhole_112 : decode cX1_isWhole 112 = .ok (.goto (-26), 3) := by decide +kernel
theorem dX1_isWhole_115 : decode cX1_isWhole 115 = .ok (.aload_n 0, 1) := by decide +kernel
theorem dX1_isWhole_116 : decode cX1_isWhole 116 = .ok (.getfield 33, 3) := by decide +kernel
theorem dX1_isWhole_119 : decode cX1_isWhole 119 = .ok (.iconst 2, 1) := by decide +kernel
theorem dX1_isWhole_120 : decode cX1_isWhole 120 = .ok (.if_icmp .lt 7, 3) := by decide +kernel
theorem dX1_isWhole_123 : decode cX1_isWhole 123 = .ok (.iconst 1, 1) := by decide +kernel
theorem dX1_isWhole_124 : decode cX1_isWhole 124 = .ok (.goto 4, 3) := by decide +kernel
theorem dX1_isWhole_127 : decode cX1_isWhole 127 = .ok (.iconst 0, 1) := by decide +kernel
theorem dX1_isWhole_128 : decode cX1_isWhole 128 = .ok (.ireturn, 1) := by decide +kernel
set_option maxRecDepth 20000 in
theorem ggX1_growTrees_X1_treesTo : GoodIn wsX1_growTrees wsX1_treesTo := goodIn_r _ [7, 1, 8, 9, 10, 11, 12, 13, 14, 15, 16, 17, 18, 6, 19, 20, 21, 22, 23, 24, 25, 26, 27, 28, 29, 30, 31, 32, 33, 34, 35, 36, 37, 38, 39, 40] (by decide +kernel) (by decide +kernel)
set_option maxRecDepth 20000 in
theorem gX1_growTrees_X1_treesTo : GoodIn wsX1_growTrees (wsV RX1 66 RX1 yX1_treesTo wsX1_treesTo) := goodIn_app (goodIn_of _ (by decide +kernel)) ggX1_growTrees_X1_treesTo
theorem dX1_growTrees_0 : decode cX1_growTrees 0 = .ok (.iconst 0, 1) := by decide +kernel
theorem dX1_growTrees_1 : decode cX1_growTrees 1 = .ok (.istore_n 1, 1) := by decide +kernel
theorem dX1_growTrees_2 : decode cX1_growTrees 2 = .ok (.iload_n 1, 1) := by decide +kernel
theorem dX1_growTrees_3 : decode cX1_growTrees 3 = .ok (.aload_n 0, 1) := by decide +kernel
theorem dX1_growTrees_4 : decode cX1_growTrees 4 = .ok (.getfield 33, 3) := by decide +kernel
theorem dX1_growTrees_7 : decode cX1_growTrees 7 = .ok (.if_icmp .ge 20, 3) := by decide +kernel
theorem dX1_growTrees_10 : decode cX1_growTrees 10 = .ok (.aload_n 0, 1) := by decide +kernel
theorem dX1_growTrees_11 : decode cX1_growTrees 11 = .ok (.getfield 26, 3) := by decide +kernel
theorem dX1_growTrees_14 : decode cX1_growTrees 14 = .ok (.iload_n 1, 1) := by decide +kernel
theorem dX1_growTrees_15 : decode cX1_growTrees 15 = .ok (.aload_n 0, 1) := by decide +kernel
theorem dX1_growTrees_16 : decode cX1_growTrees 16 = .ok (.iload_n 1, 1) := by decide +kernel
theorem dX1_growTrees_17 : decode cX1_growTrees 17 = .ok (.invokevirtual 66, 3) := by decide +kernel
theorem dX1_growTrees_20 : decode cX1_growTrees 20 = .ok (.lastore, 1) := by decide +kernel
theorem dX1_growTrees_21 : decode cX1_growTrees 21 = .ok (.iinc 1 1, 3) := by decide +kernel
theorem dX1_growTrees_24 : decode cX1_growTrees 24 = .ok (.goto (-22), 3) := by decide +kernel
theorem dX1_growTrees_27 : decode cX1_growTrees 27 = .ok (.return_, 1) := by decide +kernel
set_option maxRecDepth 20000 in
theorem ggX1_treesTo_J6_bitCount_0f7a4 : GoodIn wsX1_treesTo wsJ6_bitCount_0f7a4 := goodIn_r _ [6, 7, 8, 9] (by decide +kernel) (by decide +kernel)
set_option maxRecDepth 20000 in
theorem gX1_treesTo_J6_bitCount_0f7a4 : GoodIn wsX1_treesTo (va_wsS RX1 70 yJ6_bitCount_0f7a4 wsJ6_bitCount_0f7a4) := goodIn_app (goodIn_of _ (by decide +kernel)) ggX1_treesTo_J6_bitCount_0f7a4
set_option maxRecDepth 20000 in
theorem ggX1_treesTo_X1_rowOf : GoodIn wsX1_treesTo wsX1_rowOf := goodIn_r _ [14] (by decide +kernel) (by decide +kernel)
set_option maxRecDepth 20000 in
theorem gX1_treesTo_X1_rowOf : GoodIn wsX1_treesTo (wsV RX1 76 RX1 yX1_rowOf wsX1_rowOf) := goodIn_app (goodIn_of _ (by decide +kernel)) ggX1_treesTo_X1_rowOf
set_option maxRecDepth 20000 in
theorem ggX1_treesTo_X1_minorOf : GoodIn wsX1_treesTo wsX1_minorOf := goodIn_r _ [18, 1, 19, 20, 2, 21, 22, 23, 3, 4, 5, 6, 7, 8, 9, 24, 25, 26, 27, 28, 29, 30, 31, 32, 33, 34, 35] (by decide +kernel) (by decide +kernel)
set_option maxRecDepth 20000 in
theorem gX1_treesTo_X1_minorOf : GoodIn wsX1_treesTo (wsV RX1 79 RX1 yX1_minorOf wsX1_minorOf) := goodIn_app (goodIn_of _ (by decide +kernel)) ggX1_treesTo_X1_minorOf
theorem dX1_treesTo_0 : decode cX1_treesTo 0 = .ok (.iconst 1, 1) := by decide +kernel
theorem dX1_treesTo_1 : decode cX1_treesTo 1 = .ok (.aload_n 0, 1) := by decide +kernel
theorem dX1_treesTo_2 : decode cX1_treesTo 2 = .ok (.getfield 33, 3) := by decide +kernel
theorem dX1_treesTo_5 : decode cX1_treesTo 5 = .ok (.ishl, 1) := by decide +kernel
theorem dX1_treesTo_6 : decode cX1_treesTo 6 = .ok (.iconst 1, 1) := by decide +kernel
theorem dX1_treesTo_7 : decode cX1_treesTo 7 = .ok (.isub, 1) := by decide +kernel
theorem dX1_treesTo_8 : decode cX1_treesTo 8 = .ok (.iconst 1, 1) := by decide +kernel
theorem dX1_treesTo_9 : decode cX1_treesTo 9 = .ok (.iload_n 1, 1) := by decide +kernel
theorem dX1_treesTo_10 : decode cX1_treesTo 10 = .ok (.ishl, 1) := by decide +kernel
theorem dX1_treesTo_11 : decode cX1_treesTo 11 = .ok (.iconst (-1), 1) := by decide +kernel
theorem dX1_treesTo_12 : decode cX1_treesTo 12 = .ok (.ixor, 1) := by decide +kernel
theorem dX1_treesTo_13 : decode cX1_treesTo 13 = .ok (.iand, 1) := by decide +kernel
theorem dX1_treesTo_14 : decode cX1_treesTo 14 = .ok (.istore_n 2, 1) := by decide +kernel
theorem dX1_treesTo_15 : decode cX1_treesTo 15 = .ok (.aload_n 0, 1) := by decide +kernel
theorem dX1_treesTo_16 : decode cX1_treesTo 16 = .ok (.getfield 30, 3) := by decide +kernel
theorem dX1_treesTo_19 : decode cX1_treesTo 19 = .ok (.iconst 0, 1) := by decide +kernel
theorem dX1_treesTo_20 : decode cX1_treesTo 20 = .ok (.lconst 1, 1) := by decide +kernel
theorem dX1_treesTo_21 : decode cX1_treesTo 21 = .ok (.lastore, 1) := by decide +kernel
theorem dX1_treesTo_22 : decode cX1_treesTo 22 = .ok (.iconst 1, 1) := by decide +kernel
theorem dX1_treesTo_23 : decode cX1_treesTo 23 = .ok (.istore_n 3, 1) := by decide +kernel
theorem dX1_treesTo_24 : decode cX1_treesTo 24 = .ok (.iload_n 3, 1) := by decide +kernel
theorem dX1_treesTo_25 : decode cX1_treesTo 25 = .ok (.iload_n 2, 1) := by decide +kernel
theorem dX1_treesTo_26 : decode cX1_treesTo 26 = .ok (.if_icmp .gt 39, 3) := by decide +kernel
theorem dX1_treesTo_29 : decode cX1_treesTo 29 = .ok (.iload_n 3, 1) := by decide +kernel
theorem dX1_treesTo_30 : decode cX1_treesTo 30 = .ok (.iload_n 2, 1) := by decide +kernel
theorem dX1_treesTo_31 : decode cX1_treesTo 31 = .ok (.iconst (-1), 1) := by decide +kernel
theorem dX1_treesTo_32 : decode cX1_treesTo 32 = .ok (.ixor, 1) := by decide +kernel
theorem dX1_treesTo_33 : decode cX1_treesTo 33 = .ok (.iand, 1) := by decide +kernel
theorem dX1_treesTo_34 : decode cX1_treesTo 34 = .ok (.ifCond .ne 25, 3) := by decide +kernel
theorem dX1_treesTo_37 : decode cX1_treesTo 37 = .ok (.aload_n 0, 1) := by decide +kernel
theorem dX1_treesTo_38 : decode cX1_treesTo 38 = .ok (.getfield 30, 3) := by decide +kernel
theorem dX1_treesTo_41 : decode cX1_treesTo 41 = .ok (.iload_n 3, 1) := by decide +kernel
theorem dX1_treesTo_42 : decode cX1_treesTo 42 = .ok (.aload_n 0, 1) := by decide +kernel
theorem dX1_treesTo_43 : decode cX1_treesTo 43 = .ok (.iload_n 3, 1) := by decide +kernel
theorem dX1_treesTo_44 : decode cX1_treesTo 44 = .ok (.aload_n 0, 1) := by decide +kernel
theorem dX1_treesTo_45 : decode cX1_treesTo 45 = .ok (.iload_n 3, 1) := by decide +kernel
theorem dX1_treesTo_46 : decode cX1_treesTo 46 = .ok (.invokestatic 70, 3) := by decide +kernel
theorem dX1_treesTo_49 : decode cX1_treesTo 49 = .ok (.iconst 1, 1) := by decide +kernel
theorem dX1_treesTo_50 : decode cX1_treesTo 50 = .ok (.isub, 1) := by decide +kernel
theorem dX1_treesTo_51 : decode cX1_treesTo 51 = .ok (.iload_n 1, 1) := by decide +kernel
theorem dX1_treesTo_52 : decode cX1_treesTo 52 = .ok (.invokevirtual 76, 3) := by decide +kernel
theorem dX1_treesTo_55 : decode cX1_treesTo 55 = .ok (.invokevirtual 79, 3) := by decide +kernel
theorem dX1_treesTo_58 : decode cX1_treesTo 58 = .ok (.lastore, 1) := by decide +kernel
theorem dX1_treesTo_59 : decode cX1_treesTo 59 = .ok (.iinc 3 1, 3) := by decide +kernel
theorem dX1_treesTo_62 : decode cX1_treesTo 62 = .ok (.goto (-38), 3) := by decide +kernel
theorem dX1_treesTo_65 : decode cX1_treesTo 65 = .ok (.aload_n 0, 1) := by decide +kernel
theorem dX1_treesTo_66 : decode cX1_treesTo 66 = .ok (.getfield 30, 3) := by decide +kernel
theorem dX1_treesTo_69 : decode cX1_treesTo 69 = .ok (.iload_n 2, 1) := by decide +kernel
theorem dX1_treesTo_70 : decode cX1_treesTo 70 = .ok (.laload, 1) := by decide +kernel
theorem dX1_treesTo_71 : decode cX1_treesTo 71 = .ok (.lreturn, 1) := by decide +kernel
theorem dX1_rowOf_0 : decode cX1_rowOf 0 = .ok (.iload_n 1, 1) := by decide +kernel
theorem dX1_rowOf_1 : decode cX1_rowOf 1 = .ok (.iload_n 2, 1) := by decide +kernel
theorem dX1_rowOf_2 : decode cX1_rowOf 2 = .ok (.if_icmp .ge 7, 3) := by decide +kernel
theorem dX1_rowOf_5 : decode cX1_rowOf 5 = .ok (.iload_n 1, 1) := by decide +kernel
theorem dX1_rowOf_6 : decode cX1_rowOf 6 = .ok (.goto 6, 3) := by decide +kernel
theorem dX1_rowOf_9 : decode cX1_rowOf 9 = .ok (.iload_n 1, 1) := by decide +kernel
theorem dX1_rowOf_10 : decode cX1_rowOf 10 = .ok (.iconst 1, 1) := by decide +kernel
theorem dX1_rowOf_11 : decode cX1_rowOf 11 = .ok (.iadd, 1) := by decide +kernel
theorem dX1_rowOf_12 : decode cX1_rowOf 12 = .ok (.ireturn, 1) := by decide +kernel
set_option maxRecDepth 20000 in
theorem ggX1_minorOf_X7_holds : GoodIn wsX1_minorOf wsX7_holds := goodIn_r _ [7] (by decide +kernel) (by decide +kernel)
set_option maxRecDepth 20000 in
theorem gX1_minorOf_X7_holds_n83 : GoodIn wsX1_minorOf (wsX7_holds) := ggX1_minorOf_X7_holds
set_option maxRecDepth 20000 in
theorem ggX1_minorOf_J6_bitCount_0f7a4 : GoodIn wsX1_minorOf wsJ6_bitCount_0f7a4 := goodIn_r _ [11, 12, 13, 14] (by decide +kernel) (by decide +kernel)
set_option maxRecDepth 20000 in
theorem gX1_minorOf_J6_bitCount_0f7a4 : GoodIn wsX1_minorOf (va_wsS RX1 70 yJ6_bitCount_0f7a4 wsJ6_bitCount_0f7a4) := goodIn_app (goodIn_of _ (by decide +kernel)) ggX1_minorOf_J6_bitCount_0f7a4
theorem dX1_minorOf_0 : decode cX1_minorOf 0 = .ok (.lconst 0, 1) := by decide +kernel
theorem dX1_minorOf_1 : decode cX1_minorOf 1 = .ok (.lstore_n 3, 1) := by decide +kernel
theorem dX1_minorOf_2 : decode cX1_minorOf 2 = .ok (.iconst 0, 1) := by decide +kernel
theorem dX1_minorOf_3 : decode cX1_minorOf 3 = .ok (.istore 5, 2) := by decide +kernel
theorem dX1_minorOf_5 : decode cX1_minorOf 5 = .ok (.iload 5, 2) := by decide +kernel
theorem dX1_minorOf_7 : decode cX1_minorOf 7 = .ok (.aload_n 0, 1) := by decide +kernel
theorem dX1_minorOf_8 : decode cX1_minorOf 8 = .ok (.getfield 33, 3) := by decide +kernel
theorem dX1_minorOf_11 : decode cX1_minorOf 11 = .ok (.if_icmp .ge 99, 3) := by decide +kernel
theorem dX1_minorOf_14 : decode cX1_minorOf 14 = .ok (.iload_n 1, 1) := by decide +kernel
theorem dX1_minorOf_15 : decode cX1_minorOf 15 = .ok (.iload 5, 2) := by decide +kernel
theorem dX1_minorOf_17 : decode cX1_minorOf 17 = .ok (.invokestatic 83, 3) := by decide +kernel
theorem dX1_minorOf_20 : decode cX1_minorOf 20 = .ok (.ifCond .eq 84, 3) := by decide +kernel
theorem dX1_minorOf_23 : decode cX1_minorOf 23 = .ok (.iload_n 2, 1) := by decide +kernel
theorem dX1_minorOf_24 : decode cX1_minorOf 24 = .ok (.iload 5, 2) := by decide +kernel
theorem dX1_minorOf_26 : decode cX1_minorOf 26 = .ok (.if_icmp .ne 13, 3) := by decide +kernel
theorem dX1_minorOf_29 : decode cX1_minorOf 29 = .ok (.aload_n 0, 1) := by decide +kernel
theorem dX1_minorOf_30 : decode cX1_minorOf 30 = .ok (.getfield 23, 3) := by decide +kernel
theorem dX1_minorOf_33 : decode cX1_minorOf 33 = .ok (.iload_n 2, 1) := by decide +kernel
theorem dX1_minorOf_34 : decode cX1_minorOf 34 = .ok (.iaload, 1) := by decide +kernel
theorem dX1_minorOf_35 : decode cX1_minorOf 35 = .ok (.i2l, 1) := by decide +kernel
theorem dX1_minorOf_36 : decode cX1_minorOf 36 = .ok (.goto 14, 3) := by decide +kernel
theorem dX1_minorOf_39 : decode cX1_minorOf 39 = .ok (.aload_n 0, 1) := by decide +kernel
theorem dX1_minorOf_40 : decode cX1_minorOf 40 = .ok (.getfield 11, 3) := by decide +kernel
theorem dX1_minorOf_43 : decode cX1_minorOf 43 = .ok (.iload_n 2, 1) := by decide +kernel
theorem dX1_minorOf_44 : decode cX1_minorOf 44 = .ok (.aaload, 1) := by decide +kernel
theorem dX1_minorOf_45 : decode cX1_minorOf 45 = .ok (.iload 5, 2) := by decide +kernel
theorem dX1_minorOf_47 : decode cX1_minorOf 47 = .ok (.iaload, 1) := by decide +kernel
theorem dX1_minorOf_48 : decode cX1_minorOf 48 = .ok (.ineg, 1) := by decide +kernel
theorem dX1_minorOf_49 : decode cX1_minorOf 49 = .ok (.i2l, 1) := by decide +kernel
theorem dX1_minorOf_50 : decode cX1_minorOf 50 = .ok (.lstore 6, 2) := by decide +kernel
theorem dX1_minorOf_52 : decode cX1_minorOf 52 = .ok (.iload_n 1, 1) := by decide +kernel
theorem dX1_minorOf_53 : decode cX1_minorOf 53 = .ok (.iload 5, 2) := by decide +kernel
theorem dX1_minorOf_55 : decode cX1_minorOf 55 = .ok (.iconst 1, 1) := by decide +kernel
theorem dX1_minorOf_56 : decode cX1_minorOf 56 = .ok (.iadd, 1) := by decide +kernel
theorem dX1_minorOf_57 : decode cX1_minorOf 57 = .ok (.ishr, 1) := by decide +kernel
theorem dX1_minorOf_58 : decode cX1_minorOf 58 = .ok (.invokestatic 70, 3) := by decide +kernel
theorem dX1_minorOf_61 : decode cX1_minorOf 61 = .ok (.iconst 1, 1) := by decide +kernel
theorem dX1_minorOf_62 : decode cX1_minorOf 62 = .ok (.iand, 1) := by decide +kernel
theorem dX1_minorOf_63 : decode cX1_minorOf 63 = .ok (.iconst 1, 1) := by decide +kernel
theorem dX1_minorOf_64 : decode cX1_minorOf 64 = .ok (.if_icmp .ne 7, 3) := by decide +kernel
theorem dX1_minorOf_67 : decode cX1_minorOf 67 = .ok (.iconst 1, 1) := by decide +kernel
theorem dX1_minorOf_68 : decode cX1_minorOf 68 = .ok (.goto 4, 3) := by decide +kernel
theorem dX1_minorOf_71 : decode cX1_minorOf 71 = .ok (.iconst 0, 1) := by decide +kernel
theorem dX1_minorOf_72 : decode cX1_minorOf 72 = .ok (.istore 8, 2) := by decide +kernel
theorem dX1_minorOf_74 : decode cX1_minorOf 74 = .ok (.lload_n 3, 1) := by decide +kernel
theorem dX1_minorOf_75 : decode cX1_minorOf 75 = .ok (.iload 8, 2) := by decide +kernel
theorem dX1_minorOf_77 : decode cX1_minorOf 77 = .ok (.ifCond .eq 9, 3) := by decide +kernel
theorem dX1_minorOf_80 : decode cX1_minorOf 80 = .ok (.lload 6, 2) := by decide +kernel
theorem dX1_minorOf_82 : decode cX1_minorOf 82 = .ok (.lneg, 1) := by decide +kernel
theorem dX1_minorOf_83 : decode cX1_minorOf 83 = .ok (.goto 5, 3) := by decide +kernel
theorem dX1_minorOf_86 : decode cX1_minorOf 86 = .ok (.lload 6, 2) := by decide +kernel
theorem dX1_minorOf_88 : decode cX1_minorOf 88 = .ok (.aload_n 0, 1) := by decide +kernel
theorem dX1_minorOf_89 : decode cX1_minorOf 89 = .ok (.getfield 30, 3) := by decide +kernel
theorem dX1_minorOf_92 : decode cX1_minorOf 92 = .ok (.iload_n 1, 1) := by decide +kernel
theorem dX1_minorOf_93 : decode cX1_minorOf 93 = .ok (.iconst 1, 1) := by decide +kernel
theorem dX1_minorOf_94 : decode cX1_minorOf 94 = .ok (.iload 5, 2) := by decide +kernel
theorem dX1_minorOf_96 : decode cX1_minorOf 96 = .ok (.ishl, 1) := by decide +kernel
theorem dX1_minorOf_97 : decode cX1_minorOf 97 = .ok (.iconst (-1), 1) := by decide +kernel
theorem dX1_minorOf_98 : decode cX1_minorOf 98 = .ok (.ixor, 1) := by decide +kernel
theorem dX1_minorOf_99 : decode cX1_minorOf 99 = .ok (.iand, 1) := by decide +kernel
theorem dX1_minorOf_100 : decode cX1_minorOf 100 = .ok (.laload, 1) := by decide +kernel
theorem dX1_minorOf_101 : decode cX1_minorOf 101 = .ok (.lmul, 1) := by decide +kernel
theorem dX1_minorOf_102 : decode cX1_minorOf 102 = .ok (.ladd, 1) := by decide +kernel
theorem dX1_minorOf_103 : decode cX1_minorOf 103 = .ok (.lstore_n 3, 1) := by decide +kernel
theorem dX1_minorOf_104 : decode cX1_minorOf 104 = .ok (.iinc 5 1, 3) := by decide +kernel
theorem dX1_minorOf_107 : decode cX1_minorOf 107 = .ok (.goto (-102), 3) := by decide +kernel
theorem dX1_minorOf_110 : decode cX1_minorOf 110 = .ok (.lload_n 3, 1) := by decide +kernel
theorem dX1_minorOf_111 : decode cX1_minorOf 111 = .ok (.lreturn, 1) := by decide +kernel
set_option maxRecDepth 20000 in
theorem ggX2_init_X4_init : GoodIn wsX2_init wsX4_init := goodIn_r _ [9, 10, 2, 3, 11, 12, 13, 17, 18, 19, 20, 21, 22, 23, 24, 25, 26] (by decide +kernel) (by decide +kernel)
set_option maxRecDepth 20000 in
theorem gX2_init_X4_init_n17 : GoodIn wsX2_init (wsX4_init) := ggX2_init_X4_init
theorem dX2_init_0 : decode cX2_init 0 = .ok (.aload_n 0, 1) := by decide +kernel
theorem dX2_init_1 : decode cX2_init 1 = .ok (.invokespecial 3, 3) := by decide +kernel
theorem dX2_init_4 : decode cX2_init 4 = .ok (.aload_n 0, 1) := by decide +kernel
theorem dX2_init_5 : decode cX2_init 5 = .ok (.bipush 6, 2) := by decide +kernel
theorem dX2_init_7 : decode cX2_init 7 = .ok (.anewarray 9, 3) := by decide +kernel
theorem dX2_init_10 : decode cX2_init 10 = .ok (.putfield 11, 3) := by decide +kernel
theorem dX2_init_13 : decode cX2_init 13 = .ok (.iconst 0, 1) := by decide +kernel
theorem dX2_init_14 : decode cX2_init 14 = .ok (.istore_n 1, 1) := by decide +kernel
theorem dX2_init_15 : decode cX2_init 15 = .ok (.iload_n 1, 1) := by decide +kernel
theorem dX2_init_16 : decode cX2_init 16 = .ok (.bipush 6, 2) := by decide +kernel
theorem dX2_init_18 : decode cX2_init 18 = .ok (.if_icmp .ge 22, 3) := by decide +kernel
theorem dX2_init_21 : decode cX2_init 21 = .ok (.aload_n 0, 1) := by decide +kernel
theorem dX2_init_22 : decode cX2_init 22 = .ok (.getfield 11, 3) := by decide +kernel
theorem dX2_init_25 : decode cX2_init 25 = .ok (.iload_n 1, 1) := by decide +kernel
theorem dX2_init_26 : decode cX2_init 26 = .ok (.new 9, 3) := by decide +kernel
theorem dX2_init_29 : decode cX2_init 29 = .ok (.dup, 1) := by decide +kernel
theorem dX2_init_30 : decode cX2_init 30 = .ok (.invokespecial 17, 3) := by decide +kernel
theorem dX2_init_33 : decode cX2_init 33 = .ok (.aastore, 1) := by decide +kernel
theorem dX2_init_34 : decode cX2_init 34 = .ok (.iinc 1 1, 3) := by decide +kernel
theorem dX2_init_37 : decode cX2_init 37 = .ok (.goto (-22), 3) := by decide +kernel
theorem dX2_init_40 : decode cX2_init 40 = .ok (.return_, 1) := by decide +kernel
set_option maxRecDepth 20000 in
theorem ggX2_keep_X4_copyFrom : GoodIn wsX2_keep wsX4_copyFrom := goodIn_r _ [12, 13, 14, 15, 16, 17, 18, 19, 20, 21, 22, 23, 24, 25, 26, 30, 31, 32, 33, 34, 35, 36, 37, 38, 39] (by decide +kernel) (by decide +kernel)
set_option maxRecDepth 20000 in
theorem gX2_keep_X4_copyFrom : GoodIn wsX2_keep (wsV RX2 22 RX4 yX4_copyFrom wsX4_copyFrom) := goodIn_app (goodIn_of _ (by decide +kernel)) ggX2_keep_X4_copyFrom
theorem dX2_keep_0 : decode cX2_keep 0 = .ok (.aload_n 0, 1) := by decide +kernel
theorem dX2_keep_1 : decode cX2_keep 1 = .ok (.getfield 11, 3) := by decide +kernel
theorem dX2_keep_4 : decode cX2_keep 4 = .ok (.aload_n 0, 1) := by decide +kernel
theorem dX2_keep_5 : decode cX2_keep 5 = .ok (.getfield 18, 3) := by decide +kernel
theorem dX2_keep_8 : decode cX2_keep 8 = .ok (.aaload, 1) := by decide +kernel
theorem dX2_keep_9 : decode cX2_keep 9 = .ok (.aload_n 1, 1) := by decide +kernel
theorem dX2_keep_10 : decode cX2_keep 10 = .ok (.invokevirtual 22, 3) := by decide +kernel
theorem dX2_keep_13 : decode cX2_keep 13 = .ok (.aload_n 0, 1) := by decide +kernel
theorem dX2_keep_14 : decode cX2_keep 14 = .ok (.aload_n 0, 1) := by decide +kernel
theorem dX2_keep_15 : decode cX2_keep 15 = .ok (.getfield 18, 3) := by decide +kernel
theorem dX2_keep_18 : decode cX2_keep 18 = .ok (.iconst 1, 1) := by decide +kernel
theorem dX2_keep_19 : decode cX2_keep 19 = .ok (.iadd, 1) := by decide +kernel
theorem dX2_keep_20 : decode cX2_keep 20 = .ok (.bipush 6, 2) := by decide +kernel
theorem dX2_keep_22 : decode cX2_keep 22 = .ok (.if_icmp .ge 12, 3) := by decide +kernel
theorem dX2_keep_25 : decode cX2_keep 25 = .ok (.aload_n 0, 1) := by decide +kernel
theorem dX2_keep_26 : decode cX2_keep 26 = .ok (.getfield 18, 3) := by decide +kernel
theorem dX2_keep_29 : decode cX2_keep 29 = .ok (.iconst 1, 1) := by decide +kernel
theorem dX2_keep_30 : decode cX2_keep 30 = .ok (.iadd, 1) := by decide +kernel
theorem dX2_keep_31 : decode cX2_keep 31 = .ok (.goto 4, 3) := by decide +kernel
theorem dX2_keep_34 : decode cX2_keep 34 = .ok (.iconst 0, 1) := by decide +kernel
theorem dX2_keep_35 : decode cX2_keep 35 = .ok (.putfield 18, 3) := by decide +kernel
theorem dX2_keep_38 : decode cX2_keep 38 = .ok (.aload_n 0, 1) := by decide +kernel
theorem dX2_keep_39 : decode cX2_keep 39 = .ok (.aload_n 0, 1) := by decide +kernel
theorem dX2_keep_40 : decode cX2_keep 40 = .ok (.getfield 26, 3) := by decide +kernel
theorem dX2_keep_43 : decode cX2_keep 43 = .ok (.iconst 1, 1) := by decide +kernel
theorem dX2_keep_44 : decode cX2_keep 44 = .ok (.iadd, 1) := by decide +kernel
theorem dX2_keep_45 : decode cX2_keep 45 = .ok (.bipush 6, 2) := by decide +kernel
theorem dX2_keep_47 : decode cX2_keep 47 = .ok (.invokestatic 29, 3) := by decide +kernel
theorem dX2_keep_50 : decode cX2_keep 50 = .ok (.putfield 26, 3) := by decide +kernel
theorem dX2_keep_53 : decode cX2_keep 53 = .ok (.return_, 1) := by decide +kernel
set_option maxRecDepth 20000 in
theorem ggX2_bringBack_X4_copyFrom : GoodIn wsX2_bringBack wsX4_copyFrom := goodIn_r _ [8, 9, 10, 11, 12, 13, 14, 15, 16, 17, 18, 19, 20, 21, 22, 26, 27, 28, 29, 30, 31, 32, 33, 34, 35] (by decide +kernel) (by decide +kernel)
set_option maxRecDepth 20000 in
theorem gX2_bringBack_X4_copyFrom : GoodIn wsX2_bringBack (wsV RX2 22 RX4 yX4_copyFrom wsX4_copyFrom) := goodIn_app (goodIn_of _ (by decide +kernel)) ggX2_bringBack_X4_copyFrom
theorem dX2_bringBack_0 : decode cX2_bringBack 0 = .ok (.aload_n 0, 1) := by decide +kernel
theorem dX2_bringBack_1 : decode cX2_bringBack 1 = .ok (.getfield 26, 3) := by decide +kernel
theorem dX2_bringBack_4 : decode cX2_bringBack 4 = .ok (.ifCond .ne 5, 3) := by decide +kernel
theorem dX2_bringBack_7 : decode cX2_bringBack 7 = .ok (.iconst 0, 1) := by decide +kernel
theorem dX2_bringBack_8 : decode cX2_bringBack 8 = .ok (.ireturn, 1) := by decide +kernel
theorem dX2_bringBack_9 : decode cX2_bringBack 9 = .ok (.aload_n 0, 1) := by decide +kernel
theorem dX2_bringBack_10 : decode cX2_bringBack 10 = .ok (.aload_n 0, 1) := by decide +kernel
theorem dX2_bringBack_11 : decode cX2_bringBack 11 = .ok (.getfield 18, 3) := by decide +kernel
theorem dX2_bringBack_14 : decode cX2_bringBack 14 = .ok (.ifCond .le 12, 3) := by decide +kernel
theorem dX2_bringBack_17 : decode cX2_bringBack 17 = .ok (.aload_n 0, 1) := by decide +kernel
theorem dX2_bringBack_18 : decode cX2_bringBack 18 = .ok (.getfield 18, 3) := by decide +kernel
theorem dX2_bringBack_21 : decode cX2_bringBack 21 = .ok (.iconst 1, 1) := by decide +kernel
theorem dX2_bringBack_22 : decode cX2_bringBack 22 = .ok (.isub, 1) := by decide +kernel
theorem dX2_bringBack_23 : decode cX2_bringBack 23 = .ok (.goto 4, 3) := by decide +kernel
theorem dX2_bringBack_26 : decode cX2_bringBack 26 = .ok (.iconst 5, 1) := by decide +kernel
theorem dX2_bringBack_27 : decode cX2_bringBack 27 = .ok (.putfield 18, 3) := by decide +kernel
theorem dX2_bringBack_30 : decode cX2_bringBack 30 = .ok (.aload_n 0, 1) := by decide +kernel
theorem dX2_bringBack_31 : decode cX2_bringBack 31 = .ok (.dup, 1) := by decide +kernel
theorem dX2_bringBack_32 : decode cX2_bringBack 32 = .ok (.getfield 26, 3) := by decide +kernel
theorem dX2_bringBack_35 : decode cX2_bringBack 35 = .ok (.iconst 1, 1) := by decide +kernel
theorem dX2_bringBack_36 : decode cX2_bringBack 36 = .ok (.isub, 1) := by decide +kernel
theorem dX2_bringBack_37 : decode cX2_bringBack 37 = .ok (.putfield 26, 3) := by decide +kernel
theorem dX2_bringBack_40 : decode cX2_bringBack 40 = .ok (.aload_n 1, 1) := by decide +kernel
theorem dX2_bringBack_41 : decode cX2_bringBack 41 = .ok (.aload_n 0, 1) := by decide +kernel
theorem dX2_bringBack_42 : decode cX2_bringBack 42 = .ok (.getfield 11, 3) := by decide +kernel
theorem dX2_bringBack_45 : decode cX2_bringBack 45 = .ok (.aload_n 0, 1) := by decide +kernel
theorem dX2_bringBack_46 : decode cX2_bringBack 46 = .ok (.getfield 18, 3) := by decide +kernel
theorem dX2_bringBack_49 : decode cX2_bringBack 49 = .ok (.aaload, 1) := by decide +kernel
theorem dX2_bringBack_50 : decode cX2_bringBack 50 = .ok (.invokevirtual 22, 3) := by decide +kernel
theorem dX2_bringBack_53 : decode cX2_bringBack 53 = .ok (.iconst 1, 1) := by decide +kernel
theorem dX2_bringBack_54 : decode cX2_bringBack 54 = .ok (.ireturn, 1) := by decide +kernel
theorem dX3_init_0 : decode cX3_init 0 = .ok (.aload_n 0, 1) := by decide +kernel
theorem dX3_init_1 : decode cX3_init 1 = .ok (.invokespecial 3, 3) := by decide +kernel
theorem dX3_init_4 : decode cX3_init 4 = .ok (.aload_n 0, 1) := by decide +kernel
theorem dX3_init_5 : decode cX3_init 5 = .ok (.bipush 6, 2) := by decide +kernel
theorem dX3_init_7 : decode cX3_init 7 = .ok (.newarray .int, 2) := by decide +kernel
theorem dX3_init_9 : decode cX3_init 9 = .ok (.putfield 9, 3) := by decide +kernel
theorem dX3_init_12 : decode cX3_init 12 = .ok (.return_, 1) := by decide +kernel
set_option maxRecDepth 20000 in
theorem ggX3_lineUp_X7_holds : GoodIn wsX3_lineUp wsX7_holds := goodIn_r _ [5] (by decide +kernel) (by decide +kernel)
set_option maxRecDepth 20000 in
theorem gX3_lineUp_X7_holds_n19 : GoodIn wsX3_lineUp (wsX7_holds) := ggX3_lineUp_X7_holds
theorem dX3_lineUp_0 : decode cX3_lineUp 0 = .ok (.aload_n 0, 1) := by decide +kernel
theorem dX3_lineUp_1 : decode cX3_lineUp 1 = .ok (.iconst 0, 1) := by decide +kernel
theorem dX3_lineUp_2 : decode cX3_lineUp 2 = .ok (.putfield 15, 3) := by decide +kernel
theorem dX3_lineUp_5 : decode cX3_lineUp 5 = .ok (.iconst 0, 1) := by decide +kernel
theorem dX3_lineUp_6 : decode cX3_lineUp 6 = .ok (.istore_n 3, 1) := by decide +kernel
theorem dX3_lineUp_7 : decode cX3_lineUp 7 = .ok (.iload_n 3, 1) := by decide +kernel
theorem dX3_lineUp_8 : decode cX3_lineUp 8 = .ok (.bipush 6, 2) := by decide +kernel
theorem dX3_lineUp_10 : decode cX3_lineUp 10 = .ok (.if_icmp .ge 86, 3) := by decide +kernel
theorem dX3_lineUp_13 : decode cX3_lineUp 13 = .ok (.iload_n 1, 1) := by decide +kernel
theorem dX3_lineUp_14 : decode cX3_lineUp 14 = .ok (.iload_n 3, 1) := by decide +kernel
theorem dX3_lineUp_15 : decode cX3_lineUp 15 = .ok (.invokestatic 19, 3) := by decide +kernel
theorem dX3_lineUp_18 : decode cX3_lineUp 18 = .ok (.ifCond .eq 72, 3) := by decide +kernel
theorem dX3_lineUp_21 : decode cX3_lineUp 21 = .ok (.aload_n 0, 1) := by decide +kernel
theorem dX3_lineUp_22 : decode cX3_lineUp 22 = .ok (.getfield 15, 3) := by decide +kernel
theorem dX3_lineUp_25 : decode cX3_lineUp 25 = .ok (.istore 4, 2) := by decide +kernel
theorem dX3_lineUp_27 : decode cX3_lineUp 27 = .ok (.iload 4, 2) := by decide +kernel
theorem dX3_lineUp_29 : decode cX3_lineUp 29 = .ok (.ifCond .le 43, 3) := by decide +kernel
theorem dX3_lineUp_32 : decode cX3_lineUp 32 = .ok (.aload_n 2, 1) := by decide +kernel
theorem dX3_lineUp_33 : decode cX3_lineUp 33 = .ok (.aload_n 0, 1) := by decide +kernel
theorem dX3_lineUp_34 : decode cX3_lineUp 34 = .ok (.getfield 9, 3) := by decide +kernel
theorem dX3_lineUp_37 : decode cX3_lineUp 37 = .ok (.iload 4, 2) := by decide +kernel
theorem dX3_lineUp_39 : decode cX3_lineUp 39 = .ok (.iconst 1, 1) := by decide +kernel
theorem dX3_lineUp_40 : decode cX3_lineUp 40 = .ok (.isub, 1) := by decide +kernel
theorem dX3_lineUp_41 : decode cX3_lineUp 41 = .ok (.iaload, 1) := by decide +kernel
theorem dX3_lineUp_42 : decode cX3_lineUp 42 = .ok (.laload, 1) := by decide +kernel
theorem dX3_lineUp_43 : decode cX3_lineUp 43 = .ok (.aload_n 2, 1) := by decide +kernel
theorem dX3_lineUp_44 : decode cX3_lineUp 44 = .ok (.iload_n 3, 1) := by decide +kernel
theorem dX3_lineUp_45 : decode cX3_lineUp 45 = .ok (.laload, 1) := by decide +kernel
theorem dX3_lineUp_46 : decode cX3_lineUp 46 = .ok (.lcmp, 1) := by decide +kernel
theorem dX3_lineUp_47 : decode cX3_lineUp 47 = .ok (.ifCond .ge 25, 3) := by decide +kernel
theorem dX3_lineUp_50 : decode cX3_lineUp 50 = .ok (.aload_n 0, 1) := by decide +kernel
theorem dX3_lineUp_51 : decode cX3_lineUp 51 = .ok (.getfield 9, 3) := by decide +kernel
theorem dX3_lineUp_54 : decode cX3_lineUp 54 = .ok (.iload 4, 2) := by decide +kernel
theorem dX3_lineUp_56 : decode cX3_lineUp 56 = .ok (.aload_n 0, 1) := by decide +kernel
theorem dX3_lineUp_57 : decode cX3_lineUp 57 = .ok (.getfield 9, 3) := by decide +kernel
theorem dX3_lineUp_60 : decode cX3_lineUp 60 = .ok (.iload 4, 2) := by decide +kernel
theorem dX3_lineUp_62 : decode cX3_lineUp 62 = .ok (.iconst 1, 1) := by decide +kernel
theorem dX3_lineUp_63 : decode cX3_lineUp 63 = .ok (.isub, 1) := by decide +kernel
theorem dX3_lineUp_64 : decode cX3_lineUp 64 = .ok (.iaload, 1) := by decide +kernel
theorem dX3_lineUp_65 : decode cX3_lineUp 65 = .ok (.iastore, 1) := by decide +kernel
theorem dX3_lineUp_66 : decode cX3_lineUp 66 = .ok (.iinc 4 (-1), 3) := by decide +kernel
theorem dX3_lineUp_69 : decode cX3_lineUp 69 = .ok (.goto (-42), 3) := by decide +kernel
theorem dX3_lineUp_72 : decode cX3_lineUp 72 = .ok (.aload_n 0, 1) := by decide +kernel
theorem dX3_lineUp_73 : decode cX3_lineUp 73 = .ok (.getfield 9, 3) := by decide +kernel
theorem dX3_lineUp_76 : decode cX3_lineUp 76 = .ok (.iload 4, 2) := by decide +kernel
theorem dX3_lineUp_78 : decode cX3_lineUp 78 = .ok (.iload_n 3, 1) := by decide +kernel
theorem dX3_lineUp_79 : decode cX3_lineUp 79 = .ok (.iastore, 1) := by decide +kernel
theorem dX3_lineUp_80 : decode cX3_lineUp 80 = .ok (.aload_n 0, 1) := by decide +kernel
theorem dX3_lineUp_81 : decode cX3_lineUp 81 = .ok (.dup, 1) := by decide +kernel
theorem dX3_lineUp_82 : decode cX3_lineUp 82 = .ok (.getfield 15, 3) := by decide +kernel
theorem dX3_lineUp_85 : decode cX3_lineUp 85 = .ok (.iconst 1, 1) := by decide +kernel
theorem dX3_lineUp_86 : decode cX3_lineUp 86 = .ok (.iadd, 1) := by decide +kernel
theorem dX3_lineUp_87 : decode cX3_lineUp 87 = .ok (.putfield 15, 3) := by decide +kernel
theorem dX3_lineUp_90 : decode cX3_lineUp 90 = .ok (.iinc 3 1, 3) := by decide +kernel
theorem dX3_lineUp_93 : decode cX3_lineUp 93 = .ok (.goto (-86), 3) := by decide +kernel
theorem dX3_lineUp_96 : decode cX3_lineUp 96 = .ok (.return_, 1) := by decide +kernel
set_option maxRecDepth 20000 in
theorem ggX3_split_J6_bitCount_0f7a4 : GoodIn wsX3_split wsJ6_bitCount_0f7a4 := goodIn_r _ [8, 9, 10, 11] (by decide +kernel) (by decide +kernel)
set_option maxRecDepth 20000 in
theorem gX3_split_J6_bitCount_0f7a4 : GoodIn wsX3_split (va_wsS RX3 31 yJ6_bitCount_0f7a4 wsJ6_bitCount_0f7a4) := goodIn_app (goodIn_of _ (by decide +kernel)) ggX3_split_J6_bitCount_0f7a4
set_option maxRecDepth 20000 in
theorem ggX3_split_X3_meanPaged : GoodIn wsX3_split wsX3_meanPaged := goodIn_r _ [16, 4, 17, 18, 19, 20, 15, 21, 22, 23, 24, 25, 26, 27, 28] (by decide +kernel) (by decide +kernel)
set_option maxRecDepth 20000 in
theorem gX3_split_X3_meanPaged : GoodIn wsX3_split (wsV RX3 37 RX3 yX3_meanPaged wsX3_meanPaged) := goodIn_app (goodIn_of _ (by decide +kernel)) ggX3_split_X3_meanPaged
theorem dX3_split_0 : decode cX3_split 0 = .ok (.ldc2_w 23, 3) := by decide +kernel
theorem dX3_split_3 : decode cX3_split 3 = .ok (.lstore_n 3, 1) := by decide +kernel
theorem dX3_split_4 : decode cX3_split 4 = .ok (.aload_n 0, 1) := by decide +kernel
theorem dX3_split_5 : decode cX3_split 5 = .ok (.iconst 0, 1) := by decide +kernel
theorem dX3_split_6 : decode cX3_split 6 = .ok (.putfield 25, 3) := by decide +kernel
theorem dX3_split_9 : decode cX3_split 9 = .ok (.aload_n 0, 1) := by decide +kernel
theorem dX3_split_10 : decode cX3_split 10 = .ok (.iconst 0, 1) := by decide +kernel
theorem dX3_split_11 : decode cX3_split 11 = .ok (.putfield 28, 3) := by decide +kernel
theorem dX3_split_14 : decode cX3_split 14 = .ok (.aload_n 0, 1) := by decide +kernel
theorem dX3_split_15 : decode cX3_split 15 = .ok (.getfield 15, 3) := by decide +kernel
theorem dX3_split_18 : decode cX3_split 18 = .ok (.ifCond .le 16, 3) := by decide +kernel
theorem dX3_split_21 : decode cX3_split 21 = .ok (.iconst 1, 1) := by decide +kernel
theorem dX3_split_22 : decode cX3_split 22 = .ok (.aload_n 0, 1) := by decide +kernel
theorem dX3_split_23 : decode cX3_split 23 = .ok (.getfield 15, 3) := by decide +kernel
theorem dX3_split_26 : decode cX3_split 26 = .ok (.iconst 1, 1) := by decide +kernel
theorem dX3_split_27 : decode cX3_split 27 = .ok (.isub, 1) := by decide +kernel
theorem dX3_split_28 : decode cX3_split 28 = .ok (.ishl, 1) := by decide +kernel
theorem dX3_split_29 : decode cX3_split 29 = .ok (.iconst 1, 1) := by decide +kernel
theorem dX3_split_30 : decode cX3_split 30 = .ok (.isub, 1) := by decide +kernel
theorem dX3_split_31 : decode cX3_split 31 = .ok (.goto 4, 3) := by decide +kernel
theorem dX3_split_34 : decode cX3_split 34 = .ok (.iconst (-1), 1) := by decide +kernel
theorem dX3_split_35 : decode cX3_split 35 = .ok (.istore 5, 2) := by decide +kernel
theorem dX3_split_37 : decode cX3_split 37 = .ok (.iload 5, 2) := by decide +kernel
theorem dX3_split_39 : decode cX3_split 39 = .ok (.istore 6, 2) := by decide +kernel
theorem dX3_split_41 : decode cX3_split 41 = .ok (.iload 6, 2) := by decide +kernel
theorem dX3_split_43 : decode cX3_split 43 = .ok (.ifCond .lt 90, 3) := by decide +kernel
theorem dX3_split_46 : decode cX3_split 46 = .ok (.iload 6, 2) := by decide +kernel
theorem dX3_split_48 : decode cX3_split 48 = .ok (.invokestatic 31, 3) := by decide +kernel
theorem dX3_split_51 : decode cX3_split 51 = .ok (.iconst 1, 1) := by decide +kernel
theorem dX3_split_52 : decode cX3_split 52 = .ok (.iadd, 1) := by decide +kernel
theorem dX3_split_53 : decode cX3_split 53 = .ok (.istore 7, 2) := by decide +kernel
theorem dX3_split_55 : decode cX3_split 55 = .ok (.iload 7, 2) := by decide +kernel
theorem dX3_split_57 : decode cX3_split 57 = .ok (.iload_n 1, 1) := by decide +kernel
theorem dX3_split_58 : decode cX3_split 58 = .ok (.if_icmp .gt 13, 3) := by decide +kernel
theorem dX3_split_61 : decode cX3_split 61 = .ok (.aload_n 0, 1) := by decide +kernel
theorem dX3_split_62 : decode cX3_split 62 = .ok (.iload 6, 2) := by decide +kernel
theorem dX3_split_64 : decode cX3_split 64 = .ok (.aload_n 2, 1) := by decide +kernel
theorem dX3_split_65 : decode cX3_split 65 = .ok (.invokevirtual 37, 3) := by decide +kernel
theorem dX3_split_68 : decode cX3_split 68 = .ok (.goto 6, 3) := by decide +kernel
theorem dX3_split_71 : decode cX3_split 71 = .ok (.ldc2_w 23, 3) := by decide +kernel
theorem dX3_split_74 : decode cX3_split 74 = .ok (.lstore 8, 2) := by decide +kernel
theorem dX3_split_76 : decode cX3_split 76 = .ok (.lload 8, 2) := by decide +kernel
theorem dX3_split_78 : decode cX3_split 78 = .ok (.lconst 0, 1) := by decide +kernel
theorem dX3_split_79 : decode cX3_split 79 = .ok (.lcmp, 1) := by decide +kernel
theorem dX3_split_80 : decode cX3_split 80 = .ok (.ifCond .lt 47, 3) := by decide +kernel
theorem dX3_split_83 : decode cX3_split 83 = .ok (.lload_n 3, 1) := by decide +kernel
theorem dX3_split_84 : decode cX3_split 84 = .ok (.lconst 0, 1) := by decide +kernel
theorem dX3_split_85 : decode cX3_split 85 = .ok (.lcmp, 1) := by decide +kernel
theorem dX3_split_86 : decode cX3_split 86 = .ok (.ifCond .lt 26, 3) := by decide +kernel
theorem dX3_split_89 : decode cX3_split 89 = .ok (.lload 8, 2) := by decide +kernel
theorem dX3_split_91 : decode cX3_split 91 = .ok (.lload_n 3, 1) := by decide +kernel
theorem dX3_split_92 : decode cX3_split 92 = .ok (.lcmp, 1) := by decide +kernel
theorem dX3_split_93 : decode cX3_split 93 = .ok (.ifCond .lt 19, 3) := by decide +kernel
theorem dX3_split_96 : decode cX3_split 96 = .ok (.lload 8, 2) := by decide +kernel
theorem dX3_split_98 : decode cX3_split 98 = .ok (.lload_n 3, 1) := by decide +kernel
theorem dX3_split_99 : decode cX3_split 99 = .ok (.lcmp, 1) := by decide +kernel
theorem dX3_split_100 : decode cX3_split 100 = .ok (.ifCond .ne 27, 3) := by decide +kernel
theorem dX3_split_103 : decode cX3_split 103 = .ok (.iload 7, 2) := by decide +kernel
theorem dX3_split_105 : decode cX3_split 105 = .ok (.aload_n 0, 1) := by decide +kernel
theorem dX3_split_106 : decode cX3_split 106 = .ok (.getfield 25, 3) := by decide +kernel
theorem dX3_split_109 : decode cX3_split 109 = .ok (.if_icmp .ge 18, 3) := by decide +kernel
theorem dX3_split_112 : decode cX3_split 112 = .ok (.lload 8, 2) := by decide +kernel
theorem dX3_split_114 : decode cX3_split 114 = .ok (.lstore_n 3, 1) := by decide +kernel
theorem dX3_split_115 : decode cX3_split 115 = .ok (.aload_n 0, 1) := by decide +kernel
theorem dX3_split_116 : decode cX3_split 116 = .ok (.iload 6, 2) := by decide +kernel
theorem dX3_split_118 : decode cX3_split 118 = .ok (.putfield 28, 3) := by decide +kernel
theorem dX3_split_121 : decode cX3_split 121 = .ok (.aload_n 0, 1) := by decide +kernel
theorem dX3_split_122 : decode cX3_split 122 = .ok (.iload 7, 2) := by decide +kernel
theorem dX3_split_124 : decode cX3_split 124 = .ok (.putfield 25, 3) := by decide +kernel
theorem dX3_split_127 : decode cX3_split 127 = .ok (.iinc 6 (-1), 3) := by decide +kernel
theorem dX3_split_130 : decode cX3_split 130 = .ok (.goto (-89), 3) := by decide +kernel
theorem dX3_split_133 : decode cX3_split 133 = .ok (.return_, 1) := by decide +kernel
set_option maxRecDepth 20000 in
theorem ggX3_isCutBehind_X7_holds : GoodIn wsX3_isCutBehind wsX7_holds := goodIn_r _ [4] (by decide +kernel) (by decide +kernel)
set_option maxRecDepth 20000 in
theorem gX3_isCutBehind_X7_holds_n19 : GoodIn wsX3_isCutBehind (wsX7_holds) := ggX3_isCutBehind_X7_holds
theorem dX3_isCutBehind_0 : decode cX3_isCutBehind 0 = .ok (.iload_n 2, 1) := by decide +kernel
theorem dX3_isCutBehind_1 : decode cX3_isCutBehind 1 = .ok (.aload_n 0, 1) := by decide +kernel
theorem dX3_isCutBehind_2 : decode cX3_isCutBehind 2 = .ok (.getfield 15, 3) := by decide +kernel
theorem dX3_isCutBehind_5 : decode cX3_isCutBehind 5 = .ok (.iconst 1, 1) := by decide +kernel
theorem dX3_isCutBehind_6 : decode cX3_isCutBehind 6 = .ok (.isub, 1) := by decide +kernel
theorem dX3_isCutBehind_7 : decode cX3_isCutBehind 7 = .ok (.if_icmp .ge 22, 3) := by decide +kernel
theorem dX3_isCutBehind_10 : decode cX3_isCutBehind 10 = .ok (.iload_n 1, 1) := by decide +kernel
theorem dX3_isCutBehind_11 : decode cX3_isCutBehind 11 = .ok (.aload_n 0, 1) := by decide +kernel
theorem dX3_isCutBehind_12 : decode cX3_isCutBehind 12 = .ok (.getfield 15, 3) := by decide +kernel
theorem dX3_isCutBehind_15 : decode cX3_isCutBehind 15 = .ok (.iconst 2, 1) := by decide +kernel
theorem dX3_isCutBehind_16 : decode cX3_isCutBehind 16 = .ok (.isub, 1) := by decide +kernel
theorem dX3_isCutBehind_17 : decode cX3_isCutBehind 17 = .ok (.iload_n 2, 1) := by decide +kernel
theorem dX3_isCutBehind_18 : decode cX3_isCutBehind 18 = .ok (.isub, 1) := by decide +kernel
theorem dX3_isCutBehind_19 : decode cX3_isCutBehind 19 = .ok (.invokestatic 19, 3) := by decide +kernel
theorem dX3_isCutBehind_22 : decode cX3_isCutBehind 22 = .ok (.ifCond .eq 7, 3) := by decide +kernel
theorem dX3_isCutBehind_25 : decode cX3_isCutBehind 25 = .ok (.iconst 1, 1) := by decide +kernel
theorem dX3_isCutBehind_26 : decode cX3_isCutBehind 26 = .ok (.goto 4, 3) := by decide +kernel
theorem dX3_isCutBehind_29 : decode cX3_isCutBehind 29 = .ok (.iconst 0, 1) := by decide +kernel
theorem dX3_isCutBehind_30 : decode cX3_isCutBehind 30 = .ok (.ireturn, 1) := by decide +kernel
set_option maxRecDepth 20000 in
theorem ggX3_meanPaged_X3_isCutBehind : GoodIn wsX3_meanPaged wsX3_isCutBehind := goodIn_r _ [7, 1, 8, 9, 10, 11, 12, 13, 14] (by decide +kernel) (by decide +kernel)
set_option maxRecDepth 20000 in
theorem gX3_meanPaged_X3_isCutBehind : GoodIn wsX3_meanPaged (wsV RX3 41 RX3 yX3_isCutBehind wsX3_isCutBehind) := goodIn_app (goodIn_of _ (by decide +kernel)) ggX3_meanPaged_X3_isCutBehind
theorem dX3_meanPaged_0 : decode cX3_meanPaged 0 = .ok (.lconst 0, 1) := by decide +kernel
theorem dX3_meanPaged_1 : decode cX3_meanPaged 1 = .ok (.lstore_n 3, 1) := by decide +kernel
theorem dX3_meanPaged_2 : decode cX3_meanPaged 2 = .ok (.aload_n 0, 1) := by decide +kernel
theorem dX3_meanPaged_3 : decode cX3_meanPaged 3 = .ok (.getfield 15, 3) := by decide +kernel
theorem dX3_meanPaged_6 : decode cX3_meanPaged 6 = .ok (.istore 5, 2) := by decide +kernel
theorem dX3_meanPaged_8 : decode cX3_meanPaged 8 = .ok (.aload_n 0, 1) := by decide +kernel
theorem dX3_meanPaged_9 : decode cX3_meanPaged 9 = .ok (.getfield 15, 3) := by decide +kernel
theorem dX3_meanPaged_12 : decode cX3_meanPaged 12 = .ok (.iconst 1, 1) := by decide +kernel
theorem dX3_meanPaged_13 : decode cX3_meanPaged 13 = .ok (.isub, 1) := by decide +kernel
theorem dX3_meanPaged_14 : decode cX3_meanPaged 14 = .ok (.istore 6, 2) := by decide +kernel
theorem dX3_meanPaged_16 : decode cX3_meanPaged 16 = .ok (.iload 6, 2) := by decide +kernel
theorem dX3_meanPaged_18 : decode cX3_meanPaged 18 = .ok (.ifCond .lt 41, 3) := by decide +kernel
theorem dX3_meanPaged_21 : decode cX3_meanPaged 21 = .ok (.aload_n 0, 1) := by decide +kernel
theorem dX3_meanPaged_22 : decode cX3_meanPaged 22 = .ok (.iload_n 1, 1) := by decide +kernel
theorem dX3_meanPaged_23 : decode cX3_meanPaged 23 = .ok (.iload 6, 2) := by decide +kernel
theorem dX3_meanPaged_25 : decode cX3_meanPaged 25 = .ok (.invokevirtual 41, 3) := by decide +kernel
theorem dX3_meanPaged_28 : decode cX3_meanPaged 28 = .ok (.ifCond .eq 9, 3) := by decide +kernel
theorem dX3_meanPaged_31 : decode cX3_meanPaged 31 = .ok (.iload 6, 2) := by decide +kernel
theorem dX3_meanPaged_33 : decode cX3_meanPaged 33 = .ok (.iconst 1, 1) := by decide +kernel
theorem dX3_meanPaged_34 : decode cX3_meanPaged 34 = .ok (.iadd, 1) := by decide +kernel
theorem dX3_meanPaged_35 : decode cX3_meanPaged 35 = .ok (.istore 5, 2) := by decide +kernel
theorem dX3_meanPaged_37 : decode cX3_meanPaged 37 = .ok (.lload_n 3, 1) := by decide +kernel
theorem dX3_meanPaged_38 : decode cX3_meanPaged 38 = .ok (.iload 5, 2) := by decide +kernel
theorem dX3_meanPaged_40 : decode cX3_meanPaged 40 = .ok (.i2l, 1) := by decide +kernel
theorem dX3_meanPaged_41 : decode cX3_meanPaged 41 = .ok (.aload_n 2, 1) := by decide +kernel
theorem dX3_meanPaged_42 : decode cX3_meanPaged 42 = .ok (.aload_n 0, 1) := by decide +kernel
theorem dX3_meanPaged_43 : decode cX3_meanPaged 43 = .ok (.getfield 9, 3) := by decide +kernel
theorem dX3_meanPaged_46 : decode cX3_meanPaged 46 = .ok (.iload 6, 2) := by decide +kernel
theorem dX3_meanPaged_48 : decode cX3_meanPaged 48 = .ok (.iaload, 1) := by decide +kernel
theorem dX3_meanPaged_49 : decode cX3_meanPaged 49 = .ok (.laload, 1) := by decide +kernel
theorem dX3_meanPaged_50 : decode cX3_meanPaged 50 = .ok (.lmul, 1) := by decide +kernel
theorem dX3_meanPaged_51 : decode cX3_meanPaged 51 = .ok (.ladd, 1) := by decide +kernel
theorem dX3_meanPaged_52 : decode cX3_meanPaged 52 = .ok (.lstore_n 3, 1) := by decide +kernel
theorem dX3_meanPaged_53 : decode cX3_meanPaged 53 = .ok (.iinc 6 (-1), 3) := by decide +kernel
theorem dX3_meanPaged_56 : decode cX3_meanPaged 56 = .ok (.goto (-40), 3) := by decide +kernel
theorem dX3_meanPaged_59 : decode cX3_meanPaged 59 = .ok (.lload_n 3, 1) := by decide +kernel
theorem dX3_meanPaged_60 : decode cX3_meanPaged 60 = .ok (.lreturn, 1) := by decide +kernel
set_option maxRecDepth 20000 in
theorem ggX3_cellsOf_X3_isCutBehind : GoodIn wsX3_cellsOf wsX3_isCutBehind := goodIn_r _ [8, 1, 9, 10, 11, 12, 13, 14, 15] (by decide +kernel) (by decide +kernel)
set_option maxRecDepth 20000 in
theorem gX3_cellsOf_X3_isCutBehind : GoodIn wsX3_cellsOf (wsV RX3 41 RX3 yX3_isCutBehind wsX3_isCutBehind) := goodIn_app (goodIn_of _ (by decide +kernel)) ggX3_cellsOf_X3_isCutBehind
theorem dX3_cellsOf_0 : decode cX3_cellsOf 0 = .ok (.iconst 0, 1) := by decide +kernel
theorem dX3_cellsOf_1 : decode cX3_cellsOf 1 = .ok (.istore_n 2, 1) := by decide +kernel
theorem dX3_cellsOf_2 : decode cX3_cellsOf 2 = .ok (.iconst 0, 1) := by decide +kernel
theorem dX3_cellsOf_3 : decode cX3_cellsOf 3 = .ok (.istore_n 3, 1) := by decide +kernel
theorem dX3_cellsOf_4 : decode cX3_cellsOf 4 = .ok (.iconst 0, 1) := by decide +kernel
theorem dX3_cellsOf_5 : decode cX3_cellsOf 5 = .ok (.istore 4, 2) := by decide +kernel
theorem dX3_cellsOf_7 : decode cX3_cellsOf 7 = .ok (.iload 4, 2) := by decide +kernel
theorem dX3_cellsOf_9 : decode cX3_cellsOf 9 = .ok (.aload_n 0, 1) := by decide +kernel
theorem dX3_cellsOf_10 : decode cX3_cellsOf 10 = .ok (.getfield 15, 3) := by decide +kernel
theorem dX3_cellsOf_13 : decode cX3_cellsOf 13 = .ok (.if_icmp .ge 42, 3) := by decide +kernel
theorem dX3_cellsOf_16 : decode cX3_cellsOf 16 = .ok (.iload_n 3, 1) := by decide +kernel
theorem dX3_cellsOf_17 : decode cX3_cellsOf 17 = .ok (.iload_n 1, 1) := by decide +kernel
theorem dX3_cellsOf_18 : decode cX3_cellsOf 18 = .ok (.if_icmp .ne 15, 3) := by decide +kernel
theorem dX3_cellsOf_21 : decode cX3_cellsOf 21 = .ok (.iload_n 2, 1) := by decide +kernel
theorem dX3_cellsOf_22 : decode cX3_cellsOf 22 = .ok (.iconst 1, 1) := by decide +kernel
theorem dX3_cellsOf_23 : decode cX3_cellsOf 23 = .ok (.aload_n 0, 1) := by decide +kernel
theorem dX3_cellsOf_24 : decode cX3_cellsOf 24 = .ok (.getfield 9, 3) := by decide +kernel
theorem dX3_cellsOf_27 : decode cX3_cellsOf 27 = .ok (.iload 4, 2) := by decide +kernel
theorem dX3_cellsOf_29 : decode cX3_cellsOf 29 = .ok (.iaload, 1) := by decide +kernel
theorem dX3_cellsOf_30 : decode cX3_cellsOf 30 = .ok (.ishl, 1) := by decide +kernel
theorem dX3_cellsOf_31 : decode cX3_cellsOf 31 = .ok (.ior, 1) := by decide +kernel
theorem dX3_cellsOf_32 : decode cX3_cellsOf 32 = .ok (.istore_n 2, 1) := by decide +kernel
theorem dX3_cellsOf_33 : decode cX3_cellsOf 33 = .ok (.aload_n 0, 1) := by decide +kernel
theorem dX3_cellsOf_34 : decode cX3_cellsOf 34 = .ok (.aload_n 0, 1) := by decide +kernel
theorem dX3_cellsOf_35 : decode cX3_cellsOf 35 = .ok (.getfield 28, 3) := by decide +kernel
theorem dX3_cellsOf_38 : decode cX3_cellsOf 38 = .ok (.iload 4, 2) := by decide +kernel
theorem dX3_cellsOf_40 : decode cX3_cellsOf 40 = .ok (.invokevirtual 41, 3) := by decide +kernel
theorem dX3_cellsOf_43 : decode cX3_cellsOf 43 = .ok (.ifCond .eq 6, 3) := by decide +kernel
theorem dX3_cellsOf_46 : decode cX3_cellsOf 46 = .ok (.iinc 3 1, 3) := by decide +kernel
theorem dX3_cellsOf_49 : decode cX3_cellsOf 49 = .ok (.iinc 4 1, 3) := by decide +kernel
theorem dX3_cellsOf_52 : decode cX3_cellsOf 52 = .ok (.goto (-45), 3) := by decide +kernel
theorem dX3_cellsOf_55 : decode cX3_cellsOf 55 = .ok (.iload_n 2, 1) := by decide +kernel
theorem dX3_cellsOf_56 : decode cX3_cellsOf 56 = .ok (.ireturn, 1) := by decide +kernel
theorem dX4_init_0 : decode cX4_init 0 = .ok (.aload_n 0, 1) := by decide +kernel
theorem dX4_init_1 : decode cX4_init 1 = .ok (.invokespecial 3, 3) := by decide +kernel
theorem dX4_init_4 : decode cX4_init 4 = .ok (.aload_n 0, 1) := by decide +kernel
theorem dX4_init_5 : decode cX4_init 5 = .ok (.bipush 6, 2) := by decide +kernel
theorem dX4_init_7 : decode cX4_init 7 = .ok (.newarray .int, 2) := by decide +kernel
theorem dX4_init_9 : decode cX4_init 9 = .ok (.putfield 9, 3) := by decide +kernel
theorem dX4_init_12 : decode cX4_init 12 = .ok (.aload_n 0, 1) := by decide +kernel
theorem dX4_init_13 : decode cX4_init 13 = .ok (.bipush 6, 2) := by decide +kernel
theorem dX4_init_15 : decode cX4_init 15 = .ok (.newarray .int, 2) := by decide +kernel
theorem dX4_init_17 : decode cX4_init 17 = .ok (.putfield 15, 3) := by decide +kernel
theorem dX4_init_20 : decode cX4_init 20 = .ok (.return_, 1) := by decide +kernel
set_option maxRecDepth 20000 in
theorem ggX4_begin_X4_register : GoodIn wsX4_begin wsX4_register := goodIn_r _ [12, 5, 13, 14, 15, 16, 17, 18, 19, 20, 21, 22, 23, 24, 25] (by decide +kernel) (by decide +kernel)
set_option maxRecDepth 20000 in
theorem gX4_begin_X4_register : GoodIn wsX4_begin (wsV RX4 34 RX4 yX4_register wsX4_register) := goodIn_app (goodIn_of _ (by decide +kernel)) ggX4_begin_X4_register
theorem dX4_begin_0 : decode cX4_begin 0 = .ok (.iconst 0, 1) := by decide +kernel
theorem dX4_begin_1 : decode cX4_begin 1 = .ok (.istore_n 1, 1) := by decide +kernel
theorem dX4_begin_2 : decode cX4_begin 2 = .ok (.iload_n 1, 1) := by decide +kernel
theorem dX4_begin_3 : decode cX4_begin 3 = .ok (.bipush 6, 2) := by decide +kernel
theorem dX4_begin_5 : decode cX4_begin 5 = .ok (.if_icmp .ge 23, 3) := by decide +kernel
theorem dX4_begin_8 : decode cX4_begin 8 = .ok (.aload_n 0, 1) := by decide +kernel
theorem dX4_begin_9 : decode cX4_begin 9 = .ok (.getfield 9, 3) := by decide +kernel
theorem dX4_begin_12 : decode cX4_begin 12 = .ok (.iload_n 1, 1) := by decide +kernel
theorem dX4_begin_13 : decode cX4_begin 13 = .ok (.iconst 1, 1) := by decide +kernel
theorem dX4_begin_14 : decode cX4_begin 14 = .ok (.iastore, 1) := by decide +kernel
theorem dX4_begin_15 : decode cX4_begin 15 = .ok (.aload_n 0, 1) := by decide +kernel
theorem dX4_begin_16 : decode cX4_begin 16 = .ok (.getfield 15, 3) := by decide +kernel
theorem dX4_begin_19 : decode cX4_begin 19 = .ok (.iload_n 1, 1) := by decide +kernel
theorem dX4_begin_20 : decode cX4_begin 20 = .ok (.iconst 0, 1) := by decide +kernel
theorem dX4_begin_21 : decode cX4_begin 21 = .ok (.iastore, 1) := by decide +kernel
theorem dX4_begin_22 : decode cX4_begin 22 = .ok (.iinc 1 1, 3) := by decide +kernel
theorem dX4_begin_25 : decode cX4_begin 25 = .ok (.goto (-23), 3) := by decide +kernel
theorem dX4_begin_28 : decode cX4_begin 28 = .ok (.aload_n 0, 1) := by decide +kernel
theorem dX4_begin_29 : decode cX4_begin 29 = .ok (.iconst 0, 1) := by decide +kernel
theorem dX4_begin_30 : decode cX4_begin 30 = .ok (.putfield 18, 3) := by decide +kernel
theorem dX4_begin_33 : decode cX4_begin 33 = .ok (.aload_n 0, 1) := by decide +kernel
theorem dX4_begin_34 : decode cX4_begin 34 = .ok (.iconst 0, 1) := by decide +kernel
theorem dX4_begin_35 : decode cX4_begin 35 = .ok (.putfield 22, 3) := by decide +kernel
theorem dX4_begin_38 : decode cX4_begin 38 = .ok (.aload_n 0, 1) := by decide +kernel
theorem dX4_begin_39 : decode cX4_begin 39 = .ok (.iconst 0, 1) := by decide +kernel
theorem dX4_begin_40 : decode cX4_begin 40 = .ok (.putfield 25, 3) := by decide +kernel
theorem dX4_begin_43 : decode cX4_begin 43 = .ok (.aload_n 0, 1) := by decide +kernel
theorem dX4_begin_44 : decode cX4_begin 44 = .ok (.iconst 0, 1) := by decide +kernel
theorem dX4_begin_45 : decode cX4_begin 45 = .ok (.putfield 28, 3) := by decide +kernel
theorem dX4_begin_48 : decode cX4_begin 48 = .ok (.aload_n 0, 1) := by decide +kernel
theorem dX4_begin_49 : decode cX4_begin 49 = .ok (.iconst 0, 1) := by decide +kernel
theorem dX4_begin_50 : decode cX4_begin 50 = .ok (.putfield 31, 3) := by decide +kernel
theorem dX4_begin_53 : decode cX4_begin 53 = .ok (.aload_n 0, 1) := by decide +kernel
theorem dX4_begin_54 : decode cX4_begin 54 = .ok (.invokevirtual 34, 3) := by decide +kernel
theorem dX4_begin_57 : decode cX4_begin 57 = .ok (.return_, 1) := by decide +kernel
theorem dX4_copyFrom_0 : decode cX4_copyFrom 0 = .ok (.aload_n 1, 1) := by decide +kernel
theorem dX4_copyFrom_1 : decode cX4_copyFrom 1 = .ok (.getfield 9, 3) := by decide +kernel
theorem dX4_copyFrom_4 : decode cX4_copyFrom 4 = .ok (.iconst 0, 1) := by decide +kernel
theorem dX4_copyFrom_5 : decode cX4_copyFrom 5 = .ok (.aload_n 0, 1) := by decide +kernel
theorem dX4_copyFrom_6 : decode cX4_copyFrom 6 = .ok (.getfield 9, 3) := by decide +kernel
theorem dX4_copyFrom_9 : decode cX4_copyFrom 9 = .ok (.iconst 0, 1) := by decide +kernel
theorem dX4_copyFrom_10 : decode cX4_copyFrom 10 = .ok (.bipush 6, 2) := by decide +kernel
theorem dX4_copyFrom_12 : decode cX4_copyFrom 12 = .ok (.invokestatic 37, 3) := by decide +kernel
theorem dX4_copyFrom_15 : decode cX4_copyFrom 15 = .ok (.aload_n 1, 1) := by decide +kernel
theorem dX4_copyFrom_16 : decode cX4_copyFrom 16 = .ok (.getfield 15, 3) := by decide +kernel
theorem dX4_copyFrom_19 : decode cX4_copyFrom 19 = .ok (.iconst 0, 1) := by decide +kernel
theorem dX4_copyFrom_20 : decode cX4_copyFrom 20 = .ok (.aload_n 0, 1) := by decide +kernel
theorem dX4_copyFrom_21 : decode cX4_copyFrom 21 = .ok (.getfield 15, 3) := by decide +kernel
theorem dX4_copyFrom_24 : decode cX4_copyFrom 24 = .ok (.iconst 0, 1) := by decide +kernel
theorem dX4_copyFrom_25 : decode cX4_copyFrom 25 = .ok (.bipush 6, 2) := by decide +kernel
theorem dX4_copyFrom_27 : decode cX4_copyFrom 27 = .ok (.invokestatic 37, 3) := by decide +kernel
theorem dX4_copyFrom_30 : decode cX4_copyFrom 30 = .ok (.aload_n 0, 1) := by decide +kernel
theorem dX4_copyFrom_31 : decode cX4_copyFrom 31 = .ok (.aload_n 1, 1) := by decide +kernel
theorem dX4_copyFrom_32 : decode cX4_copyFrom 32 = .ok (.getfield 18, 3) := by decide +kernel
theorem dX4_copyFrom_35 : decode cX4_copyFrom 35 = .ok (.putfield 18, 3) := by decide +kernel
theorem dX4_copyFrom_38 : decode cX4_copyFrom 38 = .ok (.aload_n 0, 1) := by decide +kernel
theorem dX4_copyFrom_39 : decode cX4_copyFrom 39 = .ok (.aload_n 1, 1) := by decide +kernel
theorem dX4_copyFrom_40 : decode cX4_copyFrom 40 = .ok (.getfield 22, 3) := by decide +kernel
theorem dX4_copyFrom_43 : decode cX4_copyFrom 43 = .ok (.putfield 22, 3) := by decide +kernel
theorem dX4_copyFrom_46 : decode cX4_copyFrom 46 = .ok (.aload_n 0, 1) := by decide +kernel
theorem dX4_copyFrom_47 : decode cX4_copyFrom 47 = .ok (.aload_n 1, 1) := by decide +kernel
theorem dX4_copyFrom_48 : decode cX4_copyFrom 48 = .ok (.getfield 25, 3) := by decide +kernel
theorem dX4_copyFrom_51 : decode cX4_copyFrom 51 = .ok (.putfield 25, 3) := by decide +kernel
theorem dX4_copyFrom_54 : decode cX4_copyFrom 54 = .ok (.aload_n 0, 1) := by decide +kernel
theorem dX4_copyFrom_55 : decode cX4_copyFrom 55 = .ok (.aload_n 1, 1) := by decide +kernel
theorem dX4_copyFrom_56 : decode cX4_copyFrom 56 = .ok (.getfield 43, 3) := by decide +kernel
theorem dX4_copyFrom_59 : decode cX4_copyFrom 59 = .ok (.putfield 43, 3) := by decide +kernel
theorem dX4_copyFrom_62 : decode cX4_copyFrom 62 = .ok (.aload_n 0, 1) := by decide +kernel
theorem dX4_copyFrom_63 : decode cX4_copyFrom 63 = .ok (.aload_n 1, 1) := by decide +kernel
theorem dX4_copyFrom_64 : decode cX4_copyFrom 64 = .ok (.getfield 46, 3) := by decide +kernel
theorem dX4_copyFrom_67 : decode cX4_copyFrom 67 = .ok (.putfield 46, 3) := by decide +kernel
theorem dX4_copyFrom_70 : decode cX4_copyFrom 70 = .ok (.aload_n 0, 1) := by decide +kernel
theorem dX4_copyFrom_71 : decode cX4_copyFrom 71 = .ok (.aload_n 1, 1) := by decide +kernel
theorem dX4_copyFrom_72 : decode cX4_copyFrom 72 = .ok (.getfield 49, 3) := by decide +kernel
theorem dX4_copyFrom_75 : decode cX4_copyFrom 75 = .ok (.putfield 49, 3) := by decide +kernel
theorem dX4_copyFrom_78 : decode cX4_copyFrom 78 = .ok (.aload_n 0, 1) := by decide +kernel
theorem dX4_copyFrom_79 : decode cX4_copyFrom 79 = .ok (.aload_n 1, 1) := by decide +kernel
theorem dX4_copyFrom_80 : decode cX4_copyFrom 80 = .ok (.getfield 28, 3) := by decide +kernel
theorem dX4_copyFrom_83 : decode cX4_copyFrom 83 = .ok (.putfield 28, 3) := by decide +kernel
theorem dX4_copyFrom_86 : decode cX4_copyFrom 86 = .ok (.aload_n 0, 1) := by decide +kernel
theorem dX4_copyFrom_87 : decode cX4_copyFrom 87 = .ok (.aload_n 1, 1) := by decide +kernel
theorem dX4_copyFrom_88 : decode cX4_copyFrom 88 = .ok (.getfield 31, 3) := by decide +kernel
theorem dX4_copyFrom_91 : decode cX4_copyFrom 91 = .ok (.putfield 31, 3) := by decide +kernel
theorem dX4_copyFrom_94 : decode cX4_copyFrom 94 = .ok (.return_, 1) := by decide +kernel
theorem dX4_register_0 : decode cX4_register 0 = .ok (.aload_n 0, 1) := by decide +kernel
theorem dX4_register_1 : decode cX4_register 1 = .ok (.aload_n 0, 1) := by decide +kernel
theorem dX4_register_2 : decode cX4_register 2 = .ok (.getfield 25, 3) := by decide +kernel
theorem dX4_register_5 : decode cX4_register 5 = .ok (.putfield 43, 3) := by decide +kernel
theorem dX4_register_8 : decode cX4_register 8 = .ok (.aload_n 0, 1) := by decide +kernel
theorem dX4_register_9 : decode cX4_register 9 = .ok (.iconst 0, 1) := by decide +kernel
theorem dX4_register_10 : decode cX4_register 10 = .ok (.putfield 46, 3) := by decide +kernel
theorem dX4_register_13 : decode cX4_register 13 = .ok (.aload_n 0, 1) := by decide +kernel
theorem dX4_register_14 : decode cX4_register 14 = .ok (.iconst 0, 1) := by decide +kernel
theorem dX4_register_15 : decode cX4_register 15 = .ok (.putfield 49, 3) := by decide +kernel
theorem dX4_register_18 : decode cX4_register 18 = .ok (.return_, 1) := by decide +kernel
