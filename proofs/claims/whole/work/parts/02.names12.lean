theorem dX8_give_30 : decode cX8_give 30 = .ok (.iaload, 1) := by decide +kernel
theorem dX8_give_31 : decode cX8_give 31 = .ok (.aload_n 0, 1) := by decide +kernel
theorem dX8_give_32 : decode cX8_give 32 = .ok (.getfield 50, 3) := by decide +kernel
theorem dX8_give_35 : decode cX8_give 35 = .ok (.iload_n 2, 1) := by decide +kernel
theorem dX8_give_36 : decode cX8_give 36 = .ok (.iaload, 1) := by decide +kernel
theorem dX8_give_37 : decode cX8_give 37 = .ok (.if_icmp .ne 7, 3) := by decide +kernel
theorem dX8_give_40 : decode cX8_give 40 = .ok (.iconst 0, 1) := by decide +kernel
theorem dX8_give_41 : decode cX8_give 41 = .ok (.goto 4, 3) := by decide +kernel
theorem dX8_give_44 : decode cX8_give 44 = .ok (.iconst 1, 1) := by decide +kernel
theorem dX8_give_45 : decode cX8_give 45 = .ok (.iadd, 1) := by decide +kernel
theorem dX8_give_46 : decode cX8_give 46 = .ok (.istore_n 1, 1) := by decide +kernel
theorem dX8_give_47 : decode cX8_give 47 = .ok (.aload_n 0, 1) := by decide +kernel
theorem dX8_give_48 : decode cX8_give 48 = .ok (.getfield 19, 3) := by decide +kernel
theorem dX8_give_51 : decode cX8_give 51 = .ok (.bipush 6, 2) := by decide +kernel
theorem dX8_give_53 : decode cX8_give 53 = .ok (.iload_n 2, 1) := by decide +kernel
theorem dX8_give_54 : decode cX8_give 54 = .ok (.iadd, 1) := by decide +kernel
theorem dX8_give_55 : decode cX8_give 55 = .ok (.aload_n 0, 1) := by decide +kernel
theorem dX8_give_56 : decode cX8_give 56 = .ok (.getfield 50, 3) := by decide +kernel
theorem dX8_give_59 : decode cX8_give 59 = .ok (.iload_n 2, 1) := by decide +kernel
theorem dX8_give_60 : decode cX8_give 60 = .ok (.iaload, 1) := by decide +kernel
theorem dX8_give_61 : decode cX8_give 61 = .ok (.iastore, 1) := by decide +kernel
theorem dX8_give_62 : decode cX8_give 62 = .ok (.iinc 2 1, 3) := by decide +kernel
theorem dX8_give_65 : decode cX8_give 65 = .ok (.goto (-52), 3) := by decide +kernel
theorem dX8_give_68 : decode cX8_give 68 = .ok (.aload_n 0, 1) := by decide +kernel
theorem dX8_give_69 : decode cX8_give 69 = .ok (.getfield 19, 3) := by decide +kernel
theorem dX8_give_72 : decode cX8_give 72 = .ok (.invokestatic 142, 3) := by decide +kernel
theorem dX8_give_75 : decode cX8_give 75 = .ok (.iload_n 1, 1) := by decide +kernel
theorem dX8_give_76 : decode cX8_give 76 = .ok (.ireturn, 1) := by decide +kernel
set_option maxRecDepth 20000 in
theorem ggX8_ranks_X8_whereIs : GoodIn wsX8_ranks wsX8_whereIs := goodIn_r _ [9, 10, 11, 12, 2, 13, 14, 15, 8, 16, 17, 18, 19, 20, 21, 22, 23, 24, 25, 43, 44, 45, 46, 47, 48, 49, 50, 51, 52, 53, 54, 55, 56, 57, 58, 59, 60, 61, 62, 63, 64, 65, 66, 67, 68] (by decide +kernel) (by decide +kernel)
set_option maxRecDepth 20000 in
theorem gX8_ranks_X8_whereIs : GoodIn wsX8_ranks (wsV RX8 173 RX8 yX8_whereIs wsX8_whereIs) := goodIn_app (goodIn_of _ (by decide +kernel)) ggX8_ranks_X8_whereIs
set_option maxRecDepth 20000 in
theorem ggX8_ranks_X8_grows : GoodIn wsX8_ranks wsX8_grows := goodIn_r _ [29, 2, 30, 25, 3, 31, 32, 33, 8, 34, 35, 36, 37, 38, 43, 44, 45, 46, 47, 48, 49, 50, 51, 52, 53, 54, 55, 56, 57, 58, 59, 60, 61, 62, 63, 64, 65, 66, 67, 68] (by decide +kernel) (by decide +kernel)
set_option maxRecDepth 20000 in
theorem gX8_ranks_X8_grows : GoodIn wsX8_ranks (wsV RX8 186 RX8 yX8_grows wsX8_grows) := goodIn_app (goodIn_of _ (by decide +kernel)) ggX8_ranks_X8_grows
set_option maxRecDepth 20000 in
theorem ggX8_ranks_X8_sum : GoodIn wsX8_ranks wsX8_sum := goodIn_r _ [42, 10, 31, 32, 33, 8, 34, 2, 25, 43, 44, 45, 46, 47, 48, 49, 50, 51, 52, 53, 54, 55, 56, 57, 58, 59, 60, 61, 62, 63, 64, 65, 66, 67, 68] (by decide +kernel) (by decide +kernel)
set_option maxRecDepth 20000 in
theorem gX8_ranks_X8_sum : GoodIn wsX8_ranks (wsV RX8 149 RX8 yX8_sum wsX8_sum) := goodIn_app (goodIn_of _ (by decide +kernel)) ggX8_ranks_X8_sum
theorem dX8_ranks_0 : decode cX8_ranks 0 = .ok (.aload_n 0, 1) := by decide +kernel
theorem dX8_ranks_1 : decode cX8_ranks 1 = .ok (.invokevirtual 173, 3) := by decide +kernel
theorem dX8_ranks_4 : decode cX8_ranks 4 = .ok (.istore_n 1, 1) := by decide +kernel
theorem dX8_ranks_5 : decode cX8_ranks 5 = .ok (.aload_n 0, 1) := by decide +kernel
theorem dX8_ranks_6 : decode cX8_ranks 6 = .ok (.invokevirtual 186, 3) := by decide +kernel
theorem dX8_ranks_9 : decode cX8_ranks 9 = .ok (.aload_n 0, 1) := by decide +kernel
theorem dX8_ranks_10 : decode cX8_ranks 10 = .ok (.iconst 0, 1) := by decide +kernel
theorem dX8_ranks_11 : decode cX8_ranks 11 = .ok (.putfield 215, 3) := by decide +kernel
theorem dX8_ranks_14 : decode cX8_ranks 14 = .ok (.iconst 0, 1) := by decide +kernel
theorem dX8_ranks_15 : decode cX8_ranks 15 = .ok (.istore_n 2, 1) := by decide +kernel
theorem dX8_ranks_16 : decode cX8_ranks 16 = .ok (.iload_n 2, 1) := by decide +kernel
theorem dX8_ranks_17 : decode cX8_ranks 17 = .ok (.aload_n 0, 1) := by decide +kernel
theorem dX8_ranks_18 : decode cX8_ranks 18 = .ok (.getfield 76, 3) := by decide +kernel
theorem dX8_ranks_21 : decode cX8_ranks 21 = .ok (.if_icmp .ge 108, 3) := by decide +kernel
theorem dX8_ranks_24 : decode cX8_ranks 24 = .ok (.iload_n 1, 1) := by decide +kernel
theorem dX8_ranks_25 : decode cX8_ranks 25 = .ok (.iload_n 2, 1) := by decide +kernel
theorem dX8_ranks_26 : decode cX8_ranks 26 = .ok (.ishr, 1) := by decide +kernel
theorem dX8_ranks_27 : decode cX8_ranks 27 = .ok (.iconst 1, 1) := by decide +kernel
theorem dX8_ranks_28 : decode cX8_ranks 28 = .ok (.iand, 1) := by decide +kernel
theorem dX8_ranks_29 : decode cX8_ranks 29 = .ok (.iconst 1, 1) := by decide +kernel
theorem dX8_ranks_30 : decode cX8_ranks 30 = .ok (.if_icmp .ne 93, 3) := by decide +kernel
theorem dX8_ranks_33 : decode cX8_ranks 33 = .ok (.aload_n 0, 1) := by decide +kernel
theorem dX8_ranks_34 : decode cX8_ranks 34 = .ok (.getfield 215, 3) := by decide +kernel
theorem dX8_ranks_37 : decode cX8_ranks 37 = .ok (.istore_n 3, 1) := by decide +kernel
theorem dX8_ranks_38 : decode cX8_ranks 38 = .ok (.iload_n 3, 1) := by decide +kernel
theorem dX8_ranks_39 : decode cX8_ranks 39 = .ok (.ifCond .le 67, 3) := by decide +kernel
theorem dX8_ranks_42 : decode cX8_ranks 42 = .ok (.aload_n 0, 1) := by decide +kernel
theorem dX8_ranks_43 : decode cX8_ranks 43 = .ok (.getfield 40, 3) := by decide +kernel
theorem dX8_ranks_46 : decode cX8_ranks 46 = .ok (.aload_n 0, 1) := by decide +kernel
theorem dX8_ranks_47 : decode cX8_ranks 47 = .ok (.getfield 53, 3) := by decide +kernel
theorem dX8_ranks_50 : decode cX8_ranks 50 = .ok (.iload_n 3, 1) := by decide +kernel
theorem dX8_ranks_51 : decode cX8_ranks 51 = .ok (.iconst 1, 1) := by decide +kernel
theorem dX8_ranks_52 : decode cX8_ranks 52 = .ok (.isub, 1) := by decide +kernel
theorem dX8_ranks_53 : decode cX8_ranks 53 = .ok (.iaload, 1) := by decide +kernel
theorem dX8_ranks_54 : decode cX8_ranks 54 = .ok (.laload, 1) := by decide +kernel
theorem dX8_ranks_55 : decode cX8_ranks 55 = .ok (.aload_n 0, 1) := by decide +kernel
theorem dX8_ranks_56 : decode cX8_ranks 56 = .ok (.aload_n 0, 1) := by decide +kernel
theorem dX8_ranks_57 : decode cX8_ranks 57 = .ok (.getfield 53, 3) := by decide +kernel
theorem dX8_ranks_60 : decode cX8_ranks 60 = .ok (.iload_n 3, 1) := by decide +kernel
theorem dX8_ranks_61 : decode cX8_ranks 61 = .ok (.iconst 1, 1) := by decide +kernel
theorem dX8_ranks_62 : decode cX8_ranks 62 = .ok (.isub, 1) := by decide +kernel
theorem dX8_ranks_63 : decode cX8_ranks 63 = .ok (.iaload, 1) := by decide +kernel
theorem dX8_ranks_64 : decode cX8_ranks 64 = .ok (.invokevirtual 149, 3) := by decide +kernel
theorem dX8_ranks_67 : decode cX8_ranks 67 = .ok (.i2l, 1) := by decide +kernel
theorem dX8_ranks_68 : decode cX8_ranks 68 = .ok (.lmul, 1) := by decide +kernel
theorem dX8_ranks_69 : decode cX8_ranks 69 = .ok (.aload_n 0, 1) := by decide +kernel
theorem dX8_ranks_70 : decode cX8_ranks 70 = .ok (.getfield 40, 3) := by decide +kernel
theorem dX8_ranks_73 : decode cX8_ranks 73 = .ok (.iload_n 2, 1) := by decide +kernel
theorem dX8_ranks_74 : decode cX8_ranks 74 = .ok (.laload, 1) := by decide +kernel
theorem dX8_ranks_75 : decode cX8_ranks 75 = .ok (.aload_n 0, 1) := by decide +kernel
theorem dX8_ranks_76 : decode cX8_ranks 76 = .ok (.iload_n 2, 1) := by decide +kernel
theorem dX8_ranks_77 : decode cX8_ranks 77 = .ok (.invokevirtual 149, 3) := by decide +kernel
theorem dX8_ranks_80 : decode cX8_ranks 80 = .ok (.i2l, 1) := by decide +kernel
theorem dX8_ranks_81 : decode cX8_ranks 81 = .ok (.lmul, 1) := by decide +kernel
theorem dX8_ranks_82 : decode cX8_ranks 82 = .ok (.lcmp, 1) := by decide +kernel
theorem dX8_ranks_83 : decode cX8_ranks 83 = .ok (.ifCond .ge 23, 3) := by decide +kernel
theorem dX8_ranks_86 : decode cX8_ranks 86 = .ok (.aload_n 0, 1) := by decide +kernel
theorem dX8_ranks_87 : decode cX8_ranks 87 = .ok (.getfield 53, 3) := by decide +kernel
theorem dX8_ranks_90 : decode cX8_ranks 90 = .ok (.iload_n 3, 1) := by decide +kernel
theorem dX8_ranks_91 : decode cX8_ranks 91 = .ok (.aload_n 0, 1) := by decide +kernel
theorem dX8_ranks_92 : decode cX8_ranks 92 = .ok (.getfield 53, 3) := by decide +kernel
theorem dX8_ranks_95 : decode cX8_ranks 95 = .ok (.iload_n 3, 1) := by decide +kernel
theorem dX8_ranks_96 : decode cX8_ranks 96 = .ok (.iconst 1, 1) := by decide +kernel
theorem dX8_ranks_97 : decode cX8_ranks 97 = .ok (.isub, 1) := by decide +kernel
theorem dX8_ranks_98 : decode cX8_ranks 98 = .ok (.iaload, 1) := by decide +kernel
theorem dX8_ranks_99 : decode cX8_ranks 99 = .ok (.iastore, 1) := by decide +kernel
theorem dX8_ranks_100 : decode cX8_ranks 100 = .ok (.iinc 3 (-1), 3) := by decide +kernel
theorem dX8_ranks_103 : decode cX8_ranks 103 = .ok (.goto (-65), 3) := by decide +kernel
theorem dX8_ranks_106 : decode cX8_ranks 106 = .ok (.aload_n 0, 1) := by decide +kernel
theorem dX8_ranks_107 : decode cX8_ranks 107 = .ok (.getfield 53, 3) := by decide +kernel
theorem dX8_ranks_110 : decode cX8_ranks 110 = .ok (.iload_n 3, 1) := by decide +kernel
theorem dX8_ranks_111 : decode cX8_ranks 111 = .ok (.iload_n 2, 1) := by decide +kernel
theorem dX8_ranks_112 : decode cX8_ranks 112 = .ok (.iastore, 1) := by decide +kernel
theorem dX8_ranks_113 : decode cX8_ranks 113 = .ok (.aload_n 0, 1) := by decide +kernel
theorem dX8_ranks_114 : decode cX8_ranks 114 = .ok (.dup, 1) := by decide +kernel
theorem dX8_ranks_115 : decode cX8_ranks 115 = .ok (.getfield 215, 3) := by decide +kernel
theorem dX8_ranks_118 : decode cX8_ranks 118 = .ok (.iconst 1, 1) := by decide +kernel
theorem dX8_ranks_119 : decode cX8_ranks 119 = .ok (.iadd, 1) := by decide +kernel
theorem dX8_ranks_120 : decode cX8_ranks 120 = .ok (.putfield 215, 3) := by decide +kernel
theorem dX8_ranks_123 : decode cX8_ranks 123 = .ok (.iinc 2 1, 3) := by decide +kernel
theorem dX8_ranks_126 : decode cX8_ranks 126 = .ok (.goto (-110), 3) := by decide +kernel
theorem dX8_ranks_129 : decode cX8_ranks 129 = .ok (.return_, 1) := by decide +kernel
theorem dX8_bits_0 : decode cX8_bits 0 = .ok (.iconst 0, 1) := by decide +kernel
theorem dX8_bits_1 : decode cX8_bits 1 = .ok (.istore_n 1, 1) := by decide +kernel
theorem dX8_bits_2 : decode cX8_bits 2 = .ok (.iconst 0, 1) := by decide +kernel
theorem dX8_bits_3 : decode cX8_bits 3 = .ok (.istore_n 2, 1) := by decide +kernel
theorem dX8_bits_4 : decode cX8_bits 4 = .ok (.iload_n 2, 1) := by decide +kernel
theorem dX8_bits_5 : decode cX8_bits 5 = .ok (.bipush 6, 2) := by decide +kernel
theorem dX8_bits_7 : decode cX8_bits 7 = .ok (.if_icmp .ge 17, 3) := by decide +kernel
theorem dX8_bits_10 : decode cX8_bits 10 = .ok (.iload_n 1, 1) := by decide +kernel
theorem dX8_bits_11 : decode cX8_bits 11 = .ok (.iload_n 0, 1) := by decide +kernel
theorem dX8_bits_12 : decode cX8_bits 12 = .ok (.iload_n 2, 1) := by decide +kernel
theorem dX8_bits_13 : decode cX8_bits 13 = .ok (.ishr, 1) := by decide +kernel
theorem dX8_bits_14 : decode cX8_bits 14 = .ok (.iconst 1, 1) := by decide +kernel
theorem dX8_bits_15 : decode cX8_bits 15 = .ok (.iand, 1) := by decide +kernel
theorem dX8_bits_16 : decode cX8_bits 16 = .ok (.iadd, 1) := by decide +kernel
theorem dX8_bits_17 : decode cX8_bits 17 = .ok (.istore_n 1, 1) := by decide +kernel
theorem dX8_bits_18 : decode cX8_bits 18 = .ok (.iinc 2 1, 3) := by decide +kernel
theorem dX8_bits_21 : decode cX8_bits 21 = .ok (.goto (-17), 3) := by decide +kernel
theorem dX8_bits_24 : decode cX8_bits 24 = .ok (.iload_n 1, 1) := by decide +kernel
theorem dX8_bits_25 : decode cX8_bits 25 = .ok (.ireturn, 1) := by decide +kernel
set_option maxRecDepth 20000 in
theorem ggX8_paged_X8_sum : GoodIn wsX8_paged wsX8_sum := goodIn_r _ [8, 9, 10, 11, 12, 7, 13, 14, 15, 16, 17, 18, 19, 20, 21, 22, 23, 24, 25, 26, 27, 28, 29, 30, 31, 32, 33, 34, 35, 36, 37, 38, 39, 40, 41] (by decide +kernel) (by decide +kernel)
set_option maxRecDepth 20000 in
theorem gX8_paged_X8_sum : GoodIn wsX8_paged (wsV RX8 149 RX8 yX8_sum wsX8_sum) := goodIn_app (goodIn_of _ (by decide +kernel)) ggX8_paged_X8_sum
theorem dX8_paged_0 : decode cX8_paged 0 = .ok (.lconst 0, 1) := by decide +kernel
theorem dX8_paged_1 : decode cX8_paged 1 = .ok (.lstore_n 2, 1) := by decide +kernel
theorem dX8_paged_2 : decode cX8_paged 2 = .ok (.iconst 0, 1) := by decide +kernel
theorem dX8_paged_3 : decode cX8_paged 3 = .ok (.istore 4, 2) := by decide +kernel
theorem dX8_paged_5 : decode cX8_paged 5 = .ok (.iload 4, 2) := by decide +kernel
theorem dX8_paged_7 : decode cX8_paged 7 = .ok (.aload_n 0, 1) := by decide +kernel
theorem dX8_paged_8 : decode cX8_paged 8 = .ok (.getfield 215, 3) := by decide +kernel
theorem dX8_paged_11 : decode cX8_paged 11 = .ok (.if_icmp .ge 62, 3) := by decide +kernel
theorem dX8_paged_14 : decode cX8_paged 14 = .ok (.iload 4, 2) := by decide +kernel
theorem dX8_paged_16 : decode cX8_paged 16 = .ok (.istore 5, 2) := by decide +kernel
theorem dX8_paged_18 : decode cX8_paged 18 = .ok (.iload_n 1, 1) := by decide +kernel
theorem dX8_paged_19 : decode cX8_paged 19 = .ok (.iload 5, 2) := by decide +kernel
theorem dX8_paged_21 : decode cX8_paged 21 = .ok (.ishr, 1) := by decide +kernel
theorem dX8_paged_22 : decode cX8_paged 22 = .ok (.iconst 1, 1) := by decide +kernel
theorem dX8_paged_23 : decode cX8_paged 23 = .ok (.iand, 1) := by decide +kernel
theorem dX8_paged_24 : decode cX8_paged 24 = .ok (.ifCond .ne 9, 3) := by decide +kernel
theorem dX8_paged_27 : decode cX8_paged 27 = .ok (.iinc 5 1, 3) := by decide +kernel
theorem dX8_paged_30 : decode cX8_paged 30 = .ok (.goto (-12), 3) := by decide +kernel
theorem dX8_paged_33 : decode cX8_paged 33 = .ok (.lload_n 2, 1) := by decide +kernel
theorem dX8_paged_34 : decode cX8_paged 34 = .ok (.aload_n 0, 1) := by decide +kernel
theorem dX8_paged_35 : decode cX8_paged 35 = .ok (.getfield 40, 3) := by decide +kernel
theorem dX8_paged_38 : decode cX8_paged 38 = .ok (.aload_n 0, 1) := by decide +kernel
theorem dX8_paged_39 : decode cX8_paged 39 = .ok (.getfield 53, 3) := by decide +kernel
theorem dX8_paged_42 : decode cX8_paged 42 = .ok (.iload 4, 2) := by decide +kernel
theorem dX8_paged_44 : decode cX8_paged 44 = .ok (.iaload, 1) := by decide +kernel
theorem dX8_paged_45 : decode cX8_paged 45 = .ok (.laload, 1) := by decide +kernel
theorem dX8_paged_46 : decode cX8_paged 46 = .ok (.aload_n 0, 1) := by decide +kernel
theorem dX8_paged_47 : decode cX8_paged 47 = .ok (.aload_n 0, 1) := by decide +kernel
theorem dX8_paged_48 : decode cX8_paged 48 = .ok (.getfield 53, 3) := by decide +kernel
theorem dX8_paged_51 : decode cX8_paged 51 = .ok (.iload 4, 2) := by decide +kernel
theorem dX8_paged_53 : decode cX8_paged 53 = .ok (.iaload, 1) := by decide +kernel
theorem dX8_paged_54 : decode cX8_paged 54 = .ok (.invokevirtual 149, 3) := by decide +kernel
theorem dX8_paged_57 : decode cX8_paged 57 = .ok (.i2l, 1) := by decide +kernel
theorem dX8_paged_58 : decode cX8_paged 58 = .ok (.lmul, 1) := by decide +kernel
theorem dX8_paged_59 : decode cX8_paged 59 = .ok (.iload 5, 2) := by decide +kernel
theorem dX8_paged_61 : decode cX8_paged 61 = .ok (.iconst 1, 1) := by decide +kernel
theorem dX8_paged_62 : decode cX8_paged 62 = .ok (.iadd, 1) := by decide +kernel
theorem dX8_paged_63 : decode cX8_paged 63 = .ok (.i2l, 1) := by decide +kernel
theorem dX8_paged_64 : decode cX8_paged 64 = .ok (.lmul, 1) := by decide +kernel
theorem dX8_paged_65 : decode cX8_paged 65 = .ok (.ladd, 1) := by decide +kernel
theorem dX8_paged_66 : decode cX8_paged 66 = .ok (.lstore_n 2, 1) := by decide +kernel
theorem dX8_paged_67 : decode cX8_paged 67 = .ok (.iinc 4 1, 3) := by decide +kernel
theorem dX8_paged_70 : decode cX8_paged 70 = .ok (.goto (-65), 3) := by decide +kernel
theorem dX8_paged_73 : decode cX8_paged 73 = .ok (.lload_n 2, 1) := by decide +kernel
theorem dX8_paged_74 : decode cX8_paged 74 = .ok (.lreturn, 1) := by decide +kernel
theorem dX8_isFirst_0 : decode cX8_isFirst 0 = .ok (.iload_n 0, 1) := by decide +kernel
theorem dX8_isFirst_1 : decode cX8_isFirst 1 = .ok (.iload_n 1, 1) := by decide +kernel
theorem dX8_isFirst_2 : decode cX8_isFirst 2 = .ok (.ixor, 1) := by decide +kernel
theorem dX8_isFirst_3 : decode cX8_isFirst 3 = .ok (.istore_n 2, 1) := by decide +kernel
theorem dX8_isFirst_4 : decode cX8_isFirst 4 = .ok (.iload_n 2, 1) := by decide +kernel
theorem dX8_isFirst_5 : decode cX8_isFirst 5 = .ok (.iload_n 2, 1) := by decide +kernel
theorem dX8_isFirst_6 : decode cX8_isFirst 6 = .ok (.ineg, 1) := by decide +kernel
theorem dX8_isFirst_7 : decode cX8_isFirst 7 = .ok (.iand, 1) := by decide +kernel
theorem dX8_isFirst_8 : decode cX8_isFirst 8 = .ok (.istore_n 3, 1) := by decide +kernel
theorem dX8_isFirst_9 : decode cX8_isFirst 9 = .ok (.iload_n 0, 1) := by decide +kernel
theorem dX8_isFirst_10 : decode cX8_isFirst 10 = .ok (.iload_n 3, 1) := by decide +kernel
theorem dX8_isFirst_11 : decode cX8_isFirst 11 = .ok (.iand, 1) := by decide +kernel
theorem dX8_isFirst_12 : decode cX8_isFirst 12 = .ok (.ifCond .eq 7, 3) := by decide +kernel
theorem dX8_isFirst_15 : decode cX8_isFirst 15 = .ok (.iconst 1, 1) := by decide +kernel
theorem dX8_isFirst_16 : decode cX8_isFirst 16 = .ok (.goto 4, 3) := by decide +kernel
theorem dX8_isFirst_19 : decode cX8_isFirst 19 = .ok (.iconst 0, 1) := by decide +kernel
theorem dX8_isFirst_20 : decode cX8_isFirst 20 = .ok (.ireturn, 1) := by decide +kernel
set_option maxRecDepth 20000 in
theorem ggX8_splits_X8_ranks : GoodIn wsX8_splits wsX8_ranks := goodIn_r _ [8, 1, 9, 10, 11, 12, 13, 14, 7, 15, 16, 17, 18, 19, 20, 21, 22, 23, 24, 25, 26, 27, 28, 29, 30, 31, 32, 33, 34, 35, 36, 37, 38, 39, 40, 41, 42, 43, 44, 45, 46, 47, 48, 59, 60, 61, 62, 63, 64, 65, 66, 67, 68, 69, 70, 71, 72, 73, 74, 75, 76, 77, 78, 79, 80, 81, 82, 83, 84] (by decide +kernel) (by decide +kernel)
set_option maxRecDepth 20000 in
theorem gX8_splits_X8_ranks : GoodIn wsX8_splits (wsV RX8 218 RX8 yX8_ranks wsX8_ranks) := goodIn_app (goodIn_of _ (by decide +kernel)) ggX8_splits_X8_ranks
set_option maxRecDepth 20000 in
theorem ggX8_splits_X8_paged : GoodIn wsX8_splits wsX8_paged := goodIn_r _ [52, 1, 10, 11, 45, 46, 47, 7, 48, 16, 37, 38, 39, 40, 9, 31, 59, 60, 61, 62, 63, 64, 65, 66, 67, 68, 69, 70, 71, 72, 73, 74, 75, 76, 77, 78, 79, 80, 81, 82, 83, 84] (by decide +kernel) (by decide +kernel)
set_option maxRecDepth 20000 in
theorem gX8_splits_X8_paged : GoodIn wsX8_splits (wsV RX8 224 RX8 yX8_paged wsX8_paged) := goodIn_app (goodIn_of _ (by decide +kernel)) ggX8_splits_X8_paged
set_option maxRecDepth 20000 in
theorem ggX8_splits_X8_bits : GoodIn wsX8_splits wsX8_bits := goodIn_r _ [55] (by decide +kernel) (by decide +kernel)
set_option maxRecDepth 20000 in
theorem gX8_splits_X8_bits : GoodIn wsX8_splits (va_wsS RX8 227 yX8_bits wsX8_bits) := goodIn_app (goodIn_of _ (by decide +kernel)) ggX8_splits_X8_bits
set_option maxRecDepth 20000 in
theorem ggX8_splits_X8_isFirst : GoodIn wsX8_splits wsX8_isFirst := goodIn_r _ [58] (by decide +kernel) (by decide +kernel)
set_option maxRecDepth 20000 in
theorem gX8_splits_X8_isFirst : GoodIn wsX8_splits (va_wsS RX8 230 yX8_isFirst wsX8_isFirst) := goodIn_app (goodIn_of _ (by decide +kernel)) ggX8_splits_X8_isFirst
theorem dX8_splits_0 : decode cX8_splits 0 = .ok (.aload_n 0, 1) := by decide +kernel
theorem dX8_splits_1 : decode cX8_splits 1 = .ok (.invokevirtual 218, 3) := by decide +kernel
theorem dX8_splits_4 : decode cX8_splits 4 = .ok (.iconst 1, 1) := by decide +kernel
theorem dX8_splits_5 : decode cX8_splits 5 = .ok (.aload_n 0, 1) := by decide +kernel
theorem dX8_splits_6 : decode cX8_splits 6 = .ok (.getfield 215, 3) := by decide +kernel
theorem dX8_splits_9 : decode cX8_splits 9 = .ok (.iconst 1, 1) := by decide +kernel
theorem dX8_splits_10 : decode cX8_splits 10 = .ok (.isub, 1) := by decide +kernel
theorem dX8_splits_11 : decode cX8_splits 11 = .ok (.ishl, 1) := by decide +kernel
theorem dX8_splits_12 : decode cX8_splits 12 = .ok (.istore_n 1, 1) := by decide +kernel
theorem dX8_splits_13 : decode cX8_splits 13 = .ok (.aload_n 0, 1) := by decide +kernel
theorem dX8_splits_14 : decode cX8_splits 14 = .ok (.iload_n 1, 1) := by decide +kernel
theorem dX8_splits_15 : decode cX8_splits 15 = .ok (.putfield 221, 3) := by decide +kernel
theorem dX8_splits_18 : decode cX8_splits 18 = .ok (.aload_n 0, 1) := by decide +kernel
theorem dX8_splits_19 : decode cX8_splits 19 = .ok (.iload_n 1, 1) := by decide +kernel
theorem dX8_splits_20 : decode cX8_splits 20 = .ok (.invokevirtual 224, 3) := by decide +kernel
theorem dX8_splits_23 : decode cX8_splits 23 = .ok (.lstore_n 2, 1) := by decide +kernel
theorem dX8_splits_24 : decode cX8_splits 24 = .ok (.iload_n 1, 1) := by decide +kernel
theorem dX8_splits_25 : decode cX8_splits 25 = .ok (.iconst 1, 1) := by decide +kernel
theorem dX8_splits_26 : decode cX8_splits 26 = .ok (.iadd, 1) := by decide +kernel
theorem dX8_splits_27 : decode cX8_splits 27 = .ok (.istore 4, 2) := by decide +kernel
theorem dX8_splits_29 : decode cX8_splits 29 = .ok (.iload 4, 2) := by decide +kernel
theorem dX8_splits_31 : decode cX8_splits 31 = .ok (.iconst 2, 1) := by decide +kernel
theorem dX8_splits_32 : decode cX8_splits 32 = .ok (.iload_n 1, 1) := by decide +kernel
theorem dX8_splits_33 : decode cX8_splits 33 = .ok (.imul, 1) := by decide +kernel
theorem dX8_splits_34 : decode cX8_splits 34 = .ok (.if_icmp .ge 130, 3) := by decide +kernel
theorem dX8_splits_37 : decode cX8_splits 37 = .ok (.iload 4, 2) := by decide +kernel
theorem dX8_splits_39 : decode cX8_splits 39 = .ok (.invokestatic 227, 3) := by decide +kernel
theorem dX8_splits_42 : decode cX8_splits 42 = .ok (.aload_n 0, 1) := by decide +kernel
theorem dX8_splits_43 : decode cX8_splits 43 = .ok (.getfield 16, 3) := by decide +kernel
theorem dX8_splits_46 : decode cX8_splits 46 = .ok (.iconst 0, 1) := by decide +kernel
theorem dX8_splits_47 : decode cX8_splits 47 = .ok (.iaload, 1) := by decide +kernel
theorem dX8_splits_48 : decode cX8_splits 48 = .ok (.if_icmp .gt 12, 3) := by decide +kernel
theorem dX8_splits_51 : decode cX8_splits 51 = .ok (.aload_n 0, 1) := by decide +kernel
theorem dX8_splits_52 : decode cX8_splits 52 = .ok (.iload 4, 2) := by decide +kernel
theorem dX8_splits_54 : decode cX8_splits 54 = .ok (.invokevirtual 224, 3) := by decide +kernel
theorem dX8_splits_57 : decode cX8_splits 57 = .ok (.goto 6, 3) := by decide +kernel
theorem dX8_splits_60 : decode cX8_splits 60 = .ok (.lload_n 2, 1) := by decide +kernel
theorem dX8_splits_61 : decode cX8_splits 61 = .ok (.lconst 1, 1) := by decide +kernel
theorem dX8_splits_62 : decode cX8_splits 62 = .ok (.ladd, 1) := by decide +kernel
theorem dX8_splits_63 : decode cX8_splits 63 = .ok (.lstore 5, 2) := by decide +kernel
theorem dX8_splits_65 : decode cX8_splits 65 = .ok (.lload 5, 2) := by decide +kernel
theorem dX8_splits_67 : decode cX8_splits 67 = .ok (.lload_n 2, 1) := by decide +kernel
theorem dX8_splits_68 : decode cX8_splits 68 = .ok (.lcmp, 1) := by decide +kernel
theorem dX8_splits_69 : decode cX8_splits 69 = .ok (.ifCond .lt 52, 3) := by decide +kernel
theorem dX8_splits_72 : decode cX8_splits 72 = .ok (.lload 5, 2) := by decide +kernel
theorem dX8_splits_74 : decode cX8_splits 74 = .ok (.lload_n 2, 1) := by decide +kernel
theorem dX8_splits_75 : decode cX8_splits 75 = .ok (.lcmp, 1) := by decide +kernel
theorem dX8_splits_76 : decode cX8_splits 76 = .ok (.ifCond .ne 49, 3) := by decide +kernel
theorem dX8_splits_79 : decode cX8_splits 79 = .ok (.iload 4, 2) := by decide +kernel
theorem dX8_splits_81 : decode cX8_splits 81 = .ok (.invokestatic 227, 3) := by decide +kernel
theorem dX8_splits_84 : decode cX8_splits 84 = .ok (.aload_n 0, 1) := by decide +kernel
theorem dX8_splits_85 : decode cX8_splits 85 = .ok (.getfield 221, 3) := by decide +kernel
theorem dX8_splits_88 : decode cX8_splits 88 = .ok (.invokestatic 227, 3) := by decide +kernel
theorem dX8_splits_91 : decode cX8_splits 91 = .ok (.if_icmp .lt 30, 3) := by decide +kernel
theorem dX8_splits_94 : decode cX8_splits 94 = .ok (.iload 4, 2) := by decide +kernel
theorem dX8_splits_96 : decode cX8_splits 96 = .ok (.invokestatic 227, 3) := by decide +kernel
theorem dX8_splits_99 : decode cX8_splits 99 = .ok (.aload_n 0, 1) := by decide +kernel
theorem dX8_splits_100 : decode cX8_splits 100 = .ok (.getfield 221, 3) := by decide +kernel
theorem dX8_splits_103 : decode cX8_splits 103 = .ok (.invokestatic 227, 3) := by decide +kernel
theorem dX8_splits_106 : decode cX8_splits 106 = .ok (.if_icmp .ne 19, 3) := by decide +kernel
theorem dX8_splits_109 : decode cX8_splits 109 = .ok (.iload 4, 2) := by decide +kernel
theorem dX8_splits_111 : decode cX8_splits 111 = .ok (.aload_n 0, 1) := by decide +kernel
theorem dX8_splits_112 : decode cX8_splits 112 = .ok (.getfield 221, 3) := by decide +kernel
theorem dX8_splits_115 : decode cX8_splits 115 = .ok (.invokestatic 230, 3) := by decide +kernel
theorem dX8_splits_118 : decode cX8_splits 118 = .ok (.ifCond .eq 7, 3) := by decide +kernel
theorem dX8_splits_121 : decode cX8_splits 121 = .ok (.iconst 1, 1) := by decide +kernel
theorem dX8_splits_122 : decode cX8_splits 122 = .ok (.goto 4, 3) := by decide +kernel
theorem dX8_splits_125 : decode cX8_splits 125 = .ok (.iconst 0, 1) := by decide +kernel
theorem dX8_splits_126 : decode cX8_splits 126 = .ok (.istore 7, 2) := by decide +kernel
theorem dX8_splits_128 : decode cX8_splits 128 = .ok (.iload 7, 2) := by decide +kernel
theorem dX8_splits_130 : decode cX8_splits 130 = .ok (.ifCond .eq 8, 3) := by decide +kernel
theorem dX8_splits_133 : decode cX8_splits 133 = .ok (.lload 5, 2) := by decide +kernel
theorem dX8_splits_135 : decode cX8_splits 135 = .ok (.goto 4, 3) := by decide +kernel
theorem dX8_splits_138 : decode cX8_splits 138 = .ok (.lload_n 2, 1) := by decide +kernel
theorem dX8_splits_139 : decode cX8_splits 139 = .ok (.lstore_n 2, 1) := by decide +kernel
theorem dX8_splits_140 : decode cX8_splits 140 = .ok (.aload_n 0, 1) := by decide +kernel
theorem dX8_splits_141 : decode cX8_splits 141 = .ok (.iload 7, 2) := by decide +kernel
theorem dX8_splits_143 : decode cX8_splits 143 = .ok (.ifCond .eq 8, 3) := by decide +kernel
theorem dX8_splits_146 : decode cX8_splits 146 = .ok (.iload 4, 2) := by decide +kernel
theorem dX8_splits_148 : decode cX8_splits 148 = .ok (.goto 7, 3) := by decide +kernel
theorem dX8_splits_151 : decode cX8_splits 151 = .ok (.aload_n 0, 1) := by decide +kernel
theorem dX8_splits_152 : decode cX8_splits 152 = .ok (.getfield 221, 3) := by decide +kernel
theorem dX8_splits_155 : decode cX8_splits 155 = .ok (.putfield 221, 3) := by decide +kernel
theorem dX8_splits_158 : decode cX8_splits 158 = .ok (.iinc 4 1, 3) := by decide +kernel
theorem dX8_splits_161 : decode cX8_splits 161 = .ok (.goto (-132), 3) := by decide +kernel
theorem dX8_splits_164 : decode cX8_splits 164 = .ok (.return_, 1) := by decide +kernel
set_option maxRecDepth 20000 in
theorem ggX8_round_X8_splits : GoodIn wsX8_round wsX8_splits := goodIn_r _ [8, 2, 1, 9, 10, 11, 12, 7, 13, 14, 15, 3, 16, 17, 18, 19, 20, 21, 22, 23, 24, 25, 26, 27, 28, 29, 30, 31, 32, 33, 34, 35, 36, 37, 38, 39, 40, 41, 42, 43, 44, 45, 46, 47, 48, 49, 50, 51, 52, 53, 54, 55, 56, 57, 58, 59, 60, 61, 62, 63, 64, 65, 66, 67, 68, 69, 70, 71, 72, 73, 74, 75, 76, 77, 78, 79, 80, 81, 82, 83, 84, 85, 86, 87, 88] (by decide +kernel) (by decide +kernel)
set_option maxRecDepth 20000 in
theorem gX8_round_X8_splits : GoodIn wsX8_round (wsV RX8 233 RX8 yX8_splits wsX8_splits) := goodIn_app (goodIn_of _ (by decide +kernel)) ggX8_round_X8_splits
set_option maxRecDepth 20000 in
theorem ggX8_round_X8_bits : GoodIn wsX8_round wsX8_bits := goodIn_r _ [59] (by decide +kernel) (by decide +kernel)
set_option maxRecDepth 20000 in
theorem gX8_round_X8_bits : GoodIn wsX8_round (va_wsS RX8 227 yX8_bits wsX8_bits) := goodIn_app (goodIn_of _ (by decide +kernel)) ggX8_round_X8_bits
theorem dX8_round_0 : decode cX8_round 0 = .ok (.iload_n 1, 1) := by decide +kernel
theorem dX8_round_1 : decode cX8_round 1 = .ok (.iconst (-1), 1) := by decide +kernel
theorem dX8_round_2 : decode cX8_round 2 = .ok (.if_icmp .ge 5, 3) := by decide +kernel
theorem dX8_round_5 : decode cX8_round 5 = .ok (.iconst (-1), 1) := by decide +kernel
theorem dX8_round_6 : decode cX8_round 6 = .ok (.ireturn, 1) := by decide +kernel
theorem dX8_round_7 : decode cX8_round 7 = .ok (.aload_n 0, 1) := by decide +kernel
theorem dX8_round_8 : decode cX8_round 8 = .ok (.invokevirtual 233, 3) := by decide +kernel
theorem dX8_round_11 : decode cX8_round 11 = .ok (.iload_n 1, 1) := by decide +kernel
theorem dX8_round_12 : decode cX8_round 12 = .ok (.ifCond .ge 11, 3) := by decide +kernel
theorem dX8_round_15 : decode cX8_round 15 = .ok (.aload_n 0, 1) := by decide +kernel
theorem dX8_round_16 : decode cX8_round 16 = .ok (.getfield 221, 3) := by decide +kernel
theorem dX8_round_19 : decode cX8_round 19 = .ok (.invokestatic 227, 3) := by decide +kernel
theorem dX8_round_22 : decode cX8_round 22 = .ok (.ireturn, 1) := by decide +kernel
theorem dX8_round_23 : decode cX8_round 23 = .ok (.iconst 0, 1) := by decide +kernel
theorem dX8_round_24 : decode cX8_round 24 = .ok (.istore_n 2, 1) := by decide +kernel
theorem dX8_round_25 : decode cX8_round 25 = .ok (.iconst 0, 1) := by decide +kernel
theorem dX8_round_26 : decode cX8_round 26 = .ok (.istore_n 3, 1) := by decide +kernel
theorem dX8_round_27 : decode cX8_round 27 = .ok (.iconst 0, 1) := by decide +kernel
theorem dX8_round_28 : decode cX8_round 28 = .ok (.istore 4, 2) := by decide +kernel
theorem dX8_round_30 : decode cX8_round 30 = .ok (.iload 4, 2) := by decide +kernel
theorem dX8_round_32 : decode cX8_round 32 = .ok (.aload_n 0, 1) := by decide +kernel
theorem dX8_round_33 : decode cX8_round 33 = .ok (.getfield 215, 3) := by decide +kernel
theorem dX8_round_36 : decode cX8_round 36 = .ok (.if_icmp .ge 42, 3) := by decide +kernel
theorem dX8_round_39 : decode cX8_round 39 = .ok (.iload_n 3, 1) := by decide +kernel
theorem dX8_round_40 : decode cX8_round 40 = .ok (.iload_n 2, 1) := by decide +kernel
theorem dX8_round_41 : decode cX8_round 41 = .ok (.iload_n 1, 1) := by decide +kernel
theorem dX8_round_42 : decode cX8_round 42 = .ok (.if_icmp .ne 15, 3) := by decide +kernel
theorem dX8_round_45 : decode cX8_round 45 = .ok (.iconst 1, 1) := by decide +kernel
theorem dX8_round_46 : decode cX8_round 46 = .ok (.aload_n 0, 1) := by decide +kernel
theorem dX8_round_47 : decode cX8_round 47 = .ok (.getfield 53, 3) := by decide +kernel
theorem dX8_round_50 : decode cX8_round 50 = .ok (.iload 4, 2) := by decide +kernel
theorem dX8_round_52 : decode cX8_round 52 = .ok (.iaload, 1) := by decide +kernel
theorem dX8_round_53 : decode cX8_round 53 = .ok (.ishl, 1) := by decide +kernel
theorem dX8_round_54 : decode cX8_round 54 = .ok (.goto 4, 3) := by decide +kernel
theorem dX8_round_57 : decode cX8_round 57 = .ok (.iconst 0, 1) := by decide +kernel
theorem dX8_round_58 : decode cX8_round 58 = .ok (.ior, 1) := by decide +kernel
theorem dX8_round_59 : decode cX8_round 59 = .ok (.istore_n 3, 1) := by decide +kernel
theorem dX8_round_60 : decode cX8_round 60 = .ok (.iload_n 2, 1) := by decide +kernel
theorem dX8_round_61 : decode cX8_round 61 = .ok (.aload_n 0, 1) := by decide +kernel
theorem dX8_round_62 : decode cX8_round 62 = .ok (.getfield 221, 3) := by decide +kernel
theorem dX8_round_65 : decode cX8_round 65 = .ok (.iload 4, 2) := by decide +kernel
theorem dX8_round_67 : decode cX8_round 67 = .ok (.ishr, 1) := by decide +kernel
theorem dX8_round_68 : decode cX8_round 68 = .ok (.iconst 1, 1) := by decide +kernel
theorem dX8_round_69 : decode cX8_round 69 = .ok (.iand, 1) := by decide +kernel
theorem dX8_round_70 : decode cX8_round 70 = .ok (.iadd, 1) := by decide +kernel
theorem dX8_round_71 : decode cX8_round 71 = .ok (.istore_n 2, 1) := by decide +kernel
theorem dX8_round_72 : decode cX8_round 72 = .ok (.iinc 4 1, 3) := by decide +kernel
theorem dX8_round_75 : decode cX8_round 75 = .ok (.goto (-45), 3) := by decide +kernel
theorem dX8_round_78 : decode cX8_round 78 = .ok (.iload_n 3, 1) := by decide +kernel
theorem dX8_round_79 : decode cX8_round 79 = .ok (.ifCond .ne 8, 3) := by decide +kernel
theorem dX8_round_82 : decode cX8_round 82 = .ok (.bipush (-4), 2) := by decide +kernel
theorem dX8_round_84 : decode cX8_round 84 = .ok (.goto 4, 3) := by decide +kernel
theorem dX8_round_87 : decode cX8_round 87 = .ok (.iload_n 3, 1) := by decide +kernel
theorem dX8_round_88 : decode cX8_round 88 = .ok (.ireturn, 1) := by decide +kernel
set_option maxRecDepth 20000 in
theorem ggX8_page_X8_splits : GoodIn wsX8_page wsX8_splits := goodIn_r _ [8, 9, 3, 10, 11, 12, 13, 7, 14, 15, 16, 1, 17, 18, 19, 20, 2, 21, 22, 23, 24, 25, 26, 27, 28, 29, 30, 31, 32, 33, 34, 35, 36, 37, 38, 39, 40, 41, 42, 43, 44, 45, 46, 47, 48, 49, 50, 51, 52, 53, 54, 55, 56, 57, 58, 59, 60, 61, 62, 72, 73, 74, 75, 76, 77, 78, 79, 80, 81, 82, 83, 84, 85, 86, 87, 88, 89, 90, 91, 92, 93, 94, 95, 96, 97] (by decide +kernel) (by decide +kernel)
set_option maxRecDepth 20000 in
theorem gX8_page_X8_splits : GoodIn wsX8_page (wsV RX8 233 RX8 yX8_splits wsX8_splits) := goodIn_app (goodIn_of _ (by decide +kernel)) ggX8_page_X8_splits
set_option maxRecDepth 20000 in
theorem ggX8_page_X8_keeps : GoodIn wsX8_page wsX8_keeps := goodIn_r _ [66, 67, 68, 2, 72, 73, 74, 75, 76, 77, 78, 79, 80, 81, 82, 83, 84, 85, 86, 87, 88, 89, 90, 91, 92, 93, 94, 95, 96, 97] (by decide +kernel) (by decide +kernel)
set_option maxRecDepth 20000 in
theorem gX8_page_X8_keeps : GoodIn wsX8_page (wsV RX8 139 RX8 yX8_keeps wsX8_keeps) := goodIn_app (goodIn_of _ (by decide +kernel)) ggX8_page_X8_keeps
set_option maxRecDepth 20000 in
theorem ggX8_page_X8_registers : GoodIn wsX8_page wsX8_registers := goodIn_r _ [71] (by decide +kernel) (by decide +kernel)
set_option maxRecDepth 20000 in
theorem gX8_page_X8_registers : GoodIn wsX8_page (va_wsS RX8 142 yX8_registers wsX8_registers) := goodIn_app (goodIn_of _ (by decide +kernel)) ggX8_page_X8_registers
theorem dX8_page_0 : decode cX8_page 0 = .ok (.aload_n 0, 1) := by decide +kernel
theorem dX8_page_1 : decode cX8_page 1 = .ok (.invokevirtual 233, 3) := by decide +kernel
theorem dX8_page_4 : decode cX8_page 4 = .ok (.iconst 0, 1) := by decide +kernel
theorem dX8_page_5 : decode cX8_page 5 = .ok (.istore_n 1, 1) := by decide +kernel
theorem dX8_page_6 : decode cX8_page 6 = .ok (.aload_n 0, 1) := by decide +kernel
theorem dX8_page_7 : decode cX8_page 7 = .ok (.getfield 53, 3) := by decide +kernel
theorem dX8_page_10 : decode cX8_page 10 = .ok (.iload_n 1, 1) := by decide +kernel
theorem dX8_page_11 : decode cX8_page 11 = .ok (.iaload, 1) := by decide +kernel
theorem dX8_page_12 : decode cX8_page 12 = .ok (.aload_n 0, 1) := by decide +kernel
theorem dX8_page_13 : decode cX8_page 13 = .ok (.getfield 19, 3) := by decide +kernel
theorem dX8_page_16 : decode cX8_page 16 = .ok (.bipush 14, 2) := by decide +kernel
theorem dX8_page_18 : decode cX8_page 18 = .ok (.iaload, 1) := by decide +kernel
theorem dX8_page_19 : decode cX8_page 19 = .ok (.if_icmp .eq 9, 3) := by decide +kernel
theorem dX8_page_22 : decode cX8_page 22 = .ok (.iinc 1 1, 3) := by decide +kernel
theorem dX8_page_25 : decode cX8_page 25 = .ok (.goto (-19), 3) := by decide +kernel
theorem dX8_page_28 : decode cX8_page 28 = .ok (.aload_n 0, 1) := by decide +kernel
theorem dX8_page_29 : decode cX8_page 29 = .ok (.getfield 221, 3) := by decide +kernel
theorem dX8_page_32 : decode cX8_page 32 = .ok (.iload_n 1, 1) := by decide +kernel
theorem dX8_page_33 : decode cX8_page 33 = .ok (.ishr, 1) := by decide +kernel
theorem dX8_page_34 : decode cX8_page 34 = .ok (.iconst 1, 1) := by decide +kernel
theorem dX8_page_35 : decode cX8_page 35 = .ok (.iand, 1) := by decide +kernel
theorem dX8_page_36 : decode cX8_page 36 = .ok (.ifCond .ne 9, 3) := by decide +kernel
theorem dX8_page_39 : decode cX8_page 39 = .ok (.iinc 1 1, 3) := by decide +kernel
theorem dX8_page_42 : decode cX8_page 42 = .ok (.goto (-14), 3) := by decide +kernel
theorem dX8_page_45 : decode cX8_page 45 = .ok (.aload_n 0, 1) := by decide +kernel
theorem dX8_page_46 : decode cX8_page 46 = .ok (.invokevirtual 139, 3) := by decide +kernel
theorem dX8_page_49 : decode cX8_page 49 = .ok (.aload_n 0, 1) := by decide +kernel
theorem dX8_page_50 : decode cX8_page 50 = .ok (.getfield 19, 3) := by decide +kernel
theorem dX8_page_53 : decode cX8_page 53 = .ok (.bipush 19, 2) := by decide +kernel
theorem dX8_page_55 : decode cX8_page 55 = .ok (.dup2, 1) := by decide +kernel
theorem dX8_page_56 : decode cX8_page 56 = .ok (.iaload, 1) := by decide +kernel
theorem dX8_page_57 : decode cX8_page 57 = .ok (.iload_n 1, 1) := by decide +kernel
theorem dX8_page_58 : decode cX8_page 58 = .ok (.iconst 1, 1) := by decide +kernel
theorem dX8_page_59 : decode cX8_page 59 = .ok (.iadd, 1) := by decide +kernel
theorem dX8_page_60 : decode cX8_page 60 = .ok (.iadd, 1) := by decide +kernel
theorem dX8_page_61 : decode cX8_page 61 = .ok (.iastore, 1) := by decide +kernel
theorem dX8_page_62 : decode cX8_page 62 = .ok (.aload_n 0, 1) := by decide +kernel
theorem dX8_page_63 : decode cX8_page 63 = .ok (.getfield 19, 3) := by decide +kernel
theorem dX8_page_66 : decode cX8_page 66 = .ok (.invokestatic 142, 3) := by decide +kernel
theorem dX8_page_69 : decode cX8_page 69 = .ok (.iload_n 1, 1) := by decide +kernel
theorem dX8_page_70 : decode cX8_page 70 = .ok (.iconst 1, 1) := by decide +kernel
theorem dX8_page_71 : decode cX8_page 71 = .ok (.iadd, 1) := by decide +kernel
theorem dX8_page_72 : decode cX8_page 72 = .ok (.ireturn, 1) := by decide +kernel
set_option maxRecDepth 20000 in
theorem ggX8_walk_X8_isIn : GoodIn wsX8_walk wsX8_isIn := goodIn_r _ [11] (by decide +kernel) (by decide +kernel)
set_option maxRecDepth 20000 in
theorem gX8_walk_X8_isIn : GoodIn wsX8_walk (va_wsS RX8 98 yX8_isIn wsX8_isIn) := goodIn_app (goodIn_of _ (by decide +kernel)) ggX8_walk_X8_isIn
set_option maxRecDepth 20000 in
theorem ggX8_walk_X8_sum : GoodIn wsX8_walk wsX8_sum := goodIn_r _ [15, 2, 16, 17, 18, 10, 19, 6, 7, 39, 40, 41, 42, 43, 44, 45, 46, 47, 48, 49, 50, 51, 52, 53, 54, 55, 56, 57, 58, 59, 60, 61, 62, 63, 64] (by decide +kernel) (by decide +kernel)
set_option maxRecDepth 20000 in
theorem gX8_walk_X8_sum : GoodIn wsX8_walk (wsV RX8 149 RX8 yX8_sum wsX8_sum) := goodIn_app (goodIn_of _ (by decide +kernel)) ggX8_walk_X8_sum
set_option maxRecDepth 20000 in
theorem ggX8_walk_X8_goes : GoodIn wsX8_walk wsX8_goes := goodIn_r _ [23, 24, 25, 26, 10, 27, 2, 28, 29, 30, 31, 6, 32, 33, 34, 35, 7, 36, 37, 38, 39, 40, 41, 42, 43, 44, 45, 46, 47, 48, 49, 50, 51, 52, 53, 54, 55, 56, 57, 58, 59, 60, 61, 62, 63, 64] (by decide +kernel) (by decide +kernel)
set_option maxRecDepth 20000 in
theorem gX8_walk_X8_goes : GoodIn wsX8_walk (wsV RX8 166 RX8 yX8_goes wsX8_goes) := goodIn_app (goodIn_of _ (by decide +kernel)) ggX8_walk_X8_goes
theorem dX8_walk_0 : decode cX8_walk 0 = .ok (.iload_n 1, 1) := by decide +kernel
theorem dX8_walk_1 : decode cX8_walk 1 = .ok (.iconst 0, 1) := by decide +kernel
theorem dX8_walk_2 : decode cX8_walk 2 = .ok (.sipush 9999, 3) := by decide +kernel
theorem dX8_walk_5 : decode cX8_walk 5 = .ok (.invokestatic 98, 3) := by decide +kernel
theorem dX8_walk_8 : decode cX8_walk 8 = .ok (.ifCond .eq 22, 3) := by decide +kernel
theorem dX8_walk_11 : decode cX8_walk 11 = .ok (.iload_n 2, 1) := by decide +kernel
theorem dX8_walk_12 : decode cX8_walk 12 = .ok (.iconst 1, 1) := by decide +kernel
theorem dX8_walk_13 : decode cX8_walk 13 = .ok (.bipush 60, 2) := by decide +kernel
theorem dX8_walk_15 : decode cX8_walk 15 = .ok (.invokestatic 98, 3) := by decide +kernel
theorem dX8_walk_18 : decode cX8_walk 18 = .ok (.ifCond .eq 12, 3) := by decide +kernel
theorem dX8_walk_21 : decode cX8_walk 21 = .ok (.iload_n 3, 1) := by decide +kernel
theorem dX8_walk_22 : decode cX8_walk 22 = .ok (.iconst 0, 1) := by decide +kernel
theorem dX8_walk_23 : decode cX8_walk 23 = .ok (.iconst 2, 1) := by decide +kernel
theorem dX8_walk_24 : decode cX8_walk 24 = .ok (.invokestatic 98, 3) := by decide +kernel
theorem dX8_walk_27 : decode cX8_walk 27 = .ok (.ifCond .ne 5, 3) := by decide +kernel
theorem dX8_walk_30 : decode cX8_walk 30 = .ok (.iconst (-1), 1) := by decide +kernel
theorem dX8_walk_31 : decode cX8_walk 31 = .ok (.ireturn, 1) := by decide +kernel
theorem dX8_walk_32 : decode cX8_walk 32 = .ok (.iconst 0, 1) := by decide +kernel
theorem dX8_walk_33 : decode cX8_walk 33 = .ok (.istore 4, 2) := by decide +kernel
theorem dX8_walk_35 : decode cX8_walk 35 = .ok (.iload 4, 2) := by decide +kernel
theorem dX8_walk_37 : decode cX8_walk 37 = .ok (.bipush 20, 2) := by decide +kernel
theorem dX8_walk_39 : decode cX8_walk 39 = .ok (.if_icmp .ge 23, 3) := by decide +kernel
theorem dX8_walk_42 : decode cX8_walk 42 = .ok (.aload_n 0, 1) := by decide +kernel
theorem dX8_walk_43 : decode cX8_walk 43 = .ok (.getfield 56, 3) := by decide +kernel
theorem dX8_walk_46 : decode cX8_walk 46 = .ok (.iload 4, 2) := by decide +kernel
theorem dX8_walk_48 : decode cX8_walk 48 = .ok (.aload_n 0, 1) := by decide +kernel
theorem dX8_walk_49 : decode cX8_walk 49 = .ok (.getfield 19, 3) := by decide +kernel
theorem dX8_walk_52 : decode cX8_walk 52 = .ok (.iload 4, 2) := by decide +kernel
theorem dX8_walk_54 : decode cX8_walk 54 = .ok (.iaload, 1) := by decide +kernel
theorem dX8_walk_55 : decode cX8_walk 55 = .ok (.iastore, 1) := by decide +kernel
theorem dX8_walk_56 : decode cX8_walk 56 = .ok (.iinc 4 1, 3) := by decide +kernel
theorem dX8_walk_59 : decode cX8_walk 59 = .ok (.goto (-24), 3) := by decide +kernel
theorem dX8_walk_62 : decode cX8_walk 62 = .ok (.iconst 0, 1) := by decide +kernel
theorem dX8_walk_63 : decode cX8_walk 63 = .ok (.istore 4, 2) := by decide +kernel
theorem dX8_walk_65 : decode cX8_walk 65 = .ok (.iconst 0, 1) := by decide +kernel
theorem dX8_walk_66 : decode cX8_walk 66 = .ok (.istore 5, 2) := by decide +kernel
theorem dX8_walk_68 : decode cX8_walk 68 = .ok (.iload 5, 2) := by decide +kernel
theorem dX8_walk_70 : decode cX8_walk 70 = .ok (.iload_n 2, 1) := by decide +kernel
theorem dX8_walk_71 : decode cX8_walk 71 = .ok (.if_icmp .ge 164, 3) := by decide +kernel
theorem dX8_walk_74 : decode cX8_walk 74 = .ok (.ldc2_w 236, 3) := by decide +kernel
theorem dX8_walk_77 : decode cX8_walk 77 = .ok (.iload_n 1, 1) := by decide +kernel
theorem dX8_walk_78 : decode cX8_walk 78 = .ok (.i2l, 1) := by decide +kernel
theorem dX8_walk_79 : decode cX8_walk 79 = .ok (.lmul, 1) := by decide +kernel
theorem dX8_walk_80 : decode cX8_walk 80 = .ok (.ldc2_w 238, 3) := by decide +kernel
theorem dX8_walk_83 : decode cX8_walk 83 = .ok (.iload 5, 2) := by decide +kernel
theorem dX8_walk_85 : decode cX8_walk 85 = .ok (.i2l, 1) := by decide +kernel
theorem dX8_walk_86 : decode cX8_walk 86 = .ok (.lmul, 1) := by decide +kernel
theorem dX8_walk_87 : decode cX8_walk 87 = .ok (.ladd, 1) := by decide +kernel
theorem dX8_walk_88 : decode cX8_walk 88 = .ok (.lconst 1, 1) := by decide +kernel
theorem dX8_walk_89 : decode cX8_walk 89 = .ok (.ladd, 1) := by decide +kernel
theorem dX8_walk_90 : decode cX8_walk 90 = .ok (.lstore 6, 2) := by decide +kernel
theorem dX8_walk_92 : decode cX8_walk 92 = .ok (.aload_n 0, 1) := by decide +kernel
theorem dX8_walk_93 : decode cX8_walk 93 = .ok (.getfield 56, 3) := by decide +kernel
theorem dX8_walk_96 : decode cX8_walk 96 = .ok (.bipush 14, 2) := by decide +kernel
theorem dX8_walk_98 : decode cX8_walk 98 = .ok (.iaload, 1) := by decide +kernel
theorem dX8_walk_99 : decode cX8_walk 99 = .ok (.istore 8, 2) := by decide +kernel
theorem dX8_walk_101 : decode cX8_walk 101 = .ok (.lload 6, 2) := by decide +kernel
theorem dX8_walk_103 : decode cX8_walk 103 = .ok (.lload 6, 2) := by decide +kernel
theorem dX8_walk_105 : decode cX8_walk 105 = .ok (.lmul, 1) := by decide +kernel
theorem dX8_walk_106 : decode cX8_walk 106 = .ok (.ldc2_w 240, 3) := by decide +kernel
theorem dX8_walk_109 : decode cX8_walk 109 = .ok (.lrem, 1) := by decide +kernel
theorem dX8_walk_110 : decode cX8_walk 110 = .ok (.l2i, 1) := by decide +kernel
theorem dX8_walk_111 : decode cX8_walk 111 = .ok (.aload_n 0, 1) := by decide +kernel
theorem dX8_walk_112 : decode cX8_walk 112 = .ok (.iload 8, 2) := by decide +kernel
theorem dX8_walk_114 : decode cX8_walk 114 = .ok (.invokevirtual 149, 3) := by decide +kernel
theorem dX8_walk_117 : decode cX8_walk 117 = .ok (.irem, 1) := by decide +kernel
theorem dX8_walk_118 : decode cX8_walk 118 = .ok (.istore 9, 2) := by decide +kernel
theorem dX8_walk_120 : decode cX8_walk 120 = .ok (.iload 8, 2) := by decide +kernel
theorem dX8_walk_122 : decode cX8_walk 122 = .ok (.istore 10, 2) := by decide +kernel
theorem dX8_walk_124 : decode cX8_walk 124 = .ok (.aload_n 0, 1) := by decide +kernel
theorem dX8_walk_125 : decode cX8_walk 125 = .ok (.getfield 19, 3) := by decide +kernel
theorem dX8_walk_128 : decode cX8_walk 128 = .ok (.iload 8, 2) := by decide +kernel
theorem dX8_walk_130 : decode cX8_walk 130 = .ok (.iaload, 1) := by decide +kernel
theorem dX8_walk_131 : decode cX8_walk 131 = .ok (.istore 11, 2) := by decide +kernel
theorem dX8_walk_133 : decode cX8_walk 133 = .ok (.iconst 0, 1) := by decide +kernel
theorem dX8_walk_134 : decode cX8_walk 134 = .ok (.istore 12, 2) := by decide +kernel
theorem dX8_walk_136 : decode cX8_walk 136 = .ok (.iload 12, 2) := by decide +kernel
theorem dX8_walk_138 : decode cX8_walk 138 = .ok (.aload_n 0, 1) := by decide +kernel
theorem dX8_walk_139 : decode cX8_walk 139 = .ok (.getfield 76, 3) := by decide +kernel
theorem dX8_walk_142 : decode cX8_walk 142 = .ok (.if_icmp .ge 59, 3) := by decide +kernel
theorem dX8_walk_145 : decode cX8_walk 145 = .ok (.iload 9, 2) := by decide +kernel
theorem dX8_walk_147 : decode cX8_walk 147 = .ok (.iload 11, 2) := by decide +kernel
theorem dX8_walk_149 : decode cX8_walk 149 = .ok (.if_icmp .lt 52, 3) := by decide +kernel
theorem dX8_walk_152 : decode cX8_walk 152 = .ok (.iload 11, 2) := by decide +kernel
theorem dX8_walk_154 : decode cX8_walk 154 = .ok (.aload_n 0, 1) := by decide +kernel
theorem dX8_walk_155 : decode cX8_walk 155 = .ok (.getfield 13, 3) := by decide +kernel
theorem dX8_walk_158 : decode cX8_walk 158 = .ok (.bipush 6, 2) := by decide +kernel
theorem dX8_walk_160 : decode cX8_walk 160 = .ok (.iload 8, 2) := by decide +kernel
theorem dX8_walk_162 : decode cX8_walk 162 = .ok (.imul, 1) := by decide +kernel
theorem dX8_walk_163 : decode cX8_walk 163 = .ok (.iload 12, 2) := by decide +kernel
theorem dX8_walk_165 : decode cX8_walk 165 = .ok (.iadd, 1) := by decide +kernel
theorem dX8_walk_166 : decode cX8_walk 166 = .ok (.iaload, 1) := by decide +kernel
theorem dX8_walk_167 : decode cX8_walk 167 = .ok (.iadd, 1) := by decide +kernel
theorem dX8_walk_168 : decode cX8_walk 168 = .ok (.istore 11, 2) := by decide +kernel
theorem dX8_walk_170 : decode cX8_walk 170 = .ok (.aload_n 0, 1) := by decide +kernel
theorem dX8_walk_171 : decode cX8_walk 171 = .ok (.getfield 13, 3) := by decide +kernel
theorem dX8_walk_174 : decode cX8_walk 174 = .ok (.bipush 6, 2) := by decide +kernel
theorem dX8_walk_176 : decode cX8_walk 176 = .ok (.iload 8, 2) := by decide +kernel
theorem dX8_walk_178 : decode cX8_walk 178 = .ok (.imul, 1) := by decide +kernel
theorem dX8_walk_179 : decode cX8_walk 179 = .ok (.iload 12, 2) := by decide +kernel
theorem dX8_walk_181 : decode cX8_walk 181 = .ok (.iadd, 1) := by decide +kernel
theorem dX8_walk_182 : decode cX8_walk 182 = .ok (.iaload, 1) := by decide +kernel
theorem dX8_walk_183 : decode cX8_walk 183 = .ok (.ifCond .le 8, 3) := by decide +kernel
theorem dX8_walk_186 : decode cX8_walk 186 = .ok (.iload 12, 2) := by decide +kernel
theorem dX8_walk_188 : decode cX8_walk 188 = .ok (.goto 5, 3) := by decide +kernel
theorem dX8_walk_191 : decode cX8_walk 191 = .ok (.iload 10, 2) := by decide +kernel
theorem dX8_walk_193 : decode cX8_walk 193 = .ok (.istore 10, 2) := by decide +kernel
theorem dX8_walk_195 : decode cX8_walk 195 = .ok (.iinc 12 1, 3) := by decide +kernel
theorem dX8_walk_198 : decode cX8_walk 198 = .ok (.goto (-62), 3) := by decide +kernel
theorem dX8_walk_201 : decode cX8_walk 201 = .ok (.iload 4, 2) := by decide +kernel
theorem dX8_walk_203 : decode cX8_walk 203 = .ok (.iload 10, 2) := by decide +kernel
theorem dX8_walk_205 : decode cX8_walk 205 = .ok (.iload 8, 2) := by decide +kernel
theorem dX8_walk_207 : decode cX8_walk 207 = .ok (.if_icmp .ne 7, 3) := by decide +kernel
theorem dX8_walk_210 : decode cX8_walk 210 = .ok (.iconst 0, 1) := by decide +kernel
theorem dX8_walk_211 : decode cX8_walk 211 = .ok (.goto 4, 3) := by decide +kernel
theorem dX8_walk_214 : decode cX8_walk 214 = .ok (.iconst 1, 1) := by decide +kernel
theorem dX8_walk_215 : decode cX8_walk 215 = .ok (.iadd, 1) := by decide +kernel
theorem dX8_walk_216 : decode cX8_walk 216 = .ok (.istore 4, 2) := by decide +kernel
theorem dX8_walk_218 : decode cX8_walk 218 = .ok (.aload_n 0, 1) := by decide +kernel
theorem dX8_walk_219 : decode cX8_walk 219 = .ok (.aload_n 0, 1) := by decide +kernel
theorem dX8_walk_220 : decode cX8_walk 220 = .ok (.getfield 56, 3) := by decide +kernel
theorem dX8_walk_223 : decode cX8_walk 223 = .ok (.iload 10, 2) := by decide +kernel
theorem dX8_walk_225 : decode cX8_walk 225 = .ok (.invokevirtual 166, 3) := by decide +kernel
theorem dX8_walk_228 : decode cX8_walk 228 = .ok (.pop, 1) := by decide +kernel
theorem dX8_walk_229 : decode cX8_walk 229 = .ok (.iinc 5 1, 3) := by decide +kernel
theorem dX8_walk_232 : decode cX8_walk 232 = .ok (.goto (-164), 3) := by decide +kernel
theorem dX8_walk_235 : decode cX8_walk 235 = .ok (.iload_n 3, 1) := by decide +kernel
theorem dX8_walk_236 : decode cX8_walk 236 = .ok (.ifCond .ne 13, 3) := by decide +kernel
theorem dX8_walk_239 : decode cX8_walk 239 = .ok (.aload_n 0, 1) := by decide +kernel
theorem dX8_walk_240 : decode cX8_walk 240 = .ok (.getfield 56, 3) := by decide +kernel
theorem dX8_walk_243 : decode cX8_walk 243 = .ok (.bipush 14, 2) := by decide +kernel
theorem dX8_walk_245 : decode cX8_walk 245 = .ok (.iaload, 1) := by decide +kernel
theorem dX8_walk_246 : decode cX8_walk 246 = .ok (.goto 28, 3) := by decide +kernel
theorem dX8_walk_249 : decode cX8_walk 249 = .ok (.iload_n 3, 1) := by decide +kernel
theorem dX8_walk_250 : decode cX8_walk 250 = .ok (.iconst 1, 1) := by decide +kernel
theorem dX8_walk_251 : decode cX8_walk 251 = .ok (.if_icmp .ne 21, 3) := by decide +kernel
theorem dX8_walk_254 : decode cX8_walk 254 = .ok (.aload_n 0, 1) := by decide +kernel
theorem dX8_walk_255 : decode cX8_walk 255 = .ok (.getfield 56, 3) := by decide +kernel
theorem dX8_walk_258 : decode cX8_walk 258 = .ok (.bipush 18, 2) := by decide +kernel
theorem dX8_walk_260 : decode cX8_walk 260 = .ok (.iaload, 1) := by decide +kernel
theorem dX8_walk_261 : decode cX8_walk 261 = .ok (.aload_n 0, 1) := by decide +kernel
theorem dX8_walk_262 : decode cX8_walk 262 = .ok (.getfield 19, 3) := by decide +kernel
theorem dX8_walk_265 : decode cX8_walk 265 = .ok (.bipush 18, 2) := by decide +kernel
theorem dX8_walk_267 : decode cX8_walk 267 = .ok (.iaload, 1) := by decide +kernel
theorem dX8_walk_268 : decode cX8_walk 268 = .ok (.isub, 1) := by decide +kernel
theorem dX8_walk_269 : decode cX8_walk 269 = .ok (.goto 5, 3) := by decide +kernel
theorem dX8_walk_272 : decode cX8_walk 272 = .ok (.iload 4, 2) := by decide +kernel
theorem dX8_walk_274 : decode cX8_walk 274 = .ok (.ireturn, 1) := by decide +kernel
theorem dX8_count_0 : decode cX8_count 0 = .ok (.iload_n 1, 1) := by decide +kernel
theorem dX8_count_1 : decode cX8_count 1 = .ok (.tableswitch 94 0 9 #[55, 60, 65, 65, 75, 75, 75, 75, 84, 89], 55) := by decide +kernel
theorem dX8_count_56 : decode cX8_count 56 = .ok (.aload_n 0, 1) := by decide +kernel
theorem dX8_count_57 : decode cX8_count 57 = .ok (.getfield 76, 3) := by decide +kernel
theorem dX8_count_60 : decode cX8_count 60 = .ok (.ireturn, 1) := by decide +kernel
theorem dX8_count_61 : decode cX8_count 61 = .ok (.aload_n 0, 1) := by decide +kernel
theorem dX8_count_62 : decode cX8_count 62 = .ok (.getfield 79, 3) := by decide +kernel
theorem dX8_count_65 : decode cX8_count 65 = .ok (.ireturn, 1) := by decide +kernel
theorem dX8_count_66 : decode cX8_count 66 = .ok (.aload_n 0, 1) := by decide +kernel
theorem dX8_count_67 : decode cX8_count 67 = .ok (.getfield 19, 3) := by decide +kernel
theorem dX8_count_70 : decode cX8_count 70 = .ok (.bipush 10, 2) := by decide +kernel
theorem dX8_count_72 : decode cX8_count 72 = .ok (.iload_n 1, 1) := by decide +kernel
theorem dX8_count_73 : decode cX8_count 73 = .ok (.iadd, 1) := by decide +kernel
theorem dX8_count_74 : decode cX8_count 74 = .ok (.iaload, 1) := by decide +kernel
theorem dX8_count_75 : decode cX8_count 75 = .ok (.ireturn, 1) := by decide +kernel
theorem dX8_count_76 : decode cX8_count 76 = .ok (.aload_n 0, 1) := by decide +kernel
theorem dX8_count_77 : decode cX8_count 77 = .ok (.getfield 16, 3) := by decide +kernel
theorem dX8_count_80 : decode cX8_count 80 = .ok (.iload_n 1, 1) := by decide +kernel
theorem dX8_count_81 : decode cX8_count 81 = .ok (.iconst 4, 1) := by decide +kernel
theorem dX8_count_82 : decode cX8_count 82 = .ok (.isub, 1) := by decide +kernel
theorem dX8_count_83 : decode cX8_count 83 = .ok (.iaload, 1) := by decide +kernel
theorem dX8_count_84 : decode cX8_count 84 = .ok (.ireturn, 1) := by decide +kernel
theorem dX8_count_85 : decode cX8_count 85 = .ok (.aload_n 0, 1) := by decide +kernel
theorem dX8_count_86 : decode cX8_count 86 = .ok (.getfield 82, 3) := by decide +kernel
theorem dX8_count_89 : decode cX8_count 89 = .ok (.ireturn, 1) := by decide +kernel
theorem dX8_count_90 : decode cX8_count 90 = .ok (.aload_n 0, 1) := by decide +kernel
theorem dX8_count_91 : decode cX8_count 91 = .ok (.getfield 85, 3) := by decide +kernel
theorem dX8_count_94 : decode cX8_count 94 = .ok (.ireturn, 1) := by decide +kernel
theorem dX8_count_95 : decode cX8_count 95 = .ok (.iconst (-1), 1) := by decide +kernel
theorem dX8_count_96 : decode cX8_count 96 = .ok (.ireturn, 1) := by decide +kernel
theorem dJ6_bitCount_0f7a4_0 : decode cJ6_bitCount_0f7a4 0 = .ok (.iload_n 0, 1) := by decide +kernel
theorem dJ6_bitCount_0f7a4_1 : decode cJ6_bitCount_0f7a4 1 = .ok (.iload_n 0, 1) := by decide +kernel
theorem dJ6_bitCount_0f7a4_2 : decode cJ6_bitCount_0f7a4 2 = .ok (.iconst 1, 1) := by decide +kernel
theorem dJ6_bitCount_0f7a4_3 : decode cJ6_bitCount_0f7a4 3 = .ok (.iushr, 1) := by decide +kernel
theorem dJ6_bitCount_0f7a4_4 : decode cJ6_bitCount_0f7a4 4 = .ok (.ldc_w 265, 3) := by decide +kernel
theorem dJ6_bitCount_0f7a4_7 : decode cJ6_bitCount_0f7a4 7 = .ok (.iand, 1) := by decide +kernel
theorem dJ6_bitCount_0f7a4_8 : decode cJ6_bitCount_0f7a4 8 = .ok (.isub, 1) := by decide +kernel
theorem dJ6_bitCount_0f7a4_9 : decode cJ6_bitCount_0f7a4 9 = .ok (.istore_n 0, 1) := by decide +kernel
theorem dJ6_bitCount_0f7a4_10 : decode cJ6_bitCount_0f7a4 10 = .ok (.iload_n 0, 1) := by decide +kernel
theorem dJ6_bitCount_0f7a4_11 : decode cJ6_bitCount_0f7a4 11 = .ok (.ldc_w 266, 3) := by decide +kernel
theorem dJ6_bitCount_0f7a4_14 : decode cJ6_bitCount_0f7a4 14 = .ok (.iand, 1) := by decide +kernel
theorem dJ6_bitCount_0f7a4_15 : decode cJ6_bitCount_0f7a4 15 = .ok (.iload_n 0, 1) := by decide +kernel
theorem dJ6_bitCount_0f7a4_16 : decode cJ6_bitCount_0f7a4 16 = .ok (.iconst 2, 1) := by decide +kernel
theorem dJ6_bitCount_0f7a4_17 : decode cJ6_bitCount_0f7a4 17 = .ok (.iushr, 1) := by decide +kernel
theorem dJ6_bitCount_0f7a4_18 : decode cJ6_bitCount_0f7a4 18 = .ok (.ldc_w 266, 3) := by decide +kernel
theorem dJ6_bitCount_0f7a4_21 : decode cJ6_bitCount_0f7a4 21 = .ok (.iand, 1) := by decide +kernel
theorem dJ6_bitCount_0f7a4_22 : decode cJ6_bitCount_0f7a4 22 = .ok (.iadd, 1) := by decide +kernel
theorem dJ6_bitCount_0f7a4_23 : decode cJ6_bitCount_0f7a4 23 = .ok (.istore_n 0, 1) := by decide +kernel
theorem dJ6_bitCount_0f7a4_24 : decode cJ6_bitCount_0f7a4 24 = .ok (.iload_n 0, 1) := by decide +kernel
theorem dJ6_bitCount_0f7a4_25 : decode cJ6_bitCount_0f7a4 25 = .ok (.iload_n 0, 1) := by decide +kernel
theorem dJ6_bitCount_0f7a4_26 : decode cJ6_bitCount_0f7a4 26 = .ok (.iconst 4, 1) := by decide +kernel
theorem dJ6_bitCount_0f7a4_27 : decode cJ6_bitCount_0f7a4 27 = .ok (.iushr, 1) := by decide +kernel
theorem dJ6_bitCount_0f7a4_28 : decode cJ6_bitCount_0f7a4 28 = .ok (.iadd, 1) := by decide +kernel
theorem dJ6_bitCount_0f7a4_29 : decode cJ6_bitCount_0f7a4 29 = .ok (.ldc_w 267, 3) := by decide +kernel
theorem dJ6_bitCount_0f7a4_32 : decode cJ6_bitCount_0f7a4 32 = .ok (.iand, 1) := by decide +kernel
theorem dJ6_bitCount_0f7a4_33 : decode cJ6_bitCount_0f7a4 33 = .ok (.istore_n 0, 1) := by decide +kernel
theorem dJ6_bitCount_0f7a4_34 : decode cJ6_bitCount_0f7a4 34 = .ok (.iload_n 0, 1) := by decide +kernel
theorem dJ6_bitCount_0f7a4_35 : decode cJ6_bitCount_0f7a4 35 = .ok (.iload_n 0, 1) := by decide +kernel
theorem dJ6_bitCount_0f7a4_36 : decode cJ6_bitCount_0f7a4 36 = .ok (.bipush 8, 2) := by decide +kernel
theorem dJ6_bitCount_0f7a4_38 : decode cJ6_bitCount_0f7a4 38 = .ok (.iushr, 1) := by decide +kernel
theorem dJ6_bitCount_0f7a4_39 : decode cJ6_bitCount_0f7a4 39 = .ok (.iadd, 1) := by decide +kernel
theorem dJ6_bitCount_0f7a4_40 : decode cJ6_bitCount_0f7a4 40 = .ok (.istore_n 0, 1) := by decide +kernel
theorem dJ6_bitCount_0f7a4_41 : decode cJ6_bitCount_0f7a4 41 = .ok (.iload_n 0, 1) := by decide +kernel
theorem dJ6_bitCount_0f7a4_42 : decode cJ6_bitCount_0f7a4 42 = .ok (.iload_n 0, 1) := by decide +kernel
theorem dJ6_bitCount_0f7a4_43 : decode cJ6_bitCount_0f7a4 43 = .ok (.bipush 16, 2) := by decide +kernel
theorem dJ6_bitCount_0f7a4_45 : decode cJ6_bitCount_0f7a4 45 = .ok (.iushr, 1) := by decide +kernel
theorem dJ6_bitCount_0f7a4_46 : decode cJ6_bitCount_0f7a4 46 = .ok (.iadd, 1) := by decide +kernel
theorem dJ6_bitCount_0f7a4_47 : decode cJ6_bitCount_0f7a4 47 = .ok (.istore_n 0, 1) := by decide +kernel
theorem dJ6_bitCount_0f7a4_48 : decode cJ6_bitCount_0f7a4 48 = .ok (.iload_n 0, 1) := by decide +kernel
theorem dJ6_bitCount_0f7a4_49 : decode cJ6_bitCount_0f7a4 49 = .ok (.bipush 63, 2) := by decide +kernel
theorem dJ6_bitCount_0f7a4_51 : decode cJ6_bitCount_0f7a4 51 = .ok (.iand, 1) := by decide +kernel
theorem dJ6_bitCount_0f7a4_52 : decode cJ6_bitCount_0f7a4 52 = .ok (.ireturn, 1) := by decide +kernel
theorem dJ9_max_7cf53_0 : decode cJ9_max_7cf53 0 = .ok (.iload_n 0, 1) := by decide +kernel
theorem dJ9_max_7cf53_1 : decode cJ9_max_7cf53 1 = .ok (.iload_n 1, 1) := by decide +kernel
theorem dJ9_max_7cf53_2 : decode cJ9_max_7cf53 2 = .ok (.if_icmp .lt 7, 3) := by decide +kernel
theorem dJ9_max_7cf53_5 : decode cJ9_max_7cf53 5 = .ok (.iload_n 0, 1) := by decide +kernel
theorem dJ9_max_7cf53_6 : decode cJ9_max_7cf53 6 = .ok (.goto 4, 3) := by decide +kernel
theorem dJ9_max_7cf53_9 : decode cJ9_max_7cf53 9 = .ok (.iload_n 1, 1) := by decide +kernel
theorem dJ9_max_7cf53_10 : decode cJ9_max_7cf53 10 = .ok (.ireturn, 1) := by decide +kernel
theorem dJ9_min_7cf53_0 : decode cJ9_min_7cf53 0 = .ok (.iload_n 0, 1) := by decide +kernel
theorem dJ9_min_7cf53_1 : decode cJ9_min_7cf53 1 = .ok (.iload_n 1, 1) := by decide +kernel
theorem dJ9_min_7cf53_2 : decode cJ9_min_7cf53 2 = .ok (.if_icmp .gt 7, 3) := by decide +kernel
theorem dJ9_min_7cf53_5 : decode cJ9_min_7cf53 5 = .ok (.iload_n 0, 1) := by decide +kernel
theorem dJ9_min_7cf53_6 : decode cJ9_min_7cf53 6 = .ok (.goto 4, 3) := by decide +kernel
theorem dJ9_min_7cf53_9 : decode cJ9_min_7cf53 9 = .ok (.iload_n 1, 1) := by decide +kernel
theorem dJ9_min_7cf53_10 : decode cJ9_min_7cf53 10 = .ok (.ireturn, 1) := by decide +kernel
set_option maxRecDepth 20000 in
theorem ggJ0_length_8abf5_J0_coder_7d493 : GoodIn wsJ0_length_8abf5 wsJ0_coder_7d493 := goodIn_r _ [6, 7, 8] (by decide +kernel) (by decide +kernel)
set_option maxRecDepth 20000 in
theorem gJ0_length_8abf5_J0_coder_7d493 : GoodIn wsJ0_length_8abf5 (wsV RJ0 335 RJ0 yJ0_coder_7d493 wsJ0_coder_7d493) := goodIn_app (goodIn_of _ (by decide +kernel)) ggJ0_length_8abf5_J0_coder_7d493
theorem dJ0_length_8abf5_0 : decode cJ0_length_8abf5 0 = .ok (.aload_n 0, 1) := by decide +kernel
theorem dJ0_length_8abf5_1 : decode cJ0_length_8abf5 1 = .ok (.getfield 9, 3) := by decide +kernel
theorem dJ0_length_8abf5_4 : decode cJ0_length_8abf5 4 = .ok (.arraylength, 1) := by decide +kernel
theorem dJ0_length_8abf5_5 : decode cJ0_length_8abf5 5 = .ok (.aload_n 0, 1) := by decide +kernel
theorem dJ0_length_8abf5_6 : decode cJ0_length_8abf5 6 = .ok (.invokevirtual 335, 3) := by decide +kernel
theorem dJ0_length_8abf5_9 : decode cJ0_length_8abf5 9 = .ok (.ishr, 1) := by decide +kernel
theorem dJ0_length_8abf5_10 : decode cJ0_length_8abf5 10 = .ok (.ireturn, 1) := by decide +kernel
set_option maxRecDepth 20000 in
theorem ggJ0_charAt_5068e_J0_isLatin1_aae02 : GoodIn wsJ0_charAt_5068e wsJ0_isLatin1_aae02 := goodIn_r _ [6, 7, 8] (by decide +kernel) (by decide +kernel)
set_option maxRecDepth 20000 in
theorem gJ0_charAt_5068e_J0_isLatin1_aae02 : GoodIn wsJ0_charAt_5068e (wsV RJ0 492 RJ0 yJ0_isLatin1_aae02 wsJ0_isLatin1_aae02) := goodIn_app (goodIn_of _ (by decide +kernel)) ggJ0_charAt_5068e_J0_isLatin1_aae02
set_option maxRecDepth 20000 in
theorem ggJ0_charAt_5068e_J1_charAt_3b067 : GoodIn wsJ0_charAt_5068e wsJ1_charAt_3b067 := goodIn_r _ [12, 13, 14, 5, 15, 16, 17, 18, 19, 20] (by decide +kernel) (by decide +kernel)
set_option maxRecDepth 20000 in
theorem gJ0_charAt_5068e_J1_charAt_3b067 : GoodIn wsJ0_charAt_5068e (va_wsS RJ0 495 yJ1_charAt_3b067 wsJ1_charAt_3b067) := goodIn_app (goodIn_of _ (by decide +kernel)) ggJ0_charAt_5068e_J1_charAt_3b067
set_option maxRecDepth 20000 in
theorem ggJ0_charAt_5068e_J2_charAt_3b067 : GoodIn wsJ0_charAt_5068e wsJ2_charAt_3b067 := goodIn_r _ [24, 25, 26, 23, 27, 28, 29, 30, 31, 14, 5, 15, 16, 17, 18, 19, 20, 32, 33, 34, 35, 36, 37] (by decide +kernel) (by decide +kernel)
set_option maxRecDepth 20000 in
theorem gJ0_charAt_5068e_J2_charAt_3b067 : GoodIn wsJ0_charAt_5068e (va_wsS RJ0 498 yJ2_charAt_3b067 wsJ2_charAt_3b067) := goodIn_app (goodIn_of _ (by decide +kernel)) ggJ0_charAt_5068e_J2_charAt_3b067
theorem dJ0_charAt_5068e_0 : decode cJ0_charAt_5068e 0 = .ok (.aload_n 0, 1) := by decide +kernel
theorem dJ0_charAt_5068e_1 : decode cJ0_charAt_5068e 1 = .ok (.invokevirtual 492, 3) := by decide +kernel
theorem dJ0_charAt_5068e_4 : decode cJ0_charAt_5068e 4 = .ok (.ifCond .eq 12, 3) := by decide +kernel
theorem dJ0_charAt_5068e_7 : decode cJ0_charAt_5068e 7 = .ok (.aload_n 0, 1) := by decide +kernel
theorem dJ0_charAt_5068e_8 : decode cJ0_charAt_5068e 8 = .ok (.getfield 9, 3) := by decide +kernel
theorem dJ0_charAt_5068e_11 : decode cJ0_charAt_5068e 11 = .ok (.iload_n 1, 1) := by decide +kernel
theorem dJ0_charAt_5068e_12 : decode cJ0_charAt_5068e 12 = .ok (.invokestatic 495, 3) := by decide +kernel
theorem dJ0_charAt_5068e_15 : decode cJ0_charAt_5068e 15 = .ok (.ireturn, 1) := by decide +kernel
theorem dJ0_charAt_5068e_16 : decode cJ0_charAt_5068e 16 = .ok (.aload_n 0, 1) := by decide +kernel
theorem dJ0_charAt_5068e_17 : decode cJ0_charAt_5068e 17 = .ok (.getfield 9, 3) := by decide +kernel
theorem dJ0_charAt_5068e_20 : decode cJ0_charAt_5068e 20 = .ok (.iload_n 1, 1) := by decide +kernel
theorem dJ0_charAt_5068e_21 : decode cJ0_charAt_5068e 21 = .ok (.invokestatic 498, 3) := by decide +kernel
theorem dJ0_charAt_5068e_24 : decode cJ0_charAt_5068e 24 = .ok (.ireturn, 1) := by decide +kernel
theorem dJ0_coder_7d493_0 : decode cJ0_coder_7d493 0 = .ok (.getstatic 38, 3) := by decide +kernel
theorem dJ0_coder_7d493_3 : decode cJ0_coder_7d493 3 = .ok (.ifCond .eq 10, 3) := by decide +kernel
theorem dJ0_coder_7d493_6 : decode cJ0_coder_7d493 6 = .ok (.aload_n 0, 1) := by decide +kernel
theorem dJ0_coder_7d493_7 : decode cJ0_coder_7d493 7 = .ok (.getfield 15, 3) := by decide +kernel
theorem dJ0_coder_7d493_10 : decode cJ0_coder_7d493 10 = .ok (.goto 4, 3) := by decide +kernel
theorem dJ0_coder_7d493_13 : decode cJ0_coder_7d493 13 = .ok (.iconst 1, 1) := by decide +kernel
theorem dJ0_coder_7d493_14 : decode cJ0_coder_7d493 14 = .ok (.ireturn, 1) := by decide +kernel
theorem dJ0_isLatin1_aae02_0 : decode cJ0_isLatin1_aae02 0 = .ok (.getstatic 38, 3) := by decide +kernel
theorem dJ0_isLatin1_aae02_3 : decode cJ0_isLatin1_aae02 3 = .ok (.ifCond .eq 14, 3) := by decide +kernel
theorem dJ0_isLatin1_aae02_6 : decode cJ0_isLatin1_aae02 6 = .ok (.aload_n 0, 1) := by decide +kernel
theorem dJ0_isLatin1_aae02_7 : decode cJ0_isLatin1_aae02 7 = .ok (.getfield 15, 3) := by decide +kernel
theorem dJ0_isLatin1_aae02_10 : decode cJ0_isLatin1_aae02 10 = .ok (.ifCond .ne 7, 3) := by decide +kernel
theorem dJ0_isLatin1_aae02_13 : decode cJ0_isLatin1_aae02 13 = .ok (.iconst 1, 1) := by decide +kernel
theorem dJ0_isLatin1_aae02_14 : decode cJ0_isLatin1_aae02 14 = .ok (.goto 4, 3) := by decide +kernel
theorem dJ0_isLatin1_aae02_17 : decode cJ0_isLatin1_aae02 17 = .ok (.iconst 0, 1) := by decide +kernel
theorem dJ0_isLatin1_aae02_18 : decode cJ0_isLatin1_aae02 18 = .ok (.ireturn, 1) := by decide +kernel
set_option maxRecDepth 20000 in
theorem ggJ0_checkIndex_df160_J3_checkIndex_8e157 : GoodIn wsJ0_checkIndex_df160 wsJ3_checkIndex_8e157 := goodIn_r _ [5] (by decide +kernel) (by decide +kernel)
set_option maxRecDepth 20000 in
theorem gJ0_checkIndex_df160_J3_checkIndex_8e157 : GoodIn wsJ0_checkIndex_df160 (va_wsS RJ0 1059 yJ3_checkIndex_8e157 wsJ3_checkIndex_8e157) := goodIn_app (goodIn_of _ (by decide +kernel)) ggJ0_checkIndex_df160_J3_checkIndex_8e157
theorem dJ0_checkIndex_df160_0 : decode cJ0_checkIndex_df160 0 = .ok (.iload_n 0, 1) := by decide +kernel
theorem dJ0_checkIndex_df160_1 : decode cJ0_checkIndex_df160 1 = .ok (.iload_n 1, 1) := by decide +kernel
theorem dJ0_checkIndex_df160_2 : decode cJ0_checkIndex_df160 2 = .ok (.getstatic 1053, 3) := by decide +kernel
theorem dJ0_checkIndex_df160_5 : decode cJ0_checkIndex_df160 5 = .ok (.invokestatic 1059, 3) := by decide +kernel
theorem dJ0_checkIndex_df160_8 : decode cJ0_checkIndex_df160 8 = .ok (.pop, 1) := by decide +kernel
theorem dJ0_checkIndex_df160_9 : decode cJ0_checkIndex_df160 9 = .ok (.return_, 1) := by decide +kernel
set_option maxRecDepth 20000 in
theorem ggJ1_charAt_3b067_J0_checkIndex_df160 : GoodIn wsJ1_charAt_3b067 wsJ0_checkIndex_df160 := goodIn_r _ [4, 5, 6, 7, 8, 9] (by decide +kernel) (by decide +kernel)
set_option maxRecDepth 20000 in
theorem gJ1_charAt_3b067_J0_checkIndex_df160 : GoodIn wsJ1_charAt_3b067 (va_wsS RJ1 9 yJ0_checkIndex_df160 wsJ0_checkIndex_df160) := goodIn_app (goodIn_of _ (by decide +kernel)) ggJ1_charAt_3b067_J0_checkIndex_df160
theorem dJ1_charAt_3b067_0 : decode cJ1_charAt_3b067 0 = .ok (.iload_n 1, 1) := by decide +kernel
theorem dJ1_charAt_3b067_1 : decode cJ1_charAt_3b067 1 = .ok (.aload_n 0, 1) := by decide +kernel
theorem dJ1_charAt_3b067_2 : decode cJ1_charAt_3b067 2 = .ok (.arraylength, 1) := by decide +kernel
theorem dJ1_charAt_3b067_3 : decode cJ1_charAt_3b067 3 = .ok (.invokestatic 9, 3) := by decide +kernel
theorem dJ1_charAt_3b067_6 : decode cJ1_charAt_3b067 6 = .ok (.aload_n 0, 1) := by decide +kernel
theorem dJ1_charAt_3b067_7 : decode cJ1_charAt_3b067 7 = .ok (.iload_n 1, 1) := by decide +kernel
theorem dJ1_charAt_3b067_8 : decode cJ1_charAt_3b067 8 = .ok (.baload, 1) := by decide +kernel
theorem dJ1_charAt_3b067_9 : decode cJ1_charAt_3b067 9 = .ok (.sipush 255, 3) := by decide +kernel
theorem dJ1_charAt_3b067_12 : decode cJ1_charAt_3b067 12 = .ok (.iand, 1) := by decide +kernel
theorem dJ1_charAt_3b067_13 : decode cJ1_charAt_3b067 13 = .ok (.i2c, 1) := by decide +kernel
theorem dJ1_charAt_3b067_14 : decode cJ1_charAt_3b067 14 = .ok (.ireturn, 1) := by decide +kernel
set_option maxRecDepth 20000 in
theorem ggJ2_getChar_3b067_J2_length_9d52b : GoodIn wsJ2_getChar_3b067 wsJ2_length_9d52b := goodIn_r _ [7] (by decide +kernel) (by decide +kernel)
set_option maxRecDepth 20000 in
theorem gJ2_getChar_3b067_J2_length_9d52b : GoodIn wsJ2_getChar_3b067 (va_wsS RJ2 48 yJ2_length_9d52b wsJ2_length_9d52b) := goodIn_app (goodIn_of _ (by decide +kernel)) ggJ2_getChar_3b067_J2_length_9d52b
theorem dJ2_getChar_3b067_0 : decode cJ2_getChar_3b067 0 = .ok (.getstatic 44, 3) := by decide +kernel
theorem dJ2_getChar_3b067_3 : decode cJ2_getChar_3b067 3 = .ok (.ifCond .ne 25, 3) := by decide +kernel
theorem dJ2_getChar_3b067_6 : decode cJ2_getChar_3b067 6 = .ok (.iload_n 1, 1) := by decide +kernel
theorem dJ2_getChar_3b067_7 : decode cJ2_getChar_3b067 7 = .ok (.ifCond .lt 11, 3) := by decide +kernel
theorem dJ2_getChar_3b067_10 : decode cJ2_getChar_3b067 10 = .ok (.iload_n 1, 1) := by decide +kernel
theorem dJ2_getChar_3b067_11 : decode cJ2_getChar_3b067 11 = .ok (.aload_n 0, 1) := by decide +kernel
theorem dJ2_getChar_3b067_12 : decode cJ2_getChar_3b067 12 = .ok (.invokestatic 48, 3) := by decide +kernel
theorem dJ2_getChar_3b067_15 : decode cJ2_getChar_3b067 15 = .ok (.if_icmp .lt 13, 3) := by decide +kernel
theorem dJ2_getChar_3b067_18 : decode cJ2_getChar_3b067 18 = .ok (.new 52, 3) := by decide +kernel
theorem dJ2_getChar_3b067_21 : decode cJ2_getChar_3b067 21 = .ok (.dup, 1) := by decide +kernel
theorem dJ2_getChar_3b067_22 : decode cJ2_getChar_3b067 22 = .ok (.ldc 54, 2) := by decide +kernel
theorem dJ2_getChar_3b067_24 : decode cJ2_getChar_3b067 24 = .ok (.invokespecial 56, 3) := by decide +kernel
theorem dJ2_getChar_3b067_27 : decode cJ2_getChar_3b067 27 = .ok (.athrow, 1) := by decide +kernel
theorem dJ2_getChar_3b067_28 : decode cJ2_getChar_3b067 28 = .ok (.iload_n 1, 1) := by decide +kernel
theorem dJ2_getChar_3b067_29 : decode cJ2_getChar_3b067 29 = .ok (.iconst 1, 1) := by decide +kernel
theorem dJ2_getChar_3b067_30 : decode cJ2_getChar_3b067 30 = .ok (.ishl, 1) := by decide +kernel
theorem dJ2_getChar_3b067_31 : decode cJ2_getChar_3b067 31 = .ok (.istore_n 1, 1) := by decide +kernel
theorem dJ2_getChar_3b067_32 : decode cJ2_getChar_3b067 32 = .ok (.aload_n 0, 1) := by decide +kernel
theorem dJ2_getChar_3b067_33 : decode cJ2_getChar_3b067 33 = .ok (.iload_n 1, 1) := by decide +kernel
theorem dJ2_getChar_3b067_34 : decode cJ2_getChar_3b067 34 = .ok (.iinc 1 1, 3) := by decide +kernel
theorem dJ2_getChar_3b067_37 : decode cJ2_getChar_3b067 37 = .ok (.baload, 1) := by decide +kernel
theorem dJ2_getChar_3b067_38 : decode cJ2_getChar_3b067 38 = .ok (.sipush 255, 3) := by decide +kernel
theorem dJ2_getChar_3b067_41 : decode cJ2_getChar_3b067 41 = .ok (.iand, 1) := by decide +kernel
theorem dJ2_getChar_3b067_42 : decode cJ2_getChar_3b067 42 = .ok (.getstatic 59, 3) := by decide +kernel
theorem dJ2_getChar_3b067_45 : decode cJ2_getChar_3b067 45 = .ok (.ishl, 1) := by decide +kernel
theorem dJ2_getChar_3b067_46 : decode cJ2_getChar_3b067 46 = .ok (.aload_n 0, 1) := by decide +kernel
theorem dJ2_getChar_3b067_47 : decode cJ2_getChar_3b067 47 = .ok (.iload_n 1, 1) := by decide +kernel
theorem dJ2_getChar_3b067_48 : decode cJ2_getChar_3b067 48 = .ok (.baload, 1) := by decide +kernel
theorem dJ2_getChar_3b067_49 : decode cJ2_getChar_3b067 49 = .ok (.sipush 255, 3) := by decide +kernel
theorem dJ2_getChar_3b067_52 : decode cJ2_getChar_3b067 52 = .ok (.iand, 1) := by decide +kernel
theorem dJ2_getChar_3b067_53 : decode cJ2_getChar_3b067 53 = .ok (.getstatic 63, 3) := by decide +kernel
theorem dJ2_getChar_3b067_56 : decode cJ2_getChar_3b067 56 = .ok (.ishl, 1) := by decide +kernel
theorem dJ2_getChar_3b067_57 : decode cJ2_getChar_3b067 57 = .ok (.ior, 1) := by decide +kernel
theorem dJ2_getChar_3b067_58 : decode cJ2_getChar_3b067 58 = .ok (.i2c, 1) := by decide +kernel
theorem dJ2_getChar_3b067_59 : decode cJ2_getChar_3b067 59 = .ok (.ireturn, 1) := by decide +kernel
theorem dJ2_length_9d52b_0 : decode cJ2_length_9d52b 0 = .ok (.aload_n 0, 1) := by decide +kernel
theorem dJ2_length_9d52b_1 : decode cJ2_length_9d52b 1 = .ok (.arraylength, 1) := by decide +kernel
theorem dJ2_length_9d52b_2 : decode cJ2_length_9d52b 2 = .ok (.iconst 1, 1) := by decide +kernel
theorem dJ2_length_9d52b_3 : decode cJ2_length_9d52b 3 = .ok (.ishr, 1) := by decide +kernel
theorem dJ2_length_9d52b_4 : decode cJ2_length_9d52b 4 = .ok (.ireturn, 1) := by decide +kernel
set_option maxRecDepth 20000 in
theorem ggJ2_charAt_3b067_J2_checkIndex_2214a : GoodIn wsJ2_charAt_3b067 wsJ2_checkIndex_2214a := goodIn_r _ [4, 5, 6, 3, 7, 8, 9, 10, 11, 12, 13, 14, 15, 16] (by decide +kernel) (by decide +kernel)
set_option maxRecDepth 20000 in
theorem gJ2_charAt_3b067_J2_checkIndex_2214a : GoodIn wsJ2_charAt_3b067 (va_wsS RJ2 67 yJ2_checkIndex_2214a wsJ2_checkIndex_2214a) := goodIn_app (goodIn_of _ (by decide +kernel)) ggJ2_charAt_3b067_J2_checkIndex_2214a
set_option maxRecDepth 20000 in
theorem ggJ2_charAt_3b067_J2_getChar_3b067 : GoodIn wsJ2_charAt_3b067 wsJ2_getChar_3b067 := goodIn_r _ [19, 20, 21, 22, 5, 6, 3, 7] (by decide +kernel) (by decide +kernel)
set_option maxRecDepth 20000 in
theorem gJ2_charAt_3b067_J2_getChar_3b067 : GoodIn wsJ2_charAt_3b067 (va_wsS RJ2 71 yJ2_getChar_3b067 wsJ2_getChar_3b067) := goodIn_app (goodIn_of _ (by decide +kernel)) ggJ2_charAt_3b067_J2_getChar_3b067
theorem dJ2_charAt_3b067_0 : decode cJ2_charAt_3b067 0 = .ok (.iload_n 1, 1) := by decide +kernel
theorem dJ2_charAt_3b067_1 : decode cJ2_charAt_3b067 1 = .ok (.aload_n 0, 1) := by decide +kernel
theorem dJ2_charAt_3b067_2 : decode cJ2_charAt_3b067 2 = .ok (.invokestatic 67, 3) := by decide +kernel
theorem dJ2_charAt_3b067_5 : decode cJ2_charAt_3b067 5 = .ok (.aload_n 0, 1) := by decide +kernel
theorem dJ2_charAt_3b067_6 : decode cJ2_charAt_3b067 6 = .ok (.iload_n 1, 1) := by decide +kernel
theorem dJ2_charAt_3b067_7 : decode cJ2_charAt_3b067 7 = .ok (.invokestatic 71, 3) := by decide +kernel
theorem dJ2_charAt_3b067_10 : decode cJ2_charAt_3b067 10 = .ok (.ireturn, 1) := by decide +kernel
set_option maxRecDepth 20000 in
theorem ggJ2_checkIndex_2214a_J2_length_9d52b : GoodIn wsJ2_checkIndex_2214a wsJ2_length_9d52b := goodIn_r _ [4] (by decide +kernel) (by decide +kernel)
set_option maxRecDepth 20000 in
theorem gJ2_checkIndex_2214a_J2_length_9d52b : GoodIn wsJ2_checkIndex_2214a (va_wsS RJ2 48 yJ2_length_9d52b wsJ2_length_9d52b) := goodIn_app (goodIn_of _ (by decide +kernel)) ggJ2_checkIndex_2214a_J2_length_9d52b
set_option maxRecDepth 20000 in
theorem ggJ2_checkIndex_2214a_J0_checkIndex_df160 : GoodIn wsJ2_checkIndex_2214a wsJ0_checkIndex_df160 := goodIn_r _ [8, 9, 10, 11, 12, 13] (by decide +kernel) (by decide +kernel)
