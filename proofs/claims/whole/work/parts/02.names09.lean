theorem dX8_init_224 : decode cX8_init 224 = .ok (.bipush 11, 2) := by decide +kernel
theorem dX8_init_226 : decode cX8_init 226 = .ok (.iconst 1, 1) := by decide +kernel
theorem dX8_init_227 : decode cX8_init 227 = .ok (.iastore, 1) := by decide +kernel
theorem dX8_init_228 : decode cX8_init 228 = .ok (.aload_n 0, 1) := by decide +kernel
theorem dX8_init_229 : decode cX8_init 229 = .ok (.invokevirtual 70, 3) := by decide +kernel
theorem dX8_init_232 : decode cX8_init 232 = .ok (.return_, 1) := by decide +kernel
theorem dX8_joinOf_0 : decode cX8_joinOf 0 = .ok (.aload_n 0, 1) := by decide +kernel
theorem dX8_joinOf_1 : decode cX8_joinOf 1 = .ok (.getfield 25, 3) := by decide +kernel
theorem dX8_joinOf_4 : decode cX8_joinOf 4 = .ok (.bipush 6, 2) := by decide +kernel
theorem dX8_joinOf_6 : decode cX8_joinOf 6 = .ok (.iload_n 1, 1) := by decide +kernel
theorem dX8_joinOf_7 : decode cX8_joinOf 7 = .ok (.imul, 1) := by decide +kernel
theorem dX8_joinOf_8 : decode cX8_joinOf 8 = .ok (.iload_n 2, 1) := by decide +kernel
theorem dX8_joinOf_9 : decode cX8_joinOf 9 = .ok (.iadd, 1) := by decide +kernel
theorem dX8_joinOf_10 : decode cX8_joinOf 10 = .ok (.iload_n 3, 1) := by decide +kernel
theorem dX8_joinOf_11 : decode cX8_joinOf 11 = .ok (.iastore, 1) := by decide +kernel
theorem dX8_joinOf_12 : decode cX8_joinOf 12 = .ok (.aload_n 0, 1) := by decide +kernel
theorem dX8_joinOf_13 : decode cX8_joinOf 13 = .ok (.getfield 25, 3) := by decide +kernel
theorem dX8_joinOf_16 : decode cX8_joinOf 16 = .ok (.bipush 6, 2) := by decide +kernel
theorem dX8_joinOf_18 : decode cX8_joinOf 18 = .ok (.iload_n 2, 1) := by decide +kernel
theorem dX8_joinOf_19 : decode cX8_joinOf 19 = .ok (.imul, 1) := by decide +kernel
theorem dX8_joinOf_20 : decode cX8_joinOf 20 = .ok (.iload_n 1, 1) := by decide +kernel
theorem dX8_joinOf_21 : decode cX8_joinOf 21 = .ok (.iadd, 1) := by decide +kernel
theorem dX8_joinOf_22 : decode cX8_joinOf 22 = .ok (.iload 4, 2) := by decide +kernel
theorem dX8_joinOf_24 : decode cX8_joinOf 24 = .ok (.iastore, 1) := by decide +kernel
theorem dX8_joinOf_25 : decode cX8_joinOf 25 = .ok (.aload_n 0, 1) := by decide +kernel
theorem dX8_joinOf_26 : decode cX8_joinOf 26 = .ok (.dup, 1) := by decide +kernel
theorem dX8_joinOf_27 : decode cX8_joinOf 27 = .ok (.getfield 73, 3) := by decide +kernel
theorem dX8_joinOf_30 : decode cX8_joinOf 30 = .ok (.iconst 1, 1) := by decide +kernel
theorem dX8_joinOf_31 : decode cX8_joinOf 31 = .ok (.iadd, 1) := by decide +kernel
theorem dX8_joinOf_32 : decode cX8_joinOf 32 = .ok (.putfield 73, 3) := by decide +kernel
theorem dX8_joinOf_35 : decode cX8_joinOf 35 = .ok (.return_, 1) := by decide +kernel
theorem dX8_isIn_0 : decode cX8_isIn 0 = .ok (.iload_n 0, 1) := by decide +kernel
theorem dX8_isIn_1 : decode cX8_isIn 1 = .ok (.iload_n 1, 1) := by decide +kernel
theorem dX8_isIn_2 : decode cX8_isIn 2 = .ok (.if_icmp .lt 12, 3) := by decide +kernel
theorem dX8_isIn_5 : decode cX8_isIn 5 = .ok (.iload_n 0, 1) := by decide +kernel
theorem dX8_isIn_6 : decode cX8_isIn 6 = .ok (.iload_n 2, 1) := by decide +kernel
theorem dX8_isIn_7 : decode cX8_isIn 7 = .ok (.if_icmp .gt 7, 3) := by decide +kernel
theorem dX8_isIn_10 : decode cX8_isIn 10 = .ok (.iconst 1, 1) := by decide +kernel
theorem dX8_isIn_11 : decode cX8_isIn 11 = .ok (.goto 4, 3) := by decide +kernel
theorem dX8_isIn_14 : decode cX8_isIn 14 = .ok (.iconst 0, 1) := by decide +kernel
theorem dX8_isIn_15 : decode cX8_isIn 15 = .ok (.ireturn, 1) := by decide +kernel
theorem dX8_clears_0 : decode cX8_clears 0 = .ok (.aload_n 0, 1) := by decide +kernel
theorem dX8_clears_1 : decode cX8_clears 1 = .ok (.iconst 0, 1) := by decide +kernel
theorem dX8_clears_2 : decode cX8_clears 2 = .ok (.putfield 62, 3) := by decide +kernel
theorem dX8_clears_5 : decode cX8_clears 5 = .ok (.aload_n 0, 1) := by decide +kernel
theorem dX8_clears_6 : decode cX8_clears 6 = .ok (.iconst 0, 1) := by decide +kernel
theorem dX8_clears_7 : decode cX8_clears 7 = .ok (.putfield 73, 3) := by decide +kernel
theorem dX8_clears_10 : decode cX8_clears 10 = .ok (.iconst 0, 1) := by decide +kernel
theorem dX8_clears_11 : decode cX8_clears 11 = .ok (.istore_n 1, 1) := by decide +kernel
theorem dX8_clears_12 : decode cX8_clears 12 = .ok (.iload_n 1, 1) := by decide +kernel
theorem dX8_clears_13 : decode cX8_clears 13 = .ok (.bipush 36, 2) := by decide +kernel
theorem dX8_clears_15 : decode cX8_clears 15 = .ok (.if_icmp .ge 16, 3) := by decide +kernel
theorem dX8_clears_18 : decode cX8_clears 18 = .ok (.aload_n 0, 1) := by decide +kernel
theorem dX8_clears_19 : decode cX8_clears 19 = .ok (.getfield 25, 3) := by decide +kernel
theorem dX8_clears_22 : decode cX8_clears 22 = .ok (.iload_n 1, 1) := by decide +kernel
theorem dX8_clears_23 : decode cX8_clears 23 = .ok (.iconst 0, 1) := by decide +kernel
theorem dX8_clears_24 : decode cX8_clears 24 = .ok (.iastore, 1) := by decide +kernel
theorem dX8_clears_25 : decode cX8_clears 25 = .ok (.iinc 1 1, 3) := by decide +kernel
theorem dX8_clears_28 : decode cX8_clears 28 = .ok (.goto (-16), 3) := by decide +kernel
theorem dX8_clears_31 : decode cX8_clears 31 = .ok (.iconst 0, 1) := by decide +kernel
theorem dX8_clears_32 : decode cX8_clears 32 = .ok (.istore_n 1, 1) := by decide +kernel
theorem dX8_clears_33 : decode cX8_clears 33 = .ok (.iload_n 1, 1) := by decide +kernel
theorem dX8_clears_34 : decode cX8_clears 34 = .ok (.bipush 20, 2) := by decide +kernel
theorem dX8_clears_36 : decode cX8_clears 36 = .ok (.if_icmp .ge 26, 3) := by decide +kernel
theorem dX8_clears_39 : decode cX8_clears 39 = .ok (.aload_n 0, 1) := by decide +kernel
theorem dX8_clears_40 : decode cX8_clears 40 = .ok (.getfield 31, 3) := by decide +kernel
theorem dX8_clears_43 : decode cX8_clears 43 = .ok (.iload_n 1, 1) := by decide +kernel
theorem dX8_clears_44 : decode cX8_clears 44 = .ok (.iload_n 1, 1) := by decide +kernel
theorem dX8_clears_45 : decode cX8_clears 45 = .ok (.bipush 6, 2) := by decide +kernel
theorem dX8_clears_47 : decode cX8_clears 47 = .ok (.if_icmp .ge 7, 3) := by decide +kernel
theorem dX8_clears_50 : decode cX8_clears 50 = .ok (.iconst 1, 1) := by decide +kernel
theorem dX8_clears_51 : decode cX8_clears 51 = .ok (.goto 4, 3) := by decide +kernel
theorem dX8_clears_54 : decode cX8_clears 54 = .ok (.iconst 0, 1) := by decide +kernel
theorem dX8_clears_55 : decode cX8_clears 55 = .ok (.iastore, 1) := by decide +kernel
theorem dX8_clears_56 : decode cX8_clears 56 = .ok (.iinc 1 1, 3) := by decide +kernel
theorem dX8_clears_59 : decode cX8_clears 59 = .ok (.goto (-26), 3) := by decide +kernel
theorem dX8_clears_62 : decode cX8_clears 62 = .ok (.aload_n 0, 1) := by decide +kernel
theorem dX8_clears_63 : decode cX8_clears 63 = .ok (.getfield 28, 3) := by decide +kernel
theorem dX8_clears_66 : decode cX8_clears 66 = .ok (.iconst 0, 1) := by decide +kernel
theorem dX8_clears_67 : decode cX8_clears 67 = .ok (.iconst 2, 1) := by decide +kernel
theorem dX8_clears_68 : decode cX8_clears 68 = .ok (.iastore, 1) := by decide +kernel
theorem dX8_clears_69 : decode cX8_clears 69 = .ok (.aload_n 0, 1) := by decide +kernel
theorem dX8_clears_70 : decode cX8_clears 70 = .ok (.getfield 28, 3) := by decide +kernel
theorem dX8_clears_73 : decode cX8_clears 73 = .ok (.iconst 1, 1) := by decide +kernel
theorem dX8_clears_74 : decode cX8_clears 74 = .ok (.iconst 1, 1) := by decide +kernel
theorem dX8_clears_75 : decode cX8_clears 75 = .ok (.iastore, 1) := by decide +kernel
theorem dX8_clears_76 : decode cX8_clears 76 = .ok (.aload_n 0, 1) := by decide +kernel
theorem dX8_clears_77 : decode cX8_clears 77 = .ok (.getfield 28, 3) := by decide +kernel
theorem dX8_clears_80 : decode cX8_clears 80 = .ok (.iconst 2, 1) := by decide +kernel
theorem dX8_clears_81 : decode cX8_clears 81 = .ok (.iconst 5, 1) := by decide +kernel
theorem dX8_clears_82 : decode cX8_clears 82 = .ok (.iastore, 1) := by decide +kernel
theorem dX8_clears_83 : decode cX8_clears 83 = .ok (.aload_n 0, 1) := by decide +kernel
theorem dX8_clears_84 : decode cX8_clears 84 = .ok (.getfield 28, 3) := by decide +kernel
theorem dX8_clears_87 : decode cX8_clears 87 = .ok (.iconst 3, 1) := by decide +kernel
theorem dX8_clears_88 : decode cX8_clears 88 = .ok (.bipush 10, 2) := by decide +kernel
theorem dX8_clears_90 : decode cX8_clears 90 = .ok (.iastore, 1) := by decide +kernel
theorem dX8_clears_91 : decode cX8_clears 91 = .ok (.return_, 1) := by decide +kernel
theorem dX8_takes_0 : decode cX8_takes 0 = .ok (.aload_n 0, 1) := by decide +kernel
theorem dX8_takes_1 : decode cX8_takes 1 = .ok (.aload_n 0, 1) := by decide +kernel
theorem dX8_takes_2 : decode cX8_takes 2 = .ok (.getfield 62, 3) := by decide +kernel
theorem dX8_takes_5 : decode cX8_takes 5 = .ok (.putfield 76, 3) := by decide +kernel
theorem dX8_takes_8 : decode cX8_takes 8 = .ok (.aload_n 0, 1) := by decide +kernel
theorem dX8_takes_9 : decode cX8_takes 9 = .ok (.aload_n 0, 1) := by decide +kernel
theorem dX8_takes_10 : decode cX8_takes 10 = .ok (.getfield 73, 3) := by decide +kernel
theorem dX8_takes_13 : decode cX8_takes 13 = .ok (.putfield 79, 3) := by decide +kernel
theorem dX8_takes_16 : decode cX8_takes 16 = .ok (.iconst 0, 1) := by decide +kernel
theorem dX8_takes_17 : decode cX8_takes 17 = .ok (.istore_n 1, 1) := by decide +kernel
theorem dX8_takes_18 : decode cX8_takes 18 = .ok (.iload_n 1, 1) := by decide +kernel
theorem dX8_takes_19 : decode cX8_takes 19 = .ok (.bipush 36, 2) := by decide +kernel
theorem dX8_takes_21 : decode cX8_takes 21 = .ok (.if_icmp .ge 21, 3) := by decide +kernel
theorem dX8_takes_24 : decode cX8_takes 24 = .ok (.aload_n 0, 1) := by decide +kernel
theorem dX8_takes_25 : decode cX8_takes 25 = .ok (.getfield 13, 3) := by decide +kernel
theorem dX8_takes_28 : decode cX8_takes 28 = .ok (.iload_n 1, 1) := by decide +kernel
theorem dX8_takes_29 : decode cX8_takes 29 = .ok (.aload_n 0, 1) := by decide +kernel
theorem dX8_takes_30 : decode cX8_takes 30 = .ok (.getfield 25, 3) := by decide +kernel
theorem dX8_takes_33 : decode cX8_takes 33 = .ok (.iload_n 1, 1) := by decide +kernel
theorem dX8_takes_34 : decode cX8_takes 34 = .ok (.iaload, 1) := by decide +kernel
theorem dX8_takes_35 : decode cX8_takes 35 = .ok (.iastore, 1) := by decide +kernel
theorem dX8_takes_36 : decode cX8_takes 36 = .ok (.iinc 1 1, 3) := by decide +kernel
theorem dX8_takes_39 : decode cX8_takes 39 = .ok (.goto (-21), 3) := by decide +kernel
theorem dX8_takes_42 : decode cX8_takes 42 = .ok (.iconst 0, 1) := by decide +kernel
theorem dX8_takes_43 : decode cX8_takes 43 = .ok (.istore_n 1, 1) := by decide +kernel
theorem dX8_takes_44 : decode cX8_takes 44 = .ok (.iload_n 1, 1) := by decide +kernel
theorem dX8_takes_45 : decode cX8_takes 45 = .ok (.bipush 20, 2) := by decide +kernel
theorem dX8_takes_47 : decode cX8_takes 47 = .ok (.if_icmp .ge 21, 3) := by decide +kernel
theorem dX8_takes_50 : decode cX8_takes 50 = .ok (.aload_n 0, 1) := by decide +kernel
theorem dX8_takes_51 : decode cX8_takes 51 = .ok (.getfield 19, 3) := by decide +kernel
theorem dX8_takes_54 : decode cX8_takes 54 = .ok (.iload_n 1, 1) := by decide +kernel
theorem dX8_takes_55 : decode cX8_takes 55 = .ok (.aload_n 0, 1) := by decide +kernel
theorem dX8_takes_56 : decode cX8_takes 56 = .ok (.getfield 31, 3) := by decide +kernel
theorem dX8_takes_59 : decode cX8_takes 59 = .ok (.iload_n 1, 1) := by decide +kernel
theorem dX8_takes_60 : decode cX8_takes 60 = .ok (.iaload, 1) := by decide +kernel
theorem dX8_takes_61 : decode cX8_takes 61 = .ok (.iastore, 1) := by decide +kernel
theorem dX8_takes_62 : decode cX8_takes 62 = .ok (.iinc 1 1, 3) := by decide +kernel
theorem dX8_takes_65 : decode cX8_takes 65 = .ok (.goto (-21), 3) := by decide +kernel
theorem dX8_takes_68 : decode cX8_takes 68 = .ok (.iconst 0, 1) := by decide +kernel
theorem dX8_takes_69 : decode cX8_takes 69 = .ok (.istore_n 1, 1) := by decide +kernel
theorem dX8_takes_70 : decode cX8_takes 70 = .ok (.iload_n 1, 1) := by decide +kernel
theorem dX8_takes_71 : decode cX8_takes 71 = .ok (.iconst 4, 1) := by decide +kernel
theorem dX8_takes_72 : decode cX8_takes 72 = .ok (.if_icmp .ge 21, 3) := by decide +kernel
theorem dX8_takes_75 : decode cX8_takes 75 = .ok (.aload_n 0, 1) := by decide +kernel
theorem dX8_takes_76 : decode cX8_takes 76 = .ok (.getfield 16, 3) := by decide +kernel
theorem dX8_takes_79 : decode cX8_takes 79 = .ok (.iload_n 1, 1) := by decide +kernel
theorem dX8_takes_80 : decode cX8_takes 80 = .ok (.aload_n 0, 1) := by decide +kernel
theorem dX8_takes_81 : decode cX8_takes 81 = .ok (.getfield 28, 3) := by decide +kernel
theorem dX8_takes_84 : decode cX8_takes 84 = .ok (.iload_n 1, 1) := by decide +kernel
theorem dX8_takes_85 : decode cX8_takes 85 = .ok (.iaload, 1) := by decide +kernel
theorem dX8_takes_86 : decode cX8_takes 86 = .ok (.iastore, 1) := by decide +kernel
theorem dX8_takes_87 : decode cX8_takes 87 = .ok (.iinc 1 1, 3) := by decide +kernel
theorem dX8_takes_90 : decode cX8_takes 90 = .ok (.goto (-20), 3) := by decide +kernel
theorem dX8_takes_93 : decode cX8_takes 93 = .ok (.aload_n 0, 1) := by decide +kernel
theorem dX8_takes_94 : decode cX8_takes 94 = .ok (.iconst 0, 1) := by decide +kernel
theorem dX8_takes_95 : decode cX8_takes 95 = .ok (.putfield 82, 3) := by decide +kernel
theorem dX8_takes_98 : decode cX8_takes 98 = .ok (.return_, 1) := by decide +kernel
theorem dX8_letterAt_0 : decode cX8_letterAt 0 = .ok (.iload_n 1, 1) := by decide +kernel
theorem dX8_letterAt_1 : decode cX8_letterAt 1 = .ok (.aload_n 0, 1) := by decide +kernel
theorem dX8_letterAt_2 : decode cX8_letterAt 2 = .ok (.getfield 85, 3) := by decide +kernel
theorem dX8_letterAt_5 : decode cX8_letterAt 5 = .ok (.if_icmp .ge 12, 3) := by decide +kernel
theorem dX8_letterAt_8 : decode cX8_letterAt 8 = .ok (.aload_n 0, 1) := by decide +kernel
theorem dX8_letterAt_9 : decode cX8_letterAt 9 = .ok (.getfield 7, 3) := by decide +kernel
theorem dX8_letterAt_12 : decode cX8_letterAt 12 = .ok (.iload_n 1, 1) := by decide +kernel
theorem dX8_letterAt_13 : decode cX8_letterAt 13 = .ok (.iaload, 1) := by decide +kernel
theorem dX8_letterAt_14 : decode cX8_letterAt 14 = .ok (.goto 4, 3) := by decide +kernel
theorem dX8_letterAt_17 : decode cX8_letterAt 17 = .ok (.iconst 0, 1) := by decide +kernel
theorem dX8_letterAt_18 : decode cX8_letterAt 18 = .ok (.ireturn, 1) := by decide +kernel
set_option maxRecDepth 20000 in
theorem ggX8_number_X8_letterAt : GoodIn wsX8_number wsX8_letterAt := goodIn_r _ [8, 9, 3, 13, 14, 15, 16, 17, 18, 19, 20, 21, 22, 23, 24, 25, 26, 27, 28, 29, 30, 31, 32, 33, 34, 35, 36, 37, 38] (by decide +kernel) (by decide +kernel)
set_option maxRecDepth 20000 in
theorem gX8_number_X8_letterAt : GoodIn wsX8_number (wsV RX8 94 RX8 yX8_letterAt wsX8_letterAt) := goodIn_app (goodIn_of _ (by decide +kernel)) ggX8_number_X8_letterAt
set_option maxRecDepth 20000 in
theorem ggX8_number_X8_isIn : GoodIn wsX8_number wsX8_isIn := goodIn_r _ [12] (by decide +kernel) (by decide +kernel)
set_option maxRecDepth 20000 in
theorem gX8_number_X8_isIn : GoodIn wsX8_number (va_wsS RX8 98 yX8_isIn wsX8_isIn) := goodIn_app (goodIn_of _ (by decide +kernel)) ggX8_number_X8_isIn
theorem dX8_number_0 : decode cX8_number 0 = .ok (.aload_n 0, 1) := by decide +kernel
theorem dX8_number_1 : decode cX8_number 1 = .ok (.iconst 0, 1) := by decide +kernel
theorem dX8_number_2 : decode cX8_number 2 = .ok (.putfield 88, 3) := by decide +kernel
theorem dX8_number_5 : decode cX8_number 5 = .ok (.aload_n 0, 1) := by decide +kernel
theorem dX8_number_6 : decode cX8_number 6 = .ok (.iload_n 1, 1) := by decide +kernel
theorem dX8_number_7 : decode cX8_number 7 = .ok (.putfield 91, 3) := by decide +kernel
theorem dX8_number_10 : decode cX8_number 10 = .ok (.aload_n 0, 1) := by decide +kernel
theorem dX8_number_11 : decode cX8_number 11 = .ok (.getfield 91, 3) := by decide +kernel
theorem dX8_number_14 : decode cX8_number 14 = .ok (.iload_n 1, 1) := by decide +kernel
theorem dX8_number_15 : decode cX8_number 15 = .ok (.iconst 2, 1) := by decide +kernel
theorem dX8_number_16 : decode cX8_number 16 = .ok (.iadd, 1) := by decide +kernel
theorem dX8_number_17 : decode cX8_number 17 = .ok (.if_icmp .ge 66, 3) := by decide +kernel
theorem dX8_number_20 : decode cX8_number 20 = .ok (.aload_n 0, 1) := by decide +kernel
theorem dX8_number_21 : decode cX8_number 21 = .ok (.aload_n 0, 1) := by decide +kernel
theorem dX8_number_22 : decode cX8_number 22 = .ok (.getfield 91, 3) := by decide +kernel
theorem dX8_number_25 : decode cX8_number 25 = .ok (.invokevirtual 94, 3) := by decide +kernel
theorem dX8_number_28 : decode cX8_number 28 = .ok (.bipush 48, 2) := by decide +kernel
theorem dX8_number_30 : decode cX8_number 30 = .ok (.if_icmp .lt 53, 3) := by decide +kernel
theorem dX8_number_33 : decode cX8_number 33 = .ok (.aload_n 0, 1) := by decide +kernel
theorem dX8_number_34 : decode cX8_number 34 = .ok (.aload_n 0, 1) := by decide +kernel
theorem dX8_number_35 : decode cX8_number 35 = .ok (.getfield 91, 3) := by decide +kernel
theorem dX8_number_38 : decode cX8_number 38 = .ok (.invokevirtual 94, 3) := by decide +kernel
theorem dX8_number_41 : decode cX8_number 41 = .ok (.bipush 57, 2) := by decide +kernel
theorem dX8_number_43 : decode cX8_number 43 = .ok (.if_icmp .gt 40, 3) := by decide +kernel
theorem dX8_number_46 : decode cX8_number 46 = .ok (.aload_n 0, 1) := by decide +kernel
theorem dX8_number_47 : decode cX8_number 47 = .ok (.bipush 10, 2) := by decide +kernel
theorem dX8_number_49 : decode cX8_number 49 = .ok (.aload_n 0, 1) := by decide +kernel
theorem dX8_number_50 : decode cX8_number 50 = .ok (.getfield 88, 3) := by decide +kernel
theorem dX8_number_53 : decode cX8_number 53 = .ok (.imul, 1) := by decide +kernel
theorem dX8_number_54 : decode cX8_number 54 = .ok (.aload_n 0, 1) := by decide +kernel
theorem dX8_number_55 : decode cX8_number 55 = .ok (.getfield 7, 3) := by decide +kernel
theorem dX8_number_58 : decode cX8_number 58 = .ok (.aload_n 0, 1) := by decide +kernel
theorem dX8_number_59 : decode cX8_number 59 = .ok (.getfield 91, 3) := by decide +kernel
theorem dX8_number_62 : decode cX8_number 62 = .ok (.iaload, 1) := by decide +kernel
theorem dX8_number_63 : decode cX8_number 63 = .ok (.iadd, 1) := by decide +kernel
theorem dX8_number_64 : decode cX8_number 64 = .ok (.bipush 48, 2) := by decide +kernel
theorem dX8_number_66 : decode cX8_number 66 = .ok (.isub, 1) := by decide +kernel
theorem dX8_number_67 : decode cX8_number 67 = .ok (.putfield 88, 3) := by decide +kernel
theorem dX8_number_70 : decode cX8_number 70 = .ok (.aload_n 0, 1) := by decide +kernel
theorem dX8_number_71 : decode cX8_number 71 = .ok (.dup, 1) := by decide +kernel
theorem dX8_number_72 : decode cX8_number 72 = .ok (.getfield 91, 3) := by decide +kernel
theorem dX8_number_75 : decode cX8_number 75 = .ok (.iconst 1, 1) := by decide +kernel
theorem dX8_number_76 : decode cX8_number 76 = .ok (.iadd, 1) := by decide +kernel
theorem dX8_number_77 : decode cX8_number 77 = .ok (.putfield 91, 3) := by decide +kernel
theorem dX8_number_80 : decode cX8_number 80 = .ok (.goto (-70), 3) := by decide +kernel
theorem dX8_number_83 : decode cX8_number 83 = .ok (.aload_n 0, 1) := by decide +kernel
theorem dX8_number_84 : decode cX8_number 84 = .ok (.getfield 91, 3) := by decide +kernel
theorem dX8_number_87 : decode cX8_number 87 = .ok (.iload_n 1, 1) := by decide +kernel
theorem dX8_number_88 : decode cX8_number 88 = .ok (.if_icmp .le 19, 3) := by decide +kernel
theorem dX8_number_91 : decode cX8_number 91 = .ok (.aload_n 0, 1) := by decide +kernel
theorem dX8_number_92 : decode cX8_number 92 = .ok (.getfield 88, 3) := by decide +kernel
theorem dX8_number_95 : decode cX8_number 95 = .ok (.iload_n 2, 1) := by decide +kernel
theorem dX8_number_96 : decode cX8_number 96 = .ok (.iload_n 3, 1) := by decide +kernel
theorem dX8_number_97 : decode cX8_number 97 = .ok (.invokestatic 98, 3) := by decide +kernel
theorem dX8_number_100 : decode cX8_number 100 = .ok (.ifCond .eq 7, 3) := by decide +kernel
theorem dX8_number_103 : decode cX8_number 103 = .ok (.iconst 1, 1) := by decide +kernel
theorem dX8_number_104 : decode cX8_number 104 = .ok (.goto 4, 3) := by decide +kernel
theorem dX8_number_107 : decode cX8_number 107 = .ok (.iconst 0, 1) := by decide +kernel
theorem dX8_number_108 : decode cX8_number 108 = .ok (.ireturn, 1) := by decide +kernel
set_option maxRecDepth 20000 in
theorem ggX8_more_X8_letterAt : GoodIn wsX8_more wsX8_letterAt := goodIn_r _ [6, 7, 8, 17, 18, 19, 20, 21, 22, 23, 24, 25, 26, 27, 28, 29, 30, 31, 32, 33, 34, 35, 36, 37, 38, 39, 40, 41, 42] (by decide +kernel) (by decide +kernel)
set_option maxRecDepth 20000 in
theorem gX8_more_X8_letterAt : GoodIn wsX8_more (wsV RX8 94 RX8 yX8_letterAt wsX8_letterAt) := goodIn_app (goodIn_of _ (by decide +kernel)) ggX8_more_X8_letterAt
set_option maxRecDepth 20000 in
theorem ggX8_more_X8_number : GoodIn wsX8_more wsX8_number := goodIn_r _ [12, 13, 1, 8, 2, 3, 4, 5, 6, 7, 14, 15, 16, 17, 18, 19, 20, 21, 22, 23, 24, 25, 26, 27, 28, 29, 30, 31, 32, 33, 34, 35, 36, 37, 38, 39, 40, 41, 42] (by decide +kernel) (by decide +kernel)
set_option maxRecDepth 20000 in
theorem gX8_more_X8_number : GoodIn wsX8_more (wsV RX8 102 RX8 yX8_number wsX8_number) := goodIn_app (goodIn_of _ (by decide +kernel)) ggX8_more_X8_number
theorem dX8_more_0 : decode cX8_more 0 = .ok (.aload_n 0, 1) := by decide +kernel
theorem dX8_more_1 : decode cX8_more 1 = .ok (.aload_n 0, 1) := by decide +kernel
theorem dX8_more_2 : decode cX8_more 2 = .ok (.getfield 91, 3) := by decide +kernel
theorem dX8_more_5 : decode cX8_more 5 = .ok (.invokevirtual 94, 3) := by decide +kernel
theorem dX8_more_8 : decode cX8_more 8 = .ok (.bipush 44, 2) := by decide +kernel
theorem dX8_more_10 : decode cX8_more 10 = .ok (.if_icmp .ne 22, 3) := by decide +kernel
theorem dX8_more_13 : decode cX8_more 13 = .ok (.aload_n 0, 1) := by decide +kernel
theorem dX8_more_14 : decode cX8_more 14 = .ok (.aload_n 0, 1) := by decide +kernel
theorem dX8_more_15 : decode cX8_more 15 = .ok (.getfield 91, 3) := by decide +kernel
theorem dX8_more_18 : decode cX8_more 18 = .ok (.iconst 1, 1) := by decide +kernel
theorem dX8_more_19 : decode cX8_more 19 = .ok (.iadd, 1) := by decide +kernel
theorem dX8_more_20 : decode cX8_more 20 = .ok (.iload_n 1, 1) := by decide +kernel
theorem dX8_more_21 : decode cX8_more 21 = .ok (.iload_n 2, 1) := by decide +kernel
theorem dX8_more_22 : decode cX8_more 22 = .ok (.invokevirtual 102, 3) := by decide +kernel
theorem dX8_more_25 : decode cX8_more 25 = .ok (.ifCond .eq 7, 3) := by decide +kernel
theorem dX8_more_28 : decode cX8_more 28 = .ok (.iconst 1, 1) := by decide +kernel
theorem dX8_more_29 : decode cX8_more 29 = .ok (.goto 4, 3) := by decide +kernel
theorem dX8_more_32 : decode cX8_more 32 = .ok (.iconst 0, 1) := by decide +kernel
theorem dX8_more_33 : decode cX8_more 33 = .ok (.ireturn, 1) := by decide +kernel
set_option maxRecDepth 20000 in
theorem ggX8_readsJoin_X8_number : GoodIn wsX8_readsJoin wsX8_number := goodIn_r _ [8, 2, 9, 10, 11, 12, 13, 7, 14, 15, 16, 17, 18, 28, 29, 30, 31, 32, 33, 34, 35, 36, 37, 38, 39, 40, 41, 42, 43, 44, 45, 46, 47, 48, 49, 50, 51, 52, 53] (by decide +kernel) (by decide +kernel)
set_option maxRecDepth 20000 in
theorem gX8_readsJoin_X8_number : GoodIn wsX8_readsJoin (wsV RX8 102 RX8 yX8_number wsX8_number) := goodIn_app (goodIn_of _ (by decide +kernel)) ggX8_readsJoin_X8_number
set_option maxRecDepth 20000 in
theorem ggX8_readsJoin_X8_more : GoodIn wsX8_readsJoin wsX8_more := goodIn_r _ [22, 9, 11, 12, 13, 7, 14, 15, 10, 4, 5, 6, 8, 2, 16, 17, 18, 28, 29, 30, 31, 32, 33, 34, 35, 36, 37, 38, 39, 40, 41, 42, 43, 44, 45, 46, 47, 48, 49, 50, 51, 52, 53] (by decide +kernel) (by decide +kernel)
set_option maxRecDepth 20000 in
theorem gX8_readsJoin_X8_more : GoodIn wsX8_readsJoin (wsV RX8 105 RX8 yX8_more wsX8_more) := goodIn_app (goodIn_of _ (by decide +kernel)) ggX8_readsJoin_X8_more
set_option maxRecDepth 20000 in
theorem ggX8_readsJoin_X8_joinOf : GoodIn wsX8_readsJoin wsX8_joinOf := goodIn_r _ [26, 3, 27, 28, 29, 30, 31, 32, 33, 34, 35, 36, 37, 38, 39, 40, 41, 42, 43, 44, 45, 46, 47, 48, 49, 50, 51, 52, 53] (by decide +kernel) (by decide +kernel)
set_option maxRecDepth 20000 in
theorem gX8_readsJoin_X8_joinOf : GoodIn wsX8_readsJoin (wsV RX8 66 RX8 yX8_joinOf wsX8_joinOf) := goodIn_app (goodIn_of _ (by decide +kernel)) ggX8_readsJoin_X8_joinOf
theorem dX8_readsJoin_0 : decode cX8_readsJoin 0 = .ok (.aload_n 0, 1) := by decide +kernel
theorem dX8_readsJoin_1 : decode cX8_readsJoin 1 = .ok (.iload_n 1, 1) := by decide +kernel
theorem dX8_readsJoin_2 : decode cX8_readsJoin 2 = .ok (.iconst 0, 1) := by decide +kernel
theorem dX8_readsJoin_3 : decode cX8_readsJoin 3 = .ok (.aload_n 0, 1) := by decide +kernel
theorem dX8_readsJoin_4 : decode cX8_readsJoin 4 = .ok (.getfield 62, 3) := by decide +kernel
theorem dX8_readsJoin_7 : decode cX8_readsJoin 7 = .ok (.iconst 1, 1) := by decide +kernel
theorem dX8_readsJoin_8 : decode cX8_readsJoin 8 = .ok (.isub, 1) := by decide +kernel
theorem dX8_readsJoin_9 : decode cX8_readsJoin 9 = .ok (.invokevirtual 102, 3) := by decide +kernel
theorem dX8_readsJoin_12 : decode cX8_readsJoin 12 = .ok (.ifCond .ne 5, 3) := by decide +kernel
theorem dX8_readsJoin_15 : decode cX8_readsJoin 15 = .ok (.iconst 0, 1) := by decide +kernel
theorem dX8_readsJoin_16 : decode cX8_readsJoin 16 = .ok (.ireturn, 1) := by decide +kernel
theorem dX8_readsJoin_17 : decode cX8_readsJoin 17 = .ok (.aload_n 0, 1) := by decide +kernel
theorem dX8_readsJoin_18 : decode cX8_readsJoin 18 = .ok (.getfield 88, 3) := by decide +kernel
theorem dX8_readsJoin_21 : decode cX8_readsJoin 21 = .ok (.istore_n 2, 1) := by decide +kernel
theorem dX8_readsJoin_22 : decode cX8_readsJoin 22 = .ok (.aload_n 0, 1) := by decide +kernel
theorem dX8_readsJoin_23 : decode cX8_readsJoin 23 = .ok (.iconst 0, 1) := by decide +kernel
theorem dX8_readsJoin_24 : decode cX8_readsJoin 24 = .ok (.aload_n 0, 1) := by decide +kernel
theorem dX8_readsJoin_25 : decode cX8_readsJoin 25 = .ok (.getfield 62, 3) := by decide +kernel
theorem dX8_readsJoin_28 : decode cX8_readsJoin 28 = .ok (.iconst 1, 1) := by decide +kernel
theorem dX8_readsJoin_29 : decode cX8_readsJoin 29 = .ok (.isub, 1) := by decide +kernel
theorem dX8_readsJoin_30 : decode cX8_readsJoin 30 = .ok (.invokevirtual 105, 3) := by decide +kernel
theorem dX8_readsJoin_33 : decode cX8_readsJoin 33 = .ok (.ifCond .ne 5, 3) := by decide +kernel
theorem dX8_readsJoin_36 : decode cX8_readsJoin 36 = .ok (.iconst 0, 1) := by decide +kernel
theorem dX8_readsJoin_37 : decode cX8_readsJoin 37 = .ok (.ireturn, 1) := by decide +kernel
theorem dX8_readsJoin_38 : decode cX8_readsJoin 38 = .ok (.aload_n 0, 1) := by decide +kernel
theorem dX8_readsJoin_39 : decode cX8_readsJoin 39 = .ok (.getfield 88, 3) := by decide +kernel
theorem dX8_readsJoin_42 : decode cX8_readsJoin 42 = .ok (.istore_n 3, 1) := by decide +kernel
theorem dX8_readsJoin_43 : decode cX8_readsJoin 43 = .ok (.iload_n 2, 1) := by decide +kernel
theorem dX8_readsJoin_44 : decode cX8_readsJoin 44 = .ok (.iload_n 3, 1) := by decide +kernel
theorem dX8_readsJoin_45 : decode cX8_readsJoin 45 = .ok (.if_icmp .eq 26, 3) := by decide +kernel
theorem dX8_readsJoin_48 : decode cX8_readsJoin 48 = .ok (.aload_n 0, 1) := by decide +kernel
theorem dX8_readsJoin_49 : decode cX8_readsJoin 49 = .ok (.getfield 25, 3) := by decide +kernel
theorem dX8_readsJoin_52 : decode cX8_readsJoin 52 = .ok (.bipush 6, 2) := by decide +kernel
theorem dX8_readsJoin_54 : decode cX8_readsJoin 54 = .ok (.iload_n 2, 1) := by decide +kernel
theorem dX8_readsJoin_55 : decode cX8_readsJoin 55 = .ok (.imul, 1) := by decide +kernel
theorem dX8_readsJoin_56 : decode cX8_readsJoin 56 = .ok (.iload_n 3, 1) := by decide +kernel
theorem dX8_readsJoin_57 : decode cX8_readsJoin 57 = .ok (.iadd, 1) := by decide +kernel
theorem dX8_readsJoin_58 : decode cX8_readsJoin 58 = .ok (.iaload, 1) := by decide +kernel
theorem dX8_readsJoin_59 : decode cX8_readsJoin 59 = .ok (.ifCond .gt 12, 3) := by decide +kernel
theorem dX8_readsJoin_62 : decode cX8_readsJoin 62 = .ok (.aload_n 0, 1) := by decide +kernel
theorem dX8_readsJoin_63 : decode cX8_readsJoin 63 = .ok (.iconst 1, 1) := by decide +kernel
theorem dX8_readsJoin_64 : decode cX8_readsJoin 64 = .ok (.iconst 4, 1) := by decide +kernel
theorem dX8_readsJoin_65 : decode cX8_readsJoin 65 = .ok (.invokevirtual 105, 3) := by decide +kernel
theorem dX8_readsJoin_68 : decode cX8_readsJoin 68 = .ok (.ifCond .ne 5, 3) := by decide +kernel
theorem dX8_readsJoin_71 : decode cX8_readsJoin 71 = .ok (.iconst 0, 1) := by decide +kernel
theorem dX8_readsJoin_72 : decode cX8_readsJoin 72 = .ok (.ireturn, 1) := by decide +kernel
theorem dX8_readsJoin_73 : decode cX8_readsJoin 73 = .ok (.aload_n 0, 1) := by decide +kernel
theorem dX8_readsJoin_74 : decode cX8_readsJoin 74 = .ok (.getfield 88, 3) := by decide +kernel
theorem dX8_readsJoin_77 : decode cX8_readsJoin 77 = .ok (.istore 4, 2) := by decide +kernel
theorem dX8_readsJoin_79 : decode cX8_readsJoin 79 = .ok (.aload_n 0, 1) := by decide +kernel
theorem dX8_readsJoin_80 : decode cX8_readsJoin 80 = .ok (.iconst 1, 1) := by decide +kernel
theorem dX8_readsJoin_81 : decode cX8_readsJoin 81 = .ok (.iconst 4, 1) := by decide +kernel
theorem dX8_readsJoin_82 : decode cX8_readsJoin 82 = .ok (.invokevirtual 105, 3) := by decide +kernel
theorem dX8_readsJoin_85 : decode cX8_readsJoin 85 = .ok (.ifCond .ne 5, 3) := by decide +kernel
theorem dX8_readsJoin_88 : decode cX8_readsJoin 88 = .ok (.iconst 0, 1) := by decide +kernel
theorem dX8_readsJoin_89 : decode cX8_readsJoin 89 = .ok (.ireturn, 1) := by decide +kernel
theorem dX8_readsJoin_90 : decode cX8_readsJoin 90 = .ok (.aload_n 0, 1) := by decide +kernel
theorem dX8_readsJoin_91 : decode cX8_readsJoin 91 = .ok (.iload_n 2, 1) := by decide +kernel
theorem dX8_readsJoin_92 : decode cX8_readsJoin 92 = .ok (.iload_n 3, 1) := by decide +kernel
theorem dX8_readsJoin_93 : decode cX8_readsJoin 93 = .ok (.iload 4, 2) := by decide +kernel
theorem dX8_readsJoin_95 : decode cX8_readsJoin 95 = .ok (.aload_n 0, 1) := by decide +kernel
theorem dX8_readsJoin_96 : decode cX8_readsJoin 96 = .ok (.getfield 88, 3) := by decide +kernel
theorem dX8_readsJoin_99 : decode cX8_readsJoin 99 = .ok (.invokevirtual 66, 3) := by decide +kernel
theorem dX8_readsJoin_102 : decode cX8_readsJoin 102 = .ok (.iconst 1, 1) := by decide +kernel
theorem dX8_readsJoin_103 : decode cX8_readsJoin 103 = .ok (.ireturn, 1) := by decide +kernel
set_option maxRecDepth 20000 in
theorem ggX8_readsCell_X8_number : GoodIn wsX8_readsCell wsX8_number := goodIn_r _ [8, 2, 9, 10, 11, 12, 13, 7, 14, 15, 16, 17, 18, 23, 24, 25, 26, 27, 28, 29, 30, 31, 32, 33, 34, 35, 36, 37, 38, 39, 40, 41, 42, 43, 44, 45, 46, 47, 48] (by decide +kernel) (by decide +kernel)
set_option maxRecDepth 20000 in
theorem gX8_readsCell_X8_number : GoodIn wsX8_readsCell (wsV RX8 102 RX8 yX8_number wsX8_number) := goodIn_app (goodIn_of _ (by decide +kernel)) ggX8_readsCell_X8_number
set_option maxRecDepth 20000 in
theorem ggX8_readsCell_X8_more : GoodIn wsX8_readsCell wsX8_more := goodIn_r _ [22, 9, 11, 12, 13, 7, 14, 15, 10, 4, 5, 6, 8, 2, 16, 17, 18, 23, 24, 25, 26, 27, 28, 29, 30, 31, 32, 33, 34, 35, 36, 37, 38, 39, 40, 41, 42, 43, 44, 45, 46, 47, 48] (by decide +kernel) (by decide +kernel)
set_option maxRecDepth 20000 in
theorem gX8_readsCell_X8_more : GoodIn wsX8_readsCell (wsV RX8 105 RX8 yX8_more wsX8_more) := goodIn_app (goodIn_of _ (by decide +kernel)) ggX8_readsCell_X8_more
theorem dX8_readsCell_0 : decode cX8_readsCell 0 = .ok (.aload_n 0, 1) := by decide +kernel
theorem dX8_readsCell_1 : decode cX8_readsCell 1 = .ok (.iload_n 1, 1) := by decide +kernel
theorem dX8_readsCell_2 : decode cX8_readsCell 2 = .ok (.iconst 0, 1) := by decide +kernel
theorem dX8_readsCell_3 : decode cX8_readsCell 3 = .ok (.aload_n 0, 1) := by decide +kernel
theorem dX8_readsCell_4 : decode cX8_readsCell 4 = .ok (.getfield 62, 3) := by decide +kernel
theorem dX8_readsCell_7 : decode cX8_readsCell 7 = .ok (.iconst 1, 1) := by decide +kernel
theorem dX8_readsCell_8 : decode cX8_readsCell 8 = .ok (.isub, 1) := by decide +kernel
theorem dX8_readsCell_9 : decode cX8_readsCell 9 = .ok (.invokevirtual 102, 3) := by decide +kernel
theorem dX8_readsCell_12 : decode cX8_readsCell 12 = .ok (.ifCond .ne 5, 3) := by decide +kernel
theorem dX8_readsCell_15 : decode cX8_readsCell 15 = .ok (.iconst 0, 1) := by decide +kernel
theorem dX8_readsCell_16 : decode cX8_readsCell 16 = .ok (.ireturn, 1) := by decide +kernel
theorem dX8_readsCell_17 : decode cX8_readsCell 17 = .ok (.aload_n 0, 1) := by decide +kernel
theorem dX8_readsCell_18 : decode cX8_readsCell 18 = .ok (.getfield 88, 3) := by decide +kernel
theorem dX8_readsCell_21 : decode cX8_readsCell 21 = .ok (.istore_n 3, 1) := by decide +kernel
theorem dX8_readsCell_22 : decode cX8_readsCell 22 = .ok (.aload_n 0, 1) := by decide +kernel
theorem dX8_readsCell_23 : decode cX8_readsCell 23 = .ok (.iconst 0, 1) := by decide +kernel
theorem dX8_readsCell_24 : decode cX8_readsCell 24 = .ok (.iload_n 2, 1) := by decide +kernel
theorem dX8_readsCell_25 : decode cX8_readsCell 25 = .ok (.ifCond .ne 8, 3) := by decide +kernel
theorem dX8_readsCell_28 : decode cX8_readsCell 28 = .ok (.bipush 9, 2) := by decide +kernel
theorem dX8_readsCell_30 : decode cX8_readsCell 30 = .ok (.goto 4, 3) := by decide +kernel
theorem dX8_readsCell_33 : decode cX8_readsCell 33 = .ok (.iconst 5, 1) := by decide +kernel
theorem dX8_readsCell_34 : decode cX8_readsCell 34 = .ok (.invokevirtual 105, 3) := by decide +kernel
theorem dX8_readsCell_37 : decode cX8_readsCell 37 = .ok (.istore 4, 2) := by decide +kernel
theorem dX8_readsCell_39 : decode cX8_readsCell 39 = .ok (.aload_n 0, 1) := by decide +kernel
theorem dX8_readsCell_40 : decode cX8_readsCell 40 = .ok (.getfield 31, 3) := by decide +kernel
theorem dX8_readsCell_43 : decode cX8_readsCell 43 = .ok (.bipush 6, 2) := by decide +kernel
theorem dX8_readsCell_45 : decode cX8_readsCell 45 = .ok (.iload_n 2, 1) := by decide +kernel
theorem dX8_readsCell_46 : decode cX8_readsCell 46 = .ok (.imul, 1) := by decide +kernel
theorem dX8_readsCell_47 : decode cX8_readsCell 47 = .ok (.iload_n 3, 1) := by decide +kernel
theorem dX8_readsCell_48 : decode cX8_readsCell 48 = .ok (.iadd, 1) := by decide +kernel
theorem dX8_readsCell_49 : decode cX8_readsCell 49 = .ok (.aload_n 0, 1) := by decide +kernel
theorem dX8_readsCell_50 : decode cX8_readsCell 50 = .ok (.getfield 88, 3) := by decide +kernel
theorem dX8_readsCell_53 : decode cX8_readsCell 53 = .ok (.iastore, 1) := by decide +kernel
theorem dX8_readsCell_54 : decode cX8_readsCell 54 = .ok (.iload 4, 2) := by decide +kernel
theorem dX8_readsCell_56 : decode cX8_readsCell 56 = .ok (.ireturn, 1) := by decide +kernel
set_option maxRecDepth 20000 in
theorem ggX8_isLaw_X8_isIn : GoodIn wsX8_isLaw wsX8_isIn := goodIn_r _ [4] (by decide +kernel) (by decide +kernel)
set_option maxRecDepth 20000 in
theorem gX8_isLaw_X8_isIn : GoodIn wsX8_isLaw (va_wsS RX8 98 yX8_isIn wsX8_isIn) := goodIn_app (goodIn_of _ (by decide +kernel)) ggX8_isLaw_X8_isIn
theorem dX8_isLaw_0 : decode cX8_isLaw 0 = .ok (.iload_n 0, 1) := by decide +kernel
theorem dX8_isLaw_1 : decode cX8_isLaw 1 = .ok (.ifCond .ne 15, 3) := by decide +kernel
theorem dX8_isLaw_4 : decode cX8_isLaw 4 = .ok (.iload_n 1, 1) := by decide +kernel
theorem dX8_isLaw_5 : decode cX8_isLaw 5 = .ok (.ifCond .ne 7, 3) := by decide +kernel
theorem dX8_isLaw_8 : decode cX8_isLaw 8 = .ok (.iconst 1, 1) := by decide +kernel
theorem dX8_isLaw_9 : decode cX8_isLaw 9 = .ok (.goto 31, 3) := by decide +kernel
theorem dX8_isLaw_12 : decode cX8_isLaw 12 = .ok (.iconst 0, 1) := by decide +kernel
theorem dX8_isLaw_13 : decode cX8_isLaw 13 = .ok (.goto 27, 3) := by decide +kernel
theorem dX8_isLaw_16 : decode cX8_isLaw 16 = .ok (.iload_n 0, 1) := by decide +kernel
theorem dX8_isLaw_17 : decode cX8_isLaw 17 = .ok (.iconst 1, 1) := by decide +kernel
theorem dX8_isLaw_18 : decode cX8_isLaw 18 = .ok (.iconst 3, 1) := by decide +kernel
theorem dX8_isLaw_19 : decode cX8_isLaw 19 = .ok (.invokestatic 98, 3) := by decide +kernel
theorem dX8_isLaw_22 : decode cX8_isLaw 22 = .ok (.ifCond .eq 17, 3) := by decide +kernel
theorem dX8_isLaw_25 : decode cX8_isLaw 25 = .ok (.iload_n 1, 1) := by decide +kernel
theorem dX8_isLaw_26 : decode cX8_isLaw 26 = .ok (.iconst 1, 1) := by decide +kernel
theorem dX8_isLaw_27 : decode cX8_isLaw 27 = .ok (.bipush 9, 2) := by decide +kernel
theorem dX8_isLaw_29 : decode cX8_isLaw 29 = .ok (.invokestatic 98, 3) := by decide +kernel
theorem dX8_isLaw_32 : decode cX8_isLaw 32 = .ok (.ifCond .eq 7, 3) := by decide +kernel
theorem dX8_isLaw_35 : decode cX8_isLaw 35 = .ok (.iconst 1, 1) := by decide +kernel
theorem dX8_isLaw_36 : decode cX8_isLaw 36 = .ok (.goto 4, 3) := by decide +kernel
theorem dX8_isLaw_39 : decode cX8_isLaw 39 = .ok (.iconst 0, 1) := by decide +kernel
theorem dX8_isLaw_40 : decode cX8_isLaw 40 = .ok (.ireturn, 1) := by decide +kernel
set_option maxRecDepth 20000 in
theorem ggX8_readsLaw_X8_number : GoodIn wsX8_readsLaw wsX8_number := goodIn_r _ [7, 1, 8, 9, 10, 11, 12, 6, 13, 14, 15, 16, 17, 25, 26, 27, 28, 29, 30, 31, 32, 33, 34, 35, 36, 37, 38, 39, 40, 41, 42, 43, 44, 45, 46, 47, 48, 49, 50] (by decide +kernel) (by decide +kernel)
set_option maxRecDepth 20000 in
theorem gX8_readsLaw_X8_number : GoodIn wsX8_readsLaw (wsV RX8 102 RX8 yX8_number wsX8_number) := goodIn_app (goodIn_of _ (by decide +kernel)) ggX8_readsLaw_X8_number
set_option maxRecDepth 20000 in
theorem ggX8_readsLaw_X8_more : GoodIn wsX8_readsLaw wsX8_more := goodIn_r _ [21, 8, 10, 11, 12, 6, 13, 14, 9, 3, 4, 5, 7, 1, 15, 16, 17, 25, 26, 27, 28, 29, 30, 31, 32, 33, 34, 35, 36, 37, 38, 39, 40, 41, 42, 43, 44, 45, 46, 47, 48, 49, 50] (by decide +kernel) (by decide +kernel)
set_option maxRecDepth 20000 in
theorem gX8_readsLaw_X8_more : GoodIn wsX8_readsLaw (wsV RX8 105 RX8 yX8_more wsX8_more) := goodIn_app (goodIn_of _ (by decide +kernel)) ggX8_readsLaw_X8_more
set_option maxRecDepth 20000 in
theorem ggX8_readsLaw_X8_isLaw : GoodIn wsX8_readsLaw wsX8_isLaw := goodIn_r _ [24, 15, 16, 6, 17] (by decide +kernel) (by decide +kernel)
set_option maxRecDepth 20000 in
theorem gX8_readsLaw_X8_isLaw : GoodIn wsX8_readsLaw (va_wsS RX8 109 yX8_isLaw wsX8_isLaw) := goodIn_app (goodIn_of _ (by decide +kernel)) ggX8_readsLaw_X8_isLaw
theorem dX8_readsLaw_0 : decode cX8_readsLaw 0 = .ok (.aload_n 0, 1) := by decide +kernel
theorem dX8_readsLaw_1 : decode cX8_readsLaw 1 = .ok (.iload_n 1, 1) := by decide +kernel
theorem dX8_readsLaw_2 : decode cX8_readsLaw 2 = .ok (.iconst 0, 1) := by decide +kernel
theorem dX8_readsLaw_3 : decode cX8_readsLaw 3 = .ok (.iconst 3, 1) := by decide +kernel
theorem dX8_readsLaw_4 : decode cX8_readsLaw 4 = .ok (.invokevirtual 102, 3) := by decide +kernel
theorem dX8_readsLaw_7 : decode cX8_readsLaw 7 = .ok (.ifCond .ne 5, 3) := by decide +kernel
theorem dX8_readsLaw_10 : decode cX8_readsLaw 10 = .ok (.iconst 0, 1) := by decide +kernel
theorem dX8_readsLaw_11 : decode cX8_readsLaw 11 = .ok (.ireturn, 1) := by decide +kernel
theorem dX8_readsLaw_12 : decode cX8_readsLaw 12 = .ok (.aload_n 0, 1) := by decide +kernel
theorem dX8_readsLaw_13 : decode cX8_readsLaw 13 = .ok (.getfield 88, 3) := by decide +kernel
theorem dX8_readsLaw_16 : decode cX8_readsLaw 16 = .ok (.istore_n 2, 1) := by decide +kernel
theorem dX8_readsLaw_17 : decode cX8_readsLaw 17 = .ok (.aload_n 0, 1) := by decide +kernel
theorem dX8_readsLaw_18 : decode cX8_readsLaw 18 = .ok (.iconst 0, 1) := by decide +kernel
theorem dX8_readsLaw_19 : decode cX8_readsLaw 19 = .ok (.bipush 9, 2) := by decide +kernel
theorem dX8_readsLaw_21 : decode cX8_readsLaw 21 = .ok (.invokevirtual 105, 3) := by decide +kernel
theorem dX8_readsLaw_24 : decode cX8_readsLaw 24 = .ok (.ifCond .eq 18, 3) := by decide +kernel
theorem dX8_readsLaw_27 : decode cX8_readsLaw 27 = .ok (.iload_n 2, 1) := by decide +kernel
theorem dX8_readsLaw_28 : decode cX8_readsLaw 28 = .ok (.aload_n 0, 1) := by decide +kernel
theorem dX8_readsLaw_29 : decode cX8_readsLaw 29 = .ok (.getfield 88, 3) := by decide +kernel
theorem dX8_readsLaw_32 : decode cX8_readsLaw 32 = .ok (.invokestatic 109, 3) := by decide +kernel
theorem dX8_readsLaw_35 : decode cX8_readsLaw 35 = .ok (.ifCond .eq 7, 3) := by decide +kernel
theorem dX8_readsLaw_38 : decode cX8_readsLaw 38 = .ok (.iconst 1, 1) := by decide +kernel
theorem dX8_readsLaw_39 : decode cX8_readsLaw 39 = .ok (.goto 4, 3) := by decide +kernel
theorem dX8_readsLaw_42 : decode cX8_readsLaw 42 = .ok (.iconst 0, 1) := by decide +kernel
theorem dX8_readsLaw_43 : decode cX8_readsLaw 43 = .ok (.istore_n 3, 1) := by decide +kernel
theorem dX8_readsLaw_44 : decode cX8_readsLaw 44 = .ok (.aload_n 0, 1) := by decide +kernel
theorem dX8_readsLaw_45 : decode cX8_readsLaw 45 = .ok (.getfield 31, 3) := by decide +kernel
theorem dX8_readsLaw_48 : decode cX8_readsLaw 48 = .ok (.bipush 12, 2) := by decide +kernel
theorem dX8_readsLaw_50 : decode cX8_readsLaw 50 = .ok (.iload_n 2, 1) := by decide +kernel
theorem dX8_readsLaw_51 : decode cX8_readsLaw 51 = .ok (.iastore, 1) := by decide +kernel
theorem dX8_readsLaw_52 : decode cX8_readsLaw 52 = .ok (.aload_n 0, 1) := by decide +kernel
theorem dX8_readsLaw_53 : decode cX8_readsLaw 53 = .ok (.getfield 31, 3) := by decide +kernel
theorem dX8_readsLaw_56 : decode cX8_readsLaw 56 = .ok (.bipush 13, 2) := by decide +kernel
theorem dX8_readsLaw_58 : decode cX8_readsLaw 58 = .ok (.aload_n 0, 1) := by decide +kernel
theorem dX8_readsLaw_59 : decode cX8_readsLaw 59 = .ok (.getfield 88, 3) := by decide +kernel
theorem dX8_readsLaw_62 : decode cX8_readsLaw 62 = .ok (.iastore, 1) := by decide +kernel
theorem dX8_readsLaw_63 : decode cX8_readsLaw 63 = .ok (.iload_n 3, 1) := by decide +kernel
theorem dX8_readsLaw_64 : decode cX8_readsLaw 64 = .ok (.ireturn, 1) := by decide +kernel
set_option maxRecDepth 20000 in
theorem ggX8_readsPrice_X8_number : GoodIn wsX8_readsPrice wsX8_number := goodIn_r _ [7, 2, 8, 9, 10, 11, 12, 6, 13, 14, 15, 16, 17, 22, 23, 24, 25, 26, 27, 28, 29, 30, 31, 32, 33, 34, 35, 36, 37, 38, 39, 40, 41, 42, 43, 44, 45, 46, 47] (by decide +kernel) (by decide +kernel)
set_option maxRecDepth 20000 in
theorem gX8_readsPrice_X8_number : GoodIn wsX8_readsPrice (wsV RX8 102 RX8 yX8_number wsX8_number) := goodIn_app (goodIn_of _ (by decide +kernel)) ggX8_readsPrice_X8_number
set_option maxRecDepth 20000 in
theorem ggX8_readsPrice_X8_more : GoodIn wsX8_readsPrice wsX8_more := goodIn_r _ [21, 8, 10, 11, 12, 6, 13, 14, 9, 3, 4, 5, 7, 2, 15, 16, 17, 22, 23, 24, 25, 26, 27, 28, 29, 30, 31, 32, 33, 34, 35, 36, 37, 38, 39, 40, 41, 42, 43, 44, 45, 46, 47] (by decide +kernel) (by decide +kernel)
set_option maxRecDepth 20000 in
theorem gX8_readsPrice_X8_more : GoodIn wsX8_readsPrice (wsV RX8 105 RX8 yX8_more wsX8_more) := goodIn_app (goodIn_of _ (by decide +kernel)) ggX8_readsPrice_X8_more
theorem dX8_readsPrice_0 : decode cX8_readsPrice 0 = .ok (.iconst 0, 1) := by decide +kernel
theorem dX8_readsPrice_1 : decode cX8_readsPrice 1 = .ok (.istore_n 2, 1) := by decide +kernel
theorem dX8_readsPrice_2 : decode cX8_readsPrice 2 = .ok (.iload_n 2, 1) := by decide +kernel
theorem dX8_readsPrice_3 : decode cX8_readsPrice 3 = .ok (.iconst 4, 1) := by decide +kernel
theorem dX8_readsPrice_4 : decode cX8_readsPrice 4 = .ok (.if_icmp .ge 71, 3) := by decide +kernel
theorem dX8_readsPrice_7 : decode cX8_readsPrice 7 = .ok (.iload_n 2, 1) := by decide +kernel
theorem dX8_readsPrice_8 : decode cX8_readsPrice 8 = .ok (.ifCond .ne 7, 3) := by decide +kernel
theorem dX8_readsPrice_11 : decode cX8_readsPrice 11 = .ok (.iconst 1, 1) := by decide +kernel
theorem dX8_readsPrice_12 : decode cX8_readsPrice 12 = .ok (.goto 4, 3) := by decide +kernel
theorem dX8_readsPrice_15 : decode cX8_readsPrice 15 = .ok (.iconst 0, 1) := by decide +kernel
theorem dX8_readsPrice_16 : decode cX8_readsPrice 16 = .ok (.istore_n 3, 1) := by decide +kernel
theorem dX8_readsPrice_17 : decode cX8_readsPrice 17 = .ok (.iload_n 2, 1) := by decide +kernel
theorem dX8_readsPrice_18 : decode cX8_readsPrice 18 = .ok (.ifCond .ne 7, 3) := by decide +kernel
theorem dX8_readsPrice_21 : decode cX8_readsPrice 21 = .ok (.iconst 4, 1) := by decide +kernel
theorem dX8_readsPrice_22 : decode cX8_readsPrice 22 = .ok (.goto 5, 3) := by decide +kernel
theorem dX8_readsPrice_25 : decode cX8_readsPrice 25 = .ok (.bipush 99, 2) := by decide +kernel
theorem dX8_readsPrice_27 : decode cX8_readsPrice 27 = .ok (.istore 4, 2) := by decide +kernel
theorem dX8_readsPrice_29 : decode cX8_readsPrice 29 = .ok (.iload_n 2, 1) := by decide +kernel
theorem dX8_readsPrice_30 : decode cX8_readsPrice 30 = .ok (.ifCond .ne 17, 3) := by decide +kernel
theorem dX8_readsPrice_33 : decode cX8_readsPrice 33 = .ok (.aload_n 0, 1) := by decide +kernel
theorem dX8_readsPrice_34 : decode cX8_readsPrice 34 = .ok (.iload_n 1, 1) := by decide +kernel
theorem dX8_readsPrice_35 : decode cX8_readsPrice 35 = .ok (.iload_n 3, 1) := by decide +kernel
theorem dX8_readsPrice_36 : decode cX8_readsPrice 36 = .ok (.iload 4, 2) := by decide +kernel
theorem dX8_readsPrice_38 : decode cX8_readsPrice 38 = .ok (.invokevirtual 102, 3) := by decide +kernel
theorem dX8_readsPrice_41 : decode cX8_readsPrice 41 = .ok (.ifCond .eq 16, 3) := by decide +kernel
theorem dX8_readsPrice_44 : decode cX8_readsPrice 44 = .ok (.goto 15, 3) := by decide +kernel
theorem dX8_readsPrice_47 : decode cX8_readsPrice 47 = .ok (.aload_n 0, 1) := by decide +kernel
theorem dX8_readsPrice_48 : decode cX8_readsPrice 48 = .ok (.iload_n 3, 1) := by decide +kernel
theorem dX8_readsPrice_49 : decode cX8_readsPrice 49 = .ok (.iload 4, 2) := by decide +kernel
theorem dX8_readsPrice_51 : decode cX8_readsPrice 51 = .ok (.invokevirtual 105, 3) := by decide +kernel
theorem dX8_readsPrice_54 : decode cX8_readsPrice 54 = .ok (.ifCond .ne 5, 3) := by decide +kernel
theorem dX8_readsPrice_57 : decode cX8_readsPrice 57 = .ok (.iconst 0, 1) := by decide +kernel
theorem dX8_readsPrice_58 : decode cX8_readsPrice 58 = .ok (.ireturn, 1) := by decide +kernel
theorem dX8_readsPrice_59 : decode cX8_readsPrice 59 = .ok (.aload_n 0, 1) := by decide +kernel
theorem dX8_readsPrice_60 : decode cX8_readsPrice 60 = .ok (.getfield 28, 3) := by decide +kernel
theorem dX8_readsPrice_63 : decode cX8_readsPrice 63 = .ok (.iload_n 2, 1) := by decide +kernel
theorem dX8_readsPrice_64 : decode cX8_readsPrice 64 = .ok (.aload_n 0, 1) := by decide +kernel
theorem dX8_readsPrice_65 : decode cX8_readsPrice 65 = .ok (.getfield 88, 3) := by decide +kernel
theorem dX8_readsPrice_68 : decode cX8_readsPrice 68 = .ok (.iastore, 1) := by decide +kernel
theorem dX8_readsPrice_69 : decode cX8_readsPrice 69 = .ok (.iinc 2 1, 3) := by decide +kernel
theorem dX8_readsPrice_72 : decode cX8_readsPrice 72 = .ok (.goto (-70), 3) := by decide +kernel
theorem dX8_readsPrice_75 : decode cX8_readsPrice 75 = .ok (.iconst 1, 1) := by decide +kernel
theorem dX8_readsPrice_76 : decode cX8_readsPrice 76 = .ok (.ireturn, 1) := by decide +kernel
set_option maxRecDepth 20000 in
theorem ggX8_readsItem_X8_number : GoodIn wsX8_readsItem wsX8_number := goodIn_r _ [7, 1, 8, 9, 10, 11, 12, 6, 13, 14, 15, 16, 17, 49, 50, 51, 52, 53, 54, 55, 56, 57, 58, 59, 60, 61, 62, 63, 64, 65, 66, 67, 68, 69, 70, 71, 72, 73, 74] (by decide +kernel) (by decide +kernel)
set_option maxRecDepth 20000 in
theorem gX8_readsItem_X8_number : GoodIn wsX8_readsItem (wsV RX8 102 RX8 yX8_number wsX8_number) := goodIn_app (goodIn_of _ (by decide +kernel)) ggX8_readsItem_X8_number
set_option maxRecDepth 20000 in
theorem ggX8_readsItem_X8_readsJoin : GoodIn wsX8_readsItem wsX8_readsJoin := goodIn_r _ [21, 2, 1, 22, 3, 4, 5, 6, 7, 8, 9, 10, 11, 12, 13, 14, 15, 16, 17, 23, 24, 25, 26, 27, 28, 29, 30, 31, 49, 50, 51, 52, 53, 54, 55, 56, 57, 58, 59, 60, 61, 62, 63, 64, 65, 66, 67, 68, 69, 70, 71, 72, 73, 74] (by decide +kernel) (by decide +kernel)
set_option maxRecDepth 20000 in
theorem gX8_readsItem_X8_readsJoin : GoodIn wsX8_readsItem (wsV RX8 112 RX8 yX8_readsJoin wsX8_readsJoin) := goodIn_app (goodIn_of _ (by decide +kernel)) ggX8_readsItem_X8_readsJoin
set_option maxRecDepth 20000 in
theorem ggX8_readsItem_X8_readsCell : GoodIn wsX8_readsItem wsX8_readsCell := goodIn_r _ [35, 2, 1, 36, 3, 4, 5, 6, 7, 8, 9, 10, 11, 12, 13, 14, 15, 16, 17, 23, 24, 25, 26, 49, 50, 51, 52, 53, 54, 55, 56, 57, 58, 59, 60, 61, 62, 63, 64, 65, 66, 67, 68, 69, 70, 71, 72, 73, 74] (by decide +kernel) (by decide +kernel)
set_option maxRecDepth 20000 in
theorem gX8_readsItem_X8_readsCell : GoodIn wsX8_readsItem (wsV RX8 116 RX8 yX8_readsCell wsX8_readsCell) := goodIn_app (goodIn_of _ (by decide +kernel)) ggX8_readsItem_X8_readsCell
set_option maxRecDepth 20000 in
theorem ggX8_readsItem_X8_readsLaw : GoodIn wsX8_readsItem wsX8_readsLaw := goodIn_r _ [40, 1, 36, 3, 4, 5, 6, 7, 8, 9, 10, 11, 12, 13, 14, 15, 16, 17, 23, 24, 25, 26, 41, 42, 43, 49, 50, 51, 52, 53, 54, 55, 56, 57, 58, 59, 60, 61, 62, 63, 64, 65, 66, 67, 68, 69, 70, 71, 72, 73, 74] (by decide +kernel) (by decide +kernel)
set_option maxRecDepth 20000 in
theorem gX8_readsItem_X8_readsLaw : GoodIn wsX8_readsItem (wsV RX8 119 RX8 yX8_readsLaw wsX8_readsLaw) := goodIn_app (goodIn_of _ (by decide +kernel)) ggX8_readsItem_X8_readsLaw
set_option maxRecDepth 20000 in
theorem ggX8_readsItem_X8_readsPrice : GoodIn wsX8_readsItem wsX8_readsPrice := goodIn_r _ [47, 48, 1, 3, 4, 5, 6, 7, 8, 9, 10, 11, 12, 13, 14, 15, 16, 17, 23, 24, 25, 26, 49, 50, 51, 52, 53, 54, 55, 56, 57, 58, 59, 60, 61, 62, 63, 64, 65, 66, 67, 68, 69, 70, 71, 72, 73, 74] (by decide +kernel) (by decide +kernel)
set_option maxRecDepth 20000 in
theorem gX8_readsItem_X8_readsPrice : GoodIn wsX8_readsItem (wsV RX8 122 RX8 yX8_readsPrice wsX8_readsPrice) := goodIn_app (goodIn_of _ (by decide +kernel)) ggX8_readsItem_X8_readsPrice
theorem dX8_readsItem_0 : decode cX8_readsItem 0 = .ok (.iload_n 1, 1) := by decide +kernel
theorem dX8_readsItem_1 : decode cX8_readsItem 1 = .ok (.bipush 110, 2) := by decide +kernel
theorem dX8_readsItem_3 : decode cX8_readsItem 3 = .ok (.if_icmp .ne 46, 3) := by decide +kernel
theorem dX8_readsItem_6 : decode cX8_readsItem 6 = .ok (.iload_n 2, 1) := by decide +kernel
theorem dX8_readsItem_7 : decode cX8_readsItem 7 = .ok (.iconst 1, 1) := by decide +kernel
theorem dX8_readsItem_8 : decode cX8_readsItem 8 = .ok (.if_icmp .ne 18, 3) := by decide +kernel
theorem dX8_readsItem_11 : decode cX8_readsItem 11 = .ok (.aload_n 0, 1) := by decide +kernel
theorem dX8_readsItem_12 : decode cX8_readsItem 12 = .ok (.iload_n 2, 1) := by decide +kernel
theorem dX8_readsItem_13 : decode cX8_readsItem 13 = .ok (.iconst 2, 1) := by decide +kernel
theorem dX8_readsItem_14 : decode cX8_readsItem 14 = .ok (.bipush 6, 2) := by decide +kernel
theorem dX8_readsItem_16 : decode cX8_readsItem 16 = .ok (.invokevirtual 102, 3) := by decide +kernel
theorem dX8_readsItem_19 : decode cX8_readsItem 19 = .ok (.ifCond .eq 7, 3) := by decide +kernel
theorem dX8_readsItem_22 : decode cX8_readsItem 22 = .ok (.iconst 1, 1) := by decide +kernel
theorem dX8_readsItem_23 : decode cX8_readsItem 23 = .ok (.goto 4, 3) := by decide +kernel
theorem dX8_readsItem_26 : decode cX8_readsItem 26 = .ok (.iconst 0, 1) := by decide +kernel
theorem dX8_readsItem_27 : decode cX8_readsItem 27 = .ok (.istore_n 3, 1) := by decide +kernel
theorem dX8_readsItem_28 : decode cX8_readsItem 28 = .ok (.aload_n 0, 1) := by decide +kernel
theorem dX8_readsItem_29 : decode cX8_readsItem 29 = .ok (.iload_n 3, 1) := by decide +kernel
theorem dX8_readsItem_30 : decode cX8_readsItem 30 = .ok (.ifCond .eq 10, 3) := by decide +kernel
theorem dX8_readsItem_33 : decode cX8_readsItem 33 = .ok (.aload_n 0, 1) := by decide +kernel
theorem dX8_readsItem_34 : decode cX8_readsItem 34 = .ok (.getfield 88, 3) := by decide +kernel
theorem dX8_readsItem_37 : decode cX8_readsItem 37 = .ok (.goto 7, 3) := by decide +kernel
theorem dX8_readsItem_40 : decode cX8_readsItem 40 = .ok (.aload_n 0, 1) := by decide +kernel
theorem dX8_readsItem_41 : decode cX8_readsItem 41 = .ok (.getfield 62, 3) := by decide +kernel
theorem dX8_readsItem_44 : decode cX8_readsItem 44 = .ok (.putfield 62, 3) := by decide +kernel
theorem dX8_readsItem_47 : decode cX8_readsItem 47 = .ok (.iload_n 3, 1) := by decide +kernel
theorem dX8_readsItem_48 : decode cX8_readsItem 48 = .ok (.ireturn, 1) := by decide +kernel
theorem dX8_readsItem_49 : decode cX8_readsItem 49 = .ok (.aload_n 0, 1) := by decide +kernel
theorem dX8_readsItem_50 : decode cX8_readsItem 50 = .ok (.getfield 62, 3) := by decide +kernel
theorem dX8_readsItem_53 : decode cX8_readsItem 53 = .ok (.ifCond .ne 5, 3) := by decide +kernel
theorem dX8_readsItem_56 : decode cX8_readsItem 56 = .ok (.iconst 0, 1) := by decide +kernel
theorem dX8_readsItem_57 : decode cX8_readsItem 57 = .ok (.ireturn, 1) := by decide +kernel
theorem dX8_readsItem_58 : decode cX8_readsItem 58 = .ok (.iload_n 1, 1) := by decide +kernel
theorem dX8_readsItem_59 : decode cX8_readsItem 59 = .ok (.lookupswitch 81 #[(97, 62), (106, 49), (108, 69), (112, 75), (115, 55)], 49) := by decide +kernel
theorem dX8_readsItem_108 : decode cX8_readsItem 108 = .ok (.aload_n 0, 1) := by decide +kernel
theorem dX8_readsItem_109 : decode cX8_readsItem 109 = .ok (.iload_n 2, 1) := by decide +kernel
theorem dX8_readsItem_110 : decode cX8_readsItem 110 = .ok (.invokevirtual 112, 3) := by decide +kernel
theorem dX8_readsItem_113 : decode cX8_readsItem 113 = .ok (.ireturn, 1) := by decide +kernel
theorem dX8_readsItem_114 : decode cX8_readsItem 114 = .ok (.aload_n 0, 1) := by decide +kernel
theorem dX8_readsItem_115 : decode cX8_readsItem 115 = .ok (.iload_n 2, 1) := by decide +kernel
theorem dX8_readsItem_116 : decode cX8_readsItem 116 = .ok (.iconst 0, 1) := by decide +kernel
theorem dX8_readsItem_117 : decode cX8_readsItem 117 = .ok (.invokevirtual 116, 3) := by decide +kernel
theorem dX8_readsItem_120 : decode cX8_readsItem 120 = .ok (.ireturn, 1) := by decide +kernel
theorem dX8_readsItem_121 : decode cX8_readsItem 121 = .ok (.aload_n 0, 1) := by decide +kernel
theorem dX8_readsItem_122 : decode cX8_readsItem 122 = .ok (.iload_n 2, 1) := by decide +kernel
theorem dX8_readsItem_123 : decode cX8_readsItem 123 = .ok (.iconst 1, 1) := by decide +kernel
theorem dX8_readsItem_124 : decode cX8_readsItem 124 = .ok (.invokevirtual 116, 3) := by decide +kernel
theorem dX8_readsItem_127 : decode cX8_readsItem 127 = .ok (.ireturn, 1) := by decide +kernel
theorem dX8_readsItem_128 : decode cX8_readsItem 128 = .ok (.aload_n 0, 1) := by decide +kernel
theorem dX8_readsItem_129 : decode cX8_readsItem 129 = .ok (.iload_n 2, 1) := by decide +kernel
theorem dX8_readsItem_130 : decode cX8_readsItem 130 = .ok (.invokevirtual 119, 3) := by decide +kernel
theorem dX8_readsItem_133 : decode cX8_readsItem 133 = .ok (.ireturn, 1) := by decide +kernel
theorem dX8_readsItem_134 : decode cX8_readsItem 134 = .ok (.aload_n 0, 1) := by decide +kernel
theorem dX8_readsItem_135 : decode cX8_readsItem 135 = .ok (.iload_n 2, 1) := by decide +kernel
theorem dX8_readsItem_136 : decode cX8_readsItem 136 = .ok (.invokevirtual 122, 3) := by decide +kernel
theorem dX8_readsItem_139 : decode cX8_readsItem 139 = .ok (.ireturn, 1) := by decide +kernel
theorem dX8_readsItem_140 : decode cX8_readsItem 140 = .ok (.iconst 0, 1) := by decide +kernel
theorem dX8_readsItem_141 : decode cX8_readsItem 141 = .ok (.ireturn, 1) := by decide +kernel
set_option maxRecDepth 20000 in
theorem ggX8_reads_X8_clears : GoodIn wsX8_reads wsX8_clears := goodIn_r _ [8, 9, 10, 11, 12, 13, 57, 58, 59, 60, 61, 62, 63, 64, 65, 66, 67, 68, 69, 70, 71, 72, 73, 74, 75, 76, 77, 78, 79, 80, 81, 82] (by decide +kernel) (by decide +kernel)
set_option maxRecDepth 20000 in
theorem gX8_reads_X8_clears : GoodIn wsX8_reads (wsV RX8 59 RX8 yX8_clears wsX8_clears) := goodIn_app (goodIn_of _ (by decide +kernel)) ggX8_reads_X8_clears
set_option maxRecDepth 20000 in
theorem ggX8_reads_X8_readsItem : GoodIn wsX8_reads wsX8_readsItem := goodIn_r _ [17, 18, 9, 19, 20, 21, 7, 22, 3, 2, 23, 24, 25, 26, 1, 27, 28, 29, 30, 31, 32, 33, 11, 34, 35, 36, 37, 38, 39, 40, 41, 10, 42, 43, 44, 45, 12, 46, 47, 48, 49, 50, 51, 52, 53, 54, 55, 56, 13, 57, 58, 59, 60, 61, 62, 63, 64, 65, 66, 67, 68, 69, 70, 71, 72, 73, 74, 75, 76, 77, 78, 79, 80, 81, 82] (by decide +kernel) (by decide +kernel)
set_option maxRecDepth 20000 in
theorem gX8_reads_X8_readsItem : GoodIn wsX8_reads (wsV RX8 125 RX8 yX8_readsItem wsX8_readsItem) := goodIn_app (goodIn_of _ (by decide +kernel)) ggX8_reads_X8_readsItem
set_option maxRecDepth 20000 in
theorem ggX8_reads_X8_letterAt : GoodIn wsX8_reads wsX8_letterAt := goodIn_r _ [26, 1, 2, 57, 58, 59, 60, 61, 62, 63, 64, 65, 66, 67, 68, 69, 70, 71, 72, 73, 74, 75, 76, 77, 78, 79, 80, 81, 82] (by decide +kernel) (by decide +kernel)
set_option maxRecDepth 20000 in
theorem gX8_reads_X8_letterAt : GoodIn wsX8_reads (wsV RX8 94 RX8 yX8_letterAt wsX8_letterAt) := goodIn_app (goodIn_of _ (by decide +kernel)) ggX8_reads_X8_letterAt
theorem dX8_reads_0 : decode cX8_reads 0 = .ok (.aload_n 0, 1) := by decide +kernel
theorem dX8_reads_1 : decode cX8_reads 1 = .ok (.invokevirtual 59, 3) := by decide +kernel
theorem dX8_reads_4 : decode cX8_reads 4 = .ok (.iconst 0, 1) := by decide +kernel
theorem dX8_reads_5 : decode cX8_reads 5 = .ok (.istore_n 1, 1) := by decide +kernel
theorem dX8_reads_6 : decode cX8_reads 6 = .ok (.iload_n 1, 1) := by decide +kernel
theorem dX8_reads_7 : decode cX8_reads 7 = .ok (.aload_n 0, 1) := by decide +kernel
theorem dX8_reads_8 : decode cX8_reads 8 = .ok (.getfield 85, 3) := by decide +kernel
theorem dX8_reads_11 : decode cX8_reads 11 = .ok (.if_icmp .ge 44, 3) := by decide +kernel
theorem dX8_reads_14 : decode cX8_reads 14 = .ok (.aload_n 0, 1) := by decide +kernel
theorem dX8_reads_15 : decode cX8_reads 15 = .ok (.aload_n 0, 1) := by decide +kernel
theorem dX8_reads_16 : decode cX8_reads 16 = .ok (.getfield 7, 3) := by decide +kernel
theorem dX8_reads_19 : decode cX8_reads 19 = .ok (.iload_n 1, 1) := by decide +kernel
theorem dX8_reads_20 : decode cX8_reads 20 = .ok (.iaload, 1) := by decide +kernel
theorem dX8_reads_21 : decode cX8_reads 21 = .ok (.iload_n 1, 1) := by decide +kernel
theorem dX8_reads_22 : decode cX8_reads 22 = .ok (.iconst 1, 1) := by decide +kernel
theorem dX8_reads_23 : decode cX8_reads 23 = .ok (.iadd, 1) := by decide +kernel
theorem dX8_reads_24 : decode cX8_reads 24 = .ok (.invokevirtual 125, 3) := by decide +kernel
theorem dX8_reads_27 : decode cX8_reads 27 = .ok (.ifCond .eq 16, 3) := by decide +kernel
theorem dX8_reads_30 : decode cX8_reads 30 = .ok (.aload_n 0, 1) := by decide +kernel
theorem dX8_reads_31 : decode cX8_reads 31 = .ok (.aload_n 0, 1) := by decide +kernel
theorem dX8_reads_32 : decode cX8_reads 32 = .ok (.getfield 91, 3) := by decide +kernel
theorem dX8_reads_35 : decode cX8_reads 35 = .ok (.invokevirtual 94, 3) := by decide +kernel
theorem dX8_reads_38 : decode cX8_reads 38 = .ok (.bipush 59, 2) := by decide +kernel
theorem dX8_reads_40 : decode cX8_reads 40 = .ok (.if_icmp .eq 5, 3) := by decide +kernel
theorem dX8_reads_43 : decode cX8_reads 43 = .ok (.iload_n 1, 1) := by decide +kernel
theorem dX8_reads_44 : decode cX8_reads 44 = .ok (.ireturn, 1) := by decide +kernel
theorem dX8_reads_45 : decode cX8_reads 45 = .ok (.aload_n 0, 1) := by decide +kernel
theorem dX8_reads_46 : decode cX8_reads 46 = .ok (.getfield 91, 3) := by decide +kernel
theorem dX8_reads_49 : decode cX8_reads 49 = .ok (.iconst 1, 1) := by decide +kernel
theorem dX8_reads_50 : decode cX8_reads 50 = .ok (.iadd, 1) := by decide +kernel
theorem dX8_reads_51 : decode cX8_reads 51 = .ok (.istore_n 1, 1) := by decide +kernel
theorem dX8_reads_52 : decode cX8_reads 52 = .ok (.goto (-46), 3) := by decide +kernel
theorem dX8_reads_55 : decode cX8_reads 55 = .ok (.bipush (-4), 2) := by decide +kernel
theorem dX8_reads_57 : decode cX8_reads 57 = .ok (.ireturn, 1) := by decide +kernel
theorem dX8_hang_0 : decode cX8_hang 0 = .ok (.iconst 1, 1) := by decide +kernel
theorem dX8_hang_1 : decode cX8_hang 1 = .ok (.istore_n 1, 1) := by decide +kernel
theorem dX8_hang_2 : decode cX8_hang 2 = .ok (.iconst 0, 1) := by decide +kernel
theorem dX8_hang_3 : decode cX8_hang 3 = .ok (.istore_n 2, 1) := by decide +kernel
theorem dX8_hang_4 : decode cX8_hang 4 = .ok (.iload_n 2, 1) := by decide +kernel
theorem dX8_hang_5 : decode cX8_hang 5 = .ok (.aload_n 0, 1) := by decide +kernel
theorem dX8_hang_6 : decode cX8_hang 6 = .ok (.getfield 62, 3) := by decide +kernel
theorem dX8_hang_9 : decode cX8_hang 9 = .ok (.if_icmp .ge 57, 3) := by decide +kernel
theorem dX8_hang_12 : decode cX8_hang 12 = .ok (.iconst 0, 1) := by decide +kernel
theorem dX8_hang_13 : decode cX8_hang 13 = .ok (.istore_n 3, 1) := by decide +kernel
theorem dX8_hang_14 : decode cX8_hang 14 = .ok (.iload_n 3, 1) := by decide +kernel
theorem dX8_hang_15 : decode cX8_hang 15 = .ok (.bipush 36, 2) := by decide +kernel
theorem dX8_hang_17 : decode cX8_hang 17 = .ok (.if_icmp .ge 43, 3) := by decide +kernel
theorem dX8_hang_20 : decode cX8_hang 20 = .ok (.iload_n 1, 1) := by decide +kernel
theorem dX8_hang_21 : decode cX8_hang 21 = .ok (.aload_n 0, 1) := by decide +kernel
theorem dX8_hang_22 : decode cX8_hang 22 = .ok (.getfield 25, 3) := by decide +kernel
theorem dX8_hang_25 : decode cX8_hang 25 = .ok (.iload_n 3, 1) := by decide +kernel
theorem dX8_hang_26 : decode cX8_hang 26 = .ok (.iaload, 1) := by decide +kernel
theorem dX8_hang_27 : decode cX8_hang 27 = .ok (.ifCond .le 24, 3) := by decide +kernel
theorem dX8_hang_30 : decode cX8_hang 30 = .ok (.iload_n 1, 1) := by decide +kernel
theorem dX8_hang_31 : decode cX8_hang 31 = .ok (.iload_n 3, 1) := by decide +kernel
theorem dX8_hang_32 : decode cX8_hang 32 = .ok (.bipush 6, 2) := by decide +kernel
theorem dX8_hang_34 : decode cX8_hang 34 = .ok (.idiv, 1) := by decide +kernel
theorem dX8_hang_35 : decode cX8_hang 35 = .ok (.ishr, 1) := by decide +kernel
theorem dX8_hang_36 : decode cX8_hang 36 = .ok (.iconst 1, 1) := by decide +kernel
theorem dX8_hang_37 : decode cX8_hang 37 = .ok (.iand, 1) := by decide +kernel
theorem dX8_hang_38 : decode cX8_hang 38 = .ok (.iconst 1, 1) := by decide +kernel
theorem dX8_hang_39 : decode cX8_hang 39 = .ok (.if_icmp .ne 12, 3) := by decide +kernel
theorem dX8_hang_42 : decode cX8_hang 42 = .ok (.iconst 1, 1) := by decide +kernel
theorem dX8_hang_43 : decode cX8_hang 43 = .ok (.iload_n 3, 1) := by decide +kernel
theorem dX8_hang_44 : decode cX8_hang 44 = .ok (.bipush 6, 2) := by decide +kernel
theorem dX8_hang_46 : decode cX8_hang 46 = .ok (.irem, 1) := by decide +kernel
theorem dX8_hang_47 : decode cX8_hang 47 = .ok (.ishl, 1) := by decide +kernel
theorem dX8_hang_48 : decode cX8_hang 48 = .ok (.goto 4, 3) := by decide +kernel
theorem dX8_hang_51 : decode cX8_hang 51 = .ok (.iconst 0, 1) := by decide +kernel
theorem dX8_hang_52 : decode cX8_hang 52 = .ok (.ior, 1) := by decide +kernel
theorem dX8_hang_53 : decode cX8_hang 53 = .ok (.istore_n 1, 1) := by decide +kernel
theorem dX8_hang_54 : decode cX8_hang 54 = .ok (.iinc 3 1, 3) := by decide +kernel
theorem dX8_hang_57 : decode cX8_hang 57 = .ok (.goto (-43), 3) := by decide +kernel
theorem dX8_hang_60 : decode cX8_hang 60 = .ok (.iinc 2 1, 3) := by decide +kernel
theorem dX8_hang_63 : decode cX8_hang 63 = .ok (.goto (-59), 3) := by decide +kernel
theorem dX8_hang_66 : decode cX8_hang 66 = .ok (.aload_n 0, 1) := by decide +kernel
theorem dX8_hang_67 : decode cX8_hang 67 = .ok (.getfield 62, 3) := by decide +kernel
theorem dX8_hang_70 : decode cX8_hang 70 = .ok (.ifCond .le 19, 3) := by decide +kernel
theorem dX8_hang_73 : decode cX8_hang 73 = .ok (.iload_n 1, 1) := by decide +kernel
theorem dX8_hang_74 : decode cX8_hang 74 = .ok (.iconst 1, 1) := by decide +kernel
theorem dX8_hang_75 : decode cX8_hang 75 = .ok (.aload_n 0, 1) := by decide +kernel
theorem dX8_hang_76 : decode cX8_hang 76 = .ok (.getfield 62, 3) := by decide +kernel
theorem dX8_hang_79 : decode cX8_hang 79 = .ok (.ishl, 1) := by decide +kernel
theorem dX8_hang_80 : decode cX8_hang 80 = .ok (.iconst 1, 1) := by decide +kernel
theorem dX8_hang_81 : decode cX8_hang 81 = .ok (.isub, 1) := by decide +kernel
theorem dX8_hang_82 : decode cX8_hang 82 = .ok (.if_icmp .ne 7, 3) := by decide +kernel
theorem dX8_hang_85 : decode cX8_hang 85 = .ok (.iconst 1, 1) := by decide +kernel
theorem dX8_hang_86 : decode cX8_hang 86 = .ok (.goto 4, 3) := by decide +kernel
theorem dX8_hang_89 : decode cX8_hang 89 = .ok (.iconst 0, 1) := by decide +kernel
theorem dX8_hang_90 : decode cX8_hang 90 = .ok (.ireturn, 1) := by decide +kernel
theorem dX8_write_0 : decode cX8_write 0 = .ok (.iload_n 1, 1) := by decide +kernel
theorem dX8_write_1 : decode cX8_write 1 = .ok (.bipush 32, 2) := by decide +kernel
theorem dX8_write_3 : decode cX8_write 3 = .ok (.if_icmp .lt 9, 3) := by decide +kernel
theorem dX8_write_6 : decode cX8_write 6 = .ok (.iload_n 1, 1) := by decide +kernel
theorem dX8_write_7 : decode cX8_write 7 = .ok (.bipush 126, 2) := by decide +kernel
theorem dX8_write_9 : decode cX8_write 9 = .ok (.if_icmp .le 5, 3) := by decide +kernel
theorem dX8_write_12 : decode cX8_write 12 = .ok (.iconst (-1), 1) := by decide +kernel
theorem dX8_write_13 : decode cX8_write 13 = .ok (.ireturn, 1) := by decide +kernel
theorem dX8_write_14 : decode cX8_write 14 = .ok (.aload_n 0, 1) := by decide +kernel
theorem dX8_write_15 : decode cX8_write 15 = .ok (.getfield 85, 3) := by decide +kernel
theorem dX8_write_18 : decode cX8_write 18 = .ok (.sipush 200, 3) := by decide +kernel
theorem dX8_write_21 : decode cX8_write 21 = .ok (.if_icmp .ne 6, 3) := by decide +kernel
theorem dX8_write_24 : decode cX8_write 24 = .ok (.bipush (-3), 2) := by decide +kernel
theorem dX8_write_26 : decode cX8_write 26 = .ok (.ireturn, 1) := by decide +kernel
theorem dX8_write_27 : decode cX8_write 27 = .ok (.aload_n 0, 1) := by decide +kernel
theorem dX8_write_28 : decode cX8_write 28 = .ok (.getfield 7, 3) := by decide +kernel
theorem dX8_write_31 : decode cX8_write 31 = .ok (.aload_n 0, 1) := by decide +kernel
theorem dX8_write_32 : decode cX8_write 32 = .ok (.getfield 85, 3) := by decide +kernel
theorem dX8_write_35 : decode cX8_write 35 = .ok (.iload_n 1, 1) := by decide +kernel
theorem dX8_write_36 : decode cX8_write 36 = .ok (.iastore, 1) := by decide +kernel
theorem dX8_write_37 : decode cX8_write 37 = .ok (.aload_n 0, 1) := by decide +kernel
theorem dX8_write_38 : decode cX8_write 38 = .ok (.dup, 1) := by decide +kernel
theorem dX8_write_39 : decode cX8_write 39 = .ok (.getfield 85, 3) := by decide +kernel
theorem dX8_write_42 : decode cX8_write 42 = .ok (.iconst 1, 1) := by decide +kernel
theorem dX8_write_43 : decode cX8_write 43 = .ok (.iadd, 1) := by decide +kernel
theorem dX8_write_44 : decode cX8_write 44 = .ok (.putfield 85, 3) := by decide +kernel
theorem dX8_write_47 : decode cX8_write 47 = .ok (.aload_n 0, 1) := by decide +kernel
theorem dX8_write_48 : decode cX8_write 48 = .ok (.getfield 85, 3) := by decide +kernel
theorem dX8_write_51 : decode cX8_write 51 = .ok (.ireturn, 1) := by decide +kernel
theorem dX8_wipe_0 : decode cX8_wipe 0 = .ok (.aload_n 0, 1) := by decide +kernel
theorem dX8_wipe_1 : decode cX8_wipe 1 = .ok (.getfield 85, 3) := by decide +kernel
theorem dX8_wipe_4 : decode cX8_wipe 4 = .ok (.istore_n 1, 1) := by decide +kernel
theorem dX8_wipe_5 : decode cX8_wipe 5 = .ok (.aload_n 0, 1) := by decide +kernel
theorem dX8_wipe_6 : decode cX8_wipe 6 = .ok (.iconst 0, 1) := by decide +kernel
theorem dX8_wipe_7 : decode cX8_wipe 7 = .ok (.putfield 85, 3) := by decide +kernel
theorem dX8_wipe_10 : decode cX8_wipe 10 = .ok (.iload_n 1, 1) := by decide +kernel
theorem dX8_wipe_11 : decode cX8_wipe 11 = .ok (.ireturn, 1) := by decide +kernel
set_option maxRecDepth 20000 in
theorem ggX8_fault_X8_reads : GoodIn wsX8_fault wsX8_reads := goodIn_r _ [5, 6, 7, 8, 9, 10, 11, 4, 12, 13, 14, 15, 16, 17, 18, 19, 20, 21, 22, 23, 24, 25, 26, 27, 28, 29, 30, 31, 32, 33, 34, 35, 36, 37, 38, 39, 40, 41, 42, 43, 44, 45, 46, 47, 48, 49, 50, 51, 52, 53, 54, 55, 56, 57, 58, 59, 60, 61, 62, 63, 64, 65, 66, 67, 68, 69, 70, 71, 72, 73, 74, 75, 76, 77, 78, 79, 80, 81, 82, 83, 84, 85, 86] (by decide +kernel) (by decide +kernel)
set_option maxRecDepth 20000 in
theorem gX8_fault_X8_reads : GoodIn wsX8_fault (wsV RX8 128 RX8 yX8_reads wsX8_reads) := goodIn_app (goodIn_of _ (by decide +kernel)) ggX8_fault_X8_reads
theorem dX8_fault_0 : decode cX8_fault 0 = .ok (.aload_n 0, 1) := by decide +kernel
theorem dX8_fault_1 : decode cX8_fault 1 = .ok (.invokevirtual 128, 3) := by decide +kernel
theorem dX8_fault_4 : decode cX8_fault 4 = .ok (.ireturn, 1) := by decide +kernel
set_option maxRecDepth 20000 in
theorem ggX8_lay_X8_reads : GoodIn wsX8_lay wsX8_reads := goodIn_r _ [6, 7, 8, 9, 10, 11, 12, 5, 13, 14, 15, 16, 17, 18, 19, 20, 21, 22, 23, 24, 25, 26, 27, 28, 29, 30, 31, 32, 33, 34, 35, 36, 37, 38, 39, 40, 41, 42, 43, 44, 45, 46, 47, 48, 49, 50, 51, 52, 53, 54, 55, 56, 57, 58, 59, 60, 61, 75, 76, 77, 78, 79, 80, 81, 82, 83, 84, 85, 86, 87, 88, 89, 90, 91, 92, 93, 94, 95, 96, 97, 98, 99, 100] (by decide +kernel) (by decide +kernel)
set_option maxRecDepth 20000 in
theorem gX8_lay_X8_reads : GoodIn wsX8_lay (wsV RX8 128 RX8 yX8_reads wsX8_reads) := goodIn_app (goodIn_of _ (by decide +kernel)) ggX8_lay_X8_reads
set_option maxRecDepth 20000 in
theorem ggX8_lay_X8_hang : GoodIn wsX8_lay wsX8_hang := goodIn_r _ [65, 14, 16, 75, 76, 77, 78, 79, 80, 81, 82, 83, 84, 85, 86, 87, 88, 89, 90, 91, 92, 93, 94, 95, 96, 97, 98, 99, 100] (by decide +kernel) (by decide +kernel)
set_option maxRecDepth 20000 in
theorem gX8_lay_X8_hang : GoodIn wsX8_lay (wsV RX8 132 RX8 yX8_hang wsX8_hang) := goodIn_app (goodIn_of _ (by decide +kernel)) ggX8_lay_X8_hang
set_option maxRecDepth 20000 in
theorem ggX8_lay_X8_takes : GoodIn wsX8_lay wsX8_takes := goodIn_r _ [69, 14, 1, 15, 70, 71, 16, 72, 17, 73, 18, 74, 75, 76, 77, 78, 79, 80, 81, 82, 83, 84, 85, 86, 87, 88, 89, 90, 91, 92, 93, 94, 95, 96, 97, 98, 99, 100] (by decide +kernel) (by decide +kernel)
set_option maxRecDepth 20000 in
theorem gX8_lay_X8_takes : GoodIn wsX8_lay (wsV RX8 70 RX8 yX8_takes wsX8_takes) := goodIn_app (goodIn_of _ (by decide +kernel)) ggX8_lay_X8_takes
theorem dX8_lay_0 : decode cX8_lay 0 = .ok (.aload_n 0, 1) := by decide +kernel
theorem dX8_lay_1 : decode cX8_lay 1 = .ok (.invokevirtual 128, 3) := by decide +kernel
theorem dX8_lay_4 : decode cX8_lay 4 = .ok (.bipush (-4), 2) := by decide +kernel
theorem dX8_lay_6 : decode cX8_lay 6 = .ok (.if_icmp .ne 10, 3) := by decide +kernel
theorem dX8_lay_9 : decode cX8_lay 9 = .ok (.aload_n 0, 1) := by decide +kernel
theorem dX8_lay_10 : decode cX8_lay 10 = .ok (.invokevirtual 132, 3) := by decide +kernel
theorem dX8_lay_13 : decode cX8_lay 13 = .ok (.ifCond .ne 6, 3) := by decide +kernel
theorem dX8_lay_16 : decode cX8_lay 16 = .ok (.bipush (-2), 2) := by decide +kernel
theorem dX8_lay_18 : decode cX8_lay 18 = .ok (.ireturn, 1) := by decide +kernel
theorem dX8_lay_19 : decode cX8_lay 19 = .ok (.aload_n 0, 1) := by decide +kernel
theorem dX8_lay_20 : decode cX8_lay 20 = .ok (.invokevirtual 70, 3) := by decide +kernel
theorem dX8_lay_23 : decode cX8_lay 23 = .ok (.aload_n 0, 1) := by decide +kernel
theorem dX8_lay_24 : decode cX8_lay 24 = .ok (.getfield 76, 3) := by decide +kernel
theorem dX8_lay_27 : decode cX8_lay 27 = .ok (.ireturn, 1) := by decide +kernel
theorem dX8_keeps_0 : decode cX8_keeps 0 = .ok (.aload_n 0, 1) := by decide +kernel
theorem dX8_keeps_1 : decode cX8_keeps 1 = .ok (.getfield 82, 3) := by decide +kernel
theorem dX8_keeps_4 : decode cX8_keeps 4 = .ok (.bipush 6, 2) := by decide +kernel
theorem dX8_keeps_6 : decode cX8_keeps 6 = .ok (.if_icmp .ne 42, 3) := by decide +kernel
theorem dX8_keeps_9 : decode cX8_keeps 9 = .ok (.iconst 0, 1) := by decide +kernel
theorem dX8_keeps_10 : decode cX8_keeps 10 = .ok (.istore_n 1, 1) := by decide +kernel
theorem dX8_keeps_11 : decode cX8_keeps 11 = .ok (.iload_n 1, 1) := by decide +kernel
theorem dX8_keeps_12 : decode cX8_keeps 12 = .ok (.bipush 100, 2) := by decide +kernel
theorem dX8_keeps_14 : decode cX8_keeps 14 = .ok (.if_icmp .ge 24, 3) := by decide +kernel
theorem dX8_keeps_17 : decode cX8_keeps 17 = .ok (.aload_n 0, 1) := by decide +kernel
theorem dX8_keeps_18 : decode cX8_keeps 18 = .ok (.getfield 22, 3) := by decide +kernel
theorem dX8_keeps_21 : decode cX8_keeps 21 = .ok (.iload_n 1, 1) := by decide +kernel
theorem dX8_keeps_22 : decode cX8_keeps 22 = .ok (.aload_n 0, 1) := by decide +kernel
theorem dX8_keeps_23 : decode cX8_keeps 23 = .ok (.getfield 22, 3) := by decide +kernel
theorem dX8_keeps_26 : decode cX8_keeps 26 = .ok (.iload_n 1, 1) := by decide +kernel
theorem dX8_keeps_27 : decode cX8_keeps 27 = .ok (.bipush 20, 2) := by decide +kernel
theorem dX8_keeps_29 : decode cX8_keeps 29 = .ok (.iadd, 1) := by decide +kernel
theorem dX8_keeps_30 : decode cX8_keeps 30 = .ok (.iaload, 1) := by decide +kernel
theorem dX8_keeps_31 : decode cX8_keeps 31 = .ok (.iastore, 1) := by decide +kernel
theorem dX8_keeps_32 : decode cX8_keeps 32 = .ok (.iinc 1 1, 3) := by decide +kernel
theorem dX8_keeps_35 : decode cX8_keeps 35 = .ok (.goto (-24), 3) := by decide +kernel
theorem dX8_keeps_38 : decode cX8_keeps 38 = .ok (.aload_n 0, 1) := by decide +kernel
theorem dX8_keeps_39 : decode cX8_keeps 39 = .ok (.dup, 1) := by decide +kernel
theorem dX8_keeps_40 : decode cX8_keeps 40 = .ok (.getfield 82, 3) := by decide +kernel
theorem dX8_keeps_43 : decode cX8_keeps 43 = .ok (.iconst 1, 1) := by decide +kernel
theorem dX8_keeps_44 : decode cX8_keeps 44 = .ok (.isub, 1) := by decide +kernel
theorem dX8_keeps_45 : decode cX8_keeps 45 = .ok (.putfield 82, 3) := by decide +kernel
theorem dX8_keeps_48 : decode cX8_keeps 48 = .ok (.iconst 0, 1) := by decide +kernel
theorem dX8_keeps_49 : decode cX8_keeps 49 = .ok (.istore_n 1, 1) := by decide +kernel
theorem dX8_keeps_50 : decode cX8_keeps 50 = .ok (.iload_n 1, 1) := by decide +kernel
theorem dX8_keeps_51 : decode cX8_keeps 51 = .ok (.bipush 20, 2) := by decide +kernel
theorem dX8_keeps_53 : decode cX8_keeps 53 = .ok (.if_icmp .ge 29, 3) := by decide +kernel
theorem dX8_keeps_56 : decode cX8_keeps 56 = .ok (.aload_n 0, 1) := by decide +kernel
theorem dX8_keeps_57 : decode cX8_keeps 57 = .ok (.getfield 22, 3) := by decide +kernel
theorem dX8_keeps_60 : decode cX8_keeps 60 = .ok (.bipush 20, 2) := by decide +kernel
theorem dX8_keeps_62 : decode cX8_keeps 62 = .ok (.aload_n 0, 1) := by decide +kernel
theorem dX8_keeps_63 : decode cX8_keeps 63 = .ok (.getfield 82, 3) := by decide +kernel
theorem dX8_keeps_66 : decode cX8_keeps 66 = .ok (.imul, 1) := by decide +kernel
theorem dX8_keeps_67 : decode cX8_keeps 67 = .ok (.iload_n 1, 1) := by decide +kernel
theorem dX8_keeps_68 : decode cX8_keeps 68 = .ok (.iadd, 1) := by decide +kernel
theorem dX8_keeps_69 : decode cX8_keeps 69 = .ok (.aload_n 0, 1) := by decide +kernel
theorem dX8_keeps_70 : decode cX8_keeps 70 = .ok (.getfield 19, 3) := by decide +kernel
