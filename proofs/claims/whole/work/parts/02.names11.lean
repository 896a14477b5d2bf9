theorem dX8_whereIs_202 : decode cX8_whereIs 202 = .ok (.if_icmp .gt 14, 3) := by decide +kernel
theorem dX8_whereIs_205 : decode cX8_whereIs 205 = .ok (.aload_n 0, 1) := by decide +kernel
theorem dX8_whereIs_206 : decode cX8_whereIs 206 = .ok (.iload 5, 2) := by decide +kernel
theorem dX8_whereIs_208 : decode cX8_whereIs 208 = .ok (.invokevirtual 152, 3) := by decide +kernel
theorem dX8_whereIs_211 : decode cX8_whereIs 211 = .ok (.iload_n 1, 1) := by decide +kernel
theorem dX8_whereIs_212 : decode cX8_whereIs 212 = .ok (.iand, 1) := by decide +kernel
theorem dX8_whereIs_213 : decode cX8_whereIs 213 = .ok (.goto 4, 3) := by decide +kernel
theorem dX8_whereIs_216 : decode cX8_whereIs 216 = .ok (.iconst 0, 1) := by decide +kernel
theorem dX8_whereIs_217 : decode cX8_whereIs 217 = .ok (.ior, 1) := by decide +kernel
theorem dX8_whereIs_218 : decode cX8_whereIs 218 = .ok (.iastore, 1) := by decide +kernel
theorem dX8_whereIs_219 : decode cX8_whereIs 219 = .ok (.iinc 5 1, 3) := by decide +kernel
theorem dX8_whereIs_222 : decode cX8_whereIs 222 = .ok (.goto (-106), 3) := by decide +kernel
theorem dX8_whereIs_225 : decode cX8_whereIs 225 = .ok (.iinc 4 1, 3) := by decide +kernel
theorem dX8_whereIs_228 : decode cX8_whereIs 228 = .ok (.goto (-121), 3) := by decide +kernel
theorem dX8_whereIs_231 : decode cX8_whereIs 231 = .ok (.iconst 0, 1) := by decide +kernel
theorem dX8_whereIs_232 : decode cX8_whereIs 232 = .ok (.istore 4, 2) := by decide +kernel
theorem dX8_whereIs_234 : decode cX8_whereIs 234 = .ok (.iload 4, 2) := by decide +kernel
theorem dX8_whereIs_236 : decode cX8_whereIs 236 = .ok (.bipush 10, 2) := by decide +kernel
theorem dX8_whereIs_238 : decode cX8_whereIs 238 = .ok (.if_icmp .ge 23, 3) := by decide +kernel
theorem dX8_whereIs_241 : decode cX8_whereIs 241 = .ok (.aload_n 0, 1) := by decide +kernel
theorem dX8_whereIs_242 : decode cX8_whereIs 242 = .ok (.getfield 34, 3) := by decide +kernel
theorem dX8_whereIs_245 : decode cX8_whereIs 245 = .ok (.iload 4, 2) := by decide +kernel
theorem dX8_whereIs_247 : decode cX8_whereIs 247 = .ok (.aload_n 0, 1) := by decide +kernel
theorem dX8_whereIs_248 : decode cX8_whereIs 248 = .ok (.getfield 37, 3) := by decide +kernel
theorem dX8_whereIs_251 : decode cX8_whereIs 251 = .ok (.iload 4, 2) := by decide +kernel
theorem dX8_whereIs_253 : decode cX8_whereIs 253 = .ok (.iaload, 1) := by decide +kernel
theorem dX8_whereIs_254 : decode cX8_whereIs 254 = .ok (.iastore, 1) := by decide +kernel
theorem dX8_whereIs_255 : decode cX8_whereIs 255 = .ok (.iinc 4 1, 3) := by decide +kernel
theorem dX8_whereIs_258 : decode cX8_whereIs 258 = .ok (.goto (-24), 3) := by decide +kernel
theorem dX8_whereIs_261 : decode cX8_whereIs 261 = .ok (.iinc 3 1, 3) := by decide +kernel
theorem dX8_whereIs_264 : decode cX8_whereIs 264 = .ok (.goto (-195), 3) := by decide +kernel
theorem dX8_whereIs_267 : decode cX8_whereIs 267 = .ok (.iconst 0, 1) := by decide +kernel
theorem dX8_whereIs_268 : decode cX8_whereIs 268 = .ok (.istore_n 3, 1) := by decide +kernel
theorem dX8_whereIs_269 : decode cX8_whereIs 269 = .ok (.iconst 0, 1) := by decide +kernel
theorem dX8_whereIs_270 : decode cX8_whereIs 270 = .ok (.istore 4, 2) := by decide +kernel
theorem dX8_whereIs_272 : decode cX8_whereIs 272 = .ok (.iload 4, 2) := by decide +kernel
theorem dX8_whereIs_274 : decode cX8_whereIs 274 = .ok (.iload_n 2, 1) := by decide +kernel
theorem dX8_whereIs_275 : decode cX8_whereIs 275 = .ok (.if_icmp .gt 19, 3) := by decide +kernel
theorem dX8_whereIs_278 : decode cX8_whereIs 278 = .ok (.iload_n 3, 1) := by decide +kernel
theorem dX8_whereIs_279 : decode cX8_whereIs 279 = .ok (.aload_n 0, 1) := by decide +kernel
theorem dX8_whereIs_280 : decode cX8_whereIs 280 = .ok (.getfield 34, 3) := by decide +kernel
theorem dX8_whereIs_283 : decode cX8_whereIs 283 = .ok (.iload 4, 2) := by decide +kernel
theorem dX8_whereIs_285 : decode cX8_whereIs 285 = .ok (.iaload, 1) := by decide +kernel
theorem dX8_whereIs_286 : decode cX8_whereIs 286 = .ok (.ior, 1) := by decide +kernel
theorem dX8_whereIs_287 : decode cX8_whereIs 287 = .ok (.istore_n 3, 1) := by decide +kernel
theorem dX8_whereIs_288 : decode cX8_whereIs 288 = .ok (.iinc 4 1, 3) := by decide +kernel
theorem dX8_whereIs_291 : decode cX8_whereIs 291 = .ok (.goto (-19), 3) := by decide +kernel
theorem dX8_whereIs_294 : decode cX8_whereIs 294 = .ok (.iload_n 3, 1) := by decide +kernel
theorem dX8_whereIs_295 : decode cX8_whereIs 295 = .ok (.ireturn, 1) := by decide +kernel
set_option maxRecDepth 20000 in
theorem ggX8_where_X8_whereIs : GoodIn wsX8_where wsX8_whereIs := goodIn_r _ [5, 6, 7, 8, 9, 10, 11, 12, 4, 13, 14, 15, 16, 17, 18, 19, 20, 21, 22, 23, 24, 25, 26, 27, 28, 29, 30, 31, 32, 33, 34, 35, 36, 37, 38, 39, 40, 41, 42, 43, 44, 45, 46, 47, 48] (by decide +kernel) (by decide +kernel)
set_option maxRecDepth 20000 in
theorem gX8_where_X8_whereIs : GoodIn wsX8_where (wsV RX8 173 RX8 yX8_whereIs wsX8_whereIs) := goodIn_app (goodIn_of _ (by decide +kernel)) ggX8_where_X8_whereIs
theorem dX8_where_0 : decode cX8_where 0 = .ok (.aload_n 0, 1) := by decide +kernel
theorem dX8_where_1 : decode cX8_where 1 = .ok (.invokevirtual 173, 3) := by decide +kernel
theorem dX8_where_4 : decode cX8_where 4 = .ok (.ireturn, 1) := by decide +kernel
theorem dX8_determinant_0 : decode cX8_determinant 0 = .ok (.lconst 1, 1) := by decide +kernel
theorem dX8_determinant_1 : decode cX8_determinant 1 = .ok (.lstore_n 2, 1) := by decide +kernel
theorem dX8_determinant_2 : decode cX8_determinant 2 = .ok (.iconst 0, 1) := by decide +kernel
theorem dX8_determinant_3 : decode cX8_determinant 3 = .ok (.istore 4, 2) := by decide +kernel
theorem dX8_determinant_5 : decode cX8_determinant 5 = .ok (.iload 4, 2) := by decide +kernel
theorem dX8_determinant_7 : decode cX8_determinant 7 = .ok (.iconst 1, 1) := by decide +kernel
theorem dX8_determinant_8 : decode cX8_determinant 8 = .ok (.iadd, 1) := by decide +kernel
theorem dX8_determinant_9 : decode cX8_determinant 9 = .ok (.iload_n 1, 1) := by decide +kernel
theorem dX8_determinant_10 : decode cX8_determinant 10 = .ok (.if_icmp .ge 123, 3) := by decide +kernel
theorem dX8_determinant_13 : decode cX8_determinant 13 = .ok (.iload 4, 2) := by decide +kernel
theorem dX8_determinant_15 : decode cX8_determinant 15 = .ok (.iconst 1, 1) := by decide +kernel
theorem dX8_determinant_16 : decode cX8_determinant 16 = .ok (.iadd, 1) := by decide +kernel
theorem dX8_determinant_17 : decode cX8_determinant 17 = .ok (.istore 5, 2) := by decide +kernel
theorem dX8_determinant_19 : decode cX8_determinant 19 = .ok (.iload 5, 2) := by decide +kernel
theorem dX8_determinant_21 : decode cX8_determinant 21 = .ok (.iload_n 1, 1) := by decide +kernel
theorem dX8_determinant_22 : decode cX8_determinant 22 = .ok (.if_icmp .ge 92, 3) := by decide +kernel
theorem dX8_determinant_25 : decode cX8_determinant 25 = .ok (.iload 4, 2) := by decide +kernel
theorem dX8_determinant_27 : decode cX8_determinant 27 = .ok (.iconst 1, 1) := by decide +kernel
theorem dX8_determinant_28 : decode cX8_determinant 28 = .ok (.iadd, 1) := by decide +kernel
theorem dX8_determinant_29 : decode cX8_determinant 29 = .ok (.istore 6, 2) := by decide +kernel
theorem dX8_determinant_31 : decode cX8_determinant 31 = .ok (.iload 6, 2) := by decide +kernel
theorem dX8_determinant_33 : decode cX8_determinant 33 = .ok (.iload_n 1, 1) := by decide +kernel
theorem dX8_determinant_34 : decode cX8_determinant 34 = .ok (.if_icmp .ge 74, 3) := by decide +kernel
theorem dX8_determinant_37 : decode cX8_determinant 37 = .ok (.aload_n 0, 1) := by decide +kernel
theorem dX8_determinant_38 : decode cX8_determinant 38 = .ok (.getfield 44, 3) := by decide +kernel
theorem dX8_determinant_41 : decode cX8_determinant 41 = .ok (.iconst 5, 1) := by decide +kernel
theorem dX8_determinant_42 : decode cX8_determinant 42 = .ok (.iload 5, 2) := by decide +kernel
theorem dX8_determinant_44 : decode cX8_determinant 44 = .ok (.imul, 1) := by decide +kernel
theorem dX8_determinant_45 : decode cX8_determinant 45 = .ok (.iload 6, 2) := by decide +kernel
theorem dX8_determinant_47 : decode cX8_determinant 47 = .ok (.iadd, 1) := by decide +kernel
theorem dX8_determinant_48 : decode cX8_determinant 48 = .ok (.aload_n 0, 1) := by decide +kernel
theorem dX8_determinant_49 : decode cX8_determinant 49 = .ok (.getfield 44, 3) := by decide +kernel
theorem dX8_determinant_52 : decode cX8_determinant 52 = .ok (.iconst 5, 1) := by decide +kernel
theorem dX8_determinant_53 : decode cX8_determinant 53 = .ok (.iload 5, 2) := by decide +kernel
theorem dX8_determinant_55 : decode cX8_determinant 55 = .ok (.imul, 1) := by decide +kernel
theorem dX8_determinant_56 : decode cX8_determinant 56 = .ok (.iload 6, 2) := by decide +kernel
theorem dX8_determinant_58 : decode cX8_determinant 58 = .ok (.iadd, 1) := by decide +kernel
theorem dX8_determinant_59 : decode cX8_determinant 59 = .ok (.laload, 1) := by decide +kernel
theorem dX8_determinant_60 : decode cX8_determinant 60 = .ok (.aload_n 0, 1) := by decide +kernel
theorem dX8_determinant_61 : decode cX8_determinant 61 = .ok (.getfield 44, 3) := by decide +kernel
theorem dX8_determinant_64 : decode cX8_determinant 64 = .ok (.iconst 5, 1) := by decide +kernel
theorem dX8_determinant_65 : decode cX8_determinant 65 = .ok (.iload 4, 2) := by decide +kernel
theorem dX8_determinant_67 : decode cX8_determinant 67 = .ok (.imul, 1) := by decide +kernel
theorem dX8_determinant_68 : decode cX8_determinant 68 = .ok (.iload 4, 2) := by decide +kernel
theorem dX8_determinant_70 : decode cX8_determinant 70 = .ok (.iadd, 1) := by decide +kernel
theorem dX8_determinant_71 : decode cX8_determinant 71 = .ok (.laload, 1) := by decide +kernel
theorem dX8_determinant_72 : decode cX8_determinant 72 = .ok (.lmul, 1) := by decide +kernel
theorem dX8_determinant_73 : decode cX8_determinant 73 = .ok (.aload_n 0, 1) := by decide +kernel
theorem dX8_determinant_74 : decode cX8_determinant 74 = .ok (.getfield 44, 3) := by decide +kernel
theorem dX8_determinant_77 : decode cX8_determinant 77 = .ok (.iconst 5, 1) := by decide +kernel
theorem dX8_determinant_78 : decode cX8_determinant 78 = .ok (.iload 5, 2) := by decide +kernel
theorem dX8_determinant_80 : decode cX8_determinant 80 = .ok (.imul, 1) := by decide +kernel
theorem dX8_determinant_81 : decode cX8_determinant 81 = .ok (.iload 4, 2) := by decide +kernel
theorem dX8_determinant_83 : decode cX8_determinant 83 = .ok (.iadd, 1) := by decide +kernel
theorem dX8_determinant_84 : decode cX8_determinant 84 = .ok (.laload, 1) := by decide +kernel
theorem dX8_determinant_85 : decode cX8_determinant 85 = .ok (.aload_n 0, 1) := by decide +kernel
theorem dX8_determinant_86 : decode cX8_determinant 86 = .ok (.getfield 44, 3) := by decide +kernel
theorem dX8_determinant_89 : decode cX8_determinant 89 = .ok (.iconst 5, 1) := by decide +kernel
theorem dX8_determinant_90 : decode cX8_determinant 90 = .ok (.iload 4, 2) := by decide +kernel
theorem dX8_determinant_92 : decode cX8_determinant 92 = .ok (.imul, 1) := by decide +kernel
theorem dX8_determinant_93 : decode cX8_determinant 93 = .ok (.iload 6, 2) := by decide +kernel
theorem dX8_determinant_95 : decode cX8_determinant 95 = .ok (.iadd, 1) := by decide +kernel
theorem dX8_determinant_96 : decode cX8_determinant 96 = .ok (.laload, 1) := by decide +kernel
theorem dX8_determinant_97 : decode cX8_determinant 97 = .ok (.lmul, 1) := by decide +kernel
theorem dX8_determinant_98 : decode cX8_determinant 98 = .ok (.lsub, 1) := by decide +kernel
theorem dX8_determinant_99 : decode cX8_determinant 99 = .ok (.lload_n 2, 1) := by decide +kernel
theorem dX8_determinant_100 : decode cX8_determinant 100 = .ok (.ldiv, 1) := by decide +kernel
theorem dX8_determinant_101 : decode cX8_determinant 101 = .ok (.lastore, 1) := by decide +kernel
theorem dX8_determinant_102 : decode cX8_determinant 102 = .ok (.iinc 6 1, 3) := by decide +kernel
theorem dX8_determinant_105 : decode cX8_determinant 105 = .ok (.goto (-74), 3) := by decide +kernel
theorem dX8_determinant_108 : decode cX8_determinant 108 = .ok (.iinc 5 1, 3) := by decide +kernel
theorem dX8_determinant_111 : decode cX8_determinant 111 = .ok (.goto (-92), 3) := by decide +kernel
theorem dX8_determinant_114 : decode cX8_determinant 114 = .ok (.aload_n 0, 1) := by decide +kernel
theorem dX8_determinant_115 : decode cX8_determinant 115 = .ok (.getfield 44, 3) := by decide +kernel
theorem dX8_determinant_118 : decode cX8_determinant 118 = .ok (.iconst 5, 1) := by decide +kernel
theorem dX8_determinant_119 : decode cX8_determinant 119 = .ok (.iload 4, 2) := by decide +kernel
theorem dX8_determinant_121 : decode cX8_determinant 121 = .ok (.imul, 1) := by decide +kernel
theorem dX8_determinant_122 : decode cX8_determinant 122 = .ok (.iload 4, 2) := by decide +kernel
theorem dX8_determinant_124 : decode cX8_determinant 124 = .ok (.iadd, 1) := by decide +kernel
theorem dX8_determinant_125 : decode cX8_determinant 125 = .ok (.laload, 1) := by decide +kernel
theorem dX8_determinant_126 : decode cX8_determinant 126 = .ok (.lstore_n 2, 1) := by decide +kernel
theorem dX8_determinant_127 : decode cX8_determinant 127 = .ok (.iinc 4 1, 3) := by decide +kernel
theorem dX8_determinant_130 : decode cX8_determinant 130 = .ok (.goto (-125), 3) := by decide +kernel
theorem dX8_determinant_133 : decode cX8_determinant 133 = .ok (.aload_n 0, 1) := by decide +kernel
theorem dX8_determinant_134 : decode cX8_determinant 134 = .ok (.getfield 44, 3) := by decide +kernel
theorem dX8_determinant_137 : decode cX8_determinant 137 = .ok (.iconst 5, 1) := by decide +kernel
theorem dX8_determinant_138 : decode cX8_determinant 138 = .ok (.iload_n 1, 1) := by decide +kernel
theorem dX8_determinant_139 : decode cX8_determinant 139 = .ok (.iconst 1, 1) := by decide +kernel
theorem dX8_determinant_140 : decode cX8_determinant 140 = .ok (.isub, 1) := by decide +kernel
theorem dX8_determinant_141 : decode cX8_determinant 141 = .ok (.imul, 1) := by decide +kernel
theorem dX8_determinant_142 : decode cX8_determinant 142 = .ok (.iload_n 1, 1) := by decide +kernel
theorem dX8_determinant_143 : decode cX8_determinant 143 = .ok (.iadd, 1) := by decide +kernel
theorem dX8_determinant_144 : decode cX8_determinant 144 = .ok (.iconst 1, 1) := by decide +kernel
theorem dX8_determinant_145 : decode cX8_determinant 145 = .ok (.isub, 1) := by decide +kernel
theorem dX8_determinant_146 : decode cX8_determinant 146 = .ok (.laload, 1) := by decide +kernel
theorem dX8_determinant_147 : decode cX8_determinant 147 = .ok (.lreturn, 1) := by decide +kernel
set_option maxRecDepth 20000 in
theorem ggX8_grows_X8_out : GoodIn wsX8_grows wsX8_out := goodIn_r _ [9, 1, 3, 14, 15, 16, 17, 18, 19, 20, 21, 22, 23, 24, 25, 26, 27, 28, 29, 30, 31, 32, 33, 34, 35, 36, 37, 38, 39] (by decide +kernel) (by decide +kernel)
set_option maxRecDepth 20000 in
theorem gX8_grows_X8_out : GoodIn wsX8_grows (wsV RX8 146 RX8 yX8_out wsX8_out) := goodIn_app (goodIn_of _ (by decide +kernel)) ggX8_grows_X8_out
set_option maxRecDepth 20000 in
theorem ggX8_grows_X8_determinant : GoodIn wsX8_grows wsX8_determinant := goodIn_r _ [13, 2, 14, 15, 16, 17, 18, 19, 20, 21, 22, 23, 24, 25, 26, 27, 28, 29, 30, 31, 32, 33, 34, 35, 36, 37, 38, 39] (by decide +kernel) (by decide +kernel)
set_option maxRecDepth 20000 in
theorem gX8_grows_X8_determinant : GoodIn wsX8_grows (wsV RX8 176 RX8 yX8_determinant wsX8_determinant) := goodIn_app (goodIn_of _ (by decide +kernel)) ggX8_grows_X8_determinant
theorem dX8_grows_0 : decode cX8_grows 0 = .ok (.iconst 0, 1) := by decide +kernel
theorem dX8_grows_1 : decode cX8_grows 1 = .ok (.istore_n 1, 1) := by decide +kernel
theorem dX8_grows_2 : decode cX8_grows 2 = .ok (.iload_n 1, 1) := by decide +kernel
theorem dX8_grows_3 : decode cX8_grows 3 = .ok (.aload_n 0, 1) := by decide +kernel
theorem dX8_grows_4 : decode cX8_grows 4 = .ok (.getfield 76, 3) := by decide +kernel
theorem dX8_grows_7 : decode cX8_grows 7 = .ok (.if_icmp .ge 121, 3) := by decide +kernel
theorem dX8_grows_10 : decode cX8_grows 10 = .ok (.iconst 0, 1) := by decide +kernel
theorem dX8_grows_11 : decode cX8_grows 11 = .ok (.istore_n 2, 1) := by decide +kernel
theorem dX8_grows_12 : decode cX8_grows 12 = .ok (.iconst 0, 1) := by decide +kernel
theorem dX8_grows_13 : decode cX8_grows 13 = .ok (.istore_n 3, 1) := by decide +kernel
theorem dX8_grows_14 : decode cX8_grows 14 = .ok (.iload_n 3, 1) := by decide +kernel
theorem dX8_grows_15 : decode cX8_grows 15 = .ok (.aload_n 0, 1) := by decide +kernel
theorem dX8_grows_16 : decode cX8_grows 16 = .ok (.getfield 76, 3) := by decide +kernel
theorem dX8_grows_19 : decode cX8_grows 19 = .ok (.if_icmp .ge 87, 3) := by decide +kernel
theorem dX8_grows_22 : decode cX8_grows 22 = .ok (.iload_n 3, 1) := by decide +kernel
theorem dX8_grows_23 : decode cX8_grows 23 = .ok (.iload_n 1, 1) := by decide +kernel
theorem dX8_grows_24 : decode cX8_grows 24 = .ok (.if_icmp .eq 76, 3) := by decide +kernel
theorem dX8_grows_27 : decode cX8_grows 27 = .ok (.iconst 0, 1) := by decide +kernel
theorem dX8_grows_28 : decode cX8_grows 28 = .ok (.istore 4, 2) := by decide +kernel
theorem dX8_grows_30 : decode cX8_grows 30 = .ok (.iconst 0, 1) := by decide +kernel
theorem dX8_grows_31 : decode cX8_grows 31 = .ok (.istore 5, 2) := by decide +kernel
theorem dX8_grows_33 : decode cX8_grows 33 = .ok (.iload 5, 2) := by decide +kernel
theorem dX8_grows_35 : decode cX8_grows 35 = .ok (.aload_n 0, 1) := by decide +kernel
theorem dX8_grows_36 : decode cX8_grows 36 = .ok (.getfield 76, 3) := by decide +kernel
theorem dX8_grows_39 : decode cX8_grows 39 = .ok (.if_icmp .ge 58, 3) := by decide +kernel
theorem dX8_grows_42 : decode cX8_grows 42 = .ok (.iload 5, 2) := by decide +kernel
theorem dX8_grows_44 : decode cX8_grows 44 = .ok (.iload_n 1, 1) := by decide +kernel
theorem dX8_grows_45 : decode cX8_grows 45 = .ok (.if_icmp .eq 46, 3) := by decide +kernel
theorem dX8_grows_48 : decode cX8_grows 48 = .ok (.aload_n 0, 1) := by decide +kernel
theorem dX8_grows_49 : decode cX8_grows 49 = .ok (.getfield 44, 3) := by decide +kernel
theorem dX8_grows_52 : decode cX8_grows 52 = .ok (.iconst 5, 1) := by decide +kernel
theorem dX8_grows_53 : decode cX8_grows 53 = .ok (.iload_n 2, 1) := by decide +kernel
theorem dX8_grows_54 : decode cX8_grows 54 = .ok (.imul, 1) := by decide +kernel
theorem dX8_grows_55 : decode cX8_grows 55 = .ok (.iload 4, 2) := by decide +kernel
theorem dX8_grows_57 : decode cX8_grows 57 = .ok (.iadd, 1) := by decide +kernel
theorem dX8_grows_58 : decode cX8_grows 58 = .ok (.iload_n 3, 1) := by decide +kernel
theorem dX8_grows_59 : decode cX8_grows 59 = .ok (.iload 5, 2) := by decide +kernel
theorem dX8_grows_61 : decode cX8_grows 61 = .ok (.if_icmp .ne 12, 3) := by decide +kernel
theorem dX8_grows_64 : decode cX8_grows 64 = .ok (.aload_n 0, 1) := by decide +kernel
theorem dX8_grows_65 : decode cX8_grows 65 = .ok (.iload_n 3, 1) := by decide +kernel
theorem dX8_grows_66 : decode cX8_grows 66 = .ok (.invokevirtual 146, 3) := by decide +kernel
theorem dX8_grows_69 : decode cX8_grows 69 = .ok (.i2l, 1) := by decide +kernel
theorem dX8_grows_70 : decode cX8_grows 70 = .ok (.goto 17, 3) := by decide +kernel
theorem dX8_grows_73 : decode cX8_grows 73 = .ok (.aload_n 0, 1) := by decide +kernel
theorem dX8_grows_74 : decode cX8_grows 74 = .ok (.getfield 13, 3) := by decide +kernel
theorem dX8_grows_77 : decode cX8_grows 77 = .ok (.bipush 6, 2) := by decide +kernel
theorem dX8_grows_79 : decode cX8_grows 79 = .ok (.iload_n 3, 1) := by decide +kernel
theorem dX8_grows_80 : decode cX8_grows 80 = .ok (.imul, 1) := by decide +kernel
theorem dX8_grows_81 : decode cX8_grows 81 = .ok (.iload 5, 2) := by decide +kernel
theorem dX8_grows_83 : decode cX8_grows 83 = .ok (.iadd, 1) := by decide +kernel
theorem dX8_grows_84 : decode cX8_grows 84 = .ok (.iaload, 1) := by decide +kernel
theorem dX8_grows_85 : decode cX8_grows 85 = .ok (.ineg, 1) := by decide +kernel
theorem dX8_grows_86 : decode cX8_grows 86 = .ok (.i2l, 1) := by decide +kernel
theorem dX8_grows_87 : decode cX8_grows 87 = .ok (.lastore, 1) := by decide +kernel
theorem dX8_grows_88 : decode cX8_grows 88 = .ok (.iinc 4 1, 3) := by decide +kernel
theorem dX8_grows_91 : decode cX8_grows 91 = .ok (.iinc 5 1, 3) := by decide +kernel
theorem dX8_grows_94 : decode cX8_grows 94 = .ok (.goto (-61), 3) := by decide +kernel
theorem dX8_grows_97 : decode cX8_grows 97 = .ok (.iinc 2 1, 3) := by decide +kernel
theorem dX8_grows_100 : decode cX8_grows 100 = .ok (.iinc 3 1, 3) := by decide +kernel
theorem dX8_grows_103 : decode cX8_grows 103 = .ok (.goto (-89), 3) := by decide +kernel
theorem dX8_grows_106 : decode cX8_grows 106 = .ok (.aload_n 0, 1) := by decide +kernel
theorem dX8_grows_107 : decode cX8_grows 107 = .ok (.getfield 40, 3) := by decide +kernel
theorem dX8_grows_110 : decode cX8_grows 110 = .ok (.iload_n 1, 1) := by decide +kernel
theorem dX8_grows_111 : decode cX8_grows 111 = .ok (.aload_n 0, 1) := by decide +kernel
theorem dX8_grows_112 : decode cX8_grows 112 = .ok (.aload_n 0, 1) := by decide +kernel
theorem dX8_grows_113 : decode cX8_grows 113 = .ok (.getfield 76, 3) := by decide +kernel
theorem dX8_grows_116 : decode cX8_grows 116 = .ok (.iconst 1, 1) := by decide +kernel
theorem dX8_grows_117 : decode cX8_grows 117 = .ok (.isub, 1) := by decide +kernel
theorem dX8_grows_118 : decode cX8_grows 118 = .ok (.invokevirtual 176, 3) := by decide +kernel
theorem dX8_grows_121 : decode cX8_grows 121 = .ok (.lastore, 1) := by decide +kernel
theorem dX8_grows_122 : decode cX8_grows 122 = .ok (.iinc 1 1, 3) := by decide +kernel
theorem dX8_grows_125 : decode cX8_grows 125 = .ok (.goto (-123), 3) := by decide +kernel
theorem dX8_grows_128 : decode cX8_grows 128 = .ok (.return_, 1) := by decide +kernel
set_option maxRecDepth 20000 in
theorem ggX8_below_X8_sum : GoodIn wsX8_below wsX8_sum := goodIn_r _ [7, 8, 9, 10, 11, 6, 12, 1, 13, 14, 15, 16, 17, 18, 19, 20, 21, 22, 23, 24, 25, 26, 27, 28, 29, 30, 31, 32, 33, 34, 35, 36, 37, 38, 39] (by decide +kernel) (by decide +kernel)
set_option maxRecDepth 20000 in
theorem gX8_below_X8_sum : GoodIn wsX8_below (wsV RX8 149 RX8 yX8_sum wsX8_sum) := goodIn_app (goodIn_of _ (by decide +kernel)) ggX8_below_X8_sum
theorem dX8_below_0 : decode cX8_below 0 = .ok (.lconst 0, 1) := by decide +kernel
theorem dX8_below_1 : decode cX8_below 1 = .ok (.lstore_n 1, 1) := by decide +kernel
theorem dX8_below_2 : decode cX8_below 2 = .ok (.iconst 0, 1) := by decide +kernel
theorem dX8_below_3 : decode cX8_below 3 = .ok (.istore_n 3, 1) := by decide +kernel
theorem dX8_below_4 : decode cX8_below 4 = .ok (.iload_n 3, 1) := by decide +kernel
theorem dX8_below_5 : decode cX8_below 5 = .ok (.aload_n 0, 1) := by decide +kernel
theorem dX8_below_6 : decode cX8_below 6 = .ok (.getfield 76, 3) := by decide +kernel
theorem dX8_below_9 : decode cX8_below 9 = .ok (.if_icmp .ge 25, 3) := by decide +kernel
theorem dX8_below_12 : decode cX8_below 12 = .ok (.lload_n 1, 1) := by decide +kernel
theorem dX8_below_13 : decode cX8_below 13 = .ok (.aload_n 0, 1) := by decide +kernel
theorem dX8_below_14 : decode cX8_below 14 = .ok (.getfield 40, 3) := by decide +kernel
theorem dX8_below_17 : decode cX8_below 17 = .ok (.iload_n 3, 1) := by decide +kernel
theorem dX8_below_18 : decode cX8_below 18 = .ok (.laload, 1) := by decide +kernel
theorem dX8_below_19 : decode cX8_below 19 = .ok (.aload_n 0, 1) := by decide +kernel
theorem dX8_below_20 : decode cX8_below 20 = .ok (.iload_n 3, 1) := by decide +kernel
theorem dX8_below_21 : decode cX8_below 21 = .ok (.invokevirtual 149, 3) := by decide +kernel
theorem dX8_below_24 : decode cX8_below 24 = .ok (.i2l, 1) := by decide +kernel
theorem dX8_below_25 : decode cX8_below 25 = .ok (.lmul, 1) := by decide +kernel
theorem dX8_below_26 : decode cX8_below 26 = .ok (.ladd, 1) := by decide +kernel
theorem dX8_below_27 : decode cX8_below 27 = .ok (.lstore_n 1, 1) := by decide +kernel
theorem dX8_below_28 : decode cX8_below 28 = .ok (.iinc 3 1, 3) := by decide +kernel
theorem dX8_below_31 : decode cX8_below 31 = .ok (.goto (-27), 3) := by decide +kernel
theorem dX8_below_34 : decode cX8_below 34 = .ok (.lload_n 1, 1) := by decide +kernel
theorem dX8_below_35 : decode cX8_below 35 = .ok (.lreturn, 1) := by decide +kernel
theorem dX8_common_0 : decode cX8_common 0 = .ok (.lload_n 0, 1) := by decide +kernel
theorem dX8_common_1 : decode cX8_common 1 = .ok (.lstore 4, 2) := by decide +kernel
theorem dX8_common_3 : decode cX8_common 3 = .ok (.lload_n 2, 1) := by decide +kernel
theorem dX8_common_4 : decode cX8_common 4 = .ok (.lstore 6, 2) := by decide +kernel
theorem dX8_common_6 : decode cX8_common 6 = .ok (.lload 6, 2) := by decide +kernel
theorem dX8_common_8 : decode cX8_common 8 = .ok (.lconst 0, 1) := by decide +kernel
theorem dX8_common_9 : decode cX8_common 9 = .ok (.lcmp, 1) := by decide +kernel
theorem dX8_common_10 : decode cX8_common 10 = .ok (.ifCond .eq 21, 3) := by decide +kernel
theorem dX8_common_13 : decode cX8_common 13 = .ok (.lload 4, 2) := by decide +kernel
theorem dX8_common_15 : decode cX8_common 15 = .ok (.lload 6, 2) := by decide +kernel
theorem dX8_common_17 : decode cX8_common 17 = .ok (.lrem, 1) := by decide +kernel
theorem dX8_common_18 : decode cX8_common 18 = .ok (.lstore 8, 2) := by decide +kernel
theorem dX8_common_20 : decode cX8_common 20 = .ok (.lload 6, 2) := by decide +kernel
theorem dX8_common_22 : decode cX8_common 22 = .ok (.lstore 4, 2) := by decide +kernel
theorem dX8_common_24 : decode cX8_common 24 = .ok (.lload 8, 2) := by decide +kernel
theorem dX8_common_26 : decode cX8_common 26 = .ok (.lstore 6, 2) := by decide +kernel
theorem dX8_common_28 : decode cX8_common 28 = .ok (.goto (-22), 3) := by decide +kernel
theorem dX8_common_31 : decode cX8_common 31 = .ok (.lload 4, 2) := by decide +kernel
theorem dX8_common_33 : decode cX8_common 33 = .ok (.lreturn, 1) := by decide +kernel
set_option maxRecDepth 20000 in
theorem ggX8_term_X8_common : GoodIn wsX8_term wsX8_common := goodIn_r _ [4] (by decide +kernel) (by decide +kernel)
set_option maxRecDepth 20000 in
theorem gX8_term_X8_common : GoodIn wsX8_term (va_wsS RX8 180 yX8_common wsX8_common) := goodIn_app (goodIn_of _ (by decide +kernel)) ggX8_term_X8_common
theorem dX8_term_0 : decode cX8_term 0 = .ok (.lload_n 0, 1) := by decide +kernel
theorem dX8_term_1 : decode cX8_term 1 = .ok (.lload_n 2, 1) := by decide +kernel
theorem dX8_term_2 : decode cX8_term 2 = .ok (.invokestatic 180, 3) := by decide +kernel
theorem dX8_term_5 : decode cX8_term 5 = .ok (.lstore 5, 2) := by decide +kernel
theorem dX8_term_7 : decode cX8_term 7 = .ok (.iload 4, 2) := by decide +kernel
theorem dX8_term_9 : decode cX8_term 9 = .ok (.ifCond .ne 10, 3) := by decide +kernel
theorem dX8_term_12 : decode cX8_term 12 = .ok (.lload_n 0, 1) := by decide +kernel
theorem dX8_term_13 : decode cX8_term 13 = .ok (.lload 5, 2) := by decide +kernel
theorem dX8_term_15 : decode cX8_term 15 = .ok (.ldiv, 1) := by decide +kernel
theorem dX8_term_16 : decode cX8_term 16 = .ok (.goto 7, 3) := by decide +kernel
theorem dX8_term_19 : decode cX8_term 19 = .ok (.lload_n 2, 1) := by decide +kernel
theorem dX8_term_20 : decode cX8_term 20 = .ok (.lload 5, 2) := by decide +kernel
theorem dX8_term_22 : decode cX8_term 22 = .ok (.ldiv, 1) := by decide +kernel
theorem dX8_term_23 : decode cX8_term 23 = .ok (.lreturn, 1) := by decide +kernel
set_option maxRecDepth 20000 in
theorem ggX8_chance_X8_isCell : GoodIn wsX8_chance wsX8_isCell := goodIn_r _ [7, 8, 9, 10, 6, 11, 41, 42, 43, 44, 45, 46, 47, 48, 49, 50, 51, 52, 53, 54, 55, 56, 57, 58, 59, 60, 61, 62, 63, 64, 65, 66] (by decide +kernel) (by decide +kernel)
set_option maxRecDepth 20000 in
theorem gX8_chance_X8_isCell : GoodIn wsX8_chance (wsV RX8 136 RX8 yX8_isCell wsX8_isCell) := goodIn_app (goodIn_of _ (by decide +kernel)) ggX8_chance_X8_isCell
set_option maxRecDepth 20000 in
theorem ggX8_chance_X8_isIn : GoodIn wsX8_chance wsX8_isIn := goodIn_r _ [11] (by decide +kernel) (by decide +kernel)
set_option maxRecDepth 20000 in
theorem gX8_chance_X8_isIn : GoodIn wsX8_chance (va_wsS RX8 98 yX8_isIn wsX8_isIn) := goodIn_app (goodIn_of _ (by decide +kernel)) ggX8_chance_X8_isIn
set_option maxRecDepth 20000 in
theorem ggX8_chance_X8_grows : GoodIn wsX8_chance wsX8_grows := goodIn_r _ [15, 8, 16, 17, 2, 18, 19, 20, 6, 21, 22, 23, 24, 25, 41, 42, 43, 44, 45, 46, 47, 48, 49, 50, 51, 52, 53, 54, 55, 56, 57, 58, 59, 60, 61, 62, 63, 64, 65, 66] (by decide +kernel) (by decide +kernel)
set_option maxRecDepth 20000 in
theorem gX8_chance_X8_grows : GoodIn wsX8_chance (wsV RX8 186 RX8 yX8_grows wsX8_grows) := goodIn_app (goodIn_of _ (by decide +kernel)) ggX8_chance_X8_grows
set_option maxRecDepth 20000 in
theorem ggX8_chance_X8_sum : GoodIn wsX8_chance wsX8_sum := goodIn_r _ [29, 30, 18, 19, 20, 6, 21, 8, 17, 41, 42, 43, 44, 45, 46, 47, 48, 49, 50, 51, 52, 53, 54, 55, 56, 57, 58, 59, 60, 61, 62, 63, 64, 65, 66] (by decide +kernel) (by decide +kernel)
set_option maxRecDepth 20000 in
theorem gX8_chance_X8_sum : GoodIn wsX8_chance (wsV RX8 149 RX8 yX8_sum wsX8_sum) := goodIn_app (goodIn_of _ (by decide +kernel)) ggX8_chance_X8_sum
set_option maxRecDepth 20000 in
theorem ggX8_chance_X8_below : GoodIn wsX8_chance wsX8_below := goodIn_r _ [34, 8, 2, 26, 27, 28, 6, 29, 30, 18, 19, 20, 21, 17, 41, 42, 43, 44, 45, 46, 47, 48, 49, 50, 51, 52, 53, 54, 55, 56, 57, 58, 59, 60, 61, 62, 63, 64, 65, 66] (by decide +kernel) (by decide +kernel)
set_option maxRecDepth 20000 in
theorem gX8_chance_X8_below : GoodIn wsX8_chance (wsV RX8 189 RX8 yX8_below wsX8_below) := goodIn_app (goodIn_of _ (by decide +kernel)) ggX8_chance_X8_below
set_option maxRecDepth 20000 in
theorem ggX8_chance_X8_term : GoodIn wsX8_chance wsX8_term := goodIn_r _ [37, 38, 39, 6, 40] (by decide +kernel) (by decide +kernel)
set_option maxRecDepth 20000 in
theorem gX8_chance_X8_term : GoodIn wsX8_chance (va_wsS RX8 193 yX8_term wsX8_term) := goodIn_app (goodIn_of _ (by decide +kernel)) ggX8_chance_X8_term
theorem dX8_chance_0 : decode cX8_chance 0 = .ok (.aload_n 0, 1) := by decide +kernel
theorem dX8_chance_1 : decode cX8_chance 1 = .ok (.iload_n 1, 1) := by decide +kernel
theorem dX8_chance_2 : decode cX8_chance 2 = .ok (.invokevirtual 136, 3) := by decide +kernel
theorem dX8_chance_5 : decode cX8_chance 5 = .ok (.ifCond .eq 12, 3) := by decide +kernel
theorem dX8_chance_8 : decode cX8_chance 8 = .ok (.iload_n 2, 1) := by decide +kernel
theorem dX8_chance_9 : decode cX8_chance 9 = .ok (.iconst 0, 1) := by decide +kernel
theorem dX8_chance_10 : decode cX8_chance 10 = .ok (.iconst 1, 1) := by decide +kernel
theorem dX8_chance_11 : decode cX8_chance 11 = .ok (.invokestatic 98, 3) := by decide +kernel
theorem dX8_chance_14 : decode cX8_chance 14 = .ok (.ifCond .ne 7, 3) := by decide +kernel
theorem dX8_chance_17 : decode cX8_chance 17 = .ok (.ldc2_w 184, 3) := by decide +kernel
theorem dX8_chance_20 : decode cX8_chance 20 = .ok (.lreturn, 1) := by decide +kernel
theorem dX8_chance_21 : decode cX8_chance 21 = .ok (.aload_n 0, 1) := by decide +kernel
theorem dX8_chance_22 : decode cX8_chance 22 = .ok (.invokevirtual 186, 3) := by decide +kernel
theorem dX8_chance_25 : decode cX8_chance 25 = .ok (.aload_n 0, 1) := by decide +kernel
theorem dX8_chance_26 : decode cX8_chance 26 = .ok (.getfield 40, 3) := by decide +kernel
theorem dX8_chance_29 : decode cX8_chance 29 = .ok (.iload_n 1, 1) := by decide +kernel
theorem dX8_chance_30 : decode cX8_chance 30 = .ok (.laload, 1) := by decide +kernel
theorem dX8_chance_31 : decode cX8_chance 31 = .ok (.aload_n 0, 1) := by decide +kernel
theorem dX8_chance_32 : decode cX8_chance 32 = .ok (.iload_n 1, 1) := by decide +kernel
theorem dX8_chance_33 : decode cX8_chance 33 = .ok (.invokevirtual 149, 3) := by decide +kernel
theorem dX8_chance_36 : decode cX8_chance 36 = .ok (.i2l, 1) := by decide +kernel
theorem dX8_chance_37 : decode cX8_chance 37 = .ok (.lmul, 1) := by decide +kernel
theorem dX8_chance_38 : decode cX8_chance 38 = .ok (.aload_n 0, 1) := by decide +kernel
theorem dX8_chance_39 : decode cX8_chance 39 = .ok (.invokevirtual 189, 3) := by decide +kernel
theorem dX8_chance_42 : decode cX8_chance 42 = .ok (.iload_n 2, 1) := by decide +kernel
theorem dX8_chance_43 : decode cX8_chance 43 = .ok (.invokestatic 193, 3) := by decide +kernel
theorem dX8_chance_46 : decode cX8_chance 46 = .ok (.lreturn, 1) := by decide +kernel
theorem dX8_crossing_0 : decode cX8_crossing 0 = .ok (.lconst 0, 1) := by decide +kernel
theorem dX8_crossing_1 : decode cX8_crossing 1 = .ok (.lstore 4, 2) := by decide +kernel
theorem dX8_crossing_3 : decode cX8_crossing 3 = .ok (.iconst 0, 1) := by decide +kernel
theorem dX8_crossing_4 : decode cX8_crossing 4 = .ok (.istore 6, 2) := by decide +kernel
theorem dX8_crossing_6 : decode cX8_crossing 6 = .ok (.iload 6, 2) := by decide +kernel
theorem dX8_crossing_8 : decode cX8_crossing 8 = .ok (.aload_n 0, 1) := by decide +kernel
theorem dX8_crossing_9 : decode cX8_crossing 9 = .ok (.getfield 76, 3) := by decide +kernel
theorem dX8_crossing_12 : decode cX8_crossing 12 = .ok (.if_icmp .ge 77, 3) := by decide +kernel
theorem dX8_crossing_15 : decode cX8_crossing 15 = .ok (.iconst 0, 1) := by decide +kernel
theorem dX8_crossing_16 : decode cX8_crossing 16 = .ok (.istore 7, 2) := by decide +kernel
theorem dX8_crossing_18 : decode cX8_crossing 18 = .ok (.iload 7, 2) := by decide +kernel
theorem dX8_crossing_20 : decode cX8_crossing 20 = .ok (.aload_n 0, 1) := by decide +kernel
theorem dX8_crossing_21 : decode cX8_crossing 21 = .ok (.getfield 76, 3) := by decide +kernel
theorem dX8_crossing_24 : decode cX8_crossing 24 = .ok (.if_icmp .ge 59, 3) := by decide +kernel
theorem dX8_crossing_27 : decode cX8_crossing 27 = .ok (.lload 4, 2) := by decide +kernel
theorem dX8_crossing_29 : decode cX8_crossing 29 = .ok (.iload_n 3, 1) := by decide +kernel
theorem dX8_crossing_30 : decode cX8_crossing 30 = .ok (.ifCond .ne 18, 3) := by decide +kernel
theorem dX8_crossing_33 : decode cX8_crossing 33 = .ok (.aload_n 1, 1) := by decide +kernel
theorem dX8_crossing_34 : decode cX8_crossing 34 = .ok (.iload_n 2, 1) := by decide +kernel
theorem dX8_crossing_35 : decode cX8_crossing 35 = .ok (.iload 6, 2) := by decide +kernel
theorem dX8_crossing_37 : decode cX8_crossing 37 = .ok (.iadd, 1) := by decide +kernel
theorem dX8_crossing_38 : decode cX8_crossing 38 = .ok (.iaload, 1) := by decide +kernel
theorem dX8_crossing_39 : decode cX8_crossing 39 = .ok (.aload_n 1, 1) := by decide +kernel
theorem dX8_crossing_40 : decode cX8_crossing 40 = .ok (.iload_n 2, 1) := by decide +kernel
theorem dX8_crossing_41 : decode cX8_crossing 41 = .ok (.iload 7, 2) := by decide +kernel
theorem dX8_crossing_43 : decode cX8_crossing 43 = .ok (.iadd, 1) := by decide +kernel
theorem dX8_crossing_44 : decode cX8_crossing 44 = .ok (.iaload, 1) := by decide +kernel
theorem dX8_crossing_45 : decode cX8_crossing 45 = .ok (.if_icmp .eq 28, 3) := by decide +kernel
theorem dX8_crossing_48 : decode cX8_crossing 48 = .ok (.aload_n 0, 1) := by decide +kernel
theorem dX8_crossing_49 : decode cX8_crossing 49 = .ok (.getfield 40, 3) := by decide +kernel
theorem dX8_crossing_52 : decode cX8_crossing 52 = .ok (.iload 6, 2) := by decide +kernel
theorem dX8_crossing_54 : decode cX8_crossing 54 = .ok (.laload, 1) := by decide +kernel
theorem dX8_crossing_55 : decode cX8_crossing 55 = .ok (.aload_n 0, 1) := by decide +kernel
theorem dX8_crossing_56 : decode cX8_crossing 56 = .ok (.getfield 13, 3) := by decide +kernel
theorem dX8_crossing_59 : decode cX8_crossing 59 = .ok (.bipush 6, 2) := by decide +kernel
theorem dX8_crossing_61 : decode cX8_crossing 61 = .ok (.iload 6, 2) := by decide +kernel
theorem dX8_crossing_63 : decode cX8_crossing 63 = .ok (.imul, 1) := by decide +kernel
theorem dX8_crossing_64 : decode cX8_crossing 64 = .ok (.iload 7, 2) := by decide +kernel
theorem dX8_crossing_66 : decode cX8_crossing 66 = .ok (.iadd, 1) := by decide +kernel
theorem dX8_crossing_67 : decode cX8_crossing 67 = .ok (.iaload, 1) := by decide +kernel
theorem dX8_crossing_68 : decode cX8_crossing 68 = .ok (.i2l, 1) := by decide +kernel
theorem dX8_crossing_69 : decode cX8_crossing 69 = .ok (.lmul, 1) := by decide +kernel
theorem dX8_crossing_70 : decode cX8_crossing 70 = .ok (.goto 4, 3) := by decide +kernel
theorem dX8_crossing_73 : decode cX8_crossing 73 = .ok (.lconst 0, 1) := by decide +kernel
theorem dX8_crossing_74 : decode cX8_crossing 74 = .ok (.ladd, 1) := by decide +kernel
theorem dX8_crossing_75 : decode cX8_crossing 75 = .ok (.lstore 4, 2) := by decide +kernel
theorem dX8_crossing_77 : decode cX8_crossing 77 = .ok (.iinc 7 1, 3) := by decide +kernel
theorem dX8_crossing_80 : decode cX8_crossing 80 = .ok (.goto (-62), 3) := by decide +kernel
theorem dX8_crossing_83 : decode cX8_crossing 83 = .ok (.iinc 6 1, 3) := by decide +kernel
theorem dX8_crossing_86 : decode cX8_crossing 86 = .ok (.goto (-80), 3) := by decide +kernel
theorem dX8_crossing_89 : decode cX8_crossing 89 = .ok (.lload 4, 2) := by decide +kernel
theorem dX8_crossing_91 : decode cX8_crossing 91 = .ok (.lreturn, 1) := by decide +kernel
set_option maxRecDepth 20000 in
theorem ggX8_expense_X8_crossing : GoodIn wsX8_expense wsX8_crossing := goodIn_r _ [9, 3, 4, 10, 20, 21, 22, 23, 24, 25, 26, 27, 28, 29, 30, 31, 32, 33, 34, 35, 36, 37, 38, 39, 40, 41, 42, 43, 44, 45] (by decide +kernel) (by decide +kernel)
set_option maxRecDepth 20000 in
theorem gX8_expense_X8_crossing : GoodIn wsX8_expense (wsV RX8 199 RX8 yX8_crossing wsX8_crossing) := goodIn_app (goodIn_of _ (by decide +kernel)) ggX8_expense_X8_crossing
set_option maxRecDepth 20000 in
theorem ggX8_expense_X8_sum : GoodIn wsX8_expense wsX8_sum := goodIn_r _ [14, 15, 16, 17, 18, 8, 19, 3, 10, 20, 21, 22, 23, 24, 25, 26, 27, 28, 29, 30, 31, 32, 33, 34, 35, 36, 37, 38, 39, 40, 41, 42, 43, 44, 45] (by decide +kernel) (by decide +kernel)
set_option maxRecDepth 20000 in
theorem gX8_expense_X8_sum : GoodIn wsX8_expense (wsV RX8 149 RX8 yX8_sum wsX8_sum) := goodIn_app (goodIn_of _ (by decide +kernel)) ggX8_expense_X8_sum
theorem dX8_expense_0 : decode cX8_expense 0 = .ok (.ldc2_w 197, 3) := by decide +kernel
theorem dX8_expense_3 : decode cX8_expense 3 = .ok (.aload_n 0, 1) := by decide +kernel
theorem dX8_expense_4 : decode cX8_expense 4 = .ok (.getfield 16, 3) := by decide +kernel
theorem dX8_expense_7 : decode cX8_expense 7 = .ok (.iconst 2, 1) := by decide +kernel
theorem dX8_expense_8 : decode cX8_expense 8 = .ok (.iaload, 1) := by decide +kernel
theorem dX8_expense_9 : decode cX8_expense 9 = .ok (.i2l, 1) := by decide +kernel
theorem dX8_expense_10 : decode cX8_expense 10 = .ok (.lmul, 1) := by decide +kernel
theorem dX8_expense_11 : decode cX8_expense 11 = .ok (.aload_n 0, 1) := by decide +kernel
theorem dX8_expense_12 : decode cX8_expense 12 = .ok (.aload_n 1, 1) := by decide +kernel
theorem dX8_expense_13 : decode cX8_expense 13 = .ok (.iload_n 2, 1) := by decide +kernel
theorem dX8_expense_14 : decode cX8_expense 14 = .ok (.iconst 0, 1) := by decide +kernel
theorem dX8_expense_15 : decode cX8_expense 15 = .ok (.invokevirtual 199, 3) := by decide +kernel
theorem dX8_expense_18 : decode cX8_expense 18 = .ok (.lmul, 1) := by decide +kernel
theorem dX8_expense_19 : decode cX8_expense 19 = .ok (.lstore_n 3, 1) := by decide +kernel
theorem dX8_expense_20 : decode cX8_expense 20 = .ok (.iconst 0, 1) := by decide +kernel
theorem dX8_expense_21 : decode cX8_expense 21 = .ok (.istore 5, 2) := by decide +kernel
theorem dX8_expense_23 : decode cX8_expense 23 = .ok (.iload 5, 2) := by decide +kernel
theorem dX8_expense_25 : decode cX8_expense 25 = .ok (.aload_n 0, 1) := by decide +kernel
theorem dX8_expense_26 : decode cX8_expense 26 = .ok (.getfield 76, 3) := by decide +kernel
theorem dX8_expense_29 : decode cX8_expense 29 = .ok (.if_icmp .ge 80, 3) := by decide +kernel
theorem dX8_expense_32 : decode cX8_expense 32 = .ok (.iconst 0, 1) := by decide +kernel
theorem dX8_expense_33 : decode cX8_expense 33 = .ok (.istore 6, 2) := by decide +kernel
theorem dX8_expense_35 : decode cX8_expense 35 = .ok (.iload 6, 2) := by decide +kernel
theorem dX8_expense_37 : decode cX8_expense 37 = .ok (.aload_n 0, 1) := by decide +kernel
theorem dX8_expense_38 : decode cX8_expense 38 = .ok (.getfield 76, 3) := by decide +kernel
theorem dX8_expense_41 : decode cX8_expense 41 = .ok (.if_icmp .ge 62, 3) := by decide +kernel
theorem dX8_expense_44 : decode cX8_expense 44 = .ok (.lload_n 3, 1) := by decide +kernel
theorem dX8_expense_45 : decode cX8_expense 45 = .ok (.aload_n 1, 1) := by decide +kernel
theorem dX8_expense_46 : decode cX8_expense 46 = .ok (.iload_n 2, 1) := by decide +kernel
theorem dX8_expense_47 : decode cX8_expense 47 = .ok (.iload 5, 2) := by decide +kernel
theorem dX8_expense_49 : decode cX8_expense 49 = .ok (.iadd, 1) := by decide +kernel
theorem dX8_expense_50 : decode cX8_expense 50 = .ok (.iaload, 1) := by decide +kernel
theorem dX8_expense_51 : decode cX8_expense 51 = .ok (.aload_n 1, 1) := by decide +kernel
theorem dX8_expense_52 : decode cX8_expense 52 = .ok (.iload_n 2, 1) := by decide +kernel
theorem dX8_expense_53 : decode cX8_expense 53 = .ok (.iload 6, 2) := by decide +kernel
theorem dX8_expense_55 : decode cX8_expense 55 = .ok (.iadd, 1) := by decide +kernel
theorem dX8_expense_56 : decode cX8_expense 56 = .ok (.iaload, 1) := by decide +kernel
theorem dX8_expense_57 : decode cX8_expense 57 = .ok (.if_icmp .ne 37, 3) := by decide +kernel
theorem dX8_expense_60 : decode cX8_expense 60 = .ok (.aload_n 0, 1) := by decide +kernel
theorem dX8_expense_61 : decode cX8_expense 61 = .ok (.getfield 40, 3) := by decide +kernel
theorem dX8_expense_64 : decode cX8_expense 64 = .ok (.iload 5, 2) := by decide +kernel
theorem dX8_expense_66 : decode cX8_expense 66 = .ok (.laload, 1) := by decide +kernel
theorem dX8_expense_67 : decode cX8_expense 67 = .ok (.aload_n 0, 1) := by decide +kernel
theorem dX8_expense_68 : decode cX8_expense 68 = .ok (.iload 5, 2) := by decide +kernel
theorem dX8_expense_70 : decode cX8_expense 70 = .ok (.invokevirtual 149, 3) := by decide +kernel
theorem dX8_expense_73 : decode cX8_expense 73 = .ok (.i2l, 1) := by decide +kernel
theorem dX8_expense_74 : decode cX8_expense 74 = .ok (.lmul, 1) := by decide +kernel
theorem dX8_expense_75 : decode cX8_expense 75 = .ok (.aload_n 0, 1) := by decide +kernel
theorem dX8_expense_76 : decode cX8_expense 76 = .ok (.getfield 16, 3) := by decide +kernel
theorem dX8_expense_79 : decode cX8_expense 79 = .ok (.iconst 1, 1) := by decide +kernel
theorem dX8_expense_80 : decode cX8_expense 80 = .ok (.iaload, 1) := by decide +kernel
theorem dX8_expense_81 : decode cX8_expense 81 = .ok (.i2l, 1) := by decide +kernel
theorem dX8_expense_82 : decode cX8_expense 82 = .ok (.lmul, 1) := by decide +kernel
theorem dX8_expense_83 : decode cX8_expense 83 = .ok (.aload_n 0, 1) := by decide +kernel
theorem dX8_expense_84 : decode cX8_expense 84 = .ok (.getfield 16, 3) := by decide +kernel
theorem dX8_expense_87 : decode cX8_expense 87 = .ok (.iconst 3, 1) := by decide +kernel
theorem dX8_expense_88 : decode cX8_expense 88 = .ok (.iaload, 1) := by decide +kernel
theorem dX8_expense_89 : decode cX8_expense 89 = .ok (.i2l, 1) := by decide +kernel
theorem dX8_expense_90 : decode cX8_expense 90 = .ok (.lmul, 1) := by decide +kernel
theorem dX8_expense_91 : decode cX8_expense 91 = .ok (.goto 4, 3) := by decide +kernel
theorem dX8_expense_94 : decode cX8_expense 94 = .ok (.lconst 0, 1) := by decide +kernel
theorem dX8_expense_95 : decode cX8_expense 95 = .ok (.ladd, 1) := by decide +kernel
theorem dX8_expense_96 : decode cX8_expense 96 = .ok (.lstore_n 3, 1) := by decide +kernel
theorem dX8_expense_97 : decode cX8_expense 97 = .ok (.iinc 6 1, 3) := by decide +kernel
theorem dX8_expense_100 : decode cX8_expense 100 = .ok (.goto (-65), 3) := by decide +kernel
theorem dX8_expense_103 : decode cX8_expense 103 = .ok (.iinc 5 1, 3) := by decide +kernel
theorem dX8_expense_106 : decode cX8_expense 106 = .ok (.goto (-83), 3) := by decide +kernel
theorem dX8_expense_109 : decode cX8_expense 109 = .ok (.lload_n 3, 1) := by decide +kernel
theorem dX8_expense_110 : decode cX8_expense 110 = .ok (.lreturn, 1) := by decide +kernel
set_option maxRecDepth 20000 in
theorem ggX8_mean_X8_isIn : GoodIn wsX8_mean wsX8_isIn := goodIn_r _ [8] (by decide +kernel) (by decide +kernel)
set_option maxRecDepth 20000 in
theorem gX8_mean_X8_isIn : GoodIn wsX8_mean (va_wsS RX8 98 yX8_isIn wsX8_isIn) := goodIn_app (goodIn_of _ (by decide +kernel)) ggX8_mean_X8_isIn
set_option maxRecDepth 20000 in
theorem ggX8_mean_X8_grows : GoodIn wsX8_mean wsX8_grows := goodIn_r _ [12, 13, 14, 15, 16, 17, 18, 19, 7, 20, 21, 22, 23, 24, 48, 49, 50, 51, 52, 53, 54, 55, 56, 57, 58, 59, 60, 61, 62, 63, 64, 65, 66, 67, 68, 69, 70, 71, 72, 73] (by decide +kernel) (by decide +kernel)
set_option maxRecDepth 20000 in
theorem gX8_mean_X8_grows : GoodIn wsX8_mean (wsV RX8 186 RX8 yX8_grows wsX8_grows) := goodIn_app (goodIn_of _ (by decide +kernel)) ggX8_mean_X8_grows
set_option maxRecDepth 20000 in
theorem ggX8_mean_X8_below : GoodIn wsX8_mean wsX8_below := goodIn_r _ [28, 13, 16, 29, 30, 31, 7, 32, 2, 17, 18, 19, 20, 15, 48, 49, 50, 51, 52, 53, 54, 55, 56, 57, 58, 59, 60, 61, 62, 63, 64, 65, 66, 67, 68, 69, 70, 71, 72, 73] (by decide +kernel) (by decide +kernel)
set_option maxRecDepth 20000 in
theorem gX8_mean_X8_below : GoodIn wsX8_mean (wsV RX8 189 RX8 yX8_below wsX8_below) := goodIn_app (goodIn_of _ (by decide +kernel)) ggX8_mean_X8_below
set_option maxRecDepth 20000 in
theorem ggX8_mean_X8_crossing : GoodIn wsX8_mean wsX8_crossing := goodIn_r _ [36, 13, 16, 15, 48, 49, 50, 51, 52, 53, 54, 55, 56, 57, 58, 59, 60, 61, 62, 63, 64, 65, 66, 67, 68, 69, 70, 71, 72, 73] (by decide +kernel) (by decide +kernel)
set_option maxRecDepth 20000 in
theorem gX8_mean_X8_crossing : GoodIn wsX8_mean (wsV RX8 199 RX8 yX8_crossing wsX8_crossing) := goodIn_app (goodIn_of _ (by decide +kernel)) ggX8_mean_X8_crossing
set_option maxRecDepth 20000 in
theorem ggX8_mean_X8_term : GoodIn wsX8_mean wsX8_term := goodIn_r _ [39, 40, 41, 7, 42] (by decide +kernel) (by decide +kernel)
set_option maxRecDepth 20000 in
theorem gX8_mean_X8_term : GoodIn wsX8_mean (va_wsS RX8 193 yX8_term wsX8_term) := goodIn_app (goodIn_of _ (by decide +kernel)) ggX8_mean_X8_term
set_option maxRecDepth 20000 in
theorem ggX8_mean_X8_expense : GoodIn wsX8_mean wsX8_expense := goodIn_r _ [46, 3, 47, 13, 16, 33, 34, 35, 7, 36, 15, 29, 30, 31, 32, 2, 17, 18, 19, 20, 48, 49, 50, 51, 52, 53, 54, 55, 56, 57, 58, 59, 60, 61, 62, 63, 64, 65, 66, 67, 68, 69, 70, 71, 72, 73] (by decide +kernel) (by decide +kernel)
set_option maxRecDepth 20000 in
theorem gX8_mean_X8_expense : GoodIn wsX8_mean (wsV RX8 203 RX8 yX8_expense wsX8_expense) := goodIn_app (goodIn_of _ (by decide +kernel)) ggX8_mean_X8_expense
theorem dX8_mean_0 : decode cX8_mean 0 = .ok (.iload_n 1, 1) := by decide +kernel
theorem dX8_mean_1 : decode cX8_mean 1 = .ok (.iconst 0, 1) := by decide +kernel
theorem dX8_mean_2 : decode cX8_mean 2 = .ok (.iconst 3, 1) := by decide +kernel
theorem dX8_mean_3 : decode cX8_mean 3 = .ok (.invokestatic 98, 3) := by decide +kernel
theorem dX8_mean_6 : decode cX8_mean 6 = .ok (.ifCond .eq 12, 3) := by decide +kernel
theorem dX8_mean_9 : decode cX8_mean 9 = .ok (.iload_n 2, 1) := by decide +kernel
theorem dX8_mean_10 : decode cX8_mean 10 = .ok (.iconst 0, 1) := by decide +kernel
theorem dX8_mean_11 : decode cX8_mean 11 = .ok (.iconst 1, 1) := by decide +kernel
theorem dX8_mean_12 : decode cX8_mean 12 = .ok (.invokestatic 98, 3) := by decide +kernel
theorem dX8_mean_15 : decode cX8_mean 15 = .ok (.ifCond .ne 7, 3) := by decide +kernel
theorem dX8_mean_18 : decode cX8_mean 18 = .ok (.ldc2_w 184, 3) := by decide +kernel
theorem dX8_mean_21 : decode cX8_mean 21 = .ok (.lreturn, 1) := by decide +kernel
theorem dX8_mean_22 : decode cX8_mean 22 = .ok (.aload_n 0, 1) := by decide +kernel
theorem dX8_mean_23 : decode cX8_mean 23 = .ok (.invokevirtual 186, 3) := by decide +kernel
theorem dX8_mean_26 : decode cX8_mean 26 = .ok (.aload_n 0, 1) := by decide +kernel
theorem dX8_mean_27 : decode cX8_mean 27 = .ok (.invokevirtual 189, 3) := by decide +kernel
theorem dX8_mean_30 : decode cX8_mean 30 = .ok (.lstore_n 3, 1) := by decide +kernel
theorem dX8_mean_31 : decode cX8_mean 31 = .ok (.iload_n 1, 1) := by decide +kernel
theorem dX8_mean_32 : decode cX8_mean 32 = .ok (.iconst 2, 1) := by decide +kernel
theorem dX8_mean_33 : decode cX8_mean 33 = .ok (.if_icmp .ge 29, 3) := by decide +kernel
theorem dX8_mean_36 : decode cX8_mean 36 = .ok (.aload_n 0, 1) := by decide +kernel
theorem dX8_mean_37 : decode cX8_mean 37 = .ok (.aload_n 0, 1) := by decide +kernel
theorem dX8_mean_38 : decode cX8_mean 38 = .ok (.getfield 19, 3) := by decide +kernel
theorem dX8_mean_41 : decode cX8_mean 41 = .ok (.bipush 6, 2) := by decide +kernel
theorem dX8_mean_43 : decode cX8_mean 43 = .ok (.iload_n 1, 1) := by decide +kernel
theorem dX8_mean_44 : decode cX8_mean 44 = .ok (.iconst 1, 1) := by decide +kernel
theorem dX8_mean_45 : decode cX8_mean 45 = .ok (.if_icmp .ne 7, 3) := by decide +kernel
theorem dX8_mean_48 : decode cX8_mean 48 = .ok (.iconst 1, 1) := by decide +kernel
theorem dX8_mean_49 : decode cX8_mean 49 = .ok (.goto 4, 3) := by decide +kernel
theorem dX8_mean_52 : decode cX8_mean 52 = .ok (.iconst 0, 1) := by decide +kernel
theorem dX8_mean_53 : decode cX8_mean 53 = .ok (.invokevirtual 199, 3) := by decide +kernel
theorem dX8_mean_56 : decode cX8_mean 56 = .ok (.lload_n 3, 1) := by decide +kernel
theorem dX8_mean_57 : decode cX8_mean 57 = .ok (.iload_n 2, 1) := by decide +kernel
theorem dX8_mean_58 : decode cX8_mean 58 = .ok (.invokestatic 193, 3) := by decide +kernel
theorem dX8_mean_61 : decode cX8_mean 61 = .ok (.lreturn, 1) := by decide +kernel
theorem dX8_mean_62 : decode cX8_mean 62 = .ok (.iload_n 1, 1) := by decide +kernel
theorem dX8_mean_63 : decode cX8_mean 63 = .ok (.iconst 3, 1) := by decide +kernel
theorem dX8_mean_64 : decode cX8_mean 64 = .ok (.if_icmp .ne 23, 3) := by decide +kernel
theorem dX8_mean_67 : decode cX8_mean 67 = .ok (.aload_n 0, 1) := by decide +kernel
theorem dX8_mean_68 : decode cX8_mean 68 = .ok (.aload_n 0, 1) := by decide +kernel
theorem dX8_mean_69 : decode cX8_mean 69 = .ok (.getfield 19, 3) := by decide +kernel
theorem dX8_mean_72 : decode cX8_mean 72 = .ok (.bipush 6, 2) := by decide +kernel
theorem dX8_mean_74 : decode cX8_mean 74 = .ok (.invokevirtual 203, 3) := by decide +kernel
theorem dX8_mean_77 : decode cX8_mean 77 = .ok (.ldc2_w 197, 3) := by decide +kernel
theorem dX8_mean_80 : decode cX8_mean 80 = .ok (.lload_n 3, 1) := by decide +kernel
theorem dX8_mean_81 : decode cX8_mean 81 = .ok (.lmul, 1) := by decide +kernel
theorem dX8_mean_82 : decode cX8_mean 82 = .ok (.iload_n 2, 1) := by decide +kernel
theorem dX8_mean_83 : decode cX8_mean 83 = .ok (.invokestatic 193, 3) := by decide +kernel
theorem dX8_mean_86 : decode cX8_mean 86 = .ok (.lreturn, 1) := by decide +kernel
theorem dX8_mean_87 : decode cX8_mean 87 = .ok (.aload_n 0, 1) := by decide +kernel
theorem dX8_mean_88 : decode cX8_mean 88 = .ok (.getfield 19, 3) := by decide +kernel
theorem dX8_mean_91 : decode cX8_mean 91 = .ok (.bipush 12, 2) := by decide +kernel
theorem dX8_mean_93 : decode cX8_mean 93 = .ok (.iaload, 1) := by decide +kernel
theorem dX8_mean_94 : decode cX8_mean 94 = .ok (.tableswitch 83 0 2 #[26, 43, 69], 26) := by decide +kernel
theorem dX8_mean_120 : decode cX8_mean 120 = .ok (.aload_n 0, 1) := by decide +kernel
theorem dX8_mean_121 : decode cX8_mean 121 = .ok (.aload_n 0, 1) := by decide +kernel
theorem dX8_mean_122 : decode cX8_mean 122 = .ok (.getfield 19, 3) := by decide +kernel
theorem dX8_mean_125 : decode cX8_mean 125 = .ok (.bipush 6, 2) := by decide +kernel
theorem dX8_mean_127 : decode cX8_mean 127 = .ok (.iconst 0, 1) := by decide +kernel
theorem dX8_mean_128 : decode cX8_mean 128 = .ok (.invokevirtual 199, 3) := by decide +kernel
theorem dX8_mean_131 : decode cX8_mean 131 = .ok (.lload_n 3, 1) := by decide +kernel
theorem dX8_mean_132 : decode cX8_mean 132 = .ok (.iload_n 2, 1) := by decide +kernel
theorem dX8_mean_133 : decode cX8_mean 133 = .ok (.invokestatic 193, 3) := by decide +kernel
theorem dX8_mean_136 : decode cX8_mean 136 = .ok (.lreturn, 1) := by decide +kernel
theorem dX8_mean_137 : decode cX8_mean 137 = .ok (.aload_n 0, 1) := by decide +kernel
theorem dX8_mean_138 : decode cX8_mean 138 = .ok (.aload_n 0, 1) := by decide +kernel
theorem dX8_mean_139 : decode cX8_mean 139 = .ok (.getfield 19, 3) := by decide +kernel
theorem dX8_mean_142 : decode cX8_mean 142 = .ok (.bipush 6, 2) := by decide +kernel
theorem dX8_mean_144 : decode cX8_mean 144 = .ok (.iconst 1, 1) := by decide +kernel
theorem dX8_mean_145 : decode cX8_mean 145 = .ok (.invokevirtual 199, 3) := by decide +kernel
theorem dX8_mean_148 : decode cX8_mean 148 = .ok (.lload_n 3, 1) := by decide +kernel
theorem dX8_mean_149 : decode cX8_mean 149 = .ok (.aload_n 0, 1) := by decide +kernel
theorem dX8_mean_150 : decode cX8_mean 150 = .ok (.getfield 19, 3) := by decide +kernel
theorem dX8_mean_153 : decode cX8_mean 153 = .ok (.bipush 13, 2) := by decide +kernel
theorem dX8_mean_155 : decode cX8_mean 155 = .ok (.iaload, 1) := by decide +kernel
theorem dX8_mean_156 : decode cX8_mean 156 = .ok (.i2l, 1) := by decide +kernel
theorem dX8_mean_157 : decode cX8_mean 157 = .ok (.lmul, 1) := by decide +kernel
theorem dX8_mean_158 : decode cX8_mean 158 = .ok (.iload_n 2, 1) := by decide +kernel
theorem dX8_mean_159 : decode cX8_mean 159 = .ok (.invokestatic 193, 3) := by decide +kernel
theorem dX8_mean_162 : decode cX8_mean 162 = .ok (.lreturn, 1) := by decide +kernel
theorem dX8_mean_163 : decode cX8_mean 163 = .ok (.lconst 1, 1) := by decide +kernel
theorem dX8_mean_164 : decode cX8_mean 164 = .ok (.aload_n 0, 1) := by decide +kernel
theorem dX8_mean_165 : decode cX8_mean 165 = .ok (.getfield 19, 3) := by decide +kernel
theorem dX8_mean_168 : decode cX8_mean 168 = .ok (.bipush 13, 2) := by decide +kernel
theorem dX8_mean_170 : decode cX8_mean 170 = .ok (.iaload, 1) := by decide +kernel
theorem dX8_mean_171 : decode cX8_mean 171 = .ok (.i2l, 1) := by decide +kernel
theorem dX8_mean_172 : decode cX8_mean 172 = .ok (.iload_n 2, 1) := by decide +kernel
theorem dX8_mean_173 : decode cX8_mean 173 = .ok (.invokestatic 193, 3) := by decide +kernel
theorem dX8_mean_176 : decode cX8_mean 176 = .ok (.lreturn, 1) := by decide +kernel
theorem dX8_mean_177 : decode cX8_mean 177 = .ok (.ldc2_w 207, 3) := by decide +kernel
theorem dX8_mean_180 : decode cX8_mean 180 = .ok (.lreturn, 1) := by decide +kernel
theorem dX8_goesOn_0 : decode cX8_goesOn 0 = .ok (.aload_n 0, 1) := by decide +kernel
theorem dX8_goesOn_1 : decode cX8_goesOn 1 = .ok (.getfield 76, 3) := by decide +kernel
theorem dX8_goesOn_4 : decode cX8_goesOn 4 = .ok (.iconst 1, 1) := by decide +kernel
theorem dX8_goesOn_5 : decode cX8_goesOn 5 = .ok (.isub, 1) := by decide +kernel
theorem dX8_goesOn_6 : decode cX8_goesOn 6 = .ok (.istore_n 1, 1) := by decide +kernel
theorem dX8_goesOn_7 : decode cX8_goesOn 7 = .ok (.iload_n 1, 1) := by decide +kernel
theorem dX8_goesOn_8 : decode cX8_goesOn 8 = .ok (.ifCond .le 92, 3) := by decide +kernel
theorem dX8_goesOn_11 : decode cX8_goesOn 11 = .ok (.iconst 0, 1) := by decide +kernel
theorem dX8_goesOn_12 : decode cX8_goesOn 12 = .ok (.istore_n 2, 1) := by decide +kernel
theorem dX8_goesOn_13 : decode cX8_goesOn 13 = .ok (.iconst 0, 1) := by decide +kernel
theorem dX8_goesOn_14 : decode cX8_goesOn 14 = .ok (.istore_n 3, 1) := by decide +kernel
theorem dX8_goesOn_15 : decode cX8_goesOn 15 = .ok (.iload_n 3, 1) := by decide +kernel
theorem dX8_goesOn_16 : decode cX8_goesOn 16 = .ok (.iload_n 1, 1) := by decide +kernel
theorem dX8_goesOn_17 : decode cX8_goesOn 17 = .ok (.if_icmp .ge 30, 3) := by decide +kernel
theorem dX8_goesOn_20 : decode cX8_goesOn 20 = .ok (.aload_n 0, 1) := by decide +kernel
theorem dX8_goesOn_21 : decode cX8_goesOn 21 = .ok (.getfield 47, 3) := by decide +kernel
theorem dX8_goesOn_24 : decode cX8_goesOn 24 = .ok (.iload_n 3, 1) := by decide +kernel
theorem dX8_goesOn_25 : decode cX8_goesOn 25 = .ok (.iaload, 1) := by decide +kernel
theorem dX8_goesOn_26 : decode cX8_goesOn 26 = .ok (.iload_n 2, 1) := by decide +kernel
theorem dX8_goesOn_27 : decode cX8_goesOn 27 = .ok (.if_icmp .le 12, 3) := by decide +kernel
theorem dX8_goesOn_30 : decode cX8_goesOn 30 = .ok (.aload_n 0, 1) := by decide +kernel
theorem dX8_goesOn_31 : decode cX8_goesOn 31 = .ok (.getfield 47, 3) := by decide +kernel
theorem dX8_goesOn_34 : decode cX8_goesOn 34 = .ok (.iload_n 3, 1) := by decide +kernel
theorem dX8_goesOn_35 : decode cX8_goesOn 35 = .ok (.iaload, 1) := by decide +kernel
theorem dX8_goesOn_36 : decode cX8_goesOn 36 = .ok (.goto 4, 3) := by decide +kernel
theorem dX8_goesOn_39 : decode cX8_goesOn 39 = .ok (.iload_n 2, 1) := by decide +kernel
theorem dX8_goesOn_40 : decode cX8_goesOn 40 = .ok (.istore_n 2, 1) := by decide +kernel
theorem dX8_goesOn_41 : decode cX8_goesOn 41 = .ok (.iinc 3 1, 3) := by decide +kernel
theorem dX8_goesOn_44 : decode cX8_goesOn 44 = .ok (.goto (-29), 3) := by decide +kernel
theorem dX8_goesOn_47 : decode cX8_goesOn 47 = .ok (.aload_n 0, 1) := by decide +kernel
theorem dX8_goesOn_48 : decode cX8_goesOn 48 = .ok (.getfield 47, 3) := by decide +kernel
theorem dX8_goesOn_51 : decode cX8_goesOn 51 = .ok (.iload_n 1, 1) := by decide +kernel
theorem dX8_goesOn_52 : decode cX8_goesOn 52 = .ok (.iaload, 1) := by decide +kernel
theorem dX8_goesOn_53 : decode cX8_goesOn 53 = .ok (.iload_n 2, 1) := by decide +kernel
theorem dX8_goesOn_54 : decode cX8_goesOn 54 = .ok (.if_icmp .gt 40, 3) := by decide +kernel
theorem dX8_goesOn_57 : decode cX8_goesOn 57 = .ok (.aload_n 0, 1) := by decide +kernel
theorem dX8_goesOn_58 : decode cX8_goesOn 58 = .ok (.getfield 47, 3) := by decide +kernel
theorem dX8_goesOn_61 : decode cX8_goesOn 61 = .ok (.iload_n 1, 1) := by decide +kernel
theorem dX8_goesOn_62 : decode cX8_goesOn 62 = .ok (.dup2, 1) := by decide +kernel
theorem dX8_goesOn_63 : decode cX8_goesOn 63 = .ok (.iaload, 1) := by decide +kernel
theorem dX8_goesOn_64 : decode cX8_goesOn 64 = .ok (.iconst 1, 1) := by decide +kernel
theorem dX8_goesOn_65 : decode cX8_goesOn 65 = .ok (.iadd, 1) := by decide +kernel
theorem dX8_goesOn_66 : decode cX8_goesOn 66 = .ok (.iastore, 1) := by decide +kernel
theorem dX8_goesOn_67 : decode cX8_goesOn 67 = .ok (.iload_n 1, 1) := by decide +kernel
theorem dX8_goesOn_68 : decode cX8_goesOn 68 = .ok (.iconst 1, 1) := by decide +kernel
theorem dX8_goesOn_69 : decode cX8_goesOn 69 = .ok (.iadd, 1) := by decide +kernel
theorem dX8_goesOn_70 : decode cX8_goesOn 70 = .ok (.istore_n 3, 1) := by decide +kernel
theorem dX8_goesOn_71 : decode cX8_goesOn 71 = .ok (.iload_n 3, 1) := by decide +kernel
theorem dX8_goesOn_72 : decode cX8_goesOn 72 = .ok (.aload_n 0, 1) := by decide +kernel
theorem dX8_goesOn_73 : decode cX8_goesOn 73 = .ok (.getfield 76, 3) := by decide +kernel
theorem dX8_goesOn_76 : decode cX8_goesOn 76 = .ok (.if_icmp .ge 16, 3) := by decide +kernel
theorem dX8_goesOn_79 : decode cX8_goesOn 79 = .ok (.aload_n 0, 1) := by decide +kernel
theorem dX8_goesOn_80 : decode cX8_goesOn 80 = .ok (.getfield 47, 3) := by decide +kernel
theorem dX8_goesOn_83 : decode cX8_goesOn 83 = .ok (.iload_n 3, 1) := by decide +kernel
theorem dX8_goesOn_84 : decode cX8_goesOn 84 = .ok (.iconst 0, 1) := by decide +kernel
theorem dX8_goesOn_85 : decode cX8_goesOn 85 = .ok (.iastore, 1) := by decide +kernel
theorem dX8_goesOn_86 : decode cX8_goesOn 86 = .ok (.iinc 3 1, 3) := by decide +kernel
theorem dX8_goesOn_89 : decode cX8_goesOn 89 = .ok (.goto (-18), 3) := by decide +kernel
theorem dX8_goesOn_92 : decode cX8_goesOn 92 = .ok (.iconst 1, 1) := by decide +kernel
theorem dX8_goesOn_93 : decode cX8_goesOn 93 = .ok (.ireturn, 1) := by decide +kernel
theorem dX8_goesOn_94 : decode cX8_goesOn 94 = .ok (.iinc 1 (-1), 3) := by decide +kernel
theorem dX8_goesOn_97 : decode cX8_goesOn 97 = .ok (.goto (-90), 3) := by decide +kernel
theorem dX8_goesOn_100 : decode cX8_goesOn 100 = .ok (.iconst 0, 1) := by decide +kernel
theorem dX8_goesOn_101 : decode cX8_goesOn 101 = .ok (.ireturn, 1) := by decide +kernel
set_option maxRecDepth 20000 in
theorem ggX8_finds_X8_grows : GoodIn wsX8_finds wsX8_grows := goodIn_r _ [7, 8, 9, 10, 11, 12, 13, 14, 6, 15, 16, 17, 18, 19, 39, 40, 41, 42, 43, 44, 45, 46, 47, 48, 49, 50, 51, 52, 53, 54, 55, 56, 57, 58, 59, 60, 61, 62, 63, 64] (by decide +kernel) (by decide +kernel)
set_option maxRecDepth 20000 in
theorem gX8_finds_X8_grows : GoodIn wsX8_finds (wsV RX8 186 RX8 yX8_grows wsX8_grows) := goodIn_app (goodIn_of _ (by decide +kernel)) ggX8_finds_X8_grows
set_option maxRecDepth 20000 in
theorem ggX8_finds_X8_expense : GoodIn wsX8_finds wsX8_expense := goodIn_r _ [23, 24, 25, 8, 11, 26, 27, 28, 6, 29, 10, 30, 31, 32, 33, 34, 12, 13, 14, 15, 39, 40, 41, 42, 43, 44, 45, 46, 47, 48, 49, 50, 51, 52, 53, 54, 55, 56, 57, 58, 59, 60, 61, 62, 63, 64] (by decide +kernel) (by decide +kernel)
set_option maxRecDepth 20000 in
theorem gX8_finds_X8_expense : GoodIn wsX8_finds (wsV RX8 203 RX8 yX8_expense wsX8_expense) := goodIn_app (goodIn_of _ (by decide +kernel)) ggX8_finds_X8_expense
set_option maxRecDepth 20000 in
theorem ggX8_finds_X8_goesOn : GoodIn wsX8_finds wsX8_goesOn := goodIn_r _ [38, 8, 1, 39, 40, 41, 42, 43, 44, 45, 46, 47, 48, 49, 50, 51, 52, 53, 54, 55, 56, 57, 58, 59, 60, 61, 62, 63, 64] (by decide +kernel) (by decide +kernel)
set_option maxRecDepth 20000 in
theorem gX8_finds_X8_goesOn : GoodIn wsX8_finds (wsV RX8 209 RX8 yX8_goesOn wsX8_goesOn) := goodIn_app (goodIn_of _ (by decide +kernel)) ggX8_finds_X8_goesOn
theorem dX8_finds_0 : decode cX8_finds 0 = .ok (.aload_n 0, 1) := by decide +kernel
theorem dX8_finds_1 : decode cX8_finds 1 = .ok (.invokevirtual 186, 3) := by decide +kernel
theorem dX8_finds_4 : decode cX8_finds 4 = .ok (.iconst 0, 1) := by decide +kernel
theorem dX8_finds_5 : decode cX8_finds 5 = .ok (.istore_n 1, 1) := by decide +kernel
theorem dX8_finds_6 : decode cX8_finds 6 = .ok (.iload_n 1, 1) := by decide +kernel
theorem dX8_finds_7 : decode cX8_finds 7 = .ok (.bipush 6, 2) := by decide +kernel
theorem dX8_finds_9 : decode cX8_finds 9 = .ok (.if_icmp .ge 23, 3) := by decide +kernel
theorem dX8_finds_12 : decode cX8_finds 12 = .ok (.aload_n 0, 1) := by decide +kernel
theorem dX8_finds_13 : decode cX8_finds 13 = .ok (.getfield 47, 3) := by decide +kernel
theorem dX8_finds_16 : decode cX8_finds 16 = .ok (.iload_n 1, 1) := by decide +kernel
theorem dX8_finds_17 : decode cX8_finds 17 = .ok (.iconst 0, 1) := by decide +kernel
theorem dX8_finds_18 : decode cX8_finds 18 = .ok (.iastore, 1) := by decide +kernel
theorem dX8_finds_19 : decode cX8_finds 19 = .ok (.aload_n 0, 1) := by decide +kernel
theorem dX8_finds_20 : decode cX8_finds 20 = .ok (.getfield 50, 3) := by decide +kernel
theorem dX8_finds_23 : decode cX8_finds 23 = .ok (.iload_n 1, 1) := by decide +kernel
theorem dX8_finds_24 : decode cX8_finds 24 = .ok (.iconst 0, 1) := by decide +kernel
theorem dX8_finds_25 : decode cX8_finds 25 = .ok (.iastore, 1) := by decide +kernel
theorem dX8_finds_26 : decode cX8_finds 26 = .ok (.iinc 1 1, 3) := by decide +kernel
theorem dX8_finds_29 : decode cX8_finds 29 = .ok (.goto (-23), 3) := by decide +kernel
theorem dX8_finds_32 : decode cX8_finds 32 = .ok (.aload_n 0, 1) := by decide +kernel
theorem dX8_finds_33 : decode cX8_finds 33 = .ok (.aload_n 0, 1) := by decide +kernel
theorem dX8_finds_34 : decode cX8_finds 34 = .ok (.getfield 47, 3) := by decide +kernel
theorem dX8_finds_37 : decode cX8_finds 37 = .ok (.iconst 0, 1) := by decide +kernel
theorem dX8_finds_38 : decode cX8_finds 38 = .ok (.invokevirtual 203, 3) := by decide +kernel
theorem dX8_finds_41 : decode cX8_finds 41 = .ok (.lstore_n 1, 1) := by decide +kernel
theorem dX8_finds_42 : decode cX8_finds 42 = .ok (.aload_n 0, 1) := by decide +kernel
theorem dX8_finds_43 : decode cX8_finds 43 = .ok (.invokevirtual 209, 3) := by decide +kernel
theorem dX8_finds_46 : decode cX8_finds 46 = .ok (.ifCond .eq 54, 3) := by decide +kernel
theorem dX8_finds_49 : decode cX8_finds 49 = .ok (.aload_n 0, 1) := by decide +kernel
theorem dX8_finds_50 : decode cX8_finds 50 = .ok (.aload_n 0, 1) := by decide +kernel
theorem dX8_finds_51 : decode cX8_finds 51 = .ok (.getfield 47, 3) := by decide +kernel
theorem dX8_finds_54 : decode cX8_finds 54 = .ok (.iconst 0, 1) := by decide +kernel
theorem dX8_finds_55 : decode cX8_finds 55 = .ok (.invokevirtual 203, 3) := by decide +kernel
theorem dX8_finds_58 : decode cX8_finds 58 = .ok (.lstore_n 3, 1) := by decide +kernel
theorem dX8_finds_59 : decode cX8_finds 59 = .ok (.lload_n 3, 1) := by decide +kernel
theorem dX8_finds_60 : decode cX8_finds 60 = .ok (.lload_n 1, 1) := by decide +kernel
theorem dX8_finds_61 : decode cX8_finds 61 = .ok (.lcmp, 1) := by decide +kernel
theorem dX8_finds_62 : decode cX8_finds 62 = .ok (.ifCond .ge 35, 3) := by decide +kernel
theorem dX8_finds_65 : decode cX8_finds 65 = .ok (.lload_n 3, 1) := by decide +kernel
theorem dX8_finds_66 : decode cX8_finds 66 = .ok (.lstore_n 1, 1) := by decide +kernel
theorem dX8_finds_67 : decode cX8_finds 67 = .ok (.iconst 0, 1) := by decide +kernel
theorem dX8_finds_68 : decode cX8_finds 68 = .ok (.istore 5, 2) := by decide +kernel
theorem dX8_finds_70 : decode cX8_finds 70 = .ok (.iload 5, 2) := by decide +kernel
theorem dX8_finds_72 : decode cX8_finds 72 = .ok (.bipush 6, 2) := by decide +kernel
theorem dX8_finds_74 : decode cX8_finds 74 = .ok (.if_icmp .ge 23, 3) := by decide +kernel
theorem dX8_finds_77 : decode cX8_finds 77 = .ok (.aload_n 0, 1) := by decide +kernel
theorem dX8_finds_78 : decode cX8_finds 78 = .ok (.getfield 50, 3) := by decide +kernel
theorem dX8_finds_81 : decode cX8_finds 81 = .ok (.iload 5, 2) := by decide +kernel
theorem dX8_finds_83 : decode cX8_finds 83 = .ok (.aload_n 0, 1) := by decide +kernel
theorem dX8_finds_84 : decode cX8_finds 84 = .ok (.getfield 47, 3) := by decide +kernel
theorem dX8_finds_87 : decode cX8_finds 87 = .ok (.iload 5, 2) := by decide +kernel
theorem dX8_finds_89 : decode cX8_finds 89 = .ok (.iaload, 1) := by decide +kernel
theorem dX8_finds_90 : decode cX8_finds 90 = .ok (.iastore, 1) := by decide +kernel
theorem dX8_finds_91 : decode cX8_finds 91 = .ok (.iinc 5 1, 3) := by decide +kernel
theorem dX8_finds_94 : decode cX8_finds 94 = .ok (.goto (-24), 3) := by decide +kernel
theorem dX8_finds_97 : decode cX8_finds 97 = .ok (.goto (-55), 3) := by decide +kernel
theorem dX8_finds_100 : decode cX8_finds 100 = .ok (.lload_n 1, 1) := by decide +kernel
theorem dX8_finds_101 : decode cX8_finds 101 = .ok (.lreturn, 1) := by decide +kernel
set_option maxRecDepth 20000 in
theorem ggX8_best_X8_isCell : GoodIn wsX8_best wsX8_isCell := goodIn_r _ [6, 7, 8, 9, 5, 10, 50, 51, 52, 53, 54, 55, 56, 57, 58, 59, 60, 61, 62, 63, 64, 65, 66, 67, 68, 69, 70, 71, 72, 73, 74, 75] (by decide +kernel) (by decide +kernel)
set_option maxRecDepth 20000 in
theorem gX8_best_X8_isCell : GoodIn wsX8_best (wsV RX8 136 RX8 yX8_isCell wsX8_isCell) := goodIn_app (goodIn_of _ (by decide +kernel)) ggX8_best_X8_isCell
set_option maxRecDepth 20000 in
theorem ggX8_best_X8_finds : GoodIn wsX8_best wsX8_finds := goodIn_r _ [14, 15, 1, 16, 17, 18, 5, 19, 7, 20, 21, 22, 23, 24, 25, 26, 27, 28, 29, 30, 31, 32, 33, 34, 35, 36, 37, 38, 39, 40, 41, 42, 43, 44, 45, 46, 47, 48, 49, 50, 51, 52, 53, 54, 55, 56, 57, 58, 59, 60, 61, 62, 63, 64, 65, 66, 67, 68, 69, 70, 71, 72, 73, 74, 75] (by decide +kernel) (by decide +kernel)
set_option maxRecDepth 20000 in
theorem gX8_best_X8_finds : GoodIn wsX8_best (wsV RX8 212 RX8 yX8_finds wsX8_finds) := goodIn_app (goodIn_of _ (by decide +kernel)) ggX8_best_X8_finds
theorem dX8_best_0 : decode cX8_best 0 = .ok (.aload_n 0, 1) := by decide +kernel
theorem dX8_best_1 : decode cX8_best 1 = .ok (.iload_n 1, 1) := by decide +kernel
theorem dX8_best_2 : decode cX8_best 2 = .ok (.invokevirtual 136, 3) := by decide +kernel
theorem dX8_best_5 : decode cX8_best 5 = .ok (.ifCond .ne 5, 3) := by decide +kernel
theorem dX8_best_8 : decode cX8_best 8 = .ok (.iconst (-1), 1) := by decide +kernel
theorem dX8_best_9 : decode cX8_best 9 = .ok (.ireturn, 1) := by decide +kernel
theorem dX8_best_10 : decode cX8_best 10 = .ok (.aload_n 0, 1) := by decide +kernel
theorem dX8_best_11 : decode cX8_best 11 = .ok (.invokevirtual 212, 3) := by decide +kernel
theorem dX8_best_14 : decode cX8_best 14 = .ok (.pop2, 1) := by decide +kernel
theorem dX8_best_15 : decode cX8_best 15 = .ok (.aload_n 0, 1) := by decide +kernel
theorem dX8_best_16 : decode cX8_best 16 = .ok (.getfield 50, 3) := by decide +kernel
theorem dX8_best_19 : decode cX8_best 19 = .ok (.iload_n 1, 1) := by decide +kernel
theorem dX8_best_20 : decode cX8_best 20 = .ok (.iaload, 1) := by decide +kernel
theorem dX8_best_21 : decode cX8_best 21 = .ok (.ireturn, 1) := by decide +kernel
set_option maxRecDepth 20000 in
theorem ggX8_least_X8_isIn : GoodIn wsX8_least wsX8_isIn := goodIn_r _ [6] (by decide +kernel) (by decide +kernel)
set_option maxRecDepth 20000 in
theorem gX8_least_X8_isIn : GoodIn wsX8_least (va_wsS RX8 98 yX8_isIn wsX8_isIn) := goodIn_app (goodIn_of _ (by decide +kernel)) ggX8_least_X8_isIn
set_option maxRecDepth 20000 in
theorem ggX8_least_X8_finds : GoodIn wsX8_least wsX8_finds := goodIn_r _ [10, 11, 12, 13, 14, 15, 5, 16, 17, 18, 19, 20, 21, 22, 23, 24, 25, 26, 27, 28, 29, 30, 31, 32, 2, 33, 34, 35, 36, 37, 38, 39, 40, 41, 42, 43, 44, 45, 46, 57, 58, 59, 60, 61, 62, 63, 64, 65, 66, 67, 68, 69, 70, 71, 72, 73, 74, 75, 76, 77, 78, 79, 80, 81, 82] (by decide +kernel) (by decide +kernel)
set_option maxRecDepth 20000 in
theorem gX8_least_X8_finds : GoodIn wsX8_least (wsV RX8 212 RX8 yX8_finds wsX8_finds) := goodIn_app (goodIn_of _ (by decide +kernel)) ggX8_least_X8_finds
set_option maxRecDepth 20000 in
theorem ggX8_least_X8_below : GoodIn wsX8_least wsX8_below := goodIn_r _ [50, 17, 20, 38, 39, 40, 5, 41, 42, 21, 22, 23, 24, 19, 57, 58, 59, 60, 61, 62, 63, 64, 65, 66, 67, 68, 69, 70, 71, 72, 73, 74, 75, 76, 77, 78, 79, 80, 81, 82] (by decide +kernel) (by decide +kernel)
set_option maxRecDepth 20000 in
theorem gX8_least_X8_below : GoodIn wsX8_least (wsV RX8 189 RX8 yX8_below wsX8_below) := goodIn_app (goodIn_of _ (by decide +kernel)) ggX8_least_X8_below
set_option maxRecDepth 20000 in
theorem ggX8_least_X8_term : GoodIn wsX8_least wsX8_term := goodIn_r _ [53, 54, 55, 5, 56] (by decide +kernel) (by decide +kernel)
set_option maxRecDepth 20000 in
theorem gX8_least_X8_term : GoodIn wsX8_least (va_wsS RX8 193 yX8_term wsX8_term) := goodIn_app (goodIn_of _ (by decide +kernel)) ggX8_least_X8_term
theorem dX8_least_0 : decode cX8_least 0 = .ok (.iload_n 1, 1) := by decide +kernel
theorem dX8_least_1 : decode cX8_least 1 = .ok (.iconst 0, 1) := by decide +kernel
theorem dX8_least_2 : decode cX8_least 2 = .ok (.iconst 1, 1) := by decide +kernel
theorem dX8_least_3 : decode cX8_least 3 = .ok (.invokestatic 98, 3) := by decide +kernel
theorem dX8_least_6 : decode cX8_least 6 = .ok (.ifCond .ne 7, 3) := by decide +kernel
theorem dX8_least_9 : decode cX8_least 9 = .ok (.ldc2_w 184, 3) := by decide +kernel
theorem dX8_least_12 : decode cX8_least 12 = .ok (.lreturn, 1) := by decide +kernel
theorem dX8_least_13 : decode cX8_least 13 = .ok (.aload_n 0, 1) := by decide +kernel
theorem dX8_least_14 : decode cX8_least 14 = .ok (.invokevirtual 212, 3) := by decide +kernel
theorem dX8_least_17 : decode cX8_least 17 = .ok (.ldc2_w 197, 3) := by decide +kernel
theorem dX8_least_20 : decode cX8_least 20 = .ok (.aload_n 0, 1) := by decide +kernel
theorem dX8_least_21 : decode cX8_least 21 = .ok (.invokevirtual 189, 3) := by decide +kernel
theorem dX8_least_24 : decode cX8_least 24 = .ok (.lmul, 1) := by decide +kernel
theorem dX8_least_25 : decode cX8_least 25 = .ok (.iload_n 1, 1) := by decide +kernel
theorem dX8_least_26 : decode cX8_least 26 = .ok (.invokestatic 193, 3) := by decide +kernel
theorem dX8_least_29 : decode cX8_least 29 = .ok (.lreturn, 1) := by decide +kernel
set_option maxRecDepth 20000 in
theorem ggX8_give_X8_finds : GoodIn wsX8_give wsX8_finds := goodIn_r _ [8, 9, 3, 10, 11, 12, 7, 13, 1, 14, 15, 16, 17, 18, 19, 20, 21, 22, 23, 24, 25, 26, 27, 28, 29, 30, 31, 32, 33, 34, 35, 36, 37, 38, 2, 39, 40, 41, 42, 52, 53, 54, 55, 56, 57, 58, 59, 60, 61, 62, 63, 64, 65, 66, 67, 68, 69, 70, 71, 72, 73, 74, 75, 76, 77] (by decide +kernel) (by decide +kernel)
set_option maxRecDepth 20000 in
theorem gX8_give_X8_finds : GoodIn wsX8_give (wsV RX8 212 RX8 yX8_finds wsX8_finds) := goodIn_app (goodIn_of _ (by decide +kernel)) ggX8_give_X8_finds
set_option maxRecDepth 20000 in
theorem ggX8_give_X8_keeps : GoodIn wsX8_give wsX8_keeps := goodIn_r _ [46, 47, 48, 2, 52, 53, 54, 55, 56, 57, 58, 59, 60, 61, 62, 63, 64, 65, 66, 67, 68, 69, 70, 71, 72, 73, 74, 75, 76, 77] (by decide +kernel) (by decide +kernel)
set_option maxRecDepth 20000 in
theorem gX8_give_X8_keeps : GoodIn wsX8_give (wsV RX8 139 RX8 yX8_keeps wsX8_keeps) := goodIn_app (goodIn_of _ (by decide +kernel)) ggX8_give_X8_keeps
set_option maxRecDepth 20000 in
theorem ggX8_give_X8_registers : GoodIn wsX8_give wsX8_registers := goodIn_r _ [51] (by decide +kernel) (by decide +kernel)
set_option maxRecDepth 20000 in
theorem gX8_give_X8_registers : GoodIn wsX8_give (va_wsS RX8 142 yX8_registers wsX8_registers) := goodIn_app (goodIn_of _ (by decide +kernel)) ggX8_give_X8_registers
theorem dX8_give_0 : decode cX8_give 0 = .ok (.aload_n 0, 1) := by decide +kernel
theorem dX8_give_1 : decode cX8_give 1 = .ok (.invokevirtual 212, 3) := by decide +kernel
theorem dX8_give_4 : decode cX8_give 4 = .ok (.pop2, 1) := by decide +kernel
theorem dX8_give_5 : decode cX8_give 5 = .ok (.aload_n 0, 1) := by decide +kernel
theorem dX8_give_6 : decode cX8_give 6 = .ok (.invokevirtual 139, 3) := by decide +kernel
theorem dX8_give_9 : decode cX8_give 9 = .ok (.iconst 0, 1) := by decide +kernel
theorem dX8_give_10 : decode cX8_give 10 = .ok (.istore_n 1, 1) := by decide +kernel
theorem dX8_give_11 : decode cX8_give 11 = .ok (.iconst 0, 1) := by decide +kernel
theorem dX8_give_12 : decode cX8_give 12 = .ok (.istore_n 2, 1) := by decide +kernel
theorem dX8_give_13 : decode cX8_give 13 = .ok (.iload_n 2, 1) := by decide +kernel
theorem dX8_give_14 : decode cX8_give 14 = .ok (.aload_n 0, 1) := by decide +kernel
theorem dX8_give_15 : decode cX8_give 15 = .ok (.getfield 76, 3) := by decide +kernel
theorem dX8_give_18 : decode cX8_give 18 = .ok (.if_icmp .ge 50, 3) := by decide +kernel
theorem dX8_give_21 : decode cX8_give 21 = .ok (.iload_n 1, 1) := by decide +kernel
theorem dX8_give_22 : decode cX8_give 22 = .ok (.aload_n 0, 1) := by decide +kernel
theorem dX8_give_23 : decode cX8_give 23 = .ok (.getfield 19, 3) := by decide +kernel
theorem dX8_give_26 : decode cX8_give 26 = .ok (.bipush 6, 2) := by decide +kernel
theorem dX8_give_28 : decode cX8_give 28 = .ok (.iload_n 2, 1) := by decide +kernel
theorem dX8_give_29 : decode cX8_give 29 = .ok (.iadd, 1) := by decide +kernel
