/-! ===== the words of the law, among the tables' ===== -/
theorem in_r {big ws : List Cond} (ps : List Nat) (hp : ws = ps.filterMap (fun i => big[i]?)) : ∀ w ∈ ws, w ∈ big := by
  intro w hw
  rw [hp] at hw
  obtain ⟨i, -, hi⟩ := List.mem_filterMap.mp hw
  exact List.mem_of_getElem? hi
set_option maxRecDepth 20000 in
theorem wsL_in1 : ∀ w ∈ wsL_law_r1, w ∈ lw_tbl := in_r [81, 82, 65, 767, 768, 79, 83, 84, 85, 86, 87, 88, 89, 90, 66, 491, 110, 111, 67, 492, 185, 186, 69, 493] (by decide +kernel)
set_option maxRecDepth 20000 in
theorem wsL_in2 : ∀ w ∈ wsL_law_r2, w ∈ lw_tbl := in_r [215, 216, 70, 494, 225, 226, 71, 495, 245, 118, 68, 496, 247, 248, 72, 497, 498, 499, 500, 98, 92, 93, 94, 109] (by decide +kernel)
set_option maxRecDepth 20000 in
theorem wsL_in3 : ∀ w ∈ wsL_law_r3, w ∈ lw_tbl := in_r [95, 96, 112, 113, 114, 115, 116, 174, 120, 121, 122, 123, 128, 188, 189, 190, 214, 191, 195, 200, 218, 219, 220, 221] (by decide +kernel)
set_option maxRecDepth 20000 in
theorem wsL_in4 : ∀ w ∈ wsL_law_r4, w ∈ lw_tbl := in_r [228, 229, 230, 231, 250, 251, 252, 253, 274, 279, 282, 286, 290, 292, 319, 320, 321, 73, 322, 1103, 323, 324, 325, 326] (by decide +kernel)
set_option maxRecDepth 20000 in
theorem wsL_in5 : ∀ w ∈ wsL_law_r5, w ∈ lw_tbl := in_r [327, 1104, 329, 330, 331, 332, 333, 334, 335, 336, 337, 338, 74, 339, 340, 341, 342, 343, 345, 346, 75, 347, 348, 349] (by decide +kernel)
set_option maxRecDepth 20000 in
theorem wsL_in6 : ∀ w ∈ wsL_law_r6, w ∈ lw_tbl := in_r [76, 350, 351, 352, 353, 354, 355, 356, 357, 358, 359, 360, 361, 363, 365, 367, 368, 369, 370, 99, 371, 373, 0, 374] (by decide +kernel)
set_option maxRecDepth 20000 in
theorem wsL_in7 : ∀ w ∈ wsL_law_r7, w ∈ lw_tbl := in_r [177, 375, 376, 377, 378, 97, 379, 380, 381, 382, 255, 261, 383, 384, 385, 386, 263, 265, 268, 271, 387, 388, 389, 390] (by decide +kernel)
set_option maxRecDepth 20000 in
theorem wsL_in8 : ∀ w ∈ wsL_law_r8, w ∈ lw_tbl := in_r [132, 136, 139, 149, 151, 391, 392, 393, 394, 142, 144, 147, 395, 397, 1, 398, 258, 125, 129, 399, 401, 2, 402, 403] (by decide +kernel)
set_option maxRecDepth 20000 in
theorem wsL_in9 : ∀ w ∈ wsL_law_r9, w ∈ lw_tbl := in_r [405, 3, 406, 407, 409, 4, 410, 411, 413, 5, 414, 415, 417, 6, 418, 419, 421, 7, 422, 423, 425, 8, 426, 276] (by decide +kernel)
set_option maxRecDepth 20000 in
theorem wsL_in10 : ∀ w ∈ wsL_law_r10, w ∈ lw_tbl := in_r [427, 429, 9, 430, 431, 432, 433, 434, 435, 437, 10, 438, 439, 441, 11, 442, 443, 445, 12, 446, 134, 138, 448, 449] (by decide +kernel)
set_option maxRecDepth 20000 in
theorem wsL_in11 : ∀ w ∈ wsL_law_r11, w ∈ lw_tbl := in_r [450, 452, 13, 453, 454, 455, 456, 457, 458, 459, 460, 77, 461, 462, 463, 464, 465, 466, 468, 14, 469, 470, 471, 78] (by decide +kernel)
set_option maxRecDepth 20000 in
theorem wsL_in12 : ∀ w ∈ wsL_law_r12, w ∈ lw_tbl := in_r [472, 473, 474, 475, 476, 478, 15, 479, 480, 482, 16, 483, 485, 486, 487, 488, 489, 490, 193, 256, 124, 287, 291, 199] (by decide +kernel)
set_option maxRecDepth 20000 in
theorem wsL_in13 : ∀ w ∈ wsL_law_r13, w ∈ lw_tbl := in_r [769, 770, 771, 772, 786, 789, 790, 791, 792, 796, 797, 798, 801, 802, 803, 804, 805, 806, 807, 810, 794, 773, 775, 30] (by decide +kernel)
set_option maxRecDepth 20000 in
theorem wsL_in14 : ∀ w ∈ wsL_law_r14, w ∈ lw_tbl := in_r [776, 795, 777, 779, 31, 780, 781, 783, 32, 784, 787, 788, 793, 523, 524, 525, 526, 864, 865, 866, 867, 785, 527, 528] (by decide +kernel)
set_option maxRecDepth 20000 in
theorem wsL_in15 : ∀ w ∈ wsL_law_r15, w ∈ lw_tbl := in_r [529, 530, 868, 869, 870, 871, 531, 532, 533, 534, 872, 873, 874, 875, 876, 878, 33, 879, 800, 880, 882, 34, 883, 799] (by decide +kernel)
set_option maxRecDepth 20000 in
theorem wsL_in16 : ∀ w ∈ wsL_law_r16, w ∈ lw_tbl := in_r [884, 886, 35, 887, 888, 890, 36, 891, 892, 893, 894, 895, 897, 37, 898, 899, 901, 38, 902, 903, 905, 39, 906, 907] (by decide +kernel)
set_option maxRecDepth 20000 in
theorem wsL_in17 : ∀ w ∈ wsL_law_r17, w ∈ lw_tbl := in_r [909, 40, 910, 911, 912, 913, 914, 916, 41, 917, 535, 536, 537, 538, 259, 918, 919, 920, 921, 922, 924, 42, 925, 539] (by decide +kernel)
set_option maxRecDepth 20000 in
theorem wsL_in18 : ∀ w ∈ wsL_law_r18, w ∈ lw_tbl := in_r [540, 541, 542, 127, 130, 543, 545, 17, 546, 547, 548, 549, 550, 175, 176, 558, 551, 552, 553, 554, 555, 557, 556, 80] (by decide +kernel)
set_option maxRecDepth 20000 in
theorem wsL_in19 : ∀ w ∈ wsL_law_r19, w ∈ lw_tbl := in_r [559, 930, 931, 932, 933, 934, 936, 43, 937, 938, 940, 44, 941, 942, 943, 944, 560, 561, 562, 563, 133, 137, 564, 945] (by decide +kernel)
set_option maxRecDepth 20000 in
theorem wsL_in20 : ∀ w ∈ wsL_law_r20, w ∈ lw_tbl := in_r [946, 947, 948, 565, 566, 567, 568, 196, 569, 570, 571, 572, 197, 573, 574, 575, 576, 269, 266, 272, 578, 579, 580, 581] (by decide +kernel)
set_option maxRecDepth 20000 in
theorem wsL_in21 : ∀ w ∈ wsL_law_r21, w ∈ lw_tbl := in_r [582, 583, 275, 584, 586, 18, 587, 588, 589, 591, 19, 592, 593, 595, 20, 596, 597, 598, 599, 1062, 1063, 1064, 1065, 1050] (by decide +kernel)
set_option maxRecDepth 20000 in
theorem wsL_in22 : ∀ w ∈ wsL_law_r22, w ∈ lw_tbl := in_r [1052, 59, 1053, 1014, 1016, 54, 1017, 957, 959, 46, 960, 1018, 1020, 55, 1021, 1040, 1042, 58, 1043, 1044, 1036, 1038, 57, 1039] (by decide +kernel)
set_option maxRecDepth 20000 in
theorem wsL_in23 : ∀ w ∈ wsL_law_r23, w ∈ lw_tbl := in_r [953, 955, 45, 956, 1054, 1056, 60, 1057, 600, 601, 602, 603, 604, 605, 606, 607, 926, 927, 928, 929, 608, 609, 610, 611] (by decide +kernel)
set_option maxRecDepth 20000 in
theorem wsL_in24 : ∀ w ∈ wsL_law_r24, w ∈ lw_tbl := in_r [289, 285, 612, 949, 950, 951, 952, 961, 963, 47, 964, 965, 967, 48, 968, 613, 614, 615, 616, 278, 969, 970, 971, 972] (by decide +kernel)
set_option maxRecDepth 20000 in
theorem wsL_in25 : ∀ w ∈ wsL_law_r25, w ∈ lw_tbl := in_r [617, 618, 619, 620, 281, 973, 974, 975, 976, 977, 979, 49, 980, 621, 622, 623, 624, 625, 626, 627, 628, 283, 630, 631] (by decide +kernel)
set_option maxRecDepth 20000 in
theorem wsL_in26 : ∀ w ∈ wsL_law_r26, w ∈ lw_tbl := in_r [632, 633, 634, 636, 21, 637, 638, 639, 640, 641, 280, 981, 982, 983, 984, 985, 987, 50, 988, 989, 991, 51, 992, 642] (by decide +kernel)
set_option maxRecDepth 20000 in
theorem wsL_in27 : ∀ w ∈ wsL_law_r27, w ∈ lw_tbl := in_r [643, 644, 645, 235, 140, 152, 646, 648, 22, 649, 192, 264, 650, 651, 652, 653, 131, 135, 654, 141, 146, 655, 657, 23] (by decide +kernel)
set_option maxRecDepth 20000 in
theorem wsL_in28 : ∀ w ∈ wsL_law_r28, w ∈ lw_tbl := in_r [658, 257, 659, 660, 662, 24, 663, 664, 666, 25, 667, 284, 669, 671, 26, 672, 126, 673, 674, 675, 676, 232, 678, 679] (by decide +kernel)
set_option maxRecDepth 20000 in
theorem wsL_in29 : ∀ w ∈ wsL_law_r29, w ∈ lw_tbl := in_r [680, 681, 682, 234, 233, 683, 684, 686, 27, 687, 688, 690, 28, 691, 692, 693, 694, 695, 696, 697, 1088, 1089, 1090, 1091] (by decide +kernel)
set_option maxRecDepth 20000 in
theorem wsL_in30 : ∀ w ∈ wsL_law_r30, w ∈ lw_tbl := in_r [809, 1070, 1072, 61, 1073, 808, 1074, 1076, 62, 1077, 1001, 1003, 52, 1004, 1005, 1007, 53, 1008, 1078, 1080, 63, 1081, 1082, 1083] (by decide +kernel)
set_option maxRecDepth 20000 in
theorem wsL_in31 : ∀ w ∈ wsL_law_r31, w ∈ lw_tbl := in_r [1084, 1085, 1086, 1087, 698, 699, 700, 701, 143, 145, 148, 150, 267, 270, 993, 994, 995, 996, 702, 703, 704, 705, 997, 998] (by decide +kernel)
set_option maxRecDepth 20000 in
theorem wsL_in32 : ∀ w ∈ wsL_law_r32, w ∈ lw_tbl := in_r [999, 1000, 706, 707, 708, 709, 1066, 1067, 1068, 1069, 710, 711, 712, 713, 717, 194, 714, 715, 716, 718, 719, 720, 721, 722] (by decide +kernel)
set_option maxRecDepth 20000 in
theorem wsL_in33 : ∀ w ∈ wsL_law_r33, w ∈ lw_tbl := in_r [723, 1009, 1010, 1011, 1012, 1013, 1022, 1024, 56, 1025, 1026, 1027, 1028, 1029, 1030, 1031, 724, 725, 726, 727, 739, 728, 729, 730] (by decide +kernel)
set_option maxRecDepth 20000 in
theorem wsL_in34 : ∀ w ∈ wsL_law_r34, w ∈ lw_tbl := in_r [731, 732, 733, 735, 29, 736, 737, 738, 1032, 1033, 1034, 1035, 1045, 740, 741, 742, 743, 1046, 1047, 1048, 1049, 744, 745, 746] (by decide +kernel)
set_option maxRecDepth 20000 in
theorem wsL_in35 : ∀ w ∈ wsL_law_r35, w ∈ lw_tbl := in_r [747, 198, 1058, 1059, 1060, 1061, 748, 749, 750, 751, 752, 753, 754, 755, 756, 757, 758, 759, 760, 761, 762, 288, 260, 277] (by decide +kernel)
set_option maxRecDepth 20000 in
theorem wsL_in36 : ∀ w ∈ wsL_law_r36, w ∈ lw_tbl := in_r [1092, 1093, 1094, 1095, 1096, 1097, 1098, 763, 764, 765, 766, 262, 273, 1099, 1100, 1101, 1102] (by decide +kernel)
set_option maxRecDepth 20000 in
theorem inX0 : ∀ w ∈ wsX00, w ∈ lw_tbl := in_r [201, 203, 205, 207, 209, 211] (by decide +kernel)
set_option maxRecDepth 20000 in
theorem inX1 : ∀ w ∈ wsX10, w ∈ lw_tbl := in_r [293, 295, 297, 299, 301, 303, 305, 307, 309, 311, 313, 315] (by decide +kernel)
set_option maxRecDepth 20000 in
theorem inX2 : ∀ w ∈ wsX20, w ∈ lw_tbl := in_r [178, 180, 182] (by decide +kernel)
set_option maxRecDepth 20000 in
theorem inX3 : ∀ w ∈ wsX30, w ∈ lw_tbl := in_r [236, 238, 240, 242] (by decide +kernel)
set_option maxRecDepth 20000 in
theorem inX4 : ∀ w ∈ wsX40, w ∈ lw_tbl := in_r [153, 155, 157, 159, 161, 163, 165, 167, 169, 171] (by decide +kernel)
set_option maxRecDepth 20000 in
theorem inX5 : ∀ w ∈ wsX50, w ∈ lw_tbl := in_r [100, 102, 104, 106] (by decide +kernel)
set_option maxRecDepth 20000 in
theorem inX6 : ∀ w ∈ wsX60, w ∈ lw_tbl := in_r [222] (by decide +kernel)
set_option maxRecDepth 20000 in
theorem inX7 : ∀ w ∈ wsX70, w ∈ lw_tbl := in_r [501, 503, 505, 507, 509, 511, 513, 515, 517, 519] (by decide +kernel)
set_option maxRecDepth 20000 in
theorem inX8 : ∀ w ∈ wsX80, w ∈ lw_tbl := in_r [811, 813, 815, 817, 819, 821, 823, 825, 827, 829, 831, 833, 835, 837, 839, 841, 843, 845, 847, 849, 851, 853, 855, 857, 859, 861] (by decide +kernel)
theorem wsL_law_in : ∀ w ∈ wsL_law, w ∈ lw_tbl := by
  unfold wsL_law
  refine List.forall_mem_append.mpr ⟨?_, fun w h => absurd h List.not_mem_nil⟩
  refine List.forall_mem_append.mpr ⟨?_, inX1⟩
  refine List.forall_mem_append.mpr ⟨?_, inX4⟩
  refine List.forall_mem_append.mpr ⟨?_, inX3⟩
  refine List.forall_mem_append.mpr ⟨?_, inX6⟩
  refine List.forall_mem_append.mpr ⟨?_, inX0⟩
  refine List.forall_mem_append.mpr ⟨?_, inX2⟩
  refine List.forall_mem_append.mpr ⟨?_, inX5⟩
  refine List.forall_mem_append.mpr ⟨?_, inX8⟩
  refine List.forall_mem_append.mpr ⟨?_, inX7⟩
  refine List.forall_mem_append.mpr ⟨wsL_in1, ?_⟩
  refine List.forall_mem_append.mpr ⟨wsL_in2, ?_⟩
  refine List.forall_mem_append.mpr ⟨wsL_in3, ?_⟩
  refine List.forall_mem_append.mpr ⟨wsL_in4, ?_⟩
  refine List.forall_mem_append.mpr ⟨wsL_in5, ?_⟩
  refine List.forall_mem_append.mpr ⟨wsL_in6, ?_⟩
  refine List.forall_mem_append.mpr ⟨wsL_in7, ?_⟩
  refine List.forall_mem_append.mpr ⟨wsL_in8, ?_⟩
  refine List.forall_mem_append.mpr ⟨wsL_in9, ?_⟩
  refine List.forall_mem_append.mpr ⟨wsL_in10, ?_⟩
  refine List.forall_mem_append.mpr ⟨wsL_in11, ?_⟩
  refine List.forall_mem_append.mpr ⟨wsL_in12, ?_⟩
  refine List.forall_mem_append.mpr ⟨wsL_in13, ?_⟩
  refine List.forall_mem_append.mpr ⟨wsL_in14, ?_⟩
  refine List.forall_mem_append.mpr ⟨wsL_in15, ?_⟩
  refine List.forall_mem_append.mpr ⟨wsL_in16, ?_⟩
  refine List.forall_mem_append.mpr ⟨wsL_in17, ?_⟩
  refine List.forall_mem_append.mpr ⟨wsL_in18, ?_⟩
  refine List.forall_mem_append.mpr ⟨wsL_in19, ?_⟩
  refine List.forall_mem_append.mpr ⟨wsL_in20, ?_⟩
  refine List.forall_mem_append.mpr ⟨wsL_in21, ?_⟩
  refine List.forall_mem_append.mpr ⟨wsL_in22, ?_⟩
  refine List.forall_mem_append.mpr ⟨wsL_in23, ?_⟩
  refine List.forall_mem_append.mpr ⟨wsL_in24, ?_⟩
  refine List.forall_mem_append.mpr ⟨wsL_in25, ?_⟩
  refine List.forall_mem_append.mpr ⟨wsL_in26, ?_⟩
  refine List.forall_mem_append.mpr ⟨wsL_in27, ?_⟩
  refine List.forall_mem_append.mpr ⟨wsL_in28, ?_⟩
  refine List.forall_mem_append.mpr ⟨wsL_in29, ?_⟩
  refine List.forall_mem_append.mpr ⟨wsL_in30, ?_⟩
  refine List.forall_mem_append.mpr ⟨wsL_in31, ?_⟩
  refine List.forall_mem_append.mpr ⟨wsL_in32, ?_⟩
  refine List.forall_mem_append.mpr ⟨wsL_in33, ?_⟩
  refine List.forall_mem_append.mpr ⟨wsL_in34, ?_⟩
  refine List.forall_mem_append.mpr ⟨wsL_in35, ?_⟩
  exact wsL_in36
