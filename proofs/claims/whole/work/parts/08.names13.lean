set_option maxRecDepth 20000 in
theorem gJ2_checkIndex_2214a_J0_checkIndex_df160 : GoodIn wsJ2_checkIndex_2214a (va_wsS RJ2 414 yJ0_checkIndex_df160 wsJ0_checkIndex_df160) := goodIn_app (goodIn_of _ (by decide +kernel)) ggJ2_checkIndex_2214a_J0_checkIndex_df160
theorem dJ2_checkIndex_2214a_0 : decode cJ2_checkIndex_2214a 0 = .ok (.iload_n 0, 1) := by decide +kernel
theorem dJ2_checkIndex_2214a_1 : decode cJ2_checkIndex_2214a 1 = .ok (.aload_n 1, 1) := by decide +kernel
theorem dJ2_checkIndex_2214a_2 : decode cJ2_checkIndex_2214a 2 = .ok (.invokestatic 48, 3) := by decide +kernel
theorem dJ2_checkIndex_2214a_5 : decode cJ2_checkIndex_2214a 5 = .ok (.invokestatic 414, 3) := by decide +kernel
theorem dJ2_checkIndex_2214a_8 : decode cJ2_checkIndex_2214a 8 = .ok (.return_, 1) := by decide +kernel
theorem dJ3_checkIndex_8e157_0 : decode cJ3_checkIndex_8e157 0 = .ok (.iload_n 0, 1) := by decide +kernel
theorem dJ3_checkIndex_8e157_1 : decode cJ3_checkIndex_8e157 1 = .ok (.ifCond .lt 8, 3) := by decide +kernel
theorem dJ3_checkIndex_8e157_4 : decode cJ3_checkIndex_8e157 4 = .ok (.iload_n 0, 1) := by decide +kernel
theorem dJ3_checkIndex_8e157_5 : decode cJ3_checkIndex_8e157 5 = .ok (.iload_n 1, 1) := by decide +kernel
theorem dJ3_checkIndex_8e157_6 : decode cJ3_checkIndex_8e157 6 = .ok (.if_icmp .lt 10, 3) := by decide +kernel
theorem dJ3_checkIndex_8e157_9 : decode cJ3_checkIndex_8e157 9 = .ok (.aload_n 2, 1) := by decide +kernel
theorem dJ3_checkIndex_8e157_10 : decode cJ3_checkIndex_8e157 10 = .ok (.iload_n 0, 1) := by decide +kernel
theorem dJ3_checkIndex_8e157_11 : decode cJ3_checkIndex_8e157 11 = .ok (.iload_n 1, 1) := by decide +kernel
theorem dJ3_checkIndex_8e157_12 : decode cJ3_checkIndex_8e157 12 = .ok (.invokestatic 95, 3) := by decide +kernel
theorem dJ3_checkIndex_8e157_15 : decode cJ3_checkIndex_8e157 15 = .ok (.athrow, 1) := by decide +kernel
theorem dJ3_checkIndex_8e157_16 : decode cJ3_checkIndex_8e157 16 = .ok (.iload_n 0, 1) := by decide +kernel
theorem dJ3_checkIndex_8e157_17 : decode cJ3_checkIndex_8e157 17 = .ok (.ireturn, 1) := by decide +kernel
set_option maxRecDepth 20000 in
theorem ggL_law_X7_init : GoodIn wsL_law wsX7_init := goodIn_r _ [8, 9, 10, 11, 12, 13, 14, 15, 16, 17, 18, 19, 20, 21, 22, 23, 24, 25, 26, 27, 28, 29, 30, 31, 32, 33, 34, 35, 36, 37, 38, 39, 40, 41, 42, 43, 44, 45, 46, 47, 48, 49, 50, 51, 52, 53, 54, 55, 56, 57, 58, 59, 60, 61, 62, 63, 64, 65, 66, 67, 68, 69, 70, 71, 72, 73, 74, 75, 76, 77, 78, 79, 80, 81, 82, 83, 84, 85, 86, 87, 88, 89, 90, 91, 92, 93, 94, 95, 96, 97, 98, 99, 100, 101, 102, 103, 104, 105, 106, 107, 108, 109, 110, 111, 112, 113, 114, 115, 116, 117, 118, 119, 120, 121, 122, 123, 124, 125, 126, 127, 128, 129, 130, 131, 132, 133, 134, 135, 136, 137, 138, 139, 140, 141, 142, 2, 143, 144, 145, 146, 147, 148, 149, 150, 151, 152, 153, 154, 155, 156, 157, 158, 159, 160, 161, 162, 163, 164, 165, 166, 167, 168, 169, 170, 171, 172, 173, 174, 175, 176, 177, 178, 179, 180, 181, 182, 183, 184, 185, 186, 187, 188, 189, 190, 191, 192, 193, 194, 195, 196, 197, 198, 199, 200, 201, 202, 203, 204, 205, 206, 207, 208, 209, 210, 211, 212, 213, 214, 215, 216, 217, 218, 219, 220, 221, 222, 223, 224, 225, 226, 227, 228, 229, 230, 231, 232, 233, 234, 235, 236, 237, 238, 239, 240, 241, 242, 243, 244, 245, 246, 247, 248, 249, 250, 251, 252, 253, 254, 255, 256, 257, 258, 259, 260, 261, 262, 263, 264, 265, 266, 267, 268, 269, 270, 271, 272, 273, 274, 275, 276, 277, 278, 279, 280, 281, 282, 283, 284, 285, 286, 287, 893, 894, 895, 896, 857, 858, 859, 860, 861, 862, 863, 864, 865, 866, 897, 898, 899, 900, 901, 902, 903, 904, 905, 906, 907, 908, 909, 910, 911, 912, 913, 914, 915, 916, 917, 918, 919, 920, 921, 922, 923, 924, 925, 926, 927, 928, 929, 930, 931, 932] (by decide +kernel) (by decide +kernel)
set_option maxRecDepth 20000 in
theorem gL_law_X7_init : GoodIn wsL_law (wsX7_init) := ggL_law_X7_init
set_option maxRecDepth 20000 in
theorem ggL_law_X8_init : GoodIn wsL_law wsX8_init := goodIn_r _ [290, 291, 10, 11, 47, 292, 293, 294, 295, 296, 297, 298, 299, 300, 301, 64, 302, 303, 304, 305, 306, 307, 308, 309, 310, 311, 5, 312, 313, 314, 315, 316, 317, 318, 319, 320, 321, 322, 323, 324, 867, 868, 869, 870, 871, 872, 873, 874, 875, 876, 877, 878, 879, 880, 881, 882, 883, 884, 885, 886, 887, 888, 889, 890, 891, 892] (by decide +kernel) (by decide +kernel)
set_option maxRecDepth 20000 in
theorem gL_law_X8_init : GoodIn wsL_law (wsX8_init) := ggL_law_X8_init
set_option maxRecDepth 20000 in
theorem ggL_law_X7_write : GoodIn wsL_law wsX7_write := goodIn_r _ [328, 15, 43, 135, 136, 137, 14, 138, 139, 48, 857, 858, 859, 860, 861, 862, 863, 864, 865, 866, 893, 894, 895, 896] (by decide +kernel) (by decide +kernel)
set_option maxRecDepth 20000 in
theorem gL_law_X7_write : GoodIn wsL_law (wsV RL 13 RX7 yX7_write wsX7_write) := goodIn_app (goodIn_of _ (by decide +kernel)) ggL_law_X7_write
set_option maxRecDepth 20000 in
theorem ggL_law_X8_write : GoodIn wsL_law wsX8_write := goodIn_r _ [332, 333, 292, 867, 868, 869, 870, 871, 872, 873, 874, 875, 876, 877, 878, 879, 880, 881, 882, 883, 884, 885, 886, 887, 888, 889, 890, 891, 892] (by decide +kernel) (by decide +kernel)
set_option maxRecDepth 20000 in
theorem gL_law_X8_write : GoodIn wsL_law (wsV RL 17 RX8 yX8_write wsX8_write) := goodIn_app (goodIn_of _ (by decide +kernel)) ggL_law_X8_write
set_option maxRecDepth 20000 in
theorem ggL_law_X7_wipe : GoodIn wsL_law wsX7_wipe := goodIn_r _ [337, 15, 43, 857, 858, 859, 860, 861, 862, 863, 864, 865, 866, 893, 894, 895, 896] (by decide +kernel) (by decide +kernel)
set_option maxRecDepth 20000 in
theorem gL_law_X7_wipe : GoodIn wsL_law (wsV RL 18 RX7 yX7_wipe wsX7_wipe) := goodIn_app (goodIn_of _ (by decide +kernel)) ggL_law_X7_wipe
set_option maxRecDepth 20000 in
theorem ggL_law_X8_wipe : GoodIn wsL_law wsX8_wipe := goodIn_r _ [341, 333, 867, 868, 869, 870, 871, 872, 873, 874, 875, 876, 877, 878, 879, 880, 881, 882, 883, 884, 885, 886, 887, 888, 889, 890, 891, 892] (by decide +kernel) (by decide +kernel)
set_option maxRecDepth 20000 in
theorem gL_law_X8_wipe : GoodIn wsL_law (wsV RL 22 RX8 yX8_wipe wsX8_wipe) := goodIn_app (goodIn_of _ (by decide +kernel)) ggL_law_X8_wipe
set_option maxRecDepth 20000 in
theorem ggL_law_X7_fault : GoodIn wsL_law wsX7_fault := goodIn_r _ [345, 15, 41, 42, 145, 146, 147, 14, 148, 149, 139, 150, 151, 152, 38, 153, 154, 155, 82, 83, 80, 81, 156, 157, 158, 159, 160, 161, 162, 163, 164, 165, 166, 34, 167, 59, 60, 168, 169, 170, 171, 172, 173, 174, 175, 176, 177, 178, 179, 180, 181, 182, 183, 184, 185, 186, 187, 188, 189, 190, 48, 191, 192, 193, 194, 195, 196, 197, 198, 49, 199, 200, 201, 202, 203, 204, 205, 206, 207, 208, 209, 210, 211, 212, 213, 214, 215, 216, 217, 218, 219, 220, 221, 222, 223, 224, 225, 226, 227, 228, 229, 230, 231, 232, 233, 234, 235, 236, 237, 238, 2, 239, 240, 241, 242, 243, 244, 857, 858, 859, 860, 861, 862, 863, 864, 865, 866, 893, 894, 895, 896, 921, 922, 923, 924, 925, 926, 927, 928, 929, 930, 931, 932, 911, 912, 913, 914, 915, 916, 917, 918, 919, 920] (by decide +kernel) (by decide +kernel)
set_option maxRecDepth 20000 in
theorem gL_law_X7_fault : GoodIn wsL_law (wsV RL 23 RX7 yX7_fault wsX7_fault) := goodIn_app (goodIn_of _ (by decide +kernel)) ggL_law_X7_fault
set_option maxRecDepth 20000 in
theorem ggL_law_X8_fault : GoodIn wsL_law wsX8_fault := goodIn_r _ [349, 350, 351, 352, 5, 353, 333, 292, 354, 309, 310, 311, 312, 308, 313, 297, 299, 298, 355, 356, 357, 358, 359, 360, 361, 362, 363, 364, 365, 366, 367, 368, 369, 370, 371, 372, 373, 374, 375, 376, 377, 378, 314, 315, 316, 317, 379, 380, 381, 382, 383, 384, 385, 386, 387, 388, 389, 390, 391, 392, 393, 867, 868, 869, 870, 871, 872, 873, 874, 875, 876, 877, 878, 879, 880, 881, 882, 883, 884, 885, 886, 887, 888, 889, 890, 891, 892] (by decide +kernel) (by decide +kernel)
set_option maxRecDepth 20000 in
theorem gL_law_X8_fault : GoodIn wsL_law (wsV RL 26 RX8 yX8_fault wsX8_fault) := goodIn_app (goodIn_of _ (by decide +kernel)) ggL_law_X8_fault
set_option maxRecDepth 20000 in
theorem ggL_law_X7_lay : GoodIn wsL_law wsX7_lay := goodIn_r _ [397, 39, 398, 140, 141, 142, 2, 143, 15, 41, 42, 40, 19, 144, 23, 145, 146, 147, 14, 148, 149, 139, 150, 151, 152, 38, 153, 154, 155, 82, 83, 80, 81, 156, 157, 158, 159, 160, 161, 162, 163, 164, 165, 166, 34, 167, 59, 60, 168, 169, 170, 171, 172, 173, 174, 175, 176, 177, 178, 179, 180, 181, 182, 183, 184, 185, 186, 187, 188, 189, 190, 48, 191, 192, 193, 194, 195, 196, 197, 198, 49, 199, 200, 201, 202, 203, 204, 205, 206, 207, 208, 209, 210, 211, 212, 213, 214, 215, 216, 217, 218, 219, 220, 221, 222, 223, 224, 225, 226, 227, 228, 229, 230, 231, 232, 233, 234, 235, 236, 237, 238, 239, 240, 241, 242, 243, 244, 245, 246, 247, 248, 249, 250, 251, 252, 253, 254, 255, 256, 84, 257, 258, 259, 260, 85, 261, 262, 263, 264, 265, 266, 267, 268, 269, 270, 271, 272, 273, 274, 275, 276, 277, 278, 279, 280, 22, 281, 282, 283, 65, 284, 285, 286, 287, 857, 858, 859, 860, 861, 862, 863, 864, 865, 866, 921, 922, 923, 924, 925, 926, 927, 928, 929, 930, 931, 932, 897, 898, 899, 893, 894, 895, 896, 911, 912, 913, 914, 915, 916, 917, 918, 919, 920, 900, 901, 902, 903, 904, 905] (by decide +kernel) (by decide +kernel)
set_option maxRecDepth 20000 in
theorem gL_law_X7_lay : GoodIn wsL_law (wsV RL 27 RX7 yX7_lay wsX7_lay) := goodIn_app (goodIn_of _ (by decide +kernel)) ggL_law_X7_lay
set_option maxRecDepth 20000 in
theorem ggL_law_X8_lay : GoodIn wsL_law wsX8_lay := goodIn_r _ [402, 322, 350, 351, 352, 5, 353, 333, 292, 354, 309, 310, 311, 312, 308, 313, 297, 299, 298, 355, 356, 357, 358, 359, 360, 361, 362, 363, 364, 365, 366, 367, 368, 369, 370, 371, 372, 373, 374, 375, 376, 377, 378, 314, 315, 316, 317, 379, 380, 381, 382, 383, 384, 385, 386, 387, 388, 389, 390, 391, 392, 393, 403, 404, 405, 406, 318, 319, 320, 321, 323, 293, 295, 294, 324, 867, 868, 869, 870, 871, 872, 873, 874, 875, 876, 877, 878, 879, 880, 881, 882, 883, 884, 885, 886, 887, 888, 889, 890, 891, 892] (by decide +kernel) (by decide +kernel)
set_option maxRecDepth 20000 in
theorem gL_law_X8_lay : GoodIn wsL_law (wsV RL 30 RX8 yX8_lay wsX8_lay) := goodIn_app (goodIn_of _ (by decide +kernel)) ggL_law_X8_lay
set_option maxRecDepth 20000 in
theorem ggL_law_X7_set : GoodIn wsL_law wsX7_set := goodIn_r _ [410, 40, 411, 412, 19, 23, 39, 413, 414, 415, 2, 416, 398, 417, 418, 419, 18, 420, 55, 421, 422, 423, 250, 251, 252, 424, 425, 426, 34, 427, 59, 428, 429, 430, 431, 60, 168, 169, 170, 177, 178, 179, 171, 172, 278, 279, 280, 22, 281, 282, 283, 65, 284, 285, 286, 287, 432, 174, 175, 176, 857, 858, 859, 860, 861, 862, 863, 864, 865, 866, 911, 912, 913, 914, 915, 916, 917, 918, 919, 920, 921, 922, 923, 924, 925, 926, 927, 928, 929, 930, 931, 932, 897, 898, 899, 900, 901, 902, 903, 904, 905] (by decide +kernel) (by decide +kernel)
set_option maxRecDepth 20000 in
theorem gL_law_X7_set : GoodIn wsL_law (wsV RL 31 RX7 yX7_set wsX7_set) := goodIn_app (goodIn_of _ (by decide +kernel)) ggL_law_X7_set
set_option maxRecDepth 20000 in
theorem ggL_law_X8_set : GoodIn wsL_law wsX8_set := goodIn_r _ [436, 295, 437, 438, 439, 5, 440, 322, 368, 369, 370, 441, 442, 443, 444, 324, 296, 445, 446, 447, 867, 868, 869, 870, 871, 872, 873, 874, 875, 876, 877, 878, 879, 880, 881, 882, 883, 884, 885, 886, 887, 888, 889, 890, 891, 892] (by decide +kernel) (by decide +kernel)
set_option maxRecDepth 20000 in
theorem gL_law_X8_set : GoodIn wsL_law (wsV RL 35 RX8 yX8_set wsX8_set) := goodIn_app (goodIn_of _ (by decide +kernel)) ggL_law_X8_set
set_option maxRecDepth 20000 in
theorem ggL_law_X7_law : GoodIn wsL_law wsX7_law := goodIn_r _ [451, 40, 452, 453, 19, 454, 238, 2, 239, 417, 418, 419, 18, 420, 55, 421, 422, 423, 250, 251, 252, 424, 425, 426, 34, 427, 59, 428, 429, 430, 431, 60, 168, 169, 170, 177, 178, 179, 171, 172, 432, 174, 175, 176, 857, 858, 859, 860, 861, 862, 863, 864, 865, 866, 911, 912, 913, 914, 915, 916, 917, 918, 919, 920, 897, 898, 899] (by decide +kernel) (by decide +kernel)
set_option maxRecDepth 20000 in
theorem gL_law_X7_law : GoodIn wsL_law (wsV RL 36 RX7 yX7_law wsX7_law) := goodIn_app (goodIn_of _ (by decide +kernel)) ggL_law_X7_law
set_option maxRecDepth 20000 in
theorem ggL_law_X8_law : GoodIn wsL_law wsX8_law := goodIn_r _ [458, 295, 387, 388, 5, 389, 368, 369, 370, 441, 442, 443, 444, 324, 296, 445, 446, 447, 867, 868, 869, 870, 871, 872, 873, 874, 875, 876, 877, 878, 879, 880, 881, 882, 883, 884, 885, 886, 887, 888, 889, 890, 891, 892] (by decide +kernel) (by decide +kernel)
set_option maxRecDepth 20000 in
theorem gL_law_X8_law : GoodIn wsL_law (wsV RL 40 RX8 yX8_law wsX8_law) := goodIn_app (goodIn_of _ (by decide +kernel)) ggL_law_X8_law
set_option maxRecDepth 20000 in
theorem ggL_law_X7_give : GoodIn wsL_law wsX7_give := goodIn_r _ [462, 23, 39, 19, 40, 398, 412, 463, 464, 465, 466, 22, 467, 287, 67, 283, 468, 469, 470, 471, 472, 65, 473, 474, 475, 476, 2, 477, 478, 479, 480, 481, 286, 482, 483, 484, 485, 486, 66, 487, 429, 430, 431, 488, 489, 490, 491, 492, 493, 494, 495, 496, 497, 251, 498, 417, 418, 419, 18, 420, 55, 421, 422, 423, 250, 252, 424, 425, 426, 34, 427, 59, 428, 60, 168, 169, 170, 177, 178, 179, 171, 172, 432, 174, 175, 176, 857, 858, 859, 860, 861, 862, 863, 864, 865, 866, 921, 922, 923, 924, 925, 926, 927, 928, 929, 930, 931, 932, 911, 912, 913, 914, 915, 916, 917, 918, 919, 920, 900, 901, 902, 903, 904, 905, 897, 898, 899] (by decide +kernel) (by decide +kernel)
set_option maxRecDepth 20000 in
theorem gL_law_X7_give : GoodIn wsL_law (wsV RL 41 RX7 yX7_give wsX7_give) := goodIn_app (goodIn_of _ (by decide +kernel)) ggL_law_X7_give
set_option maxRecDepth 20000 in
theorem ggL_law_X8_give : GoodIn wsL_law wsX8_give := goodIn_r _ [502, 322, 295, 305, 503, 504, 505, 5, 506, 304, 507, 508, 509, 510, 303, 293, 302, 511, 512, 513, 514, 515, 516, 517, 518, 519, 520, 521, 522, 523, 294, 524, 525, 526, 527, 528, 529, 530, 531, 532, 533, 534, 535, 441, 442, 443, 444, 324, 296, 445, 446, 447, 867, 868, 869, 870, 871, 872, 873, 874, 875, 876, 877, 878, 879, 880, 881, 882, 883, 884, 885, 886, 887, 888, 889, 890, 891, 892] (by decide +kernel) (by decide +kernel)
set_option maxRecDepth 20000 in
theorem gL_law_X8_give : GoodIn wsL_law (wsV RL 44 RX8 yX8_give wsX8_give) := goodIn_app (goodIn_of _ (by decide +kernel)) ggL_law_X8_give
set_option maxRecDepth 20000 in
theorem ggL_law_X7_undo : GoodIn wsL_law wsX7_undo := goodIn_r _ [539, 19, 40, 23, 39, 144, 540, 541, 542, 18, 543, 422, 421, 55, 424, 425, 426, 34, 427, 59, 428, 429, 430, 431, 60, 168, 169, 170, 177, 178, 179, 171, 172, 278, 279, 280, 22, 281, 282, 283, 65, 284, 285, 286, 287, 857, 858, 859, 860, 861, 862, 863, 864, 865, 866, 897, 898, 899, 911, 912, 913, 914, 915, 916, 917, 918, 919, 920, 900, 901, 902, 903, 904, 905, 921, 922, 923, 924, 925, 926, 927, 928, 929, 930, 931, 932] (by decide +kernel) (by decide +kernel)
set_option maxRecDepth 20000 in
theorem gL_law_X7_undo : GoodIn wsL_law (wsV RL 45 RX7 yX7_undo wsX7_undo) := goodIn_app (goodIn_of _ (by decide +kernel)) ggL_law_X7_undo
set_option maxRecDepth 20000 in
theorem ggL_law_X8_undo : GoodIn wsL_law wsX8_undo := goodIn_r _ [547, 324, 295, 296, 867, 868, 869, 870, 871, 872, 873, 874, 875, 876, 877, 878, 879, 880, 881, 882, 883, 884, 885, 886, 887, 888, 889, 890, 891, 892] (by decide +kernel) (by decide +kernel)
set_option maxRecDepth 20000 in
theorem gL_law_X8_undo : GoodIn wsL_law (wsV RL 48 RX8 yX8_undo wsX8_undo) := goodIn_app (goodIn_of _ (by decide +kernel)) ggL_law_X8_undo
set_option maxRecDepth 20000 in
theorem ggL_law_X7_cell : GoodIn wsL_law wsX7_cell := goodIn_r _ [551, 40, 411, 412, 39, 552, 553, 398, 413, 414, 415, 2, 416, 554, 476, 477, 857, 858, 859, 860, 861, 862, 863, 864, 865, 866, 911, 912, 913, 914, 915, 916, 917, 918, 919, 920, 921, 922, 923, 924, 925, 926, 927, 928, 929, 930, 931, 932] (by decide +kernel) (by decide +kernel)
set_option maxRecDepth 20000 in
theorem gL_law_X7_cell : GoodIn wsL_law (wsV RL 49 RX7 yX7_cell wsX7_cell) := goodIn_app (goodIn_of _ (by decide +kernel)) ggL_law_X7_cell
set_option maxRecDepth 20000 in
theorem ggL_law_X8_cell : GoodIn wsL_law wsX8_cell := goodIn_r _ [558, 295, 437, 438, 439, 5, 440, 322, 368, 369, 370, 528, 529, 530, 531, 511, 512, 513, 514, 293, 559, 560, 561, 562, 563, 564, 565, 566, 867, 868, 869, 870, 871, 872, 873, 874, 875, 876, 877, 878, 879, 880, 881, 882, 883, 884, 885, 886, 887, 888, 889, 890, 891, 892] (by decide +kernel) (by decide +kernel)
set_option maxRecDepth 20000 in
theorem gL_law_X8_cell : GoodIn wsL_law (wsV RL 52 RX8 yX8_cell wsX8_cell) := goodIn_app (goodIn_of _ (by decide +kernel)) ggL_law_X8_cell
set_option maxRecDepth 20000 in
theorem ggL_law_X7_weight : GoodIn wsL_law wsX7_weight := goodIn_r _ [570, 39, 571, 413, 414, 415, 2, 416, 398, 857, 858, 859, 860, 861, 862, 863, 864, 865, 866, 921, 922, 923, 924, 925, 926, 927, 928, 929, 930, 931, 932] (by decide +kernel) (by decide +kernel)
set_option maxRecDepth 20000 in
theorem gL_law_X7_weight : GoodIn wsL_law (wsV RL 53 RX7 yX7_weight wsX7_weight) := goodIn_app (goodIn_of _ (by decide +kernel)) ggL_law_X7_weight
set_option maxRecDepth 20000 in
theorem ggL_law_X8_weight : GoodIn wsL_law wsX8_weight := goodIn_r _ [575, 293, 437, 438, 439, 5, 440, 322, 368, 369, 370, 867, 868, 869, 870, 871, 872, 873, 874, 875, 876, 877, 878, 879, 880, 881, 882, 883, 884, 885, 886, 887, 888, 889, 890, 891, 892] (by decide +kernel) (by decide +kernel)
set_option maxRecDepth 20000 in
theorem gL_law_X8_weight : GoodIn wsL_law (wsV RL 56 RX8 yX8_weight wsX8_weight) := goodIn_app (goodIn_of _ (by decide +kernel)) ggL_law_X8_weight
set_option maxRecDepth 20000 in
theorem ggL_law_X7_wide : GoodIn wsL_law wsX7_wide := goodIn_r _ [579, 39, 580, 413, 414, 415, 2, 416, 398, 857, 858, 859, 860, 861, 862, 863, 864, 865, 866, 921, 922, 923, 924, 925, 926, 927, 928, 929, 930, 931, 932] (by decide +kernel) (by decide +kernel)
set_option maxRecDepth 20000 in
theorem gL_law_X7_wide : GoodIn wsL_law (wsV RL 57 RX7 yX7_wide wsX7_wide) := goodIn_app (goodIn_of _ (by decide +kernel)) ggL_law_X7_wide
set_option maxRecDepth 20000 in
theorem ggL_law_X8_wide : GoodIn wsL_law wsX8_wide := goodIn_r _ [584, 437, 438, 439, 5, 440, 322, 368, 369, 370, 585, 586, 587, 588, 559, 560, 561, 562, 293, 867, 868, 869, 870, 871, 872, 873, 874, 875, 876, 877, 878, 879, 880, 881, 882, 883, 884, 885, 886, 887, 888, 889, 890, 891, 892] (by decide +kernel) (by decide +kernel)
set_option maxRecDepth 20000 in
theorem gL_law_X8_wide : GoodIn wsL_law (wsV RL 60 RX8 yX8_wide wsX8_wide) := goodIn_app (goodIn_of _ (by decide +kernel)) ggL_law_X8_wide
set_option maxRecDepth 20000 in
theorem ggL_law_X7_tick : GoodIn wsL_law wsX7_tick := goodIn_r _ [592, 40, 39, 19, 413, 414, 415, 2, 416, 398, 593, 594, 595, 34, 596, 170, 59, 597, 276, 277, 417, 418, 419, 18, 420, 55, 421, 422, 423, 250, 251, 252, 424, 425, 426, 427, 428, 429, 430, 431, 60, 168, 169, 177, 178, 179, 171, 172, 598, 599, 600, 601, 602, 603, 604, 605, 606, 607, 608, 609, 610, 173, 174, 175, 176, 857, 858, 859, 860, 861, 862, 863, 864, 865, 866, 921, 922, 923, 924, 925, 926, 927, 928, 929, 930, 931, 932, 911, 912, 913, 914, 915, 916, 917, 918, 919, 920, 897, 898, 899] (by decide +kernel) (by decide +kernel)
set_option maxRecDepth 20000 in
theorem gL_law_X7_tick : GoodIn wsL_law (wsV RL 61 RX7 yX7_tick wsX7_tick) := goodIn_app (goodIn_of _ (by decide +kernel)) ggL_law_X7_tick
set_option maxRecDepth 20000 in
theorem ggL_law_X8_tick : GoodIn wsL_law wsX8_tick := goodIn_r _ [614, 295, 293, 437, 438, 439, 5, 440, 322, 368, 369, 370, 441, 442, 443, 444, 324, 296, 615, 616, 617, 618, 619, 620, 621, 622, 585, 586, 587, 588, 559, 560, 561, 562, 445, 446, 447, 867, 868, 869, 870, 871, 872, 873, 874, 875, 876, 877, 878, 879, 880, 881, 882, 883, 884, 885, 886, 887, 888, 889, 890, 891, 892] (by decide +kernel) (by decide +kernel)
set_option maxRecDepth 20000 in
theorem gL_law_X8_tick : GoodIn wsL_law (wsV RL 64 RX8 yX8_tick wsX8_tick) := goodIn_app (goodIn_of _ (by decide +kernel)) ggL_law_X8_tick
set_option maxRecDepth 20000 in
theorem ggL_law_X7_page : GoodIn wsL_law wsX7_page := goodIn_r _ [626, 31, 627, 40, 628, 19, 629, 630, 631, 632, 2, 633, 27, 39, 23, 634, 635, 636, 637, 638, 26, 639, 640, 641, 642, 250, 251, 252, 71, 643, 644, 645, 646, 647, 648, 649, 650, 607, 608, 34, 609, 168, 60, 177, 610, 169, 651, 652, 653, 654, 655, 656, 657, 658, 659, 276, 277, 660, 661, 662, 663, 664, 665, 666, 667, 30, 668, 669, 75, 670, 671, 672, 673, 674, 675, 676, 677, 262, 263, 264, 265, 266, 267, 678, 679, 680, 681, 682, 683, 684, 685, 686, 687, 688, 689, 690, 691, 417, 418, 419, 18, 420, 55, 421, 422, 423, 424, 425, 426, 427, 59, 428, 429, 430, 431, 170, 178, 179, 171, 172, 432, 174, 175, 176, 857, 858, 859, 860, 861, 862, 863, 864, 865, 866, 907, 908, 909, 910, 911, 912, 913, 914, 915, 916, 917, 918, 919, 920, 900, 901, 902, 903, 904, 905, 921, 922, 923, 924, 925, 926, 927, 928, 929, 930, 931, 932, 906, 897, 898, 899] (by decide +kernel) (by decide +kernel)
set_option maxRecDepth 20000 in
theorem gL_law_X7_page : GoodIn wsL_law (wsV RL 65 RX7 yX7_page wsX7_page) := goodIn_app (goodIn_of _ (by decide +kernel)) ggL_law_X7_page
set_option maxRecDepth 20000 in
theorem ggL_law_X8_page : GoodIn wsL_law wsX8_page := goodIn_r _ [695, 306, 295, 696, 697, 698, 699, 5, 700, 701, 294, 702, 703, 704, 705, 322, 302, 706, 707, 708, 709, 300, 301, 710, 711, 712, 713, 585, 586, 587, 588, 559, 560, 561, 562, 293, 507, 508, 509, 510, 303, 511, 512, 513, 514, 515, 516, 517, 518, 528, 529, 530, 531, 714, 715, 716, 717, 718, 719, 720, 721, 722, 723, 441, 442, 443, 444, 324, 296, 445, 446, 447, 867, 868, 869, 870, 871, 872, 873, 874, 875, 876, 877, 878, 879, 880, 881, 882, 883, 884, 885, 886, 887, 888, 889, 890, 891, 892] (by decide +kernel) (by decide +kernel)
set_option maxRecDepth 20000 in
theorem gL_law_X8_page : GoodIn wsL_law (wsV RL 68 RX8 yX8_page wsX8_page) := goodIn_app (goodIn_of _ (by decide +kernel)) ggL_law_X8_page
set_option maxRecDepth 20000 in
theorem ggL_law_X7_handset : GoodIn wsL_law wsX7_handset := goodIn_r _ [727, 40, 628, 728, 729, 730, 731, 629, 39, 732, 733, 857, 858, 859, 860, 861, 862, 863, 864, 865, 866, 911, 912, 913, 914, 915, 916, 917, 918, 919, 920, 921, 922, 923, 924, 925, 926, 927, 928, 929, 930, 931, 932] (by decide +kernel) (by decide +kernel)
set_option maxRecDepth 20000 in
theorem gL_law_X7_handset : GoodIn wsL_law (wsV RL 69 RX7 yX7_handset wsX7_handset) := goodIn_app (goodIn_of _ (by decide +kernel)) ggL_law_X7_handset
set_option maxRecDepth 20000 in
theorem ggL_law_X8_handset : GoodIn wsL_law wsX8_handset := goodIn_r _ [737, 295, 294, 368, 369, 5, 370, 867, 868, 869, 870, 871, 872, 873, 874, 875, 876, 877, 878, 879, 880, 881, 882, 883, 884, 885, 886, 887, 888, 889, 890, 891, 892] (by decide +kernel) (by decide +kernel)
set_option maxRecDepth 20000 in
theorem gL_law_X8_handset : GoodIn wsL_law (wsV RL 72 RX8 yX8_handset wsX8_handset) := goodIn_app (goodIn_of _ (by decide +kernel)) ggL_law_X8_handset
set_option maxRecDepth 20000 in
theorem ggL_law_X7_where : GoodIn wsL_law wsX7_where := goodIn_r _ [741, 27, 39, 40, 636, 637, 638, 26, 639, 640, 641, 642, 250, 251, 252, 71, 643, 644, 645, 646, 647, 648, 649, 650, 607, 608, 34, 609, 168, 60, 177, 610, 169, 651, 652, 653, 654, 655, 656, 657, 658, 659, 276, 2, 277, 660, 661, 662, 663, 664, 857, 858, 859, 860, 861, 862, 863, 864, 865, 866, 911, 912, 913, 914, 915, 916, 917, 918, 919, 920, 906, 921, 922, 923, 924, 925, 926, 927, 928, 929, 930, 931, 932] (by decide +kernel) (by decide +kernel)
set_option maxRecDepth 20000 in
theorem gL_law_X7_where : GoodIn wsL_law (wsV RL 73 RX7 yX7_where wsX7_where) := goodIn_app (goodIn_of _ (by decide +kernel)) ggL_law_X7_where
set_option maxRecDepth 20000 in
theorem ggL_law_X8_where : GoodIn wsL_law wsX8_where := goodIn_r _ [745, 706, 707, 708, 5, 709, 295, 300, 301, 322, 710, 711, 712, 713, 585, 586, 587, 588, 559, 560, 561, 562, 293, 867, 868, 869, 870, 871, 872, 873, 874, 875, 876, 877, 878, 879, 880, 881, 882, 883, 884, 885, 886, 887, 888, 889, 890, 891, 892] (by decide +kernel) (by decide +kernel)
set_option maxRecDepth 20000 in
theorem gL_law_X8_where : GoodIn wsL_law (wsV RL 76 RX8 yX8_where wsX8_where) := goodIn_app (goodIn_of _ (by decide +kernel)) ggL_law_X8_where
set_option maxRecDepth 20000 in
theorem ggL_law_X7_round : GoodIn wsL_law wsX7_round := goodIn_r _ [749, 31, 627, 630, 631, 632, 2, 633, 27, 39, 40, 23, 634, 635, 636, 637, 638, 26, 639, 640, 641, 642, 250, 251, 252, 71, 643, 644, 645, 646, 647, 648, 649, 650, 607, 608, 34, 609, 168, 60, 177, 610, 169, 651, 652, 653, 654, 655, 656, 657, 658, 659, 276, 277, 660, 661, 662, 663, 664, 665, 666, 667, 30, 668, 669, 75, 670, 671, 672, 673, 674, 675, 676, 677, 262, 263, 264, 265, 266, 267, 678, 679, 680, 681, 682, 683, 684, 685, 686, 687, 688, 689, 857, 858, 859, 860, 861, 862, 863, 864, 865, 866, 907, 908, 909, 910, 900, 901, 902, 903, 904, 905, 921, 922, 923, 924, 925, 926, 927, 928, 929, 930, 931, 932, 911, 912, 913, 914, 915, 916, 917, 918, 919, 920, 906] (by decide +kernel) (by decide +kernel)
set_option maxRecDepth 20000 in
theorem gL_law_X7_round : GoodIn wsL_law (wsV RL 77 RX7 yX7_round wsX7_round) := goodIn_app (goodIn_of _ (by decide +kernel)) ggL_law_X7_round
set_option maxRecDepth 20000 in
theorem ggL_law_X8_round : GoodIn wsL_law wsX8_round := goodIn_r _ [753, 696, 701, 306, 697, 698, 699, 5, 700, 294, 702, 703, 704, 705, 322, 302, 706, 707, 708, 709, 295, 300, 301, 710, 711, 712, 713, 585, 586, 587, 588, 559, 560, 561, 562, 293, 507, 508, 509, 510, 303, 511, 512, 513, 514, 515, 516, 517, 518, 528, 529, 530, 531, 714, 715, 716, 717, 718, 719, 720, 721, 722, 723, 867, 868, 869, 870, 871, 872, 873, 874, 875, 876, 877, 878, 879, 880, 881, 882, 883, 884, 885, 886, 887, 888, 889, 890, 891, 892] (by decide +kernel) (by decide +kernel)
set_option maxRecDepth 20000 in
theorem gL_law_X8_round : GoodIn wsL_law (wsV RL 80 RX8 yX8_round wsX8_round) := goodIn_app (goodIn_of _ (by decide +kernel)) ggL_law_X8_round
set_option maxRecDepth 20000 in
theorem ggL_law_X7_chance : GoodIn wsL_law wsX7_chance := goodIn_r _ [757, 758, 23, 634, 759, 413, 414, 415, 2, 416, 39, 398, 760, 761, 762, 763, 764, 765, 766, 767, 768, 857, 858, 859, 860, 861, 862, 863, 864, 865, 866, 900, 901, 902, 903, 904, 905, 921, 922, 923, 924, 925, 926, 927, 928, 929, 930, 931, 932] (by decide +kernel) (by decide +kernel)
set_option maxRecDepth 20000 in
theorem gL_law_X7_chance : GoodIn wsL_law (wsV RL 81 RX7 yX7_chance wsX7_chance) := goodIn_app (goodIn_of _ (by decide +kernel)) ggL_law_X7_chance
set_option maxRecDepth 20000 in
theorem ggL_law_X8_chance : GoodIn wsL_law wsX8_chance := goodIn_r _ [772, 773, 302, 437, 438, 439, 5, 440, 322, 368, 369, 370, 507, 508, 509, 510, 303, 293, 511, 512, 513, 514, 515, 516, 517, 518, 528, 529, 530, 531, 295, 774, 775, 776, 777, 778, 779, 780, 781, 782, 783, 867, 868, 869, 870, 871, 872, 873, 874, 875, 876, 877, 878, 879, 880, 881, 882, 883, 884, 885, 886, 887, 888, 889, 890, 891, 892] (by decide +kernel) (by decide +kernel)
set_option maxRecDepth 20000 in
theorem gL_law_X8_chance : GoodIn wsL_law (wsV RL 85 RX8 yX8_chance wsX8_chance) := goodIn_app (goodIn_of _ (by decide +kernel)) ggL_law_X8_chance
set_option maxRecDepth 20000 in
theorem ggL_law_X7_mean : GoodIn wsL_law wsX7_mean := goodIn_r _ [787, 758, 23, 39, 40, 412, 759, 788, 760, 761, 2, 762, 789, 479, 480, 22, 481, 283, 286, 482, 763, 764, 765, 766, 767, 768, 790, 791, 792, 793, 285, 794, 795, 796, 797, 452, 453, 798, 799, 470, 471, 472, 65, 473, 474, 475, 476, 477, 478, 857, 858, 859, 860, 861, 862, 863, 864, 865, 866, 911, 912, 913, 914, 915, 916, 917, 918, 919, 920, 900, 901, 902, 903, 904, 905, 921, 922, 923, 924, 925, 926, 927, 928, 929, 930, 931, 932] (by decide +kernel) (by decide +kernel)
set_option maxRecDepth 20000 in
theorem gL_law_X7_mean : GoodIn wsL_law (wsV RL 86 RX7 yX7_mean wsX7_mean) := goodIn_app (goodIn_of _ (by decide +kernel)) ggL_law_X7_mean
set_option maxRecDepth 20000 in
theorem ggL_law_X8_mean : GoodIn wsL_law wsX8_mean := goodIn_r _ [803, 773, 295, 523, 804, 368, 369, 5, 370, 507, 508, 509, 510, 322, 303, 293, 302, 511, 512, 513, 514, 515, 516, 517, 518, 774, 775, 776, 777, 528, 529, 530, 531, 524, 525, 526, 527, 778, 779, 780, 781, 782, 783, 519, 520, 521, 522, 294, 867, 868, 869, 870, 871, 872, 873, 874, 875, 876, 877, 878, 879, 880, 881, 882, 883, 884, 885, 886, 887, 888, 889, 890, 891, 892] (by decide +kernel) (by decide +kernel)
set_option maxRecDepth 20000 in
theorem gL_law_X8_mean : GoodIn wsL_law (wsV RL 89 RX8 yX8_mean wsX8_mean) := goodIn_app (goodIn_of _ (by decide +kernel)) ggL_law_X8_mean
set_option maxRecDepth 20000 in
theorem ggL_law_X7_best : GoodIn wsL_law wsX7_best := goodIn_r _ [808, 23, 39, 463, 413, 414, 415, 2, 416, 398, 464, 465, 466, 22, 467, 287, 67, 283, 468, 469, 470, 471, 472, 65, 473, 474, 475, 476, 477, 478, 479, 480, 481, 286, 482, 483, 484, 485, 486, 66, 487, 429, 430, 431, 488, 489, 490, 491, 492, 493, 494, 495, 496, 497, 251, 498, 857, 858, 859, 860, 861, 862, 863, 864, 865, 866, 900, 901, 902, 903, 904, 905, 921, 922, 923, 924, 925, 926, 927, 928, 929, 930, 931, 932] (by decide +kernel) (by decide +kernel)
set_option maxRecDepth 20000 in
theorem gL_law_X7_best : GoodIn wsL_law (wsV RL 90 RX7 yX7_best wsX7_best) := goodIn_app (goodIn_of _ (by decide +kernel)) ggL_law_X7_best
set_option maxRecDepth 20000 in
theorem ggL_law_X8_best : GoodIn wsL_law wsX8_best := goodIn_r _ [812, 305, 437, 438, 439, 5, 440, 322, 368, 369, 370, 503, 504, 505, 506, 304, 507, 508, 509, 510, 303, 293, 302, 511, 512, 513, 514, 515, 516, 517, 518, 519, 520, 521, 522, 523, 294, 524, 525, 526, 527, 528, 529, 530, 531, 295, 532, 533, 534, 535, 867, 868, 869, 870, 871, 872, 873, 874, 875, 876, 877, 878, 879, 880, 881, 882, 883, 884, 885, 886, 887, 888, 889, 890, 891, 892] (by decide +kernel) (by decide +kernel)
set_option maxRecDepth 20000 in
theorem gL_law_X8_best : GoodIn wsL_law (wsV RL 93 RX8 yX8_best wsX8_best) := goodIn_app (goodIn_of _ (by decide +kernel)) ggL_law_X8_best
set_option maxRecDepth 20000 in
theorem ggL_law_X7_least : GoodIn wsL_law wsX7_least := goodIn_r _ [816, 758, 23, 39, 817, 788, 759, 760, 761, 2, 762, 464, 465, 466, 22, 467, 287, 67, 283, 468, 469, 470, 471, 472, 65, 473, 474, 475, 476, 477, 478, 479, 480, 481, 286, 482, 483, 484, 485, 486, 66, 487, 429, 430, 431, 488, 489, 490, 491, 492, 493, 494, 495, 496, 497, 251, 498, 763, 764, 765, 766, 767, 768, 857, 858, 859, 860, 861, 862, 863, 864, 865, 866, 900, 901, 902, 903, 904, 905, 921, 922, 923, 924, 925, 926, 927, 928, 929, 930, 931, 932] (by decide +kernel) (by decide +kernel)
set_option maxRecDepth 20000 in
theorem gL_law_X7_least : GoodIn wsL_law (wsV RL 94 RX7 yX7_least wsX7_least) := goodIn_app (goodIn_of _ (by decide +kernel)) ggL_law_X7_least
set_option maxRecDepth 20000 in
theorem ggL_law_X8_least : GoodIn wsL_law wsX8_least := goodIn_r _ [821, 773, 523, 368, 369, 5, 370, 503, 504, 505, 506, 304, 305, 507, 508, 509, 510, 322, 303, 293, 302, 511, 512, 513, 514, 515, 516, 517, 518, 519, 520, 521, 522, 294, 524, 525, 526, 527, 528, 529, 530, 531, 295, 532, 533, 534, 535, 774, 775, 776, 777, 778, 779, 780, 781, 782, 783, 867, 868, 869, 870, 871, 872, 873, 874, 875, 876, 877, 878, 879, 880, 881, 882, 883, 884, 885, 886, 887, 888, 889, 890, 891, 892] (by decide +kernel) (by decide +kernel)
set_option maxRecDepth 20000 in
theorem gL_law_X8_least : GoodIn wsL_law (wsV RL 98 RX8 yX8_least wsX8_least) := goodIn_app (goodIn_of _ (by decide +kernel)) ggL_law_X8_least
set_option maxRecDepth 20000 in
theorem ggL_law_X7_walk : GoodIn wsL_law wsX7_walk := goodIn_r _ [825, 35, 40, 39, 628, 826, 425, 426, 34, 427, 59, 428, 429, 430, 431, 60, 168, 169, 170, 177, 178, 179, 171, 172, 827, 828, 2, 829, 830, 831, 832, 833, 834, 835, 836, 837, 838, 839, 598, 599, 600, 601, 602, 603, 604, 605, 606, 607, 608, 609, 610, 173, 174, 175, 176, 857, 858, 859, 860, 861, 862, 863, 864, 865, 866, 911, 912, 913, 914, 915, 916, 917, 918, 919, 920, 921, 922, 923, 924, 925, 926, 927, 928, 929, 930, 931, 932] (by decide +kernel) (by decide +kernel)
set_option maxRecDepth 20000 in
theorem gL_law_X7_walk : GoodIn wsL_law (wsV RL 99 RX7 yX7_walk wsX7_walk) := goodIn_app (goodIn_of _ (by decide +kernel)) ggL_law_X7_walk
set_option maxRecDepth 20000 in
theorem ggL_law_X8_walk : GoodIn wsL_law wsX8_walk := goodIn_r _ [843, 307, 295, 844, 845, 846, 322, 293, 368, 369, 5, 370, 528, 529, 530, 531, 511, 512, 513, 514, 615, 616, 617, 618, 619, 620, 621, 622, 585, 586, 587, 588, 559, 560, 561, 562, 445, 446, 447, 867, 868, 869, 870, 871, 872, 873, 874, 875, 876, 877, 878, 879, 880, 881, 882, 883, 884, 885, 886, 887, 888, 889, 890, 891, 892] (by decide +kernel) (by decide +kernel)
set_option maxRecDepth 20000 in
theorem gL_law_X8_walk : GoodIn wsL_law (wsV RL 102 RX8 yX8_walk wsX8_walk) := goodIn_app (goodIn_of _ (by decide +kernel)) ggL_law_X8_walk
set_option maxRecDepth 20000 in
theorem ggL_law_X7_count : GoodIn wsL_law wsX7_count := goodIn_r _ [850, 39, 398, 851, 40, 452, 453, 635, 732, 733, 852, 19, 144, 15, 43, 857, 858, 859, 860, 861, 862, 863, 864, 865, 866, 921, 922, 923, 924, 925, 926, 927, 928, 929, 930, 931, 932, 911, 912, 913, 914, 915, 916, 917, 918, 919, 920, 897, 898, 899, 893, 894, 895, 896] (by decide +kernel) (by decide +kernel)
set_option maxRecDepth 20000 in
theorem gL_law_X7_count : GoodIn wsL_law (wsV RL 103 RX7 yX7_count wsX7_count) := goodIn_app (goodIn_of _ (by decide +kernel)) ggL_law_X7_count
set_option maxRecDepth 20000 in
theorem ggL_law_X8_count : GoodIn wsL_law wsX8_count := goodIn_r _ [856, 322, 323, 295, 294, 324, 333, 867, 868, 869, 870, 871, 872, 873, 874, 875, 876, 877, 878, 879, 880, 881, 882, 883, 884, 885, 886, 887, 888, 889, 890, 891, 892] (by decide +kernel) (by decide +kernel)
set_option maxRecDepth 20000 in
theorem gL_law_X8_count : GoodIn wsL_law (wsV RL 106 RX8 yX8_count wsX8_count) := goodIn_app (goodIn_of _ (by decide +kernel)) ggL_law_X8_count
theorem dL_law_0 : decode cL_law 0 = .ok (.new 7, 3) := by decide +kernel
theorem dL_law_3 : decode cL_law 3 = .ok (.dup, 1) := by decide +kernel
theorem dL_law_4 : decode cL_law 4 = .ok (.invokespecial 9, 3) := by decide +kernel
theorem dL_law_7 : decode cL_law 7 = .ok (.astore_n 1, 1) := by decide +kernel
theorem dL_law_8 : decode cL_law 8 = .ok (.new 10, 3) := by decide +kernel
theorem dL_law_11 : decode cL_law 11 = .ok (.dup, 1) := by decide +kernel
theorem dL_law_12 : decode cL_law 12 = .ok (.invokespecial 12, 3) := by decide +kernel
theorem dL_law_15 : decode cL_law 15 = .ok (.astore_n 2, 1) := by decide +kernel
theorem dL_law_16 : decode cL_law 16 = .ok (.iconst 0, 1) := by decide +kernel
theorem dL_law_17 : decode cL_law 17 = .ok (.istore_n 3, 1) := by decide +kernel
theorem dL_law_18 : decode cL_law 18 = .ok (.iload_n 3, 1) := by decide +kernel
theorem dL_law_19 : decode cL_law 19 = .ok (.aload_n 0, 1) := by decide +kernel
theorem dL_law_20 : decode cL_law 20 = .ok (.arraylength, 1) := by decide +kernel
theorem dL_law_21 : decode cL_law 21 = .ok (.iconst 4, 1) := by decide +kernel
theorem dL_law_22 : decode cL_law 22 = .ok (.isub, 1) := by decide +kernel
theorem dL_law_23 : decode cL_law 23 = .ok (.if_icmp .gt 658, 3) := by decide +kernel
theorem dL_law_26 : decode cL_law 26 = .ok (.aload_n 0, 1) := by decide +kernel
theorem dL_law_27 : decode cL_law 27 = .ok (.iload_n 3, 1) := by decide +kernel
theorem dL_law_28 : decode cL_law 28 = .ok (.iaload, 1) := by decide +kernel
theorem dL_law_29 : decode cL_law 29 = .ok (.bipush 31, 2) := by decide +kernel
theorem dL_law_31 : decode cL_law 31 = .ok (.iand, 1) := by decide +kernel
theorem dL_law_32 : decode cL_law 32 = .ok (.tableswitch 643 0 21 #[104, 127, 140, 153, 166, 209, 242, 255, 268, 301, 334, 367, 390, 403, 426, 439, 462, 496, 530, 553, 577, 620], 104) := by decide +kernel
theorem dL_law_136 : decode cL_law 136 = .ok (.aload_n 1, 1) := by decide +kernel
theorem dL_law_137 : decode cL_law 137 = .ok (.aload_n 0, 1) := by decide +kernel
theorem dL_law_138 : decode cL_law 138 = .ok (.iload_n 3, 1) := by decide +kernel
theorem dL_law_139 : decode cL_law 139 = .ok (.iconst 1, 1) := by decide +kernel
theorem dL_law_140 : decode cL_law 140 = .ok (.iadd, 1) := by decide +kernel
theorem dL_law_141 : decode cL_law 141 = .ok (.iaload, 1) := by decide +kernel
theorem dL_law_142 : decode cL_law 142 = .ok (.invokevirtual 13, 3) := by decide +kernel
theorem dL_law_145 : decode cL_law 145 = .ok (.aload_n 2, 1) := by decide +kernel
theorem dL_law_146 : decode cL_law 146 = .ok (.aload_n 0, 1) := by decide +kernel
theorem dL_law_147 : decode cL_law 147 = .ok (.iload_n 3, 1) := by decide +kernel
theorem dL_law_148 : decode cL_law 148 = .ok (.iconst 1, 1) := by decide +kernel
theorem dL_law_149 : decode cL_law 149 = .ok (.iadd, 1) := by decide +kernel
theorem dL_law_150 : decode cL_law 150 = .ok (.iaload, 1) := by decide +kernel
theorem dL_law_151 : decode cL_law 151 = .ok (.invokevirtual 17, 3) := by decide +kernel
theorem dL_law_154 : decode cL_law 154 = .ok (.if_icmp .eq 521, 3) := by decide +kernel
theorem dL_law_157 : decode cL_law 157 = .ok (.iconst 0, 1) := by decide +kernel
theorem dL_law_158 : decode cL_law 158 = .ok (.ireturn, 1) := by decide +kernel
theorem dL_law_159 : decode cL_law 159 = .ok (.aload_n 1, 1) := by decide +kernel
theorem dL_law_160 : decode cL_law 160 = .ok (.invokevirtual 18, 3) := by decide +kernel
theorem dL_law_163 : decode cL_law 163 = .ok (.aload_n 2, 1) := by decide +kernel
theorem dL_law_164 : decode cL_law 164 = .ok (.invokevirtual 22, 3) := by decide +kernel
theorem dL_law_167 : decode cL_law 167 = .ok (.if_icmp .eq 508, 3) := by decide +kernel
theorem dL_law_170 : decode cL_law 170 = .ok (.iconst 0, 1) := by decide +kernel
theorem dL_law_171 : decode cL_law 171 = .ok (.ireturn, 1) := by decide +kernel
theorem dL_law_172 : decode cL_law 172 = .ok (.aload_n 1, 1) := by decide +kernel
theorem dL_law_173 : decode cL_law 173 = .ok (.invokevirtual 23, 3) := by decide +kernel
theorem dL_law_176 : decode cL_law 176 = .ok (.aload_n 2, 1) := by decide +kernel
theorem dL_law_177 : decode cL_law 177 = .ok (.invokevirtual 26, 3) := by decide +kernel
theorem dL_law_180 : decode cL_law 180 = .ok (.if_icmp .eq 495, 3) := by decide +kernel
theorem dL_law_183 : decode cL_law 183 = .ok (.iconst 0, 1) := by decide +kernel
theorem dL_law_184 : decode cL_law 184 = .ok (.ireturn, 1) := by decide +kernel
theorem dL_law_185 : decode cL_law 185 = .ok (.aload_n 1, 1) := by decide +kernel
theorem dL_law_186 : decode cL_law 186 = .ok (.invokevirtual 27, 3) := by decide +kernel
theorem dL_law_189 : decode cL_law 189 = .ok (.aload_n 2, 1) := by decide +kernel
theorem dL_law_190 : decode cL_law 190 = .ok (.invokevirtual 30, 3) := by decide +kernel
theorem dL_law_193 : decode cL_law 193 = .ok (.if_icmp .eq 482, 3) := by decide +kernel
theorem dL_law_196 : decode cL_law 196 = .ok (.iconst 0, 1) := by decide +kernel
theorem dL_law_197 : decode cL_law 197 = .ok (.ireturn, 1) := by decide +kernel
theorem dL_law_198 : decode cL_law 198 = .ok (.aload_n 1, 1) := by decide +kernel
theorem dL_law_199 : decode cL_law 199 = .ok (.aload_n 0, 1) := by decide +kernel
theorem dL_law_200 : decode cL_law 200 = .ok (.iload_n 3, 1) := by decide +kernel
theorem dL_law_201 : decode cL_law 201 = .ok (.iconst 1, 1) := by decide +kernel
theorem dL_law_202 : decode cL_law 202 = .ok (.iadd, 1) := by decide +kernel
theorem dL_law_203 : decode cL_law 203 = .ok (.iaload, 1) := by decide +kernel
theorem dL_law_204 : decode cL_law 204 = .ok (.aload_n 0, 1) := by decide +kernel
theorem dL_law_205 : decode cL_law 205 = .ok (.iload_n 3, 1) := by decide +kernel
theorem dL_law_206 : decode cL_law 206 = .ok (.iconst 2, 1) := by decide +kernel
theorem dL_law_207 : decode cL_law 207 = .ok (.iadd, 1) := by decide +kernel
theorem dL_law_208 : decode cL_law 208 = .ok (.iaload, 1) := by decide +kernel
theorem dL_law_209 : decode cL_law 209 = .ok (.aload_n 0, 1) := by decide +kernel
theorem dL_law_210 : decode cL_law 210 = .ok (.iload_n 3, 1) := by decide +kernel
theorem dL_law_211 : decode cL_law 211 = .ok (.iconst 3, 1) := by decide +kernel
theorem dL_law_212 : decode cL_law 212 = .ok (.iadd, 1) := by decide +kernel
theorem dL_law_213 : decode cL_law 213 = .ok (.iaload, 1) := by decide +kernel
theorem dL_law_214 : decode cL_law 214 = .ok (.invokevirtual 31, 3) := by decide +kernel
theorem dL_law_217 : decode cL_law 217 = .ok (.aload_n 2, 1) := by decide +kernel
theorem dL_law_218 : decode cL_law 218 = .ok (.aload_n 0, 1) := by decide +kernel
theorem dL_law_219 : decode cL_law 219 = .ok (.iload_n 3, 1) := by decide +kernel
theorem dL_law_220 : decode cL_law 220 = .ok (.iconst 1, 1) := by decide +kernel
theorem dL_law_221 : decode cL_law 221 = .ok (.iadd, 1) := by decide +kernel
theorem dL_law_222 : decode cL_law 222 = .ok (.iaload, 1) := by decide +kernel
theorem dL_law_223 : decode cL_law 223 = .ok (.aload_n 0, 1) := by decide +kernel
theorem dL_law_224 : decode cL_law 224 = .ok (.iload_n 3, 1) := by decide +kernel
theorem dL_law_225 : decode cL_law 225 = .ok (.iconst 2, 1) := by decide +kernel
theorem dL_law_226 : decode cL_law 226 = .ok (.iadd, 1) := by decide +kernel
theorem dL_law_227 : decode cL_law 227 = .ok (.iaload, 1) := by decide +kernel
theorem dL_law_228 : decode cL_law 228 = .ok (.aload_n 0, 1) := by decide +kernel
theorem dL_law_229 : decode cL_law 229 = .ok (.iload_n 3, 1) := by decide +kernel
theorem dL_law_230 : decode cL_law 230 = .ok (.iconst 3, 1) := by decide +kernel
theorem dL_law_231 : decode cL_law 231 = .ok (.iadd, 1) := by decide +kernel
theorem dL_law_232 : decode cL_law 232 = .ok (.iaload, 1) := by decide +kernel
theorem dL_law_233 : decode cL_law 233 = .ok (.invokevirtual 35, 3) := by decide +kernel
theorem dL_law_236 : decode cL_law 236 = .ok (.if_icmp .eq 439, 3) := by decide +kernel
theorem dL_law_239 : decode cL_law 239 = .ok (.iconst 0, 1) := by decide +kernel
theorem dL_law_240 : decode cL_law 240 = .ok (.ireturn, 1) := by decide +kernel
theorem dL_law_241 : decode cL_law 241 = .ok (.aload_n 1, 1) := by decide +kernel
theorem dL_law_242 : decode cL_law 242 = .ok (.aload_n 0, 1) := by decide +kernel
theorem dL_law_243 : decode cL_law 243 = .ok (.iload_n 3, 1) := by decide +kernel
theorem dL_law_244 : decode cL_law 244 = .ok (.iconst 1, 1) := by decide +kernel
theorem dL_law_245 : decode cL_law 245 = .ok (.iadd, 1) := by decide +kernel
theorem dL_law_246 : decode cL_law 246 = .ok (.iaload, 1) := by decide +kernel
theorem dL_law_247 : decode cL_law 247 = .ok (.aload_n 0, 1) := by decide +kernel
theorem dL_law_248 : decode cL_law 248 = .ok (.iload_n 3, 1) := by decide +kernel
theorem dL_law_249 : decode cL_law 249 = .ok (.iconst 2, 1) := by decide +kernel
theorem dL_law_250 : decode cL_law 250 = .ok (.iadd, 1) := by decide +kernel
theorem dL_law_251 : decode cL_law 251 = .ok (.iaload, 1) := by decide +kernel
theorem dL_law_252 : decode cL_law 252 = .ok (.invokevirtual 36, 3) := by decide +kernel
theorem dL_law_255 : decode cL_law 255 = .ok (.aload_n 2, 1) := by decide +kernel
theorem dL_law_256 : decode cL_law 256 = .ok (.aload_n 0, 1) := by decide +kernel
theorem dL_law_257 : decode cL_law 257 = .ok (.iload_n 3, 1) := by decide +kernel
theorem dL_law_258 : decode cL_law 258 = .ok (.iconst 1, 1) := by decide +kernel
theorem dL_law_259 : decode cL_law 259 = .ok (.iadd, 1) := by decide +kernel
theorem dL_law_260 : decode cL_law 260 = .ok (.iaload, 1) := by decide +kernel
theorem dL_law_261 : decode cL_law 261 = .ok (.aload_n 0, 1) := by decide +kernel
theorem dL_law_262 : decode cL_law 262 = .ok (.iload_n 3, 1) := by decide +kernel
theorem dL_law_263 : decode cL_law 263 = .ok (.iconst 2, 1) := by decide +kernel
theorem dL_law_264 : decode cL_law 264 = .ok (.iadd, 1) := by decide +kernel
theorem dL_law_265 : decode cL_law 265 = .ok (.iaload, 1) := by decide +kernel
theorem dL_law_266 : decode cL_law 266 = .ok (.invokevirtual 40, 3) := by decide +kernel
theorem dL_law_269 : decode cL_law 269 = .ok (.if_icmp .eq 406, 3) := by decide +kernel
theorem dL_law_272 : decode cL_law 272 = .ok (.iconst 0, 1) := by decide +kernel
theorem dL_law_273 : decode cL_law 273 = .ok (.ireturn, 1) := by decide +kernel
theorem dL_law_274 : decode cL_law 274 = .ok (.aload_n 1, 1) := by decide +kernel
theorem dL_law_275 : decode cL_law 275 = .ok (.invokevirtual 41, 3) := by decide +kernel
theorem dL_law_278 : decode cL_law 278 = .ok (.aload_n 2, 1) := by decide +kernel
theorem dL_law_279 : decode cL_law 279 = .ok (.invokevirtual 44, 3) := by decide +kernel
theorem dL_law_282 : decode cL_law 282 = .ok (.if_icmp .eq 393, 3) := by decide +kernel
theorem dL_law_285 : decode cL_law 285 = .ok (.iconst 0, 1) := by decide +kernel
theorem dL_law_286 : decode cL_law 286 = .ok (.ireturn, 1) := by decide +kernel
theorem dL_law_287 : decode cL_law 287 = .ok (.aload_n 1, 1) := by decide +kernel
theorem dL_law_288 : decode cL_law 288 = .ok (.invokevirtual 45, 3) := by decide +kernel
theorem dL_law_291 : decode cL_law 291 = .ok (.aload_n 2, 1) := by decide +kernel
theorem dL_law_292 : decode cL_law 292 = .ok (.invokevirtual 48, 3) := by decide +kernel
theorem dL_law_295 : decode cL_law 295 = .ok (.if_icmp .eq 380, 3) := by decide +kernel
theorem dL_law_298 : decode cL_law 298 = .ok (.iconst 0, 1) := by decide +kernel
theorem dL_law_299 : decode cL_law 299 = .ok (.ireturn, 1) := by decide +kernel
theorem dL_law_300 : decode cL_law 300 = .ok (.aload_n 1, 1) := by decide +kernel
theorem dL_law_301 : decode cL_law 301 = .ok (.aload_n 0, 1) := by decide +kernel
theorem dL_law_302 : decode cL_law 302 = .ok (.iload_n 3, 1) := by decide +kernel
theorem dL_law_303 : decode cL_law 303 = .ok (.iconst 1, 1) := by decide +kernel
theorem dL_law_304 : decode cL_law 304 = .ok (.iadd, 1) := by decide +kernel
theorem dL_law_305 : decode cL_law 305 = .ok (.iaload, 1) := by decide +kernel
theorem dL_law_306 : decode cL_law 306 = .ok (.aload_n 0, 1) := by decide +kernel
theorem dL_law_307 : decode cL_law 307 = .ok (.iload_n 3, 1) := by decide +kernel
theorem dL_law_308 : decode cL_law 308 = .ok (.iconst 2, 1) := by decide +kernel
theorem dL_law_309 : decode cL_law 309 = .ok (.iadd, 1) := by decide +kernel
theorem dL_law_310 : decode cL_law 310 = .ok (.iaload, 1) := by decide +kernel
theorem dL_law_311 : decode cL_law 311 = .ok (.invokevirtual 49, 3) := by decide +kernel
theorem dL_law_314 : decode cL_law 314 = .ok (.aload_n 2, 1) := by decide +kernel
theorem dL_law_315 : decode cL_law 315 = .ok (.aload_n 0, 1) := by decide +kernel
theorem dL_law_316 : decode cL_law 316 = .ok (.iload_n 3, 1) := by decide +kernel
theorem dL_law_317 : decode cL_law 317 = .ok (.iconst 1, 1) := by decide +kernel
theorem dL_law_318 : decode cL_law 318 = .ok (.iadd, 1) := by decide +kernel
theorem dL_law_319 : decode cL_law 319 = .ok (.iaload, 1) := by decide +kernel
theorem dL_law_320 : decode cL_law 320 = .ok (.aload_n 0, 1) := by decide +kernel
theorem dL_law_321 : decode cL_law 321 = .ok (.iload_n 3, 1) := by decide +kernel
theorem dL_law_322 : decode cL_law 322 = .ok (.iconst 2, 1) := by decide +kernel
theorem dL_law_323 : decode cL_law 323 = .ok (.iadd, 1) := by decide +kernel
theorem dL_law_324 : decode cL_law 324 = .ok (.iaload, 1) := by decide +kernel
theorem dL_law_325 : decode cL_law 325 = .ok (.invokevirtual 52, 3) := by decide +kernel
theorem dL_law_328 : decode cL_law 328 = .ok (.if_icmp .eq 347, 3) := by decide +kernel
theorem dL_law_331 : decode cL_law 331 = .ok (.iconst 0, 1) := by decide +kernel
theorem dL_law_332 : decode cL_law 332 = .ok (.ireturn, 1) := by decide +kernel
theorem dL_law_333 : decode cL_law 333 = .ok (.aload_n 1, 1) := by decide +kernel
theorem dL_law_334 : decode cL_law 334 = .ok (.aload_n 0, 1) := by decide +kernel
theorem dL_law_335 : decode cL_law 335 = .ok (.iload_n 3, 1) := by decide +kernel
theorem dL_law_336 : decode cL_law 336 = .ok (.iconst 1, 1) := by decide +kernel
theorem dL_law_337 : decode cL_law 337 = .ok (.iadd, 1) := by decide +kernel
theorem dL_law_338 : decode cL_law 338 = .ok (.iaload, 1) := by decide +kernel
theorem dL_law_339 : decode cL_law 339 = .ok (.aload_n 0, 1) := by decide +kernel
theorem dL_law_340 : decode cL_law 340 = .ok (.iload_n 3, 1) := by decide +kernel
theorem dL_law_341 : decode cL_law 341 = .ok (.iconst 2, 1) := by decide +kernel
theorem dL_law_342 : decode cL_law 342 = .ok (.iadd, 1) := by decide +kernel
theorem dL_law_343 : decode cL_law 343 = .ok (.iaload, 1) := by decide +kernel
theorem dL_law_344 : decode cL_law 344 = .ok (.invokevirtual 53, 3) := by decide +kernel
theorem dL_law_347 : decode cL_law 347 = .ok (.aload_n 2, 1) := by decide +kernel
theorem dL_law_348 : decode cL_law 348 = .ok (.aload_n 0, 1) := by decide +kernel
theorem dL_law_349 : decode cL_law 349 = .ok (.iload_n 3, 1) := by decide +kernel
theorem dL_law_350 : decode cL_law 350 = .ok (.iconst 1, 1) := by decide +kernel
theorem dL_law_351 : decode cL_law 351 = .ok (.iadd, 1) := by decide +kernel
theorem dL_law_352 : decode cL_law 352 = .ok (.iaload, 1) := by decide +kernel
theorem dL_law_353 : decode cL_law 353 = .ok (.aload_n 0, 1) := by decide +kernel
theorem dL_law_354 : decode cL_law 354 = .ok (.iload_n 3, 1) := by decide +kernel
theorem dL_law_355 : decode cL_law 355 = .ok (.iconst 2, 1) := by decide +kernel
theorem dL_law_356 : decode cL_law 356 = .ok (.iadd, 1) := by decide +kernel
theorem dL_law_357 : decode cL_law 357 = .ok (.iaload, 1) := by decide +kernel
theorem dL_law_358 : decode cL_law 358 = .ok (.invokevirtual 56, 3) := by decide +kernel
theorem dL_law_361 : decode cL_law 361 = .ok (.if_icmp .eq 314, 3) := by decide +kernel
theorem dL_law_364 : decode cL_law 364 = .ok (.iconst 0, 1) := by decide +kernel
theorem dL_law_365 : decode cL_law 365 = .ok (.ireturn, 1) := by decide +kernel
theorem dL_law_366 : decode cL_law 366 = .ok (.aload_n 1, 1) := by decide +kernel
theorem dL_law_367 : decode cL_law 367 = .ok (.aload_n 0, 1) := by decide +kernel
theorem dL_law_368 : decode cL_law 368 = .ok (.iload_n 3, 1) := by decide +kernel
theorem dL_law_369 : decode cL_law 369 = .ok (.iconst 1, 1) := by decide +kernel
theorem dL_law_370 : decode cL_law 370 = .ok (.iadd, 1) := by decide +kernel
theorem dL_law_371 : decode cL_law 371 = .ok (.iaload, 1) := by decide +kernel
theorem dL_law_372 : decode cL_law 372 = .ok (.aload_n 0, 1) := by decide +kernel
theorem dL_law_373 : decode cL_law 373 = .ok (.iload_n 3, 1) := by decide +kernel
theorem dL_law_374 : decode cL_law 374 = .ok (.iconst 2, 1) := by decide +kernel
theorem dL_law_375 : decode cL_law 375 = .ok (.iadd, 1) := by decide +kernel
theorem dL_law_376 : decode cL_law 376 = .ok (.iaload, 1) := by decide +kernel
theorem dL_law_377 : decode cL_law 377 = .ok (.invokevirtual 57, 3) := by decide +kernel
theorem dL_law_380 : decode cL_law 380 = .ok (.aload_n 2, 1) := by decide +kernel
theorem dL_law_381 : decode cL_law 381 = .ok (.aload_n 0, 1) := by decide +kernel
theorem dL_law_382 : decode cL_law 382 = .ok (.iload_n 3, 1) := by decide +kernel
theorem dL_law_383 : decode cL_law 383 = .ok (.iconst 1, 1) := by decide +kernel
theorem dL_law_384 : decode cL_law 384 = .ok (.iadd, 1) := by decide +kernel
theorem dL_law_385 : decode cL_law 385 = .ok (.iaload, 1) := by decide +kernel
theorem dL_law_386 : decode cL_law 386 = .ok (.aload_n 0, 1) := by decide +kernel
theorem dL_law_387 : decode cL_law 387 = .ok (.iload_n 3, 1) := by decide +kernel
theorem dL_law_388 : decode cL_law 388 = .ok (.iconst 2, 1) := by decide +kernel
theorem dL_law_389 : decode cL_law 389 = .ok (.iadd, 1) := by decide +kernel
theorem dL_law_390 : decode cL_law 390 = .ok (.iaload, 1) := by decide +kernel
theorem dL_law_391 : decode cL_law 391 = .ok (.invokevirtual 60, 3) := by decide +kernel
theorem dL_law_394 : decode cL_law 394 = .ok (.if_icmp .eq 281, 3) := by decide +kernel
theorem dL_law_397 : decode cL_law 397 = .ok (.iconst 0, 1) := by decide +kernel
theorem dL_law_398 : decode cL_law 398 = .ok (.ireturn, 1) := by decide +kernel
theorem dL_law_399 : decode cL_law 399 = .ok (.aload_n 1, 1) := by decide +kernel
theorem dL_law_400 : decode cL_law 400 = .ok (.aload_n 0, 1) := by decide +kernel
theorem dL_law_401 : decode cL_law 401 = .ok (.iload_n 3, 1) := by decide +kernel
theorem dL_law_402 : decode cL_law 402 = .ok (.iconst 1, 1) := by decide +kernel
theorem dL_law_403 : decode cL_law 403 = .ok (.iadd, 1) := by decide +kernel
theorem dL_law_404 : decode cL_law 404 = .ok (.iaload, 1) := by decide +kernel
theorem dL_law_405 : decode cL_law 405 = .ok (.invokevirtual 61, 3) := by decide +kernel
theorem dL_law_408 : decode cL_law 408 = .ok (.aload_n 2, 1) := by decide +kernel
theorem dL_law_409 : decode cL_law 409 = .ok (.aload_n 0, 1) := by decide +kernel
theorem dL_law_410 : decode cL_law 410 = .ok (.iload_n 3, 1) := by decide +kernel
theorem dL_law_411 : decode cL_law 411 = .ok (.iconst 1, 1) := by decide +kernel
theorem dL_law_412 : decode cL_law 412 = .ok (.iadd, 1) := by decide +kernel
theorem dL_law_413 : decode cL_law 413 = .ok (.iaload, 1) := by decide +kernel
theorem dL_law_414 : decode cL_law 414 = .ok (.invokevirtual 64, 3) := by decide +kernel
theorem dL_law_417 : decode cL_law 417 = .ok (.if_icmp .eq 258, 3) := by decide +kernel
theorem dL_law_420 : decode cL_law 420 = .ok (.iconst 0, 1) := by decide +kernel
theorem dL_law_421 : decode cL_law 421 = .ok (.ireturn, 1) := by decide +kernel
theorem dL_law_422 : decode cL_law 422 = .ok (.aload_n 1, 1) := by decide +kernel
theorem dL_law_423 : decode cL_law 423 = .ok (.invokevirtual 65, 3) := by decide +kernel
theorem dL_law_426 : decode cL_law 426 = .ok (.aload_n 2, 1) := by decide +kernel
theorem dL_law_427 : decode cL_law 427 = .ok (.invokevirtual 68, 3) := by decide +kernel
theorem dL_law_430 : decode cL_law 430 = .ok (.if_icmp .eq 245, 3) := by decide +kernel
theorem dL_law_433 : decode cL_law 433 = .ok (.iconst 0, 1) := by decide +kernel
theorem dL_law_434 : decode cL_law 434 = .ok (.ireturn, 1) := by decide +kernel
theorem dL_law_435 : decode cL_law 435 = .ok (.aload_n 1, 1) := by decide +kernel
theorem dL_law_436 : decode cL_law 436 = .ok (.aload_n 0, 1) := by decide +kernel
theorem dL_law_437 : decode cL_law 437 = .ok (.iload_n 3, 1) := by decide +kernel
theorem dL_law_438 : decode cL_law 438 = .ok (.iconst 1, 1) := by decide +kernel
theorem dL_law_439 : decode cL_law 439 = .ok (.iadd, 1) := by decide +kernel
theorem dL_law_440 : decode cL_law 440 = .ok (.iaload, 1) := by decide +kernel
theorem dL_law_441 : decode cL_law 441 = .ok (.invokevirtual 69, 3) := by decide +kernel
theorem dL_law_444 : decode cL_law 444 = .ok (.aload_n 2, 1) := by decide +kernel
theorem dL_law_445 : decode cL_law 445 = .ok (.aload_n 0, 1) := by decide +kernel
theorem dL_law_446 : decode cL_law 446 = .ok (.iload_n 3, 1) := by decide +kernel
theorem dL_law_447 : decode cL_law 447 = .ok (.iconst 1, 1) := by decide +kernel
theorem dL_law_448 : decode cL_law 448 = .ok (.iadd, 1) := by decide +kernel
theorem dL_law_449 : decode cL_law 449 = .ok (.iaload, 1) := by decide +kernel
theorem dL_law_450 : decode cL_law 450 = .ok (.invokevirtual 72, 3) := by decide +kernel
theorem dL_law_453 : decode cL_law 453 = .ok (.if_icmp .eq 222, 3) := by decide +kernel
theorem dL_law_456 : decode cL_law 456 = .ok (.iconst 0, 1) := by decide +kernel
theorem dL_law_457 : decode cL_law 457 = .ok (.ireturn, 1) := by decide +kernel
theorem dL_law_458 : decode cL_law 458 = .ok (.aload_n 1, 1) := by decide +kernel
theorem dL_law_459 : decode cL_law 459 = .ok (.invokevirtual 73, 3) := by decide +kernel
theorem dL_law_462 : decode cL_law 462 = .ok (.aload_n 2, 1) := by decide +kernel
theorem dL_law_463 : decode cL_law 463 = .ok (.invokevirtual 76, 3) := by decide +kernel
theorem dL_law_466 : decode cL_law 466 = .ok (.if_icmp .eq 209, 3) := by decide +kernel
theorem dL_law_469 : decode cL_law 469 = .ok (.iconst 0, 1) := by decide +kernel
theorem dL_law_470 : decode cL_law 470 = .ok (.ireturn, 1) := by decide +kernel
theorem dL_law_471 : decode cL_law 471 = .ok (.aload_n 1, 1) := by decide +kernel
theorem dL_law_472 : decode cL_law 472 = .ok (.aload_n 0, 1) := by decide +kernel
theorem dL_law_473 : decode cL_law 473 = .ok (.iload_n 3, 1) := by decide +kernel
theorem dL_law_474 : decode cL_law 474 = .ok (.iconst 1, 1) := by decide +kernel
theorem dL_law_475 : decode cL_law 475 = .ok (.iadd, 1) := by decide +kernel
theorem dL_law_476 : decode cL_law 476 = .ok (.iaload, 1) := by decide +kernel
theorem dL_law_477 : decode cL_law 477 = .ok (.invokevirtual 77, 3) := by decide +kernel
theorem dL_law_480 : decode cL_law 480 = .ok (.aload_n 2, 1) := by decide +kernel
theorem dL_law_481 : decode cL_law 481 = .ok (.aload_n 0, 1) := by decide +kernel
theorem dL_law_482 : decode cL_law 482 = .ok (.iload_n 3, 1) := by decide +kernel
theorem dL_law_483 : decode cL_law 483 = .ok (.iconst 1, 1) := by decide +kernel
theorem dL_law_484 : decode cL_law 484 = .ok (.iadd, 1) := by decide +kernel
theorem dL_law_485 : decode cL_law 485 = .ok (.iaload, 1) := by decide +kernel
theorem dL_law_486 : decode cL_law 486 = .ok (.invokevirtual 80, 3) := by decide +kernel
theorem dL_law_489 : decode cL_law 489 = .ok (.if_icmp .eq 186, 3) := by decide +kernel
theorem dL_law_492 : decode cL_law 492 = .ok (.iconst 0, 1) := by decide +kernel
theorem dL_law_493 : decode cL_law 493 = .ok (.ireturn, 1) := by decide +kernel
theorem dL_law_494 : decode cL_law 494 = .ok (.aload_n 1, 1) := by decide +kernel
theorem dL_law_495 : decode cL_law 495 = .ok (.aload_n 0, 1) := by decide +kernel
theorem dL_law_496 : decode cL_law 496 = .ok (.iload_n 3, 1) := by decide +kernel
theorem dL_law_497 : decode cL_law 497 = .ok (.iconst 1, 1) := by decide +kernel
theorem dL_law_498 : decode cL_law 498 = .ok (.iadd, 1) := by decide +kernel
theorem dL_law_499 : decode cL_law 499 = .ok (.iaload, 1) := by decide +kernel
theorem dL_law_500 : decode cL_law 500 = .ok (.aload_n 0, 1) := by decide +kernel
theorem dL_law_501 : decode cL_law 501 = .ok (.iload_n 3, 1) := by decide +kernel
theorem dL_law_502 : decode cL_law 502 = .ok (.iconst 2, 1) := by decide +kernel
theorem dL_law_503 : decode cL_law 503 = .ok (.iadd, 1) := by decide +kernel
theorem dL_law_504 : decode cL_law 504 = .ok (.iaload, 1) := by decide +kernel
theorem dL_law_505 : decode cL_law 505 = .ok (.invokevirtual 81, 3) := by decide +kernel
theorem dL_law_508 : decode cL_law 508 = .ok (.aload_n 2, 1) := by decide +kernel
theorem dL_law_509 : decode cL_law 509 = .ok (.aload_n 0, 1) := by decide +kernel
theorem dL_law_510 : decode cL_law 510 = .ok (.iload_n 3, 1) := by decide +kernel
theorem dL_law_511 : decode cL_law 511 = .ok (.iconst 1, 1) := by decide +kernel
theorem dL_law_512 : decode cL_law 512 = .ok (.iadd, 1) := by decide +kernel
theorem dL_law_513 : decode cL_law 513 = .ok (.iaload, 1) := by decide +kernel
theorem dL_law_514 : decode cL_law 514 = .ok (.aload_n 0, 1) := by decide +kernel
theorem dL_law_515 : decode cL_law 515 = .ok (.iload_n 3, 1) := by decide +kernel
theorem dL_law_516 : decode cL_law 516 = .ok (.iconst 2, 1) := by decide +kernel
theorem dL_law_517 : decode cL_law 517 = .ok (.iadd, 1) := by decide +kernel
theorem dL_law_518 : decode cL_law 518 = .ok (.iaload, 1) := by decide +kernel
theorem dL_law_519 : decode cL_law 519 = .ok (.invokevirtual 85, 3) := by decide +kernel
theorem dL_law_522 : decode cL_law 522 = .ok (.lcmp, 1) := by decide +kernel
theorem dL_law_523 : decode cL_law 523 = .ok (.ifCond .eq 152, 3) := by decide +kernel
theorem dL_law_526 : decode cL_law 526 = .ok (.iconst 0, 1) := by decide +kernel
theorem dL_law_527 : decode cL_law 527 = .ok (.ireturn, 1) := by decide +kernel
theorem dL_law_528 : decode cL_law 528 = .ok (.aload_n 1, 1) := by decide +kernel
theorem dL_law_529 : decode cL_law 529 = .ok (.aload_n 0, 1) := by decide +kernel
theorem dL_law_530 : decode cL_law 530 = .ok (.iload_n 3, 1) := by decide +kernel
theorem dL_law_531 : decode cL_law 531 = .ok (.iconst 1, 1) := by decide +kernel
theorem dL_law_532 : decode cL_law 532 = .ok (.iadd, 1) := by decide +kernel
theorem dL_law_533 : decode cL_law 533 = .ok (.iaload, 1) := by decide +kernel
theorem dL_law_534 : decode cL_law 534 = .ok (.aload_n 0, 1) := by decide +kernel
theorem dL_law_535 : decode cL_law 535 = .ok (.iload_n 3, 1) := by decide +kernel
theorem dL_law_536 : decode cL_law 536 = .ok (.iconst 2, 1) := by decide +kernel
theorem dL_law_537 : decode cL_law 537 = .ok (.iadd, 1) := by decide +kernel
theorem dL_law_538 : decode cL_law 538 = .ok (.iaload, 1) := by decide +kernel
theorem dL_law_539 : decode cL_law 539 = .ok (.invokevirtual 86, 3) := by decide +kernel
theorem dL_law_542 : decode cL_law 542 = .ok (.aload_n 2, 1) := by decide +kernel
theorem dL_law_543 : decode cL_law 543 = .ok (.aload_n 0, 1) := by decide +kernel
theorem dL_law_544 : decode cL_law 544 = .ok (.iload_n 3, 1) := by decide +kernel
theorem dL_law_545 : decode cL_law 545 = .ok (.iconst 1, 1) := by decide +kernel
theorem dL_law_546 : decode cL_law 546 = .ok (.iadd, 1) := by decide +kernel
theorem dL_law_547 : decode cL_law 547 = .ok (.iaload, 1) := by decide +kernel
theorem dL_law_548 : decode cL_law 548 = .ok (.aload_n 0, 1) := by decide +kernel
theorem dL_law_549 : decode cL_law 549 = .ok (.iload_n 3, 1) := by decide +kernel
theorem dL_law_550 : decode cL_law 550 = .ok (.iconst 2, 1) := by decide +kernel
theorem dL_law_551 : decode cL_law 551 = .ok (.iadd, 1) := by decide +kernel
theorem dL_law_552 : decode cL_law 552 = .ok (.iaload, 1) := by decide +kernel
theorem dL_law_553 : decode cL_law 553 = .ok (.invokevirtual 89, 3) := by decide +kernel
theorem dL_law_556 : decode cL_law 556 = .ok (.lcmp, 1) := by decide +kernel
theorem dL_law_557 : decode cL_law 557 = .ok (.ifCond .eq 118, 3) := by decide +kernel
theorem dL_law_560 : decode cL_law 560 = .ok (.iconst 0, 1) := by decide +kernel
theorem dL_law_561 : decode cL_law 561 = .ok (.ireturn, 1) := by decide +kernel
theorem dL_law_562 : decode cL_law 562 = .ok (.aload_n 1, 1) := by decide +kernel
theorem dL_law_563 : decode cL_law 563 = .ok (.aload_n 0, 1) := by decide +kernel
theorem dL_law_564 : decode cL_law 564 = .ok (.iload_n 3, 1) := by decide +kernel
theorem dL_law_565 : decode cL_law 565 = .ok (.iconst 1, 1) := by decide +kernel
theorem dL_law_566 : decode cL_law 566 = .ok (.iadd, 1) := by decide +kernel
theorem dL_law_567 : decode cL_law 567 = .ok (.iaload, 1) := by decide +kernel
theorem dL_law_568 : decode cL_law 568 = .ok (.invokevirtual 90, 3) := by decide +kernel
theorem dL_law_571 : decode cL_law 571 = .ok (.aload_n 2, 1) := by decide +kernel
theorem dL_law_572 : decode cL_law 572 = .ok (.aload_n 0, 1) := by decide +kernel
theorem dL_law_573 : decode cL_law 573 = .ok (.iload_n 3, 1) := by decide +kernel
theorem dL_law_574 : decode cL_law 574 = .ok (.iconst 1, 1) := by decide +kernel
theorem dL_law_575 : decode cL_law 575 = .ok (.iadd, 1) := by decide +kernel
theorem dL_law_576 : decode cL_law 576 = .ok (.iaload, 1) := by decide +kernel
theorem dL_law_577 : decode cL_law 577 = .ok (.invokevirtual 93, 3) := by decide +kernel
theorem dL_law_580 : decode cL_law 580 = .ok (.if_icmp .eq 95, 3) := by decide +kernel
theorem dL_law_583 : decode cL_law 583 = .ok (.iconst 0, 1) := by decide +kernel
theorem dL_law_584 : decode cL_law 584 = .ok (.ireturn, 1) := by decide +kernel
theorem dL_law_585 : decode cL_law 585 = .ok (.aload_n 1, 1) := by decide +kernel
theorem dL_law_586 : decode cL_law 586 = .ok (.aload_n 0, 1) := by decide +kernel
theorem dL_law_587 : decode cL_law 587 = .ok (.iload_n 3, 1) := by decide +kernel
theorem dL_law_588 : decode cL_law 588 = .ok (.iconst 1, 1) := by decide +kernel
theorem dL_law_589 : decode cL_law 589 = .ok (.iadd, 1) := by decide +kernel
theorem dL_law_590 : decode cL_law 590 = .ok (.iaload, 1) := by decide +kernel
theorem dL_law_591 : decode cL_law 591 = .ok (.invokevirtual 94, 3) := by decide +kernel
theorem dL_law_594 : decode cL_law 594 = .ok (.aload_n 2, 1) := by decide +kernel
theorem dL_law_595 : decode cL_law 595 = .ok (.aload_n 0, 1) := by decide +kernel
theorem dL_law_596 : decode cL_law 596 = .ok (.iload_n 3, 1) := by decide +kernel
theorem dL_law_597 : decode cL_law 597 = .ok (.iconst 1, 1) := by decide +kernel
theorem dL_law_598 : decode cL_law 598 = .ok (.iadd, 1) := by decide +kernel
theorem dL_law_599 : decode cL_law 599 = .ok (.iaload, 1) := by decide +kernel
theorem dL_law_600 : decode cL_law 600 = .ok (.invokevirtual 98, 3) := by decide +kernel
theorem dL_law_603 : decode cL_law 603 = .ok (.lcmp, 1) := by decide +kernel
theorem dL_law_604 : decode cL_law 604 = .ok (.ifCond .eq 71, 3) := by decide +kernel
theorem dL_law_607 : decode cL_law 607 = .ok (.iconst 0, 1) := by decide +kernel
theorem dL_law_608 : decode cL_law 608 = .ok (.ireturn, 1) := by decide +kernel
theorem dL_law_609 : decode cL_law 609 = .ok (.aload_n 1, 1) := by decide +kernel
theorem dL_law_610 : decode cL_law 610 = .ok (.aload_n 0, 1) := by decide +kernel
theorem dL_law_611 : decode cL_law 611 = .ok (.iload_n 3, 1) := by decide +kernel
theorem dL_law_612 : decode cL_law 612 = .ok (.iconst 1, 1) := by decide +kernel
theorem dL_law_613 : decode cL_law 613 = .ok (.iadd, 1) := by decide +kernel
theorem dL_law_614 : decode cL_law 614 = .ok (.iaload, 1) := by decide +kernel
theorem dL_law_615 : decode cL_law 615 = .ok (.aload_n 0, 1) := by decide +kernel
theorem dL_law_616 : decode cL_law 616 = .ok (.iload_n 3, 1) := by decide +kernel
theorem dL_law_617 : decode cL_law 617 = .ok (.iconst 2, 1) := by decide +kernel
theorem dL_law_618 : decode cL_law 618 = .ok (.iadd, 1) := by decide +kernel
theorem dL_law_619 : decode cL_law 619 = .ok (.iaload, 1) := by decide +kernel
theorem dL_law_620 : decode cL_law 620 = .ok (.aload_n 0, 1) := by decide +kernel
theorem dL_law_621 : decode cL_law 621 = .ok (.iload_n 3, 1) := by decide +kernel
theorem dL_law_622 : decode cL_law 622 = .ok (.iconst 3, 1) := by decide +kernel
theorem dL_law_623 : decode cL_law 623 = .ok (.iadd, 1) := by decide +kernel
theorem dL_law_624 : decode cL_law 624 = .ok (.iaload, 1) := by decide +kernel
theorem dL_law_625 : decode cL_law 625 = .ok (.invokevirtual 99, 3) := by decide +kernel
theorem dL_law_628 : decode cL_law 628 = .ok (.aload_n 2, 1) := by decide +kernel
theorem dL_law_629 : decode cL_law 629 = .ok (.aload_n 0, 1) := by decide +kernel
theorem dL_law_630 : decode cL_law 630 = .ok (.iload_n 3, 1) := by decide +kernel
theorem dL_law_631 : decode cL_law 631 = .ok (.iconst 1, 1) := by decide +kernel
theorem dL_law_632 : decode cL_law 632 = .ok (.iadd, 1) := by decide +kernel
theorem dL_law_633 : decode cL_law 633 = .ok (.iaload, 1) := by decide +kernel
theorem dL_law_634 : decode cL_law 634 = .ok (.aload_n 0, 1) := by decide +kernel
theorem dL_law_635 : decode cL_law 635 = .ok (.iload_n 3, 1) := by decide +kernel
theorem dL_law_636 : decode cL_law 636 = .ok (.iconst 2, 1) := by decide +kernel
theorem dL_law_637 : decode cL_law 637 = .ok (.iadd, 1) := by decide +kernel
theorem dL_law_638 : decode cL_law 638 = .ok (.iaload, 1) := by decide +kernel
theorem dL_law_639 : decode cL_law 639 = .ok (.aload_n 0, 1) := by decide +kernel
theorem dL_law_640 : decode cL_law 640 = .ok (.iload_n 3, 1) := by decide +kernel
theorem dL_law_641 : decode cL_law 641 = .ok (.iconst 3, 1) := by decide +kernel
theorem dL_law_642 : decode cL_law 642 = .ok (.iadd, 1) := by decide +kernel
theorem dL_law_643 : decode cL_law 643 = .ok (.iaload, 1) := by decide +kernel
theorem dL_law_644 : decode cL_law 644 = .ok (.invokevirtual 102, 3) := by decide +kernel
theorem dL_law_647 : decode cL_law 647 = .ok (.if_icmp .eq 28, 3) := by decide +kernel
theorem dL_law_650 : decode cL_law 650 = .ok (.iconst 0, 1) := by decide +kernel
theorem dL_law_651 : decode cL_law 651 = .ok (.ireturn, 1) := by decide +kernel
theorem dL_law_652 : decode cL_law 652 = .ok (.aload_n 1, 1) := by decide +kernel
theorem dL_law_653 : decode cL_law 653 = .ok (.aload_n 0, 1) := by decide +kernel
theorem dL_law_654 : decode cL_law 654 = .ok (.iload_n 3, 1) := by decide +kernel
theorem dL_law_655 : decode cL_law 655 = .ok (.iconst 1, 1) := by decide +kernel
theorem dL_law_656 : decode cL_law 656 = .ok (.iadd, 1) := by decide +kernel
theorem dL_law_657 : decode cL_law 657 = .ok (.iaload, 1) := by decide +kernel
theorem dL_law_658 : decode cL_law 658 = .ok (.invokevirtual 103, 3) := by decide +kernel
theorem dL_law_661 : decode cL_law 661 = .ok (.aload_n 2, 1) := by decide +kernel
theorem dL_law_662 : decode cL_law 662 = .ok (.aload_n 0, 1) := by decide +kernel
theorem dL_law_663 : decode cL_law 663 = .ok (.iload_n 3, 1) := by decide +kernel
theorem dL_law_664 : decode cL_law 664 = .ok (.iconst 1, 1) := by decide +kernel
theorem dL_law_665 : decode cL_law 665 = .ok (.iadd, 1) := by decide +kernel
theorem dL_law_666 : decode cL_law 666 = .ok (.iaload, 1) := by decide +kernel
theorem dL_law_667 : decode cL_law 667 = .ok (.invokevirtual 106, 3) := by decide +kernel
theorem dL_law_670 : decode cL_law 670 = .ok (.if_icmp .eq 5, 3) := by decide +kernel
theorem dL_law_673 : decode cL_law 673 = .ok (.iconst 0, 1) := by decide +kernel
theorem dL_law_674 : decode cL_law 674 = .ok (.ireturn, 1) := by decide +kernel
theorem dL_law_675 : decode cL_law 675 = .ok (.iinc 3 4, 3) := by decide +kernel
theorem dL_law_678 : decode cL_law 678 = .ok (.goto (-660), 3) := by decide +kernel
theorem dL_law_681 : decode cL_law 681 = .ok (.iconst 1, 1) := by decide +kernel
theorem dL_law_682 : decode cL_law 682 = .ok (.ireturn, 1) := by decide +kernel
