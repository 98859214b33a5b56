theorem goodIn_cons {big a : List Cond} {c : Cond} (h1 : GoodIn big [c]) (h2 : GoodIn big a) : GoodIn big (c :: a) := fun w h => (List.mem_cons.mp h).elim (fun e => h1 w (List.mem_singleton.mpr e)) (h2 w)
set_option maxRecDepth 20000 in
theorem ggL_law_X7_ifMoved : GoodIn wsL_law wsX7_ifMoved := goodIn_r _ [778, 158, 336, 337, 338, 5, 339, 98, 159, 160, 161, 779, 780, 781, 782, 108, 340, 341, 342, 343, 245, 246, 247, 248, 249, 250, 251, 252, 344, 345, 346, 347, 348, 349, 350, 351, 352, 353, 354, 521, 522, 523, 524, 525, 526, 106, 527, 109, 528, 529, 530, 531, 532, 533, 534, 253, 254, 255, 535, 536, 537, 538, 543, 544, 545, 546, 547, 548, 549, 550, 912, 913, 914, 915, 916, 917, 918, 919, 920, 921, 922, 923, 924, 925, 926, 927, 928, 929, 930, 931] (by decide +kernel) (by decide +kernel)
set_option maxRecDepth 20000 in
theorem gL_law_X7_ifMoved : GoodIn wsL_law (wsV RL 146 RX7 yX7_ifMoved wsX7_ifMoved) := goodIn_app (goodIn_of _ (by decide +kernel)) ggL_law_X7_ifMoved
set_option maxRecDepth 20000 in
theorem ggL_law_L_ifPlayed : GoodIn wsL_law wsL_ifPlayed := goodIn_ca (goodIn_r _ [785, 116, 786, 787, 788, 2, 789, 121, 122, 17, 16, 419, 420, 421, 653, 139, 140, 15, 141, 41, 42, 43, 44, 45, 46, 47, 142, 143, 144, 40, 145, 56, 55, 422, 423, 424, 425, 402, 30, 267, 268, 269, 270, 271, 272, 273, 274, 275, 58, 59, 60, 57, 276, 235, 236, 237, 238, 239, 240, 426, 427, 428, 429, 34, 430, 431, 282, 283, 284, 285, 186, 187, 188, 432, 325, 326, 433, 434, 435, 33, 436, 437, 438, 439, 440, 441, 442, 443, 88, 89, 87, 444, 92, 445, 446, 447, 298, 299, 300, 448, 449, 450, 451, 452, 453, 454, 455, 456, 457, 458, 93, 459, 460, 461, 462, 91, 463, 464, 465, 466, 467, 468, 469, 470, 471, 472, 473, 474, 475, 476, 477, 478, 479, 480, 481, 482, 483, 484, 485, 486, 487, 488, 489, 490, 491, 492, 493, 281, 494, 495, 496, 497, 290, 291, 292, 29, 293, 77, 294, 78, 295, 76, 296, 80, 81, 297, 301, 302, 303, 304, 305, 306, 208, 209, 210, 307, 212, 213, 214, 308, 309, 310, 311, 79, 312, 313, 314, 315, 316, 317, 318, 319, 320, 321, 322, 323, 324, 327, 328, 329, 330, 48, 49, 50, 331, 905, 906, 907, 908, 909, 910, 911, 932, 933, 934, 935, 936, 937, 938, 939, 940, 941, 958, 959, 960, 961, 962, 963, 952, 953, 954, 955, 956, 957, 946, 947, 948, 949, 950, 951] (by decide +kernel) (by decide +kernel)) (goodIn_sub (fun _ h => List.mem_append_left _ (List.mem_append_left _ (List.mem_append_right _ h))) (by decide +kernel))
set_option maxRecDepth 20000 in
theorem gL_law_L_ifPlayed : GoodIn wsL_law (va_wsS RL 147 yL_ifPlayed wsL_ifPlayed) := goodIn_app (goodIn_of _ (by decide +kernel)) ggL_law_L_ifPlayed
set_option maxRecDepth 20000 in
theorem ggL_law_X7_ifPlayed : GoodIn wsL_law wsX7_ifPlayed := goodIn_r _ [793, 158, 502, 503, 5, 504, 159, 160, 161, 794, 795, 796, 797, 111, 98, 505, 506, 507, 508, 340, 341, 342, 343, 245, 246, 247, 248, 249, 250, 251, 252, 344, 345, 346, 347, 509, 510, 511, 512, 348, 349, 350, 351, 513, 514, 515, 516, 352, 353, 354, 517, 518, 519, 520, 521, 522, 523, 524, 525, 526, 106, 108, 527, 109, 528, 529, 530, 531, 532, 533, 534, 253, 254, 255, 535, 536, 537, 538, 539, 540, 541, 542, 543, 544, 545, 546, 547, 548, 549, 550, 551, 552, 553, 554, 555, 556, 557, 558, 367, 368, 369, 370, 387, 388, 389, 390, 559, 560, 561, 562, 563, 564, 565, 566, 567, 568, 569, 570, 355, 356, 357, 358, 359, 360, 361, 362, 103, 363, 364, 365, 366, 104, 371, 372, 373, 374, 375, 376, 377, 378, 105, 379, 380, 381, 382, 383, 384, 385, 386, 391, 392, 393, 394, 912, 913, 914, 915, 916, 917, 918, 919, 920, 921, 922, 923, 924, 925, 926, 927, 928, 929, 930, 931] (by decide +kernel) (by decide +kernel)
set_option maxRecDepth 20000 in
theorem gL_law_X7_ifPlayed : GoodIn wsL_law (wsV RL 149 RX7 yX7_ifPlayed wsX7_ifPlayed) := goodIn_app (goodIn_of _ (by decide +kernel)) ggL_law_X7_ifPlayed
set_option maxRecDepth 20000 in
theorem ggL_law_L_count : GoodIn wsL_law wsL_count := goodIn_ca (goodIn_r _ [800, 116, 801, 802, 803, 2, 804, 121, 122, 16, 123, 124, 125, 805, 806, 807, 808, 809, 810, 811, 21, 682, 267, 268, 269, 15, 270, 41, 43, 44, 271, 272, 273, 274, 40, 275, 58, 59, 60, 56, 55, 57, 276, 235, 236, 237, 238, 239, 240, 404, 405, 406, 407, 45, 485, 486, 487, 488, 489, 325, 326, 812, 813, 814, 815, 30, 816, 817, 290, 291, 292, 29, 293, 77, 294, 78, 295, 76, 296, 80, 81, 297, 298, 299, 300, 301, 143, 144, 145, 302, 303, 304, 305, 306, 208, 209, 210, 307, 212, 213, 214, 308, 309, 310, 311, 79, 312, 313, 314, 315, 316, 317, 318, 319, 320, 431, 282, 283, 284, 285, 186, 187, 188, 42, 818, 819, 820, 821, 22, 905, 906, 907, 908, 909, 910, 911, 932, 933, 934, 935, 936, 937, 938, 939, 940, 941, 958, 959, 960, 961, 962, 963, 942, 943, 946, 947, 948, 949, 950, 951] (by decide +kernel) (by decide +kernel)) (goodIn_sub (fun _ h => List.mem_append_left _ (List.mem_append_left _ (List.mem_append_right _ h))) (by decide +kernel))
set_option maxRecDepth 20000 in
theorem gL_law_L_count : GoodIn wsL_law (va_wsS RL 150 yL_count wsL_count) := goodIn_app (goodIn_of _ (by decide +kernel)) ggL_law_L_count
set_option maxRecDepth 20000 in
theorem ggL_law_X7_count : GoodIn wsL_law wsX7_count := goodIn_r _ [825, 158, 159, 160, 5, 161, 826, 827, 828, 829, 98, 101, 166, 830, 831, 832, 833, 367, 368, 369, 370, 249, 250, 251, 252, 834, 835, 836, 837, 567, 568, 569, 570, 387, 388, 389, 390, 348, 349, 350, 351, 245, 246, 247, 248, 253, 254, 255, 340, 341, 342, 343, 344, 345, 346, 347, 555, 556, 557, 558, 551, 552, 553, 554, 513, 514, 515, 516, 352, 353, 354, 838, 839, 840, 841, 103, 363, 364, 365, 366, 104, 371, 372, 373, 374, 375, 376, 377, 378, 105, 379, 380, 381, 382, 383, 384, 385, 386, 391, 392, 393, 394, 912, 913, 914, 915, 916, 917, 918, 919, 920, 921, 922, 923, 924, 925, 926, 927, 928, 929, 930, 931] (by decide +kernel) (by decide +kernel)
set_option maxRecDepth 20000 in
theorem gL_law_X7_count : GoodIn wsL_law (wsV RL 152 RX7 yX7_count wsX7_count) := goodIn_app (goodIn_of _ (by decide +kernel)) ggL_law_X7_count
set_option maxRecDepth 20000 in
theorem ggL_law_X6_weightShare : GoodIn wsL_law wsX6_weightShare := goodIn_r _ [845, 16, 846, 847, 848, 849, 15, 850, 41, 43, 44, 851, 272, 273, 274, 40, 275, 58, 59, 60, 56, 55, 57, 276, 235, 236, 237, 238, 239, 240, 905, 906, 907, 908, 909, 910, 911, 932, 933, 934, 935, 936, 937, 938, 939, 940, 941, 958, 959, 960, 961, 962, 963] (by decide +kernel) (by decide +kernel)
set_option maxRecDepth 20000 in
theorem gL_law_X6_weightShare : GoodIn wsL_law (wsV RL 153 RX6 yX6_weightShare wsX6_weightShare) := goodIn_app (goodIn_of _ (by decide +kernel)) ggL_law_X6_weightShare
set_option maxRecDepth 20000 in
theorem ggL_law_X7_weightShare : GoodIn wsL_law wsX7_weightShare := goodIn_r _ [855, 158, 856, 857, 858, 5, 859, 860, 834, 835, 836, 837, 98, 567, 568, 569, 570, 367, 368, 369, 370, 249, 250, 251, 252, 387, 388, 389, 390, 348, 349, 350, 351, 245, 246, 247, 248, 253, 254, 255, 912, 913, 914, 915, 916, 917, 918, 919, 920, 921, 922, 923, 924, 925, 926, 927, 928, 929, 930, 931] (by decide +kernel) (by decide +kernel)
set_option maxRecDepth 20000 in
theorem gL_law_X7_weightShare : GoodIn wsL_law (wsV RL 157 RX7 yX7_weightShare wsX7_weightShare) := goodIn_app (goodIn_of _ (by decide +kernel)) ggL_law_X7_weightShare
set_option maxRecDepth 20000 in
theorem gh_X6_digest : GoodIn wsL_law [Cond.code yX6_digest cX6_digest 5 (some .long)] := goodIn_r _ [864] (by decide +kernel) (by decide +kernel)
set_option maxRecDepth 20000 in
theorem gr_X6_digest_1 : GoodIn wsL_law wsX6_digest_r1 := goodIn_r _ [865, 866, 16, 124, 125, 123, 26, 867, 802, 803, 2, 804, 121, 122, 805, 806, 807, 808, 809, 810, 811, 21, 682, 267] (by decide +kernel) (by decide +kernel)
set_option maxRecDepth 20000 in
theorem gr_X6_digest_2 : GoodIn wsL_law wsX6_digest_r2 := goodIn_r _ [268, 269, 15, 270, 41, 43, 44, 271, 272, 273, 274, 40, 275, 58, 59, 60, 56, 55, 57, 276, 235, 236, 237, 238] (by decide +kernel) (by decide +kernel)
set_option maxRecDepth 20000 in
theorem gr_X6_digest_3 : GoodIn wsL_law wsX6_digest_r3 := goodIn_r _ [239, 240, 404, 405, 406, 407, 45, 485, 486, 487, 488, 489, 325, 326, 812, 813, 814, 815, 30, 816, 817, 290, 291, 292] (by decide +kernel) (by decide +kernel)
set_option maxRecDepth 20000 in
theorem gr_X6_digest_4 : GoodIn wsL_law wsX6_digest_r4 := goodIn_r _ [29, 293, 77, 294, 78, 295, 76, 296, 80, 81, 297, 298, 299, 300, 301, 143, 144, 145, 302, 303, 304, 305, 306, 208] (by decide +kernel) (by decide +kernel)
set_option maxRecDepth 20000 in
theorem gr_X6_digest_5 : GoodIn wsL_law wsX6_digest_r5 := goodIn_r _ [209, 210, 307, 212, 213, 214, 308, 309, 310, 311, 79, 312, 313, 314, 315, 316, 317, 318, 319, 320, 431, 282, 283, 284] (by decide +kernel) (by decide +kernel)
set_option maxRecDepth 20000 in
theorem gr_X6_digest_6 : GoodIn wsL_law wsX6_digest_r6 := goodIn_r _ [285, 186, 187, 188, 42, 818, 819, 820, 821, 22, 868, 695, 696, 697, 205, 206, 233, 232, 207, 211, 234, 869, 710, 711] (by decide +kernel) (by decide +kernel)
set_option maxRecDepth 20000 in
theorem gr_X6_digest_7 : GoodIn wsL_law wsX6_digest_r7 := goodIn_r _ [712, 263, 264, 265, 266, 713, 714, 715, 716, 717, 278, 279, 280, 281, 718, 719, 720, 721, 494, 495, 496, 497, 286, 287] (by decide +kernel) (by decide +kernel)
set_option maxRecDepth 20000 in
theorem gr_X6_digest_8 : GoodIn wsL_law wsX6_digest_r8 := goodIn_r _ [288, 289, 321, 322, 323, 324, 722, 723, 724, 725, 870, 772, 773, 774, 17, 34, 277, 653, 139, 140, 141, 46, 47, 142] (by decide +kernel) (by decide +kernel)
set_option maxRecDepth 20000 in
theorem gr_X6_digest_9 : GoodIn wsL_law wsX6_digest_r9 := goodIn_r _ [327, 328, 329, 330, 48, 49, 50, 331, 756, 757, 758, 33, 759, 438, 439, 437, 440, 441, 442, 443, 88, 89, 87, 444] (by decide +kernel) (by decide +kernel)
set_option maxRecDepth 20000 in
theorem gr_X6_digest_10 : GoodIn wsL_law wsX6_digest_r10 := goodIn_r _ [92, 445, 446, 447, 448, 450, 451, 452, 453, 454, 455, 456, 457, 458, 93, 459, 460, 461, 462, 91, 463, 464, 465, 466] (by decide +kernel) (by decide +kernel)
set_option maxRecDepth 20000 in
theorem gr_X6_digest_11 : GoodIn wsL_law wsX6_digest_r11 := goodIn_r _ [467, 468, 469, 470, 471, 472, 473, 474, 475, 476, 477, 478, 479, 480, 481, 871, 742, 743, 744, 419, 420, 421, 426, 427] (by decide +kernel) (by decide +kernel)
set_option maxRecDepth 20000 in
theorem gr_X6_digest_12 : GoodIn wsL_law wsX6_digest_r12 := goodIn_r _ [428, 429, 430, 432, 433, 434, 435, 436, 449, 482, 483, 484, 490, 491, 492, 493, 872, 753, 754, 755, 873, 787, 788, 789] (by decide +kernel) (by decide +kernel)
set_option maxRecDepth 20000 in
theorem gr_X6_digest_13 : GoodIn wsL_law wsX6_digest_r13 := goodIn_r _ [422, 423, 424, 425, 402, 847, 848, 849, 850, 851, 874, 875, 876, 877, 878, 879, 25, 880, 881, 71, 70] (by decide +kernel) (by decide +kernel)
theorem ggL_law_X6_digest : GoodIn wsL_law wsX6_digest := goodIn_cons gh_X6_digest (goodIn_app (goodIn_app (goodIn_app (goodIn_app (goodIn_app (goodIn_app (goodIn_app (goodIn_app (goodIn_app ((goodIn_app gr_X6_digest_1 (goodIn_app gr_X6_digest_2 (goodIn_app gr_X6_digest_3 (goodIn_app gr_X6_digest_4 (goodIn_app gr_X6_digest_5 (goodIn_app gr_X6_digest_6 (goodIn_app gr_X6_digest_7 (goodIn_app gr_X6_digest_8 (goodIn_app gr_X6_digest_9 (goodIn_app gr_X6_digest_10 (goodIn_app gr_X6_digest_11 (goodIn_app gr_X6_digest_12 (gr_X6_digest_13)))))))))))))) (goodIn_sub inlX6 (by decide +kernel))) (goodIn_sub inlX4 (by decide +kernel))) (goodIn_sub inlX1 (by decide +kernel))) (goodIn_sub inlX0 (by decide +kernel))) (goodIn_sub inlX2 (by decide +kernel))) (goodIn_sub inlX3 (by decide +kernel))) (goodIn_sub inlX5 (by decide +kernel))) (goodIn_sub (fun _ h => List.mem_append_left _ (List.mem_append_left _ (List.mem_append_right _ h))) (by decide +kernel))) (goodIn_sub (fun _ h => List.mem_append_right _ h) (by decide +kernel)))
set_option maxRecDepth 20000 in
theorem gL_law_X6_digest : GoodIn wsL_law (wsV RL 158 RX6 yX6_digest wsX6_digest) := goodIn_app (goodIn_of _ (by decide +kernel)) ggL_law_X6_digest
set_option maxRecDepth 20000 in
theorem gh_X7_digest : GoodIn wsL_law [Cond.code yX7_digest cX7_digest 3 (some .long)] := goodIn_r _ [885] (by decide +kernel) (by decide +kernel)
set_option maxRecDepth 20000 in
theorem gr_X7_digest_1 : GoodIn wsL_law wsX7_digest_r1 := goodIn_r _ [158, 886, 887, 98, 587, 102, 826, 827, 828, 5, 829, 101, 166, 830, 831, 832, 833, 367, 368, 369, 370, 249, 250, 251] (by decide +kernel) (by decide +kernel)
set_option maxRecDepth 20000 in
theorem gr_X7_digest_2 : GoodIn wsL_law wsX7_digest_r2 := goodIn_r _ [252, 834, 835, 836, 837, 567, 568, 569, 570, 387, 388, 389, 390, 348, 349, 350, 351, 245, 246, 247, 248, 253, 254, 255] (by decide +kernel) (by decide +kernel)
set_option maxRecDepth 20000 in
theorem gr_X7_digest_3 : GoodIn wsL_law wsX7_digest_r3 := goodIn_r _ [340, 341, 342, 343, 344, 345, 346, 347, 555, 556, 557, 558, 551, 552, 553, 554, 513, 514, 515, 516, 352, 353, 354, 838] (by decide +kernel) (by decide +kernel)
set_option maxRecDepth 20000 in
theorem gr_X7_digest_4 : GoodIn wsL_law wsX7_digest_r4 := goodIn_r _ [839, 840, 841, 103, 363, 364, 365, 366, 104, 371, 372, 373, 374, 375, 376, 377, 378, 105, 379, 380, 381, 382, 383, 384] (by decide +kernel) (by decide +kernel)
set_option maxRecDepth 20000 in
theorem gr_X7_digest_5 : GoodIn wsL_law wsX7_digest_r5 := goodIn_r _ [385, 386, 391, 392, 393, 394, 888, 889, 890, 891, 892, 702, 703, 704, 705, 730, 731, 732, 733, 563, 564, 565, 566, 359] (by decide +kernel) (by decide +kernel)
set_option maxRecDepth 20000 in
theorem gr_X7_digest_6 : GoodIn wsL_law wsX7_digest_r6 := goodIn_r _ [360, 361, 362, 734, 735, 736, 737, 779, 780, 781, 782, 108, 521, 522, 523, 524, 525, 526, 106, 527, 109, 528, 529, 530] (by decide +kernel) (by decide +kernel)
set_option maxRecDepth 20000 in
theorem gr_X7_digest_7 : GoodIn wsL_law wsX7_digest_r7 := goodIn_r _ [531, 532, 533, 534, 535, 536, 537, 538, 543, 544, 545, 546, 547, 548, 549, 550, 509, 510, 511, 512, 517, 518, 519, 520] (by decide +kernel) (by decide +kernel)
set_option maxRecDepth 20000 in
theorem gr_X7_digest_8 : GoodIn wsL_law wsX7_digest_r8 := goodIn_r _ [539, 540, 541, 542, 559, 560, 561, 562, 764, 765, 766, 767, 794, 795, 796, 797, 111, 505, 506, 507, 508, 355, 356, 357] (by decide +kernel) (by decide +kernel)
set_option maxRecDepth 20000 in
theorem gr_X7_digest_9 : GoodIn wsL_law wsX7_digest_r9 := goodIn_r _ [358, 856, 857, 858, 859, 860, 893, 894, 895, 896, 897, 898, 899, 900, 901, 902, 903, 904] (by decide +kernel) (by decide +kernel)
theorem ggL_law_X7_digest : GoodIn wsL_law wsX7_digest := goodIn_cons gh_X7_digest (goodIn_app ((goodIn_app gr_X7_digest_1 (goodIn_app gr_X7_digest_2 (goodIn_app gr_X7_digest_3 (goodIn_app gr_X7_digest_4 (goodIn_app gr_X7_digest_5 (goodIn_app gr_X7_digest_6 (goodIn_app gr_X7_digest_7 (goodIn_app gr_X7_digest_8 (gr_X7_digest_9)))))))))) (goodIn_sub inlX7 (by decide +kernel)))
set_option maxRecDepth 20000 in
theorem gL_law_X7_digest : GoodIn wsL_law (wsV RL 162 RX7 yX7_digest wsX7_digest) := goodIn_app (goodIn_of _ (by decide +kernel)) ggL_law_X7_digest
