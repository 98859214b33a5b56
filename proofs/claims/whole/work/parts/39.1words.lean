set_option maxRecDepth 20000 in
theorem ggL_law_X6_init : GoodIn wsL_law wsX6_init := goodIn_r _ [9, 10, 11, 12, 13, 14, 15, 16, 17, 18, 19, 20, 21, 22, 23, 24, 25, 26, 27, 28, 29, 30, 31, 32, 33, 34, 35, 36, 37, 38, 39, 40, 41, 42, 43, 44, 45, 46, 47, 48, 49, 50, 51, 52, 53, 54, 55, 56, 57, 58, 59, 60, 61, 62, 63, 64, 65, 66, 67, 68, 69, 70, 71, 72, 73, 74, 75, 76, 77, 78, 79, 80, 81, 82, 83, 84, 85, 86, 87, 88, 89, 90, 91, 92, 93, 932, 933, 934, 935, 936, 937, 938, 939, 940, 941, 905, 906, 907, 908, 909, 910, 911, 942, 943, 944, 945, 946, 947, 948, 949, 950, 951, 952, 953, 954, 955, 956, 957, 958, 959, 960, 961, 962, 963] (by decide +kernel) (by decide +kernel)
set_option maxRecDepth 20000 in
theorem gL_law_X6_init : GoodIn wsL_law (wsX6_init) := ggL_law_X6_init
set_option maxRecDepth 20000 in
theorem ggL_law_X7_init : GoodIn wsL_law wsX7_init := goodIn_r _ [96, 97, 11, 12, 54, 98, 99, 100, 101, 102, 103, 104, 105, 106, 107, 108, 109, 110, 111, 912, 913, 914, 915, 916, 917, 918, 919, 920, 921, 922, 923, 924, 925, 926, 927, 928, 929, 930, 931] (by decide +kernel) (by decide +kernel)
set_option maxRecDepth 20000 in
theorem gL_law_X7_init : GoodIn wsL_law (wsX7_init) := ggL_law_X7_init
set_option maxRecDepth 20000 in
theorem ggL_law_L_begin : GoodIn wsL_law wsL_begin := goodIn_ca (goodIn_r _ [115, 116, 117, 118, 119, 2, 120, 121, 122, 21, 16, 123, 124, 125, 126, 127, 128, 20, 129, 66, 65, 64, 14, 15, 130, 131, 132, 133, 35, 36, 37, 11, 12, 38, 39, 40, 41, 42, 43, 44, 45, 46, 47, 48, 49, 50, 51, 52, 53, 54, 55, 56, 57, 58, 59, 60, 134, 135, 136, 137, 138, 139, 140, 141, 142, 143, 144, 145, 146, 147, 148, 149, 150, 151, 152, 153, 905, 906, 907, 908, 909, 910, 911, 932, 933, 934, 935, 936, 937, 938, 939, 940, 941, 958, 959, 960, 961, 962, 963, 942, 943] (by decide +kernel) (by decide +kernel)) (goodIn_sub (fun _ h => List.mem_append_left _ (List.mem_append_left _ (List.mem_append_right _ h))) (by decide +kernel))
set_option maxRecDepth 20000 in
theorem gL_law_L_begin : GoodIn wsL_law (va_wsS RL 77 yL_begin wsL_begin) := goodIn_app (goodIn_of _ (by decide +kernel)) ggL_law_L_begin
set_option maxRecDepth 20000 in
theorem ggL_law_X7_begin : GoodIn wsL_law wsX7_begin := goodIn_r _ [157, 158, 98, 159, 160, 5, 161, 162, 163, 164, 165, 166, 99, 167, 168, 169, 170, 912, 913, 914, 915, 916, 917, 918, 919, 920, 921, 922, 923, 924, 925, 926, 927, 928, 929, 930, 931] (by decide +kernel) (by decide +kernel)
set_option maxRecDepth 20000 in
theorem gL_law_X7_begin : GoodIn wsL_law (wsV RL 82 RX7 yX7_begin wsX7_begin) := goodIn_app (goodIn_of _ (by decide +kernel)) ggL_law_X7_begin
set_option maxRecDepth 20000 in
theorem ggL_law_X7_thrown : GoodIn wsL_law wsX7_thrown := goodIn_r _ [174, 158, 912, 913, 914, 915, 916, 917, 918, 919, 920, 921, 922, 923, 924, 925, 926, 927, 928, 929, 930, 931] (by decide +kernel) (by decide +kernel)
set_option maxRecDepth 20000 in
theorem gL_law_X7_thrown : GoodIn wsL_law (wsV RL 83 RX7 yX7_thrown wsX7_thrown) := goodIn_app (goodIn_of _ (by decide +kernel)) ggL_law_X7_thrown
set_option maxRecDepth 20000 in
theorem ggL_law_L_addLine : GoodIn wsL_law wsL_addLine := goodIn_ca (goodIn_ca (goodIn_r _ [177, 116, 178, 179, 180, 181, 2, 182, 121, 122, 183, 184, 16, 124, 125, 21, 185, 186, 187, 15, 188, 42, 126, 127, 128, 20, 129, 66, 65, 64, 14, 130, 131, 132, 133, 35, 36, 37, 11, 12, 38, 39, 40, 41, 43, 44, 45, 46, 47, 48, 49, 50, 51, 52, 53, 54, 55, 56, 57, 58, 59, 60, 134, 135, 136, 137, 138, 139, 140, 141, 142, 143, 144, 145, 189, 190, 191, 192, 905, 906, 907, 908, 909, 910, 911, 932, 933, 934, 935, 936, 937, 938, 939, 940, 941, 958, 959, 960, 961, 962, 963, 942, 943] (by decide +kernel) (by decide +kernel)) (goodIn_sub (fun _ h => List.mem_append_left _ (List.mem_append_left _ (List.mem_append_right _ h))) (by decide +kernel))) (goodIn_sub (fun _ h => List.mem_append_left _ (List.mem_append_right _ h)) (by decide +kernel))
set_option maxRecDepth 20000 in
theorem gL_law_L_addLine : GoodIn wsL_law (va_wsS RL 86 yL_addLine wsL_addLine) := goodIn_app (goodIn_of _ (by decide +kernel)) ggL_law_L_addLine
set_option maxRecDepth 20000 in
theorem ggL_law_X7_addLine : GoodIn wsL_law wsX7_addLine := goodIn_r _ [196, 98, 158, 159, 160, 5, 161, 162, 163, 164, 165, 166, 99, 912, 913, 914, 915, 916, 917, 918, 919, 920, 921, 922, 923, 924, 925, 926, 927, 928, 929, 930, 931] (by decide +kernel) (by decide +kernel)
set_option maxRecDepth 20000 in
theorem gL_law_X7_addLine : GoodIn wsL_law (wsV RL 88 RX7 yX7_addLine wsX7_addLine) := goodIn_app (goodIn_of _ (by decide +kernel)) ggL_law_X7_addLine
set_option maxRecDepth 20000 in
theorem ggL_law_L_removeLine : GoodIn wsL_law wsL_removeLine := goodIn_ca (goodIn_r _ [199, 200, 201, 202, 203, 2, 204, 205, 206, 16, 124, 21, 207, 208, 209, 40, 210, 56, 55, 126, 127, 128, 20, 129, 66, 65, 64, 14, 15, 130, 131, 132, 133, 35, 36, 37, 11, 12, 38, 39, 41, 42, 43, 44, 45, 46, 47, 48, 49, 50, 51, 52, 53, 54, 57, 58, 59, 60, 134, 135, 136, 137, 138, 139, 140, 141, 142, 143, 144, 145, 211, 212, 213, 214, 215, 216, 217, 218, 219, 905, 906, 907, 908, 909, 910, 911, 932, 933, 934, 935, 936, 937, 938, 939, 940, 941, 958, 959, 960, 961, 962, 963, 942, 943] (by decide +kernel) (by decide +kernel)) (goodIn_sub (fun _ h => List.mem_append_right _ h) (by decide +kernel))
set_option maxRecDepth 20000 in
theorem gL_law_L_removeLine : GoodIn wsL_law (va_wsS RL 89 yL_removeLine wsL_removeLine) := goodIn_app (goodIn_of _ (by decide +kernel)) ggL_law_L_removeLine
set_option maxRecDepth 20000 in
theorem ggL_law_X7_removeLine : GoodIn wsL_law wsX7_removeLine := goodIn_r _ [223, 158, 98, 224, 225, 226, 5, 227, 159, 160, 161, 162, 163, 164, 165, 166, 99, 912, 913, 914, 915, 916, 917, 918, 919, 920, 921, 922, 923, 924, 925, 926, 927, 928, 929, 930, 931] (by decide +kernel) (by decide +kernel)
set_option maxRecDepth 20000 in
theorem gL_law_X7_removeLine : GoodIn wsL_law (wsV RL 91 RX7 yX7_removeLine wsX7_removeLine) := goodIn_app (goodIn_of _ (by decide +kernel)) ggL_law_X7_removeLine
set_option maxRecDepth 20000 in
theorem ggL_law_X6_clear : GoodIn wsL_law wsX6_clear := goodIn_r _ [231, 21, 16, 232, 233, 126, 127, 128, 20, 129, 66, 65, 64, 14, 15, 130, 131, 132, 133, 35, 36, 37, 11, 12, 38, 39, 40, 41, 42, 43, 44, 45, 46, 47, 48, 49, 50, 51, 52, 53, 54, 55, 56, 57, 58, 59, 60, 134, 135, 136, 137, 138, 139, 140, 141, 142, 143, 144, 145, 234, 235, 236, 237, 238, 239, 240, 146, 147, 148, 149, 150, 151, 152, 153, 905, 906, 907, 908, 909, 910, 911, 932, 933, 934, 935, 936, 937, 938, 939, 940, 941, 942, 943, 958, 959, 960, 961, 962, 963] (by decide +kernel) (by decide +kernel)
set_option maxRecDepth 20000 in
theorem gL_law_X6_clear : GoodIn wsL_law (wsV RL 92 RX6 yX6_clear wsX6_clear) := goodIn_app (goodIn_of _ (by decide +kernel)) ggL_law_X6_clear
