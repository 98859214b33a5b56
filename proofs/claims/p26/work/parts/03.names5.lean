theorem dL_moves_29 : decode cL_moves 29 = .ok (.iload_n 3, 1) := by decide +kernel
theorem dL_moves_30 : decode cL_moves 30 = .ok (.ishl, 1) := by decide +kernel
theorem dL_moves_31 : decode cL_moves 31 = .ok (.ior, 1) := by decide +kernel
theorem dL_moves_32 : decode cL_moves 32 = .ok (.iastore, 1) := by decide +kernel
theorem dL_moves_33 : decode cL_moves 33 = .ok (.aload_n 0, 1) := by decide +kernel
theorem dL_moves_34 : decode cL_moves 34 = .ok (.iconst 5, 1) := by decide +kernel
theorem dL_moves_35 : decode cL_moves 35 = .ok (.iload_n 3, 1) := by decide +kernel
theorem dL_moves_36 : decode cL_moves 36 = .ok (.iastore, 1) := by decide +kernel
theorem dL_moves_37 : decode cL_moves 37 = .ok (.aload_n 0, 1) := by decide +kernel
theorem dL_moves_38 : decode cL_moves 38 = .ok (.iconst 1, 1) := by decide +kernel
theorem dL_moves_39 : decode cL_moves 39 = .ok (.iconst 3, 1) := by decide +kernel
theorem dL_moves_40 : decode cL_moves 40 = .ok (.aload_n 0, 1) := by decide +kernel
theorem dL_moves_41 : decode cL_moves 41 = .ok (.iconst 1, 1) := by decide +kernel
theorem dL_moves_42 : decode cL_moves 42 = .ok (.iaload, 1) := by decide +kernel
theorem dL_moves_43 : decode cL_moves 43 = .ok (.isub, 1) := by decide +kernel
theorem dL_moves_44 : decode cL_moves 44 = .ok (.iastore, 1) := by decide +kernel
theorem dL_moves_45 : decode cL_moves 45 = .ok (.aload_n 0, 1) := by decide +kernel
theorem dL_moves_46 : decode cL_moves 46 = .ok (.bipush 7, 2) := by decide +kernel
theorem dL_moves_48 : decode cL_moves 48 = .ok (.dup2, 1) := by decide +kernel
theorem dL_moves_49 : decode cL_moves 49 = .ok (.iaload, 1) := by decide +kernel
theorem dL_moves_50 : decode cL_moves 50 = .ok (.iconst 1, 1) := by decide +kernel
theorem dL_moves_51 : decode cL_moves 51 = .ok (.iadd, 1) := by decide +kernel
theorem dL_moves_52 : decode cL_moves 52 = .ok (.iastore, 1) := by decide +kernel
theorem dL_moves_53 : decode cL_moves 53 = .ok (.aload_n 0, 1) := by decide +kernel
theorem dL_moves_54 : decode cL_moves 54 = .ok (.aload_n 1, 1) := by decide +kernel
theorem dL_moves_55 : decode cL_moves 55 = .ok (.invokestatic 22, 3) := by decide +kernel
theorem dL_moves_58 : decode cL_moves 58 = .ok (.istore 4, 2) := by decide +kernel
theorem dL_moves_60 : decode cL_moves 60 = .ok (.iload 4, 2) := by decide +kernel
theorem dL_moves_62 : decode cL_moves 62 = .ok (.ifCond .le 14, 3) := by decide +kernel
theorem dL_moves_65 : decode cL_moves 65 = .ok (.aload_n 0, 1) := by decide +kernel
theorem dL_moves_66 : decode cL_moves 66 = .ok (.bipush 7, 2) := by decide +kernel
theorem dL_moves_68 : decode cL_moves 68 = .ok (.iload 4, 2) := by decide +kernel
theorem dL_moves_70 : decode cL_moves 70 = .ok (.iadd, 1) := by decide +kernel
theorem dL_moves_71 : decode cL_moves 71 = .ok (.dup2, 1) := by decide +kernel
theorem dL_moves_72 : decode cL_moves 72 = .ok (.iaload, 1) := by decide +kernel
theorem dL_moves_73 : decode cL_moves 73 = .ok (.iconst 1, 1) := by decide +kernel
theorem dL_moves_74 : decode cL_moves 74 = .ok (.iadd, 1) := by decide +kernel
theorem dL_moves_75 : decode cL_moves 75 = .ok (.iastore, 1) := by decide +kernel
theorem dL_moves_76 : decode cL_moves 76 = .ok (.return_, 1) := by decide +kernel
theorem dL_empty_0 : decode cL_empty 0 = .ok (.aload_n 0, 1) := by decide +kernel
theorem dL_empty_1 : decode cL_empty 1 = .ok (.iconst 1, 1) := by decide +kernel
theorem dL_empty_2 : decode cL_empty 2 = .ok (.iload_n 1, 1) := by decide +kernel
theorem dL_empty_3 : decode cL_empty 3 = .ok (.iastore, 1) := by decide +kernel
theorem dL_empty_4 : decode cL_empty 4 = .ok (.aload_n 0, 1) := by decide +kernel
theorem dL_empty_5 : decode cL_empty 5 = .ok (.iconst 3, 1) := by decide +kernel
theorem dL_empty_6 : decode cL_empty 6 = .ok (.iconst 0, 1) := by decide +kernel
theorem dL_empty_7 : decode cL_empty 7 = .ok (.iastore, 1) := by decide +kernel
theorem dL_empty_8 : decode cL_empty 8 = .ok (.aload_n 0, 1) := by decide +kernel
theorem dL_empty_9 : decode cL_empty 9 = .ok (.iconst 4, 1) := by decide +kernel
theorem dL_empty_10 : decode cL_empty 10 = .ok (.iconst 0, 1) := by decide +kernel
theorem dL_empty_11 : decode cL_empty 11 = .ok (.iastore, 1) := by decide +kernel
theorem dL_empty_12 : decode cL_empty 12 = .ok (.aload_n 0, 1) := by decide +kernel
theorem dL_empty_13 : decode cL_empty 13 = .ok (.iconst 5, 1) := by decide +kernel
theorem dL_empty_14 : decode cL_empty 14 = .ok (.iconst (-1), 1) := by decide +kernel
theorem dL_empty_15 : decode cL_empty 15 = .ok (.iastore, 1) := by decide +kernel
theorem dL_empty_16 : decode cL_empty 16 = .ok (.aload_n 0, 1) := by decide +kernel
theorem dL_empty_17 : decode cL_empty 17 = .ok (.bipush 6, 2) := by decide +kernel
theorem dL_empty_19 : decode cL_empty 19 = .ok (.iconst (-1), 1) := by decide +kernel
theorem dL_empty_20 : decode cL_empty 20 = .ok (.iastore, 1) := by decide +kernel
theorem dL_empty_21 : decode cL_empty 21 = .ok (.return_, 1) := by decide +kernel
set_option maxRecDepth 20000 in
theorem ggL_act_L_at : GoodIn wsL_act wsL_at := goodIn_r _ [4] (by decide +kernel) (by decide +kernel)
set_option maxRecDepth 20000 in
theorem gL_act_L_at : GoodIn wsL_act (va_wsS RL 39 yL_at wsL_at) := goodIn_app (goodIn_of _ (by decide +kernel)) ggL_act_L_at
set_option maxRecDepth 20000 in
theorem ggL_act_L_winner : GoodIn wsL_act wsL_winner := goodIn_r _ [7] (by decide +kernel) (by decide +kernel)
set_option maxRecDepth 20000 in
theorem gL_act_L_winner : GoodIn wsL_act (va_wsS RL 22 yL_winner wsL_winner) := goodIn_app (goodIn_of _ (by decide +kernel)) ggL_act_L_winner
set_option maxRecDepth 20000 in
theorem ggL_act_L_empty : GoodIn wsL_act wsL_empty := goodIn_r _ [10] (by decide +kernel) (by decide +kernel)
set_option maxRecDepth 20000 in
theorem gL_act_L_empty : GoodIn wsL_act (va_wsS RL 43 yL_empty wsL_empty) := goodIn_app (goodIn_of _ (by decide +kernel)) ggL_act_L_empty
set_option maxRecDepth 20000 in
theorem ggL_act_X6_begin : GoodIn wsL_act wsX6_begin := goodIn_ca (goodIn_r _ [15, 16, 17, 18, 19, 20, 21, 22, 23, 24, 25, 26, 27, 28, 29, 30, 31, 32, 33, 34, 35, 36, 37, 38, 39, 40, 41, 42, 43, 44, 45, 46, 47, 48, 49, 50, 51, 52, 53, 54, 55, 56, 57, 58, 59, 60, 61, 62, 63, 64, 65, 66, 67, 68, 69, 70, 71, 72, 73, 74, 75, 76, 77, 78, 79, 80, 81, 82, 83, 84, 350, 351, 352, 353, 354, 355, 356, 357, 358, 359, 360, 361, 362, 363, 364, 365, 366, 367, 368, 369, 370, 371, 372, 373, 374] (by decide +kernel) (by decide +kernel)) (goodIn_sub (fun _ h => List.mem_cons_of_mem _ (List.mem_append_left _ (List.mem_append_left _ (List.mem_append_right _ h)))) (by decide +kernel))
set_option maxRecDepth 20000 in
theorem gL_act_X6_begin : GoodIn wsL_act (wsV RL 47 RX6 yX6_begin wsX6_begin) := goodIn_app (goodIn_of _ (by decide +kernel)) ggL_act_X6_begin
set_option maxRecDepth 20000 in
theorem ggL_act_X6_addLine : GoodIn wsL_act wsX6_addLine := goodIn_ca (goodIn_ca (goodIn_r _ [88, 16, 17, 89, 90, 19, 21, 22, 18, 91, 92, 93, 32, 94, 46, 23, 24, 25, 26, 27, 28, 29, 30, 31, 33, 34, 35, 36, 37, 38, 39, 40, 41, 42, 43, 44, 45, 47, 48, 49, 50, 51, 52, 53, 54, 55, 56, 57, 58, 59, 60, 61, 62, 63, 64, 65, 66, 67, 68, 69, 70, 71, 72, 73, 74, 75, 76, 95, 96, 97, 98, 350, 351, 352, 353, 354, 355, 356, 357, 358, 359, 360, 361, 362, 363, 364, 365, 366, 367, 368, 369, 370, 371, 372, 373, 374] (by decide +kernel) (by decide +kernel)) (goodIn_sub (fun _ h => List.mem_cons_of_mem _ (List.mem_append_left _ (List.mem_append_left _ (List.mem_append_right _ h)))) (by decide +kernel))) (goodIn_sub (fun _ h => List.mem_cons_of_mem _ (List.mem_append_left _ (List.mem_append_right _ h))) (by decide +kernel))
set_option maxRecDepth 20000 in
theorem gL_act_X6_addLine : GoodIn wsL_act (wsV RL 52 RX6 yX6_addLine wsX6_addLine) := goodIn_app (goodIn_of _ (by decide +kernel)) ggL_act_X6_addLine
set_option maxRecDepth 20000 in
theorem ggL_act_X6_removeLine : GoodIn wsL_act wsX6_removeLine := goodIn_ca (goodIn_r _ [102, 103, 104, 19, 21, 18, 105, 106, 107, 44, 108, 60, 59, 23, 24, 25, 26, 27, 28, 29, 30, 31, 32, 33, 34, 35, 36, 37, 38, 39, 40, 41, 42, 43, 45, 46, 47, 48, 49, 50, 51, 52, 53, 54, 55, 56, 57, 58, 61, 62, 63, 64, 65, 66, 67, 68, 69, 70, 71, 72, 73, 74, 75, 76, 109, 110, 111, 112, 113, 114, 115, 116, 117, 350, 351, 352, 353, 354, 355, 356, 357, 358, 359, 360, 361, 362, 363, 364, 365, 366, 367, 368, 369, 370, 371, 372, 373, 374] (by decide +kernel) (by decide +kernel)) (goodIn_sub (fun _ h => List.mem_cons_of_mem _ (List.mem_append_right _ h)) (by decide +kernel))
set_option maxRecDepth 20000 in
theorem gL_act_X6_removeLine : GoodIn wsL_act (wsV RL 55 RX6 yX6_removeLine wsX6_removeLine) := goodIn_app (goodIn_of _ (by decide +kernel)) ggL_act_X6_removeLine
set_option maxRecDepth 20000 in
theorem ggL_act_L_ones : GoodIn wsL_act wsL_ones := goodIn_r _ [120] (by decide +kernel) (by decide +kernel)
set_option maxRecDepth 20000 in
theorem gL_act_L_ones : GoodIn wsL_act (va_wsS RL 14 yL_ones wsL_ones) := goodIn_app (goodIn_of _ (by decide +kernel)) ggL_act_L_ones
set_option maxRecDepth 20000 in
theorem ggL_act_X6_clear : GoodIn wsL_act wsX6_clear := goodIn_r _ [124, 18, 19, 125, 126, 23, 24, 25, 26, 27, 28, 29, 30, 31, 32, 33, 34, 35, 36, 37, 38, 39, 40, 41, 42, 43, 44, 45, 46, 47, 48, 49, 50, 51, 52, 53, 54, 55, 56, 57, 58, 59, 60, 61, 62, 63, 64, 65, 66, 67, 68, 69, 70, 71, 72, 73, 74, 75, 76, 127, 128, 129, 130, 131, 132, 133, 77, 78, 79, 80, 81, 82, 83, 84, 350, 351, 352, 353, 354, 355, 356, 357, 358, 359, 360, 361, 362, 363, 364, 365, 366, 373, 374, 367, 368, 369, 370, 371, 372] (by decide +kernel) (by decide +kernel)
set_option maxRecDepth 20000 in
theorem gL_act_X6_clear : GoodIn wsL_act (wsV RL 58 RX6 yX6_clear wsX6_clear) := goodIn_app (goodIn_of _ (by decide +kernel)) ggL_act_X6_clear
set_option maxRecDepth 20000 in
theorem ggL_act_L_free : GoodIn wsL_act wsL_free := goodIn_r _ [136] (by decide +kernel) (by decide +kernel)
set_option maxRecDepth 20000 in
theorem gL_act_L_free : GoodIn wsL_act (va_wsS RL 8 yL_free wsL_free) := goodIn_app (goodIn_of _ (by decide +kernel)) ggL_act_L_free
set_option maxRecDepth 20000 in
theorem ggL_act_X6_ifMoved : GoodIn wsL_act wsX6_ifMoved := goodIn_ca (goodIn_r _ [140, 103, 104, 19, 141, 142, 143, 144, 145, 32, 146, 46, 147, 148, 149, 150, 45, 47, 48, 151, 152, 153, 154, 44, 155, 62, 63, 64, 60, 59, 61, 156, 128, 129, 130, 131, 132, 133, 157, 158, 159, 160, 161, 162, 163, 164, 165, 92, 93, 94, 166, 70, 71, 72, 49, 50, 51, 73, 74, 75, 76, 167, 168, 169, 170, 52, 53, 54, 171, 172, 173, 174, 175, 176, 177, 178, 179, 180, 181, 182, 183, 184, 185, 186, 187, 188, 189, 190, 191, 192, 193, 194, 195, 196, 197, 198, 199, 200, 201, 202, 203, 204, 205, 206, 207, 208, 209, 210, 211, 212, 213, 214, 215, 216, 217, 218, 219, 220, 221, 222, 223, 224, 225, 226, 227, 228, 229, 350, 351, 352, 353, 354, 355, 356, 357, 358, 359, 360, 361, 362, 363, 364, 365, 366, 367, 368, 369, 370, 371, 372, 375, 376, 377, 378, 379, 380] (by decide +kernel) (by decide +kernel)) (goodIn_sub (fun _ h => List.mem_cons_of_mem _ (List.mem_append_right _ h)) (by decide +kernel))
set_option maxRecDepth 20000 in
theorem gL_act_X6_ifMoved : GoodIn wsL_act (wsV RL 62 RX6 yX6_ifMoved wsX6_ifMoved) := goodIn_app (goodIn_of _ (by decide +kernel)) ggL_act_X6_ifMoved
set_option maxRecDepth 20000 in
theorem ggL_act_L_moves : GoodIn wsL_act wsL_moves := goodIn_r _ [232, 233, 234, 3, 235, 134, 135, 136, 5, 6, 7] (by decide +kernel) (by decide +kernel)
set_option maxRecDepth 20000 in
theorem gL_act_L_moves : GoodIn wsL_act (va_wsS RL 65 yL_moves wsL_moves) := goodIn_app (goodIn_of _ (by decide +kernel)) ggL_act_L_moves
set_option maxRecDepth 20000 in
theorem ggL_act_X6_move : GoodIn wsL_act wsX6_move := goodIn_ca (goodIn_ca (goodIn_r _ [239, 103, 104, 89, 90, 19, 18, 143, 144, 145, 32, 146, 46, 147, 148, 149, 150, 45, 47, 48, 151, 152, 153, 154, 44, 155, 62, 63, 64, 60, 59, 61, 156, 128, 129, 130, 131, 132, 133, 157, 158, 159, 160, 161, 162, 163, 164, 165, 92, 93, 94, 23, 24, 25, 26, 27, 28, 29, 30, 31, 33, 34, 35, 36, 37, 38, 39, 40, 41, 42, 43, 49, 50, 51, 52, 53, 54, 55, 56, 57, 58, 65, 66, 67, 68, 69, 70, 71, 72, 73, 74, 75, 76, 240, 241, 242, 14, 243, 244, 245, 246, 247, 248, 249, 250, 251, 252, 253, 254, 255, 256, 257, 258, 192, 193, 194, 259, 260, 261, 262, 263, 264, 106, 107, 108, 265, 110, 111, 112, 266, 267, 268, 269, 270, 271, 272, 273, 274, 275, 276, 277, 278, 279, 280, 281, 282, 283, 284, 285, 167, 168, 169, 170, 171, 350, 351, 352, 353, 354, 355, 356, 357, 358, 359, 360, 361, 362, 363, 364, 365, 366, 367, 368, 369, 370, 371, 372, 373, 374, 381, 382, 383, 384, 385, 386] (by decide +kernel) (by decide +kernel)) (goodIn_sub (fun _ h => List.mem_cons_of_mem _ (List.mem_append_right _ h)) (by decide +kernel))) (goodIn_sub (fun _ h => List.mem_cons_of_mem _ (List.mem_append_left _ (List.mem_append_right _ h))) (by decide +kernel))
set_option maxRecDepth 20000 in
theorem gL_act_X6_move : GoodIn wsL_act (wsV RL 69 RX6 yX6_move wsX6_move) := goodIn_app (goodIn_of _ (by decide +kernel)) ggL_act_X6_move
set_option maxRecDepth 20000 in
theorem ggL_act_X6_skip : GoodIn wsL_act wsX6_skip := goodIn_ca (goodIn_r _ [289, 89, 90, 19, 18, 290, 147, 148, 149, 32, 150, 45, 47, 48, 151, 152, 153, 154, 44, 155, 62, 63, 64, 60, 59, 61, 156, 128, 129, 130, 131, 132, 133, 23, 24, 25, 26, 27, 28, 29, 30, 31, 33, 34, 35, 36, 37, 38, 39, 40, 41, 42, 43, 46, 49, 50, 51, 52, 53, 54, 55, 56, 57, 58, 65, 66, 67, 68, 69, 70, 71, 72, 73, 74, 75, 76, 291, 82, 83, 84, 292, 293, 294, 295, 350, 351, 352, 353, 354, 355, 356, 357, 358, 359, 360, 361, 362, 363, 364, 365, 366, 367, 368, 369, 370, 371, 372, 373, 374] (by decide +kernel) (by decide +kernel)) (goodIn_sub (fun _ h => List.mem_cons_of_mem _ (List.mem_append_left _ (List.mem_append_right _ h))) (by decide +kernel))
set_option maxRecDepth 20000 in
theorem gL_act_X6_skip : GoodIn wsL_act (wsV RL 72 RX6 yX6_skip wsX6_skip) := goodIn_app (goodIn_of _ (by decide +kernel)) ggL_act_X6_skip
set_option maxRecDepth 20000 in
theorem ggL_act_L_reply : GoodIn wsL_act wsL_reply := goodIn_r _ [298, 5, 6, 3, 7, 134, 135, 136, 299, 300, 301, 302, 303, 304, 118, 119, 120, 305, 306, 307, 308, 309, 310] (by decide +kernel) (by decide +kernel)
set_option maxRecDepth 20000 in
theorem gL_act_L_reply : GoodIn wsL_act (va_wsS RL 76 yL_reply wsL_reply) := goodIn_app (goodIn_of _ (by decide +kernel)) ggL_act_L_reply
set_option maxRecDepth 20000 in
theorem ggL_act_X6_play : GoodIn wsL_act wsX6_play := goodIn_ca (goodIn_ca (goodIn_r _ [314, 16, 17, 89, 90, 19, 18, 315, 316, 14, 317, 147, 148, 149, 32, 150, 45, 47, 48, 151, 152, 153, 154, 44, 155, 62, 63, 64, 60, 59, 61, 156, 128, 129, 130, 131, 132, 133, 23, 24, 25, 26, 27, 28, 29, 30, 31, 33, 34, 35, 36, 37, 38, 39, 40, 41, 42, 43, 46, 49, 50, 51, 52, 53, 54, 55, 56, 57, 58, 65, 66, 67, 68, 69, 70, 71, 72, 73, 74, 75, 76, 318, 319, 320, 321, 290, 244, 322, 323, 324, 325, 142, 326, 327, 162, 163, 164, 165, 92, 93, 94, 328, 284, 285, 329, 330, 331, 175, 332, 179, 177, 178, 180, 181, 182, 183, 184, 185, 186, 187, 188, 189, 190, 191, 192, 193, 194, 195, 333, 196, 197, 198, 199, 200, 201, 202, 203, 204, 205, 206, 207, 208, 209, 210, 211, 212, 213, 214, 215, 216, 217, 218, 219, 220, 221, 222, 223, 224, 225, 226, 227, 228, 229, 334, 335, 336, 337, 338, 339, 340, 341, 342, 343, 344, 345, 161, 346, 347, 348, 349, 245, 246, 247, 248, 249, 250, 251, 252, 253, 254, 255, 256, 257, 258, 259, 260, 261, 262, 263, 264, 106, 107, 108, 265, 110, 111, 112, 266, 267, 268, 269, 270, 271, 272, 273, 274, 275, 276, 277, 278, 279, 280, 281, 282, 283, 167, 168, 169, 170, 171, 350, 351, 352, 353, 354, 355, 356, 357, 358, 359, 360, 361, 362, 363, 364, 365, 366, 367, 368, 369, 370, 371, 372, 373, 374, 375, 376, 377, 378, 379, 380, 381, 382, 383, 384, 385, 386] (by decide +kernel) (by decide +kernel)) (goodIn_sub (fun _ h => List.mem_cons_of_mem _ (List.mem_append_left _ (List.mem_append_left _ (List.mem_append_right _ h)))) (by decide +kernel))) (goodIn_sub (fun _ h => List.mem_cons_of_mem _ (List.mem_append_left _ (List.mem_append_right _ h))) (by decide +kernel))
set_option maxRecDepth 20000 in
theorem gL_act_X6_play : GoodIn wsL_act (wsV RL 79 RX6 yX6_play wsX6_play) := goodIn_app (goodIn_of _ (by decide +kernel)) ggL_act_X6_play
theorem dL_act_0 : decode cL_act 0 = .ok (.iload_n 1, 1) := by decide +kernel
theorem dL_act_1 : decode cL_act 1 = .ok (.bipush 20, 2) := by decide +kernel
theorem dL_act_3 : decode cL_act 3 = .ok (.ishr, 1) := by decide +kernel
theorem dL_act_4 : decode cL_act 4 = .ok (.bipush 14, 2) := by decide +kernel
theorem dL_act_6 : decode cL_act 6 = .ok (.invokestatic 39, 3) := by decide +kernel
theorem dL_act_9 : decode cL_act 9 = .ok (.istore 6, 2) := by decide +kernel
theorem dL_act_11 : decode cL_act 11 = .ok (.aload_n 3, 1) := by decide +kernel
theorem dL_act_12 : decode cL_act 12 = .ok (.aload 4, 2) := by decide +kernel
theorem dL_act_14 : decode cL_act 14 = .ok (.invokestatic 22, 3) := by decide +kernel
theorem dL_act_17 : decode cL_act 17 = .ok (.ifCond .ne 7, 3) := by decide +kernel
theorem dL_act_20 : decode cL_act 20 = .ok (.iconst 1, 1) := by decide +kernel
theorem dL_act_21 : decode cL_act 21 = .ok (.goto 4, 3) := by decide +kernel
theorem dL_act_24 : decode cL_act 24 = .ok (.iconst 0, 1) := by decide +kernel
theorem dL_act_25 : decode cL_act 25 = .ok (.istore 7, 2) := by decide +kernel
theorem dL_act_27 : decode cL_act 27 = .ok (.iload 6, 2) := by decide +kernel
theorem dL_act_29 : decode cL_act 29 = .ok (.ifCond .ne 62, 3) := by decide +kernel
theorem dL_act_32 : decode cL_act 32 = .ok (.aload_n 3, 1) := by decide +kernel
theorem dL_act_33 : decode cL_act 33 = .ok (.iconst 0, 1) := by decide +kernel
theorem dL_act_34 : decode cL_act 34 = .ok (.iaload, 1) := by decide +kernel
theorem dL_act_35 : decode cL_act 35 = .ok (.istore 8, 2) := by decide +kernel
theorem dL_act_37 : decode cL_act 37 = .ok (.aload_n 3, 1) := by decide +kernel
theorem dL_act_38 : decode cL_act 38 = .ok (.iconst 0, 1) := by decide +kernel
theorem dL_act_39 : decode cL_act 39 = .ok (.iconst 2, 1) := by decide +kernel
theorem dL_act_40 : decode cL_act 40 = .ok (.iload_n 2, 1) := by decide +kernel
theorem dL_act_41 : decode cL_act 41 = .ok (.iconst 4, 1) := by decide +kernel
theorem dL_act_42 : decode cL_act 42 = .ok (.invokestatic 39, 3) := by decide +kernel
theorem dL_act_45 : decode cL_act 45 = .ok (.iadd, 1) := by decide +kernel
theorem dL_act_46 : decode cL_act 46 = .ok (.iastore, 1) := by decide +kernel
theorem dL_act_47 : decode cL_act 47 = .ok (.aload_n 3, 1) := by decide +kernel
theorem dL_act_48 : decode cL_act 48 = .ok (.iconst 2, 1) := by decide +kernel
theorem dL_act_49 : decode cL_act 49 = .ok (.iconst 0, 1) := by decide +kernel
theorem dL_act_50 : decode cL_act 50 = .ok (.iastore, 1) := by decide +kernel
theorem dL_act_51 : decode cL_act 51 = .ok (.aload_n 3, 1) := by decide +kernel
theorem dL_act_52 : decode cL_act 52 = .ok (.iconst 1, 1) := by decide +kernel
theorem dL_act_53 : decode cL_act 53 = .ok (.invokestatic 43, 3) := by decide +kernel
theorem dL_act_56 : decode cL_act 56 = .ok (.aload_n 3, 1) := by decide +kernel
theorem dL_act_57 : decode cL_act 57 = .ok (.bipush 10, 2) := by decide +kernel
theorem dL_act_59 : decode cL_act 59 = .ok (.iaload, 1) := by decide +kernel
theorem dL_act_60 : decode cL_act 60 = .ok (.bipush 6, 2) := by decide +kernel
theorem dL_act_62 : decode cL_act 62 = .ok (.if_icmp .ge 11, 3) := by decide +kernel
theorem dL_act_65 : decode cL_act 65 = .ok (.aload_n 3, 1) := by decide +kernel
theorem dL_act_66 : decode cL_act 66 = .ok (.bipush 10, 2) := by decide +kernel
theorem dL_act_68 : decode cL_act 68 = .ok (.dup2, 1) := by decide +kernel
theorem dL_act_69 : decode cL_act 69 = .ok (.iaload, 1) := by decide +kernel
theorem dL_act_70 : decode cL_act 70 = .ok (.iconst 1, 1) := by decide +kernel
theorem dL_act_71 : decode cL_act 71 = .ok (.iadd, 1) := by decide +kernel
theorem dL_act_72 : decode cL_act 72 = .ok (.iastore, 1) := by decide +kernel
theorem dL_act_73 : decode cL_act 73 = .ok (.aload_n 0, 1) := by decide +kernel
theorem dL_act_74 : decode cL_act 74 = .ok (.aload_n 3, 1) := by decide +kernel
theorem dL_act_75 : decode cL_act 75 = .ok (.iconst 0, 1) := by decide +kernel
theorem dL_act_76 : decode cL_act 76 = .ok (.iaload, 1) := by decide +kernel
theorem dL_act_77 : decode cL_act 77 = .ok (.invokevirtual 47, 3) := by decide +kernel
theorem dL_act_80 : decode cL_act 80 = .ok (.iload 8, 2) := by decide +kernel
theorem dL_act_82 : decode cL_act 82 = .ok (.if_icmp .ne 7, 3) := by decide +kernel
theorem dL_act_85 : decode cL_act 85 = .ok (.iconst 1, 1) := by decide +kernel
theorem dL_act_86 : decode cL_act 86 = .ok (.goto 4, 3) := by decide +kernel
theorem dL_act_89 : decode cL_act 89 = .ok (.iconst 0, 1) := by decide +kernel
theorem dL_act_90 : decode cL_act 90 = .ok (.ireturn, 1) := by decide +kernel
theorem dL_act_91 : decode cL_act 91 = .ok (.aload_n 3, 1) := by decide +kernel
theorem dL_act_92 : decode cL_act 92 = .ok (.iconst 2, 1) := by decide +kernel
theorem dL_act_93 : decode cL_act 93 = .ok (.iaload, 1) := by decide +kernel
theorem dL_act_94 : decode cL_act 94 = .ok (.ifCond .eq 16, 3) := by decide +kernel
theorem dL_act_97 : decode cL_act 97 = .ok (.iload 6, 2) := by decide +kernel
theorem dL_act_99 : decode cL_act 99 = .ok (.iconst 4, 1) := by decide +kernel
theorem dL_act_100 : decode cL_act 100 = .ok (.if_icmp .ge 79, 3) := by decide +kernel
theorem dL_act_103 : decode cL_act 103 = .ok (.aload_n 3, 1) := by decide +kernel
theorem dL_act_104 : decode cL_act 104 = .ok (.iconst 2, 1) := by decide +kernel
theorem dL_act_105 : decode cL_act 105 = .ok (.iaload, 1) := by decide +kernel
theorem dL_act_106 : decode cL_act 106 = .ok (.iconst 3, 1) := by decide +kernel
theorem dL_act_107 : decode cL_act 107 = .ok (.if_icmp .ge 72, 3) := by decide +kernel
theorem dL_act_110 : decode cL_act 110 = .ok (.aload 4, 2) := by decide +kernel
theorem dL_act_112 : decode cL_act 112 = .ok (.aload_n 3, 1) := by decide +kernel
theorem dL_act_113 : decode cL_act 113 = .ok (.iconst 2, 1) := by decide +kernel
theorem dL_act_114 : decode cL_act 114 = .ok (.iaload, 1) := by decide +kernel
theorem dL_act_115 : decode cL_act 115 = .ok (.iconst 1, 1) := by decide +kernel
theorem dL_act_116 : decode cL_act 116 = .ok (.iload_n 2, 1) := by decide +kernel
theorem dL_act_117 : decode cL_act 117 = .ok (.iconst 1, 1) := by decide +kernel
theorem dL_act_118 : decode cL_act 118 = .ok (.aload_n 3, 1) := by decide +kernel
theorem dL_act_119 : decode cL_act 119 = .ok (.iconst 0, 1) := by decide +kernel
theorem dL_act_120 : decode cL_act 120 = .ok (.iaload, 1) := by decide +kernel
theorem dL_act_121 : decode cL_act 121 = .ok (.ishl, 1) := by decide +kernel
theorem dL_act_122 : decode cL_act 122 = .ok (.iconst 1, 1) := by decide +kernel
theorem dL_act_123 : decode cL_act 123 = .ok (.isub, 1) := by decide +kernel
theorem dL_act_124 : decode cL_act 124 = .ok (.invokestatic 39, 3) := by decide +kernel
theorem dL_act_127 : decode cL_act 127 = .ok (.iadd, 1) := by decide +kernel
theorem dL_act_128 : decode cL_act 128 = .ok (.iastore, 1) := by decide +kernel
theorem dL_act_129 : decode cL_act 129 = .ok (.aload_n 3, 1) := by decide +kernel
theorem dL_act_130 : decode cL_act 130 = .ok (.iconst 2, 1) := by decide +kernel
theorem dL_act_131 : decode cL_act 131 = .ok (.dup2, 1) := by decide +kernel
theorem dL_act_132 : decode cL_act 132 = .ok (.iaload, 1) := by decide +kernel
theorem dL_act_133 : decode cL_act 133 = .ok (.iconst 1, 1) := by decide +kernel
theorem dL_act_134 : decode cL_act 134 = .ok (.iadd, 1) := by decide +kernel
theorem dL_act_135 : decode cL_act 135 = .ok (.iastore, 1) := by decide +kernel
theorem dL_act_136 : decode cL_act 136 = .ok (.aload_n 3, 1) := by decide +kernel
theorem dL_act_137 : decode cL_act 137 = .ok (.bipush 10, 2) := by decide +kernel
theorem dL_act_139 : decode cL_act 139 = .ok (.iaload, 1) := by decide +kernel
theorem dL_act_140 : decode cL_act 140 = .ok (.bipush 6, 2) := by decide +kernel
theorem dL_act_142 : decode cL_act 142 = .ok (.if_icmp .ge 11, 3) := by decide +kernel
theorem dL_act_145 : decode cL_act 145 = .ok (.aload_n 3, 1) := by decide +kernel
theorem dL_act_146 : decode cL_act 146 = .ok (.bipush 10, 2) := by decide +kernel
theorem dL_act_148 : decode cL_act 148 = .ok (.dup2, 1) := by decide +kernel
theorem dL_act_149 : decode cL_act 149 = .ok (.iaload, 1) := by decide +kernel
theorem dL_act_150 : decode cL_act 150 = .ok (.iconst 1, 1) := by decide +kernel
theorem dL_act_151 : decode cL_act 151 = .ok (.iadd, 1) := by decide +kernel
theorem dL_act_152 : decode cL_act 152 = .ok (.iastore, 1) := by decide +kernel
theorem dL_act_153 : decode cL_act 153 = .ok (.aload_n 0, 1) := by decide +kernel
theorem dL_act_154 : decode cL_act 154 = .ok (.aload 4, 2) := by decide +kernel
theorem dL_act_156 : decode cL_act 156 = .ok (.aload_n 3, 1) := by decide +kernel
theorem dL_act_157 : decode cL_act 157 = .ok (.iconst 2, 1) := by decide +kernel
theorem dL_act_158 : decode cL_act 158 = .ok (.iaload, 1) := by decide +kernel
theorem dL_act_159 : decode cL_act 159 = .ok (.iconst 1, 1) := by decide +kernel
theorem dL_act_160 : decode cL_act 160 = .ok (.isub, 1) := by decide +kernel
theorem dL_act_161 : decode cL_act 161 = .ok (.iaload, 1) := by decide +kernel
theorem dL_act_162 : decode cL_act 162 = .ok (.invokevirtual 52, 3) := by decide +kernel
theorem dL_act_165 : decode cL_act 165 = .ok (.aload_n 3, 1) := by decide +kernel
theorem dL_act_166 : decode cL_act 166 = .ok (.iconst 2, 1) := by decide +kernel
theorem dL_act_167 : decode cL_act 167 = .ok (.iaload, 1) := by decide +kernel
theorem dL_act_168 : decode cL_act 168 = .ok (.iconst 1, 1) := by decide +kernel
theorem dL_act_169 : decode cL_act 169 = .ok (.isub, 1) := by decide +kernel
theorem dL_act_170 : decode cL_act 170 = .ok (.if_icmp .ne 7, 3) := by decide +kernel
theorem dL_act_173 : decode cL_act 173 = .ok (.iconst 1, 1) := by decide +kernel
theorem dL_act_174 : decode cL_act 174 = .ok (.goto 4, 3) := by decide +kernel
theorem dL_act_177 : decode cL_act 177 = .ok (.iconst 0, 1) := by decide +kernel
theorem dL_act_178 : decode cL_act 178 = .ok (.ireturn, 1) := by decide +kernel
theorem dL_act_179 : decode cL_act 179 = .ok (.iload 6, 2) := by decide +kernel
theorem dL_act_181 : decode cL_act 181 = .ok (.iconst 4, 1) := by decide +kernel
theorem dL_act_182 : decode cL_act 182 = .ok (.if_icmp .ne 97, 3) := by decide +kernel
theorem dL_act_185 : decode cL_act 185 = .ok (.aload_n 3, 1) := by decide +kernel
theorem dL_act_186 : decode cL_act 186 = .ok (.iconst 2, 1) := by decide +kernel
theorem dL_act_187 : decode cL_act 187 = .ok (.iaload, 1) := by decide +kernel
theorem dL_act_188 : decode cL_act 188 = .ok (.iconst 1, 1) := by decide +kernel
theorem dL_act_189 : decode cL_act 189 = .ok (.if_icmp .le 90, 3) := by decide +kernel
theorem dL_act_192 : decode cL_act 192 = .ok (.iload_n 2, 1) := by decide +kernel
theorem dL_act_193 : decode cL_act 193 = .ok (.aload_n 3, 1) := by decide +kernel
theorem dL_act_194 : decode cL_act 194 = .ok (.iconst 2, 1) := by decide +kernel
theorem dL_act_195 : decode cL_act 195 = .ok (.iaload, 1) := by decide +kernel
theorem dL_act_196 : decode cL_act 196 = .ok (.invokestatic 39, 3) := by decide +kernel
theorem dL_act_199 : decode cL_act 199 = .ok (.istore 8, 2) := by decide +kernel
theorem dL_act_201 : decode cL_act 201 = .ok (.aload 4, 2) := by decide +kernel
theorem dL_act_203 : decode cL_act 203 = .ok (.iload 8, 2) := by decide +kernel
theorem dL_act_205 : decode cL_act 205 = .ok (.iaload, 1) := by decide +kernel
theorem dL_act_206 : decode cL_act 206 = .ok (.istore 9, 2) := by decide +kernel
theorem dL_act_208 : decode cL_act 208 = .ok (.aload_n 3, 1) := by decide +kernel
theorem dL_act_209 : decode cL_act 209 = .ok (.iconst 2, 1) := by decide +kernel
theorem dL_act_210 : decode cL_act 210 = .ok (.dup2, 1) := by decide +kernel
theorem dL_act_211 : decode cL_act 211 = .ok (.iaload, 1) := by decide +kernel
theorem dL_act_212 : decode cL_act 212 = .ok (.iconst 1, 1) := by decide +kernel
theorem dL_act_213 : decode cL_act 213 = .ok (.isub, 1) := by decide +kernel
theorem dL_act_214 : decode cL_act 214 = .ok (.iastore, 1) := by decide +kernel
theorem dL_act_215 : decode cL_act 215 = .ok (.iload 8, 2) := by decide +kernel
theorem dL_act_217 : decode cL_act 217 = .ok (.istore 10, 2) := by decide +kernel
theorem dL_act_219 : decode cL_act 219 = .ok (.iload 10, 2) := by decide +kernel
theorem dL_act_221 : decode cL_act 221 = .ok (.aload_n 3, 1) := by decide +kernel
theorem dL_act_222 : decode cL_act 222 = .ok (.iconst 2, 1) := by decide +kernel
theorem dL_act_223 : decode cL_act 223 = .ok (.iaload, 1) := by decide +kernel
theorem dL_act_224 : decode cL_act 224 = .ok (.if_icmp .ge 21, 3) := by decide +kernel
theorem dL_act_227 : decode cL_act 227 = .ok (.aload 4, 2) := by decide +kernel
theorem dL_act_229 : decode cL_act 229 = .ok (.iload 10, 2) := by decide +kernel
theorem dL_act_231 : decode cL_act 231 = .ok (.aload 4, 2) := by decide +kernel
theorem dL_act_233 : decode cL_act 233 = .ok (.iload 10, 2) := by decide +kernel
theorem dL_act_235 : decode cL_act 235 = .ok (.iconst 1, 1) := by decide +kernel
theorem dL_act_236 : decode cL_act 236 = .ok (.iadd, 1) := by decide +kernel
theorem dL_act_237 : decode cL_act 237 = .ok (.iaload, 1) := by decide +kernel
theorem dL_act_238 : decode cL_act 238 = .ok (.iastore, 1) := by decide +kernel
theorem dL_act_239 : decode cL_act 239 = .ok (.iinc 10 1, 3) := by decide +kernel
theorem dL_act_242 : decode cL_act 242 = .ok (.goto (-23), 3) := by decide +kernel
theorem dL_act_245 : decode cL_act 245 = .ok (.aload_n 3, 1) := by decide +kernel
theorem dL_act_246 : decode cL_act 246 = .ok (.bipush 10, 2) := by decide +kernel
theorem dL_act_248 : decode cL_act 248 = .ok (.iaload, 1) := by decide +kernel
theorem dL_act_249 : decode cL_act 249 = .ok (.bipush 6, 2) := by decide +kernel
theorem dL_act_251 : decode cL_act 251 = .ok (.if_icmp .ge 11, 3) := by decide +kernel
theorem dL_act_254 : decode cL_act 254 = .ok (.aload_n 3, 1) := by decide +kernel
theorem dL_act_255 : decode cL_act 255 = .ok (.bipush 10, 2) := by decide +kernel
theorem dL_act_257 : decode cL_act 257 = .ok (.dup2, 1) := by decide +kernel
theorem dL_act_258 : decode cL_act 258 = .ok (.iaload, 1) := by decide +kernel
theorem dL_act_259 : decode cL_act 259 = .ok (.iconst 1, 1) := by decide +kernel
theorem dL_act_260 : decode cL_act 260 = .ok (.iadd, 1) := by decide +kernel
theorem dL_act_261 : decode cL_act 261 = .ok (.iastore, 1) := by decide +kernel
theorem dL_act_262 : decode cL_act 262 = .ok (.aload_n 0, 1) := by decide +kernel
theorem dL_act_263 : decode cL_act 263 = .ok (.iload 8, 2) := by decide +kernel
theorem dL_act_265 : decode cL_act 265 = .ok (.invokevirtual 55, 3) := by decide +kernel
theorem dL_act_268 : decode cL_act 268 = .ok (.iload 9, 2) := by decide +kernel
theorem dL_act_270 : decode cL_act 270 = .ok (.if_icmp .ne 7, 3) := by decide +kernel
theorem dL_act_273 : decode cL_act 273 = .ok (.iconst 1, 1) := by decide +kernel
theorem dL_act_274 : decode cL_act 274 = .ok (.goto 4, 3) := by decide +kernel
theorem dL_act_277 : decode cL_act 277 = .ok (.iconst 0, 1) := by decide +kernel
theorem dL_act_278 : decode cL_act 278 = .ok (.ireturn, 1) := by decide +kernel
theorem dL_act_279 : decode cL_act 279 = .ok (.iload 6, 2) := by decide +kernel
theorem dL_act_281 : decode cL_act 281 = .ok (.bipush 6, 2) := by decide +kernel
theorem dL_act_283 : decode cL_act 283 = .ok (.if_icmp .lt 8, 3) := by decide +kernel
theorem dL_act_286 : decode cL_act 286 = .ok (.iload 7, 2) := by decide +kernel
theorem dL_act_288 : decode cL_act 288 = .ok (.ifCond .ne 78, 3) := by decide +kernel
theorem dL_act_291 : decode cL_act 291 = .ok (.aload_n 3, 1) := by decide +kernel
theorem dL_act_292 : decode cL_act 292 = .ok (.iconst 3, 1) := by decide +kernel
theorem dL_act_293 : decode cL_act 293 = .ok (.iaload, 1) := by decide +kernel
theorem dL_act_294 : decode cL_act 294 = .ok (.aload_n 3, 1) := by decide +kernel
theorem dL_act_295 : decode cL_act 295 = .ok (.iconst 4, 1) := by decide +kernel
theorem dL_act_296 : decode cL_act 296 = .ok (.iaload, 1) := by decide +kernel
theorem dL_act_297 : decode cL_act 297 = .ok (.ior, 1) := by decide +kernel
theorem dL_act_298 : decode cL_act 298 = .ok (.invokestatic 14, 3) := by decide +kernel
theorem dL_act_301 : decode cL_act 301 = .ok (.istore 8, 2) := by decide +kernel
theorem dL_act_303 : decode cL_act 303 = .ok (.iload_n 2, 1) := by decide +kernel
theorem dL_act_304 : decode cL_act 304 = .ok (.iconst 2, 1) := by decide +kernel
theorem dL_act_305 : decode cL_act 305 = .ok (.invokestatic 39, 3) := by decide +kernel
theorem dL_act_308 : decode cL_act 308 = .ok (.ifCond .ne 7, 3) := by decide +kernel
theorem dL_act_311 : decode cL_act 311 = .ok (.iconst 1, 1) := by decide +kernel
theorem dL_act_312 : decode cL_act 312 = .ok (.goto 4, 3) := by decide +kernel
theorem dL_act_315 : decode cL_act 315 = .ok (.iconst 0, 1) := by decide +kernel
theorem dL_act_316 : decode cL_act 316 = .ok (.istore 9, 2) := by decide +kernel
theorem dL_act_318 : decode cL_act 318 = .ok (.aload_n 3, 1) := by decide +kernel
theorem dL_act_319 : decode cL_act 319 = .ok (.iload 9, 2) := by decide +kernel
theorem dL_act_321 : decode cL_act 321 = .ok (.ifCond .eq 7, 3) := by decide +kernel
theorem dL_act_324 : decode cL_act 324 = .ok (.iconst 1, 1) := by decide +kernel
theorem dL_act_325 : decode cL_act 325 = .ok (.goto 4, 3) := by decide +kernel
theorem dL_act_328 : decode cL_act 328 = .ok (.iconst 2, 1) := by decide +kernel
theorem dL_act_329 : decode cL_act 329 = .ok (.invokestatic 43, 3) := by decide +kernel
theorem dL_act_332 : decode cL_act 332 = .ok (.aload_n 3, 1) := by decide +kernel
theorem dL_act_333 : decode cL_act 333 = .ok (.bipush 10, 2) := by decide +kernel
theorem dL_act_335 : decode cL_act 335 = .ok (.iaload, 1) := by decide +kernel
theorem dL_act_336 : decode cL_act 336 = .ok (.bipush 6, 2) := by decide +kernel
theorem dL_act_338 : decode cL_act 338 = .ok (.if_icmp .ge 11, 3) := by decide +kernel
theorem dL_act_341 : decode cL_act 341 = .ok (.aload_n 3, 1) := by decide +kernel
theorem dL_act_342 : decode cL_act 342 = .ok (.bipush 10, 2) := by decide +kernel
theorem dL_act_344 : decode cL_act 344 = .ok (.dup2, 1) := by decide +kernel
theorem dL_act_345 : decode cL_act 345 = .ok (.iaload, 1) := by decide +kernel
theorem dL_act_346 : decode cL_act 346 = .ok (.iconst 1, 1) := by decide +kernel
theorem dL_act_347 : decode cL_act 347 = .ok (.iadd, 1) := by decide +kernel
theorem dL_act_348 : decode cL_act 348 = .ok (.iastore, 1) := by decide +kernel
theorem dL_act_349 : decode cL_act 349 = .ok (.aload_n 0, 1) := by decide +kernel
theorem dL_act_350 : decode cL_act 350 = .ok (.iload 9, 2) := by decide +kernel
theorem dL_act_352 : decode cL_act 352 = .ok (.invokevirtual 58, 3) := by decide +kernel
theorem dL_act_355 : decode cL_act 355 = .ok (.iload 8, 2) := by decide +kernel
theorem dL_act_357 : decode cL_act 357 = .ok (.if_icmp .ne 7, 3) := by decide +kernel
theorem dL_act_360 : decode cL_act 360 = .ok (.iconst 1, 1) := by decide +kernel
theorem dL_act_361 : decode cL_act 361 = .ok (.goto 4, 3) := by decide +kernel
theorem dL_act_364 : decode cL_act 364 = .ok (.iconst 0, 1) := by decide +kernel
theorem dL_act_365 : decode cL_act 365 = .ok (.ireturn, 1) := by decide +kernel
theorem dL_act_366 : decode cL_act 366 = .ok (.iload 6, 2) := by decide +kernel
theorem dL_act_368 : decode cL_act 368 = .ok (.bipush 10, 2) := by decide +kernel
theorem dL_act_370 : decode cL_act 370 = .ok (.if_icmp .ge 88, 3) := by decide +kernel
theorem dL_act_373 : decode cL_act 373 = .ok (.iload_n 2, 1) := by decide +kernel
theorem dL_act_374 : decode cL_act 374 = .ok (.aload_n 3, 1) := by decide +kernel
theorem dL_act_375 : decode cL_act 375 = .ok (.iconst 0, 1) := by decide +kernel
theorem dL_act_376 : decode cL_act 376 = .ok (.iaload, 1) := by decide +kernel
theorem dL_act_377 : decode cL_act 377 = .ok (.invokestatic 39, 3) := by decide +kernel
theorem dL_act_380 : decode cL_act 380 = .ok (.istore 8, 2) := by decide +kernel
theorem dL_act_382 : decode cL_act 382 = .ok (.aload_n 3, 1) := by decide +kernel
theorem dL_act_383 : decode cL_act 383 = .ok (.invokestatic 8, 3) := by decide +kernel
theorem dL_act_386 : decode cL_act 386 = .ok (.iload 8, 2) := by decide +kernel
theorem dL_act_388 : decode cL_act 388 = .ok (.ishr, 1) := by decide +kernel
theorem dL_act_389 : decode cL_act 389 = .ok (.iconst 1, 1) := by decide +kernel
theorem dL_act_390 : decode cL_act 390 = .ok (.iand, 1) := by decide +kernel
theorem dL_act_391 : decode cL_act 391 = .ok (.ifCond .ne 19, 3) := by decide +kernel
theorem dL_act_394 : decode cL_act 394 = .ok (.aload_n 0, 1) := by decide +kernel
theorem dL_act_395 : decode cL_act 395 = .ok (.iload 8, 2) := by decide +kernel
theorem dL_act_397 : decode cL_act 397 = .ok (.invokevirtual 62, 3) := by decide +kernel
theorem dL_act_400 : decode cL_act 400 = .ok (.iconst (-1), 1) := by decide +kernel
theorem dL_act_401 : decode cL_act 401 = .ok (.if_icmp .ne 7, 3) := by decide +kernel
theorem dL_act_404 : decode cL_act 404 = .ok (.iconst 1, 1) := by decide +kernel
theorem dL_act_405 : decode cL_act 405 = .ok (.goto 4, 3) := by decide +kernel
theorem dL_act_408 : decode cL_act 408 = .ok (.iconst 0, 1) := by decide +kernel
theorem dL_act_409 : decode cL_act 409 = .ok (.ireturn, 1) := by decide +kernel
theorem dL_act_410 : decode cL_act 410 = .ok (.aload_n 3, 1) := by decide +kernel
theorem dL_act_411 : decode cL_act 411 = .ok (.aload 4, 2) := by decide +kernel
theorem dL_act_413 : decode cL_act 413 = .ok (.aload 5, 2) := by decide +kernel
theorem dL_act_415 : decode cL_act 415 = .ok (.iload 8, 2) := by decide +kernel
theorem dL_act_417 : decode cL_act 417 = .ok (.invokestatic 65, 3) := by decide +kernel
theorem dL_act_420 : decode cL_act 420 = .ok (.aload_n 3, 1) := by decide +kernel
theorem dL_act_421 : decode cL_act 421 = .ok (.bipush 10, 2) := by decide +kernel
theorem dL_act_423 : decode cL_act 423 = .ok (.iaload, 1) := by decide +kernel
theorem dL_act_424 : decode cL_act 424 = .ok (.bipush 6, 2) := by decide +kernel
theorem dL_act_426 : decode cL_act 426 = .ok (.if_icmp .ge 11, 3) := by decide +kernel
theorem dL_act_429 : decode cL_act 429 = .ok (.aload_n 3, 1) := by decide +kernel
theorem dL_act_430 : decode cL_act 430 = .ok (.bipush 10, 2) := by decide +kernel
theorem dL_act_432 : decode cL_act 432 = .ok (.dup2, 1) := by decide +kernel
theorem dL_act_433 : decode cL_act 433 = .ok (.iaload, 1) := by decide +kernel
theorem dL_act_434 : decode cL_act 434 = .ok (.iconst 1, 1) := by decide +kernel
theorem dL_act_435 : decode cL_act 435 = .ok (.iadd, 1) := by decide +kernel
theorem dL_act_436 : decode cL_act 436 = .ok (.iastore, 1) := by decide +kernel
theorem dL_act_437 : decode cL_act 437 = .ok (.aload_n 0, 1) := by decide +kernel
theorem dL_act_438 : decode cL_act 438 = .ok (.iload 8, 2) := by decide +kernel
theorem dL_act_440 : decode cL_act 440 = .ok (.invokevirtual 69, 3) := by decide +kernel
theorem dL_act_443 : decode cL_act 443 = .ok (.aload_n 3, 1) := by decide +kernel
theorem dL_act_444 : decode cL_act 444 = .ok (.aload 4, 2) := by decide +kernel
theorem dL_act_446 : decode cL_act 446 = .ok (.invokestatic 22, 3) := by decide +kernel
theorem dL_act_449 : decode cL_act 449 = .ok (.if_icmp .ne 7, 3) := by decide +kernel
theorem dL_act_452 : decode cL_act 452 = .ok (.iconst 1, 1) := by decide +kernel
theorem dL_act_453 : decode cL_act 453 = .ok (.goto 4, 3) := by decide +kernel
theorem dL_act_456 : decode cL_act 456 = .ok (.iconst 0, 1) := by decide +kernel
theorem dL_act_457 : decode cL_act 457 = .ok (.ireturn, 1) := by decide +kernel
theorem dL_act_458 : decode cL_act 458 = .ok (.aload_n 3, 1) := by decide +kernel
theorem dL_act_459 : decode cL_act 459 = .ok (.bipush 10, 2) := by decide +kernel
theorem dL_act_461 : decode cL_act 461 = .ok (.iaload, 1) := by decide +kernel
theorem dL_act_462 : decode cL_act 462 = .ok (.bipush 6, 2) := by decide +kernel
theorem dL_act_464 : decode cL_act 464 = .ok (.if_icmp .ge 11, 3) := by decide +kernel
theorem dL_act_467 : decode cL_act 467 = .ok (.aload_n 3, 1) := by decide +kernel
theorem dL_act_468 : decode cL_act 468 = .ok (.bipush 10, 2) := by decide +kernel
theorem dL_act_470 : decode cL_act 470 = .ok (.dup2, 1) := by decide +kernel
theorem dL_act_471 : decode cL_act 471 = .ok (.iaload, 1) := by decide +kernel
theorem dL_act_472 : decode cL_act 472 = .ok (.iconst 1, 1) := by decide +kernel
theorem dL_act_473 : decode cL_act 473 = .ok (.iadd, 1) := by decide +kernel
theorem dL_act_474 : decode cL_act 474 = .ok (.iastore, 1) := by decide +kernel
theorem dL_act_475 : decode cL_act 475 = .ok (.iload 6, 2) := by decide +kernel
theorem dL_act_477 : decode cL_act 477 = .ok (.bipush 10, 2) := by decide +kernel
theorem dL_act_479 : decode cL_act 479 = .ok (.if_icmp .ne 36, 3) := by decide +kernel
theorem dL_act_482 : decode cL_act 482 = .ok (.aload_n 3, 1) := by decide +kernel
theorem dL_act_483 : decode cL_act 483 = .ok (.iconst 1, 1) := by decide +kernel
theorem dL_act_484 : decode cL_act 484 = .ok (.iconst 3, 1) := by decide +kernel
theorem dL_act_485 : decode cL_act 485 = .ok (.aload_n 3, 1) := by decide +kernel
theorem dL_act_486 : decode cL_act 486 = .ok (.iconst 1, 1) := by decide +kernel
theorem dL_act_487 : decode cL_act 487 = .ok (.iaload, 1) := by decide +kernel
theorem dL_act_488 : decode cL_act 488 = .ok (.isub, 1) := by decide +kernel
theorem dL_act_489 : decode cL_act 489 = .ok (.iastore, 1) := by decide +kernel
theorem dL_act_490 : decode cL_act 490 = .ok (.aload_n 3, 1) := by decide +kernel
theorem dL_act_491 : decode cL_act 491 = .ok (.iconst 5, 1) := by decide +kernel
theorem dL_act_492 : decode cL_act 492 = .ok (.iconst (-1), 1) := by decide +kernel
theorem dL_act_493 : decode cL_act 493 = .ok (.iastore, 1) := by decide +kernel
theorem dL_act_494 : decode cL_act 494 = .ok (.aload_n 3, 1) := by decide +kernel
theorem dL_act_495 : decode cL_act 495 = .ok (.bipush 6, 2) := by decide +kernel
theorem dL_act_497 : decode cL_act 497 = .ok (.iconst (-1), 1) := by decide +kernel
theorem dL_act_498 : decode cL_act 498 = .ok (.iastore, 1) := by decide +kernel
theorem dL_act_499 : decode cL_act 499 = .ok (.aload_n 0, 1) := by decide +kernel
theorem dL_act_500 : decode cL_act 500 = .ok (.invokevirtual 72, 3) := by decide +kernel
theorem dL_act_503 : decode cL_act 503 = .ok (.aload_n 3, 1) := by decide +kernel
theorem dL_act_504 : decode cL_act 504 = .ok (.iconst 1, 1) := by decide +kernel
theorem dL_act_505 : decode cL_act 505 = .ok (.iaload, 1) := by decide +kernel
theorem dL_act_506 : decode cL_act 506 = .ok (.if_icmp .ne 7, 3) := by decide +kernel
theorem dL_act_509 : decode cL_act 509 = .ok (.iconst 1, 1) := by decide +kernel
theorem dL_act_510 : decode cL_act 510 = .ok (.goto 4, 3) := by decide +kernel
theorem dL_act_513 : decode cL_act 513 = .ok (.iconst 0, 1) := by decide +kernel
theorem dL_act_514 : decode cL_act 514 = .ok (.ireturn, 1) := by decide +kernel
theorem dL_act_515 : decode cL_act 515 = .ok (.iload_n 2, 1) := by decide +kernel
theorem dL_act_516 : decode cL_act 516 = .ok (.iconst 3, 1) := by decide +kernel
theorem dL_act_517 : decode cL_act 517 = .ok (.invokestatic 39, 3) := by decide +kernel
theorem dL_act_520 : decode cL_act 520 = .ok (.istore 8, 2) := by decide +kernel
theorem dL_act_522 : decode cL_act 522 = .ok (.iload_n 2, 1) := by decide +kernel
theorem dL_act_523 : decode cL_act 523 = .ok (.iconst 2, 1) := by decide +kernel
theorem dL_act_524 : decode cL_act 524 = .ok (.ishr, 1) := by decide +kernel
theorem dL_act_525 : decode cL_act 525 = .ok (.iconst 3, 1) := by decide +kernel
theorem dL_act_526 : decode cL_act 526 = .ok (.invokestatic 39, 3) := by decide +kernel
theorem dL_act_529 : decode cL_act 529 = .ok (.istore 9, 2) := by decide +kernel
theorem dL_act_531 : decode cL_act 531 = .ok (.iconst 1, 1) := by decide +kernel
theorem dL_act_532 : decode cL_act 532 = .ok (.iload_n 2, 1) := by decide +kernel
theorem dL_act_533 : decode cL_act 533 = .ok (.iconst 4, 1) := by decide +kernel
theorem dL_act_534 : decode cL_act 534 = .ok (.ishr, 1) := by decide +kernel
theorem dL_act_535 : decode cL_act 535 = .ok (.bipush 10, 2) := by decide +kernel
theorem dL_act_537 : decode cL_act 537 = .ok (.invokestatic 39, 3) := by decide +kernel
theorem dL_act_540 : decode cL_act 540 = .ok (.iadd, 1) := by decide +kernel
theorem dL_act_541 : decode cL_act 541 = .ok (.istore 10, 2) := by decide +kernel
theorem dL_act_543 : decode cL_act 543 = .ok (.iconst 0, 1) := by decide +kernel
theorem dL_act_544 : decode cL_act 544 = .ok (.istore 11, 2) := by decide +kernel
theorem dL_act_546 : decode cL_act 546 = .ok (.iload 11, 2) := by decide +kernel
theorem dL_act_548 : decode cL_act 548 = .ok (.iload 10, 2) := by decide +kernel
theorem dL_act_550 : decode cL_act 550 = .ok (.if_icmp .ge 46, 3) := by decide +kernel
theorem dL_act_553 : decode cL_act 553 = .ok (.aload_n 3, 1) := by decide +kernel
theorem dL_act_554 : decode cL_act 554 = .ok (.aload 4, 2) := by decide +kernel
theorem dL_act_556 : decode cL_act 556 = .ok (.invokestatic 22, 3) := by decide +kernel
theorem dL_act_559 : decode cL_act 559 = .ok (.ifCond .ne 37, 3) := by decide +kernel
theorem dL_act_562 : decode cL_act 562 = .ok (.aload_n 3, 1) := by decide +kernel
theorem dL_act_563 : decode cL_act 563 = .ok (.aload 4, 2) := by decide +kernel
theorem dL_act_565 : decode cL_act 565 = .ok (.aload 5, 2) := by decide +kernel
theorem dL_act_567 : decode cL_act 567 = .ok (.aload_n 3, 1) := by decide +kernel
theorem dL_act_568 : decode cL_act 568 = .ok (.aload 4, 2) := by decide +kernel
theorem dL_act_570 : decode cL_act 570 = .ok (.aload_n 3, 1) := by decide +kernel
theorem dL_act_571 : decode cL_act 571 = .ok (.iconst 1, 1) := by decide +kernel
theorem dL_act_572 : decode cL_act 572 = .ok (.iaload, 1) := by decide +kernel
theorem dL_act_573 : decode cL_act 573 = .ok (.iconst 1, 1) := by decide +kernel
theorem dL_act_574 : decode cL_act 574 = .ok (.if_icmp .ne 8, 3) := by decide +kernel
theorem dL_act_577 : decode cL_act 577 = .ok (.iload 8, 2) := by decide +kernel
theorem dL_act_579 : decode cL_act 579 = .ok (.goto 5, 3) := by decide +kernel
theorem dL_act_582 : decode cL_act 582 = .ok (.iload 9, 2) := by decide +kernel
theorem dL_act_584 : decode cL_act 584 = .ok (.invokestatic 76, 3) := by decide +kernel
theorem dL_act_587 : decode cL_act 587 = .ok (.invokestatic 65, 3) := by decide +kernel
theorem dL_act_590 : decode cL_act 590 = .ok (.iinc 11 1, 3) := by decide +kernel
theorem dL_act_593 : decode cL_act 593 = .ok (.goto (-47), 3) := by decide +kernel
theorem dL_act_596 : decode cL_act 596 = .ok (.aload_n 0, 1) := by decide +kernel
theorem dL_act_597 : decode cL_act 597 = .ok (.iload 8, 2) := by decide +kernel
theorem dL_act_599 : decode cL_act 599 = .ok (.iload 9, 2) := by decide +kernel
theorem dL_act_601 : decode cL_act 601 = .ok (.iload 10, 2) := by decide +kernel
theorem dL_act_603 : decode cL_act 603 = .ok (.invokevirtual 79, 3) := by decide +kernel
theorem dL_act_606 : decode cL_act 606 = .ok (.iload 11, 2) := by decide +kernel
theorem dL_act_608 : decode cL_act 608 = .ok (.if_icmp .ne 7, 3) := by decide +kernel
theorem dL_act_611 : decode cL_act 611 = .ok (.iconst 1, 1) := by decide +kernel
theorem dL_act_612 : decode cL_act 612 = .ok (.goto 4, 3) := by decide +kernel
theorem dL_act_615 : decode cL_act 615 = .ok (.iconst 0, 1) := by decide +kernel
theorem dL_act_616 : decode cL_act 616 = .ok (.ireturn, 1) := by decide +kernel
set_option maxRecDepth 20000 in
theorem ggL_agree_L_weight : GoodIn wsL_agree wsL_weight := goodIn_r _ [4, 5, 6, 3, 7, 8, 9, 10] (by decide +kernel) (by decide +kernel)
set_option maxRecDepth 20000 in
theorem gL_agree_L_weight : GoodIn wsL_agree (va_wsS RL 18 yL_weight wsL_weight) := goodIn_app (goodIn_of _ (by decide +kernel)) ggL_agree_L_weight
set_option maxRecDepth 20000 in
theorem ggL_agree_X6_line : GoodIn wsL_agree wsX6_line := goodIn_ca (goodIn_ca (goodIn_r _ [15, 16, 17, 18, 19, 20, 21, 22, 23, 24, 25, 26, 27, 28, 29, 30, 31, 32, 33, 34, 35, 36, 37, 38, 39, 40, 41, 42, 43, 44, 45, 46, 47, 48, 49, 50, 51, 52, 53, 281, 282, 283, 284, 285, 286, 287, 288, 289, 290, 291, 292, 293, 294, 295, 296, 297, 298, 299, 300, 301, 302, 303] (by decide +kernel) (by decide +kernel)) (goodIn_sub (fun _ h => List.mem_cons_of_mem _ (List.mem_append_left _ (List.mem_append_right _ h))) (by decide +kernel))) (goodIn_sub (fun _ h => List.mem_cons_of_mem _ (List.mem_append_right _ h)) (by decide +kernel))
set_option maxRecDepth 20000 in
theorem gL_agree_X6_line : GoodIn wsL_agree (wsV RL 83 RX6 yX6_line wsX6_line) := goodIn_app (goodIn_of _ (by decide +kernel)) ggL_agree_X6_line
set_option maxRecDepth 20000 in
theorem ggL_agree_L_free : GoodIn wsL_agree wsL_free := goodIn_r _ [7] (by decide +kernel) (by decide +kernel)
set_option maxRecDepth 20000 in
theorem gL_agree_L_free : GoodIn wsL_agree (va_wsS RL 8 yL_free wsL_free) := goodIn_app (goodIn_of _ (by decide +kernel)) ggL_agree_L_free
set_option maxRecDepth 20000 in
theorem ggL_agree_L_ones : GoodIn wsL_agree wsL_ones := goodIn_r _ [10] (by decide +kernel) (by decide +kernel)
set_option maxRecDepth 20000 in
theorem gL_agree_L_ones : GoodIn wsL_agree (va_wsS RL 14 yL_ones wsL_ones) := goodIn_app (goodIn_of _ (by decide +kernel)) ggL_agree_L_ones
set_option maxRecDepth 20000 in
theorem ggL_agree_L_pairing : GoodIn wsL_agree wsL_pairing := goodIn_r _ [56, 5, 6, 3, 7] (by decide +kernel) (by decide +kernel)
set_option maxRecDepth 20000 in
theorem gL_agree_L_pairing : GoodIn wsL_agree (va_wsS RL 35 yL_pairing wsL_pairing) := goodIn_app (goodIn_of _ (by decide +kernel)) ggL_agree_L_pairing
set_option maxRecDepth 20000 in
theorem ggL_agree_X6_cell : GoodIn wsL_agree wsX6_cell := goodIn_ca (goodIn_ca (goodIn_r _ [60, 16, 17, 18, 19, 20, 21, 22, 61, 62, 63, 38, 64, 46, 65, 66, 67, 68, 40, 69, 70, 71, 72, 73, 36, 37, 39, 41, 42, 43, 44, 45, 74, 75, 76, 77, 78, 79, 80, 81, 27, 82, 29, 30, 83, 48, 49, 50, 51, 52, 53, 84, 85, 86, 14, 87, 88, 89, 90, 91, 92, 93, 94, 95, 96, 97, 98, 99, 100, 101, 102, 103, 104, 105, 106, 107, 108, 109, 110, 111, 112, 113, 114, 25, 26, 28, 115, 32, 33, 34, 116, 117, 118, 119, 120, 121, 122, 123, 124, 125, 126, 127, 128, 129, 130, 131, 132, 133, 134, 135, 136, 137, 138, 139, 281, 282, 283, 284, 285, 286, 287, 288, 289, 290, 291, 292, 293, 294, 295, 296, 297, 298, 299, 300, 301, 302, 303, 304, 305, 306, 307, 308, 309] (by decide +kernel) (by decide +kernel)) (goodIn_sub (fun _ h => List.mem_cons_of_mem _ (List.mem_append_left _ (List.mem_append_right _ h))) (by decide +kernel))) (goodIn_sub (fun _ h => List.mem_cons_of_mem _ (List.mem_append_right _ h)) (by decide +kernel))
set_option maxRecDepth 20000 in
theorem gL_agree_X6_cell : GoodIn wsL_agree (wsV RL 86 RX6 yX6_cell wsX6_cell) := goodIn_app (goodIn_of _ (by decide +kernel)) ggL_agree_X6_cell
set_option maxRecDepth 20000 in
theorem ggL_agree_L_danger : GoodIn wsL_agree wsL_danger := goodIn_r _ [142, 5, 6, 3, 7, 1, 2, 4, 8, 9, 10] (by decide +kernel) (by decide +kernel)
set_option maxRecDepth 20000 in
theorem gL_agree_L_danger : GoodIn wsL_agree (va_wsS RL 32 yL_danger wsL_danger) := goodIn_app (goodIn_of _ (by decide +kernel)) ggL_agree_L_danger
set_option maxRecDepth 20000 in
theorem ggL_agree_L_winner : GoodIn wsL_agree wsL_winner := goodIn_r _ [145] (by decide +kernel) (by decide +kernel)
set_option maxRecDepth 20000 in
theorem gL_agree_L_winner : GoodIn wsL_agree (va_wsS RL 22 yL_winner wsL_winner) := goodIn_app (goodIn_of _ (by decide +kernel)) ggL_agree_L_winner
set_option maxRecDepth 20000 in
theorem ggL_agree_X6_reply : GoodIn wsL_agree wsX6_reply := goodIn_ca (goodIn_r _ [149, 18, 19, 20, 150, 151, 14, 152, 153, 154, 155, 38, 156, 78, 40, 41, 157, 158, 159, 160, 27, 161, 162, 163, 164, 29, 30, 165, 83, 48, 49, 50, 51, 52, 53, 166, 167, 168, 169, 170, 171, 35, 36, 37, 39, 42, 43, 44, 45, 46, 172, 134, 135, 173, 174, 175, 176, 177, 178, 179, 180, 181, 182, 183, 184, 185, 186, 187, 188, 189, 190, 191, 192, 103, 104, 105, 193, 107, 108, 109, 194, 195, 196, 197, 198, 199, 200, 201, 202, 203, 204, 205, 206, 207, 208, 209, 210, 211, 212, 213, 214, 215, 216, 217, 218, 219, 220, 221, 222, 223, 224, 225, 226, 227, 228, 229, 230, 231, 232, 233, 234, 235, 236, 237, 238, 239, 240, 73, 79, 80, 81, 82, 281, 282, 283, 284, 285, 286, 287, 288, 289, 290, 291, 292, 293, 294, 295, 296, 297, 298, 299, 300, 301, 302, 303, 310, 311, 312, 313, 314, 315] (by decide +kernel) (by decide +kernel)) (goodIn_sub (fun _ h => List.mem_cons_of_mem _ (List.mem_append_right _ h)) (by decide +kernel))
set_option maxRecDepth 20000 in
theorem gL_agree_X6_reply : GoodIn wsL_agree (wsV RL 89 RX6 yX6_reply wsX6_reply) := goodIn_app (goodIn_of _ (by decide +kernel)) ggL_agree_X6_reply
set_option maxRecDepth 20000 in
theorem ggL_agree_L_reply : GoodIn wsL_agree wsL_reply := goodIn_r _ [243, 143, 144, 3, 145, 5, 6, 7, 244, 245, 246, 247, 248, 249, 8, 9, 10, 140, 141, 142, 1, 2, 4] (by decide +kernel) (by decide +kernel)
set_option maxRecDepth 20000 in
theorem gL_agree_L_reply : GoodIn wsL_agree (va_wsS RL 76 yL_reply wsL_reply) := goodIn_app (goodIn_of _ (by decide +kernel)) ggL_agree_L_reply
set_option maxRecDepth 20000 in
theorem ggL_agree_X6_count : GoodIn wsL_agree wsX6_count := goodIn_ca (goodIn_r _ [253, 18, 19, 20, 254, 21, 255, 256, 257, 258, 259, 260, 261, 262, 263, 264, 153, 154, 155, 38, 156, 78, 40, 41, 157, 158, 159, 160, 27, 161, 162, 163, 164, 29, 30, 165, 83, 48, 49, 50, 51, 52, 53, 265, 266, 267, 268, 269, 232, 233, 234, 235, 236, 134, 14, 135, 270, 271, 272, 273, 88, 274, 275, 89, 90, 91, 92, 93, 94, 95, 96, 97, 98, 99, 100, 101, 102, 103, 104, 105, 106, 107, 108, 109, 110, 111, 112, 113, 114, 25, 26, 28, 115, 32, 33, 34, 116, 117, 118, 119, 120, 121, 122, 123, 124, 125, 126, 127, 128, 129, 35, 36, 37, 39, 42, 43, 44, 45, 46, 276, 277, 278, 279, 280, 281, 282, 283, 284, 285, 286, 287, 288, 289, 290, 291, 292, 293, 294, 295, 296, 297, 298, 299, 300, 301, 302, 303, 316, 317, 304, 305, 306, 307, 308, 309] (by decide +kernel) (by decide +kernel)) (goodIn_sub (fun _ h => List.mem_cons_of_mem _ (List.mem_append_right _ h)) (by decide +kernel))
set_option maxRecDepth 20000 in
theorem gL_agree_X6_count : GoodIn wsL_agree (wsV RL 91 RX6 yX6_count wsX6_count) := goodIn_app (goodIn_of _ (by decide +kernel)) ggL_agree_X6_count
set_option maxRecDepth 20000 in
theorem ggL_agree_L_threats : GoodIn wsL_agree wsL_threats := goodIn_r _ [249, 5, 6, 3, 7, 8, 9, 10] (by decide +kernel) (by decide +kernel)
set_option maxRecDepth 20000 in
theorem gL_agree_L_threats : GoodIn wsL_agree (va_wsS RL 29 yL_threats wsL_threats) := goodIn_app (goodIn_of _ (by decide +kernel)) ggL_agree_L_threats
set_option maxRecDepth 20000 in
theorem ggL_agree_L_low : GoodIn wsL_agree wsL_low := goodIn_r _ [246] (by decide +kernel) (by decide +kernel)
set_option maxRecDepth 20000 in
theorem gL_agree_L_low : GoodIn wsL_agree (va_wsS RL 26 yL_low wsL_low) := goodIn_app (goodIn_of _ (by decide +kernel)) ggL_agree_L_low
theorem dL_agree_0 : decode cL_agree 0 = .ok (.iconst 0, 1) := by decide +kernel
theorem dL_agree_1 : decode cL_agree 1 = .ok (.istore 4, 2) := by decide +kernel
theorem dL_agree_3 : decode cL_agree 3 = .ok (.iconst 0, 1) := by decide +kernel
theorem dL_agree_4 : decode cL_agree 4 = .ok (.istore 5, 2) := by decide +kernel
theorem dL_agree_6 : decode cL_agree 6 = .ok (.iload 5, 2) := by decide +kernel
theorem dL_agree_8 : decode cL_agree 8 = .ok (.aload_n 1, 1) := by decide +kernel
theorem dL_agree_9 : decode cL_agree 9 = .ok (.iconst 2, 1) := by decide +kernel
theorem dL_agree_10 : decode cL_agree 10 = .ok (.iaload, 1) := by decide +kernel
theorem dL_agree_11 : decode cL_agree 11 = .ok (.if_icmp .ge 123, 3) := by decide +kernel
theorem dL_agree_14 : decode cL_agree 14 = .ok (.iload 4, 2) := by decide +kernel
theorem dL_agree_16 : decode cL_agree 16 = .ok (.aload_n 1, 1) := by decide +kernel
theorem dL_agree_17 : decode cL_agree 17 = .ok (.aload_n 2, 1) := by decide +kernel
theorem dL_agree_18 : decode cL_agree 18 = .ok (.iload 5, 2) := by decide +kernel
theorem dL_agree_20 : decode cL_agree 20 = .ok (.invokestatic 18, 3) := by decide +kernel
theorem dL_agree_23 : decode cL_agree 23 = .ok (.iadd, 1) := by decide +kernel
theorem dL_agree_24 : decode cL_agree 24 = .ok (.istore 4, 2) := by decide +kernel
theorem dL_agree_26 : decode cL_agree 26 = .ok (.aload_n 0, 1) := by decide +kernel
theorem dL_agree_27 : decode cL_agree 27 = .ok (.iload 5, 2) := by decide +kernel
theorem dL_agree_29 : decode cL_agree 29 = .ok (.iconst 0, 1) := by decide +kernel
theorem dL_agree_30 : decode cL_agree 30 = .ok (.invokevirtual 83, 3) := by decide +kernel
theorem dL_agree_33 : decode cL_agree 33 = .ok (.aload_n 2, 1) := by decide +kernel
theorem dL_agree_34 : decode cL_agree 34 = .ok (.iload 5, 2) := by decide +kernel
theorem dL_agree_36 : decode cL_agree 36 = .ok (.iaload, 1) := by decide +kernel
theorem dL_agree_37 : decode cL_agree 37 = .ok (.if_icmp .ne 89, 3) := by decide +kernel
theorem dL_agree_40 : decode cL_agree 40 = .ok (.aload_n 0, 1) := by decide +kernel
theorem dL_agree_41 : decode cL_agree 41 = .ok (.iload 5, 2) := by decide +kernel
theorem dL_agree_43 : decode cL_agree 43 = .ok (.iconst 1, 1) := by decide +kernel
theorem dL_agree_44 : decode cL_agree 44 = .ok (.invokevirtual 83, 3) := by decide +kernel
theorem dL_agree_47 : decode cL_agree 47 = .ok (.aload_n 2, 1) := by decide +kernel
theorem dL_agree_48 : decode cL_agree 48 = .ok (.iload 5, 2) := by decide +kernel
theorem dL_agree_50 : decode cL_agree 50 = .ok (.iaload, 1) := by decide +kernel
theorem dL_agree_51 : decode cL_agree 51 = .ok (.aload_n 1, 1) := by decide +kernel
theorem dL_agree_52 : decode cL_agree 52 = .ok (.iconst 4, 1) := by decide +kernel
theorem dL_agree_53 : decode cL_agree 53 = .ok (.iaload, 1) := by decide +kernel
theorem dL_agree_54 : decode cL_agree 54 = .ok (.iand, 1) := by decide +kernel
theorem dL_agree_55 : decode cL_agree 55 = .ok (.ifCond .eq 7, 3) := by decide +kernel
theorem dL_agree_58 : decode cL_agree 58 = .ok (.iconst 1, 1) := by decide +kernel
theorem dL_agree_59 : decode cL_agree 59 = .ok (.goto 4, 3) := by decide +kernel
theorem dL_agree_62 : decode cL_agree 62 = .ok (.iconst 0, 1) := by decide +kernel
theorem dL_agree_63 : decode cL_agree 63 = .ok (.if_icmp .ne 63, 3) := by decide +kernel
theorem dL_agree_66 : decode cL_agree 66 = .ok (.aload_n 0, 1) := by decide +kernel
theorem dL_agree_67 : decode cL_agree 67 = .ok (.iload 5, 2) := by decide +kernel
theorem dL_agree_69 : decode cL_agree 69 = .ok (.iconst 2, 1) := by decide +kernel
theorem dL_agree_70 : decode cL_agree 70 = .ok (.invokevirtual 83, 3) := by decide +kernel
theorem dL_agree_73 : decode cL_agree 73 = .ok (.aload_n 2, 1) := by decide +kernel
theorem dL_agree_74 : decode cL_agree 74 = .ok (.iload 5, 2) := by decide +kernel
theorem dL_agree_76 : decode cL_agree 76 = .ok (.iaload, 1) := by decide +kernel
theorem dL_agree_77 : decode cL_agree 77 = .ok (.aload_n 1, 1) := by decide +kernel
theorem dL_agree_78 : decode cL_agree 78 = .ok (.invokestatic 8, 3) := by decide +kernel
theorem dL_agree_81 : decode cL_agree 81 = .ok (.iand, 1) := by decide +kernel
theorem dL_agree_82 : decode cL_agree 82 = .ok (.invokestatic 14, 3) := by decide +kernel
theorem dL_agree_85 : decode cL_agree 85 = .ok (.if_icmp .ne 41, 3) := by decide +kernel
theorem dL_agree_88 : decode cL_agree 88 = .ok (.aload_n 0, 1) := by decide +kernel
theorem dL_agree_89 : decode cL_agree 89 = .ok (.iload 5, 2) := by decide +kernel
theorem dL_agree_91 : decode cL_agree 91 = .ok (.iconst 3, 1) := by decide +kernel
theorem dL_agree_92 : decode cL_agree 92 = .ok (.invokevirtual 83, 3) := by decide +kernel
theorem dL_agree_95 : decode cL_agree 95 = .ok (.aload_n 1, 1) := by decide +kernel
theorem dL_agree_96 : decode cL_agree 96 = .ok (.aload_n 2, 1) := by decide +kernel
theorem dL_agree_97 : decode cL_agree 97 = .ok (.iload 5, 2) := by decide +kernel
theorem dL_agree_99 : decode cL_agree 99 = .ok (.invokestatic 18, 3) := by decide +kernel
theorem dL_agree_102 : decode cL_agree 102 = .ok (.if_icmp .ne 24, 3) := by decide +kernel
theorem dL_agree_105 : decode cL_agree 105 = .ok (.aload_n 0, 1) := by decide +kernel
theorem dL_agree_106 : decode cL_agree 106 = .ok (.iload 5, 2) := by decide +kernel
theorem dL_agree_108 : decode cL_agree 108 = .ok (.iconst 4, 1) := by decide +kernel
theorem dL_agree_109 : decode cL_agree 109 = .ok (.invokevirtual 83, 3) := by decide +kernel
theorem dL_agree_112 : decode cL_agree 112 = .ok (.aload_n 2, 1) := by decide +kernel
theorem dL_agree_113 : decode cL_agree 113 = .ok (.iload 5, 2) := by decide +kernel
theorem dL_agree_115 : decode cL_agree 115 = .ok (.iaload, 1) := by decide +kernel
theorem dL_agree_116 : decode cL_agree 116 = .ok (.aload_n 1, 1) := by decide +kernel
theorem dL_agree_117 : decode cL_agree 117 = .ok (.iconst 3, 1) := by decide +kernel
theorem dL_agree_118 : decode cL_agree 118 = .ok (.iaload, 1) := by decide +kernel
theorem dL_agree_119 : decode cL_agree 119 = .ok (.iand, 1) := by decide +kernel
theorem dL_agree_120 : decode cL_agree 120 = .ok (.invokestatic 14, 3) := by decide +kernel
theorem dL_agree_123 : decode cL_agree 123 = .ok (.if_icmp .eq 5, 3) := by decide +kernel
theorem dL_agree_126 : decode cL_agree 126 = .ok (.iconst 0, 1) := by decide +kernel
theorem dL_agree_127 : decode cL_agree 127 = .ok (.ireturn, 1) := by decide +kernel
theorem dL_agree_128 : decode cL_agree 128 = .ok (.iinc 5 1, 3) := by decide +kernel
theorem dL_agree_131 : decode cL_agree 131 = .ok (.goto (-125), 3) := by decide +kernel
theorem dL_agree_134 : decode cL_agree 134 = .ok (.aload_n 1, 1) := by decide +kernel
theorem dL_agree_135 : decode cL_agree 135 = .ok (.aload_n 2, 1) := by decide +kernel
theorem dL_agree_136 : decode cL_agree 136 = .ok (.aload_n 3, 1) := by decide +kernel
theorem dL_agree_137 : decode cL_agree 137 = .ok (.invokestatic 35, 3) := by decide +kernel
theorem dL_agree_140 : decode cL_agree 140 = .ok (.istore 5, 2) := by decide +kernel
theorem dL_agree_142 : decode cL_agree 142 = .ok (.iconst 0, 1) := by decide +kernel
theorem dL_agree_143 : decode cL_agree 143 = .ok (.istore 6, 2) := by decide +kernel
theorem dL_agree_145 : decode cL_agree 145 = .ok (.iconst 0, 1) := by decide +kernel
theorem dL_agree_146 : decode cL_agree 146 = .ok (.istore 7, 2) := by decide +kernel
theorem dL_agree_148 : decode cL_agree 148 = .ok (.iload 7, 2) := by decide +kernel
theorem dL_agree_150 : decode cL_agree 150 = .ok (.aload_n 1, 1) := by decide +kernel
theorem dL_agree_151 : decode cL_agree 151 = .ok (.iconst 0, 1) := by decide +kernel
theorem dL_agree_152 : decode cL_agree 152 = .ok (.iaload, 1) := by decide +kernel
theorem dL_agree_153 : decode cL_agree 153 = .ok (.if_icmp .ge 97, 3) := by decide +kernel
theorem dL_agree_156 : decode cL_agree 156 = .ok (.aload_n 0, 1) := by decide +kernel
theorem dL_agree_157 : decode cL_agree 157 = .ok (.iload 7, 2) := by decide +kernel
theorem dL_agree_159 : decode cL_agree 159 = .ok (.iconst 0, 1) := by decide +kernel
theorem dL_agree_160 : decode cL_agree 160 = .ok (.invokevirtual 86, 3) := by decide +kernel
theorem dL_agree_163 : decode cL_agree 163 = .ok (.aload_n 1, 1) := by decide +kernel
theorem dL_agree_164 : decode cL_agree 164 = .ok (.iconst 3, 1) := by decide +kernel
theorem dL_agree_165 : decode cL_agree 165 = .ok (.iaload, 1) := by decide +kernel
theorem dL_agree_166 : decode cL_agree 166 = .ok (.iload 7, 2) := by decide +kernel
theorem dL_agree_168 : decode cL_agree 168 = .ok (.ishr, 1) := by decide +kernel
theorem dL_agree_169 : decode cL_agree 169 = .ok (.iconst 1, 1) := by decide +kernel
theorem dL_agree_170 : decode cL_agree 170 = .ok (.iand, 1) := by decide +kernel
theorem dL_agree_171 : decode cL_agree 171 = .ok (.iconst 2, 1) := by decide +kernel
theorem dL_agree_172 : decode cL_agree 172 = .ok (.aload_n 1, 1) := by decide +kernel
theorem dL_agree_173 : decode cL_agree 173 = .ok (.iconst 4, 1) := by decide +kernel
theorem dL_agree_174 : decode cL_agree 174 = .ok (.iaload, 1) := by decide +kernel
theorem dL_agree_175 : decode cL_agree 175 = .ok (.iload 7, 2) := by decide +kernel
theorem dL_agree_177 : decode cL_agree 177 = .ok (.ishr, 1) := by decide +kernel
theorem dL_agree_178 : decode cL_agree 178 = .ok (.iconst 1, 1) := by decide +kernel
theorem dL_agree_179 : decode cL_agree 179 = .ok (.iand, 1) := by decide +kernel
theorem dL_agree_180 : decode cL_agree 180 = .ok (.imul, 1) := by decide +kernel
theorem dL_agree_181 : decode cL_agree 181 = .ok (.iadd, 1) := by decide +kernel
theorem dL_agree_182 : decode cL_agree 182 = .ok (.if_icmp .ne 43, 3) := by decide +kernel
theorem dL_agree_185 : decode cL_agree 185 = .ok (.aload_n 0, 1) := by decide +kernel
theorem dL_agree_186 : decode cL_agree 186 = .ok (.iload 7, 2) := by decide +kernel
theorem dL_agree_188 : decode cL_agree 188 = .ok (.iconst 1, 1) := by decide +kernel
theorem dL_agree_189 : decode cL_agree 189 = .ok (.invokevirtual 86, 3) := by decide +kernel
theorem dL_agree_192 : decode cL_agree 192 = .ok (.aload_n 1, 1) := by decide +kernel
theorem dL_agree_193 : decode cL_agree 193 = .ok (.aload_n 2, 1) := by decide +kernel
theorem dL_agree_194 : decode cL_agree 194 = .ok (.iload 7, 2) := by decide +kernel
theorem dL_agree_196 : decode cL_agree 196 = .ok (.invokestatic 32, 3) := by decide +kernel
theorem dL_agree_199 : decode cL_agree 199 = .ok (.if_icmp .ne 26, 3) := by decide +kernel
theorem dL_agree_202 : decode cL_agree 202 = .ok (.aload_n 0, 1) := by decide +kernel
theorem dL_agree_203 : decode cL_agree 203 = .ok (.iload 7, 2) := by decide +kernel
theorem dL_agree_205 : decode cL_agree 205 = .ok (.iconst 2, 1) := by decide +kernel
theorem dL_agree_206 : decode cL_agree 206 = .ok (.invokevirtual 86, 3) := by decide +kernel
theorem dL_agree_209 : decode cL_agree 209 = .ok (.iload 5, 2) := by decide +kernel
theorem dL_agree_211 : decode cL_agree 211 = .ok (.ifCond .eq 10, 3) := by decide +kernel
theorem dL_agree_214 : decode cL_agree 214 = .ok (.aload_n 3, 1) := by decide +kernel
theorem dL_agree_215 : decode cL_agree 215 = .ok (.iload 7, 2) := by decide +kernel
theorem dL_agree_217 : decode cL_agree 217 = .ok (.iaload, 1) := by decide +kernel
theorem dL_agree_218 : decode cL_agree 218 = .ok (.goto 4, 3) := by decide +kernel
theorem dL_agree_221 : decode cL_agree 221 = .ok (.iconst (-1), 1) := by decide +kernel
theorem dL_agree_222 : decode cL_agree 222 = .ok (.if_icmp .eq 5, 3) := by decide +kernel
theorem dL_agree_225 : decode cL_agree 225 = .ok (.iconst 0, 1) := by decide +kernel
theorem dL_agree_226 : decode cL_agree 226 = .ok (.ireturn, 1) := by decide +kernel
theorem dL_agree_227 : decode cL_agree 227 = .ok (.iload 5, 2) := by decide +kernel
theorem dL_agree_229 : decode cL_agree 229 = .ok (.ifCond .eq 15, 3) := by decide +kernel
theorem dL_agree_232 : decode cL_agree 232 = .ok (.aload_n 3, 1) := by decide +kernel
theorem dL_agree_233 : decode cL_agree 233 = .ok (.iload 7, 2) := by decide +kernel
theorem dL_agree_235 : decode cL_agree 235 = .ok (.iaload, 1) := by decide +kernel
theorem dL_agree_236 : decode cL_agree 236 = .ok (.iload 7, 2) := by decide +kernel
theorem dL_agree_238 : decode cL_agree 238 = .ok (.if_icmp .le 6, 3) := by decide +kernel
theorem dL_agree_241 : decode cL_agree 241 = .ok (.iinc 6 1, 3) := by decide +kernel
theorem dL_agree_244 : decode cL_agree 244 = .ok (.iinc 7 1, 3) := by decide +kernel
theorem dL_agree_247 : decode cL_agree 247 = .ok (.goto (-99), 3) := by decide +kernel
theorem dL_agree_250 : decode cL_agree 250 = .ok (.aload_n 1, 1) := by decide +kernel
theorem dL_agree_251 : decode cL_agree 251 = .ok (.aload_n 2, 1) := by decide +kernel
theorem dL_agree_252 : decode cL_agree 252 = .ok (.invokestatic 22, 3) := by decide +kernel
theorem dL_agree_255 : decode cL_agree 255 = .ok (.istore 7, 2) := by decide +kernel
theorem dL_agree_257 : decode cL_agree 257 = .ok (.iconst 0, 1) := by decide +kernel
theorem dL_agree_258 : decode cL_agree 258 = .ok (.istore 8, 2) := by decide +kernel
theorem dL_agree_260 : decode cL_agree 260 = .ok (.iload 8, 2) := by decide +kernel
theorem dL_agree_262 : decode cL_agree 262 = .ok (.iconst 3, 1) := by decide +kernel
theorem dL_agree_263 : decode cL_agree 263 = .ok (.if_icmp .ge 27, 3) := by decide +kernel
theorem dL_agree_266 : decode cL_agree 266 = .ok (.aload_n 0, 1) := by decide +kernel
theorem dL_agree_267 : decode cL_agree 267 = .ok (.iload 8, 2) := by decide +kernel
theorem dL_agree_269 : decode cL_agree 269 = .ok (.invokevirtual 89, 3) := by decide +kernel
theorem dL_agree_272 : decode cL_agree 272 = .ok (.aload_n 1, 1) := by decide +kernel
theorem dL_agree_273 : decode cL_agree 273 = .ok (.aload_n 2, 1) := by decide +kernel
theorem dL_agree_274 : decode cL_agree 274 = .ok (.iload 8, 2) := by decide +kernel
theorem dL_agree_276 : decode cL_agree 276 = .ok (.invokestatic 76, 3) := by decide +kernel
theorem dL_agree_279 : decode cL_agree 279 = .ok (.if_icmp .eq 5, 3) := by decide +kernel
theorem dL_agree_282 : decode cL_agree 282 = .ok (.iconst 0, 1) := by decide +kernel
theorem dL_agree_283 : decode cL_agree 283 = .ok (.ireturn, 1) := by decide +kernel
theorem dL_agree_284 : decode cL_agree 284 = .ok (.iinc 8 1, 3) := by decide +kernel
theorem dL_agree_287 : decode cL_agree 287 = .ok (.goto (-27), 3) := by decide +kernel
theorem dL_agree_290 : decode cL_agree 290 = .ok (.aload_n 0, 1) := by decide +kernel
theorem dL_agree_291 : decode cL_agree 291 = .ok (.iconst 3, 1) := by decide +kernel
theorem dL_agree_292 : decode cL_agree 292 = .ok (.invokevirtual 91, 3) := by decide +kernel
theorem dL_agree_295 : decode cL_agree 295 = .ok (.iload 4, 2) := by decide +kernel
theorem dL_agree_297 : decode cL_agree 297 = .ok (.if_icmp .ne 174, 3) := by decide +kernel
theorem dL_agree_300 : decode cL_agree 300 = .ok (.aload_n 0, 1) := by decide +kernel
theorem dL_agree_301 : decode cL_agree 301 = .ok (.iconst 4, 1) := by decide +kernel
theorem dL_agree_302 : decode cL_agree 302 = .ok (.invokevirtual 91, 3) := by decide +kernel
theorem dL_agree_305 : decode cL_agree 305 = .ok (.iload 7, 2) := by decide +kernel
theorem dL_agree_307 : decode cL_agree 307 = .ok (.ifCond .ne 9, 3) := by decide +kernel
theorem dL_agree_310 : decode cL_agree 310 = .ok (.aload_n 1, 1) := by decide +kernel
theorem dL_agree_311 : decode cL_agree 311 = .ok (.iconst 1, 1) := by decide +kernel
theorem dL_agree_312 : decode cL_agree 312 = .ok (.iaload, 1) := by decide +kernel
theorem dL_agree_313 : decode cL_agree 313 = .ok (.goto 4, 3) := by decide +kernel
theorem dL_agree_316 : decode cL_agree 316 = .ok (.iconst 0, 1) := by decide +kernel
theorem dL_agree_317 : decode cL_agree 317 = .ok (.if_icmp .ne 154, 3) := by decide +kernel
theorem dL_agree_320 : decode cL_agree 320 = .ok (.aload_n 0, 1) := by decide +kernel
theorem dL_agree_321 : decode cL_agree 321 = .ok (.iconst 5, 1) := by decide +kernel
theorem dL_agree_322 : decode cL_agree 322 = .ok (.invokevirtual 91, 3) := by decide +kernel
theorem dL_agree_325 : decode cL_agree 325 = .ok (.iload 7, 2) := by decide +kernel
theorem dL_agree_327 : decode cL_agree 327 = .ok (.if_icmp .ne 144, 3) := by decide +kernel
theorem dL_agree_330 : decode cL_agree 330 = .ok (.aload_n 0, 1) := by decide +kernel
theorem dL_agree_331 : decode cL_agree 331 = .ok (.bipush 6, 2) := by decide +kernel
theorem dL_agree_333 : decode cL_agree 333 = .ok (.invokevirtual 91, 3) := by decide +kernel
theorem dL_agree_336 : decode cL_agree 336 = .ok (.aload_n 1, 1) := by decide +kernel
theorem dL_agree_337 : decode cL_agree 337 = .ok (.aload_n 2, 1) := by decide +kernel
theorem dL_agree_338 : decode cL_agree 338 = .ok (.invokestatic 29, 3) := by decide +kernel
theorem dL_agree_341 : decode cL_agree 341 = .ok (.if_icmp .ne 130, 3) := by decide +kernel
theorem dL_agree_344 : decode cL_agree 344 = .ok (.aload_n 0, 1) := by decide +kernel
theorem dL_agree_345 : decode cL_agree 345 = .ok (.bipush 7, 2) := by decide +kernel
theorem dL_agree_347 : decode cL_agree 347 = .ok (.invokevirtual 91, 3) := by decide +kernel
theorem dL_agree_350 : decode cL_agree 350 = .ok (.iload 7, 2) := by decide +kernel
theorem dL_agree_352 : decode cL_agree 352 = .ok (.ifCond .ne 14, 3) := by decide +kernel
theorem dL_agree_355 : decode cL_agree 355 = .ok (.aload_n 1, 1) := by decide +kernel
theorem dL_agree_356 : decode cL_agree 356 = .ok (.aload_n 2, 1) := by decide +kernel
theorem dL_agree_357 : decode cL_agree 357 = .ok (.invokestatic 29, 3) := by decide +kernel
theorem dL_agree_360 : decode cL_agree 360 = .ok (.invokestatic 26, 3) := by decide +kernel
theorem dL_agree_363 : decode cL_agree 363 = .ok (.goto 4, 3) := by decide +kernel
theorem dL_agree_366 : decode cL_agree 366 = .ok (.iconst (-1), 1) := by decide +kernel
theorem dL_agree_367 : decode cL_agree 367 = .ok (.if_icmp .ne 104, 3) := by decide +kernel
theorem dL_agree_370 : decode cL_agree 370 = .ok (.aload_n 0, 1) := by decide +kernel
theorem dL_agree_371 : decode cL_agree 371 = .ok (.bipush 8, 2) := by decide +kernel
theorem dL_agree_373 : decode cL_agree 373 = .ok (.invokevirtual 91, 3) := by decide +kernel
theorem dL_agree_376 : decode cL_agree 376 = .ok (.iload 5, 2) := by decide +kernel
theorem dL_agree_378 : decode cL_agree 378 = .ok (.ifCond .eq 8, 3) := by decide +kernel
theorem dL_agree_381 : decode cL_agree 381 = .ok (.iload 6, 2) := by decide +kernel
theorem dL_agree_383 : decode cL_agree 383 = .ok (.goto 4, 3) := by decide +kernel
theorem dL_agree_386 : decode cL_agree 386 = .ok (.iconst (-1), 1) := by decide +kernel
theorem dL_agree_387 : decode cL_agree 387 = .ok (.if_icmp .ne 84, 3) := by decide +kernel
theorem dL_agree_390 : decode cL_agree 390 = .ok (.aload_n 0, 1) := by decide +kernel
theorem dL_agree_391 : decode cL_agree 391 = .ok (.bipush 9, 2) := by decide +kernel
theorem dL_agree_393 : decode cL_agree 393 = .ok (.invokevirtual 91, 3) := by decide +kernel
theorem dL_agree_396 : decode cL_agree 396 = .ok (.aload_n 1, 1) := by decide +kernel
theorem dL_agree_397 : decode cL_agree 397 = .ok (.invokestatic 8, 3) := by decide +kernel
theorem dL_agree_400 : decode cL_agree 400 = .ok (.if_icmp .ne 71, 3) := by decide +kernel
theorem dL_agree_403 : decode cL_agree 403 = .ok (.aload_n 0, 1) := by decide +kernel
theorem dL_agree_404 : decode cL_agree 404 = .ok (.bipush 10, 2) := by decide +kernel
theorem dL_agree_406 : decode cL_agree 406 = .ok (.invokevirtual 91, 3) := by decide +kernel
theorem dL_agree_409 : decode cL_agree 409 = .ok (.aload_n 1, 1) := by decide +kernel
theorem dL_agree_410 : decode cL_agree 410 = .ok (.bipush 7, 2) := by decide +kernel
theorem dL_agree_412 : decode cL_agree 412 = .ok (.iaload, 1) := by decide +kernel
theorem dL_agree_413 : decode cL_agree 413 = .ok (.if_icmp .ne 58, 3) := by decide +kernel
theorem dL_agree_416 : decode cL_agree 416 = .ok (.aload_n 0, 1) := by decide +kernel
theorem dL_agree_417 : decode cL_agree 417 = .ok (.bipush 11, 2) := by decide +kernel
theorem dL_agree_419 : decode cL_agree 419 = .ok (.invokevirtual 91, 3) := by decide +kernel
theorem dL_agree_422 : decode cL_agree 422 = .ok (.aload_n 1, 1) := by decide +kernel
theorem dL_agree_423 : decode cL_agree 423 = .ok (.bipush 8, 2) := by decide +kernel
theorem dL_agree_425 : decode cL_agree 425 = .ok (.iaload, 1) := by decide +kernel
theorem dL_agree_426 : decode cL_agree 426 = .ok (.if_icmp .ne 45, 3) := by decide +kernel
theorem dL_agree_429 : decode cL_agree 429 = .ok (.aload_n 0, 1) := by decide +kernel
theorem dL_agree_430 : decode cL_agree 430 = .ok (.bipush 12, 2) := by decide +kernel
theorem dL_agree_432 : decode cL_agree 432 = .ok (.invokevirtual 91, 3) := by decide +kernel
theorem dL_agree_435 : decode cL_agree 435 = .ok (.aload_n 1, 1) := by decide +kernel
theorem dL_agree_436 : decode cL_agree 436 = .ok (.bipush 9, 2) := by decide +kernel
theorem dL_agree_438 : decode cL_agree 438 = .ok (.iaload, 1) := by decide +kernel
theorem dL_agree_439 : decode cL_agree 439 = .ok (.if_icmp .ne 32, 3) := by decide +kernel
theorem dL_agree_442 : decode cL_agree 442 = .ok (.aload_n 0, 1) := by decide +kernel
theorem dL_agree_443 : decode cL_agree 443 = .ok (.bipush 13, 2) := by decide +kernel
theorem dL_agree_445 : decode cL_agree 445 = .ok (.invokevirtual 91, 3) := by decide +kernel
theorem dL_agree_448 : decode cL_agree 448 = .ok (.aload_n 1, 1) := by decide +kernel
theorem dL_agree_449 : decode cL_agree 449 = .ok (.iconst 5, 1) := by decide +kernel
theorem dL_agree_450 : decode cL_agree 450 = .ok (.iaload, 1) := by decide +kernel
theorem dL_agree_451 : decode cL_agree 451 = .ok (.if_icmp .ne 20, 3) := by decide +kernel
theorem dL_agree_454 : decode cL_agree 454 = .ok (.aload_n 0, 1) := by decide +kernel
theorem dL_agree_455 : decode cL_agree 455 = .ok (.bipush 15, 2) := by decide +kernel
theorem dL_agree_457 : decode cL_agree 457 = .ok (.invokevirtual 91, 3) := by decide +kernel
theorem dL_agree_460 : decode cL_agree 460 = .ok (.aload_n 1, 1) := by decide +kernel
theorem dL_agree_461 : decode cL_agree 461 = .ok (.bipush 10, 2) := by decide +kernel
theorem dL_agree_463 : decode cL_agree 463 = .ok (.iaload, 1) := by decide +kernel
theorem dL_agree_464 : decode cL_agree 464 = .ok (.if_icmp .ne 7, 3) := by decide +kernel
theorem dL_agree_467 : decode cL_agree 467 = .ok (.iconst 1, 1) := by decide +kernel
theorem dL_agree_468 : decode cL_agree 468 = .ok (.goto 4, 3) := by decide +kernel
theorem dL_agree_471 : decode cL_agree 471 = .ok (.iconst 0, 1) := by decide +kernel
theorem dL_agree_472 : decode cL_agree 472 = .ok (.ireturn, 1) := by decide +kernel
