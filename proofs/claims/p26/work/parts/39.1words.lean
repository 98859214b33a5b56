theorem goodIn_cons {big a : List Cond} {c : Cond} (h1 : GoodIn big [c]) (h2 : GoodIn big a) : GoodIn big (c :: a) := fun w h => (List.mem_cons.mp h).elim (fun e => h1 w (List.mem_singleton.mpr e)) (h2 w)
set_option maxRecDepth 20000 in
theorem ggL_law_X6_init : GoodIn wsL_law wsX6_init := goodIn_r _ [6, 7, 8, 9, 10, 11, 12, 13, 14, 15, 16, 17, 18, 19, 20, 21, 22, 23, 24, 25, 26, 27, 28, 29, 30, 31, 32, 33, 34, 35, 36, 37, 38, 39, 40, 41, 42, 43, 44, 45, 46, 47, 48, 49, 50, 3, 51, 52, 53, 54, 55, 56, 57, 58, 59, 60, 61, 62, 63, 64, 65, 66, 67, 68, 69, 70, 71, 72, 73, 74, 75, 76, 77, 78, 79, 80, 81, 82, 83, 84, 85, 86, 87, 88, 89, 449, 450, 451, 452, 453, 454, 455, 456, 457, 458, 442, 443, 444, 445, 446, 447, 448, 459, 460, 461, 462, 463, 464, 465, 466, 467, 468, 469, 470, 471, 472, 473, 474, 475, 476, 477, 478, 479, 480] (by decide +kernel) (by decide +kernel)
set_option maxRecDepth 20000 in
theorem gL_law_X6_init : GoodIn wsL_law (wsX6_init) := ggL_law_X6_init
set_option maxRecDepth 20000 in
theorem ggL_law_L_empty : GoodIn wsL_law wsL_empty := goodIn_r _ [93] (by decide +kernel) (by decide +kernel)
set_option maxRecDepth 20000 in
theorem gL_law_L_empty : GoodIn wsL_law (va_wsS RL 43 yL_empty wsL_empty) := goodIn_app (goodIn_of _ (by decide +kernel)) ggL_law_L_empty
set_option maxRecDepth 20000 in
theorem ggL_law_X6_begin : GoodIn wsL_law wsX6_begin := goodIn_ca (goodIn_r _ [97, 98, 99, 18, 13, 100, 101, 102, 103, 104, 105, 17, 106, 62, 61, 60, 11, 12, 107, 108, 109, 110, 32, 33, 34, 8, 9, 35, 36, 37, 38, 39, 40, 41, 42, 43, 44, 45, 46, 47, 48, 49, 50, 3, 51, 52, 53, 54, 55, 56, 111, 112, 113, 114, 115, 116, 117, 118, 119, 120, 121, 122, 123, 124, 125, 126, 127, 128, 129, 130, 442, 443, 444, 445, 446, 447, 448, 449, 450, 451, 452, 453, 454, 455, 456, 457, 458, 475, 476, 477, 478, 479, 480, 459, 460] (by decide +kernel) (by decide +kernel)) (goodIn_sub (fun _ h => List.mem_append_left _ (List.mem_append_left _ (List.mem_append_right _ h))) (by decide +kernel))
set_option maxRecDepth 20000 in
theorem gL_law_X6_begin : GoodIn wsL_law (wsV RL 47 RX6 yX6_begin wsX6_begin) := goodIn_app (goodIn_of _ (by decide +kernel)) ggL_law_X6_begin
set_option maxRecDepth 20000 in
theorem ggL_law_L_cell : GoodIn wsL_law wsL_cell := goodIn_r _ [133, 134] (by decide +kernel) (by decide +kernel)
set_option maxRecDepth 20000 in
theorem gL_law_L_cell : GoodIn wsL_law (va_wsS RL 95 yL_cell wsL_cell) := goodIn_app (goodIn_of _ (by decide +kernel)) ggL_law_L_cell
set_option maxRecDepth 20000 in
theorem gh_L_act : GoodIn wsL_law [Cond.code yL_act cL_act 12 (some .boolean)] := goodIn_r _ [137] (by decide +kernel) (by decide +kernel)
set_option maxRecDepth 20000 in
theorem gr_L_act_1 : GoodIn wsL_law wsL_act_r1 := goodIn_r _ [138, 139, 92, 140, 141, 142, 143, 90, 91, 93, 94, 95, 96, 2, 97, 98, 99, 18, 13, 100, 101, 102, 103, 104] (by decide +kernel) (by decide +kernel)
set_option maxRecDepth 20000 in
theorem gr_L_act_2 : GoodIn wsL_law wsL_act_r2 := goodIn_r _ [105, 17, 106, 62, 61, 60, 11, 12, 107, 108, 109, 110, 32, 33, 34, 8, 9, 35, 36, 37, 38, 39, 40, 41] (by decide +kernel) (by decide +kernel)
set_option maxRecDepth 20000 in
theorem gr_L_act_3 : GoodIn wsL_law wsL_act_r3 := goodIn_r _ [42, 43, 44, 45, 46, 47, 48, 49, 50, 3, 51, 52, 53, 54, 55, 56, 111, 112, 113, 114, 115, 116, 117, 118] (by decide +kernel) (by decide +kernel)
set_option maxRecDepth 20000 in
theorem gr_L_act_4 : GoodIn wsL_law wsL_act_r4 := goodIn_r _ [119, 120, 121, 122, 123, 124, 125, 126, 127, 128, 129, 130, 144, 145, 146, 147, 148, 149, 150, 151, 152, 153, 154, 155] (by decide +kernel) (by decide +kernel)
set_option maxRecDepth 20000 in
theorem gr_L_act_5 : GoodIn wsL_law wsL_act_r5 := goodIn_r _ [156, 157, 158, 159, 160, 161, 162, 163, 164, 165, 166, 167, 168, 169, 170, 171, 172, 173, 174, 175, 176, 177, 178, 179] (by decide +kernel) (by decide +kernel)
set_option maxRecDepth 20000 in
theorem gr_L_act_6 : GoodIn wsL_law wsL_act_r6 := goodIn_r _ [180, 181, 182, 183, 184, 185, 186, 187, 188, 189, 190, 191, 192, 193, 194, 195, 196, 197, 198, 199, 14, 31, 200, 201] (by decide +kernel) (by decide +kernel)
set_option maxRecDepth 20000 in
theorem gr_L_act_7 : GoodIn wsL_law wsL_act_r7 := goodIn_r _ [202, 203, 204, 205, 206, 207, 208, 209, 210, 211, 212, 213, 214, 215, 216, 217, 218, 219, 220, 221, 222, 223, 224, 225] (by decide +kernel) (by decide +kernel)
set_option maxRecDepth 20000 in
theorem gr_L_act_8 : GoodIn wsL_law wsL_act_r8 := goodIn_r _ [226, 227, 228, 229, 230, 231, 30, 232, 233, 234, 235, 236, 237, 238, 239, 84, 85, 83, 240, 88, 241, 242, 243, 244] (by decide +kernel) (by decide +kernel)
set_option maxRecDepth 20000 in
theorem gr_L_act_9 : GoodIn wsL_law wsL_act_r9 := goodIn_r _ [245, 246, 247, 248, 249, 250, 251, 252, 253, 254, 255, 256, 89, 257, 258, 259, 260, 87, 261, 262, 263, 264, 265, 266] (by decide +kernel) (by decide +kernel)
set_option maxRecDepth 20000 in
theorem gr_L_act_10 : GoodIn wsL_law wsL_act_r10 := goodIn_r _ [267, 268, 269, 270, 271, 272, 273, 274, 275, 276, 277, 278, 279, 280, 281, 282, 283, 284, 285, 286, 287, 288, 289, 290] (by decide +kernel) (by decide +kernel)
set_option maxRecDepth 20000 in
theorem gr_L_act_11 : GoodIn wsL_law wsL_act_r11 := goodIn_r _ [291, 292, 293, 27, 294, 295, 296, 26, 297, 73, 298, 74, 299, 72, 300, 76, 77, 301, 302, 303, 304, 305, 306, 307] (by decide +kernel) (by decide +kernel)
set_option maxRecDepth 20000 in
theorem gr_L_act_12 : GoodIn wsL_law wsL_act_r12 := goodIn_r _ [308, 309, 310, 311, 312, 75, 313, 314, 315, 316, 317, 318, 319, 320, 321, 322, 323, 324, 325, 326, 327, 328, 329, 330] (by decide +kernel) (by decide +kernel)
set_option maxRecDepth 20000 in
theorem gr_L_act_13 : GoodIn wsL_law wsL_act_r13 := goodIn_r _ [331, 332, 333, 334, 335, 336, 337, 338, 339, 340, 341, 342, 343, 344, 345, 346, 347, 348, 349, 350, 351, 352, 353, 354] (by decide +kernel) (by decide +kernel)
set_option maxRecDepth 20000 in
theorem gr_L_act_14 : GoodIn wsL_law wsL_act_r14 := goodIn_r _ [355, 356, 357, 358, 359, 360, 361, 362, 363, 364, 365, 366, 367, 368, 369, 370, 371, 372, 373, 374, 375, 376, 377, 378] (by decide +kernel) (by decide +kernel)
set_option maxRecDepth 20000 in
theorem gr_L_act_15 : GoodIn wsL_law wsL_act_r15 := goodIn_r _ [379, 380, 381, 382, 383, 384, 385, 386, 387, 388, 389, 390, 391] (by decide +kernel) (by decide +kernel)
theorem ggL_law_L_act : GoodIn wsL_law wsL_act := goodIn_cons gh_L_act (goodIn_app (goodIn_app (goodIn_app (goodIn_app (goodIn_app (goodIn_app (goodIn_app (goodIn_app (goodIn_app ((goodIn_app gr_L_act_1 (goodIn_app gr_L_act_2 (goodIn_app gr_L_act_3 (goodIn_app gr_L_act_4 (goodIn_app gr_L_act_5 (goodIn_app gr_L_act_6 (goodIn_app gr_L_act_7 (goodIn_app gr_L_act_8 (goodIn_app gr_L_act_9 (goodIn_app gr_L_act_10 (goodIn_app gr_L_act_11 (goodIn_app gr_L_act_12 (goodIn_app gr_L_act_13 (goodIn_app gr_L_act_14 (gr_L_act_15)))))))))))))))) (goodIn_sub inlX6 (by decide +kernel))) (goodIn_sub inlX4 (by decide +kernel))) (goodIn_sub inlX1 (by decide +kernel))) (goodIn_sub inlX0 (by decide +kernel))) (goodIn_sub inlX3 (by decide +kernel))) (goodIn_sub inlX2 (by decide +kernel))) (goodIn_sub (fun _ h => List.mem_append_left _ (List.mem_append_left _ (List.mem_append_right _ h))) (by decide +kernel))) (goodIn_sub (fun _ h => List.mem_append_left _ (List.mem_append_right _ h)) (by decide +kernel))) (goodIn_sub (fun _ h => List.mem_append_right _ h) (by decide +kernel)))
set_option maxRecDepth 20000 in
theorem gL_law_L_act : GoodIn wsL_law (va_wsS RL 98 yL_act wsL_act) := goodIn_app (goodIn_of _ (by decide +kernel)) ggL_law_L_act
set_option maxRecDepth 20000 in
theorem gh_L_agree : GoodIn wsL_law [Cond.code yL_agree cL_agree 9 (some .boolean)] := goodIn_r _ [394] (by decide +kernel) (by decide +kernel)
set_option maxRecDepth 20000 in
theorem gr_L_agree_1 : GoodIn wsL_law wsL_agree_r1 := goodIn_r _ [350, 351, 92, 352, 193, 194, 195, 177, 178, 179, 395, 396, 397, 2, 398, 162, 163, 98, 99, 13, 101, 185, 184, 164] (by decide +kernel) (by decide +kernel)
set_option maxRecDepth 20000 in
theorem gr_L_agree_2 : GoodIn wsL_law wsL_agree_r2 := goodIn_r _ [165, 166, 37, 167, 52, 51, 168, 169, 170, 171, 369, 219, 220, 12, 221, 40, 41, 222, 151, 152, 153, 39, 186, 187] (by decide +kernel) (by decide +kernel)
set_option maxRecDepth 20000 in
theorem gr_L_agree_3 : GoodIn wsL_law wsL_agree_r3 := goodIn_r _ [188, 189, 190, 191, 192, 283, 284, 285, 399, 400, 401, 402, 200, 201, 202, 203, 403, 404, 405, 406, 407, 215, 216, 217] (by decide +kernel) (by decide +kernel)
set_option maxRecDepth 20000 in
theorem gr_L_agree_4 : GoodIn wsL_law wsL_agree_r4 := goodIn_r _ [218, 408, 409, 410, 411, 38, 388, 389, 390, 391, 213, 290, 291, 292, 293, 27, 294, 295, 296, 26, 297, 73, 298, 74] (by decide +kernel) (by decide +kernel)
set_option maxRecDepth 20000 in
theorem gr_L_agree_5 : GoodIn wsL_law wsL_agree_r5 := goodIn_r _ [299, 72, 300, 76, 77, 301, 244, 245, 246, 302, 120, 121, 122, 303, 304, 305, 306, 307, 308, 309, 310, 311, 312, 75] (by decide +kernel) (by decide +kernel)
set_option maxRecDepth 20000 in
theorem gr_L_agree_6 : GoodIn wsL_law wsL_agree_r6 := goodIn_r _ [313, 314, 315, 316, 317, 318, 319, 320, 321, 322, 323, 324, 325, 326, 327, 412, 413, 414, 415, 347, 348, 349, 141, 142] (by decide +kernel) (by decide +kernel)
set_option maxRecDepth 20000 in
theorem gr_L_agree_7 : GoodIn wsL_law wsL_agree_r7 := goodIn_r _ [143, 416, 417, 418, 419, 357, 358, 359, 204, 205, 206, 207, 208, 209, 210, 211, 212, 54, 55, 56, 53, 364, 365, 366] (by decide +kernel) (by decide +kernel)
set_option maxRecDepth 20000 in
theorem gr_L_agree_8 : GoodIn wsL_law wsL_agree_r8 := goodIn_r _ [367, 31, 368, 370, 371, 372, 373, 30, 374, 235, 233, 234, 236, 237, 238, 239, 84, 85, 83, 240, 88, 241, 242, 243] (by decide +kernel) (by decide +kernel)
set_option maxRecDepth 20000 in
theorem gr_L_agree_9 : GoodIn wsL_law wsL_agree_r9 := goodIn_r _ [247, 375, 248, 249, 250, 251, 252, 253, 254, 255, 256, 89, 257, 258, 259, 260, 87, 261, 262, 263, 264, 265, 266, 267] (by decide +kernel) (by decide +kernel)
set_option maxRecDepth 20000 in
theorem gr_L_agree_10 : GoodIn wsL_law wsL_agree_r10 := goodIn_r _ [268, 269, 270, 271, 272, 273, 274, 275, 276, 277, 278, 279, 376, 377, 378, 379, 380, 381, 382, 383, 384, 385, 386, 387] (by decide +kernel) (by decide +kernel)
set_option maxRecDepth 20000 in
theorem gr_L_agree_11 : GoodIn wsL_law wsL_agree_r11 := goodIn_r _ [338, 339, 340, 341, 342, 343, 344, 345, 346, 420, 421, 422, 423, 100, 102, 424, 425, 426, 427, 428, 429, 430, 18, 431] (by decide +kernel) (by decide +kernel)
set_option maxRecDepth 20000 in
theorem gr_L_agree_12 : GoodIn wsL_law wsL_agree_r12 := goodIn_r _ [334, 335, 336, 337, 42, 432, 433, 434, 435, 436, 437, 438, 439, 440, 441, 19] (by decide +kernel) (by decide +kernel)
theorem ggL_law_L_agree : GoodIn wsL_law wsL_agree := goodIn_cons gh_L_agree (goodIn_app (goodIn_app (goodIn_app (goodIn_app (goodIn_app (goodIn_app (goodIn_app (goodIn_app ((goodIn_app gr_L_agree_1 (goodIn_app gr_L_agree_2 (goodIn_app gr_L_agree_3 (goodIn_app gr_L_agree_4 (goodIn_app gr_L_agree_5 (goodIn_app gr_L_agree_6 (goodIn_app gr_L_agree_7 (goodIn_app gr_L_agree_8 (goodIn_app gr_L_agree_9 (goodIn_app gr_L_agree_10 (goodIn_app gr_L_agree_11 (gr_L_agree_12))))))))))))) (goodIn_sub inlX6 (by decide +kernel))) (goodIn_sub inlX4 (by decide +kernel))) (goodIn_sub inlX1 (by decide +kernel))) (goodIn_sub inlX2 (by decide +kernel))) (goodIn_sub inlX3 (by decide +kernel))) (goodIn_sub inlX0 (by decide +kernel))) (goodIn_sub (fun _ h => List.mem_append_right _ h) (by decide +kernel))) (goodIn_sub (fun _ h => List.mem_append_left _ (List.mem_append_left _ (List.mem_append_right _ h))) (by decide +kernel)))
set_option maxRecDepth 20000 in
theorem gL_law_L_agree : GoodIn wsL_law (va_wsS RL 102 yL_agree wsL_agree) := goodIn_app (goodIn_of _ (by decide +kernel)) ggL_law_L_agree
