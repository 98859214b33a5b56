theorem dX4_hasCell_17 : decode cX4_hasCell 17 = .ok (.ireturn, 1) := by decide +kernel
set_option maxRecDepth 20000 in
theorem ggX4_isFree_X4_freeCells : GoodIn wsX4_isFree wsX4_freeCells := goodIn_r _ [5, 6, 7, 8, 9, 10, 4, 11, 12, 13, 14, 15, 16, 17, 18, 19, 20, 21, 22] (by decide +kernel) (by decide +kernel)
set_option maxRecDepth 20000 in
theorem gX4_isFree_X4_freeCells : GoodIn wsX4_isFree (wsV RX4 65 RX4 yX4_freeCells wsX4_freeCells) := goodIn_app (goodIn_of _ (by decide +kernel)) ggX4_isFree_X4_freeCells
theorem dX4_isFree_0 : decode cX4_isFree 0 = .ok (.aload_n 0, 1) := by decide +kernel
theorem dX4_isFree_1 : decode cX4_isFree 1 = .ok (.invokevirtual 65, 3) := by decide +kernel
theorem dX4_isFree_4 : decode cX4_isFree 4 = .ok (.iconst 1, 1) := by decide +kernel
theorem dX4_isFree_5 : decode cX4_isFree 5 = .ok (.iload_n 1, 1) := by decide +kernel
theorem dX4_isFree_6 : decode cX4_isFree 6 = .ok (.ishl, 1) := by decide +kernel
theorem dX4_isFree_7 : decode cX4_isFree 7 = .ok (.iand, 1) := by decide +kernel
theorem dX4_isFree_8 : decode cX4_isFree 8 = .ok (.ifCond .eq 7, 3) := by decide +kernel
theorem dX4_isFree_11 : decode cX4_isFree 11 = .ok (.iconst 1, 1) := by decide +kernel
theorem dX4_isFree_12 : decode cX4_isFree 12 = .ok (.goto 4, 3) := by decide +kernel
theorem dX4_isFree_15 : decode cX4_isFree 15 = .ok (.iconst 0, 1) := by decide +kernel
theorem dX4_isFree_16 : decode cX4_isFree 16 = .ok (.ireturn, 1) := by decide +kernel
set_option maxRecDepth 20000 in
theorem ggX4_ownerOf_X4_isFree : GoodIn wsX4_ownerOf wsX4_isFree := goodIn_r _ [6, 7, 8, 9, 5, 10, 1, 11, 12, 13, 14, 15, 16, 17, 18, 19, 20, 21, 22, 23, 24, 25, 26] (by decide +kernel) (by decide +kernel)
set_option maxRecDepth 20000 in
theorem gX4_ownerOf_X4_isFree : GoodIn wsX4_ownerOf (wsV RX4 68 RX4 yX4_isFree wsX4_isFree) := goodIn_app (goodIn_of _ (by decide +kernel)) ggX4_ownerOf_X4_isFree
theorem dX4_ownerOf_0 : decode cX4_ownerOf 0 = .ok (.aload_n 0, 1) := by decide +kernel
theorem dX4_ownerOf_1 : decode cX4_ownerOf 1 = .ok (.iload_n 1, 1) := by decide +kernel
theorem dX4_ownerOf_2 : decode cX4_ownerOf 2 = .ok (.invokevirtual 68, 3) := by decide +kernel
theorem dX4_ownerOf_5 : decode cX4_ownerOf 5 = .ok (.ifCond .eq 5, 3) := by decide +kernel
theorem dX4_ownerOf_8 : decode cX4_ownerOf 8 = .ok (.iconst 0, 1) := by decide +kernel
theorem dX4_ownerOf_9 : decode cX4_ownerOf 9 = .ok (.ireturn, 1) := by decide +kernel
theorem dX4_ownerOf_10 : decode cX4_ownerOf 10 = .ok (.aload_n 0, 1) := by decide +kernel
theorem dX4_ownerOf_11 : decode cX4_ownerOf 11 = .ok (.getfield 22, 3) := by decide +kernel
theorem dX4_ownerOf_14 : decode cX4_ownerOf 14 = .ok (.iconst 1, 1) := by decide +kernel
theorem dX4_ownerOf_15 : decode cX4_ownerOf 15 = .ok (.iload_n 1, 1) := by decide +kernel
theorem dX4_ownerOf_16 : decode cX4_ownerOf 16 = .ok (.ishl, 1) := by decide +kernel
theorem dX4_ownerOf_17 : decode cX4_ownerOf 17 = .ok (.iand, 1) := by decide +kernel
theorem dX4_ownerOf_18 : decode cX4_ownerOf 18 = .ok (.ifCond .eq 7, 3) := by decide +kernel
theorem dX4_ownerOf_21 : decode cX4_ownerOf 21 = .ok (.iconst 1, 1) := by decide +kernel
theorem dX4_ownerOf_22 : decode cX4_ownerOf 22 = .ok (.goto 4, 3) := by decide +kernel
theorem dX4_ownerOf_25 : decode cX4_ownerOf 25 = .ok (.iconst 2, 1) := by decide +kernel
theorem dX4_ownerOf_26 : decode cX4_ownerOf 26 = .ok (.ireturn, 1) := by decide +kernel
theorem dX4_mover_0 : decode cX4_mover 0 = .ok (.aload_n 0, 1) := by decide +kernel
theorem dX4_mover_1 : decode cX4_mover 1 = .ok (.getfield 28, 3) := by decide +kernel
theorem dX4_mover_4 : decode cX4_mover 4 = .ok (.ifCond .eq 7, 3) := by decide +kernel
theorem dX4_mover_7 : decode cX4_mover 7 = .ok (.iconst 1, 1) := by decide +kernel
theorem dX4_mover_8 : decode cX4_mover 8 = .ok (.goto 4, 3) := by decide +kernel
theorem dX4_mover_11 : decode cX4_mover 11 = .ok (.iconst 2, 1) := by decide +kernel
theorem dX4_mover_12 : decode cX4_mover 12 = .ok (.ireturn, 1) := by decide +kernel
set_option maxRecDepth 20000 in
theorem ggX4_winner_X1_survey : GoodIn wsX4_winner wsX1_survey := goodIn_r _ [9, 10, 11, 12, 13, 14, 15, 16, 17, 18, 19, 20, 21, 22, 33, 34, 35, 36, 37, 38] (by decide +kernel) (by decide +kernel)
set_option maxRecDepth 20000 in
theorem gX4_winner_X1_survey : GoodIn wsX4_winner (wsV RX4 72 RX1 yX1_survey wsX1_survey) := goodIn_app (goodIn_of _ (by decide +kernel)) ggX4_winner_X1_survey
theorem dX4_winner_0 : decode cX4_winner 0 = .ok (.aload_n 0, 1) := by decide +kernel
theorem dX4_winner_1 : decode cX4_winner 1 = .ok (.getfield 12, 3) := by decide +kernel
theorem dX4_winner_4 : decode cX4_winner 4 = .ok (.aload_n 0, 1) := by decide +kernel
theorem dX4_winner_5 : decode cX4_winner 5 = .ok (.getfield 22, 3) := by decide +kernel
theorem dX4_winner_8 : decode cX4_winner 8 = .ok (.aload_n 0, 1) := by decide +kernel
theorem dX4_winner_9 : decode cX4_winner 9 = .ok (.getfield 25, 3) := by decide +kernel
theorem dX4_winner_12 : decode cX4_winner 12 = .ok (.invokevirtual 72, 3) := by decide +kernel
theorem dX4_winner_15 : decode cX4_winner 15 = .ok (.aload_n 0, 1) := by decide +kernel
theorem dX4_winner_16 : decode cX4_winner 16 = .ok (.getfield 12, 3) := by decide +kernel
theorem dX4_winner_19 : decode cX4_winner 19 = .ok (.getfield 76, 3) := by decide +kernel
theorem dX4_winner_22 : decode cX4_winner 22 = .ok (.ireturn, 1) := by decide +kernel
set_option maxRecDepth 20000 in
theorem ggX4_forcedReply_X1_survey : GoodIn wsX4_forcedReply wsX1_survey := goodIn_r _ [9, 10, 11, 12, 13, 14, 15, 16, 17, 18, 19, 20, 21, 22, 36, 37, 38, 39, 40, 41] (by decide +kernel) (by decide +kernel)
set_option maxRecDepth 20000 in
theorem gX4_forcedReply_X1_survey : GoodIn wsX4_forcedReply (wsV RX4 72 RX1 yX1_survey wsX1_survey) := goodIn_app (goodIn_of _ (by decide +kernel)) ggX4_forcedReply_X1_survey
set_option maxRecDepth 20000 in
theorem ggX4_forcedReply_X6_lowestOf : GoodIn wsX4_forcedReply wsX6_lowestOf := goodIn_r _ [25] (by decide +kernel) (by decide +kernel)
set_option maxRecDepth 20000 in
theorem gX4_forcedReply_X6_lowestOf_n84 : GoodIn wsX4_forcedReply (wsX6_lowestOf) := ggX4_forcedReply_X6_lowestOf
theorem dX4_forcedReply_0 : decode cX4_forcedReply 0 = .ok (.aload_n 0, 1) := by decide +kernel
theorem dX4_forcedReply_1 : decode cX4_forcedReply 1 = .ok (.getfield 12, 3) := by decide +kernel
theorem dX4_forcedReply_4 : decode cX4_forcedReply 4 = .ok (.aload_n 0, 1) := by decide +kernel
theorem dX4_forcedReply_5 : decode cX4_forcedReply 5 = .ok (.getfield 22, 3) := by decide +kernel
theorem dX4_forcedReply_8 : decode cX4_forcedReply 8 = .ok (.aload_n 0, 1) := by decide +kernel
theorem dX4_forcedReply_9 : decode cX4_forcedReply 9 = .ok (.getfield 25, 3) := by decide +kernel
theorem dX4_forcedReply_12 : decode cX4_forcedReply 12 = .ok (.invokevirtual 72, 3) := by decide +kernel
theorem dX4_forcedReply_15 : decode cX4_forcedReply 15 = .ok (.aload_n 0, 1) := by decide +kernel
theorem dX4_forcedReply_16 : decode cX4_forcedReply 16 = .ok (.getfield 12, 3) := by decide +kernel
theorem dX4_forcedReply_19 : decode cX4_forcedReply 19 = .ok (.getfield 81, 3) := by decide +kernel
theorem dX4_forcedReply_22 : decode cX4_forcedReply 22 = .ok (.invokestatic 84, 3) := by decide +kernel
theorem dX4_forcedReply_25 : decode cX4_forcedReply 25 = .ok (.ireturn, 1) := by decide +kernel
set_option maxRecDepth 20000 in
theorem ggX4_dangerOf_X4_isFree : GoodIn wsX4_dangerOf wsX4_isFree := goodIn_r _ [8, 9, 10, 11, 7, 12, 2, 3, 13, 14, 15, 16, 17, 32, 33, 34, 35, 36, 37, 38, 39, 40, 41] (by decide +kernel) (by decide +kernel)
set_option maxRecDepth 20000 in
theorem gX4_dangerOf_X4_isFree : GoodIn wsX4_dangerOf (wsV RX4 68 RX4 yX4_isFree wsX4_isFree) := goodIn_app (goodIn_of _ (by decide +kernel)) ggX4_dangerOf_X4_isFree
set_option maxRecDepth 20000 in
theorem ggX4_dangerOf_X1_weightWith : GoodIn wsX4_dangerOf wsX1_weightWith := goodIn_r _ [22, 23, 24, 25, 26, 27, 28, 29, 30, 31, 42, 43, 44, 45, 46, 47] (by decide +kernel) (by decide +kernel)
set_option maxRecDepth 20000 in
theorem gX4_dangerOf_X1_weightWith : GoodIn wsX4_dangerOf (wsV RX4 88 RX1 yX1_weightWith wsX1_weightWith) := goodIn_app (goodIn_of _ (by decide +kernel)) ggX4_dangerOf_X1_weightWith
theorem dX4_dangerOf_0 : decode cX4_dangerOf 0 = .ok (.aload_n 0, 1) := by decide +kernel
theorem dX4_dangerOf_1 : decode cX4_dangerOf 1 = .ok (.iload_n 1, 1) := by decide +kernel
theorem dX4_dangerOf_2 : decode cX4_dangerOf 2 = .ok (.invokevirtual 68, 3) := by decide +kernel
theorem dX4_dangerOf_5 : decode cX4_dangerOf 5 = .ok (.ifCond .eq 22, 3) := by decide +kernel
theorem dX4_dangerOf_8 : decode cX4_dangerOf 8 = .ok (.aload_n 0, 1) := by decide +kernel
theorem dX4_dangerOf_9 : decode cX4_dangerOf 9 = .ok (.getfield 12, 3) := by decide +kernel
theorem dX4_dangerOf_12 : decode cX4_dangerOf 12 = .ok (.iload_n 1, 1) := by decide +kernel
theorem dX4_dangerOf_13 : decode cX4_dangerOf 13 = .ok (.aload_n 0, 1) := by decide +kernel
theorem dX4_dangerOf_14 : decode cX4_dangerOf 14 = .ok (.getfield 22, 3) := by decide +kernel
theorem dX4_dangerOf_17 : decode cX4_dangerOf 17 = .ok (.aload_n 0, 1) := by decide +kernel
theorem dX4_dangerOf_18 : decode cX4_dangerOf 18 = .ok (.getfield 25, 3) := by decide +kernel
theorem dX4_dangerOf_21 : decode cX4_dangerOf 21 = .ok (.invokevirtual 88, 3) := by decide +kernel
theorem dX4_dangerOf_24 : decode cX4_dangerOf 24 = .ok (.goto 4, 3) := by decide +kernel
theorem dX4_dangerOf_27 : decode cX4_dangerOf 27 = .ok (.iconst 0, 1) := by decide +kernel
theorem dX4_dangerOf_28 : decode cX4_dangerOf 28 = .ok (.ireturn, 1) := by decide +kernel
set_option maxRecDepth 20000 in
theorem ggX4_mostDangerous_X4_freeCells : GoodIn wsX4_mostDangerous wsX4_freeCells := goodIn_r _ [8, 2, 3, 9, 10, 11, 7, 12, 13, 28, 29, 30, 31, 32, 33, 34, 35, 36, 37] (by decide +kernel) (by decide +kernel)
set_option maxRecDepth 20000 in
theorem gX4_mostDangerous_X4_freeCells : GoodIn wsX4_mostDangerous (wsV RX4 65 RX4 yX4_freeCells wsX4_freeCells) := goodIn_app (goodIn_of _ (by decide +kernel)) ggX4_mostDangerous_X4_freeCells
set_option maxRecDepth 20000 in
theorem ggX4_mostDangerous_X1_weightWith : GoodIn wsX4_mostDangerous wsX1_weightWith := goodIn_r _ [18, 19, 20, 21, 22, 23, 24, 25, 26, 27, 38, 39, 40, 41, 42, 43] (by decide +kernel) (by decide +kernel)
set_option maxRecDepth 20000 in
theorem gX4_mostDangerous_X1_weightWith : GoodIn wsX4_mostDangerous (wsV RX4 88 RX1 yX1_weightWith wsX1_weightWith) := goodIn_app (goodIn_of _ (by decide +kernel)) ggX4_mostDangerous_X1_weightWith
theorem dX4_mostDangerous_0 : decode cX4_mostDangerous 0 = .ok (.aload_n 0, 1) := by decide +kernel
theorem dX4_mostDangerous_1 : decode cX4_mostDangerous 1 = .ok (.invokevirtual 65, 3) := by decide +kernel
theorem dX4_mostDangerous_4 : decode cX4_mostDangerous 4 = .ok (.istore_n 1, 1) := by decide +kernel
theorem dX4_mostDangerous_5 : decode cX4_mostDangerous 5 = .ok (.iconst (-1), 1) := by decide +kernel
theorem dX4_mostDangerous_6 : decode cX4_mostDangerous 6 = .ok (.istore_n 2, 1) := by decide +kernel
theorem dX4_mostDangerous_7 : decode cX4_mostDangerous 7 = .ok (.iconst (-1), 1) := by decide +kernel
theorem dX4_mostDangerous_8 : decode cX4_mostDangerous 8 = .ok (.istore_n 3, 1) := by decide +kernel
theorem dX4_mostDangerous_9 : decode cX4_mostDangerous 9 = .ok (.iconst 0, 1) := by decide +kernel
theorem dX4_mostDangerous_10 : decode cX4_mostDangerous 10 = .ok (.istore 4, 2) := by decide +kernel
theorem dX4_mostDangerous_12 : decode cX4_mostDangerous 12 = .ok (.iload 4, 2) := by decide +kernel
theorem dX4_mostDangerous_14 : decode cX4_mostDangerous 14 = .ok (.bipush 10, 2) := by decide +kernel
theorem dX4_mostDangerous_16 : decode cX4_mostDangerous 16 = .ok (.if_icmp .ge 49, 3) := by decide +kernel
theorem dX4_mostDangerous_19 : decode cX4_mostDangerous 19 = .ok (.iload_n 1, 1) := by decide +kernel
theorem dX4_mostDangerous_20 : decode cX4_mostDangerous 20 = .ok (.iconst 1, 1) := by decide +kernel
theorem dX4_mostDangerous_21 : decode cX4_mostDangerous 21 = .ok (.iload 4, 2) := by decide +kernel
theorem dX4_mostDangerous_23 : decode cX4_mostDangerous 23 = .ok (.ishl, 1) := by decide +kernel
theorem dX4_mostDangerous_24 : decode cX4_mostDangerous 24 = .ok (.iand, 1) := by decide +kernel
theorem dX4_mostDangerous_25 : decode cX4_mostDangerous 25 = .ok (.ifCond .eq 34, 3) := by decide +kernel
theorem dX4_mostDangerous_28 : decode cX4_mostDangerous 28 = .ok (.aload_n 0, 1) := by decide +kernel
theorem dX4_mostDangerous_29 : decode cX4_mostDangerous 29 = .ok (.getfield 12, 3) := by decide +kernel
theorem dX4_mostDangerous_32 : decode cX4_mostDangerous 32 = .ok (.iload 4, 2) := by decide +kernel
theorem dX4_mostDangerous_34 : decode cX4_mostDangerous 34 = .ok (.aload_n 0, 1) := by decide +kernel
theorem dX4_mostDangerous_35 : decode cX4_mostDangerous 35 = .ok (.getfield 22, 3) := by decide +kernel
theorem dX4_mostDangerous_38 : decode cX4_mostDangerous 38 = .ok (.aload_n 0, 1) := by decide +kernel
theorem dX4_mostDangerous_39 : decode cX4_mostDangerous 39 = .ok (.getfield 25, 3) := by decide +kernel
theorem dX4_mostDangerous_42 : decode cX4_mostDangerous 42 = .ok (.invokevirtual 88, 3) := by decide +kernel
theorem dX4_mostDangerous_45 : decode cX4_mostDangerous 45 = .ok (.istore 5, 2) := by decide +kernel
theorem dX4_mostDangerous_47 : decode cX4_mostDangerous 47 = .ok (.iload 5, 2) := by decide +kernel
theorem dX4_mostDangerous_49 : decode cX4_mostDangerous 49 = .ok (.iload_n 3, 1) := by decide +kernel
theorem dX4_mostDangerous_50 : decode cX4_mostDangerous 50 = .ok (.if_icmp .le 9, 3) := by decide +kernel
theorem dX4_mostDangerous_53 : decode cX4_mostDangerous 53 = .ok (.iload 5, 2) := by decide +kernel
theorem dX4_mostDangerous_55 : decode cX4_mostDangerous 55 = .ok (.istore_n 3, 1) := by decide +kernel
theorem dX4_mostDangerous_56 : decode cX4_mostDangerous 56 = .ok (.iload 4, 2) := by decide +kernel
theorem dX4_mostDangerous_58 : decode cX4_mostDangerous 58 = .ok (.istore_n 2, 1) := by decide +kernel
theorem dX4_mostDangerous_59 : decode cX4_mostDangerous 59 = .ok (.iinc 4 1, 3) := by decide +kernel
theorem dX4_mostDangerous_62 : decode cX4_mostDangerous 62 = .ok (.goto (-50), 3) := by decide +kernel
theorem dX4_mostDangerous_65 : decode cX4_mostDangerous 65 = .ok (.iload_n 2, 1) := by decide +kernel
theorem dX4_mostDangerous_66 : decode cX4_mostDangerous 66 = .ok (.ireturn, 1) := by decide +kernel
theorem dX5_init_0 : decode cX5_init 0 = .ok (.aload_n 0, 1) := by decide +kernel
theorem dX5_init_1 : decode cX5_init 1 = .ok (.invokespecial 3, 3) := by decide +kernel
theorem dX5_init_4 : decode cX5_init 4 = .ok (.aload_n 0, 1) := by decide +kernel
theorem dX5_init_5 : decode cX5_init 5 = .ok (.bipush 60, 2) := by decide +kernel
theorem dX5_init_7 : decode cX5_init 7 = .ok (.newarray .int, 2) := by decide +kernel
theorem dX5_init_9 : decode cX5_init 9 = .ok (.putfield 9, 3) := by decide +kernel
theorem dX5_init_12 : decode cX5_init 12 = .ok (.aload_n 0, 1) := by decide +kernel
theorem dX5_init_13 : decode cX5_init 13 = .ok (.iconst 0, 1) := by decide +kernel
theorem dX5_init_14 : decode cX5_init 14 = .ok (.putfield 15, 3) := by decide +kernel
theorem dX5_init_17 : decode cX5_init 17 = .ok (.return_, 1) := by decide +kernel
set_option maxRecDepth 20000 in
theorem ggX6_init_X4_init : GoodIn wsX6_init wsX4_init := goodIn_r _ [27, 28, 2, 3, 29, 30, 31, 32, 33, 34, 35, 36, 37, 38, 39, 40, 41, 42, 43, 44, 45, 46, 47, 48, 49, 50, 51, 118, 119, 120, 121, 122, 123, 85, 86, 87, 88, 89, 90, 91, 92, 93, 94] (by decide +kernel) (by decide +kernel)
set_option maxRecDepth 20000 in
theorem gX6_init_X4_init_n11 : GoodIn wsX6_init (wsX4_init) := ggX6_init_X4_init
set_option maxRecDepth 20000 in
theorem ggX6_init_X0_init : GoodIn wsX6_init wsX0_init := goodIn_r _ [53, 54, 2, 3, 55, 56, 57, 102, 103] (by decide +kernel) (by decide +kernel)
set_option maxRecDepth 20000 in
theorem gX6_init_X0_init_n21 : GoodIn wsX6_init (wsX0_init) := ggX6_init_X0_init
set_option maxRecDepth 20000 in
theorem ggX6_init_X5_init : GoodIn wsX6_init wsX5_init := goodIn_r _ [59, 60, 2, 3, 45, 61, 62, 104, 105] (by decide +kernel) (by decide +kernel)
set_option maxRecDepth 20000 in
theorem gX6_init_X5_init_n32 : GoodIn wsX6_init (wsX5_init) := ggX6_init_X5_init
set_option maxRecDepth 20000 in
theorem ggX6_init_X2_init : GoodIn wsX6_init wsX2_init := goodIn_r _ [64, 65, 2, 3, 66, 30, 31, 67, 68, 69, 45, 70, 71, 72, 42, 43, 44, 46, 47, 48, 49, 50, 51, 118, 119, 120, 121, 122, 123, 106, 107, 108, 109, 110, 111] (by decide +kernel) (by decide +kernel)
set_option maxRecDepth 20000 in
theorem gX6_init_X2_init_n39 : GoodIn wsX6_init (wsX2_init) := ggX6_init_X2_init
set_option maxRecDepth 20000 in
theorem ggX6_init_X3_init : GoodIn wsX6_init wsX3_init := goodIn_r _ [75, 76, 2, 3, 77, 30, 31, 78, 79, 80, 81, 45, 82, 83, 84, 42, 43, 44, 46, 47, 48, 49, 50, 51, 118, 119, 120, 121, 122, 123, 112, 113, 114, 115, 116, 117] (by decide +kernel) (by decide +kernel)
set_option maxRecDepth 20000 in
theorem gX6_init_X3_init : GoodIn wsX6_init (wsX3_init) := ggX6_init_X3_init
theorem dX6_init_0 : decode cX6_init 0 = .ok (.aload_n 0, 1) := by decide +kernel
theorem dX6_init_1 : decode cX6_init 1 = .ok (.invokespecial 3, 3) := by decide +kernel
theorem dX6_init_4 : decode cX6_init 4 = .ok (.aload_n 0, 1) := by decide +kernel
theorem dX6_init_5 : decode cX6_init 5 = .ok (.new 9, 3) := by decide +kernel
theorem dX6_init_8 : decode cX6_init 8 = .ok (.dup, 1) := by decide +kernel
theorem dX6_init_9 : decode cX6_init 9 = .ok (.invokespecial 11, 3) := by decide +kernel
theorem dX6_init_12 : decode cX6_init 12 = .ok (.putfield 12, 3) := by decide +kernel
theorem dX6_init_15 : decode cX6_init 15 = .ok (.aload_n 0, 1) := by decide +kernel
theorem dX6_init_16 : decode cX6_init 16 = .ok (.new 9, 3) := by decide +kernel
theorem dX6_init_19 : decode cX6_init 19 = .ok (.dup, 1) := by decide +kernel
theorem dX6_init_20 : decode cX6_init 20 = .ok (.invokespecial 11, 3) := by decide +kernel
theorem dX6_init_23 : decode cX6_init 23 = .ok (.putfield 16, 3) := by decide +kernel
theorem dX6_init_26 : decode cX6_init 26 = .ok (.aload_n 0, 1) := by decide +kernel
theorem dX6_init_27 : decode cX6_init 27 = .ok (.new 19, 3) := by decide +kernel
theorem dX6_init_30 : decode cX6_init 30 = .ok (.dup, 1) := by decide +kernel
theorem dX6_init_31 : decode cX6_init 31 = .ok (.invokespecial 21, 3) := by decide +kernel
theorem dX6_init_34 : decode cX6_init 34 = .ok (.putfield 22, 3) := by decide +kernel
theorem dX6_init_37 : decode cX6_init 37 = .ok (.aload_n 0, 1) := by decide +kernel
theorem dX6_init_38 : decode cX6_init 38 = .ok (.iconst 2, 1) := by decide +kernel
theorem dX6_init_39 : decode cX6_init 39 = .ok (.anewarray 9, 3) := by decide +kernel
theorem dX6_init_42 : decode cX6_init 42 = .ok (.putfield 26, 3) := by decide +kernel
theorem dX6_init_45 : decode cX6_init 45 = .ok (.aload_n 0, 1) := by decide +kernel
theorem dX6_init_46 : decode cX6_init 46 = .ok (.new 30, 3) := by decide +kernel
theorem dX6_init_49 : decode cX6_init 49 = .ok (.dup, 1) := by decide +kernel
theorem dX6_init_50 : decode cX6_init 50 = .ok (.invokespecial 32, 3) := by decide +kernel
theorem dX6_init_53 : decode cX6_init 53 = .ok (.putfield 33, 3) := by decide +kernel
theorem dX6_init_56 : decode cX6_init 56 = .ok (.aload_n 0, 1) := by decide +kernel
theorem dX6_init_57 : decode cX6_init 57 = .ok (.new 37, 3) := by decide +kernel
theorem dX6_init_60 : decode cX6_init 60 = .ok (.dup, 1) := by decide +kernel
theorem dX6_init_61 : decode cX6_init 61 = .ok (.invokespecial 39, 3) := by decide +kernel
theorem dX6_init_64 : decode cX6_init 64 = .ok (.putfield 40, 3) := by decide +kernel
theorem dX6_init_67 : decode cX6_init 67 = .ok (.aload_n 0, 1) := by decide +kernel
theorem dX6_init_68 : decode cX6_init 68 = .ok (.new 44, 3) := by decide +kernel
theorem dX6_init_71 : decode cX6_init 71 = .ok (.dup, 1) := by decide +kernel
theorem dX6_init_72 : decode cX6_init 72 = .ok (.invokespecial 46, 3) := by decide +kernel
theorem dX6_init_75 : decode cX6_init 75 = .ok (.putfield 47, 3) := by decide +kernel
theorem dX6_init_78 : decode cX6_init 78 = .ok (.return_, 1) := by decide +kernel
set_option maxRecDepth 20000 in
theorem ggX6_begin_X0_save : GoodIn wsX6_begin wsX0_save := goodIn_r _ [12, 13, 14, 15, 16, 17, 18, 19, 20, 11, 21, 22, 23, 24, 25, 26, 27, 28, 29, 30, 31, 32, 33, 34, 35, 36, 37, 38, 39, 40, 41, 42, 43, 44, 45, 46, 47, 48, 49, 50, 51, 52, 53, 54, 55, 56, 57, 58, 59, 60, 61, 93, 94, 77, 78, 79, 80, 81, 82, 83, 84, 85, 86, 87, 88, 89, 90, 91, 92] (by decide +kernel) (by decide +kernel)
set_option maxRecDepth 20000 in
theorem gX6_begin_X0_save : GoodIn wsX6_begin (wsV RX6 58 RX0 yX0_save wsX0_save) := goodIn_app (goodIn_of _ (by decide +kernel)) ggX6_begin_X0_save
set_option maxRecDepth 20000 in
theorem ggX6_begin_X4_freeAll : GoodIn wsX6_begin wsX4_freeAll := goodIn_r _ [65, 32, 33, 34, 66, 67, 68, 17, 69, 35, 36, 77, 78, 79, 80, 81, 82, 83, 84, 85, 86] (by decide +kernel) (by decide +kernel)
set_option maxRecDepth 20000 in
theorem gX6_begin_X4_freeAll : GoodIn wsX6_begin (wsV RX6 75 RX4 yX4_freeAll wsX4_freeAll) := goodIn_app (goodIn_of _ (by decide +kernel)) ggX6_begin_X4_freeAll
theorem dX6_begin_0 : decode cX6_begin 0 = .ok (.iload_n 1, 1) := by decide +kernel
theorem dX6_begin_1 : decode cX6_begin 1 = .ok (.iconst 2, 1) := by decide +kernel
theorem dX6_begin_2 : decode cX6_begin 2 = .ok (.if_icmp .lt 9, 3) := by decide +kernel
theorem dX6_begin_5 : decode cX6_begin 5 = .ok (.iload_n 1, 1) := by decide +kernel
theorem dX6_begin_6 : decode cX6_begin 6 = .ok (.bipush 10, 2) := by decide +kernel
theorem dX6_begin_8 : decode cX6_begin 8 = .ok (.if_icmp .le 13, 3) := by decide +kernel
theorem dX6_begin_11 : decode cX6_begin 11 = .ok (.new 51, 3) := by decide +kernel
theorem dX6_begin_14 : decode cX6_begin 14 = .ok (.dup, 1) := by decide +kernel
theorem dX6_begin_15 : decode cX6_begin 15 = .ok (.ldc 53, 2) := by decide +kernel
theorem dX6_begin_17 : decode cX6_begin 17 = .ok (.invokespecial 55, 3) := by decide +kernel
theorem dX6_begin_20 : decode cX6_begin 20 = .ok (.athrow, 1) := by decide +kernel
theorem dX6_begin_21 : decode cX6_begin 21 = .ok (.aload_n 0, 1) := by decide +kernel
theorem dX6_begin_22 : decode cX6_begin 22 = .ok (.getfield 22, 3) := by decide +kernel
theorem dX6_begin_25 : decode cX6_begin 25 = .ok (.aload_n 0, 1) := by decide +kernel
theorem dX6_begin_26 : decode cX6_begin 26 = .ok (.getfield 12, 3) := by decide +kernel
theorem dX6_begin_29 : decode cX6_begin 29 = .ok (.invokevirtual 58, 3) := by decide +kernel
theorem dX6_begin_32 : decode cX6_begin 32 = .ok (.aload_n 0, 1) := by decide +kernel
theorem dX6_begin_33 : decode cX6_begin 33 = .ok (.getfield 12, 3) := by decide +kernel
theorem dX6_begin_36 : decode cX6_begin 36 = .ok (.getfield 62, 3) := by decide +kernel
theorem dX6_begin_39 : decode cX6_begin 39 = .ok (.istore_n 2, 1) := by decide +kernel
theorem dX6_begin_40 : decode cX6_begin 40 = .ok (.aload_n 0, 1) := by decide +kernel
theorem dX6_begin_41 : decode cX6_begin 41 = .ok (.getfield 12, 3) := by decide +kernel
theorem dX6_begin_44 : decode cX6_begin 44 = .ok (.iload_n 1, 1) := by decide +kernel
theorem dX6_begin_45 : decode cX6_begin 45 = .ok (.putfield 62, 3) := by decide +kernel
theorem dX6_begin_48 : decode cX6_begin 48 = .ok (.aload_n 0, 1) := by decide +kernel
theorem dX6_begin_49 : decode cX6_begin 49 = .ok (.getfield 12, 3) := by decide +kernel
theorem dX6_begin_52 : decode cX6_begin 52 = .ok (.getfield 66, 3) := by decide +kernel
theorem dX6_begin_55 : decode cX6_begin 55 = .ok (.iconst 0, 1) := by decide +kernel
theorem dX6_begin_56 : decode cX6_begin 56 = .ok (.putfield 70, 3) := by decide +kernel
theorem dX6_begin_59 : decode cX6_begin 59 = .ok (.aload_n 0, 1) := by decide +kernel
theorem dX6_begin_60 : decode cX6_begin 60 = .ok (.getfield 12, 3) := by decide +kernel
theorem dX6_begin_63 : decode cX6_begin 63 = .ok (.iconst 1, 1) := by decide +kernel
theorem dX6_begin_64 : decode cX6_begin 64 = .ok (.invokevirtual 75, 3) := by decide +kernel
theorem dX6_begin_67 : decode cX6_begin 67 = .ok (.iload_n 2, 1) := by decide +kernel
theorem dX6_begin_68 : decode cX6_begin 68 = .ok (.ireturn, 1) := by decide +kernel
set_option maxRecDepth 20000 in
theorem ggX6_addLine_X4_allCells : GoodIn wsX6_addLine wsX4_allCells := goodIn_r _ [13, 14, 78, 79, 80, 81, 82, 83, 84, 85, 86, 87] (by decide +kernel) (by decide +kernel)
set_option maxRecDepth 20000 in
theorem gX6_addLine_X4_allCells : GoodIn wsX6_addLine (wsV RX6 79 RX4 yX4_allCells wsX4_allCells) := goodIn_app (goodIn_of _ (by decide +kernel)) ggX6_addLine_X4_allCells
set_option maxRecDepth 20000 in
theorem ggX6_addLine_X0_save : GoodIn wsX6_addLine wsX0_save := goodIn_r _ [19, 20, 21, 22, 23, 12, 24, 25, 26, 18, 27, 28, 29, 30, 31, 32, 33, 34, 35, 36, 14, 37, 38, 39, 40, 41, 42, 43, 44, 45, 46, 47, 48, 49, 50, 51, 52, 53, 54, 55, 56, 57, 58, 59, 60, 61, 62, 63, 64, 65, 66, 94, 95, 78, 79, 80, 81, 82, 83, 84, 85, 86, 87, 88, 89, 90, 91, 92, 93] (by decide +kernel) (by decide +kernel)
set_option maxRecDepth 20000 in
theorem gX6_addLine_X0_save : GoodIn wsX6_addLine (wsV RX6 58 RX0 yX0_save wsX0_save) := goodIn_app (goodIn_of _ (by decide +kernel)) ggX6_addLine_X0_save
set_option maxRecDepth 20000 in
theorem ggX6_addLine_X1_put : GoodIn wsX6_addLine wsX1_put := goodIn_r _ [70, 50, 49, 88, 89, 90, 91, 92, 93] (by decide +kernel) (by decide +kernel)
set_option maxRecDepth 20000 in
theorem gX6_addLine_X1_put : GoodIn wsX6_addLine (wsV RX6 90 RX1 yX1_put wsX1_put) := goodIn_app (goodIn_of _ (by decide +kernel)) ggX6_addLine_X1_put
theorem dX6_addLine_0 : decode cX6_addLine 0 = .ok (.iload_n 1, 1) := by decide +kernel
theorem dX6_addLine_1 : decode cX6_addLine 1 = .ok (.ifCond .eq 17, 3) := by decide +kernel
theorem dX6_addLine_4 : decode cX6_addLine 4 = .ok (.iload_n 1, 1) := by decide +kernel
theorem dX6_addLine_5 : decode cX6_addLine 5 = .ok (.aload_n 0, 1) := by decide +kernel
theorem dX6_addLine_6 : decode cX6_addLine 6 = .ok (.getfield 12, 3) := by decide +kernel
theorem dX6_addLine_9 : decode cX6_addLine 9 = .ok (.invokevirtual 79, 3) := by decide +kernel
theorem dX6_addLine_12 : decode cX6_addLine 12 = .ok (.iconst (-1), 1) := by decide +kernel
theorem dX6_addLine_13 : decode cX6_addLine 13 = .ok (.ixor, 1) := by decide +kernel
theorem dX6_addLine_14 : decode cX6_addLine 14 = .ok (.iand, 1) := by decide +kernel
theorem dX6_addLine_15 : decode cX6_addLine 15 = .ok (.ifCond .eq 13, 3) := by decide +kernel
theorem dX6_addLine_18 : decode cX6_addLine 18 = .ok (.new 51, 3) := by decide +kernel
theorem dX6_addLine_21 : decode cX6_addLine 21 = .ok (.dup, 1) := by decide +kernel
theorem dX6_addLine_22 : decode cX6_addLine 22 = .ok (.ldc 83, 2) := by decide +kernel
theorem dX6_addLine_24 : decode cX6_addLine 24 = .ok (.invokespecial 55, 3) := by decide +kernel
theorem dX6_addLine_27 : decode cX6_addLine 27 = .ok (.athrow, 1) := by decide +kernel
theorem dX6_addLine_28 : decode cX6_addLine 28 = .ok (.aload_n 0, 1) := by decide +kernel
theorem dX6_addLine_29 : decode cX6_addLine 29 = .ok (.getfield 12, 3) := by decide +kernel
theorem dX6_addLine_32 : decode cX6_addLine 32 = .ok (.getfield 66, 3) := by decide +kernel
theorem dX6_addLine_35 : decode cX6_addLine 35 = .ok (.getfield 70, 3) := by decide +kernel
theorem dX6_addLine_38 : decode cX6_addLine 38 = .ok (.bipush 12, 2) := by decide +kernel
theorem dX6_addLine_40 : decode cX6_addLine 40 = .ok (.if_icmp .lt 13, 3) := by decide +kernel
theorem dX6_addLine_43 : decode cX6_addLine 43 = .ok (.new 85, 3) := by decide +kernel
theorem dX6_addLine_46 : decode cX6_addLine 46 = .ok (.dup, 1) := by decide +kernel
theorem dX6_addLine_47 : decode cX6_addLine 47 = .ok (.ldc 87, 2) := by decide +kernel
theorem dX6_addLine_49 : decode cX6_addLine 49 = .ok (.invokespecial 89, 3) := by decide +kernel
theorem dX6_addLine_52 : decode cX6_addLine 52 = .ok (.athrow, 1) := by decide +kernel
theorem dX6_addLine_53 : decode cX6_addLine 53 = .ok (.aload_n 0, 1) := by decide +kernel
theorem dX6_addLine_54 : decode cX6_addLine 54 = .ok (.getfield 22, 3) := by decide +kernel
theorem dX6_addLine_57 : decode cX6_addLine 57 = .ok (.aload_n 0, 1) := by decide +kernel
theorem dX6_addLine_58 : decode cX6_addLine 58 = .ok (.getfield 12, 3) := by decide +kernel
theorem dX6_addLine_61 : decode cX6_addLine 61 = .ok (.invokevirtual 58, 3) := by decide +kernel
theorem dX6_addLine_64 : decode cX6_addLine 64 = .ok (.aload_n 0, 1) := by decide +kernel
theorem dX6_addLine_65 : decode cX6_addLine 65 = .ok (.getfield 12, 3) := by decide +kernel
theorem dX6_addLine_68 : decode cX6_addLine 68 = .ok (.getfield 66, 3) := by decide +kernel
theorem dX6_addLine_71 : decode cX6_addLine 71 = .ok (.iload_n 1, 1) := by decide +kernel
theorem dX6_addLine_72 : decode cX6_addLine 72 = .ok (.invokevirtual 90, 3) := by decide +kernel
theorem dX6_addLine_75 : decode cX6_addLine 75 = .ok (.aload_n 0, 1) := by decide +kernel
theorem dX6_addLine_76 : decode cX6_addLine 76 = .ok (.getfield 12, 3) := by decide +kernel
theorem dX6_addLine_79 : decode cX6_addLine 79 = .ok (.getfield 66, 3) := by decide +kernel
theorem dX6_addLine_82 : decode cX6_addLine 82 = .ok (.getfield 70, 3) := by decide +kernel
theorem dX6_addLine_85 : decode cX6_addLine 85 = .ok (.iconst 1, 1) := by decide +kernel
theorem dX6_addLine_86 : decode cX6_addLine 86 = .ok (.isub, 1) := by decide +kernel
theorem dX6_addLine_87 : decode cX6_addLine 87 = .ok (.ireturn, 1) := by decide +kernel
set_option maxRecDepth 20000 in
theorem ggX6_removeLine_X1_has : GoodIn wsX6_removeLine wsX1_has := goodIn_r _ [10, 11, 12, 90, 91, 92, 93, 94, 95] (by decide +kernel) (by decide +kernel)
set_option maxRecDepth 20000 in
theorem gX6_removeLine_X1_has : GoodIn wsX6_removeLine (wsV RX6 94 RX1 yX1_has wsX1_has) := goodIn_app (goodIn_of _ (by decide +kernel)) ggX6_removeLine_X1_has
set_option maxRecDepth 20000 in
theorem ggX6_removeLine_X0_save : GoodIn wsX6_removeLine wsX0_save := goodIn_r _ [17, 18, 19, 20, 21, 22, 23, 24, 25, 16, 26, 27, 28, 29, 30, 31, 32, 33, 9, 34, 35, 36, 37, 38, 39, 40, 41, 42, 43, 44, 45, 46, 47, 12, 11, 48, 49, 50, 51, 52, 53, 54, 55, 56, 57, 58, 59, 60, 61, 62, 63, 96, 97, 80, 81, 82, 83, 84, 85, 86, 87, 88, 89, 90, 91, 92, 93, 94, 95] (by decide +kernel) (by decide +kernel)
set_option maxRecDepth 20000 in
theorem gX6_removeLine_X0_save : GoodIn wsX6_removeLine (wsV RX6 58 RX0 yX0_save wsX0_save) := goodIn_app (goodIn_of _ (by decide +kernel)) ggX6_removeLine_X0_save
set_option maxRecDepth 20000 in
theorem ggX6_removeLine_X1_maskOf : GoodIn wsX6_removeLine wsX1_maskOf := goodIn_r _ [67, 11, 12, 90, 91, 92, 93, 94, 95] (by decide +kernel) (by decide +kernel)
set_option maxRecDepth 20000 in
theorem gX6_removeLine_X1_maskOf : GoodIn wsX6_removeLine (wsV RX6 103 RX1 yX1_maskOf wsX1_maskOf) := goodIn_app (goodIn_of _ (by decide +kernel)) ggX6_removeLine_X1_maskOf
set_option maxRecDepth 20000 in
theorem ggX6_removeLine_X1_drop : GoodIn wsX6_removeLine wsX1_drop := goodIn_r _ [71, 11, 12, 72, 7, 8, 9, 10, 90, 91, 92, 93, 94, 95] (by decide +kernel) (by decide +kernel)
set_option maxRecDepth 20000 in
theorem gX6_removeLine_X1_drop : GoodIn wsX6_removeLine (wsV RX6 107 RX1 yX1_drop wsX1_drop) := goodIn_app (goodIn_of _ (by decide +kernel)) ggX6_removeLine_X1_drop
theorem dX6_removeLine_0 : decode cX6_removeLine 0 = .ok (.aload_n 0, 1) := by decide +kernel
theorem dX6_removeLine_1 : decode cX6_removeLine 1 = .ok (.getfield 12, 3) := by decide +kernel
theorem dX6_removeLine_4 : decode cX6_removeLine 4 = .ok (.getfield 66, 3) := by decide +kernel
theorem dX6_removeLine_7 : decode cX6_removeLine 7 = .ok (.iload_n 1, 1) := by decide +kernel
theorem dX6_removeLine_8 : decode cX6_removeLine 8 = .ok (.invokevirtual 94, 3) := by decide +kernel
theorem dX6_removeLine_11 : decode cX6_removeLine 11 = .ok (.ifCond .ne 13, 3) := by decide +kernel
theorem dX6_removeLine_14 : decode cX6_removeLine 14 = .ok (.new 98, 3) := by decide +kernel
theorem dX6_removeLine_17 : decode cX6_removeLine 17 = .ok (.dup, 1) := by decide +kernel
theorem dX6_removeLine_18 : decode cX6_removeLine 18 = .ok (.ldc 100, 2) := by decide +kernel
theorem dX6_removeLine_20 : decode cX6_removeLine 20 = .ok (.invokespecial 102, 3) := by decide +kernel
theorem dX6_removeLine_23 : decode cX6_removeLine 23 = .ok (.athrow, 1) := by decide +kernel
theorem dX6_removeLine_24 : decode cX6_removeLine 24 = .ok (.aload_n 0, 1) := by decide +kernel
theorem dX6_removeLine_25 : decode cX6_removeLine 25 = .ok (.getfield 22, 3) := by decide +kernel
theorem dX6_removeLine_28 : decode cX6_removeLine 28 = .ok (.aload_n 0, 1) := by decide +kernel
theorem dX6_removeLine_29 : decode cX6_removeLine 29 = .ok (.getfield 12, 3) := by decide +kernel
theorem dX6_removeLine_32 : decode cX6_removeLine 32 = .ok (.invokevirtual 58, 3) := by decide +kernel
theorem dX6_removeLine_35 : decode cX6_removeLine 35 = .ok (.aload_n 0, 1) := by decide +kernel
theorem dX6_removeLine_36 : decode cX6_removeLine 36 = .ok (.getfield 12, 3) := by decide +kernel
theorem dX6_removeLine_39 : decode cX6_removeLine 39 = .ok (.getfield 66, 3) := by decide +kernel
theorem dX6_removeLine_42 : decode cX6_removeLine 42 = .ok (.iload_n 1, 1) := by decide +kernel
theorem dX6_removeLine_43 : decode cX6_removeLine 43 = .ok (.invokevirtual 103, 3) := by decide +kernel
theorem dX6_removeLine_46 : decode cX6_removeLine 46 = .ok (.istore_n 2, 1) := by decide +kernel
theorem dX6_removeLine_47 : decode cX6_removeLine 47 = .ok (.aload_n 0, 1) := by decide +kernel
theorem dX6_removeLine_48 : decode cX6_removeLine 48 = .ok (.getfield 12, 3) := by decide +kernel
theorem dX6_removeLine_51 : decode cX6_removeLine 51 = .ok (.getfield 66, 3) := by decide +kernel
theorem dX6_removeLine_54 : decode cX6_removeLine 54 = .ok (.iload_n 1, 1) := by decide +kernel
theorem dX6_removeLine_55 : decode cX6_removeLine 55 = .ok (.invokevirtual 107, 3) := by decide +kernel
theorem dX6_removeLine_58 : decode cX6_removeLine 58 = .ok (.iload_n 2, 1) := by decide +kernel
theorem dX6_removeLine_59 : decode cX6_removeLine 59 = .ok (.ireturn, 1) := by decide +kernel
set_option maxRecDepth 20000 in
theorem ggX6_clear_X0_save : GoodIn wsX6_clear wsX0_save := goodIn_r _ [9, 10, 11, 12, 13, 14, 15, 16, 17, 8, 18, 19, 20, 21, 22, 23, 24, 25, 26, 27, 28, 29, 30, 31, 32, 33, 34, 35, 36, 37, 38, 39, 40, 41, 42, 43, 44, 45, 46, 47, 48, 49, 50, 51, 52, 53, 54, 55, 56, 57, 58, 91, 92, 81, 82, 83, 84, 85, 86, 87, 88, 89, 90, 93, 94, 95, 96, 97, 98] (by decide +kernel) (by decide +kernel)
set_option maxRecDepth 20000 in
theorem gX6_clear_X0_save : GoodIn wsX6_clear (wsV RX6 58 RX0 yX0_save wsX0_save) := goodIn_app (goodIn_of _ (by decide +kernel)) ggX6_clear_X0_save
set_option maxRecDepth 20000 in
theorem ggX6_clear_J6_bitCount_0f7a4 : GoodIn wsX6_clear wsJ6_bitCount_0f7a4 := goodIn_r _ [62, 63, 64, 65] (by decide +kernel) (by decide +kernel)
set_option maxRecDepth 20000 in
theorem gX6_clear_J6_bitCount_0f7a4 : GoodIn wsX6_clear (va_wsS RX6 116 yJ6_bitCount_0f7a4 wsJ6_bitCount_0f7a4) := goodIn_app (goodIn_of _ (by decide +kernel)) ggX6_clear_J6_bitCount_0f7a4
set_option maxRecDepth 20000 in
theorem ggX6_clear_X4_freeAll : GoodIn wsX6_clear wsX4_freeAll := goodIn_r _ [69, 29, 30, 31, 70, 71, 72, 14, 73, 32, 33, 81, 82, 83, 84, 85, 86, 87, 88, 89, 90] (by decide +kernel) (by decide +kernel)
set_option maxRecDepth 20000 in
theorem gX6_clear_X4_freeAll : GoodIn wsX6_clear (wsV RX6 75 RX4 yX4_freeAll wsX4_freeAll) := goodIn_app (goodIn_of _ (by decide +kernel)) ggX6_clear_X4_freeAll
theorem dX6_clear_0 : decode cX6_clear 0 = .ok (.aload_n 0, 1) := by decide +kernel
theorem dX6_clear_1 : decode cX6_clear 1 = .ok (.getfield 22, 3) := by decide +kernel
theorem dX6_clear_4 : decode cX6_clear 4 = .ok (.aload_n 0, 1) := by decide +kernel
theorem dX6_clear_5 : decode cX6_clear 5 = .ok (.getfield 12, 3) := by decide +kernel
theorem dX6_clear_8 : decode cX6_clear 8 = .ok (.invokevirtual 58, 3) := by decide +kernel
theorem dX6_clear_11 : decode cX6_clear 11 = .ok (.aload_n 0, 1) := by decide +kernel
theorem dX6_clear_12 : decode cX6_clear 12 = .ok (.getfield 12, 3) := by decide +kernel
theorem dX6_clear_15 : decode cX6_clear 15 = .ok (.getfield 110, 3) := by decide +kernel
theorem dX6_clear_18 : decode cX6_clear 18 = .ok (.aload_n 0, 1) := by decide +kernel
theorem dX6_clear_19 : decode cX6_clear 19 = .ok (.getfield 12, 3) := by decide +kernel
theorem dX6_clear_22 : decode cX6_clear 22 = .ok (.getfield 113, 3) := by decide +kernel
theorem dX6_clear_25 : decode cX6_clear 25 = .ok (.ior, 1) := by decide +kernel
theorem dX6_clear_26 : decode cX6_clear 26 = .ok (.invokestatic 116, 3) := by decide +kernel
theorem dX6_clear_29 : decode cX6_clear 29 = .ok (.istore_n 2, 1) := by decide +kernel
theorem dX6_clear_30 : decode cX6_clear 30 = .ok (.aload_n 0, 1) := by decide +kernel
theorem dX6_clear_31 : decode cX6_clear 31 = .ok (.getfield 12, 3) := by decide +kernel
theorem dX6_clear_34 : decode cX6_clear 34 = .ok (.iload_n 1, 1) := by decide +kernel
theorem dX6_clear_35 : decode cX6_clear 35 = .ok (.invokevirtual 75, 3) := by decide +kernel
theorem dX6_clear_38 : decode cX6_clear 38 = .ok (.iload_n 2, 1) := by decide +kernel
theorem dX6_clear_39 : decode cX6_clear 39 = .ok (.ireturn, 1) := by decide +kernel
set_option maxRecDepth 20000 in
theorem ggX6_move_X4_hasCell : GoodIn wsX6_move wsX4_hasCell := goodIn_r _ [11, 12, 161, 162, 163, 164, 165, 166, 167, 168, 169, 170] (by decide +kernel) (by decide +kernel)
set_option maxRecDepth 20000 in
theorem gX6_move_X4_hasCell : GoodIn wsX6_move (wsV RX6 121 RX4 yX4_hasCell wsX4_hasCell) := goodIn_app (goodIn_of _ (by decide +kernel)) ggX6_move_X4_hasCell
set_option maxRecDepth 20000 in
theorem ggX6_move_X4_winner : GoodIn wsX6_move wsX4_winner := goodIn_r _ [16, 17, 18, 19, 20, 21, 22, 23, 24, 25, 26, 27, 28, 29, 30, 31, 32, 33, 34, 35, 36, 37, 38, 161, 162, 163, 164, 165, 166, 167, 168, 169, 170, 171, 172, 173, 174, 175, 176] (by decide +kernel) (by decide +kernel)
set_option maxRecDepth 20000 in
theorem gX6_move_X4_winner : GoodIn wsX6_move (wsV RX6 126 RX4 yX4_winner wsX4_winner) := goodIn_app (goodIn_of _ (by decide +kernel)) ggX6_move_X4_winner
set_option maxRecDepth 20000 in
theorem ggX6_move_X4_isFree : GoodIn wsX6_move wsX4_isFree := goodIn_r _ [42, 43, 44, 45, 10, 46, 18, 19, 47, 48, 49, 50, 12, 161, 162, 163, 164, 165, 166, 167, 168, 169, 170] (by decide +kernel) (by decide +kernel)
set_option maxRecDepth 20000 in
theorem gX6_move_X4_isFree : GoodIn wsX6_move (wsV RX6 129 RX4 yX4_isFree wsX4_isFree) := goodIn_app (goodIn_of _ (by decide +kernel)) ggX6_move_X4_isFree
set_option maxRecDepth 20000 in
theorem ggX6_move_X0_save : GoodIn wsX6_move wsX0_save := goodIn_r _ [55, 56, 57, 58, 59, 10, 60, 61, 62, 54, 63, 64, 65, 66, 67, 68, 69, 70, 24, 17, 12, 18, 19, 71, 72, 73, 74, 75, 76, 77, 78, 79, 80, 30, 29, 31, 26, 27, 28, 81, 82, 83, 84, 85, 86, 87, 88, 89, 90, 91, 92, 177, 178, 161, 162, 163, 164, 165, 166, 167, 168, 169, 170, 171, 172, 173, 174, 175, 176] (by decide +kernel) (by decide +kernel)
set_option maxRecDepth 20000 in
theorem gX6_move_X0_save : GoodIn wsX6_move (wsV RX6 58 RX0 yX0_save wsX0_save) := goodIn_app (goodIn_of _ (by decide +kernel)) ggX6_move_X0_save
set_option maxRecDepth 20000 in
theorem ggX6_move_X6_otherInPairing : GoodIn wsX6_move wsX6_otherInPairing := goodIn_r _ [97, 98, 5, 99, 100, 101, 102, 103, 104, 105, 106, 107, 108, 109, 110, 111, 112, 113, 114, 24, 115, 29, 30, 116, 90, 91, 92, 117, 118, 119, 120, 121, 122, 123, 124, 125, 126, 127, 128, 129, 130, 131, 132, 133, 134, 135, 136, 137, 138, 33, 34, 35, 36, 37, 38, 139, 140, 141, 142, 143, 144, 145, 146, 147, 96, 148, 154, 155, 156, 157, 158, 159, 160, 179, 180, 181, 182, 183, 184, 161, 162, 163, 164, 165, 166, 167, 168, 169, 170, 171, 172, 173, 174, 175, 176] (by decide +kernel) (by decide +kernel)
set_option maxRecDepth 20000 in
theorem gX6_move_X6_otherInPairing : GoodIn wsX6_move (wsV RX6 134 RX6 yX6_otherInPairing wsX6_otherInPairing) := goodIn_app (goodIn_of _ (by decide +kernel)) ggX6_move_X6_otherInPairing
set_option maxRecDepth 20000 in
theorem ggX6_move_X4_occupy : GoodIn wsX6_move wsX4_occupy := goodIn_r _ [152, 71, 18, 19, 72, 73, 74, 75, 76, 153, 14, 15, 10, 16, 17, 20, 21, 22, 23, 24, 25, 26, 27, 28, 29, 30, 31, 32, 33, 34, 35, 36, 37, 38, 161, 162, 163, 164, 165, 166, 167, 168, 169, 170, 171, 172, 173, 174, 175, 176] (by decide +kernel) (by decide +kernel)
set_option maxRecDepth 20000 in
theorem gX6_move_X4_occupy : GoodIn wsX6_move (wsV RX6 137 RX4 yX4_occupy wsX4_occupy) := goodIn_app (goodIn_of _ (by decide +kernel)) ggX6_move_X4_occupy
theorem dX6_move_0 : decode cX6_move 0 = .ok (.aload_n 0, 1) := by decide +kernel
theorem dX6_move_1 : decode cX6_move 1 = .ok (.getfield 12, 3) := by decide +kernel
theorem dX6_move_4 : decode cX6_move 4 = .ok (.iload_n 1, 1) := by decide +kernel
theorem dX6_move_5 : decode cX6_move 5 = .ok (.invokevirtual 121, 3) := by decide +kernel
theorem dX6_move_8 : decode cX6_move 8 = .ok (.ifCond .ne 13, 3) := by decide +kernel
theorem dX6_move_11 : decode cX6_move 11 = .ok (.new 98, 3) := by decide +kernel
theorem dX6_move_14 : decode cX6_move 14 = .ok (.dup, 1) := by decide +kernel
theorem dX6_move_15 : decode cX6_move 15 = .ok (.ldc 124, 2) := by decide +kernel
theorem dX6_move_17 : decode cX6_move 17 = .ok (.invokespecial 102, 3) := by decide +kernel
theorem dX6_move_20 : decode cX6_move 20 = .ok (.athrow, 1) := by decide +kernel
theorem dX6_move_21 : decode cX6_move 21 = .ok (.aload_n 0, 1) := by decide +kernel
theorem dX6_move_22 : decode cX6_move 22 = .ok (.getfield 12, 3) := by decide +kernel
theorem dX6_move_25 : decode cX6_move 25 = .ok (.invokevirtual 126, 3) := by decide +kernel
theorem dX6_move_28 : decode cX6_move 28 = .ok (.ifCond .ne 14, 3) := by decide +kernel
theorem dX6_move_31 : decode cX6_move 31 = .ok (.aload_n 0, 1) := by decide +kernel
theorem dX6_move_32 : decode cX6_move 32 = .ok (.getfield 12, 3) := by decide +kernel
theorem dX6_move_35 : decode cX6_move 35 = .ok (.iload_n 1, 1) := by decide +kernel
theorem dX6_move_36 : decode cX6_move 36 = .ok (.invokevirtual 129, 3) := by decide +kernel
theorem dX6_move_39 : decode cX6_move 39 = .ok (.ifCond .ne 13, 3) := by decide +kernel
theorem dX6_move_42 : decode cX6_move 42 = .ok (.new 85, 3) := by decide +kernel
theorem dX6_move_45 : decode cX6_move 45 = .ok (.dup, 1) := by decide +kernel
theorem dX6_move_46 : decode cX6_move 46 = .ok (.ldc 132, 2) := by decide +kernel
theorem dX6_move_48 : decode cX6_move 48 = .ok (.invokespecial 89, 3) := by decide +kernel
theorem dX6_move_51 : decode cX6_move 51 = .ok (.athrow, 1) := by decide +kernel
theorem dX6_move_52 : decode cX6_move 52 = .ok (.aload_n 0, 1) := by decide +kernel
theorem dX6_move_53 : decode cX6_move 53 = .ok (.getfield 22, 3) := by decide +kernel
theorem dX6_move_56 : decode cX6_move 56 = .ok (.aload_n 0, 1) := by decide +kernel
theorem dX6_move_57 : decode cX6_move 57 = .ok (.getfield 12, 3) := by decide +kernel
theorem dX6_move_60 : decode cX6_move 60 = .ok (.invokevirtual 58, 3) := by decide +kernel
theorem dX6_move_63 : decode cX6_move 63 = .ok (.aload_n 0, 1) := by decide +kernel
theorem dX6_move_64 : decode cX6_move 64 = .ok (.getfield 12, 3) := by decide +kernel
theorem dX6_move_67 : decode cX6_move 67 = .ok (.iload_n 1, 1) := by decide +kernel
theorem dX6_move_68 : decode cX6_move 68 = .ok (.aload_n 0, 1) := by decide +kernel
theorem dX6_move_69 : decode cX6_move 69 = .ok (.iload_n 1, 1) := by decide +kernel
theorem dX6_move_70 : decode cX6_move 70 = .ok (.invokevirtual 134, 3) := by decide +kernel
theorem dX6_move_73 : decode cX6_move 73 = .ok (.invokevirtual 137, 3) := by decide +kernel
theorem dX6_move_76 : decode cX6_move 76 = .ok (.aload_n 0, 1) := by decide +kernel
theorem dX6_move_77 : decode cX6_move 77 = .ok (.getfield 12, 3) := by decide +kernel
theorem dX6_move_80 : decode cX6_move 80 = .ok (.invokevirtual 126, 3) := by decide +kernel
theorem dX6_move_83 : decode cX6_move 83 = .ok (.ireturn, 1) := by decide +kernel
set_option maxRecDepth 20000 in
theorem ggX6_skip_X4_winner : GoodIn wsX6_skip wsX4_winner := goodIn_r _ [10, 11, 12, 13, 14, 15, 16, 17, 18, 19, 20, 21, 22, 23, 24, 25, 26, 27, 28, 29, 30, 31, 32, 91, 92, 93, 94, 95, 96, 97, 98, 99, 100, 101, 102, 103, 104, 105, 106] (by decide +kernel) (by decide +kernel)
set_option maxRecDepth 20000 in
theorem gX6_skip_X4_winner : GoodIn wsX6_skip (wsV RX6 126 RX4 yX4_winner wsX4_winner) := goodIn_app (goodIn_of _ (by decide +kernel)) ggX6_skip_X4_winner
set_option maxRecDepth 20000 in
theorem ggX6_skip_X0_save : GoodIn wsX6_skip wsX0_save := goodIn_r _ [37, 38, 39, 40, 41, 9, 42, 43, 44, 36, 45, 46, 47, 48, 49, 50, 51, 52, 18, 11, 53, 12, 13, 54, 55, 56, 57, 58, 59, 60, 61, 62, 63, 24, 23, 25, 20, 21, 22, 64, 65, 66, 67, 68, 69, 70, 71, 72, 73, 74, 75, 107, 108, 91, 92, 93, 94, 95, 96, 97, 98, 99, 100, 101, 102, 103, 104, 105, 106] (by decide +kernel) (by decide +kernel)
set_option maxRecDepth 20000 in
theorem gX6_skip_X0_save : GoodIn wsX6_skip (wsV RX6 58 RX0 yX0_save wsX0_save) := goodIn_app (goodIn_of _ (by decide +kernel)) ggX6_skip_X0_save
set_option maxRecDepth 20000 in
theorem ggX6_skip_X4_forgetLatest : GoodIn wsX6_skip wsX4_forgetLatest := goodIn_r _ [79, 55, 56, 91, 92, 93, 94, 95, 96, 97, 98, 99, 100] (by decide +kernel) (by decide +kernel)
set_option maxRecDepth 20000 in
theorem gX6_skip_X4_forgetLatest : GoodIn wsX6_skip (wsV RX6 147 RX4 yX4_forgetLatest wsX4_forgetLatest) := goodIn_app (goodIn_of _ (by decide +kernel)) ggX6_skip_X4_forgetLatest
set_option maxRecDepth 20000 in
theorem ggX6_skip_X4_mover : GoodIn wsX6_skip wsX4_mover := goodIn_r _ [83, 54, 91, 92, 93, 94, 95, 96, 97, 98, 99, 100] (by decide +kernel) (by decide +kernel)
set_option maxRecDepth 20000 in
theorem gX6_skip_X4_mover : GoodIn wsX6_skip (wsV RX6 150 RX4 yX4_mover wsX4_mover) := goodIn_app (goodIn_of _ (by decide +kernel)) ggX6_skip_X4_mover
theorem dX6_skip_0 : decode cX6_skip 0 = .ok (.aload_n 0, 1) := by decide +kernel
theorem dX6_skip_1 : decode cX6_skip 1 = .ok (.getfield 12, 3) := by decide +kernel
theorem dX6_skip_4 : decode cX6_skip 4 = .ok (.invokevirtual 126, 3) := by decide +kernel
theorem dX6_skip_7 : decode cX6_skip 7 = .ok (.ifCond .eq 13, 3) := by decide +kernel
theorem dX6_skip_10 : decode cX6_skip 10 = .ok (.new 85, 3) := by decide +kernel
theorem dX6_skip_13 : decode cX6_skip 13 = .ok (.dup, 1) := by decide +kernel
theorem dX6_skip_14 : decode cX6_skip 14 = .ok (.ldc 141, 2) := by decide +kernel
theorem dX6_skip_16 : decode cX6_skip 16 = .ok (.invokespecial 89, 3) := by decide +kernel
theorem dX6_skip_19 : decode cX6_skip 19 = .ok (.athrow, 1) := by decide +kernel
theorem dX6_skip_20 : decode cX6_skip 20 = .ok (.aload_n 0, 1) := by decide +kernel
theorem dX6_skip_21 : decode cX6_skip 21 = .ok (.getfield 22, 3) := by decide +kernel
theorem dX6_skip_24 : decode cX6_skip 24 = .ok (.aload_n 0, 1) := by decide +kernel
theorem dX6_skip_25 : decode cX6_skip 25 = .ok (.getfield 12, 3) := by decide +kernel
theorem dX6_skip_28 : decode cX6_skip 28 = .ok (.invokevirtual 58, 3) := by decide +kernel
theorem dX6_skip_31 : decode cX6_skip 31 = .ok (.aload_n 0, 1) := by decide +kernel
theorem dX6_skip_32 : decode cX6_skip 32 = .ok (.getfield 12, 3) := by decide +kernel
theorem dX6_skip_35 : decode cX6_skip 35 = .ok (.aload_n 0, 1) := by decide +kernel
theorem dX6_skip_36 : decode cX6_skip 36 = .ok (.getfield 12, 3) := by decide +kernel
theorem dX6_skip_39 : decode cX6_skip 39 = .ok (.getfield 143, 3) := by decide +kernel
theorem dX6_skip_42 : decode cX6_skip 42 = .ok (.ifCond .ne 7, 3) := by decide +kernel
theorem dX6_skip_45 : decode cX6_skip 45 = .ok (.iconst 1, 1) := by decide +kernel
theorem dX6_skip_46 : decode cX6_skip 46 = .ok (.goto 4, 3) := by decide +kernel
theorem dX6_skip_49 : decode cX6_skip 49 = .ok (.iconst 0, 1) := by decide +kernel
theorem dX6_skip_50 : decode cX6_skip 50 = .ok (.putfield 143, 3) := by decide +kernel
theorem dX6_skip_53 : decode cX6_skip 53 = .ok (.aload_n 0, 1) := by decide +kernel
theorem dX6_skip_54 : decode cX6_skip 54 = .ok (.getfield 12, 3) := by decide +kernel
theorem dX6_skip_57 : decode cX6_skip 57 = .ok (.invokevirtual 147, 3) := by decide +kernel
theorem dX6_skip_60 : decode cX6_skip 60 = .ok (.aload_n 0, 1) := by decide +kernel
theorem dX6_skip_61 : decode cX6_skip 61 = .ok (.getfield 12, 3) := by decide +kernel
theorem dX6_skip_64 : decode cX6_skip 64 = .ok (.invokevirtual 150, 3) := by decide +kernel
theorem dX6_skip_67 : decode cX6_skip 67 = .ok (.ireturn, 1) := by decide +kernel
set_option maxRecDepth 20000 in
theorem ggX6_play_X6_isRule : GoodIn wsX6_play wsX6_isRule := goodIn_r _ [10] (by decide +kernel) (by decide +kernel)
set_option maxRecDepth 20000 in
theorem gX6_play_X6_isRule : GoodIn wsX6_play (va_wsS RX6 153 yX6_isRule wsX6_isRule) := goodIn_app (goodIn_of _ (by decide +kernel)) ggX6_play_X6_isRule
set_option maxRecDepth 20000 in
theorem ggX6_play_X4_winner : GoodIn wsX6_play wsX4_winner := goodIn_r _ [15, 16, 17, 18, 19, 20, 21, 22, 23, 24, 25, 26, 27, 28, 29, 30, 31, 32, 33, 34, 35, 36, 37, 237, 238, 239, 240, 241, 242, 243, 244, 245, 246, 247, 248, 249, 250, 251, 252] (by decide +kernel) (by decide +kernel)
set_option maxRecDepth 20000 in
theorem gX6_play_X4_winner : GoodIn wsX6_play (wsV RX6 126 RX4 yX4_winner wsX4_winner) := goodIn_app (goodIn_of _ (by decide +kernel)) ggX6_play_X4_winner
set_option maxRecDepth 20000 in
theorem ggX6_play_X0_save : GoodIn wsX6_play wsX0_save := goodIn_r _ [42, 43, 44, 45, 46, 14, 47, 48, 49, 41, 50, 51, 52, 53, 54, 55, 56, 57, 23, 16, 58, 17, 18, 59, 60, 61, 62, 63, 64, 65, 66, 67, 68, 29, 28, 30, 25, 26, 27, 69, 70, 71, 72, 73, 74, 75, 76, 77, 78, 79, 80, 253, 254, 237, 238, 239, 240, 241, 242, 243, 244, 245, 246, 247, 248, 249, 250, 251, 252] (by decide +kernel) (by decide +kernel)
set_option maxRecDepth 20000 in
theorem gX6_play_X0_save : GoodIn wsX6_play (wsV RX6 58 RX0 yX0_save wsX0_save) := goodIn_app (goodIn_of _ (by decide +kernel)) ggX6_play_X0_save
set_option maxRecDepth 20000 in
theorem ggX6_play_X6_goOn : GoodIn wsX6_play wsX6_goOn := goodIn_r _ [84, 85, 86, 11, 12, 13, 14, 15, 16, 17, 18, 19, 20, 21, 22, 23, 24, 25, 26, 27, 28, 29, 30, 31, 32, 33, 34, 35, 36, 37, 87, 88, 89, 9, 90, 91, 92, 93, 94, 95, 96, 97, 98, 99, 100, 58, 101, 102, 103, 104, 105, 106, 107, 108, 109, 110, 111, 112, 113, 114, 115, 116, 117, 118, 119, 120, 121, 122, 123, 124, 125, 126, 127, 78, 79, 80, 128, 129, 130, 131, 132, 133, 134, 135, 136, 137, 138, 139, 140, 141, 142, 143, 144, 145, 146, 147, 148, 149, 150, 151, 152, 153, 154, 155, 156, 157, 158, 159, 160, 161, 162, 163, 164, 165, 166, 167, 168, 169, 170, 171, 172, 173, 174, 175, 176, 177, 178, 179, 180, 181, 182, 183, 184, 185, 186, 187, 188, 189, 190, 191, 192, 193, 194, 195, 196, 197, 198, 199, 200, 201, 202, 203, 204, 205, 206, 207, 208, 209, 210, 211, 212, 213, 214, 215, 216, 217, 218, 219, 220, 221, 222, 223, 224, 225, 226, 227, 228, 59, 60, 61, 62, 63, 64, 229, 237, 238, 239, 240, 241, 242, 243, 244, 245, 246, 230, 231, 232, 233, 234, 235, 236, 247, 248, 249, 250, 251, 252, 255, 256, 257, 258, 259, 260, 261, 262, 263, 264, 265, 266] (by decide +kernel) (by decide +kernel)
set_option maxRecDepth 20000 in
theorem gX6_play_X6_goOn : GoodIn wsX6_play (wsV RX6 158 RX6 yX6_goOn wsX6_goOn) := goodIn_app (goodIn_of _ (by decide +kernel)) ggX6_play_X6_goOn
theorem dX6_play_0 : decode cX6_play 0 = .ok (.iload_n 1, 1) := by decide +kernel
theorem dX6_play_1 : decode cX6_play 1 = .ok (.invokestatic 153, 3) := by decide +kernel
theorem dX6_play_4 : decode cX6_play 4 = .ok (.ifCond .eq 21, 3) := by decide +kernel
theorem dX6_play_7 : decode cX6_play 7 = .ok (.iload_n 2, 1) := by decide +kernel
theorem dX6_play_8 : decode cX6_play 8 = .ok (.invokestatic 153, 3) := by decide +kernel
theorem dX6_play_11 : decode cX6_play 11 = .ok (.ifCond .eq 14, 3) := by decide +kernel
theorem dX6_play_14 : decode cX6_play 14 = .ok (.iload_n 3, 1) := by decide +kernel
theorem dX6_play_15 : decode cX6_play 15 = .ok (.iconst 1, 1) := by decide +kernel
theorem dX6_play_16 : decode cX6_play 16 = .ok (.if_icmp .lt 9, 3) := by decide +kernel
theorem dX6_play_19 : decode cX6_play 19 = .ok (.iload_n 3, 1) := by decide +kernel
theorem dX6_play_20 : decode cX6_play 20 = .ok (.bipush 10, 2) := by decide +kernel
theorem dX6_play_22 : decode cX6_play 22 = .ok (.if_icmp .le 13, 3) := by decide +kernel
theorem dX6_play_25 : decode cX6_play 25 = .ok (.new 51, 3) := by decide +kernel
theorem dX6_play_28 : decode cX6_play 28 = .ok (.dup, 1) := by decide +kernel
theorem dX6_play_29 : decode cX6_play 29 = .ok (.ldc 156, 2) := by decide +kernel
theorem dX6_play_31 : decode cX6_play 31 = .ok (.invokespecial 55, 3) := by decide +kernel
theorem dX6_play_34 : decode cX6_play 34 = .ok (.athrow, 1) := by decide +kernel
theorem dX6_play_35 : decode cX6_play 35 = .ok (.aload_n 0, 1) := by decide +kernel
theorem dX6_play_36 : decode cX6_play 36 = .ok (.getfield 12, 3) := by decide +kernel
theorem dX6_play_39 : decode cX6_play 39 = .ok (.invokevirtual 126, 3) := by decide +kernel
theorem dX6_play_42 : decode cX6_play 42 = .ok (.ifCond .eq 13, 3) := by decide +kernel
theorem dX6_play_45 : decode cX6_play 45 = .ok (.new 85, 3) := by decide +kernel
theorem dX6_play_48 : decode cX6_play 48 = .ok (.dup, 1) := by decide +kernel
theorem dX6_play_49 : decode cX6_play 49 = .ok (.ldc 141, 2) := by decide +kernel
theorem dX6_play_51 : decode cX6_play 51 = .ok (.invokespecial 89, 3) := by decide +kernel
theorem dX6_play_54 : decode cX6_play 54 = .ok (.athrow, 1) := by decide +kernel
theorem dX6_play_55 : decode cX6_play 55 = .ok (.aload_n 0, 1) := by decide +kernel
theorem dX6_play_56 : decode cX6_play 56 = .ok (.getfield 22, 3) := by decide +kernel
theorem dX6_play_59 : decode cX6_play 59 = .ok (.aload_n 0, 1) := by decide +kernel
theorem dX6_play_60 : decode cX6_play 60 = .ok (.getfield 12, 3) := by decide +kernel
theorem dX6_play_63 : decode cX6_play 63 = .ok (.invokevirtual 58, 3) := by decide +kernel
theorem dX6_play_66 : decode cX6_play 66 = .ok (.aload_n 0, 1) := by decide +kernel
theorem dX6_play_67 : decode cX6_play 67 = .ok (.aload_n 0, 1) := by decide +kernel
theorem dX6_play_68 : decode cX6_play 68 = .ok (.getfield 12, 3) := by decide +kernel
theorem dX6_play_71 : decode cX6_play 71 = .ok (.iload_n 1, 1) := by decide +kernel
theorem dX6_play_72 : decode cX6_play 72 = .ok (.iload_n 2, 1) := by decide +kernel
theorem dX6_play_73 : decode cX6_play 73 = .ok (.iload_n 3, 1) := by decide +kernel
theorem dX6_play_74 : decode cX6_play 74 = .ok (.invokevirtual 158, 3) := by decide +kernel
theorem dX6_play_77 : decode cX6_play 77 = .ok (.ireturn, 1) := by decide +kernel
set_option maxRecDepth 20000 in
theorem ggX6_line_X1_has : GoodIn wsX6_line wsX1_has := goodIn_r _ [13, 14, 15, 56, 57, 58, 59, 60, 61] (by decide +kernel) (by decide +kernel)
set_option maxRecDepth 20000 in
theorem gX6_line_X1_has : GoodIn wsX6_line (wsV RX6 94 RX1 yX1_has wsX1_has) := goodIn_app (goodIn_of _ (by decide +kernel)) ggX6_line_X1_has
set_option maxRecDepth 20000 in
theorem ggX6_line_X1_maskOf : GoodIn wsX6_line wsX1_maskOf := goodIn_r _ [19, 14, 15, 56, 57, 58, 59, 60, 61] (by decide +kernel) (by decide +kernel)
set_option maxRecDepth 20000 in
theorem gX6_line_X1_maskOf : GoodIn wsX6_line (wsV RX6 103 RX1 yX1_maskOf wsX1_maskOf) := goodIn_app (goodIn_of _ (by decide +kernel)) ggX6_line_X1_maskOf
set_option maxRecDepth 20000 in
theorem ggX6_line_X4_freeCells : GoodIn wsX6_line wsX4_freeCells := goodIn_r _ [24, 25, 26, 27, 28, 29, 23, 30, 31, 46, 47, 48, 49, 50, 51, 52, 53, 54, 55] (by decide +kernel) (by decide +kernel)
set_option maxRecDepth 20000 in
theorem gX6_line_X4_freeCells : GoodIn wsX6_line (wsV RX6 203 RX4 yX4_freeCells wsX4_freeCells) := goodIn_app (goodIn_of _ (by decide +kernel)) ggX6_line_X4_freeCells
set_option maxRecDepth 20000 in
theorem ggX6_line_J6_bitCount_0f7a4 : GoodIn wsX6_line wsJ6_bitCount_0f7a4 := goodIn_r _ [35, 36, 37, 38] (by decide +kernel) (by decide +kernel)
set_option maxRecDepth 20000 in
theorem gX6_line_J6_bitCount_0f7a4 : GoodIn wsX6_line (va_wsS RX6 116 yJ6_bitCount_0f7a4 wsJ6_bitCount_0f7a4) := goodIn_app (goodIn_of _ (by decide +kernel)) ggX6_line_J6_bitCount_0f7a4
theorem dX6_line_0 : decode cX6_line 0 = .ok (.aload_n 0, 1) := by decide +kernel
theorem dX6_line_1 : decode cX6_line 1 = .ok (.getfield 12, 3) := by decide +kernel
theorem dX6_line_4 : decode cX6_line 4 = .ok (.getfield 66, 3) := by decide +kernel
theorem dX6_line_7 : decode cX6_line 7 = .ok (.iload_n 1, 1) := by decide +kernel
theorem dX6_line_8 : decode cX6_line 8 = .ok (.invokevirtual 94, 3) := by decide +kernel
theorem dX6_line_11 : decode cX6_line 11 = .ok (.ifCond .ne 13, 3) := by decide +kernel
theorem dX6_line_14 : decode cX6_line 14 = .ok (.new 98, 3) := by decide +kernel
theorem dX6_line_17 : decode cX6_line 17 = .ok (.dup, 1) := by decide +kernel
theorem dX6_line_18 : decode cX6_line 18 = .ok (.ldc 100, 2) := by decide +kernel
theorem dX6_line_20 : decode cX6_line 20 = .ok (.invokespecial 102, 3) := by decide +kernel
theorem dX6_line_23 : decode cX6_line 23 = .ok (.athrow, 1) := by decide +kernel
theorem dX6_line_24 : decode cX6_line 24 = .ok (.iload_n 2, 1) := by decide +kernel
theorem dX6_line_25 : decode cX6_line 25 = .ok (.ifCond .lt 8, 3) := by decide +kernel
theorem dX6_line_28 : decode cX6_line 28 = .ok (.iload_n 2, 1) := by decide +kernel
theorem dX6_line_29 : decode cX6_line 29 = .ok (.iconst 5, 1) := by decide +kernel
theorem dX6_line_30 : decode cX6_line 30 = .ok (.if_icmp .lt 13, 3) := by decide +kernel
theorem dX6_line_33 : decode cX6_line 33 = .ok (.new 51, 3) := by decide +kernel
theorem dX6_line_36 : decode cX6_line 36 = .ok (.dup, 1) := by decide +kernel
theorem dX6_line_37 : decode cX6_line 37 = .ok (.ldc 201, 2) := by decide +kernel
theorem dX6_line_39 : decode cX6_line 39 = .ok (.invokespecial 55, 3) := by decide +kernel
theorem dX6_line_42 : decode cX6_line 42 = .ok (.athrow, 1) := by decide +kernel
theorem dX6_line_43 : decode cX6_line 43 = .ok (.aload_n 0, 1) := by decide +kernel
theorem dX6_line_44 : decode cX6_line 44 = .ok (.getfield 12, 3) := by decide +kernel
theorem dX6_line_47 : decode cX6_line 47 = .ok (.getfield 66, 3) := by decide +kernel
theorem dX6_line_50 : decode cX6_line 50 = .ok (.iload_n 1, 1) := by decide +kernel
theorem dX6_line_51 : decode cX6_line 51 = .ok (.invokevirtual 103, 3) := by decide +kernel
theorem dX6_line_54 : decode cX6_line 54 = .ok (.istore_n 3, 1) := by decide +kernel
theorem dX6_line_55 : decode cX6_line 55 = .ok (.iload_n 3, 1) := by decide +kernel
theorem dX6_line_56 : decode cX6_line 56 = .ok (.aload_n 0, 1) := by decide +kernel
theorem dX6_line_57 : decode cX6_line 57 = .ok (.getfield 12, 3) := by decide +kernel
theorem dX6_line_60 : decode cX6_line 60 = .ok (.getfield 113, 3) := by decide +kernel
theorem dX6_line_63 : decode cX6_line 63 = .ok (.iand, 1) := by decide +kernel
theorem dX6_line_64 : decode cX6_line 64 = .ok (.ifCond .eq 7, 3) := by decide +kernel
theorem dX6_line_67 : decode cX6_line 67 = .ok (.iconst 1, 1) := by decide +kernel
theorem dX6_line_68 : decode cX6_line 68 = .ok (.goto 4, 3) := by decide +kernel
theorem dX6_line_71 : decode cX6_line 71 = .ok (.iconst 0, 1) := by decide +kernel
theorem dX6_line_72 : decode cX6_line 72 = .ok (.istore 4, 2) := by decide +kernel
theorem dX6_line_74 : decode cX6_line 74 = .ok (.iload_n 3, 1) := by decide +kernel
theorem dX6_line_75 : decode cX6_line 75 = .ok (.aload_n 0, 1) := by decide +kernel
theorem dX6_line_76 : decode cX6_line 76 = .ok (.getfield 12, 3) := by decide +kernel
theorem dX6_line_79 : decode cX6_line 79 = .ok (.invokevirtual 203, 3) := by decide +kernel
theorem dX6_line_82 : decode cX6_line 82 = .ok (.iand, 1) := by decide +kernel
theorem dX6_line_83 : decode cX6_line 83 = .ok (.invokestatic 116, 3) := by decide +kernel
theorem dX6_line_86 : decode cX6_line 86 = .ok (.istore 5, 2) := by decide +kernel
theorem dX6_line_88 : decode cX6_line 88 = .ok (.iload_n 2, 1) := by decide +kernel
theorem dX6_line_89 : decode cX6_line 89 = .ok (.tableswitch 63 0 3 #[31, 33, 44, 47], 31) := by decide +kernel
theorem dX6_line_120 : decode cX6_line 120 = .ok (.iload_n 3, 1) := by decide +kernel
theorem dX6_line_121 : decode cX6_line 121 = .ok (.ireturn, 1) := by decide +kernel
theorem dX6_line_122 : decode cX6_line 122 = .ok (.iload 4, 2) := by decide +kernel
theorem dX6_line_124 : decode cX6_line 124 = .ok (.ifCond .eq 7, 3) := by decide +kernel
theorem dX6_line_127 : decode cX6_line 127 = .ok (.iconst 1, 1) := by decide +kernel
theorem dX6_line_128 : decode cX6_line 128 = .ok (.goto 4, 3) := by decide +kernel
theorem dX6_line_131 : decode cX6_line 131 = .ok (.iconst 0, 1) := by decide +kernel
theorem dX6_line_132 : decode cX6_line 132 = .ok (.ireturn, 1) := by decide +kernel
theorem dX6_line_133 : decode cX6_line 133 = .ok (.iload 5, 2) := by decide +kernel
theorem dX6_line_135 : decode cX6_line 135 = .ok (.ireturn, 1) := by decide +kernel
theorem dX6_line_136 : decode cX6_line 136 = .ok (.iload 4, 2) := by decide +kernel
theorem dX6_line_138 : decode cX6_line 138 = .ok (.ifCond .eq 7, 3) := by decide +kernel
theorem dX6_line_141 : decode cX6_line 141 = .ok (.iconst 0, 1) := by decide +kernel
theorem dX6_line_142 : decode cX6_line 142 = .ok (.goto 9, 3) := by decide +kernel
theorem dX6_line_145 : decode cX6_line 145 = .ok (.sipush 1024, 3) := by decide +kernel
theorem dX6_line_148 : decode cX6_line 148 = .ok (.iload 5, 2) := by decide +kernel
theorem dX6_line_150 : decode cX6_line 150 = .ok (.ishr, 1) := by decide +kernel
theorem dX6_line_151 : decode cX6_line 151 = .ok (.ireturn, 1) := by decide +kernel
theorem dX6_line_152 : decode cX6_line 152 = .ok (.iload_n 3, 1) := by decide +kernel
theorem dX6_line_153 : decode cX6_line 153 = .ok (.aload_n 0, 1) := by decide +kernel
theorem dX6_line_154 : decode cX6_line 154 = .ok (.getfield 12, 3) := by decide +kernel
theorem dX6_line_157 : decode cX6_line 157 = .ok (.getfield 110, 3) := by decide +kernel
theorem dX6_line_160 : decode cX6_line 160 = .ok (.iand, 1) := by decide +kernel
theorem dX6_line_161 : decode cX6_line 161 = .ok (.invokestatic 116, 3) := by decide +kernel
theorem dX6_line_164 : decode cX6_line 164 = .ok (.ireturn, 1) := by decide +kernel
set_option maxRecDepth 20000 in
theorem ggX6_cell_X4_hasCell : GoodIn wsX6_cell wsX4_hasCell := goodIn_r _ [12, 13, 121, 122, 123, 124, 125, 126, 127, 128, 129, 130] (by decide +kernel) (by decide +kernel)
set_option maxRecDepth 20000 in
theorem gX6_cell_X4_hasCell : GoodIn wsX6_cell (wsV RX6 121 RX4 yX4_hasCell wsX4_hasCell) := goodIn_app (goodIn_of _ (by decide +kernel)) ggX6_cell_X4_hasCell
set_option maxRecDepth 20000 in
theorem ggX6_cell_X4_ownerOf : GoodIn wsX6_cell wsX4_ownerOf := goodIn_r _ [17, 18, 19, 20, 21, 11, 22, 23, 24, 25, 26, 27, 28, 29, 30, 31, 13, 121, 122, 123, 124, 125, 126, 127, 128, 129, 130] (by decide +kernel) (by decide +kernel)
set_option maxRecDepth 20000 in
theorem gX6_cell_X4_ownerOf : GoodIn wsX6_cell (wsV RX6 208 RX4 yX4_ownerOf wsX4_ownerOf) := goodIn_app (goodIn_of _ (by decide +kernel)) ggX6_cell_X4_ownerOf
set_option maxRecDepth 20000 in
theorem ggX6_cell_X4_dangerOf : GoodIn wsX6_cell wsX4_dangerOf := goodIn_r _ [35, 36, 18, 27, 19, 20, 21, 11, 22, 23, 24, 25, 26, 28, 29, 30, 31, 13, 37, 38, 39, 40, 41, 42, 43, 44, 45, 46, 47, 48, 49, 50, 121, 122, 123, 124, 125, 126, 127, 128, 129, 130, 131, 132, 133, 134, 135, 136] (by decide +kernel) (by decide +kernel)
set_option maxRecDepth 20000 in
theorem gX6_cell_X4_dangerOf : GoodIn wsX6_cell (wsV RX6 211 RX4 yX4_dangerOf wsX4_dangerOf) := goodIn_app (goodIn_of _ (by decide +kernel)) ggX6_cell_X4_dangerOf
set_option maxRecDepth 20000 in
theorem ggX6_cell_X6_otherInPairing : GoodIn wsX6_cell wsX6_otherInPairing := goodIn_r _ [55, 56, 5, 57, 58, 59, 60, 61, 62, 63, 64, 65, 66, 67, 68, 69, 70, 71, 72, 40, 73, 42, 43, 74, 75, 76, 77, 78, 79, 80, 81, 82, 83, 84, 85, 86, 87, 88, 89, 90, 91, 92, 93, 94, 95, 96, 97, 98, 99, 45, 46, 47, 48, 49, 50, 100, 101, 102, 103, 104, 105, 106, 107, 108, 54, 109, 114, 115, 116, 117, 118, 119, 120, 137, 138, 139, 140, 141, 142, 121, 122, 123, 124, 125, 126, 127, 128, 129, 130, 131, 132, 133, 134, 135, 136] (by decide +kernel) (by decide +kernel)
set_option maxRecDepth 20000 in
theorem gX6_cell_X6_otherInPairing : GoodIn wsX6_cell (wsV RX6 134 RX6 yX6_otherInPairing wsX6_otherInPairing) := goodIn_app (goodIn_of _ (by decide +kernel)) ggX6_cell_X6_otherInPairing
set_option maxRecDepth 20000 in
theorem ggX6_cell_X1_aliveWith : GoodIn wsX6_cell wsX1_aliveWith := goodIn_r _ [113, 42, 43, 131, 132, 133, 134, 135, 136] (by decide +kernel) (by decide +kernel)
set_option maxRecDepth 20000 in
theorem gX6_cell_X1_aliveWith : GoodIn wsX6_cell (wsV RX6 214 RX1 yX1_aliveWith wsX1_aliveWith) := goodIn_app (goodIn_of _ (by decide +kernel)) ggX6_cell_X1_aliveWith
theorem dX6_cell_0 : decode cX6_cell 0 = .ok (.aload_n 0, 1) := by decide +kernel
theorem dX6_cell_1 : decode cX6_cell 1 = .ok (.getfield 12, 3) := by decide +kernel
theorem dX6_cell_4 : decode cX6_cell 4 = .ok (.iload_n 1, 1) := by decide +kernel
theorem dX6_cell_5 : decode cX6_cell 5 = .ok (.invokevirtual 121, 3) := by decide +kernel
theorem dX6_cell_8 : decode cX6_cell 8 = .ok (.ifCond .ne 13, 3) := by decide +kernel
theorem dX6_cell_11 : decode cX6_cell 11 = .ok (.new 98, 3) := by decide +kernel
theorem dX6_cell_14 : decode cX6_cell 14 = .ok (.dup, 1) := by decide +kernel
theorem dX6_cell_15 : decode cX6_cell 15 = .ok (.ldc 124, 2) := by decide +kernel
theorem dX6_cell_17 : decode cX6_cell 17 = .ok (.invokespecial 102, 3) := by decide +kernel
theorem dX6_cell_20 : decode cX6_cell 20 = .ok (.athrow, 1) := by decide +kernel
theorem dX6_cell_21 : decode cX6_cell 21 = .ok (.iload_n 2, 1) := by decide +kernel
theorem dX6_cell_22 : decode cX6_cell 22 = .ok (.ifCond .lt 8, 3) := by decide +kernel
theorem dX6_cell_25 : decode cX6_cell 25 = .ok (.iload_n 2, 1) := by decide +kernel
theorem dX6_cell_26 : decode cX6_cell 26 = .ok (.iconst 4, 1) := by decide +kernel
theorem dX6_cell_27 : decode cX6_cell 27 = .ok (.if_icmp .lt 13, 3) := by decide +kernel
theorem dX6_cell_30 : decode cX6_cell 30 = .ok (.new 51, 3) := by decide +kernel
theorem dX6_cell_33 : decode cX6_cell 33 = .ok (.dup, 1) := by decide +kernel
theorem dX6_cell_34 : decode cX6_cell 34 = .ok (.ldc 206, 2) := by decide +kernel
theorem dX6_cell_36 : decode cX6_cell 36 = .ok (.invokespecial 55, 3) := by decide +kernel
theorem dX6_cell_39 : decode cX6_cell 39 = .ok (.athrow, 1) := by decide +kernel
theorem dX6_cell_40 : decode cX6_cell 40 = .ok (.iload_n 2, 1) := by decide +kernel
theorem dX6_cell_41 : decode cX6_cell 41 = .ok (.tableswitch 51 0 2 #[27, 36, 45], 27) := by decide +kernel
theorem dX6_cell_68 : decode cX6_cell 68 = .ok (.aload_n 0, 1) := by decide +kernel
theorem dX6_cell_69 : decode cX6_cell 69 = .ok (.getfield 12, 3) := by decide +kernel
theorem dX6_cell_72 : decode cX6_cell 72 = .ok (.iload_n 1, 1) := by decide +kernel
theorem dX6_cell_73 : decode cX6_cell 73 = .ok (.invokevirtual 208, 3) := by decide +kernel
theorem dX6_cell_76 : decode cX6_cell 76 = .ok (.ireturn, 1) := by decide +kernel
theorem dX6_cell_77 : decode cX6_cell 77 = .ok (.aload_n 0, 1) := by decide +kernel
theorem dX6_cell_78 : decode cX6_cell 78 = .ok (.getfield 12, 3) := by decide +kernel
theorem dX6_cell_81 : decode cX6_cell 81 = .ok (.iload_n 1, 1) := by decide +kernel
theorem dX6_cell_82 : decode cX6_cell 82 = .ok (.invokevirtual 211, 3) := by decide +kernel
theorem dX6_cell_85 : decode cX6_cell 85 = .ok (.ireturn, 1) := by decide +kernel
theorem dX6_cell_86 : decode cX6_cell 86 = .ok (.aload_n 0, 1) := by decide +kernel
theorem dX6_cell_87 : decode cX6_cell 87 = .ok (.iload_n 1, 1) := by decide +kernel
theorem dX6_cell_88 : decode cX6_cell 88 = .ok (.invokevirtual 134, 3) := by decide +kernel
theorem dX6_cell_91 : decode cX6_cell 91 = .ok (.ireturn, 1) := by decide +kernel
theorem dX6_cell_92 : decode cX6_cell 92 = .ok (.aload_n 0, 1) := by decide +kernel
theorem dX6_cell_93 : decode cX6_cell 93 = .ok (.getfield 12, 3) := by decide +kernel
theorem dX6_cell_96 : decode cX6_cell 96 = .ok (.getfield 66, 3) := by decide +kernel
theorem dX6_cell_99 : decode cX6_cell 99 = .ok (.iload_n 1, 1) := by decide +kernel
theorem dX6_cell_100 : decode cX6_cell 100 = .ok (.aload_n 0, 1) := by decide +kernel
theorem dX6_cell_101 : decode cX6_cell 101 = .ok (.getfield 12, 3) := by decide +kernel
theorem dX6_cell_104 : decode cX6_cell 104 = .ok (.getfield 113, 3) := by decide +kernel
theorem dX6_cell_107 : decode cX6_cell 107 = .ok (.invokevirtual 214, 3) := by decide +kernel
theorem dX6_cell_110 : decode cX6_cell 110 = .ok (.ireturn, 1) := by decide +kernel
set_option maxRecDepth 20000 in
theorem ggX6_reply_X6_isRule : GoodIn wsX6_reply wsX6_isRule := goodIn_r _ [7] (by decide +kernel) (by decide +kernel)
set_option maxRecDepth 20000 in
theorem gX6_reply_X6_isRule : GoodIn wsX6_reply (va_wsS RX6 153 yX6_isRule wsX6_isRule) := goodIn_app (goodIn_of _ (by decide +kernel)) ggX6_reply_X6_isRule
set_option maxRecDepth 20000 in
theorem ggX6_reply_X4_winner : GoodIn wsX6_reply wsX4_winner := goodIn_r _ [12, 13, 14, 15, 16, 17, 18, 19, 20, 21, 22, 23, 24, 25, 26, 27, 28, 29, 30, 31, 32, 33, 34, 139, 140, 141, 142, 143, 144, 145, 146, 147, 148, 149, 150, 151, 152, 153, 154] (by decide +kernel) (by decide +kernel)
set_option maxRecDepth 20000 in
theorem gX6_reply_X4_winner : GoodIn wsX6_reply (wsV RX6 126 RX4 yX4_winner wsX4_winner) := goodIn_app (goodIn_of _ (by decide +kernel)) ggX6_reply_X4_winner
set_option maxRecDepth 20000 in
theorem ggX6_reply_X6_cellBy : GoodIn wsX6_reply wsX6_cellBy := goodIn_r _ [38, 39, 40, 41, 42, 43, 11, 44, 14, 15, 45, 46, 47, 48, 49, 50, 51, 6, 52, 53, 54, 55, 56, 57, 58, 59, 60, 61, 62, 63, 64, 65, 66, 67, 68, 69, 70, 29, 30, 31, 32, 33, 34, 71, 72, 73, 74, 20, 75, 25, 26, 76, 77, 78, 79, 80, 81, 82, 83, 84, 85, 86, 87, 88, 89, 90, 91, 92, 93, 94, 95, 96, 18, 19, 21, 22, 23, 24, 27, 28, 97, 98, 99, 100, 101, 102, 103, 104, 105, 106, 107, 108, 109, 110, 111, 112, 113, 114, 115, 116, 117, 118, 119, 120, 121, 13, 122, 17, 123, 124, 125, 126, 127, 128, 129, 130, 131, 132, 133, 134, 135, 136, 137, 138, 139, 140, 141, 142, 143, 144, 145, 146, 147, 148, 155, 156, 157, 158, 159, 160, 149, 150, 151, 152, 153, 154] (by decide +kernel) (by decide +kernel)
set_option maxRecDepth 20000 in
theorem gX6_reply_X6_cellBy : GoodIn wsX6_reply (wsV RX6 220 RX6 yX6_cellBy wsX6_cellBy) := goodIn_app (goodIn_of _ (by decide +kernel)) ggX6_reply_X6_cellBy
theorem dX6_reply_0 : decode cX6_reply 0 = .ok (.iload_n 1, 1) := by decide +kernel
theorem dX6_reply_1 : decode cX6_reply 1 = .ok (.invokestatic 153, 3) := by decide +kernel
theorem dX6_reply_4 : decode cX6_reply 4 = .ok (.ifCond .ne 13, 3) := by decide +kernel
theorem dX6_reply_7 : decode cX6_reply 7 = .ok (.new 51, 3) := by decide +kernel
theorem dX6_reply_10 : decode cX6_reply 10 = .ok (.dup, 1) := by decide +kernel
theorem dX6_reply_11 : decode cX6_reply 11 = .ok (.ldc 218, 2) := by decide +kernel
theorem dX6_reply_13 : decode cX6_reply 13 = .ok (.invokespecial 55, 3) := by decide +kernel
theorem dX6_reply_16 : decode cX6_reply 16 = .ok (.athrow, 1) := by decide +kernel
theorem dX6_reply_17 : decode cX6_reply 17 = .ok (.aload_n 0, 1) := by decide +kernel
theorem dX6_reply_18 : decode cX6_reply 18 = .ok (.getfield 12, 3) := by decide +kernel
theorem dX6_reply_21 : decode cX6_reply 21 = .ok (.invokevirtual 126, 3) := by decide +kernel
theorem dX6_reply_24 : decode cX6_reply 24 = .ok (.ifCond .ne 15, 3) := by decide +kernel
theorem dX6_reply_27 : decode cX6_reply 27 = .ok (.aload_n 0, 1) := by decide +kernel
theorem dX6_reply_28 : decode cX6_reply 28 = .ok (.iload_n 1, 1) := by decide +kernel
theorem dX6_reply_29 : decode cX6_reply 29 = .ok (.aload_n 0, 1) := by decide +kernel
theorem dX6_reply_30 : decode cX6_reply 30 = .ok (.getfield 12, 3) := by decide +kernel
theorem dX6_reply_33 : decode cX6_reply 33 = .ok (.invokevirtual 220, 3) := by decide +kernel
theorem dX6_reply_36 : decode cX6_reply 36 = .ok (.goto 4, 3) := by decide +kernel
theorem dX6_reply_39 : decode cX6_reply 39 = .ok (.iconst (-1), 1) := by decide +kernel
theorem dX6_reply_40 : decode cX6_reply 40 = .ok (.ireturn, 1) := by decide +kernel
set_option maxRecDepth 20000 in
theorem ggX6_ifMoved_X4_hasCell : GoodIn wsX6_ifMoved wsX4_hasCell := goodIn_r _ [10, 11, 134, 135, 136, 137, 138, 139, 140, 141, 142, 143] (by decide +kernel) (by decide +kernel)
set_option maxRecDepth 20000 in
theorem gX6_ifMoved_X4_hasCell : GoodIn wsX6_ifMoved (wsV RX6 121 RX4 yX4_hasCell wsX4_hasCell) := goodIn_app (goodIn_of _ (by decide +kernel)) ggX6_ifMoved_X4_hasCell
set_option maxRecDepth 20000 in
theorem ggX6_ifMoved_X4_winner : GoodIn wsX6_ifMoved wsX4_winner := goodIn_r _ [15, 16, 17, 18, 19, 20, 21, 22, 23, 24, 25, 26, 27, 28, 29, 30, 31, 32, 33, 34, 35, 36, 37, 134, 135, 136, 137, 138, 139, 140, 141, 142, 143, 144, 145, 146, 147, 148, 149] (by decide +kernel) (by decide +kernel)
set_option maxRecDepth 20000 in
theorem gX6_ifMoved_X4_winner : GoodIn wsX6_ifMoved (wsV RX6 126 RX4 yX4_winner wsX4_winner) := goodIn_app (goodIn_of _ (by decide +kernel)) ggX6_ifMoved_X4_winner
set_option maxRecDepth 20000 in
theorem ggX6_ifMoved_X4_isFree : GoodIn wsX6_ifMoved wsX4_isFree := goodIn_r _ [41, 42, 43, 44, 9, 45, 17, 18, 46, 47, 48, 49, 11, 134, 135, 136, 137, 138, 139, 140, 141, 142, 143] (by decide +kernel) (by decide +kernel)
set_option maxRecDepth 20000 in
theorem gX6_ifMoved_X4_isFree : GoodIn wsX6_ifMoved (wsV RX6 129 RX4 yX4_isFree wsX4_isFree) := goodIn_app (goodIn_of _ (by decide +kernel)) ggX6_ifMoved_X4_isFree
set_option maxRecDepth 20000 in
theorem ggX6_ifMoved_X4_copyBoard : GoodIn wsX6_ifMoved wsX4_copyBoard := goodIn_r _ [53, 16, 11, 17, 18, 54, 55, 56, 57, 58, 59, 23, 60, 28, 29, 134, 135, 136, 137, 138, 139, 140, 141, 142, 143, 144, 145, 146, 147, 148, 149] (by decide +kernel) (by decide +kernel)
set_option maxRecDepth 20000 in
theorem gX6_ifMoved_X4_copyBoard : GoodIn wsX6_ifMoved (wsV RX6 190 RX4 yX4_copyBoard wsX4_copyBoard) := goodIn_app (goodIn_of _ (by decide +kernel)) ggX6_ifMoved_X4_copyBoard
set_option maxRecDepth 20000 in
theorem ggX6_ifMoved_X4_occupy : GoodIn wsX6_ifMoved wsX4_occupy := goodIn_r _ [64, 54, 17, 18, 55, 56, 65, 66, 67, 68, 13, 14, 9, 15, 16, 19, 20, 21, 22, 23, 24, 25, 26, 27, 28, 29, 30, 31, 32, 33, 34, 35, 36, 37, 134, 135, 136, 137, 138, 139, 140, 141, 142, 143, 144, 145, 146, 147, 148, 149] (by decide +kernel) (by decide +kernel)
set_option maxRecDepth 20000 in
theorem gX6_ifMoved_X4_occupy : GoodIn wsX6_ifMoved (wsV RX6 137 RX4 yX4_occupy wsX4_occupy) := goodIn_app (goodIn_of _ (by decide +kernel)) ggX6_ifMoved_X4_occupy
set_option maxRecDepth 20000 in
theorem ggX6_ifMoved_X3_lengthOf : GoodIn wsX6_ifMoved wsX3_lengthOf := goodIn_r _ [73, 74, 75, 76, 77, 78, 79, 72, 80, 81, 82, 83, 84, 85, 86, 32, 33, 34, 35, 36, 37, 87, 47, 48, 9, 49, 11, 88, 89, 90, 23, 91, 28, 29, 92, 58, 59, 60, 93, 94, 95, 96, 97, 98, 99, 100, 101, 102, 103, 104, 105, 106, 107, 108, 21, 22, 24, 25, 26, 27, 30, 31, 109, 110, 111, 112, 113, 114, 115, 116, 117, 118, 119, 120, 121, 122, 123, 124, 125, 126, 134, 135, 136, 137, 138, 139, 140, 141, 142, 143, 150, 151, 152, 153, 154, 155, 144, 145, 146, 147, 148, 149] (by decide +kernel) (by decide +kernel)
set_option maxRecDepth 20000 in
theorem gX6_ifMoved_X3_lengthOf : GoodIn wsX6_ifMoved (wsV RX6 226 RX3 yX3_lengthOf wsX3_lengthOf) := goodIn_app (goodIn_of _ (by decide +kernel)) ggX6_ifMoved_X3_lengthOf
theorem dX6_ifMoved_0 : decode cX6_ifMoved 0 = .ok (.aload_n 0, 1) := by decide +kernel
theorem dX6_ifMoved_1 : decode cX6_ifMoved 1 = .ok (.getfield 12, 3) := by decide +kernel
theorem dX6_ifMoved_4 : decode cX6_ifMoved 4 = .ok (.iload_n 1, 1) := by decide +kernel
theorem dX6_ifMoved_5 : decode cX6_ifMoved 5 = .ok (.invokevirtual 121, 3) := by decide +kernel
theorem dX6_ifMoved_8 : decode cX6_ifMoved 8 = .ok (.ifCond .ne 13, 3) := by decide +kernel
theorem dX6_ifMoved_11 : decode cX6_ifMoved 11 = .ok (.new 98, 3) := by decide +kernel
theorem dX6_ifMoved_14 : decode cX6_ifMoved 14 = .ok (.dup, 1) := by decide +kernel
theorem dX6_ifMoved_15 : decode cX6_ifMoved 15 = .ok (.ldc 124, 2) := by decide +kernel
theorem dX6_ifMoved_17 : decode cX6_ifMoved 17 = .ok (.invokespecial 102, 3) := by decide +kernel
theorem dX6_ifMoved_20 : decode cX6_ifMoved 20 = .ok (.athrow, 1) := by decide +kernel
theorem dX6_ifMoved_21 : decode cX6_ifMoved 21 = .ok (.aload_n 0, 1) := by decide +kernel
theorem dX6_ifMoved_22 : decode cX6_ifMoved 22 = .ok (.getfield 12, 3) := by decide +kernel
theorem dX6_ifMoved_25 : decode cX6_ifMoved 25 = .ok (.invokevirtual 126, 3) := by decide +kernel
theorem dX6_ifMoved_28 : decode cX6_ifMoved 28 = .ok (.ifCond .ne 14, 3) := by decide +kernel
theorem dX6_ifMoved_31 : decode cX6_ifMoved 31 = .ok (.aload_n 0, 1) := by decide +kernel
theorem dX6_ifMoved_32 : decode cX6_ifMoved 32 = .ok (.getfield 12, 3) := by decide +kernel
theorem dX6_ifMoved_35 : decode cX6_ifMoved 35 = .ok (.iload_n 1, 1) := by decide +kernel
theorem dX6_ifMoved_36 : decode cX6_ifMoved 36 = .ok (.invokevirtual 129, 3) := by decide +kernel
theorem dX6_ifMoved_39 : decode cX6_ifMoved 39 = .ok (.ifCond .ne 5, 3) := by decide +kernel
theorem dX6_ifMoved_42 : decode cX6_ifMoved 42 = .ok (.iconst (-1), 1) := by decide +kernel
theorem dX6_ifMoved_43 : decode cX6_ifMoved 43 = .ok (.ireturn, 1) := by decide +kernel
theorem dX6_ifMoved_44 : decode cX6_ifMoved 44 = .ok (.aload_n 0, 1) := by decide +kernel
theorem dX6_ifMoved_45 : decode cX6_ifMoved 45 = .ok (.getfield 16, 3) := by decide +kernel
theorem dX6_ifMoved_48 : decode cX6_ifMoved 48 = .ok (.aload_n 0, 1) := by decide +kernel
theorem dX6_ifMoved_49 : decode cX6_ifMoved 49 = .ok (.getfield 12, 3) := by decide +kernel
theorem dX6_ifMoved_52 : decode cX6_ifMoved 52 = .ok (.invokevirtual 190, 3) := by decide +kernel
theorem dX6_ifMoved_55 : decode cX6_ifMoved 55 = .ok (.aload_n 0, 1) := by decide +kernel
theorem dX6_ifMoved_56 : decode cX6_ifMoved 56 = .ok (.getfield 16, 3) := by decide +kernel
theorem dX6_ifMoved_59 : decode cX6_ifMoved 59 = .ok (.iload_n 1, 1) := by decide +kernel
theorem dX6_ifMoved_60 : decode cX6_ifMoved 60 = .ok (.iconst (-1), 1) := by decide +kernel
theorem dX6_ifMoved_61 : decode cX6_ifMoved 61 = .ok (.invokevirtual 137, 3) := by decide +kernel
theorem dX6_ifMoved_64 : decode cX6_ifMoved 64 = .ok (.aload_n 0, 1) := by decide +kernel
theorem dX6_ifMoved_65 : decode cX6_ifMoved 65 = .ok (.getfield 47, 3) := by decide +kernel
theorem dX6_ifMoved_68 : decode cX6_ifMoved 68 = .ok (.aload_n 0, 1) := by decide +kernel
theorem dX6_ifMoved_69 : decode cX6_ifMoved 69 = .ok (.getfield 16, 3) := by decide +kernel
theorem dX6_ifMoved_72 : decode cX6_ifMoved 72 = .ok (.invokevirtual 226, 3) := by decide +kernel
theorem dX6_ifMoved_75 : decode cX6_ifMoved 75 = .ok (.iconst (-1), 1) := by decide +kernel
theorem dX6_ifMoved_76 : decode cX6_ifMoved 76 = .ok (.if_icmp .ne 7, 3) := by decide +kernel
theorem dX6_ifMoved_79 : decode cX6_ifMoved 79 = .ok (.iconst 2, 1) := by decide +kernel
theorem dX6_ifMoved_80 : decode cX6_ifMoved 80 = .ok (.goto 4, 3) := by decide +kernel
theorem dX6_ifMoved_83 : decode cX6_ifMoved 83 = .ok (.iconst 1, 1) := by decide +kernel
theorem dX6_ifMoved_84 : decode cX6_ifMoved 84 = .ok (.ireturn, 1) := by decide +kernel
set_option maxRecDepth 20000 in
theorem ggX6_count_X4_winner : GoodIn wsX6_count wsX4_winner := goodIn_r _ [20, 21, 22, 23, 24, 25, 26, 27, 28, 29, 30, 31, 32, 33, 34, 35, 36, 37, 38, 39, 40, 41, 42, 131, 132, 133, 134, 135, 136, 137, 138, 139, 140, 141, 142, 143, 144, 145, 146] (by decide +kernel) (by decide +kernel)
set_option maxRecDepth 20000 in
theorem gX6_count_X4_winner : GoodIn wsX6_count (wsV RX6 126 RX4 yX4_winner wsX4_winner) := goodIn_app (goodIn_of _ (by decide +kernel)) ggX6_count_X4_winner
set_option maxRecDepth 20000 in
theorem ggX6_count_X4_mover : GoodIn wsX6_count wsX4_mover := goodIn_r _ [46, 47, 131, 132, 133, 134, 135, 136, 137, 138, 139, 140] (by decide +kernel) (by decide +kernel)
set_option maxRecDepth 20000 in
theorem gX6_count_X4_mover : GoodIn wsX6_count (wsV RX6 150 RX4 yX4_mover wsX4_mover) := goodIn_app (goodIn_of _ (by decide +kernel)) ggX6_count_X4_mover
set_option maxRecDepth 20000 in
theorem ggX6_count_X4_forcedReply : GoodIn wsX6_count wsX4_forcedReply := goodIn_r _ [51, 21, 22, 23, 52, 25, 26, 27, 28, 29, 30, 31, 32, 33, 34, 35, 36, 37, 38, 39, 40, 41, 42, 53, 54, 55, 131, 132, 133, 134, 135, 136, 137, 138, 139, 140, 141, 142, 143, 144, 145, 146] (by decide +kernel) (by decide +kernel)
set_option maxRecDepth 20000 in
theorem gX6_count_X4_forcedReply : GoodIn wsX6_count (wsV RX6 241 RX4 yX4_forcedReply wsX4_forcedReply) := goodIn_app (goodIn_of _ (by decide +kernel)) ggX6_count_X4_forcedReply
set_option maxRecDepth 20000 in
theorem ggX6_count_X6_pairsInPairing : GoodIn wsX6_count wsX6_pairsInPairing := goodIn_r _ [59, 60, 3, 61, 62, 63, 64, 65, 66, 67, 68, 69, 70, 71, 72, 73, 74, 75, 76, 77, 78, 28, 79, 33, 34, 80, 81, 82, 83, 84, 85, 86, 87, 88, 89, 90, 91, 92, 93, 94, 95, 96, 97, 98, 99, 100, 101, 102, 103, 104, 105, 37, 38, 39, 40, 41, 42, 106, 107, 108, 109, 124, 125, 126, 127, 128, 129, 130, 149, 150, 151, 152, 153, 154, 131, 132, 133, 134, 135, 136, 137, 138, 139, 140, 141, 142, 143, 144, 145, 146] (by decide +kernel) (by decide +kernel)
set_option maxRecDepth 20000 in
theorem gX6_count_X6_pairsInPairing : GoodIn wsX6_count (wsV RX6 244 RX6 yX6_pairsInPairing wsX6_pairsInPairing) := goodIn_app (goodIn_of _ (by decide +kernel)) ggX6_count_X6_pairsInPairing
set_option maxRecDepth 20000 in
theorem ggX6_count_X4_freeCells : GoodIn wsX6_count wsX4_freeCells := goodIn_r _ [113, 22, 23, 114, 115, 116, 19, 117, 118, 131, 132, 133, 134, 135, 136, 137, 138, 139, 140] (by decide +kernel) (by decide +kernel)
set_option maxRecDepth 20000 in
theorem gX6_count_X4_freeCells : GoodIn wsX6_count (wsV RX6 203 RX4 yX4_freeCells wsX4_freeCells) := goodIn_app (goodIn_of _ (by decide +kernel)) ggX6_count_X4_freeCells
set_option maxRecDepth 20000 in
theorem ggX6_count_X6_snapshotsTaken : GoodIn wsX6_count wsX6_snapshotsTaken := goodIn_r _ [122, 123, 124, 125, 126, 127, 128, 129, 130] (by decide +kernel) (by decide +kernel)
set_option maxRecDepth 20000 in
theorem gX6_count_X6_snapshotsTaken : GoodIn wsX6_count (wsV RX6 259 RX6 yX6_snapshotsTaken wsX6_snapshotsTaken) := goodIn_app (goodIn_of _ (by decide +kernel)) ggX6_count_X6_snapshotsTaken
theorem dX6_count_0 : decode cX6_count 0 = .ok (.iload_n 1, 1) := by decide +kernel
theorem dX6_count_1 : decode cX6_count 1 = .ok (.ifCond .lt 9, 3) := by decide +kernel
theorem dX6_count_4 : decode cX6_count 4 = .ok (.iload_n 1, 1) := by decide +kernel
theorem dX6_count_5 : decode cX6_count 5 = .ok (.bipush 16, 2) := by decide +kernel
theorem dX6_count_7 : decode cX6_count 7 = .ok (.if_icmp .lt 13, 3) := by decide +kernel
theorem dX6_count_10 : decode cX6_count 10 = .ok (.new 51, 3) := by decide +kernel
theorem dX6_count_13 : decode cX6_count 13 = .ok (.dup, 1) := by decide +kernel
theorem dX6_count_14 : decode cX6_count 14 = .ok (.ldc 230, 2) := by decide +kernel
theorem dX6_count_16 : decode cX6_count 16 = .ok (.invokespecial 55, 3) := by decide +kernel
theorem dX6_count_19 : decode cX6_count 19 = .ok (.athrow, 1) := by decide +kernel
theorem dX6_count_20 : decode cX6_count 20 = .ok (.aload_n 0, 1) := by decide +kernel
theorem dX6_count_21 : decode cX6_count 21 = .ok (.getfield 12, 3) := by decide +kernel
theorem dX6_count_24 : decode cX6_count 24 = .ok (.invokevirtual 126, 3) := by decide +kernel
theorem dX6_count_27 : decode cX6_count 27 = .ok (.istore_n 2, 1) := by decide +kernel
theorem dX6_count_28 : decode cX6_count 28 = .ok (.iload_n 1, 1) := by decide +kernel
theorem dX6_count_29 : decode cX6_count 29 = .ok (.tableswitch 211 0 14 #[75, 83, 94, 105, 116, 132, 134, 145, 161, 166, 174, 182, 190, 198, 206], 75) := by decide +kernel
theorem dX6_count_104 : decode cX6_count 104 = .ok (.aload_n 0, 1) := by decide +kernel
theorem dX6_count_105 : decode cX6_count 105 = .ok (.getfield 12, 3) := by decide +kernel
theorem dX6_count_108 : decode cX6_count 108 = .ok (.getfield 62, 3) := by decide +kernel
theorem dX6_count_111 : decode cX6_count 111 = .ok (.ireturn, 1) := by decide +kernel
theorem dX6_count_112 : decode cX6_count 112 = .ok (.aload_n 0, 1) := by decide +kernel
theorem dX6_count_113 : decode cX6_count 113 = .ok (.getfield 12, 3) := by decide +kernel
theorem dX6_count_116 : decode cX6_count 116 = .ok (.getfield 66, 3) := by decide +kernel
theorem dX6_count_119 : decode cX6_count 119 = .ok (.getfield 70, 3) := by decide +kernel
theorem dX6_count_122 : decode cX6_count 122 = .ok (.ireturn, 1) := by decide +kernel
theorem dX6_count_123 : decode cX6_count 123 = .ok (.aload_n 0, 1) := by decide +kernel
theorem dX6_count_124 : decode cX6_count 124 = .ok (.getfield 12, 3) := by decide +kernel
theorem dX6_count_127 : decode cX6_count 127 = .ok (.getfield 66, 3) := by decide +kernel
theorem dX6_count_130 : decode cX6_count 130 = .ok (.getfield 232, 3) := by decide +kernel
theorem dX6_count_133 : decode cX6_count 133 = .ok (.ireturn, 1) := by decide +kernel
theorem dX6_count_134 : decode cX6_count 134 = .ok (.aload_n 0, 1) := by decide +kernel
theorem dX6_count_135 : decode cX6_count 135 = .ok (.getfield 12, 3) := by decide +kernel
theorem dX6_count_138 : decode cX6_count 138 = .ok (.getfield 66, 3) := by decide +kernel
theorem dX6_count_141 : decode cX6_count 141 = .ok (.getfield 235, 3) := by decide +kernel
theorem dX6_count_144 : decode cX6_count 144 = .ok (.ireturn, 1) := by decide +kernel
theorem dX6_count_145 : decode cX6_count 145 = .ok (.iload_n 2, 1) := by decide +kernel
theorem dX6_count_146 : decode cX6_count 146 = .ok (.ifCond .ne 13, 3) := by decide +kernel
theorem dX6_count_149 : decode cX6_count 149 = .ok (.aload_n 0, 1) := by decide +kernel
theorem dX6_count_150 : decode cX6_count 150 = .ok (.getfield 12, 3) := by decide +kernel
theorem dX6_count_153 : decode cX6_count 153 = .ok (.invokevirtual 150, 3) := by decide +kernel
theorem dX6_count_156 : decode cX6_count 156 = .ok (.goto 4, 3) := by decide +kernel
theorem dX6_count_159 : decode cX6_count 159 = .ok (.iconst 0, 1) := by decide +kernel
theorem dX6_count_160 : decode cX6_count 160 = .ok (.ireturn, 1) := by decide +kernel
theorem dX6_count_161 : decode cX6_count 161 = .ok (.iload_n 2, 1) := by decide +kernel
theorem dX6_count_162 : decode cX6_count 162 = .ok (.ireturn, 1) := by decide +kernel
theorem dX6_count_163 : decode cX6_count 163 = .ok (.aload_n 0, 1) := by decide +kernel
theorem dX6_count_164 : decode cX6_count 164 = .ok (.getfield 12, 3) := by decide +kernel
theorem dX6_count_167 : decode cX6_count 167 = .ok (.getfield 66, 3) := by decide +kernel
theorem dX6_count_170 : decode cX6_count 170 = .ok (.getfield 238, 3) := by decide +kernel
theorem dX6_count_173 : decode cX6_count 173 = .ok (.ireturn, 1) := by decide +kernel
theorem dX6_count_174 : decode cX6_count 174 = .ok (.iload_n 2, 1) := by decide +kernel
theorem dX6_count_175 : decode cX6_count 175 = .ok (.ifCond .ne 13, 3) := by decide +kernel
theorem dX6_count_178 : decode cX6_count 178 = .ok (.aload_n 0, 1) := by decide +kernel
theorem dX6_count_179 : decode cX6_count 179 = .ok (.getfield 12, 3) := by decide +kernel
theorem dX6_count_182 : decode cX6_count 182 = .ok (.invokevirtual 241, 3) := by decide +kernel
theorem dX6_count_185 : decode cX6_count 185 = .ok (.goto 4, 3) := by decide +kernel
theorem dX6_count_188 : decode cX6_count 188 = .ok (.iconst (-1), 1) := by decide +kernel
theorem dX6_count_189 : decode cX6_count 189 = .ok (.ireturn, 1) := by decide +kernel
theorem dX6_count_190 : decode cX6_count 190 = .ok (.aload_n 0, 1) := by decide +kernel
theorem dX6_count_191 : decode cX6_count 191 = .ok (.invokevirtual 244, 3) := by decide +kernel
theorem dX6_count_194 : decode cX6_count 194 = .ok (.ireturn, 1) := by decide +kernel
theorem dX6_count_195 : decode cX6_count 195 = .ok (.aload_n 0, 1) := by decide +kernel
