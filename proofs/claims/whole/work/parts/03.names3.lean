theorem dX6_solved_83 : decode cX6_solved 83 = .ok (.goto 4, 3) := by decide +kernel
theorem dX6_solved_86 : decode cX6_solved 86 = .ok (.iload_n 3, 1) := by decide +kernel
theorem dX6_solved_87 : decode cX6_solved 87 = .ok (.ireturn, 1) := by decide +kernel
set_option maxRecDepth 20000 in
theorem ggX6_ifMoved_X4_hasCell : GoodIn wsX6_ifMoved wsX4_hasCell := goodIn_r _ [10, 11, 134, 135, 136, 137, 138, 139, 140, 141, 142, 143] (by decide +kernel) (by decide +kernel)
set_option maxRecDepth 20000 in
theorem gX6_ifMoved_X4_hasCell : GoodIn wsX6_ifMoved (wsV RX6 121 RX4 yX4_hasCell wsX4_hasCell) := goodIn_app (goodIn_of _ (by decide +kernel)) ggX6_ifMoved_X4_hasCell
set_option maxRecDepth 20000 in
theorem ggX6_ifMoved_X4_winner : GoodIn wsX6_ifMoved wsX4_winner := goodIn_r _ [15, 16, 17, 18, 19, 20, 21, 22, 23, 24, 25, 26, 27, 28, 29, 30, 31, 32, 33, 34, 35, 36, 37, 134, 135, 136, 137, 138, 139, 140, 141, 142, 143, 144, 145, 146, 147, 148, 149] (by decide +kernel) (by decide +kernel)
set_option maxRecDepth 20000 in
theorem gX6_ifMoved_X4_winner : GoodIn wsX6_ifMoved (wsV RX6 126 RX4 yX4_winner wsX4_winner) := goodIn_app (goodIn_of _ (by decide +kernel)) ggX6_ifMoved_X4_winner
set_option maxRecDepth 20000 in
theorem ggX6_ifMoved_X4_isFree : GoodIn wsX6_ifMoved wsX4_isFree := goodIn_r _ [41, 42, 43, 44, 9, 45, 17, 18, 46, 47, 48, 49, 11, 134, 135, 136, 137, 138, 139, 140, 141, 142, 143] (by decide +kernel) (by decide +kernel)
set_option maxRecDepth 20000 in
theorem gX6_ifMoved_X4_isFree : GoodIn wsX6_ifMoved (wsV RX6 129 RX4 yX4_isFree wsX4_isFree) := goodIn_app (goodIn_of _ (by decide +kernel)) ggX6_ifMoved_X4_isFree
set_option maxRecDepth 20000 in
theorem ggX6_ifMoved_X4_copyBoard : GoodIn wsX6_ifMoved wsX4_copyBoard := goodIn_r _ [53, 16, 11, 17, 18, 54, 55, 56, 57, 58, 59, 23, 60, 28, 29, 134, 135, 136, 137, 138, 139, 140, 141, 142, 143, 144, 145, 146, 147, 148, 149] (by decide +kernel) (by decide +kernel)
set_option maxRecDepth 20000 in
theorem gX6_ifMoved_X4_copyBoard : GoodIn wsX6_ifMoved (wsV RX6 190 RX4 yX4_copyBoard wsX4_copyBoard) := goodIn_app (goodIn_of _ (by decide +kernel)) ggX6_ifMoved_X4_copyBoard
set_option maxRecDepth 20000 in
theorem ggX6_ifMoved_X4_occupy : GoodIn wsX6_ifMoved wsX4_occupy := goodIn_r _ [64, 54, 17, 18, 55, 56, 65, 66, 67, 68, 13, 14, 9, 15, 16, 19, 20, 21, 22, 23, 24, 25, 26, 27, 28, 29, 30, 31, 32, 33, 34, 35, 36, 37, 134, 135, 136, 137, 138, 139, 140, 141, 142, 143, 144, 145, 146, 147, 148, 149] (by decide +kernel) (by decide +kernel)
set_option maxRecDepth 20000 in
theorem gX6_ifMoved_X4_occupy : GoodIn wsX6_ifMoved (wsV RX6 137 RX4 yX4_occupy wsX4_occupy) := goodIn_app (goodIn_of _ (by decide +kernel)) ggX6_ifMoved_X4_occupy
set_option maxRecDepth 20000 in
theorem ggX6_ifMoved_X3_lengthOf : GoodIn wsX6_ifMoved wsX3_lengthOf := goodIn_r _ [73, 74, 75, 76, 77, 78, 79, 72, 80, 81, 82, 83, 84, 85, 86, 32, 33, 34, 35, 36, 37, 87, 47, 48, 9, 49, 11, 88, 89, 90, 23, 91, 28, 29, 92, 58, 59, 60, 93, 94, 95, 96, 97, 98, 99, 100, 101, 102, 103, 104, 105, 106, 107, 108, 21, 22, 24, 25, 26, 27, 30, 31, 109, 110, 111, 112, 113, 114, 115, 116, 117, 118, 119, 120, 121, 122, 123, 124, 125, 126, 134, 135, 136, 137, 138, 139, 140, 141, 142, 143, 150, 151, 152, 153, 154, 155, 144, 145, 146, 147, 148, 149] (by decide +kernel) (by decide +kernel)
set_option maxRecDepth 20000 in
theorem gX6_ifMoved_X3_lengthOf : GoodIn wsX6_ifMoved (wsV RX6 226 RX3 yX3_lengthOf wsX3_lengthOf) := goodIn_app (goodIn_of _ (by decide +kernel)) ggX6_ifMoved_X3_lengthOf
theorem dX6_ifMoved_0 : decode cX6_ifMoved 0 = .ok (.aload_n 0, 1) := by decide +kernel
theorem dX6_ifMoved_1 : decode cX6_ifMoved 1 = .ok (.getfield 12, 3) := by decide +kernel
theorem dX6_ifMoved_4 : decode cX6_ifMoved 4 = .ok (.iload_n 1, 1) := by decide +kernel
theorem dX6_ifMoved_5 : decode cX6_ifMoved 5 = .ok (.invokevirtual 121, 3) := by decide +kernel
theorem dX6_ifMoved_8 : decode cX6_ifMoved 8 = .ok (.ifCond .ne 13, 3) := by decide +kernel
theorem dX6_ifMoved_11 : decode cX6_ifMoved 11 = .ok (.new 98, 3) := by decide +kernel
theorem dX6_ifMoved_14 : decode cX6_ifMoved 14 = .ok (.dup, 1) := by decide +kernel
theorem dX6_ifMoved_15 : decode cX6_ifMoved 15 = .ok (.ldc 124, 2) := by decide +kernel
theorem dX6_ifMoved_17 : decode cX6_ifMoved 17 = .ok (.invokespecial 102, 3) := by decide +kernel
theorem dX6_ifMoved_20 : decode cX6_ifMoved 20 = .ok (.athrow, 1) := by decide +kernel
theorem dX6_ifMoved_21 : decode cX6_ifMoved 21 = .ok (.aload_n 0, 1) := by decide +kernel
theorem dX6_ifMoved_22 : decode cX6_ifMoved 22 = .ok (.getfield 12, 3) := by decide +kernel
theorem dX6_ifMoved_25 : decode cX6_ifMoved 25 = .ok (.invokevirtual 126, 3) := by decide +kernel
theorem dX6_ifMoved_28 : decode cX6_ifMoved 28 = .ok (.ifCond .ne 14, 3) := by decide +kernel
theorem dX6_ifMoved_31 : decode cX6_ifMoved 31 = .ok (.aload_n 0, 1) := by decide +kernel
theorem dX6_ifMoved_32 : decode cX6_ifMoved 32 = .ok (.getfield 12, 3) := by decide +kernel
theorem dX6_ifMoved_35 : decode cX6_ifMoved 35 = .ok (.iload_n 1, 1) := by decide +kernel
theorem dX6_ifMoved_36 : decode cX6_ifMoved 36 = .ok (.invokevirtual 129, 3) := by decide +kernel
theorem dX6_ifMoved_39 : decode cX6_ifMoved 39 = .ok (.ifCond .ne 5, 3) := by decide +kernel
theorem dX6_ifMoved_42 : decode cX6_ifMoved 42 = .ok (.iconst (-1), 1) := by decide +kernel
theorem dX6_ifMoved_43 : decode cX6_ifMoved 43 = .ok (.ireturn, 1) := by decide +kernel
theorem dX6_ifMoved_44 : decode cX6_ifMoved 44 = .ok (.aload_n 0, 1) := by decide +kernel
theorem dX6_ifMoved_45 : decode cX6_ifMoved 45 = .ok (.getfield 16, 3) := by decide +kernel
theorem dX6_ifMoved_48 : decode cX6_ifMoved 48 = .ok (.aload_n 0, 1) := by decide +kernel
theorem dX6_ifMoved_49 : decode cX6_ifMoved 49 = .ok (.getfield 12, 3) := by decide +kernel
theorem dX6_ifMoved_52 : decode cX6_ifMoved 52 = .ok (.invokevirtual 190, 3) := by decide +kernel
theorem dX6_ifMoved_55 : decode cX6_ifMoved 55 = .ok (.aload_n 0, 1) := by decide +kernel
theorem dX6_ifMoved_56 : decode cX6_ifMoved 56 = .ok (.getfield 16, 3) := by decide +kernel
theorem dX6_ifMoved_59 : decode cX6_ifMoved 59 = .ok (.iload_n 1, 1) := by decide +kernel
theorem dX6_ifMoved_60 : decode cX6_ifMoved 60 = .ok (.iconst (-1), 1) := by decide +kernel
theorem dX6_ifMoved_61 : decode cX6_ifMoved 61 = .ok (.invokevirtual 137, 3) := by decide +kernel
theorem dX6_ifMoved_64 : decode cX6_ifMoved 64 = .ok (.aload_n 0, 1) := by decide +kernel
theorem dX6_ifMoved_65 : decode cX6_ifMoved 65 = .ok (.getfield 47, 3) := by decide +kernel
theorem dX6_ifMoved_68 : decode cX6_ifMoved 68 = .ok (.aload_n 0, 1) := by decide +kernel
theorem dX6_ifMoved_69 : decode cX6_ifMoved 69 = .ok (.getfield 16, 3) := by decide +kernel
theorem dX6_ifMoved_72 : decode cX6_ifMoved 72 = .ok (.invokevirtual 226, 3) := by decide +kernel
theorem dX6_ifMoved_75 : decode cX6_ifMoved 75 = .ok (.iconst (-1), 1) := by decide +kernel
theorem dX6_ifMoved_76 : decode cX6_ifMoved 76 = .ok (.if_icmp .ne 7, 3) := by decide +kernel
theorem dX6_ifMoved_79 : decode cX6_ifMoved 79 = .ok (.iconst 2, 1) := by decide +kernel
theorem dX6_ifMoved_80 : decode cX6_ifMoved 80 = .ok (.goto 4, 3) := by decide +kernel
theorem dX6_ifMoved_83 : decode cX6_ifMoved 83 = .ok (.iconst 1, 1) := by decide +kernel
theorem dX6_ifMoved_84 : decode cX6_ifMoved 84 = .ok (.ireturn, 1) := by decide +kernel
set_option maxRecDepth 20000 in
theorem ggX6_ifPlayed_X6_isRule : GoodIn wsX6_ifPlayed wsX6_isRule := goodIn_r _ [8] (by decide +kernel) (by decide +kernel)
set_option maxRecDepth 20000 in
theorem gX6_ifPlayed_X6_isRule : GoodIn wsX6_ifPlayed (va_wsS RX6 153 yX6_isRule wsX6_isRule) := goodIn_app (goodIn_of _ (by decide +kernel)) ggX6_ifPlayed_X6_isRule
set_option maxRecDepth 20000 in
theorem ggX6_ifPlayed_X4_copyBoard : GoodIn wsX6_ifPlayed wsX4_copyBoard := goodIn_r _ [13, 14, 15, 16, 17, 18, 19, 20, 21, 22, 23, 24, 25, 26, 27, 207, 208, 209, 210, 211, 212, 213, 214, 215, 216, 217, 218, 219, 220, 221, 222] (by decide +kernel) (by decide +kernel)
set_option maxRecDepth 20000 in
theorem gX6_ifPlayed_X4_copyBoard : GoodIn wsX6_ifPlayed (wsV RX6 190 RX4 yX4_copyBoard wsX4_copyBoard) := goodIn_app (goodIn_of _ (by decide +kernel)) ggX6_ifPlayed_X4_copyBoard
set_option maxRecDepth 20000 in
theorem ggX6_ifPlayed_X6_goOn : GoodIn wsX6_ifPlayed wsX6_goOn := goodIn_r _ [31, 32, 33, 34, 35, 36, 12, 37, 14, 16, 17, 38, 39, 40, 41, 24, 42, 43, 44, 45, 26, 27, 46, 47, 48, 49, 50, 51, 52, 53, 54, 55, 56, 7, 57, 58, 59, 60, 61, 62, 63, 64, 65, 66, 67, 15, 68, 69, 70, 71, 72, 73, 74, 75, 76, 77, 78, 79, 80, 81, 82, 83, 84, 85, 86, 87, 88, 89, 90, 91, 92, 93, 94, 22, 23, 25, 95, 96, 97, 98, 99, 100, 101, 102, 103, 104, 105, 106, 107, 108, 109, 110, 111, 112, 113, 114, 115, 116, 117, 118, 119, 120, 121, 122, 123, 124, 125, 126, 127, 128, 129, 130, 131, 132, 133, 134, 135, 136, 137, 138, 139, 140, 141, 142, 143, 144, 145, 146, 147, 148, 149, 150, 151, 152, 153, 154, 155, 156, 157, 158, 159, 160, 161, 162, 163, 164, 165, 166, 167, 168, 169, 170, 171, 172, 173, 174, 175, 176, 177, 178, 179, 180, 181, 182, 183, 184, 185, 186, 187, 188, 189, 190, 191, 192, 193, 194, 195, 18, 19, 20, 196, 197, 198, 199, 207, 208, 209, 210, 211, 212, 213, 214, 215, 216, 200, 201, 202, 203, 204, 205, 206, 217, 218, 219, 220, 221, 222, 223, 224, 225, 226, 227, 228, 229, 230, 231, 232, 233, 234] (by decide +kernel) (by decide +kernel)
set_option maxRecDepth 20000 in
theorem gX6_ifPlayed_X6_goOn : GoodIn wsX6_ifPlayed (wsV RX6 158 RX6 yX6_goOn wsX6_goOn) := goodIn_app (goodIn_of _ (by decide +kernel)) ggX6_ifPlayed_X6_goOn
set_option maxRecDepth 20000 in
theorem ggX6_ifPlayed_X4_winner : GoodIn wsX6_ifPlayed wsX4_winner := goodIn_r _ [37, 14, 16, 17, 38, 39, 40, 41, 24, 42, 43, 44, 45, 26, 27, 46, 47, 48, 49, 50, 51, 52, 53, 207, 208, 209, 210, 211, 212, 213, 214, 215, 216, 217, 218, 219, 220, 221, 222] (by decide +kernel) (by decide +kernel)
set_option maxRecDepth 20000 in
theorem gX6_ifPlayed_X4_winner : GoodIn wsX6_ifPlayed (wsV RX6 126 RX4 yX4_winner wsX4_winner) := goodIn_app (goodIn_of _ (by decide +kernel)) ggX6_ifPlayed_X4_winner
theorem dX6_ifPlayed_0 : decode cX6_ifPlayed 0 = .ok (.iload_n 1, 1) := by decide +kernel
theorem dX6_ifPlayed_1 : decode cX6_ifPlayed 1 = .ok (.invokestatic 153, 3) := by decide +kernel
theorem dX6_ifPlayed_4 : decode cX6_ifPlayed 4 = .ok (.ifCond .eq 10, 3) := by decide +kernel
theorem dX6_ifPlayed_7 : decode cX6_ifPlayed 7 = .ok (.iload_n 2, 1) := by decide +kernel
theorem dX6_ifPlayed_8 : decode cX6_ifPlayed 8 = .ok (.invokestatic 153, 3) := by decide +kernel
theorem dX6_ifPlayed_11 : decode cX6_ifPlayed 11 = .ok (.ifCond .ne 13, 3) := by decide +kernel
theorem dX6_ifPlayed_14 : decode cX6_ifPlayed 14 = .ok (.new 51, 3) := by decide +kernel
theorem dX6_ifPlayed_17 : decode cX6_ifPlayed 17 = .ok (.dup, 1) := by decide +kernel
theorem dX6_ifPlayed_18 : decode cX6_ifPlayed 18 = .ok (.ldc 218, 2) := by decide +kernel
theorem dX6_ifPlayed_20 : decode cX6_ifPlayed 20 = .ok (.invokespecial 55, 3) := by decide +kernel
theorem dX6_ifPlayed_23 : decode cX6_ifPlayed 23 = .ok (.athrow, 1) := by decide +kernel
theorem dX6_ifPlayed_24 : decode cX6_ifPlayed 24 = .ok (.aload_n 0, 1) := by decide +kernel
theorem dX6_ifPlayed_25 : decode cX6_ifPlayed 25 = .ok (.getfield 16, 3) := by decide +kernel
theorem dX6_ifPlayed_28 : decode cX6_ifPlayed 28 = .ok (.aload_n 0, 1) := by decide +kernel
theorem dX6_ifPlayed_29 : decode cX6_ifPlayed 29 = .ok (.getfield 12, 3) := by decide +kernel
theorem dX6_ifPlayed_32 : decode cX6_ifPlayed 32 = .ok (.invokevirtual 190, 3) := by decide +kernel
theorem dX6_ifPlayed_35 : decode cX6_ifPlayed 35 = .ok (.aload_n 0, 1) := by decide +kernel
theorem dX6_ifPlayed_36 : decode cX6_ifPlayed 36 = .ok (.aload_n 0, 1) := by decide +kernel
theorem dX6_ifPlayed_37 : decode cX6_ifPlayed 37 = .ok (.getfield 16, 3) := by decide +kernel
theorem dX6_ifPlayed_40 : decode cX6_ifPlayed 40 = .ok (.iload_n 1, 1) := by decide +kernel
theorem dX6_ifPlayed_41 : decode cX6_ifPlayed 41 = .ok (.iload_n 2, 1) := by decide +kernel
theorem dX6_ifPlayed_42 : decode cX6_ifPlayed 42 = .ok (.bipush 10, 2) := by decide +kernel
theorem dX6_ifPlayed_44 : decode cX6_ifPlayed 44 = .ok (.invokevirtual 158, 3) := by decide +kernel
theorem dX6_ifPlayed_47 : decode cX6_ifPlayed 47 = .ok (.pop, 1) := by decide +kernel
theorem dX6_ifPlayed_48 : decode cX6_ifPlayed 48 = .ok (.aload_n 0, 1) := by decide +kernel
theorem dX6_ifPlayed_49 : decode cX6_ifPlayed 49 = .ok (.getfield 16, 3) := by decide +kernel
theorem dX6_ifPlayed_52 : decode cX6_ifPlayed 52 = .ok (.invokevirtual 126, 3) := by decide +kernel
theorem dX6_ifPlayed_55 : decode cX6_ifPlayed 55 = .ok (.ireturn, 1) := by decide +kernel
set_option maxRecDepth 20000 in
theorem ggX6_count_X4_winner : GoodIn wsX6_count wsX4_winner := goodIn_r _ [20, 21, 22, 23, 24, 25, 26, 27, 28, 29, 30, 31, 32, 33, 34, 35, 36, 37, 38, 39, 40, 41, 42, 131, 132, 133, 134, 135, 136, 137, 138, 139, 140, 141, 142, 143, 144, 145, 146] (by decide +kernel) (by decide +kernel)
set_option maxRecDepth 20000 in
theorem gX6_count_X4_winner : GoodIn wsX6_count (wsV RX6 126 RX4 yX4_winner wsX4_winner) := goodIn_app (goodIn_of _ (by decide +kernel)) ggX6_count_X4_winner
set_option maxRecDepth 20000 in
theorem ggX6_count_X4_mover : GoodIn wsX6_count wsX4_mover := goodIn_r _ [46, 47, 131, 132, 133, 134, 135, 136, 137, 138, 139, 140] (by decide +kernel) (by decide +kernel)
set_option maxRecDepth 20000 in
theorem gX6_count_X4_mover : GoodIn wsX6_count (wsV RX6 150 RX4 yX4_mover wsX4_mover) := goodIn_app (goodIn_of _ (by decide +kernel)) ggX6_count_X4_mover
set_option maxRecDepth 20000 in
theorem ggX6_count_X4_forcedReply : GoodIn wsX6_count wsX4_forcedReply := goodIn_r _ [51, 21, 22, 23, 52, 25, 26, 27, 28, 29, 30, 31, 32, 33, 34, 35, 36, 37, 38, 39, 40, 41, 42, 53, 54, 55, 131, 132, 133, 134, 135, 136, 137, 138, 139, 140, 141, 142, 143, 144, 145, 146] (by decide +kernel) (by decide +kernel)
set_option maxRecDepth 20000 in
theorem gX6_count_X4_forcedReply : GoodIn wsX6_count (wsV RX6 241 RX4 yX4_forcedReply wsX4_forcedReply) := goodIn_app (goodIn_of _ (by decide +kernel)) ggX6_count_X4_forcedReply
set_option maxRecDepth 20000 in
theorem ggX6_count_X6_pairsInPairing : GoodIn wsX6_count wsX6_pairsInPairing := goodIn_r _ [59, 60, 3, 61, 62, 63, 64, 65, 66, 67, 68, 69, 70, 71, 72, 73, 74, 75, 76, 77, 78, 28, 79, 33, 34, 80, 81, 82, 83, 84, 85, 86, 87, 88, 89, 90, 91, 92, 93, 94, 95, 96, 97, 98, 99, 100, 101, 102, 103, 104, 105, 37, 38, 39, 40, 41, 42, 106, 107, 108, 109, 124, 125, 126, 127, 128, 129, 130, 149, 150, 151, 152, 153, 154, 131, 132, 133, 134, 135, 136, 137, 138, 139, 140, 141, 142, 143, 144, 145, 146] (by decide +kernel) (by decide +kernel)
set_option maxRecDepth 20000 in
theorem gX6_count_X6_pairsInPairing : GoodIn wsX6_count (wsV RX6 244 RX6 yX6_pairsInPairing wsX6_pairsInPairing) := goodIn_app (goodIn_of _ (by decide +kernel)) ggX6_count_X6_pairsInPairing
set_option maxRecDepth 20000 in
theorem ggX6_count_X4_freeCells : GoodIn wsX6_count wsX4_freeCells := goodIn_r _ [113, 22, 23, 114, 115, 116, 19, 117, 118, 131, 132, 133, 134, 135, 136, 137, 138, 139, 140] (by decide +kernel) (by decide +kernel)
set_option maxRecDepth 20000 in
theorem gX6_count_X4_freeCells : GoodIn wsX6_count (wsV RX6 203 RX4 yX4_freeCells wsX4_freeCells) := goodIn_app (goodIn_of _ (by decide +kernel)) ggX6_count_X4_freeCells
set_option maxRecDepth 20000 in
theorem ggX6_count_X6_snapshotsTaken : GoodIn wsX6_count wsX6_snapshotsTaken := goodIn_r _ [122, 123, 124, 125, 126, 127, 128, 129, 130] (by decide +kernel) (by decide +kernel)
set_option maxRecDepth 20000 in
theorem gX6_count_X6_snapshotsTaken : GoodIn wsX6_count (wsV RX6 259 RX6 yX6_snapshotsTaken wsX6_snapshotsTaken) := goodIn_app (goodIn_of _ (by decide +kernel)) ggX6_count_X6_snapshotsTaken
theorem dX6_count_0 : decode cX6_count 0 = .ok (.iload_n 1, 1) := by decide +kernel
theorem dX6_count_1 : decode cX6_count 1 = .ok (.ifCond .lt 9, 3) := by decide +kernel
theorem dX6_count_4 : decode cX6_count 4 = .ok (.iload_n 1, 1) := by decide +kernel
theorem dX6_count_5 : decode cX6_count 5 = .ok (.bipush 16, 2) := by decide +kernel
theorem dX6_count_7 : decode cX6_count 7 = .ok (.if_icmp .lt 13, 3) := by decide +kernel
theorem dX6_count_10 : decode cX6_count 10 = .ok (.new 51, 3) := by decide +kernel
theorem dX6_count_13 : decode cX6_count 13 = .ok (.dup, 1) := by decide +kernel
theorem dX6_count_14 : decode cX6_count 14 = .ok (.ldc 230, 2) := by decide +kernel
theorem dX6_count_16 : decode cX6_count 16 = .ok (.invokespecial 55, 3) := by decide +kernel
theorem dX6_count_19 : decode cX6_count 19 = .ok (.athrow, 1) := by decide +kernel
theorem dX6_count_20 : decode cX6_count 20 = .ok (.aload_n 0, 1) := by decide +kernel
theorem dX6_count_21 : decode cX6_count 21 = .ok (.getfield 12, 3) := by decide +kernel
theorem dX6_count_24 : decode cX6_count 24 = .ok (.invokevirtual 126, 3) := by decide +kernel
theorem dX6_count_27 : decode cX6_count 27 = .ok (.istore_n 2, 1) := by decide +kernel
theorem dX6_count_28 : decode cX6_count 28 = .ok (.iload_n 1, 1) := by decide +kernel
theorem dX6_count_29 : decode cX6_count 29 = .ok (.tableswitch 211 0 14 #[75, 83, 94, 105, 116, 132, 134, 145, 161, 166, 174, 182, 190, 198, 206], 75) := by decide +kernel
theorem dX6_count_104 : decode cX6_count 104 = .ok (.aload_n 0, 1) := by decide +kernel
theorem dX6_count_105 : decode cX6_count 105 = .ok (.getfield 12, 3) := by decide +kernel
theorem dX6_count_108 : decode cX6_count 108 = .ok (.getfield 62, 3) := by decide +kernel
theorem dX6_count_111 : decode cX6_count 111 = .ok (.ireturn, 1) := by decide +kernel
theorem dX6_count_112 : decode cX6_count 112 = .ok (.aload_n 0, 1) := by decide +kernel
theorem dX6_count_113 : decode cX6_count 113 = .ok (.getfield 12, 3) := by decide +kernel
theorem dX6_count_116 : decode cX6_count 116 = .ok (.getfield 66, 3) := by decide +kernel
theorem dX6_count_119 : decode cX6_count 119 = .ok (.getfield 70, 3) := by decide +kernel
theorem dX6_count_122 : decode cX6_count 122 = .ok (.ireturn, 1) := by decide +kernel
theorem dX6_count_123 : decode cX6_count 123 = .ok (.aload_n 0, 1) := by decide +kernel
theorem dX6_count_124 : decode cX6_count 124 = .ok (.getfield 12, 3) := by decide +kernel
theorem dX6_count_127 : decode cX6_count 127 = .ok (.getfield 66, 3) := by decide +kernel
theorem dX6_count_130 : decode cX6_count 130 = .ok (.getfield 232, 3) := by decide +kernel
theorem dX6_count_133 : decode cX6_count 133 = .ok (.ireturn, 1) := by decide +kernel
theorem dX6_count_134 : decode cX6_count 134 = .ok (.aload_n 0, 1) := by decide +kernel
theorem dX6_count_135 : decode cX6_count 135 = .ok (.getfield 12, 3) := by decide +kernel
theorem dX6_count_138 : decode cX6_count 138 = .ok (.getfield 66, 3) := by decide +kernel
theorem dX6_count_141 : decode cX6_count 141 = .ok (.getfield 235, 3) := by decide +kernel
theorem dX6_count_144 : decode cX6_count 144 = .ok (.ireturn, 1) := by decide +kernel
theorem dX6_count_145 : decode cX6_count 145 = .ok (.iload_n 2, 1) := by decide +kernel
theorem dX6_count_146 : decode cX6_count 146 = .ok (.ifCond .ne 13, 3) := by decide +kernel
theorem dX6_count_149 : decode cX6_count 149 = .ok (.aload_n 0, 1) := by decide +kernel
theorem dX6_count_150 : decode cX6_count 150 = .ok (.getfield 12, 3) := by decide +kernel
theorem dX6_count_153 : decode cX6_count 153 = .ok (.invokevirtual 150, 3) := by decide +kernel
theorem dX6_count_156 : decode cX6_count 156 = .ok (.goto 4, 3) := by decide +kernel
theorem dX6_count_159 : decode cX6_count 159 = .ok (.iconst 0, 1) := by decide +kernel
theorem dX6_count_160 : decode cX6_count 160 = .ok (.ireturn, 1) := by decide +kernel
theorem dX6_count_161 : decode cX6_count 161 = .ok (.iload_n 2, 1) := by decide +kernel
theorem dX6_count_162 : decode cX6_count 162 = .ok (.ireturn, 1) := by decide +kernel
theorem dX6_count_163 : decode cX6_count 163 = .ok (.aload_n 0, 1) := by decide +kernel
theorem dX6_count_164 : decode cX6_count 164 = .ok (.getfield 12, 3) := by decide +kernel
theorem dX6_count_167 : decode cX6_count 167 = .ok (.getfield 66, 3) := by decide +kernel
theorem dX6_count_170 : decode cX6_count 170 = .ok (.getfield 238, 3) := by decide +kernel
theorem dX6_count_173 : decode cX6_count 173 = .ok (.ireturn, 1) := by decide +kernel
theorem dX6_count_174 : decode cX6_count 174 = .ok (.iload_n 2, 1) := by decide +kernel
theorem dX6_count_175 : decode cX6_count 175 = .ok (.ifCond .ne 13, 3) := by decide +kernel
theorem dX6_count_178 : decode cX6_count 178 = .ok (.aload_n 0, 1) := by decide +kernel
theorem dX6_count_179 : decode cX6_count 179 = .ok (.getfield 12, 3) := by decide +kernel
theorem dX6_count_182 : decode cX6_count 182 = .ok (.invokevirtual 241, 3) := by decide +kernel
theorem dX6_count_185 : decode cX6_count 185 = .ok (.goto 4, 3) := by decide +kernel
theorem dX6_count_188 : decode cX6_count 188 = .ok (.iconst (-1), 1) := by decide +kernel
theorem dX6_count_189 : decode cX6_count 189 = .ok (.ireturn, 1) := by decide +kernel
theorem dX6_count_190 : decode cX6_count 190 = .ok (.aload_n 0, 1) := by decide +kernel
theorem dX6_count_191 : decode cX6_count 191 = .ok (.invokevirtual 244, 3) := by decide +kernel
theorem dX6_count_194 : decode cX6_count 194 = .ok (.ireturn, 1) := by decide +kernel
theorem dX6_count_195 : decode cX6_count 195 = .ok (.aload_n 0, 1) := by decide +kernel
theorem dX6_count_196 : decode cX6_count 196 = .ok (.getfield 12, 3) := by decide +kernel
theorem dX6_count_199 : decode cX6_count 199 = .ok (.invokevirtual 203, 3) := by decide +kernel
theorem dX6_count_202 : decode cX6_count 202 = .ok (.ireturn, 1) := by decide +kernel
theorem dX6_count_203 : decode cX6_count 203 = .ok (.aload_n 0, 1) := by decide +kernel
theorem dX6_count_204 : decode cX6_count 204 = .ok (.getfield 12, 3) := by decide +kernel
theorem dX6_count_207 : decode cX6_count 207 = .ok (.getfield 247, 3) := by decide +kernel
theorem dX6_count_210 : decode cX6_count 210 = .ok (.ireturn, 1) := by decide +kernel
theorem dX6_count_211 : decode cX6_count 211 = .ok (.aload_n 0, 1) := by decide +kernel
theorem dX6_count_212 : decode cX6_count 212 = .ok (.getfield 12, 3) := by decide +kernel
theorem dX6_count_215 : decode cX6_count 215 = .ok (.getfield 250, 3) := by decide +kernel
theorem dX6_count_218 : decode cX6_count 218 = .ok (.ireturn, 1) := by decide +kernel
theorem dX6_count_219 : decode cX6_count 219 = .ok (.aload_n 0, 1) := by decide +kernel
theorem dX6_count_220 : decode cX6_count 220 = .ok (.getfield 12, 3) := by decide +kernel
theorem dX6_count_223 : decode cX6_count 223 = .ok (.getfield 253, 3) := by decide +kernel
theorem dX6_count_226 : decode cX6_count 226 = .ok (.ireturn, 1) := by decide +kernel
theorem dX6_count_227 : decode cX6_count 227 = .ok (.aload_n 0, 1) := by decide +kernel
theorem dX6_count_228 : decode cX6_count 228 = .ok (.getfield 12, 3) := by decide +kernel
theorem dX6_count_231 : decode cX6_count 231 = .ok (.getfield 256, 3) := by decide +kernel
theorem dX6_count_234 : decode cX6_count 234 = .ok (.ireturn, 1) := by decide +kernel
theorem dX6_count_235 : decode cX6_count 235 = .ok (.aload_n 0, 1) := by decide +kernel
theorem dX6_count_236 : decode cX6_count 236 = .ok (.invokevirtual 259, 3) := by decide +kernel
theorem dX6_count_239 : decode cX6_count 239 = .ok (.ireturn, 1) := by decide +kernel
theorem dX6_count_240 : decode cX6_count 240 = .ok (.aload_n 0, 1) := by decide +kernel
theorem dX6_count_241 : decode cX6_count 241 = .ok (.getfield 22, 3) := by decide +kernel
theorem dX6_count_244 : decode cX6_count 244 = .ok (.getfield 195, 3) := by decide +kernel
theorem dX6_count_247 : decode cX6_count 247 = .ok (.ireturn, 1) := by decide +kernel
set_option maxRecDepth 20000 in
theorem ggX6_weightShare_X4_weight : GoodIn wsX6_weightShare wsX4_weight := goodIn_r _ [7, 8, 9, 10, 11, 12, 13, 14, 15, 16, 17, 18, 19, 20, 21, 22, 23, 24, 25, 26, 27, 28, 29, 37, 38, 39, 40, 41, 42, 43, 44, 45, 46, 47, 48, 49, 50, 51, 52] (by decide +kernel) (by decide +kernel)
set_option maxRecDepth 20000 in
theorem gX6_weightShare_X4_weight : GoodIn wsX6_weightShare (wsV RX6 262 RX4 yX4_weight wsX4_weight) := goodIn_app (goodIn_of _ (by decide +kernel)) ggX6_weightShare_X4_weight
theorem dX6_weightShare_0 : decode cX6_weightShare 0 = .ok (.aload_n 0, 1) := by decide +kernel
theorem dX6_weightShare_1 : decode cX6_weightShare 1 = .ok (.getfield 12, 3) := by decide +kernel
theorem dX6_weightShare_4 : decode cX6_weightShare 4 = .ok (.invokevirtual 262, 3) := by decide +kernel
theorem dX6_weightShare_7 : decode cX6_weightShare 7 = .ok (.i2d, 1) := by decide +kernel
theorem dX6_weightShare_8 : decode cX6_weightShare 8 = .ok (.ldc2_w 264, 3) := by decide +kernel
theorem dX6_weightShare_11 : decode cX6_weightShare 11 = .ok (.ddiv, 1) := by decide +kernel
theorem dX6_weightShare_12 : decode cX6_weightShare 12 = .ok (.dreturn, 1) := by decide +kernel
set_option maxRecDepth 20000 in
theorem ggX6_digest_X6_count : GoodIn wsX6_digest wsX6_count := goodIn_ca (goodIn_r _ [12, 13, 14, 3, 6, 4, 5, 15, 16, 17, 18, 19, 20, 21, 22, 23, 24, 25, 26, 27, 28, 29, 30, 31, 32, 33, 34, 35, 36, 37, 38, 39, 40, 41, 42, 43, 44, 45, 46, 47, 48, 49, 50, 51, 52, 53, 54, 55, 56, 57, 58, 59, 60, 61, 11, 62, 63, 64, 65, 66, 67, 68, 69, 70, 71, 72, 73, 74, 75, 76, 77, 78, 79, 80, 81, 82, 83, 84, 85, 86, 87, 88, 89, 90, 91, 92, 93, 94, 95, 96, 97, 98, 99, 100, 101, 102, 103, 104, 105, 106, 107, 108, 109, 110, 111, 112, 113, 114, 115, 116, 117, 118, 119, 120, 121, 122, 123, 124, 125, 126, 127, 128, 129, 130, 310, 311, 312, 313, 314, 315, 316, 317, 318, 319, 320, 321, 322, 323, 324, 325, 326, 327, 328, 329, 330, 331, 332, 333, 334, 335, 336, 337, 338, 339, 340] (by decide +kernel) (by decide +kernel)) (goodIn_sub (fun _ h => List.mem_cons_of_mem _ (List.mem_append_left _ (List.mem_append_right _ h))) (by decide +kernel))
set_option maxRecDepth 20000 in
theorem gX6_digest_X6_count : GoodIn wsX6_digest (wsV RX6 270 RX6 yX6_count wsX6_count) := goodIn_app (goodIn_of _ (by decide +kernel)) ggX6_digest_X6_count
set_option maxRecDepth 20000 in
theorem ggX6_digest_X6_line : GoodIn wsX6_digest wsX6_line := goodIn_ca (goodIn_ca (goodIn_r _ [134, 135, 136, 13, 14, 3, 4, 137, 138, 139, 96, 97, 36, 98, 41, 42, 140, 100, 101, 102, 117, 118, 119, 27, 120, 30, 31, 121, 122, 123, 124, 125, 141, 45, 46, 47, 48, 49, 50, 310, 311, 312, 313, 314, 315, 316, 317, 318, 319, 320, 321, 322, 323, 324, 325, 326, 327, 328, 329, 330, 331, 332] (by decide +kernel) (by decide +kernel)) (goodIn_sub (fun _ h => List.mem_cons_of_mem _ (List.mem_append_right _ h)) (by decide +kernel))) (goodIn_sub (fun _ h => List.mem_cons_of_mem _ (List.mem_append_left _ (List.mem_append_right _ h))) (by decide +kernel))
set_option maxRecDepth 20000 in
theorem gX6_digest_X6_line : GoodIn wsX6_digest (wsV RX6 273 RX6 yX6_line wsX6_line) := goodIn_app (goodIn_of _ (by decide +kernel)) ggX6_digest_X6_line
set_option maxRecDepth 20000 in
theorem ggX6_digest_X6_cell : GoodIn wsX6_digest wsX6_cell := goodIn_ca (goodIn_ca (goodIn_r _ [145, 135, 136, 13, 14, 3, 4, 137, 146, 147, 148, 27, 149, 125, 150, 151, 152, 153, 30, 154, 155, 156, 157, 158, 118, 119, 120, 31, 121, 122, 123, 124, 159, 160, 161, 162, 29, 163, 164, 165, 36, 166, 41, 42, 44, 45, 46, 47, 48, 49, 50, 167, 168, 169, 11, 170, 67, 70, 71, 72, 73, 74, 75, 76, 77, 78, 79, 80, 81, 82, 83, 84, 85, 86, 87, 88, 89, 90, 91, 92, 93, 94, 95, 96, 97, 98, 99, 100, 101, 102, 103, 104, 105, 106, 107, 108, 109, 110, 111, 112, 113, 114, 115, 116, 171, 172, 173, 174, 61, 62, 175, 176, 177, 178, 310, 311, 312, 313, 314, 315, 316, 317, 318, 319, 320, 321, 322, 323, 324, 325, 326, 327, 328, 329, 330, 331, 332, 335, 336, 337, 338, 339, 340] (by decide +kernel) (by decide +kernel)) (goodIn_sub (fun _ h => List.mem_cons_of_mem _ (List.mem_append_right _ h)) (by decide +kernel))) (goodIn_sub (fun _ h => List.mem_cons_of_mem _ (List.mem_append_left _ (List.mem_append_right _ h))) (by decide +kernel))
set_option maxRecDepth 20000 in
theorem gX6_digest_X6_cell : GoodIn wsX6_digest (wsV RX6 276 RX6 yX6_cell wsX6_cell) := goodIn_app (goodIn_of _ (by decide +kernel)) ggX6_digest_X6_cell
set_option maxRecDepth 20000 in
theorem ggX6_digest_X6_ifMoved : GoodIn wsX6_digest wsX6_ifMoved := goodIn_ca (goodIn_r _ [182, 135, 136, 3, 183, 184, 146, 147, 148, 27, 149, 125, 24, 25, 26, 28, 29, 30, 31, 32, 33, 34, 35, 36, 37, 38, 39, 40, 41, 42, 43, 44, 45, 46, 47, 48, 49, 50, 185, 155, 156, 157, 158, 118, 119, 120, 121, 122, 123, 124, 186, 187, 188, 189, 55, 190, 191, 192, 88, 89, 90, 193, 194, 195, 196, 197, 198, 199, 200, 201, 202, 203, 204, 205, 206, 207, 208, 209, 210, 211, 212, 213, 214, 215, 216, 217, 218, 219, 220, 84, 85, 86, 221, 222, 223, 224, 225, 226, 227, 228, 229, 230, 231, 232, 233, 234, 235, 236, 237, 238, 239, 240, 241, 242, 243, 244, 245, 246, 247, 248, 249, 250, 251, 252, 253, 254, 255, 310, 311, 312, 313, 314, 315, 316, 317, 318, 319, 320, 321, 322, 323, 324, 325, 326, 327, 328, 329, 330, 331, 332, 341, 342, 343, 344, 345, 346] (by decide +kernel) (by decide +kernel)) (goodIn_sub (fun _ h => List.mem_cons_of_mem _ (List.mem_append_right _ h)) (by decide +kernel))
set_option maxRecDepth 20000 in
theorem gX6_digest_X6_ifMoved : GoodIn wsX6_digest (wsV RX6 279 RX6 yX6_ifMoved wsX6_ifMoved) := goodIn_app (goodIn_of _ (by decide +kernel)) ggX6_digest_X6_ifMoved
set_option maxRecDepth 20000 in
theorem ggX6_digest_X6_reply : GoodIn wsX6_digest wsX6_reply := goodIn_ca (goodIn_r _ [259, 13, 14, 3, 260, 261, 11, 262, 24, 25, 26, 27, 28, 29, 30, 31, 32, 33, 34, 35, 36, 37, 38, 39, 40, 41, 42, 43, 44, 45, 46, 47, 48, 49, 50, 263, 264, 265, 266, 184, 267, 117, 118, 119, 120, 121, 122, 123, 124, 125, 268, 61, 62, 269, 270, 271, 204, 272, 208, 206, 207, 209, 210, 211, 212, 213, 214, 215, 216, 217, 218, 219, 220, 84, 85, 86, 221, 88, 89, 90, 273, 222, 223, 224, 225, 226, 227, 228, 229, 230, 231, 232, 233, 234, 235, 236, 237, 238, 239, 240, 241, 242, 243, 244, 245, 246, 247, 248, 249, 250, 251, 252, 253, 254, 255, 274, 275, 276, 56, 57, 58, 59, 60, 277, 278, 279, 280, 158, 163, 164, 165, 166, 310, 311, 312, 313, 314, 315, 316, 317, 318, 319, 320, 321, 322, 323, 324, 325, 326, 327, 328, 329, 330, 331, 332, 341, 342, 343, 344, 345, 346] (by decide +kernel) (by decide +kernel)) (goodIn_sub (fun _ h => List.mem_cons_of_mem _ (List.mem_append_left _ (List.mem_append_right _ h))) (by decide +kernel))
set_option maxRecDepth 20000 in
theorem gX6_digest_X6_reply : GoodIn wsX6_digest (wsV RX6 282 RX6 yX6_reply wsX6_reply) := goodIn_app (goodIn_of _ (by decide +kernel)) ggX6_digest_X6_reply
set_option maxRecDepth 20000 in
theorem ggX6_digest_X6_solved : GoodIn wsX6_digest wsX6_solved := goodIn_ca (goodIn_r _ [284, 13, 14, 3, 184, 24, 25, 26, 27, 28, 29, 30, 31, 32, 33, 34, 35, 36, 37, 38, 39, 40, 41, 42, 43, 44, 45, 46, 47, 48, 49, 50, 201, 202, 203, 204, 205, 206, 207, 208, 209, 210, 211, 212, 213, 214, 215, 216, 217, 218, 219, 122, 123, 124, 125, 220, 84, 85, 86, 221, 88, 89, 90, 222, 223, 224, 225, 226, 227, 228, 229, 230, 231, 232, 233, 234, 235, 236, 237, 238, 239, 240, 241, 242, 243, 244, 245, 246, 247, 248, 249, 250, 251, 252, 253, 254, 255, 117, 118, 119, 120, 121, 141, 310, 311, 312, 313, 314, 315, 316, 317, 318, 319, 320, 321, 322, 323, 324, 325, 326, 327, 328, 329, 330, 331, 332, 341, 342, 343, 344, 345, 346] (by decide +kernel) (by decide +kernel)) (goodIn_sub (fun _ h => List.mem_cons_of_mem _ (List.mem_append_left _ (List.mem_append_right _ h))) (by decide +kernel))
set_option maxRecDepth 20000 in
theorem gX6_digest_X6_solved : GoodIn wsX6_digest (wsV RX6 285 RX6 yX6_solved wsX6_solved) := goodIn_app (goodIn_of _ (by decide +kernel)) ggX6_digest_X6_solved
set_option maxRecDepth 20000 in
theorem ggX6_digest_X6_ifPlayed : GoodIn wsX6_digest wsX6_ifPlayed := goodIn_ca (goodIn_r _ [288, 13, 14, 183, 3, 260, 261, 11, 262, 186, 187, 188, 27, 189, 29, 125, 30, 31, 55, 190, 191, 192, 88, 89, 36, 90, 41, 42, 289, 290, 291, 292, 293, 67, 24, 25, 26, 28, 32, 33, 34, 35, 37, 38, 39, 40, 43, 44, 45, 46, 47, 48, 49, 50, 263, 264, 265, 266, 184, 267, 117, 118, 119, 120, 121, 122, 123, 124, 268, 61, 62, 269, 270, 271, 204, 272, 208, 206, 207, 209, 210, 211, 212, 213, 214, 215, 216, 217, 218, 219, 220, 84, 85, 86, 221, 273, 222, 223, 224, 225, 226, 227, 228, 229, 230, 231, 232, 233, 234, 235, 236, 237, 238, 239, 240, 241, 242, 243, 244, 245, 246, 247, 248, 249, 250, 251, 252, 253, 254, 255, 274, 275, 276, 56, 57, 58, 59, 60, 277, 278, 279, 280, 158, 163, 164, 165, 166, 70, 71, 72, 73, 74, 75, 76, 77, 78, 79, 80, 81, 82, 83, 87, 91, 92, 93, 94, 95, 96, 97, 98, 99, 100, 101, 102, 103, 104, 105, 106, 107, 108, 109, 110, 111, 112, 113, 114, 115, 116, 171, 172, 173, 174, 193, 194, 195, 196, 197, 198, 199, 200, 310, 311, 312, 313, 314, 315, 316, 317, 318, 319, 320, 321, 322, 323, 324, 325, 326, 327, 328, 329, 330, 331, 332, 341, 342, 343, 344, 345, 346, 335, 336, 337, 338, 339, 340] (by decide +kernel) (by decide +kernel)) (goodIn_sub (fun _ h => List.mem_cons_of_mem _ (List.mem_append_left _ (List.mem_append_right _ h))) (by decide +kernel))
set_option maxRecDepth 20000 in
theorem gX6_digest_X6_ifPlayed : GoodIn wsX6_digest (wsV RX6 288 RX6 yX6_ifPlayed wsX6_ifPlayed) := goodIn_app (goodIn_of _ (by decide +kernel)) ggX6_digest_X6_ifPlayed
set_option maxRecDepth 20000 in
theorem ggX6_digest_X4_weight : GoodIn wsX6_digest wsX4_weight := goodIn_r _ [297, 29, 30, 31, 298, 33, 34, 35, 36, 37, 38, 39, 40, 41, 42, 43, 44, 45, 46, 47, 48, 49, 50, 317, 318, 319, 320, 321, 322, 323, 324, 325, 326, 327, 328, 329, 330, 331, 332] (by decide +kernel) (by decide +kernel)
set_option maxRecDepth 20000 in
theorem gX6_digest_X4_weight : GoodIn wsX6_digest (wsV RX6 262 RX4 yX4_weight wsX4_weight) := goodIn_app (goodIn_of _ (by decide +kernel)) ggX6_digest_X4_weight
set_option maxRecDepth 20000 in
theorem ggX6_digest_X6_shareBits : GoodIn wsX6_digest wsX6_shareBits := goodIn_r _ [301] (by decide +kernel) (by decide +kernel)
set_option maxRecDepth 20000 in
theorem gX6_digest_X6_shareBits : GoodIn wsX6_digest (va_wsS RX6 291 yX6_shareBits wsX6_shareBits) := goodIn_app (goodIn_of _ (by decide +kernel)) ggX6_digest_X6_shareBits
set_option maxRecDepth 20000 in
theorem ggX6_digest_X5_hashOnto : GoodIn wsX6_digest wsX5_hashOnto := goodIn_r _ [306, 307, 308, 309, 347, 348] (by decide +kernel) (by decide +kernel)
set_option maxRecDepth 20000 in
theorem gX6_digest_X5_hashOnto : GoodIn wsX6_digest (wsV RX6 295 RX5 yX5_hashOnto wsX5_hashOnto) := goodIn_app (goodIn_of _ (by decide +kernel)) ggX6_digest_X5_hashOnto
theorem dX6_digest_0 : decode cX6_digest 0 = .ok (.ldc2_w 266, 3) := by decide +kernel
theorem dX6_digest_3 : decode cX6_digest 3 = .ok (.lstore_n 1, 1) := by decide +kernel
theorem dX6_digest_4 : decode cX6_digest 4 = .ok (.iconst 0, 1) := by decide +kernel
theorem dX6_digest_5 : decode cX6_digest 5 = .ok (.istore_n 3, 1) := by decide +kernel
theorem dX6_digest_6 : decode cX6_digest 6 = .ok (.iload_n 3, 1) := by decide +kernel
theorem dX6_digest_7 : decode cX6_digest 7 = .ok (.bipush 16, 2) := by decide +kernel
theorem dX6_digest_9 : decode cX6_digest 9 = .ok (.if_icmp .ge 22, 3) := by decide +kernel
theorem dX6_digest_12 : decode cX6_digest 12 = .ok (.ldc2_w 268, 3) := by decide +kernel
theorem dX6_digest_15 : decode cX6_digest 15 = .ok (.lload_n 1, 1) := by decide +kernel
theorem dX6_digest_16 : decode cX6_digest 16 = .ok (.lmul, 1) := by decide +kernel
theorem dX6_digest_17 : decode cX6_digest 17 = .ok (.aload_n 0, 1) := by decide +kernel
theorem dX6_digest_18 : decode cX6_digest 18 = .ok (.iload_n 3, 1) := by decide +kernel
theorem dX6_digest_19 : decode cX6_digest 19 = .ok (.invokevirtual 270, 3) := by decide +kernel
theorem dX6_digest_22 : decode cX6_digest 22 = .ok (.i2l, 1) := by decide +kernel
theorem dX6_digest_23 : decode cX6_digest 23 = .ok (.ladd, 1) := by decide +kernel
theorem dX6_digest_24 : decode cX6_digest 24 = .ok (.lstore_n 1, 1) := by decide +kernel
theorem dX6_digest_25 : decode cX6_digest 25 = .ok (.iinc 3 1, 3) := by decide +kernel
theorem dX6_digest_28 : decode cX6_digest 28 = .ok (.goto (-22), 3) := by decide +kernel
theorem dX6_digest_31 : decode cX6_digest 31 = .ok (.iconst 0, 1) := by decide +kernel
theorem dX6_digest_32 : decode cX6_digest 32 = .ok (.istore_n 3, 1) := by decide +kernel
theorem dX6_digest_33 : decode cX6_digest 33 = .ok (.iload_n 3, 1) := by decide +kernel
theorem dX6_digest_34 : decode cX6_digest 34 = .ok (.aload_n 0, 1) := by decide +kernel
theorem dX6_digest_35 : decode cX6_digest 35 = .ok (.getfield 12, 3) := by decide +kernel
theorem dX6_digest_38 : decode cX6_digest 38 = .ok (.getfield 66, 3) := by decide +kernel
theorem dX6_digest_41 : decode cX6_digest 41 = .ok (.getfield 70, 3) := by decide +kernel
theorem dX6_digest_44 : decode cX6_digest 44 = .ok (.if_icmp .ge 39, 3) := by decide +kernel
theorem dX6_digest_47 : decode cX6_digest 47 = .ok (.iconst 0, 1) := by decide +kernel
theorem dX6_digest_48 : decode cX6_digest 48 = .ok (.istore 4, 2) := by decide +kernel
theorem dX6_digest_50 : decode cX6_digest 50 = .ok (.iload 4, 2) := by decide +kernel
theorem dX6_digest_52 : decode cX6_digest 52 = .ok (.iconst 5, 1) := by decide +kernel
theorem dX6_digest_53 : decode cX6_digest 53 = .ok (.if_icmp .ge 24, 3) := by decide +kernel
theorem dX6_digest_56 : decode cX6_digest 56 = .ok (.ldc2_w 268, 3) := by decide +kernel
theorem dX6_digest_59 : decode cX6_digest 59 = .ok (.lload_n 1, 1) := by decide +kernel
theorem dX6_digest_60 : decode cX6_digest 60 = .ok (.lmul, 1) := by decide +kernel
theorem dX6_digest_61 : decode cX6_digest 61 = .ok (.aload_n 0, 1) := by decide +kernel
theorem dX6_digest_62 : decode cX6_digest 62 = .ok (.iload_n 3, 1) := by decide +kernel
theorem dX6_digest_63 : decode cX6_digest 63 = .ok (.iload 4, 2) := by decide +kernel
theorem dX6_digest_65 : decode cX6_digest 65 = .ok (.invokevirtual 273, 3) := by decide +kernel
theorem dX6_digest_68 : decode cX6_digest 68 = .ok (.i2l, 1) := by decide +kernel
theorem dX6_digest_69 : decode cX6_digest 69 = .ok (.ladd, 1) := by decide +kernel
theorem dX6_digest_70 : decode cX6_digest 70 = .ok (.lstore_n 1, 1) := by decide +kernel
theorem dX6_digest_71 : decode cX6_digest 71 = .ok (.iinc 4 1, 3) := by decide +kernel
theorem dX6_digest_74 : decode cX6_digest 74 = .ok (.goto (-24), 3) := by decide +kernel
theorem dX6_digest_77 : decode cX6_digest 77 = .ok (.iinc 3 1, 3) := by decide +kernel
theorem dX6_digest_80 : decode cX6_digest 80 = .ok (.goto (-47), 3) := by decide +kernel
theorem dX6_digest_83 : decode cX6_digest 83 = .ok (.iconst 0, 1) := by decide +kernel
theorem dX6_digest_84 : decode cX6_digest 84 = .ok (.istore_n 3, 1) := by decide +kernel
theorem dX6_digest_85 : decode cX6_digest 85 = .ok (.iload_n 3, 1) := by decide +kernel
theorem dX6_digest_86 : decode cX6_digest 86 = .ok (.aload_n 0, 1) := by decide +kernel
theorem dX6_digest_87 : decode cX6_digest 87 = .ok (.getfield 12, 3) := by decide +kernel
theorem dX6_digest_90 : decode cX6_digest 90 = .ok (.getfield 62, 3) := by decide +kernel
theorem dX6_digest_93 : decode cX6_digest 93 = .ok (.if_icmp .ge 52, 3) := by decide +kernel
theorem dX6_digest_96 : decode cX6_digest 96 = .ok (.iconst 0, 1) := by decide +kernel
theorem dX6_digest_97 : decode cX6_digest 97 = .ok (.istore 4, 2) := by decide +kernel
theorem dX6_digest_99 : decode cX6_digest 99 = .ok (.iload 4, 2) := by decide +kernel
theorem dX6_digest_101 : decode cX6_digest 101 = .ok (.iconst 4, 1) := by decide +kernel
theorem dX6_digest_102 : decode cX6_digest 102 = .ok (.if_icmp .ge 24, 3) := by decide +kernel
theorem dX6_digest_105 : decode cX6_digest 105 = .ok (.ldc2_w 268, 3) := by decide +kernel
theorem dX6_digest_108 : decode cX6_digest 108 = .ok (.lload_n 1, 1) := by decide +kernel
theorem dX6_digest_109 : decode cX6_digest 109 = .ok (.lmul, 1) := by decide +kernel
theorem dX6_digest_110 : decode cX6_digest 110 = .ok (.aload_n 0, 1) := by decide +kernel
theorem dX6_digest_111 : decode cX6_digest 111 = .ok (.iload_n 3, 1) := by decide +kernel
theorem dX6_digest_112 : decode cX6_digest 112 = .ok (.iload 4, 2) := by decide +kernel
theorem dX6_digest_114 : decode cX6_digest 114 = .ok (.invokevirtual 276, 3) := by decide +kernel
theorem dX6_digest_117 : decode cX6_digest 117 = .ok (.i2l, 1) := by decide +kernel
theorem dX6_digest_118 : decode cX6_digest 118 = .ok (.ladd, 1) := by decide +kernel
theorem dX6_digest_119 : decode cX6_digest 119 = .ok (.lstore_n 1, 1) := by decide +kernel
theorem dX6_digest_120 : decode cX6_digest 120 = .ok (.iinc 4 1, 3) := by decide +kernel
theorem dX6_digest_123 : decode cX6_digest 123 = .ok (.goto (-24), 3) := by decide +kernel
theorem dX6_digest_126 : decode cX6_digest 126 = .ok (.ldc2_w 268, 3) := by decide +kernel
theorem dX6_digest_129 : decode cX6_digest 129 = .ok (.lload_n 1, 1) := by decide +kernel
theorem dX6_digest_130 : decode cX6_digest 130 = .ok (.lmul, 1) := by decide +kernel
theorem dX6_digest_131 : decode cX6_digest 131 = .ok (.aload_n 0, 1) := by decide +kernel
theorem dX6_digest_132 : decode cX6_digest 132 = .ok (.iload_n 3, 1) := by decide +kernel
theorem dX6_digest_133 : decode cX6_digest 133 = .ok (.invokevirtual 279, 3) := by decide +kernel
theorem dX6_digest_136 : decode cX6_digest 136 = .ok (.i2l, 1) := by decide +kernel
theorem dX6_digest_137 : decode cX6_digest 137 = .ok (.ladd, 1) := by decide +kernel
theorem dX6_digest_138 : decode cX6_digest 138 = .ok (.lstore_n 1, 1) := by decide +kernel
theorem dX6_digest_139 : decode cX6_digest 139 = .ok (.iinc 3 1, 3) := by decide +kernel
theorem dX6_digest_142 : decode cX6_digest 142 = .ok (.goto (-57), 3) := by decide +kernel
theorem dX6_digest_145 : decode cX6_digest 145 = .ok (.iconst 0, 1) := by decide +kernel
theorem dX6_digest_146 : decode cX6_digest 146 = .ok (.istore_n 3, 1) := by decide +kernel
theorem dX6_digest_147 : decode cX6_digest 147 = .ok (.iload_n 3, 1) := by decide +kernel
theorem dX6_digest_148 : decode cX6_digest 148 = .ok (.iconst 3, 1) := by decide +kernel
theorem dX6_digest_149 : decode cX6_digest 149 = .ok (.if_icmp .gt 22, 3) := by decide +kernel
theorem dX6_digest_152 : decode cX6_digest 152 = .ok (.ldc2_w 268, 3) := by decide +kernel
theorem dX6_digest_155 : decode cX6_digest 155 = .ok (.lload_n 1, 1) := by decide +kernel
theorem dX6_digest_156 : decode cX6_digest 156 = .ok (.lmul, 1) := by decide +kernel
theorem dX6_digest_157 : decode cX6_digest 157 = .ok (.aload_n 0, 1) := by decide +kernel
theorem dX6_digest_158 : decode cX6_digest 158 = .ok (.iload_n 3, 1) := by decide +kernel
theorem dX6_digest_159 : decode cX6_digest 159 = .ok (.invokevirtual 282, 3) := by decide +kernel
theorem dX6_digest_162 : decode cX6_digest 162 = .ok (.i2l, 1) := by decide +kernel
theorem dX6_digest_163 : decode cX6_digest 163 = .ok (.ladd, 1) := by decide +kernel
theorem dX6_digest_164 : decode cX6_digest 164 = .ok (.lstore_n 1, 1) := by decide +kernel
theorem dX6_digest_165 : decode cX6_digest 165 = .ok (.iinc 3 1, 3) := by decide +kernel
theorem dX6_digest_168 : decode cX6_digest 168 = .ok (.goto (-21), 3) := by decide +kernel
theorem dX6_digest_171 : decode cX6_digest 171 = .ok (.ldc2_w 268, 3) := by decide +kernel
theorem dX6_digest_174 : decode cX6_digest 174 = .ok (.lload_n 1, 1) := by decide +kernel
theorem dX6_digest_175 : decode cX6_digest 175 = .ok (.lmul, 1) := by decide +kernel
theorem dX6_digest_176 : decode cX6_digest 176 = .ok (.aload_n 0, 1) := by decide +kernel
theorem dX6_digest_177 : decode cX6_digest 177 = .ok (.iconst 0, 1) := by decide +kernel
theorem dX6_digest_178 : decode cX6_digest 178 = .ok (.invokevirtual 285, 3) := by decide +kernel
theorem dX6_digest_181 : decode cX6_digest 181 = .ok (.i2l, 1) := by decide +kernel
theorem dX6_digest_182 : decode cX6_digest 182 = .ok (.ladd, 1) := by decide +kernel
theorem dX6_digest_183 : decode cX6_digest 183 = .ok (.lstore_n 1, 1) := by decide +kernel
theorem dX6_digest_184 : decode cX6_digest 184 = .ok (.ldc2_w 268, 3) := by decide +kernel
theorem dX6_digest_187 : decode cX6_digest 187 = .ok (.lload_n 1, 1) := by decide +kernel
theorem dX6_digest_188 : decode cX6_digest 188 = .ok (.lmul, 1) := by decide +kernel
theorem dX6_digest_189 : decode cX6_digest 189 = .ok (.aload_n 0, 1) := by decide +kernel
theorem dX6_digest_190 : decode cX6_digest 190 = .ok (.iconst 1, 1) := by decide +kernel
theorem dX6_digest_191 : decode cX6_digest 191 = .ok (.invokevirtual 285, 3) := by decide +kernel
theorem dX6_digest_194 : decode cX6_digest 194 = .ok (.i2l, 1) := by decide +kernel
theorem dX6_digest_195 : decode cX6_digest 195 = .ok (.ladd, 1) := by decide +kernel
theorem dX6_digest_196 : decode cX6_digest 196 = .ok (.lstore_n 1, 1) := by decide +kernel
theorem dX6_digest_197 : decode cX6_digest 197 = .ok (.ldc2_w 268, 3) := by decide +kernel
theorem dX6_digest_200 : decode cX6_digest 200 = .ok (.lload_n 1, 1) := by decide +kernel
theorem dX6_digest_201 : decode cX6_digest 201 = .ok (.lmul, 1) := by decide +kernel
theorem dX6_digest_202 : decode cX6_digest 202 = .ok (.aload_n 0, 1) := by decide +kernel
theorem dX6_digest_203 : decode cX6_digest 203 = .ok (.iconst 1, 1) := by decide +kernel
theorem dX6_digest_204 : decode cX6_digest 204 = .ok (.iconst 1, 1) := by decide +kernel
theorem dX6_digest_205 : decode cX6_digest 205 = .ok (.invokevirtual 288, 3) := by decide +kernel
theorem dX6_digest_208 : decode cX6_digest 208 = .ok (.i2l, 1) := by decide +kernel
theorem dX6_digest_209 : decode cX6_digest 209 = .ok (.ladd, 1) := by decide +kernel
theorem dX6_digest_210 : decode cX6_digest 210 = .ok (.lstore_n 1, 1) := by decide +kernel
theorem dX6_digest_211 : decode cX6_digest 211 = .ok (.ldc2_w 268, 3) := by decide +kernel
theorem dX6_digest_214 : decode cX6_digest 214 = .ok (.lload_n 1, 1) := by decide +kernel
theorem dX6_digest_215 : decode cX6_digest 215 = .ok (.lmul, 1) := by decide +kernel
theorem dX6_digest_216 : decode cX6_digest 216 = .ok (.aload_n 0, 1) := by decide +kernel
theorem dX6_digest_217 : decode cX6_digest 217 = .ok (.iconst 1, 1) := by decide +kernel
theorem dX6_digest_218 : decode cX6_digest 218 = .ok (.iconst 2, 1) := by decide +kernel
theorem dX6_digest_219 : decode cX6_digest 219 = .ok (.invokevirtual 288, 3) := by decide +kernel
theorem dX6_digest_222 : decode cX6_digest 222 = .ok (.i2l, 1) := by decide +kernel
theorem dX6_digest_223 : decode cX6_digest 223 = .ok (.ladd, 1) := by decide +kernel
theorem dX6_digest_224 : decode cX6_digest 224 = .ok (.lstore_n 1, 1) := by decide +kernel
theorem dX6_digest_225 : decode cX6_digest 225 = .ok (.ldc2_w 268, 3) := by decide +kernel
theorem dX6_digest_228 : decode cX6_digest 228 = .ok (.lload_n 1, 1) := by decide +kernel
theorem dX6_digest_229 : decode cX6_digest 229 = .ok (.lmul, 1) := by decide +kernel
theorem dX6_digest_230 : decode cX6_digest 230 = .ok (.aload_n 0, 1) := by decide +kernel
theorem dX6_digest_231 : decode cX6_digest 231 = .ok (.iconst 2, 1) := by decide +kernel
theorem dX6_digest_232 : decode cX6_digest 232 = .ok (.iconst 3, 1) := by decide +kernel
theorem dX6_digest_233 : decode cX6_digest 233 = .ok (.invokevirtual 288, 3) := by decide +kernel
theorem dX6_digest_236 : decode cX6_digest 236 = .ok (.i2l, 1) := by decide +kernel
theorem dX6_digest_237 : decode cX6_digest 237 = .ok (.ladd, 1) := by decide +kernel
theorem dX6_digest_238 : decode cX6_digest 238 = .ok (.lstore_n 1, 1) := by decide +kernel
theorem dX6_digest_239 : decode cX6_digest 239 = .ok (.ldc2_w 268, 3) := by decide +kernel
theorem dX6_digest_242 : decode cX6_digest 242 = .ok (.lload_n 1, 1) := by decide +kernel
theorem dX6_digest_243 : decode cX6_digest 243 = .ok (.lmul, 1) := by decide +kernel
theorem dX6_digest_244 : decode cX6_digest 244 = .ok (.aload_n 0, 1) := by decide +kernel
theorem dX6_digest_245 : decode cX6_digest 245 = .ok (.iconst 3, 1) := by decide +kernel
theorem dX6_digest_246 : decode cX6_digest 246 = .ok (.iconst 1, 1) := by decide +kernel
theorem dX6_digest_247 : decode cX6_digest 247 = .ok (.invokevirtual 288, 3) := by decide +kernel
theorem dX6_digest_250 : decode cX6_digest 250 = .ok (.i2l, 1) := by decide +kernel
theorem dX6_digest_251 : decode cX6_digest 251 = .ok (.ladd, 1) := by decide +kernel
theorem dX6_digest_252 : decode cX6_digest 252 = .ok (.lstore_n 1, 1) := by decide +kernel
theorem dX6_digest_253 : decode cX6_digest 253 = .ok (.ldc2_w 268, 3) := by decide +kernel
theorem dX6_digest_256 : decode cX6_digest 256 = .ok (.lload_n 1, 1) := by decide +kernel
theorem dX6_digest_257 : decode cX6_digest 257 = .ok (.lmul, 1) := by decide +kernel
theorem dX6_digest_258 : decode cX6_digest 258 = .ok (.aload_n 0, 1) := by decide +kernel
theorem dX6_digest_259 : decode cX6_digest 259 = .ok (.getfield 12, 3) := by decide +kernel
theorem dX6_digest_262 : decode cX6_digest 262 = .ok (.invokevirtual 262, 3) := by decide +kernel
theorem dX6_digest_265 : decode cX6_digest 265 = .ok (.invokestatic 291, 3) := by decide +kernel
theorem dX6_digest_268 : decode cX6_digest 268 = .ok (.ladd, 1) := by decide +kernel
theorem dX6_digest_269 : decode cX6_digest 269 = .ok (.lstore_n 1, 1) := by decide +kernel
theorem dX6_digest_270 : decode cX6_digest 270 = .ok (.aload_n 0, 1) := by decide +kernel
theorem dX6_digest_271 : decode cX6_digest 271 = .ok (.getfield 33, 3) := by decide +kernel
theorem dX6_digest_274 : decode cX6_digest 274 = .ok (.lload_n 1, 1) := by decide +kernel
theorem dX6_digest_275 : decode cX6_digest 275 = .ok (.invokevirtual 295, 3) := by decide +kernel
theorem dX6_digest_278 : decode cX6_digest 278 = .ok (.lreturn, 1) := by decide +kernel
theorem dX6_isRule_0 : decode cX6_isRule 0 = .ok (.iload_n 0, 1) := by decide +kernel
theorem dX6_isRule_1 : decode cX6_isRule 1 = .ok (.ifCond .lt 12, 3) := by decide +kernel
theorem dX6_isRule_4 : decode cX6_isRule 4 = .ok (.iload_n 0, 1) := by decide +kernel
theorem dX6_isRule_5 : decode cX6_isRule 5 = .ok (.iconst 3, 1) := by decide +kernel
theorem dX6_isRule_6 : decode cX6_isRule 6 = .ok (.if_icmp .gt 7, 3) := by decide +kernel
theorem dX6_isRule_9 : decode cX6_isRule 9 = .ok (.iconst 1, 1) := by decide +kernel
theorem dX6_isRule_10 : decode cX6_isRule 10 = .ok (.goto 4, 3) := by decide +kernel
theorem dX6_isRule_13 : decode cX6_isRule 13 = .ok (.iconst 0, 1) := by decide +kernel
theorem dX6_isRule_14 : decode cX6_isRule 14 = .ok (.ireturn, 1) := by decide +kernel
theorem dX6_isSnapshot_0 : decode cX6_isSnapshot 0 = .ok (.iload_n 1, 1) := by decide +kernel
theorem dX6_isSnapshot_1 : decode cX6_isSnapshot 1 = .ok (.ifCond .lt 16, 3) := by decide +kernel
theorem dX6_isSnapshot_4 : decode cX6_isSnapshot 4 = .ok (.iload_n 1, 1) := by decide +kernel
theorem dX6_isSnapshot_5 : decode cX6_isSnapshot 5 = .ok (.aload_n 0, 1) := by decide +kernel
theorem dX6_isSnapshot_6 : decode cX6_isSnapshot 6 = .ok (.getfield 26, 3) := by decide +kernel
theorem dX6_isSnapshot_9 : decode cX6_isSnapshot 9 = .ok (.arraylength, 1) := by decide +kernel
theorem dX6_isSnapshot_10 : decode cX6_isSnapshot 10 = .ok (.if_icmp .ge 7, 3) := by decide +kernel
theorem dX6_isSnapshot_13 : decode cX6_isSnapshot 13 = .ok (.iconst 1, 1) := by decide +kernel
theorem dX6_isSnapshot_14 : decode cX6_isSnapshot 14 = .ok (.goto 4, 3) := by decide +kernel
theorem dX6_isSnapshot_17 : decode cX6_isSnapshot 17 = .ok (.iconst 0, 1) := by decide +kernel
theorem dX6_isSnapshot_18 : decode cX6_isSnapshot 18 = .ok (.ireturn, 1) := by decide +kernel
set_option maxRecDepth 20000 in
theorem ggX6_pairsInPairing_X2_lookAt : GoodIn wsX6_pairsInPairing wsX2_lookAt := goodIn_r _ [9, 10, 11, 12, 13, 14, 15, 16, 17, 18, 19, 20, 21, 22, 23, 24, 25, 26, 27, 28, 29, 30, 31, 8, 32, 33, 34, 35, 36, 37, 38, 39, 40, 41, 42, 43, 44, 45, 46, 47, 48, 49, 50, 51, 52, 53, 54, 55, 56, 57, 58, 59, 60, 68, 69, 70, 71, 72, 73, 74, 75, 76, 77, 78, 79, 80, 81, 82, 83, 84, 85, 86, 87, 88, 89] (by decide +kernel) (by decide +kernel)
set_option maxRecDepth 20000 in
theorem gX6_pairsInPairing_X2_lookAt : GoodIn wsX6_pairsInPairing (wsV RX6 299 RX2 yX2_lookAt wsX2_lookAt) := goodIn_app (goodIn_of _ (by decide +kernel)) ggX6_pairsInPairing_X2_lookAt
theorem dX6_pairsInPairing_0 : decode cX6_pairsInPairing 0 = .ok (.aload_n 0, 1) := by decide +kernel
theorem dX6_pairsInPairing_1 : decode cX6_pairsInPairing 1 = .ok (.getfield 40, 3) := by decide +kernel
theorem dX6_pairsInPairing_4 : decode cX6_pairsInPairing 4 = .ok (.aload_n 0, 1) := by decide +kernel
theorem dX6_pairsInPairing_5 : decode cX6_pairsInPairing 5 = .ok (.getfield 12, 3) := by decide +kernel
theorem dX6_pairsInPairing_8 : decode cX6_pairsInPairing 8 = .ok (.invokevirtual 299, 3) := by decide +kernel
theorem dX6_pairsInPairing_11 : decode cX6_pairsInPairing 11 = .ok (.aload_n 0, 1) := by decide +kernel
theorem dX6_pairsInPairing_12 : decode cX6_pairsInPairing 12 = .ok (.getfield 40, 3) := by decide +kernel
theorem dX6_pairsInPairing_15 : decode cX6_pairsInPairing 15 = .ok (.getfield 302, 3) := by decide +kernel
theorem dX6_pairsInPairing_18 : decode cX6_pairsInPairing 18 = .ok (.ifCond .eq 13, 3) := by decide +kernel
theorem dX6_pairsInPairing_21 : decode cX6_pairsInPairing 21 = .ok (.aload_n 0, 1) := by decide +kernel
theorem dX6_pairsInPairing_22 : decode cX6_pairsInPairing 22 = .ok (.getfield 40, 3) := by decide +kernel
theorem dX6_pairsInPairing_25 : decode cX6_pairsInPairing 25 = .ok (.getfield 305, 3) := by decide +kernel
theorem dX6_pairsInPairing_28 : decode cX6_pairsInPairing 28 = .ok (.goto 4, 3) := by decide +kernel
theorem dX6_pairsInPairing_31 : decode cX6_pairsInPairing 31 = .ok (.iconst (-1), 1) := by decide +kernel
theorem dX6_pairsInPairing_32 : decode cX6_pairsInPairing 32 = .ok (.ireturn, 1) := by decide +kernel
set_option maxRecDepth 20000 in
theorem ggX6_otherInPairing_X2_lookAt : GoodIn wsX6_otherInPairing wsX2_lookAt := goodIn_r _ [7, 8, 9, 10, 11, 12, 13, 14, 15, 16, 17, 18, 19, 20, 21, 22, 23, 24, 25, 26, 27, 28, 29, 6, 30, 31, 32, 33, 34, 35, 36, 37, 38, 39, 40, 41, 42, 43, 44, 45, 46, 47, 48, 49, 50, 51, 52, 53, 54, 55, 56, 57, 58, 73, 74, 75, 76, 77, 78, 79, 80, 81, 82, 83, 84, 85, 86, 87, 88, 89, 90, 91, 92, 93, 94] (by decide +kernel) (by decide +kernel)
set_option maxRecDepth 20000 in
theorem gX6_otherInPairing_X2_lookAt : GoodIn wsX6_otherInPairing (wsV RX6 299 RX2 yX2_lookAt wsX2_lookAt) := goodIn_app (goodIn_of _ (by decide +kernel)) ggX6_otherInPairing_X2_lookAt
set_option maxRecDepth 20000 in
theorem ggX6_otherInPairing_X2_otherOf : GoodIn wsX6_otherInPairing wsX2_otherOf := goodIn_r _ [62, 14, 43, 63, 64, 65, 73, 74, 75, 76, 77, 78] (by decide +kernel) (by decide +kernel)
set_option maxRecDepth 20000 in
theorem gX6_otherInPairing_X2_otherOf : GoodIn wsX6_otherInPairing (wsV RX6 306 RX2 yX2_otherOf wsX2_otherOf) := goodIn_app (goodIn_of _ (by decide +kernel)) ggX6_otherInPairing_X2_otherOf
theorem dX6_otherInPairing_0 : decode cX6_otherInPairing 0 = .ok (.aload_n 0, 1) := by decide +kernel
theorem dX6_otherInPairing_1 : decode cX6_otherInPairing 1 = .ok (.getfield 40, 3) := by decide +kernel
theorem dX6_otherInPairing_4 : decode cX6_otherInPairing 4 = .ok (.aload_n 0, 1) := by decide +kernel
theorem dX6_otherInPairing_5 : decode cX6_otherInPairing 5 = .ok (.getfield 12, 3) := by decide +kernel
theorem dX6_otherInPairing_8 : decode cX6_otherInPairing 8 = .ok (.invokevirtual 299, 3) := by decide +kernel
theorem dX6_otherInPairing_11 : decode cX6_otherInPairing 11 = .ok (.aload_n 0, 1) := by decide +kernel
theorem dX6_otherInPairing_12 : decode cX6_otherInPairing 12 = .ok (.getfield 40, 3) := by decide +kernel
theorem dX6_otherInPairing_15 : decode cX6_otherInPairing 15 = .ok (.iload_n 1, 1) := by decide +kernel
theorem dX6_otherInPairing_16 : decode cX6_otherInPairing 16 = .ok (.invokevirtual 306, 3) := by decide +kernel
theorem dX6_otherInPairing_19 : decode cX6_otherInPairing 19 = .ok (.ireturn, 1) := by decide +kernel
theorem dX6_snapshotsTaken_0 : decode cX6_snapshotsTaken 0 = .ok (.iconst 0, 1) := by decide +kernel
theorem dX6_snapshotsTaken_1 : decode cX6_snapshotsTaken 1 = .ok (.istore_n 1, 1) := by decide +kernel
theorem dX6_snapshotsTaken_2 : decode cX6_snapshotsTaken 2 = .ok (.iconst 0, 1) := by decide +kernel
theorem dX6_snapshotsTaken_3 : decode cX6_snapshotsTaken 3 = .ok (.istore_n 2, 1) := by decide +kernel
theorem dX6_snapshotsTaken_4 : decode cX6_snapshotsTaken 4 = .ok (.iload_n 2, 1) := by decide +kernel
theorem dX6_snapshotsTaken_5 : decode cX6_snapshotsTaken 5 = .ok (.aload_n 0, 1) := by decide +kernel
theorem dX6_snapshotsTaken_6 : decode cX6_snapshotsTaken 6 = .ok (.getfield 26, 3) := by decide +kernel
theorem dX6_snapshotsTaken_9 : decode cX6_snapshotsTaken 9 = .ok (.arraylength, 1) := by decide +kernel
theorem dX6_snapshotsTaken_10 : decode cX6_snapshotsTaken 10 = .ok (.if_icmp .ge 21, 3) := by decide +kernel
theorem dX6_snapshotsTaken_13 : decode cX6_snapshotsTaken 13 = .ok (.aload_n 0, 1) := by decide +kernel
theorem dX6_snapshotsTaken_14 : decode cX6_snapshotsTaken 14 = .ok (.getfield 26, 3) := by decide +kernel
theorem dX6_snapshotsTaken_17 : decode cX6_snapshotsTaken 17 = .ok (.iload_n 2, 1) := by decide +kernel
theorem dX6_snapshotsTaken_18 : decode cX6_snapshotsTaken 18 = .ok (.aaload, 1) := by decide +kernel
theorem dX6_snapshotsTaken_19 : decode cX6_snapshotsTaken 19 = .ok (.ifnull 6, 3) := by decide +kernel
theorem dX6_snapshotsTaken_22 : decode cX6_snapshotsTaken 22 = .ok (.iinc 1 1, 3) := by decide +kernel
theorem dX6_snapshotsTaken_25 : decode cX6_snapshotsTaken 25 = .ok (.iinc 2 1, 3) := by decide +kernel
theorem dX6_snapshotsTaken_28 : decode cX6_snapshotsTaken 28 = .ok (.goto (-24), 3) := by decide +kernel
theorem dX6_snapshotsTaken_31 : decode cX6_snapshotsTaken 31 = .ok (.iload_n 1, 1) := by decide +kernel
theorem dX6_snapshotsTaken_32 : decode cX6_snapshotsTaken 32 = .ok (.ireturn, 1) := by decide +kernel
set_option maxRecDepth 20000 in
theorem ggX6_goOn_X4_winner : GoodIn wsX6_goOn wsX4_winner := goodIn_r _ [7, 8, 9, 10, 11, 12, 13, 14, 15, 16, 17, 18, 19, 20, 21, 22, 23, 24, 25, 26, 27, 28, 29, 184, 185, 186, 187, 188, 189, 190, 191, 192, 193, 201, 202, 203, 204, 205, 206] (by decide +kernel) (by decide +kernel)
set_option maxRecDepth 20000 in
theorem gX6_goOn_X4_winner : GoodIn wsX6_goOn (wsV RX6 126 RX4 yX4_winner wsX4_winner) := goodIn_app (goodIn_of _ (by decide +kernel)) ggX6_goOn_X4_winner
set_option maxRecDepth 20000 in
theorem ggX6_goOn_X6_cellBy : GoodIn wsX6_goOn wsX6_cellBy := goodIn_r _ [34, 35, 36, 37, 38, 39, 6, 40, 9, 10, 41, 42, 43, 44, 45, 46, 47, 33, 48, 49, 50, 51, 52, 53, 54, 55, 56, 57, 58, 59, 60, 61, 62, 63, 64, 65, 66, 24, 25, 26, 27, 28, 29, 67, 68, 69, 70, 15, 71, 20, 21, 72, 73, 74, 75, 76, 77, 78, 79, 80, 81, 82, 83, 84, 85, 86, 87, 88, 89, 90, 91, 92, 13, 14, 16, 17, 18, 19, 22, 23, 93, 94, 95, 96, 97, 98, 99, 100, 101, 102, 103, 104, 105, 106, 107, 108, 109, 110, 111, 112, 113, 114, 115, 116, 117, 8, 118, 12, 119, 120, 121, 122, 123, 124, 125, 126, 127, 194, 195, 196, 197, 198, 199, 200, 184, 185, 186, 187, 188, 189, 190, 191, 192, 193, 207, 208, 209, 210, 211, 212, 201, 202, 203, 204, 205, 206] (by decide +kernel) (by decide +kernel)
set_option maxRecDepth 20000 in
theorem gX6_goOn_X6_cellBy : GoodIn wsX6_goOn (wsV RX6 220 RX6 yX6_cellBy wsX6_cellBy) := goodIn_app (goodIn_of _ (by decide +kernel)) ggX6_goOn_X6_cellBy
set_option maxRecDepth 20000 in
theorem ggX6_goOn_X2_lookAt : GoodIn wsX6_goOn wsX2_lookAt := goodIn_r _ [132, 133, 134, 135, 136, 137, 138, 139, 140, 141, 69, 70, 15, 71, 20, 21, 142, 73, 74, 75, 143, 144, 145, 131, 146, 147, 148, 149, 150, 151, 152, 153, 154, 155, 156, 157, 158, 159, 160, 161, 162, 163, 164, 24, 25, 26, 27, 28, 29, 165, 166, 167, 168, 213, 214, 215, 216, 217, 218, 184, 185, 186, 187, 188, 189, 190, 191, 192, 193, 201, 202, 203, 204, 205, 206] (by decide +kernel) (by decide +kernel)
set_option maxRecDepth 20000 in
theorem gX6_goOn_X2_lookAt : GoodIn wsX6_goOn (wsV RX6 299 RX2 yX2_lookAt wsX2_lookAt) := goodIn_app (goodIn_of _ (by decide +kernel)) ggX6_goOn_X2_lookAt
set_option maxRecDepth 20000 in
theorem ggX6_goOn_X2_otherOf : GoodIn wsX6_goOn wsX2_otherOf := goodIn_r _ [172, 139, 159, 47, 33, 48, 213, 214, 215, 216, 217, 218] (by decide +kernel) (by decide +kernel)
set_option maxRecDepth 20000 in
theorem gX6_goOn_X2_otherOf : GoodIn wsX6_goOn (wsV RX6 306 RX2 yX2_otherOf wsX2_otherOf) := goodIn_app (goodIn_of _ (by decide +kernel)) ggX6_goOn_X2_otherOf
set_option maxRecDepth 20000 in
theorem ggX6_goOn_X4_occupy : GoodIn wsX6_goOn wsX4_occupy := goodIn_r _ [176, 177, 9, 10, 178, 179, 180, 181, 182, 183, 4, 5, 6, 7, 8, 11, 12, 13, 14, 15, 16, 17, 18, 19, 20, 21, 22, 23, 24, 25, 26, 27, 28, 29, 184, 185, 186, 187, 188, 189, 190, 191, 192, 193, 201, 202, 203, 204, 205, 206] (by decide +kernel) (by decide +kernel)
set_option maxRecDepth 20000 in
theorem gX6_goOn_X4_occupy : GoodIn wsX6_goOn (wsV RX6 137 RX4 yX4_occupy wsX4_occupy) := goodIn_app (goodIn_of _ (by decide +kernel)) ggX6_goOn_X4_occupy
theorem dX6_goOn_0 : decode cX6_goOn 0 = .ok (.iconst 0, 1) := by decide +kernel
theorem dX6_goOn_1 : decode cX6_goOn 1 = .ok (.istore 5, 2) := by decide +kernel
theorem dX6_goOn_3 : decode cX6_goOn 3 = .ok (.iload 5, 2) := by decide +kernel
theorem dX6_goOn_5 : decode cX6_goOn 5 = .ok (.iload 4, 2) := by decide +kernel
theorem dX6_goOn_7 : decode cX6_goOn 7 = .ok (.if_icmp .ge 58, 3) := by decide +kernel
theorem dX6_goOn_10 : decode cX6_goOn 10 = .ok (.aload_n 1, 1) := by decide +kernel
theorem dX6_goOn_11 : decode cX6_goOn 11 = .ok (.invokevirtual 126, 3) := by decide +kernel
theorem dX6_goOn_14 : decode cX6_goOn 14 = .ok (.ifCond .ne 51, 3) := by decide +kernel
theorem dX6_goOn_17 : decode cX6_goOn 17 = .ok (.aload_n 0, 1) := by decide +kernel
theorem dX6_goOn_18 : decode cX6_goOn 18 = .ok (.aload_n 1, 1) := by decide +kernel
theorem dX6_goOn_19 : decode cX6_goOn 19 = .ok (.getfield 143, 3) := by decide +kernel
theorem dX6_goOn_22 : decode cX6_goOn 22 = .ok (.ifCond .eq 7, 3) := by decide +kernel
theorem dX6_goOn_25 : decode cX6_goOn 25 = .ok (.iload_n 2, 1) := by decide +kernel
theorem dX6_goOn_26 : decode cX6_goOn 26 = .ok (.goto 4, 3) := by decide +kernel
theorem dX6_goOn_29 : decode cX6_goOn 29 = .ok (.iload_n 3, 1) := by decide +kernel
theorem dX6_goOn_30 : decode cX6_goOn 30 = .ok (.aload_n 1, 1) := by decide +kernel
theorem dX6_goOn_31 : decode cX6_goOn 31 = .ok (.invokevirtual 220, 3) := by decide +kernel
theorem dX6_goOn_34 : decode cX6_goOn 34 = .ok (.istore 6, 2) := by decide +kernel
theorem dX6_goOn_36 : decode cX6_goOn 36 = .ok (.aload_n 0, 1) := by decide +kernel
theorem dX6_goOn_37 : decode cX6_goOn 37 = .ok (.getfield 40, 3) := by decide +kernel
theorem dX6_goOn_40 : decode cX6_goOn 40 = .ok (.aload_n 1, 1) := by decide +kernel
theorem dX6_goOn_41 : decode cX6_goOn 41 = .ok (.invokevirtual 299, 3) := by decide +kernel
theorem dX6_goOn_44 : decode cX6_goOn 44 = .ok (.aload_n 1, 1) := by decide +kernel
theorem dX6_goOn_45 : decode cX6_goOn 45 = .ok (.iload 6, 2) := by decide +kernel
theorem dX6_goOn_47 : decode cX6_goOn 47 = .ok (.aload_n 0, 1) := by decide +kernel
theorem dX6_goOn_48 : decode cX6_goOn 48 = .ok (.getfield 40, 3) := by decide +kernel
theorem dX6_goOn_51 : decode cX6_goOn 51 = .ok (.iload 6, 2) := by decide +kernel
theorem dX6_goOn_53 : decode cX6_goOn 53 = .ok (.invokevirtual 306, 3) := by decide +kernel
theorem dX6_goOn_56 : decode cX6_goOn 56 = .ok (.invokevirtual 137, 3) := by decide +kernel
theorem dX6_goOn_59 : decode cX6_goOn 59 = .ok (.iinc 5 1, 3) := by decide +kernel
theorem dX6_goOn_62 : decode cX6_goOn 62 = .ok (.goto (-59), 3) := by decide +kernel
theorem dX6_goOn_65 : decode cX6_goOn 65 = .ok (.iload 5, 2) := by decide +kernel
theorem dX6_goOn_67 : decode cX6_goOn 67 = .ok (.ireturn, 1) := by decide +kernel
set_option maxRecDepth 20000 in
theorem ggX6_cellBy_X4_freeCells : GoodIn wsX6_cellBy wsX4_freeCells := goodIn_r _ [7, 8, 9, 10, 11, 12, 6, 13, 14, 124, 125, 126, 127, 128, 129, 130, 131, 132, 133] (by decide +kernel) (by decide +kernel)
set_option maxRecDepth 20000 in
theorem gX6_cellBy_X4_freeCells : GoodIn wsX6_cellBy (wsV RX6 203 RX4 yX4_freeCells wsX4_freeCells) := goodIn_app (goodIn_of _ (by decide +kernel)) ggX6_cellBy_X4_freeCells
set_option maxRecDepth 20000 in
theorem ggX6_cellBy_X6_lowestOf : GoodIn wsX6_cellBy wsX6_lowestOf := goodIn_r _ [18] (by decide +kernel) (by decide +kernel)
set_option maxRecDepth 20000 in
theorem gX6_cellBy_X6_lowestOf : GoodIn wsX6_cellBy (va_wsS RX6 309 yX6_lowestOf wsX6_lowestOf) := goodIn_app (goodIn_of _ (by decide +kernel)) ggX6_cellBy_X6_lowestOf
set_option maxRecDepth 20000 in
theorem ggX6_cellBy_X3_bestMove : GoodIn wsX6_cellBy wsX3_bestMove := goodIn_r _ [23, 24, 25, 26, 27, 28, 29, 22, 30, 31, 32, 33, 34, 35, 36, 37, 38, 39, 40, 41, 42, 43, 11, 12, 6, 13, 14, 44, 45, 46, 47, 48, 49, 50, 51, 52, 53, 54, 55, 4, 5, 7, 8, 9, 10, 56, 57, 58, 59, 60, 61, 62, 63, 64, 65, 66, 67, 68, 69, 70, 71, 72, 73, 74, 75, 76, 77, 78, 79, 80, 81, 82, 83, 84, 85, 86, 87, 88, 89, 90, 91, 92, 93, 94, 95, 96, 97, 98, 99, 100, 124, 125, 126, 127, 128, 129, 130, 131, 132, 133, 134, 135, 136, 137, 138, 139, 140, 141, 142, 143, 144, 145] (by decide +kernel) (by decide +kernel)
set_option maxRecDepth 20000 in
theorem gX6_cellBy_X3_bestMove : GoodIn wsX6_cellBy (wsV RX6 312 RX3 yX3_bestMove wsX3_bestMove) := goodIn_app (goodIn_of _ (by decide +kernel)) ggX6_cellBy_X3_bestMove
set_option maxRecDepth 20000 in
theorem ggX6_cellBy_X4_forcedReply : GoodIn wsX6_cellBy wsX4_forcedReply := goodIn_r _ [104, 105, 8, 9, 106, 107, 72, 73, 47, 74, 75, 76, 77, 49, 50, 78, 79, 37, 38, 39, 40, 41, 42, 16, 17, 18, 124, 125, 126, 127, 128, 129, 130, 131, 132, 133, 140, 141, 142, 143, 144, 145] (by decide +kernel) (by decide +kernel)
set_option maxRecDepth 20000 in
theorem gX6_cellBy_X4_forcedReply : GoodIn wsX6_cellBy (wsV RX6 241 RX4 yX4_forcedReply wsX4_forcedReply) := goodIn_app (goodIn_of _ (by decide +kernel)) ggX6_cellBy_X4_forcedReply
set_option maxRecDepth 20000 in
theorem ggX6_cellBy_X4_mostDangerous : GoodIn wsX6_cellBy wsX4_mostDangerous := goodIn_r _ [111, 105, 8, 9, 112, 4, 5, 6, 7, 10, 11, 12, 13, 14, 113, 114, 115, 47, 116, 49, 50, 79, 37, 38, 39, 40, 41, 42, 124, 125, 126, 127, 128, 129, 130, 131, 132, 133, 140, 141, 142, 143, 144, 145] (by decide +kernel) (by decide +kernel)
set_option maxRecDepth 20000 in
theorem gX6_cellBy_X4_mostDangerous : GoodIn wsX6_cellBy (wsV RX6 318 RX4 yX4_mostDangerous wsX4_mostDangerous) := goodIn_app (goodIn_of _ (by decide +kernel)) ggX6_cellBy_X4_mostDangerous
theorem dX6_cellBy_0 : decode cX6_cellBy 0 = .ok (.iload_n 1, 1) := by decide +kernel
theorem dX6_cellBy_1 : decode cX6_cellBy 1 = .ok (.ifCond .ne 11, 3) := by decide +kernel
theorem dX6_cellBy_4 : decode cX6_cellBy 4 = .ok (.aload_n 2, 1) := by decide +kernel
theorem dX6_cellBy_5 : decode cX6_cellBy 5 = .ok (.invokevirtual 203, 3) := by decide +kernel
theorem dX6_cellBy_8 : decode cX6_cellBy 8 = .ok (.invokestatic 309, 3) := by decide +kernel
theorem dX6_cellBy_11 : decode cX6_cellBy 11 = .ok (.ireturn, 1) := by decide +kernel
theorem dX6_cellBy_12 : decode cX6_cellBy 12 = .ok (.iload_n 1, 1) := by decide +kernel
theorem dX6_cellBy_13 : decode cX6_cellBy 13 = .ok (.iconst 3, 1) := by decide +kernel
theorem dX6_cellBy_14 : decode cX6_cellBy 14 = .ok (.if_icmp .ne 12, 3) := by decide +kernel
theorem dX6_cellBy_17 : decode cX6_cellBy 17 = .ok (.aload_n 0, 1) := by decide +kernel
theorem dX6_cellBy_18 : decode cX6_cellBy 18 = .ok (.getfield 47, 3) := by decide +kernel
theorem dX6_cellBy_21 : decode cX6_cellBy 21 = .ok (.aload_n 2, 1) := by decide +kernel
theorem dX6_cellBy_22 : decode cX6_cellBy 22 = .ok (.invokevirtual 312, 3) := by decide +kernel
theorem dX6_cellBy_25 : decode cX6_cellBy 25 = .ok (.ireturn, 1) := by decide +kernel
theorem dX6_cellBy_26 : decode cX6_cellBy 26 = .ok (.iload_n 1, 1) := by decide +kernel
theorem dX6_cellBy_27 : decode cX6_cellBy 27 = .ok (.iconst 2, 1) := by decide +kernel
theorem dX6_cellBy_28 : decode cX6_cellBy 28 = .ok (.if_icmp .ne 16, 3) := by decide +kernel
theorem dX6_cellBy_31 : decode cX6_cellBy 31 = .ok (.aload_n 2, 1) := by decide +kernel
theorem dX6_cellBy_32 : decode cX6_cellBy 32 = .ok (.getfield 315, 3) := by decide +kernel
theorem dX6_cellBy_35 : decode cX6_cellBy 35 = .ok (.iconst (-1), 1) := by decide +kernel
theorem dX6_cellBy_36 : decode cX6_cellBy 36 = .ok (.if_icmp .eq 8, 3) := by decide +kernel
theorem dX6_cellBy_39 : decode cX6_cellBy 39 = .ok (.aload_n 2, 1) := by decide +kernel
theorem dX6_cellBy_40 : decode cX6_cellBy 40 = .ok (.getfield 315, 3) := by decide +kernel
theorem dX6_cellBy_43 : decode cX6_cellBy 43 = .ok (.ireturn, 1) := by decide +kernel
theorem dX6_cellBy_44 : decode cX6_cellBy 44 = .ok (.aload_n 2, 1) := by decide +kernel
theorem dX6_cellBy_45 : decode cX6_cellBy 45 = .ok (.invokevirtual 241, 3) := by decide +kernel
theorem dX6_cellBy_48 : decode cX6_cellBy 48 = .ok (.istore_n 3, 1) := by decide +kernel
theorem dX6_cellBy_49 : decode cX6_cellBy 49 = .ok (.iload_n 3, 1) := by decide +kernel
theorem dX6_cellBy_50 : decode cX6_cellBy 50 = .ok (.iconst (-1), 1) := by decide +kernel
theorem dX6_cellBy_51 : decode cX6_cellBy 51 = .ok (.if_icmp .ne 10, 3) := by decide +kernel
theorem dX6_cellBy_54 : decode cX6_cellBy 54 = .ok (.aload_n 2, 1) := by decide +kernel
theorem dX6_cellBy_55 : decode cX6_cellBy 55 = .ok (.invokevirtual 318, 3) := by decide +kernel
theorem dX6_cellBy_58 : decode cX6_cellBy 58 = .ok (.goto 4, 3) := by decide +kernel
theorem dX6_cellBy_61 : decode cX6_cellBy 61 = .ok (.iload_n 3, 1) := by decide +kernel
theorem dX6_cellBy_62 : decode cX6_cellBy 62 = .ok (.ireturn, 1) := by decide +kernel
theorem dX6_lowestOf_0 : decode cX6_lowestOf 0 = .ok (.iconst 0, 1) := by decide +kernel
theorem dX6_lowestOf_1 : decode cX6_lowestOf 1 = .ok (.istore_n 1, 1) := by decide +kernel
theorem dX6_lowestOf_2 : decode cX6_lowestOf 2 = .ok (.iload_n 1, 1) := by decide +kernel
theorem dX6_lowestOf_3 : decode cX6_lowestOf 3 = .ok (.bipush 10, 2) := by decide +kernel
theorem dX6_lowestOf_5 : decode cX6_lowestOf 5 = .ok (.if_icmp .ge 19, 3) := by decide +kernel
theorem dX6_lowestOf_8 : decode cX6_lowestOf 8 = .ok (.iload_n 0, 1) := by decide +kernel
theorem dX6_lowestOf_9 : decode cX6_lowestOf 9 = .ok (.iconst 1, 1) := by decide +kernel
theorem dX6_lowestOf_10 : decode cX6_lowestOf 10 = .ok (.iload_n 1, 1) := by decide +kernel
theorem dX6_lowestOf_11 : decode cX6_lowestOf 11 = .ok (.ishl, 1) := by decide +kernel
theorem dX6_lowestOf_12 : decode cX6_lowestOf 12 = .ok (.iand, 1) := by decide +kernel
theorem dX6_lowestOf_13 : decode cX6_lowestOf 13 = .ok (.ifCond .eq 5, 3) := by decide +kernel
theorem dX6_lowestOf_16 : decode cX6_lowestOf 16 = .ok (.iload_n 1, 1) := by decide +kernel
theorem dX6_lowestOf_17 : decode cX6_lowestOf 17 = .ok (.ireturn, 1) := by decide +kernel
theorem dX6_lowestOf_18 : decode cX6_lowestOf 18 = .ok (.iinc 1 1, 3) := by decide +kernel
theorem dX6_lowestOf_21 : decode cX6_lowestOf 21 = .ok (.goto (-19), 3) := by decide +kernel
theorem dX6_lowestOf_24 : decode cX6_lowestOf 24 = .ok (.iconst (-1), 1) := by decide +kernel
theorem dX6_lowestOf_25 : decode cX6_lowestOf 25 = .ok (.ireturn, 1) := by decide +kernel
theorem dX6_shareBits_0 : decode cX6_shareBits 0 = .ok (.iload_n 0, 1) := by decide +kernel
theorem dX6_shareBits_1 : decode cX6_shareBits 1 = .ok (.ifCond .gt 5, 3) := by decide +kernel
theorem dX6_shareBits_4 : decode cX6_shareBits 4 = .ok (.lconst 0, 1) := by decide +kernel
theorem dX6_shareBits_5 : decode cX6_shareBits 5 = .ok (.lreturn, 1) := by decide +kernel
theorem dX6_shareBits_6 : decode cX6_shareBits 6 = .ok (.iconst 0, 1) := by decide +kernel
theorem dX6_shareBits_7 : decode cX6_shareBits 7 = .ok (.istore_n 1, 1) := by decide +kernel
theorem dX6_shareBits_8 : decode cX6_shareBits 8 = .ok (.iconst 1, 1) := by decide +kernel
theorem dX6_shareBits_9 : decode cX6_shareBits 9 = .ok (.istore_n 2, 1) := by decide +kernel
theorem dX6_shareBits_10 : decode cX6_shareBits 10 = .ok (.iload_n 2, 1) := by decide +kernel
theorem dX6_shareBits_11 : decode cX6_shareBits 11 = .ok (.bipush 14, 2) := by decide +kernel
theorem dX6_shareBits_13 : decode cX6_shareBits 13 = .ok (.if_icmp .ge 17, 3) := by decide +kernel
theorem dX6_shareBits_16 : decode cX6_shareBits 16 = .ok (.iload_n 0, 1) := by decide +kernel
theorem dX6_shareBits_17 : decode cX6_shareBits 17 = .ok (.iload_n 2, 1) := by decide +kernel
theorem dX6_shareBits_18 : decode cX6_shareBits 18 = .ok (.ishr, 1) := by decide +kernel
theorem dX6_shareBits_19 : decode cX6_shareBits 19 = .ok (.ifCond .eq 5, 3) := by decide +kernel
theorem dX6_shareBits_22 : decode cX6_shareBits 22 = .ok (.iload_n 2, 1) := by decide +kernel
theorem dX6_shareBits_23 : decode cX6_shareBits 23 = .ok (.istore_n 1, 1) := by decide +kernel
theorem dX6_shareBits_24 : decode cX6_shareBits 24 = .ok (.iinc 2 1, 3) := by decide +kernel
theorem dX6_shareBits_27 : decode cX6_shareBits 27 = .ok (.goto (-17), 3) := by decide +kernel
theorem dX6_shareBits_30 : decode cX6_shareBits 30 = .ok (.sipush 1023, 3) := by decide +kernel
theorem dX6_shareBits_33 : decode cX6_shareBits 33 = .ok (.iload_n 1, 1) := by decide +kernel
theorem dX6_shareBits_34 : decode cX6_shareBits 34 = .ok (.iadd, 1) := by decide +kernel
theorem dX6_shareBits_35 : decode cX6_shareBits 35 = .ok (.bipush 10, 2) := by decide +kernel
theorem dX6_shareBits_37 : decode cX6_shareBits 37 = .ok (.isub, 1) := by decide +kernel
theorem dX6_shareBits_38 : decode cX6_shareBits 38 = .ok (.i2l, 1) := by decide +kernel
theorem dX6_shareBits_39 : decode cX6_shareBits 39 = .ok (.lstore_n 2, 1) := by decide +kernel
theorem dX6_shareBits_40 : decode cX6_shareBits 40 = .ok (.iload_n 0, 1) := by decide +kernel
theorem dX6_shareBits_41 : decode cX6_shareBits 41 = .ok (.iconst 1, 1) := by decide +kernel
theorem dX6_shareBits_42 : decode cX6_shareBits 42 = .ok (.iload_n 1, 1) := by decide +kernel
theorem dX6_shareBits_43 : decode cX6_shareBits 43 = .ok (.ishl, 1) := by decide +kernel
theorem dX6_shareBits_44 : decode cX6_shareBits 44 = .ok (.isub, 1) := by decide +kernel
theorem dX6_shareBits_45 : decode cX6_shareBits 45 = .ok (.i2l, 1) := by decide +kernel
theorem dX6_shareBits_46 : decode cX6_shareBits 46 = .ok (.bipush 52, 2) := by decide +kernel
theorem dX6_shareBits_48 : decode cX6_shareBits 48 = .ok (.iload_n 1, 1) := by decide +kernel
theorem dX6_shareBits_49 : decode cX6_shareBits 49 = .ok (.isub, 1) := by decide +kernel
theorem dX6_shareBits_50 : decode cX6_shareBits 50 = .ok (.lshl, 1) := by decide +kernel
theorem dX6_shareBits_51 : decode cX6_shareBits 51 = .ok (.lstore 4, 2) := by decide +kernel
theorem dX6_shareBits_53 : decode cX6_shareBits 53 = .ok (.lload_n 2, 1) := by decide +kernel
theorem dX6_shareBits_54 : decode cX6_shareBits 54 = .ok (.bipush 52, 2) := by decide +kernel
theorem dX6_shareBits_56 : decode cX6_shareBits 56 = .ok (.lshl, 1) := by decide +kernel
theorem dX6_shareBits_57 : decode cX6_shareBits 57 = .ok (.lload 4, 2) := by decide +kernel
theorem dX6_shareBits_59 : decode cX6_shareBits 59 = .ok (.ladd, 1) := by decide +kernel
theorem dX6_shareBits_60 : decode cX6_shareBits 60 = .ok (.lreturn, 1) := by decide +kernel
theorem dX7_init_0 : decode cX7_init 0 = .ok (.aload_n 0, 1) := by decide +kernel
theorem dX7_init_1 : decode cX7_init 1 = .ok (.invokespecial 1, 3) := by decide +kernel
theorem dX7_init_4 : decode cX7_init 4 = .ok (.aload_n 0, 1) := by decide +kernel
theorem dX7_init_5 : decode cX7_init 5 = .ok (.bipush 22, 2) := by decide +kernel
theorem dX7_init_7 : decode cX7_init 7 = .ok (.newarray .int, 2) := by decide +kernel
theorem dX7_init_9 : decode cX7_init 9 = .ok (.putfield 7, 3) := by decide +kernel
theorem dX7_init_12 : decode cX7_init 12 = .ok (.aload_n 0, 1) := by decide +kernel
theorem dX7_init_13 : decode cX7_init 13 = .ok (.sipush 132, 3) := by decide +kernel
theorem dX7_init_16 : decode cX7_init 16 = .ok (.newarray .int, 2) := by decide +kernel
theorem dX7_init_18 : decode cX7_init 18 = .ok (.putfield 13, 3) := by decide +kernel
theorem dX7_init_21 : decode cX7_init 21 = .ok (.aload_n 0, 1) := by decide +kernel
theorem dX7_init_22 : decode cX7_init 22 = .ok (.bipush 44, 2) := by decide +kernel
theorem dX7_init_24 : decode cX7_init 24 = .ok (.newarray .int, 2) := by decide +kernel
theorem dX7_init_26 : decode cX7_init 26 = .ok (.putfield 16, 3) := by decide +kernel
theorem dX7_init_29 : decode cX7_init 29 = .ok (.aload_n 0, 1) := by decide +kernel
theorem dX7_init_30 : decode cX7_init 30 = .ok (.iconst 2, 1) := by decide +kernel
theorem dX7_init_31 : decode cX7_init 31 = .ok (.newarray .int, 2) := by decide +kernel
theorem dX7_init_33 : decode cX7_init 33 = .ok (.putfield 19, 3) := by decide +kernel
theorem dX7_init_36 : decode cX7_init 36 = .ok (.aload_n 0, 1) := by decide +kernel
theorem dX7_init_37 : decode cX7_init 37 = .ok (.bipush 60, 2) := by decide +kernel
theorem dX7_init_39 : decode cX7_init 39 = .ok (.newarray .int, 2) := by decide +kernel
theorem dX7_init_41 : decode cX7_init 41 = .ok (.putfield 22, 3) := by decide +kernel
theorem dX7_init_44 : decode cX7_init 44 = .ok (.aload_n 0, 1) := by decide +kernel
theorem dX7_init_45 : decode cX7_init 45 = .ok (.bipush 10, 2) := by decide +kernel
theorem dX7_init_47 : decode cX7_init 47 = .ok (.newarray .int, 2) := by decide +kernel
theorem dX7_init_49 : decode cX7_init 49 = .ok (.putfield 25, 3) := by decide +kernel
theorem dX7_init_52 : decode cX7_init 52 = .ok (.aload_n 0, 1) := by decide +kernel
theorem dX7_init_53 : decode cX7_init 53 = .ok (.bipush 12, 2) := by decide +kernel
theorem dX7_init_55 : decode cX7_init 55 = .ok (.newarray .int, 2) := by decide +kernel
theorem dX7_init_57 : decode cX7_init 57 = .ok (.putfield 28, 3) := by decide +kernel
theorem dX7_init_60 : decode cX7_init 60 = .ok (.aload_n 0, 1) := by decide +kernel
theorem dX7_init_61 : decode cX7_init 61 = .ok (.bipush 12, 2) := by decide +kernel
theorem dX7_init_63 : decode cX7_init 63 = .ok (.newarray .int, 2) := by decide +kernel
theorem dX7_init_65 : decode cX7_init 65 = .ok (.putfield 31, 3) := by decide +kernel
theorem dX7_init_68 : decode cX7_init 68 = .ok (.aload_n 0, 1) := by decide +kernel
theorem dX7_init_69 : decode cX7_init 69 = .ok (.bipush 12, 2) := by decide +kernel
theorem dX7_init_71 : decode cX7_init 71 = .ok (.newarray .int, 2) := by decide +kernel
theorem dX7_init_73 : decode cX7_init 73 = .ok (.putfield 34, 3) := by decide +kernel
theorem dX7_init_76 : decode cX7_init 76 = .ok (.aload_n 0, 1) := by decide +kernel
theorem dX7_init_77 : decode cX7_init 77 = .ok (.ldc 37, 2) := by decide +kernel
theorem dX7_init_79 : decode cX7_init 79 = .ok (.newarray .int, 2) := by decide +kernel
theorem dX7_init_81 : decode cX7_init 81 = .ok (.putfield 38, 3) := by decide +kernel
theorem dX7_init_84 : decode cX7_init 84 = .ok (.aload_n 0, 1) := by decide +kernel
theorem dX7_init_85 : decode cX7_init 85 = .ok (.ldc 37, 2) := by decide +kernel
theorem dX7_init_87 : decode cX7_init 87 = .ok (.newarray .int, 2) := by decide +kernel
theorem dX7_init_89 : decode cX7_init 89 = .ok (.putfield 41, 3) := by decide +kernel
theorem dX7_init_92 : decode cX7_init 92 = .ok (.aload_n 0, 1) := by decide +kernel
theorem dX7_init_93 : decode cX7_init 93 = .ok (.bipush 32, 2) := by decide +kernel
theorem dX7_init_95 : decode cX7_init 95 = .ok (.newarray .int, 2) := by decide +kernel
theorem dX7_init_97 : decode cX7_init 97 = .ok (.putfield 44, 3) := by decide +kernel
theorem dX7_init_100 : decode cX7_init 100 = .ok (.aload_n 0, 1) := by decide +kernel
theorem dX7_init_101 : decode cX7_init 101 = .ok (.bipush 22, 2) := by decide +kernel
theorem dX7_init_103 : decode cX7_init 103 = .ok (.newarray .int, 2) := by decide +kernel
theorem dX7_init_105 : decode cX7_init 105 = .ok (.putfield 47, 3) := by decide +kernel
theorem dX7_init_108 : decode cX7_init 108 = .ok (.aload_n 0, 1) := by decide +kernel
theorem dX7_init_109 : decode cX7_init 109 = .ok (.getfield 7, 3) := by decide +kernel
theorem dX7_init_112 : decode cX7_init 112 = .ok (.iconst 0, 1) := by decide +kernel
theorem dX7_init_113 : decode cX7_init 113 = .ok (.bipush 9, 2) := by decide +kernel
theorem dX7_init_115 : decode cX7_init 115 = .ok (.iastore, 1) := by decide +kernel
theorem dX7_init_116 : decode cX7_init 116 = .ok (.aload_n 0, 1) := by decide +kernel
theorem dX7_init_117 : decode cX7_init 117 = .ok (.getfield 7, 3) := by decide +kernel
theorem dX7_init_120 : decode cX7_init 120 = .ok (.iconst 1, 1) := by decide +kernel
theorem dX7_init_121 : decode cX7_init 121 = .ok (.iconst 1, 1) := by decide +kernel
theorem dX7_init_122 : decode cX7_init 122 = .ok (.iastore, 1) := by decide +kernel
theorem dX7_init_123 : decode cX7_init 123 = .ok (.aload_n 0, 1) := by decide +kernel
theorem dX7_init_124 : decode cX7_init 124 = .ok (.getfield 7, 3) := by decide +kernel
theorem dX7_init_127 : decode cX7_init 127 = .ok (.iconst 5, 1) := by decide +kernel
theorem dX7_init_128 : decode cX7_init 128 = .ok (.iconst (-1), 1) := by decide +kernel
theorem dX7_init_129 : decode cX7_init 129 = .ok (.iastore, 1) := by decide +kernel
theorem dX7_init_130 : decode cX7_init 130 = .ok (.aload_n 0, 1) := by decide +kernel
theorem dX7_init_131 : decode cX7_init 131 = .ok (.getfield 7, 3) := by decide +kernel
theorem dX7_init_134 : decode cX7_init 134 = .ok (.bipush 6, 2) := by decide +kernel
theorem dX7_init_136 : decode cX7_init 136 = .ok (.iconst (-1), 1) := by decide +kernel
theorem dX7_init_137 : decode cX7_init 137 = .ok (.iastore, 1) := by decide +kernel
theorem dX7_init_138 : decode cX7_init 138 = .ok (.return_, 1) := by decide +kernel
theorem dX7_thrown_0 : decode cX7_thrown 0 = .ok (.aload_n 0, 1) := by decide +kernel
theorem dX7_thrown_1 : decode cX7_thrown 1 = .ok (.getfield 50, 3) := by decide +kernel
theorem dX7_thrown_4 : decode cX7_thrown 4 = .ok (.ireturn, 1) := by decide +kernel
theorem dX7_within_0 : decode cX7_within 0 = .ok (.iload_n 0, 1) := by decide +kernel
theorem dX7_within_1 : decode cX7_within 1 = .ok (.iload_n 1, 1) := by decide +kernel
theorem dX7_within_2 : decode cX7_within 2 = .ok (.if_icmp .lt 12, 3) := by decide +kernel
theorem dX7_within_5 : decode cX7_within 5 = .ok (.iload_n 0, 1) := by decide +kernel
theorem dX7_within_6 : decode cX7_within 6 = .ok (.iload_n 2, 1) := by decide +kernel
theorem dX7_within_7 : decode cX7_within 7 = .ok (.if_icmp .gt 7, 3) := by decide +kernel
theorem dX7_within_10 : decode cX7_within 10 = .ok (.iconst 1, 1) := by decide +kernel
theorem dX7_within_11 : decode cX7_within 11 = .ok (.goto 4, 3) := by decide +kernel
theorem dX7_within_14 : decode cX7_within 14 = .ok (.iconst 0, 1) := by decide +kernel
theorem dX7_within_15 : decode cX7_within 15 = .ok (.ireturn, 1) := by decide +kernel
theorem dX7_save_0 : decode cX7_save 0 = .ok (.aload_n 0, 1) := by decide +kernel
theorem dX7_save_1 : decode cX7_save 1 = .ok (.getfield 54, 3) := by decide +kernel
theorem dX7_save_4 : decode cX7_save 4 = .ok (.bipush 6, 2) := by decide +kernel
theorem dX7_save_6 : decode cX7_save 6 = .ok (.if_icmp .ne 44, 3) := by decide +kernel
theorem dX7_save_9 : decode cX7_save 9 = .ok (.bipush 22, 2) := by decide +kernel
theorem dX7_save_11 : decode cX7_save 11 = .ok (.istore_n 1, 1) := by decide +kernel
theorem dX7_save_12 : decode cX7_save 12 = .ok (.iload_n 1, 1) := by decide +kernel
theorem dX7_save_13 : decode cX7_save 13 = .ok (.sipush 132, 3) := by decide +kernel
theorem dX7_save_16 : decode cX7_save 16 = .ok (.if_icmp .ge 24, 3) := by decide +kernel
theorem dX7_save_19 : decode cX7_save 19 = .ok (.aload_n 0, 1) := by decide +kernel
theorem dX7_save_20 : decode cX7_save 20 = .ok (.getfield 13, 3) := by decide +kernel
theorem dX7_save_23 : decode cX7_save 23 = .ok (.iload_n 1, 1) := by decide +kernel
theorem dX7_save_24 : decode cX7_save 24 = .ok (.bipush 22, 2) := by decide +kernel
theorem dX7_save_26 : decode cX7_save 26 = .ok (.isub, 1) := by decide +kernel
theorem dX7_save_27 : decode cX7_save 27 = .ok (.aload_n 0, 1) := by decide +kernel
theorem dX7_save_28 : decode cX7_save 28 = .ok (.getfield 13, 3) := by decide +kernel
theorem dX7_save_31 : decode cX7_save 31 = .ok (.iload_n 1, 1) := by decide +kernel
theorem dX7_save_32 : decode cX7_save 32 = .ok (.iaload, 1) := by decide +kernel
theorem dX7_save_33 : decode cX7_save 33 = .ok (.iastore, 1) := by decide +kernel
theorem dX7_save_34 : decode cX7_save 34 = .ok (.iinc 1 1, 3) := by decide +kernel
theorem dX7_save_37 : decode cX7_save 37 = .ok (.goto (-25), 3) := by decide +kernel
theorem dX7_save_40 : decode cX7_save 40 = .ok (.aload_n 0, 1) := by decide +kernel
theorem dX7_save_41 : decode cX7_save 41 = .ok (.dup, 1) := by decide +kernel
theorem dX7_save_42 : decode cX7_save 42 = .ok (.getfield 54, 3) := by decide +kernel
theorem dX7_save_45 : decode cX7_save 45 = .ok (.iconst 1, 1) := by decide +kernel
theorem dX7_save_46 : decode cX7_save 46 = .ok (.isub, 1) := by decide +kernel
theorem dX7_save_47 : decode cX7_save 47 = .ok (.putfield 54, 3) := by decide +kernel
theorem dX7_save_50 : decode cX7_save 50 = .ok (.iconst 0, 1) := by decide +kernel
theorem dX7_save_51 : decode cX7_save 51 = .ok (.istore_n 1, 1) := by decide +kernel
theorem dX7_save_52 : decode cX7_save 52 = .ok (.iload_n 1, 1) := by decide +kernel
theorem dX7_save_53 : decode cX7_save 53 = .ok (.bipush 22, 2) := by decide +kernel
theorem dX7_save_55 : decode cX7_save 55 = .ok (.if_icmp .ge 29, 3) := by decide +kernel
theorem dX7_save_58 : decode cX7_save 58 = .ok (.aload_n 0, 1) := by decide +kernel
theorem dX7_save_59 : decode cX7_save 59 = .ok (.getfield 13, 3) := by decide +kernel
theorem dX7_save_62 : decode cX7_save 62 = .ok (.bipush 22, 2) := by decide +kernel
theorem dX7_save_64 : decode cX7_save 64 = .ok (.aload_n 0, 1) := by decide +kernel
theorem dX7_save_65 : decode cX7_save 65 = .ok (.getfield 54, 3) := by decide +kernel
theorem dX7_save_68 : decode cX7_save 68 = .ok (.imul, 1) := by decide +kernel
theorem dX7_save_69 : decode cX7_save 69 = .ok (.iload_n 1, 1) := by decide +kernel
theorem dX7_save_70 : decode cX7_save 70 = .ok (.iadd, 1) := by decide +kernel
theorem dX7_save_71 : decode cX7_save 71 = .ok (.aload_n 0, 1) := by decide +kernel
theorem dX7_save_72 : decode cX7_save 72 = .ok (.getfield 7, 3) := by decide +kernel
theorem dX7_save_75 : decode cX7_save 75 = .ok (.iload_n 1, 1) := by decide +kernel
theorem dX7_save_76 : decode cX7_save 76 = .ok (.iaload, 1) := by decide +kernel
theorem dX7_save_77 : decode cX7_save 77 = .ok (.iastore, 1) := by decide +kernel
theorem dX7_save_78 : decode cX7_save 78 = .ok (.iinc 1 1, 3) := by decide +kernel
theorem dX7_save_81 : decode cX7_save 81 = .ok (.goto (-29), 3) := by decide +kernel
theorem dX7_save_84 : decode cX7_save 84 = .ok (.aload_n 0, 1) := by decide +kernel
theorem dX7_save_85 : decode cX7_save 85 = .ok (.dup, 1) := by decide +kernel
theorem dX7_save_86 : decode cX7_save 86 = .ok (.getfield 54, 3) := by decide +kernel
theorem dX7_save_89 : decode cX7_save 89 = .ok (.iconst 1, 1) := by decide +kernel
theorem dX7_save_90 : decode cX7_save 90 = .ok (.iadd, 1) := by decide +kernel
theorem dX7_save_91 : decode cX7_save 91 = .ok (.putfield 54, 3) := by decide +kernel
theorem dX7_save_94 : decode cX7_save 94 = .ok (.return_, 1) := by decide +kernel
theorem dX7_has_0 : decode cX7_has 0 = .ok (.iload_n 0, 1) := by decide +kernel
theorem dX7_has_1 : decode cX7_has 1 = .ok (.iload_n 1, 1) := by decide +kernel
theorem dX7_has_2 : decode cX7_has 2 = .ok (.ishr, 1) := by decide +kernel
theorem dX7_has_3 : decode cX7_has 3 = .ok (.iconst 1, 1) := by decide +kernel
theorem dX7_has_4 : decode cX7_has 4 = .ok (.iand, 1) := by decide +kernel
theorem dX7_has_5 : decode cX7_has 5 = .ok (.iconst 1, 1) := by decide +kernel
theorem dX7_has_6 : decode cX7_has 6 = .ok (.if_icmp .ne 7, 3) := by decide +kernel
theorem dX7_has_9 : decode cX7_has 9 = .ok (.iconst 1, 1) := by decide +kernel
theorem dX7_has_10 : decode cX7_has 10 = .ok (.goto 4, 3) := by decide +kernel
theorem dX7_has_13 : decode cX7_has 13 = .ok (.iconst 0, 1) := by decide +kernel
theorem dX7_has_14 : decode cX7_has 14 = .ok (.ireturn, 1) := by decide +kernel
theorem dX7_ones_0 : decode cX7_ones 0 = .ok (.iconst 0, 1) := by decide +kernel
theorem dX7_ones_1 : decode cX7_ones 1 = .ok (.istore_n 1, 1) := by decide +kernel
theorem dX7_ones_2 : decode cX7_ones 2 = .ok (.iconst 0, 1) := by decide +kernel
theorem dX7_ones_3 : decode cX7_ones 3 = .ok (.istore_n 2, 1) := by decide +kernel
theorem dX7_ones_4 : decode cX7_ones 4 = .ok (.iload_n 2, 1) := by decide +kernel
theorem dX7_ones_5 : decode cX7_ones 5 = .ok (.bipush 10, 2) := by decide +kernel
theorem dX7_ones_7 : decode cX7_ones 7 = .ok (.if_icmp .ge 17, 3) := by decide +kernel
theorem dX7_ones_10 : decode cX7_ones 10 = .ok (.iload_n 1, 1) := by decide +kernel
theorem dX7_ones_11 : decode cX7_ones 11 = .ok (.iload_n 0, 1) := by decide +kernel
theorem dX7_ones_12 : decode cX7_ones 12 = .ok (.iload_n 2, 1) := by decide +kernel
theorem dX7_ones_13 : decode cX7_ones 13 = .ok (.ishr, 1) := by decide +kernel
theorem dX7_ones_14 : decode cX7_ones 14 = .ok (.iconst 1, 1) := by decide +kernel
theorem dX7_ones_15 : decode cX7_ones 15 = .ok (.iand, 1) := by decide +kernel
theorem dX7_ones_16 : decode cX7_ones 16 = .ok (.iadd, 1) := by decide +kernel
theorem dX7_ones_17 : decode cX7_ones 17 = .ok (.istore_n 1, 1) := by decide +kernel
theorem dX7_ones_18 : decode cX7_ones 18 = .ok (.iinc 2 1, 3) := by decide +kernel
theorem dX7_ones_21 : decode cX7_ones 21 = .ok (.goto (-17), 3) := by decide +kernel
theorem dX7_ones_24 : decode cX7_ones 24 = .ok (.iload_n 1, 1) := by decide +kernel
theorem dX7_ones_25 : decode cX7_ones 25 = .ok (.ireturn, 1) := by decide +kernel
set_option maxRecDepth 20000 in
theorem ggX7_isCell_X7_within : GoodIn wsX7_isCell wsX7_within := goodIn_r _ [5] (by decide +kernel) (by decide +kernel)
set_option maxRecDepth 20000 in
theorem gX7_isCell_X7_within : GoodIn wsX7_isCell (va_wsS RX7 57 yX7_within wsX7_within) := goodIn_app (goodIn_of _ (by decide +kernel)) ggX7_isCell_X7_within
theorem dX7_isCell_0 : decode cX7_isCell 0 = .ok (.iload_n 1, 1) := by decide +kernel
theorem dX7_isCell_1 : decode cX7_isCell 1 = .ok (.iconst 0, 1) := by decide +kernel
theorem dX7_isCell_2 : decode cX7_isCell 2 = .ok (.aload_n 0, 1) := by decide +kernel
theorem dX7_isCell_3 : decode cX7_isCell 3 = .ok (.getfield 7, 3) := by decide +kernel
theorem dX7_isCell_6 : decode cX7_isCell 6 = .ok (.iconst 0, 1) := by decide +kernel
theorem dX7_isCell_7 : decode cX7_isCell 7 = .ok (.iaload, 1) := by decide +kernel
theorem dX7_isCell_8 : decode cX7_isCell 8 = .ok (.iconst 1, 1) := by decide +kernel
theorem dX7_isCell_9 : decode cX7_isCell 9 = .ok (.isub, 1) := by decide +kernel
theorem dX7_isCell_10 : decode cX7_isCell 10 = .ok (.invokestatic 57, 3) := by decide +kernel
theorem dX7_isCell_13 : decode cX7_isCell 13 = .ok (.ireturn, 1) := by decide +kernel
set_option maxRecDepth 20000 in
theorem ggX7_isLine_X7_within : GoodIn wsX7_isLine wsX7_within := goodIn_r _ [5] (by decide +kernel) (by decide +kernel)
set_option maxRecDepth 20000 in
theorem gX7_isLine_X7_within : GoodIn wsX7_isLine (va_wsS RX7 57 yX7_within wsX7_within) := goodIn_app (goodIn_of _ (by decide +kernel)) ggX7_isLine_X7_within
theorem dX7_isLine_0 : decode cX7_isLine 0 = .ok (.iload_n 1, 1) := by decide +kernel
theorem dX7_isLine_1 : decode cX7_isLine 1 = .ok (.iconst 0, 1) := by decide +kernel
theorem dX7_isLine_2 : decode cX7_isLine 2 = .ok (.aload_n 0, 1) := by decide +kernel
theorem dX7_isLine_3 : decode cX7_isLine 3 = .ok (.getfield 7, 3) := by decide +kernel
theorem dX7_isLine_6 : decode cX7_isLine 6 = .ok (.iconst 2, 1) := by decide +kernel
theorem dX7_isLine_7 : decode cX7_isLine 7 = .ok (.iaload, 1) := by decide +kernel
theorem dX7_isLine_8 : decode cX7_isLine 8 = .ok (.iconst 1, 1) := by decide +kernel
theorem dX7_isLine_9 : decode cX7_isLine 9 = .ok (.isub, 1) := by decide +kernel
theorem dX7_isLine_10 : decode cX7_isLine 10 = .ok (.invokestatic 57, 3) := by decide +kernel
theorem dX7_isLine_13 : decode cX7_isLine 13 = .ok (.ireturn, 1) := by decide +kernel
theorem dX7_maker_0 : decode cX7_maker 0 = .ok (.aload_n 0, 1) := by decide +kernel
theorem dX7_maker_1 : decode cX7_maker 1 = .ok (.getfield 7, 3) := by decide +kernel
theorem dX7_maker_4 : decode cX7_maker 4 = .ok (.iconst 3, 1) := by decide +kernel
theorem dX7_maker_5 : decode cX7_maker 5 = .ok (.iaload, 1) := by decide +kernel
theorem dX7_maker_6 : decode cX7_maker 6 = .ok (.ireturn, 1) := by decide +kernel
theorem dX7_breaker_0 : decode cX7_breaker 0 = .ok (.aload_n 0, 1) := by decide +kernel
theorem dX7_breaker_1 : decode cX7_breaker 1 = .ok (.getfield 7, 3) := by decide +kernel
theorem dX7_breaker_4 : decode cX7_breaker 4 = .ok (.iconst 4, 1) := by decide +kernel
theorem dX7_breaker_5 : decode cX7_breaker 5 = .ok (.iaload, 1) := by decide +kernel
theorem dX7_breaker_6 : decode cX7_breaker 6 = .ok (.ireturn, 1) := by decide +kernel
set_option maxRecDepth 20000 in
theorem ggX7_free_X7_maker : GoodIn wsX7_free wsX7_maker := goodIn_r _ [6, 1, 11, 12, 13, 14, 15, 16, 17, 18, 19, 20, 21, 22, 23, 24, 25, 26, 27, 28, 29, 30] (by decide +kernel) (by decide +kernel)
set_option maxRecDepth 20000 in
theorem gX7_free_X7_maker : GoodIn wsX7_free (wsV RX7 61 RX7 yX7_maker wsX7_maker) := goodIn_app (goodIn_of _ (by decide +kernel)) ggX7_free_X7_maker
set_option maxRecDepth 20000 in
theorem ggX7_free_X7_breaker : GoodIn wsX7_free wsX7_breaker := goodIn_r _ [10, 1, 11, 12, 13, 14, 15, 16, 17, 18, 19, 20, 21, 22, 23, 24, 25, 26, 27, 28, 29, 30] (by decide +kernel) (by decide +kernel)
set_option maxRecDepth 20000 in
theorem gX7_free_X7_breaker : GoodIn wsX7_free (wsV RX7 65 RX7 yX7_breaker wsX7_breaker) := goodIn_app (goodIn_of _ (by decide +kernel)) ggX7_free_X7_breaker
theorem dX7_free_0 : decode cX7_free 0 = .ok (.iconst 1, 1) := by decide +kernel
theorem dX7_free_1 : decode cX7_free 1 = .ok (.aload_n 0, 1) := by decide +kernel
theorem dX7_free_2 : decode cX7_free 2 = .ok (.getfield 7, 3) := by decide +kernel
theorem dX7_free_5 : decode cX7_free 5 = .ok (.iconst 0, 1) := by decide +kernel
theorem dX7_free_6 : decode cX7_free 6 = .ok (.iaload, 1) := by decide +kernel
theorem dX7_free_7 : decode cX7_free 7 = .ok (.ishl, 1) := by decide +kernel
theorem dX7_free_8 : decode cX7_free 8 = .ok (.iconst 1, 1) := by decide +kernel
theorem dX7_free_9 : decode cX7_free 9 = .ok (.isub, 1) := by decide +kernel
theorem dX7_free_10 : decode cX7_free 10 = .ok (.aload_n 0, 1) := by decide +kernel
theorem dX7_free_11 : decode cX7_free 11 = .ok (.invokevirtual 61, 3) := by decide +kernel
theorem dX7_free_14 : decode cX7_free 14 = .ok (.iconst (-1), 1) := by decide +kernel
theorem dX7_free_15 : decode cX7_free 15 = .ok (.ixor, 1) := by decide +kernel
theorem dX7_free_16 : decode cX7_free 16 = .ok (.iand, 1) := by decide +kernel
theorem dX7_free_17 : decode cX7_free 17 = .ok (.aload_n 0, 1) := by decide +kernel
theorem dX7_free_18 : decode cX7_free 18 = .ok (.invokevirtual 65, 3) := by decide +kernel
theorem dX7_free_21 : decode cX7_free 21 = .ok (.iconst (-1), 1) := by decide +kernel
theorem dX7_free_22 : decode cX7_free 22 = .ok (.ixor, 1) := by decide +kernel
theorem dX7_free_23 : decode cX7_free 23 = .ok (.iand, 1) := by decide +kernel
theorem dX7_free_24 : decode cX7_free 24 = .ok (.ireturn, 1) := by decide +kernel
set_option maxRecDepth 20000 in
theorem ggX7_isDead_X7_breaker : GoodIn wsX7_isDead wsX7_breaker := goodIn_r _ [6, 1, 7, 8, 9, 10, 11, 12, 13, 14, 15, 16, 17, 18, 19, 20, 21, 22, 23, 24, 25, 26] (by decide +kernel) (by decide +kernel)
set_option maxRecDepth 20000 in
theorem gX7_isDead_X7_breaker : GoodIn wsX7_isDead (wsV RX7 65 RX7 yX7_breaker wsX7_breaker) := goodIn_app (goodIn_of _ (by decide +kernel)) ggX7_isDead_X7_breaker
theorem dX7_isDead_0 : decode cX7_isDead 0 = .ok (.aload_n 0, 1) := by decide +kernel
theorem dX7_isDead_1 : decode cX7_isDead 1 = .ok (.getfield 7, 3) := by decide +kernel
theorem dX7_isDead_4 : decode cX7_isDead 4 = .ok (.bipush 10, 2) := by decide +kernel
theorem dX7_isDead_6 : decode cX7_isDead 6 = .ok (.iload_n 1, 1) := by decide +kernel
theorem dX7_isDead_7 : decode cX7_isDead 7 = .ok (.iadd, 1) := by decide +kernel
theorem dX7_isDead_8 : decode cX7_isDead 8 = .ok (.iaload, 1) := by decide +kernel
theorem dX7_isDead_9 : decode cX7_isDead 9 = .ok (.aload_n 0, 1) := by decide +kernel
theorem dX7_isDead_10 : decode cX7_isDead 10 = .ok (.invokevirtual 65, 3) := by decide +kernel
theorem dX7_isDead_13 : decode cX7_isDead 13 = .ok (.iand, 1) := by decide +kernel
theorem dX7_isDead_14 : decode cX7_isDead 14 = .ok (.ifCond .eq 7, 3) := by decide +kernel
theorem dX7_isDead_17 : decode cX7_isDead 17 = .ok (.iconst 1, 1) := by decide +kernel
theorem dX7_isDead_18 : decode cX7_isDead 18 = .ok (.goto 4, 3) := by decide +kernel
theorem dX7_isDead_21 : decode cX7_isDead 21 = .ok (.iconst 0, 1) := by decide +kernel
theorem dX7_isDead_22 : decode cX7_isDead 22 = .ok (.ireturn, 1) := by decide +kernel
set_option maxRecDepth 20000 in
theorem ggX7_freeOf_X7_free : GoodIn wsX7_freeOf wsX7_free := goodIn_r _ [6, 1, 7, 8, 9, 5, 10, 11, 12, 13, 14, 15, 16, 17, 18, 19, 20, 21, 22, 23, 24, 25, 26, 27, 28, 29, 30, 31, 32, 33, 34] (by decide +kernel) (by decide +kernel)
set_option maxRecDepth 20000 in
theorem gX7_freeOf_X7_free : GoodIn wsX7_freeOf (wsV RX7 68 RX7 yX7_free wsX7_free) := goodIn_app (goodIn_of _ (by decide +kernel)) ggX7_freeOf_X7_free
theorem dX7_freeOf_0 : decode cX7_freeOf 0 = .ok (.aload_n 0, 1) := by decide +kernel
theorem dX7_freeOf_1 : decode cX7_freeOf 1 = .ok (.getfield 7, 3) := by decide +kernel
theorem dX7_freeOf_4 : decode cX7_freeOf 4 = .ok (.bipush 10, 2) := by decide +kernel
theorem dX7_freeOf_6 : decode cX7_freeOf 6 = .ok (.iload_n 1, 1) := by decide +kernel
theorem dX7_freeOf_7 : decode cX7_freeOf 7 = .ok (.iadd, 1) := by decide +kernel
theorem dX7_freeOf_8 : decode cX7_freeOf 8 = .ok (.iaload, 1) := by decide +kernel
theorem dX7_freeOf_9 : decode cX7_freeOf 9 = .ok (.aload_n 0, 1) := by decide +kernel
theorem dX7_freeOf_10 : decode cX7_freeOf 10 = .ok (.invokevirtual 68, 3) := by decide +kernel
theorem dX7_freeOf_13 : decode cX7_freeOf 13 = .ok (.iand, 1) := by decide +kernel
theorem dX7_freeOf_14 : decode cX7_freeOf 14 = .ok (.ireturn, 1) := by decide +kernel
set_option maxRecDepth 20000 in
theorem ggX7_weightOf_X7_isDead : GoodIn wsX7_weightOf wsX7_isDead := goodIn_r _ [5, 6, 7, 8, 9, 4, 10, 26, 27, 28, 29, 30, 31, 32, 33, 34, 35, 36, 37, 38, 39, 40, 41, 42, 43, 44, 45] (by decide +kernel) (by decide +kernel)
set_option maxRecDepth 20000 in
theorem gX7_weightOf_X7_isDead : GoodIn wsX7_weightOf (wsV RX7 71 RX7 yX7_isDead wsX7_isDead) := goodIn_app (goodIn_of _ (by decide +kernel)) ggX7_weightOf_X7_isDead
set_option maxRecDepth 20000 in
theorem ggX7_weightOf_X7_freeOf : GoodIn wsX7_weightOf wsX7_freeOf := goodIn_r _ [14, 6, 15, 16, 17, 4, 18, 19, 20, 21, 22, 7, 8, 9, 10, 26, 27, 28, 29, 30, 31, 32, 33, 34, 35, 36, 37, 38, 39, 40, 41, 42, 43, 44, 45] (by decide +kernel) (by decide +kernel)
set_option maxRecDepth 20000 in
theorem gX7_weightOf_X7_freeOf : GoodIn wsX7_weightOf (wsV RX7 75 RX7 yX7_freeOf wsX7_freeOf) := goodIn_app (goodIn_of _ (by decide +kernel)) ggX7_weightOf_X7_freeOf
set_option maxRecDepth 20000 in
theorem ggX7_weightOf_X7_ones : GoodIn wsX7_weightOf wsX7_ones := goodIn_r _ [25] (by decide +kernel) (by decide +kernel)
set_option maxRecDepth 20000 in
theorem gX7_weightOf_X7_ones : GoodIn wsX7_weightOf (va_wsS RX7 79 yX7_ones wsX7_ones) := goodIn_app (goodIn_of _ (by decide +kernel)) ggX7_weightOf_X7_ones
theorem dX7_weightOf_0 : decode cX7_weightOf 0 = .ok (.aload_n 0, 1) := by decide +kernel
theorem dX7_weightOf_1 : decode cX7_weightOf 1 = .ok (.iload_n 1, 1) := by decide +kernel
theorem dX7_weightOf_2 : decode cX7_weightOf 2 = .ok (.invokevirtual 71, 3) := by decide +kernel
theorem dX7_weightOf_5 : decode cX7_weightOf 5 = .ok (.ifCond .eq 7, 3) := by decide +kernel
theorem dX7_weightOf_8 : decode cX7_weightOf 8 = .ok (.iconst 0, 1) := by decide +kernel
theorem dX7_weightOf_9 : decode cX7_weightOf 9 = .ok (.goto 15, 3) := by decide +kernel
theorem dX7_weightOf_12 : decode cX7_weightOf 12 = .ok (.sipush 1024, 3) := by decide +kernel
theorem dX7_weightOf_15 : decode cX7_weightOf 15 = .ok (.aload_n 0, 1) := by decide +kernel
theorem dX7_weightOf_16 : decode cX7_weightOf 16 = .ok (.iload_n 1, 1) := by decide +kernel
theorem dX7_weightOf_17 : decode cX7_weightOf 17 = .ok (.invokevirtual 75, 3) := by decide +kernel
theorem dX7_weightOf_20 : decode cX7_weightOf 20 = .ok (.invokestatic 79, 3) := by decide +kernel
theorem dX7_weightOf_23 : decode cX7_weightOf 23 = .ok (.ishr, 1) := by decide +kernel
theorem dX7_weightOf_24 : decode cX7_weightOf 24 = .ok (.ireturn, 1) := by decide +kernel
theorem dX7_winner_0 : decode cX7_winner 0 = .ok (.iconst 0, 1) := by decide +kernel
theorem dX7_winner_1 : decode cX7_winner 1 = .ok (.istore_n 3, 1) := by decide +kernel
theorem dX7_winner_2 : decode cX7_winner 2 = .ok (.iconst 0, 1) := by decide +kernel
theorem dX7_winner_3 : decode cX7_winner 3 = .ok (.istore 4, 2) := by decide +kernel
theorem dX7_winner_5 : decode cX7_winner 5 = .ok (.iload 4, 2) := by decide +kernel
theorem dX7_winner_7 : decode cX7_winner 7 = .ok (.aload_n 0, 1) := by decide +kernel
theorem dX7_winner_8 : decode cX7_winner 8 = .ok (.getfield 7, 3) := by decide +kernel
theorem dX7_winner_11 : decode cX7_winner 11 = .ok (.iconst 2, 1) := by decide +kernel
theorem dX7_winner_12 : decode cX7_winner 12 = .ok (.iaload, 1) := by decide +kernel
theorem dX7_winner_13 : decode cX7_winner 13 = .ok (.if_icmp .ge 49, 3) := by decide +kernel
theorem dX7_winner_16 : decode cX7_winner 16 = .ok (.aload_n 0, 1) := by decide +kernel
theorem dX7_winner_17 : decode cX7_winner 17 = .ok (.getfield 7, 3) := by decide +kernel
theorem dX7_winner_20 : decode cX7_winner 20 = .ok (.bipush 10, 2) := by decide +kernel
theorem dX7_winner_22 : decode cX7_winner 22 = .ok (.iload 4, 2) := by decide +kernel
theorem dX7_winner_24 : decode cX7_winner 24 = .ok (.iadd, 1) := by decide +kernel
theorem dX7_winner_25 : decode cX7_winner 25 = .ok (.iaload, 1) := by decide +kernel
theorem dX7_winner_26 : decode cX7_winner 26 = .ok (.istore 5, 2) := by decide +kernel
theorem dX7_winner_28 : decode cX7_winner 28 = .ok (.iload 5, 2) := by decide +kernel
theorem dX7_winner_30 : decode cX7_winner 30 = .ok (.iload_n 1, 1) := by decide +kernel
theorem dX7_winner_31 : decode cX7_winner 31 = .ok (.iconst (-1), 1) := by decide +kernel
theorem dX7_winner_32 : decode cX7_winner 32 = .ok (.ixor, 1) := by decide +kernel
theorem dX7_winner_33 : decode cX7_winner 33 = .ok (.iand, 1) := by decide +kernel
theorem dX7_winner_34 : decode cX7_winner 34 = .ok (.ifCond .ne 5, 3) := by decide +kernel
theorem dX7_winner_37 : decode cX7_winner 37 = .ok (.iconst 1, 1) := by decide +kernel
theorem dX7_winner_38 : decode cX7_winner 38 = .ok (.ireturn, 1) := by decide +kernel
theorem dX7_winner_39 : decode cX7_winner 39 = .ok (.iload_n 3, 1) := by decide +kernel
theorem dX7_winner_40 : decode cX7_winner 40 = .ok (.ifCond .ne 10, 3) := by decide +kernel
theorem dX7_winner_43 : decode cX7_winner 43 = .ok (.iload 5, 2) := by decide +kernel
theorem dX7_winner_45 : decode cX7_winner 45 = .ok (.iload_n 2, 1) := by decide +kernel
theorem dX7_winner_46 : decode cX7_winner 46 = .ok (.iand, 1) := by decide +kernel
theorem dX7_winner_47 : decode cX7_winner 47 = .ok (.ifCond .ne 7, 3) := by decide +kernel
theorem dX7_winner_50 : decode cX7_winner 50 = .ok (.iconst 1, 1) := by decide +kernel
theorem dX7_winner_51 : decode cX7_winner 51 = .ok (.goto 4, 3) := by decide +kernel
theorem dX7_winner_54 : decode cX7_winner 54 = .ok (.iconst 0, 1) := by decide +kernel
theorem dX7_winner_55 : decode cX7_winner 55 = .ok (.istore_n 3, 1) := by decide +kernel
theorem dX7_winner_56 : decode cX7_winner 56 = .ok (.iinc 4 1, 3) := by decide +kernel
theorem dX7_winner_59 : decode cX7_winner 59 = .ok (.goto (-54), 3) := by decide +kernel
theorem dX7_winner_62 : decode cX7_winner 62 = .ok (.iload_n 3, 1) := by decide +kernel
theorem dX7_winner_63 : decode cX7_winner 63 = .ok (.ifCond .eq 7, 3) := by decide +kernel
theorem dX7_winner_66 : decode cX7_winner 66 = .ok (.iconst 0, 1) := by decide +kernel
theorem dX7_winner_67 : decode cX7_winner 67 = .ok (.goto 4, 3) := by decide +kernel
theorem dX7_winner_70 : decode cX7_winner 70 = .ok (.iconst 2, 1) := by decide +kernel
theorem dX7_winner_71 : decode cX7_winner 71 = .ok (.ireturn, 1) := by decide +kernel
set_option maxRecDepth 20000 in
theorem ggX7_winnerNow_X7_maker : GoodIn wsX7_winnerNow wsX7_maker := goodIn_r _ [5, 6, 15, 16, 17, 18, 19, 20, 21, 22, 23, 24, 25, 26, 27, 28, 29, 30, 31, 32, 33, 34] (by decide +kernel) (by decide +kernel)
set_option maxRecDepth 20000 in
theorem gX7_winnerNow_X7_maker : GoodIn wsX7_winnerNow (wsV RX7 61 RX7 yX7_maker wsX7_maker) := goodIn_app (goodIn_of _ (by decide +kernel)) ggX7_winnerNow_X7_maker
set_option maxRecDepth 20000 in
theorem ggX7_winnerNow_X7_breaker : GoodIn wsX7_winnerNow wsX7_breaker := goodIn_r _ [10, 6, 15, 16, 17, 18, 19, 20, 21, 22, 23, 24, 25, 26, 27, 28, 29, 30, 31, 32, 33, 34] (by decide +kernel) (by decide +kernel)
set_option maxRecDepth 20000 in
theorem gX7_winnerNow_X7_breaker : GoodIn wsX7_winnerNow (wsV RX7 65 RX7 yX7_breaker wsX7_breaker) := goodIn_app (goodIn_of _ (by decide +kernel)) ggX7_winnerNow_X7_breaker
set_option maxRecDepth 20000 in
theorem ggX7_winnerNow_X7_winner : GoodIn wsX7_winnerNow wsX7_winner := goodIn_r _ [14, 6, 15, 16, 17, 18, 19, 20, 21, 22, 23, 24, 25, 26, 27, 28, 29, 30, 31, 32, 33, 34] (by decide +kernel) (by decide +kernel)
set_option maxRecDepth 20000 in
theorem gX7_winnerNow_X7_winner : GoodIn wsX7_winnerNow (wsV RX7 82 RX7 yX7_winner wsX7_winner) := goodIn_app (goodIn_of _ (by decide +kernel)) ggX7_winnerNow_X7_winner
theorem dX7_winnerNow_0 : decode cX7_winnerNow 0 = .ok (.aload_n 0, 1) := by decide +kernel
theorem dX7_winnerNow_1 : decode cX7_winnerNow 1 = .ok (.aload_n 0, 1) := by decide +kernel
theorem dX7_winnerNow_2 : decode cX7_winnerNow 2 = .ok (.invokevirtual 61, 3) := by decide +kernel
theorem dX7_winnerNow_5 : decode cX7_winnerNow 5 = .ok (.aload_n 0, 1) := by decide +kernel
theorem dX7_winnerNow_6 : decode cX7_winnerNow 6 = .ok (.invokevirtual 65, 3) := by decide +kernel
theorem dX7_winnerNow_9 : decode cX7_winnerNow 9 = .ok (.invokevirtual 82, 3) := by decide +kernel
theorem dX7_winnerNow_12 : decode cX7_winnerNow 12 = .ok (.ireturn, 1) := by decide +kernel
set_option maxRecDepth 20000 in
theorem ggX7_weight_X7_weightOf : GoodIn wsX7_weight wsX7_weightOf := goodIn_r _ [6, 7, 8, 9, 5, 10, 1, 11, 12, 13, 14, 15, 16, 17, 18, 19, 20, 21, 22, 23, 24, 25, 26, 27, 28, 29, 30, 31, 32, 33, 34, 35, 36, 37, 38, 39, 40, 41, 42, 43, 44, 45, 46, 47, 48, 49] (by decide +kernel) (by decide +kernel)
set_option maxRecDepth 20000 in
theorem gX7_weight_X7_weightOf : GoodIn wsX7_weight (wsV RX7 86 RX7 yX7_weightOf wsX7_weightOf) := goodIn_app (goodIn_of _ (by decide +kernel)) ggX7_weight_X7_weightOf
theorem dX7_weight_0 : decode cX7_weight 0 = .ok (.iconst 0, 1) := by decide +kernel
theorem dX7_weight_1 : decode cX7_weight 1 = .ok (.istore_n 1, 1) := by decide +kernel
theorem dX7_weight_2 : decode cX7_weight 2 = .ok (.iconst 0, 1) := by decide +kernel
theorem dX7_weight_3 : decode cX7_weight 3 = .ok (.istore_n 2, 1) := by decide +kernel
theorem dX7_weight_4 : decode cX7_weight 4 = .ok (.iload_n 2, 1) := by decide +kernel
theorem dX7_weight_5 : decode cX7_weight 5 = .ok (.aload_n 0, 1) := by decide +kernel
theorem dX7_weight_6 : decode cX7_weight 6 = .ok (.getfield 7, 3) := by decide +kernel
theorem dX7_weight_9 : decode cX7_weight 9 = .ok (.iconst 2, 1) := by decide +kernel
theorem dX7_weight_10 : decode cX7_weight 10 = .ok (.iaload, 1) := by decide +kernel
theorem dX7_weight_11 : decode cX7_weight 11 = .ok (.if_icmp .ge 17, 3) := by decide +kernel
theorem dX7_weight_14 : decode cX7_weight 14 = .ok (.iload_n 1, 1) := by decide +kernel
theorem dX7_weight_15 : decode cX7_weight 15 = .ok (.aload_n 0, 1) := by decide +kernel
theorem dX7_weight_16 : decode cX7_weight 16 = .ok (.iload_n 2, 1) := by decide +kernel
theorem dX7_weight_17 : decode cX7_weight 17 = .ok (.invokevirtual 86, 3) := by decide +kernel
theorem dX7_weight_20 : decode cX7_weight 20 = .ok (.iadd, 1) := by decide +kernel
theorem dX7_weight_21 : decode cX7_weight 21 = .ok (.istore_n 1, 1) := by decide +kernel
theorem dX7_weight_22 : decode cX7_weight 22 = .ok (.iinc 2 1, 3) := by decide +kernel
theorem dX7_weight_25 : decode cX7_weight 25 = .ok (.goto (-21), 3) := by decide +kernel
theorem dX7_weight_28 : decode cX7_weight 28 = .ok (.iload_n 1, 1) := by decide +kernel
theorem dX7_weight_29 : decode cX7_weight 29 = .ok (.ireturn, 1) := by decide +kernel
set_option maxRecDepth 20000 in
theorem ggX7_danger_X7_freeOf : GoodIn wsX7_danger wsX7_freeOf := goodIn_r _ [6, 1, 7, 8, 9, 5, 10, 11, 12, 13, 14, 15, 16, 17, 18, 33, 34, 35, 36, 37, 38, 39, 40, 41, 42, 43, 44, 45, 46, 47, 48, 49, 50, 51, 52] (by decide +kernel) (by decide +kernel)
set_option maxRecDepth 20000 in
theorem gX7_danger_X7_freeOf : GoodIn wsX7_danger (wsV RX7 75 RX7 yX7_freeOf wsX7_freeOf) := goodIn_app (goodIn_of _ (by decide +kernel)) ggX7_danger_X7_freeOf
set_option maxRecDepth 20000 in
theorem ggX7_danger_X7_has : GoodIn wsX7_danger wsX7_has := goodIn_r _ [21] (by decide +kernel) (by decide +kernel)
set_option maxRecDepth 20000 in
theorem gX7_danger_X7_has : GoodIn wsX7_danger (va_wsS RX7 89 yX7_has wsX7_has) := goodIn_app (goodIn_of _ (by decide +kernel)) ggX7_danger_X7_has
set_option maxRecDepth 20000 in
theorem ggX7_danger_X7_weightOf : GoodIn wsX7_danger wsX7_weightOf := goodIn_r _ [25, 26, 27, 28, 5, 29, 1, 15, 16, 17, 18, 2, 3, 4, 6, 7, 8, 9, 10, 11, 12, 13, 14, 30, 31, 32, 33, 34, 35, 36, 37, 38, 39, 40, 41, 42, 43, 44, 45, 46, 47, 48, 49, 50, 51, 52] (by decide +kernel) (by decide +kernel)
set_option maxRecDepth 20000 in
theorem gX7_danger_X7_weightOf : GoodIn wsX7_danger (wsV RX7 86 RX7 yX7_weightOf wsX7_weightOf) := goodIn_app (goodIn_of _ (by decide +kernel)) ggX7_danger_X7_weightOf
theorem dX7_danger_0 : decode cX7_danger 0 = .ok (.iconst 0, 1) := by decide +kernel
theorem dX7_danger_1 : decode cX7_danger 1 = .ok (.istore_n 2, 1) := by decide +kernel
theorem dX7_danger_2 : decode cX7_danger 2 = .ok (.iconst 0, 1) := by decide +kernel
theorem dX7_danger_3 : decode cX7_danger 3 = .ok (.istore_n 3, 1) := by decide +kernel
theorem dX7_danger_4 : decode cX7_danger 4 = .ok (.iload_n 3, 1) := by decide +kernel
theorem dX7_danger_5 : decode cX7_danger 5 = .ok (.aload_n 0, 1) := by decide +kernel
theorem dX7_danger_6 : decode cX7_danger 6 = .ok (.getfield 7, 3) := by decide +kernel
theorem dX7_danger_9 : decode cX7_danger 9 = .ok (.iconst 2, 1) := by decide +kernel
theorem dX7_danger_10 : decode cX7_danger 10 = .ok (.iaload, 1) := by decide +kernel
theorem dX7_danger_11 : decode cX7_danger 11 = .ok (.if_icmp .ge 33, 3) := by decide +kernel
theorem dX7_danger_14 : decode cX7_danger 14 = .ok (.iload_n 2, 1) := by decide +kernel
theorem dX7_danger_15 : decode cX7_danger 15 = .ok (.aload_n 0, 1) := by decide +kernel
theorem dX7_danger_16 : decode cX7_danger 16 = .ok (.iload_n 3, 1) := by decide +kernel
theorem dX7_danger_17 : decode cX7_danger 17 = .ok (.invokevirtual 75, 3) := by decide +kernel
theorem dX7_danger_20 : decode cX7_danger 20 = .ok (.iload_n 1, 1) := by decide +kernel
theorem dX7_danger_21 : decode cX7_danger 21 = .ok (.invokestatic 89, 3) := by decide +kernel
theorem dX7_danger_24 : decode cX7_danger 24 = .ok (.ifCond .eq 11, 3) := by decide +kernel
theorem dX7_danger_27 : decode cX7_danger 27 = .ok (.aload_n 0, 1) := by decide +kernel
theorem dX7_danger_28 : decode cX7_danger 28 = .ok (.iload_n 3, 1) := by decide +kernel
theorem dX7_danger_29 : decode cX7_danger 29 = .ok (.invokevirtual 86, 3) := by decide +kernel
theorem dX7_danger_32 : decode cX7_danger 32 = .ok (.goto 4, 3) := by decide +kernel
theorem dX7_danger_35 : decode cX7_danger 35 = .ok (.iconst 0, 1) := by decide +kernel
theorem dX7_danger_36 : decode cX7_danger 36 = .ok (.iadd, 1) := by decide +kernel
theorem dX7_danger_37 : decode cX7_danger 37 = .ok (.istore_n 2, 1) := by decide +kernel
theorem dX7_danger_38 : decode cX7_danger 38 = .ok (.iinc 3 1, 3) := by decide +kernel
theorem dX7_danger_41 : decode cX7_danger 41 = .ok (.goto (-37), 3) := by decide +kernel
theorem dX7_danger_44 : decode cX7_danger 44 = .ok (.iload_n 2, 1) := by decide +kernel
theorem dX7_danger_45 : decode cX7_danger 45 = .ok (.ireturn, 1) := by decide +kernel
set_option maxRecDepth 20000 in
theorem ggX7_threats_X7_isDead : GoodIn wsX7_threats wsX7_isDead := goodIn_r _ [6, 1, 7, 8, 9, 5, 10, 26, 27, 28, 29, 30, 31, 32, 33, 34, 35, 36, 37, 38, 39, 40, 41, 42, 43, 44, 45] (by decide +kernel) (by decide +kernel)
set_option maxRecDepth 20000 in
theorem gX7_threats_X7_isDead : GoodIn wsX7_threats (wsV RX7 71 RX7 yX7_isDead wsX7_isDead) := goodIn_app (goodIn_of _ (by decide +kernel)) ggX7_threats_X7_isDead
set_option maxRecDepth 20000 in
theorem ggX7_threats_X7_freeOf : GoodIn wsX7_threats wsX7_freeOf := goodIn_r _ [14, 1, 15, 16, 17, 5, 18, 19, 20, 21, 22, 7, 8, 9, 10, 26, 27, 28, 29, 30, 31, 32, 33, 34, 35, 36, 37, 38, 39, 40, 41, 42, 43, 44, 45] (by decide +kernel) (by decide +kernel)
set_option maxRecDepth 20000 in
theorem gX7_threats_X7_freeOf : GoodIn wsX7_threats (wsV RX7 75 RX7 yX7_freeOf wsX7_freeOf) := goodIn_app (goodIn_of _ (by decide +kernel)) ggX7_threats_X7_freeOf
set_option maxRecDepth 20000 in
theorem ggX7_threats_X7_ones : GoodIn wsX7_threats wsX7_ones := goodIn_r _ [25] (by decide +kernel) (by decide +kernel)
set_option maxRecDepth 20000 in
theorem gX7_threats_X7_ones : GoodIn wsX7_threats (va_wsS RX7 79 yX7_ones wsX7_ones) := goodIn_app (goodIn_of _ (by decide +kernel)) ggX7_threats_X7_ones
theorem dX7_threats_0 : decode cX7_threats 0 = .ok (.iconst 0, 1) := by decide +kernel
theorem dX7_threats_1 : decode cX7_threats 1 = .ok (.istore_n 1, 1) := by decide +kernel
theorem dX7_threats_2 : decode cX7_threats 2 = .ok (.iconst 0, 1) := by decide +kernel
theorem dX7_threats_3 : decode cX7_threats 3 = .ok (.istore_n 2, 1) := by decide +kernel
theorem dX7_threats_4 : decode cX7_threats 4 = .ok (.iload_n 2, 1) := by decide +kernel
theorem dX7_threats_5 : decode cX7_threats 5 = .ok (.aload_n 0, 1) := by decide +kernel
theorem dX7_threats_6 : decode cX7_threats 6 = .ok (.getfield 7, 3) := by decide +kernel
theorem dX7_threats_9 : decode cX7_threats 9 = .ok (.iconst 2, 1) := by decide +kernel
theorem dX7_threats_10 : decode cX7_threats 10 = .ok (.iaload, 1) := by decide +kernel
theorem dX7_threats_11 : decode cX7_threats 11 = .ok (.if_icmp .ge 41, 3) := by decide +kernel
theorem dX7_threats_14 : decode cX7_threats 14 = .ok (.iload_n 1, 1) := by decide +kernel
theorem dX7_threats_15 : decode cX7_threats 15 = .ok (.aload_n 0, 1) := by decide +kernel
theorem dX7_threats_16 : decode cX7_threats 16 = .ok (.iload_n 2, 1) := by decide +kernel
theorem dX7_threats_17 : decode cX7_threats 17 = .ok (.invokevirtual 71, 3) := by decide +kernel
theorem dX7_threats_20 : decode cX7_threats 20 = .ok (.ifCond .ne 23, 3) := by decide +kernel
theorem dX7_threats_23 : decode cX7_threats 23 = .ok (.aload_n 0, 1) := by decide +kernel
theorem dX7_threats_24 : decode cX7_threats 24 = .ok (.iload_n 2, 1) := by decide +kernel
theorem dX7_threats_25 : decode cX7_threats 25 = .ok (.invokevirtual 75, 3) := by decide +kernel
theorem dX7_threats_28 : decode cX7_threats 28 = .ok (.invokestatic 79, 3) := by decide +kernel
theorem dX7_threats_31 : decode cX7_threats 31 = .ok (.iconst 1, 1) := by decide +kernel
theorem dX7_threats_32 : decode cX7_threats 32 = .ok (.if_icmp .ne 11, 3) := by decide +kernel
theorem dX7_threats_35 : decode cX7_threats 35 = .ok (.aload_n 0, 1) := by decide +kernel
theorem dX7_threats_36 : decode cX7_threats 36 = .ok (.iload_n 2, 1) := by decide +kernel
theorem dX7_threats_37 : decode cX7_threats 37 = .ok (.invokevirtual 75, 3) := by decide +kernel
theorem dX7_threats_40 : decode cX7_threats 40 = .ok (.goto 4, 3) := by decide +kernel
theorem dX7_threats_43 : decode cX7_threats 43 = .ok (.iconst 0, 1) := by decide +kernel
theorem dX7_threats_44 : decode cX7_threats 44 = .ok (.ior, 1) := by decide +kernel
theorem dX7_threats_45 : decode cX7_threats 45 = .ok (.istore_n 1, 1) := by decide +kernel
theorem dX7_threats_46 : decode cX7_threats 46 = .ok (.iinc 2 1, 3) := by decide +kernel
theorem dX7_threats_49 : decode cX7_threats 49 = .ok (.goto (-45), 3) := by decide +kernel
theorem dX7_threats_52 : decode cX7_threats 52 = .ok (.iload_n 1, 1) := by decide +kernel
theorem dX7_threats_53 : decode cX7_threats 53 = .ok (.ireturn, 1) := by decide +kernel
set_option maxRecDepth 20000 in
theorem ggX7_lowest_X7_has : GoodIn wsX7_lowest wsX7_has := goodIn_r _ [4] (by decide +kernel) (by decide +kernel)
set_option maxRecDepth 20000 in
theorem gX7_lowest_X7_has : GoodIn wsX7_lowest (va_wsS RX7 89 yX7_has wsX7_has) := goodIn_app (goodIn_of _ (by decide +kernel)) ggX7_lowest_X7_has
theorem dX7_lowest_0 : decode cX7_lowest 0 = .ok (.iconst 0, 1) := by decide +kernel
theorem dX7_lowest_1 : decode cX7_lowest 1 = .ok (.istore_n 2, 1) := by decide +kernel
theorem dX7_lowest_2 : decode cX7_lowest 2 = .ok (.iload_n 2, 1) := by decide +kernel
theorem dX7_lowest_3 : decode cX7_lowest 3 = .ok (.bipush 10, 2) := by decide +kernel
theorem dX7_lowest_5 : decode cX7_lowest 5 = .ok (.if_icmp .ge 17, 3) := by decide +kernel
theorem dX7_lowest_8 : decode cX7_lowest 8 = .ok (.iload_n 1, 1) := by decide +kernel
theorem dX7_lowest_9 : decode cX7_lowest 9 = .ok (.iload_n 2, 1) := by decide +kernel
theorem dX7_lowest_10 : decode cX7_lowest 10 = .ok (.invokestatic 89, 3) := by decide +kernel
theorem dX7_lowest_13 : decode cX7_lowest 13 = .ok (.ifCond .ne 9, 3) := by decide +kernel
theorem dX7_lowest_16 : decode cX7_lowest 16 = .ok (.iinc 2 1, 3) := by decide +kernel
theorem dX7_lowest_19 : decode cX7_lowest 19 = .ok (.goto (-17), 3) := by decide +kernel
theorem dX7_lowest_22 : decode cX7_lowest 22 = .ok (.iload_n 2, 1) := by decide +kernel
theorem dX7_lowest_23 : decode cX7_lowest 23 = .ok (.bipush 10, 2) := by decide +kernel
theorem dX7_lowest_25 : decode cX7_lowest 25 = .ok (.if_icmp .ne 7, 3) := by decide +kernel
theorem dX7_lowest_28 : decode cX7_lowest 28 = .ok (.iconst (-1), 1) := by decide +kernel
theorem dX7_lowest_29 : decode cX7_lowest 29 = .ok (.goto 4, 3) := by decide +kernel
theorem dX7_lowest_32 : decode cX7_lowest 32 = .ok (.iload_n 2, 1) := by decide +kernel
theorem dX7_lowest_33 : decode cX7_lowest 33 = .ok (.ireturn, 1) := by decide +kernel
set_option maxRecDepth 20000 in
theorem ggX7_forced_X7_winnerNow : GoodIn wsX7_forced wsX7_winnerNow := goodIn_r _ [5, 6, 7, 8, 4, 9, 10, 11, 12, 13, 14, 15, 16, 17, 18, 45, 46, 47, 48, 49, 50, 51, 52, 53, 54, 55, 56, 57, 58, 59, 60, 61, 62, 63, 64] (by decide +kernel) (by decide +kernel)
set_option maxRecDepth 20000 in
theorem gX7_forced_X7_winnerNow : GoodIn wsX7_forced (wsV RX7 93 RX7 yX7_winnerNow wsX7_winnerNow) := goodIn_app (goodIn_of _ (by decide +kernel)) ggX7_forced_X7_winnerNow
set_option maxRecDepth 20000 in
theorem ggX7_forced_X7_threats : GoodIn wsX7_forced wsX7_threats := goodIn_r _ [22, 10, 23, 24, 25, 4, 26, 11, 12, 13, 14, 27, 28, 29, 30, 31, 32, 33, 34, 6, 7, 8, 9, 35, 36, 37, 45, 46, 47, 48, 49, 50, 51, 52, 53, 54, 55, 56, 57, 58, 59, 60, 61, 62, 63, 64] (by decide +kernel) (by decide +kernel)
set_option maxRecDepth 20000 in
theorem gX7_forced_X7_threats : GoodIn wsX7_forced (wsV RX7 96 RX7 yX7_threats wsX7_threats) := goodIn_app (goodIn_of _ (by decide +kernel)) ggX7_forced_X7_threats
set_option maxRecDepth 20000 in
theorem ggX7_forced_X7_lowest : GoodIn wsX7_forced wsX7_lowest := goodIn_r _ [41, 42, 43, 4, 44] (by decide +kernel) (by decide +kernel)
set_option maxRecDepth 20000 in
theorem gX7_forced_X7_lowest : GoodIn wsX7_forced (wsV RX7 99 RX7 yX7_lowest wsX7_lowest) := goodIn_app (goodIn_of _ (by decide +kernel)) ggX7_forced_X7_lowest
theorem dX7_forced_0 : decode cX7_forced 0 = .ok (.aload_n 0, 1) := by decide +kernel
theorem dX7_forced_1 : decode cX7_forced 1 = .ok (.invokevirtual 93, 3) := by decide +kernel
theorem dX7_forced_4 : decode cX7_forced 4 = .ok (.ifCond .ne 14, 3) := by decide +kernel
theorem dX7_forced_7 : decode cX7_forced 7 = .ok (.aload_n 0, 1) := by decide +kernel
theorem dX7_forced_8 : decode cX7_forced 8 = .ok (.aload_n 0, 1) := by decide +kernel
theorem dX7_forced_9 : decode cX7_forced 9 = .ok (.invokevirtual 96, 3) := by decide +kernel
theorem dX7_forced_12 : decode cX7_forced 12 = .ok (.invokevirtual 99, 3) := by decide +kernel
theorem dX7_forced_15 : decode cX7_forced 15 = .ok (.goto 4, 3) := by decide +kernel
theorem dX7_forced_18 : decode cX7_forced 18 = .ok (.iconst (-1), 1) := by decide +kernel
theorem dX7_forced_19 : decode cX7_forced 19 = .ok (.ireturn, 1) := by decide +kernel
set_option maxRecDepth 20000 in
theorem ggX7_hasPair_X7_has : GoodIn wsX7_hasPair wsX7_has := goodIn_r _ [6] (by decide +kernel) (by decide +kernel)
set_option maxRecDepth 20000 in
theorem gX7_hasPair_X7_has : GoodIn wsX7_hasPair (va_wsS RX7 89 yX7_has wsX7_has) := goodIn_app (goodIn_of _ (by decide +kernel)) ggX7_hasPair_X7_has
theorem dX7_hasPair_0 : decode cX7_hasPair 0 = .ok (.iconst 0, 1) := by decide +kernel
theorem dX7_hasPair_1 : decode cX7_hasPair 1 = .ok (.istore_n 2, 1) := by decide +kernel
theorem dX7_hasPair_2 : decode cX7_hasPair 2 = .ok (.iconst 0, 1) := by decide +kernel
theorem dX7_hasPair_3 : decode cX7_hasPair 3 = .ok (.istore_n 3, 1) := by decide +kernel
theorem dX7_hasPair_4 : decode cX7_hasPair 4 = .ok (.iload_n 3, 1) := by decide +kernel
theorem dX7_hasPair_5 : decode cX7_hasPair 5 = .ok (.aload_n 0, 1) := by decide +kernel
theorem dX7_hasPair_6 : decode cX7_hasPair 6 = .ok (.getfield 7, 3) := by decide +kernel
theorem dX7_hasPair_9 : decode cX7_hasPair 9 = .ok (.iconst 0, 1) := by decide +kernel
theorem dX7_hasPair_10 : decode cX7_hasPair 10 = .ok (.iaload, 1) := by decide +kernel
theorem dX7_hasPair_11 : decode cX7_hasPair 11 = .ok (.if_icmp .ge 66, 3) := by decide +kernel
theorem dX7_hasPair_14 : decode cX7_hasPair 14 = .ok (.iload_n 2, 1) := by decide +kernel
theorem dX7_hasPair_15 : decode cX7_hasPair 15 = .ok (.ifCond .ne 50, 3) := by decide +kernel
theorem dX7_hasPair_18 : decode cX7_hasPair 18 = .ok (.aload_n 0, 1) := by decide +kernel
theorem dX7_hasPair_19 : decode cX7_hasPair 19 = .ok (.getfield 7, 3) := by decide +kernel
theorem dX7_hasPair_22 : decode cX7_hasPair 22 = .ok (.bipush 10, 2) := by decide +kernel
theorem dX7_hasPair_24 : decode cX7_hasPair 24 = .ok (.iload_n 1, 1) := by decide +kernel
theorem dX7_hasPair_25 : decode cX7_hasPair 25 = .ok (.iadd, 1) := by decide +kernel
theorem dX7_hasPair_26 : decode cX7_hasPair 26 = .ok (.iaload, 1) := by decide +kernel
theorem dX7_hasPair_27 : decode cX7_hasPair 27 = .ok (.iload_n 3, 1) := by decide +kernel
theorem dX7_hasPair_28 : decode cX7_hasPair 28 = .ok (.invokestatic 89, 3) := by decide +kernel
theorem dX7_hasPair_31 : decode cX7_hasPair 31 = .ok (.ifCond .eq 38, 3) := by decide +kernel
theorem dX7_hasPair_34 : decode cX7_hasPair 34 = .ok (.aload_n 0, 1) := by decide +kernel
theorem dX7_hasPair_35 : decode cX7_hasPair 35 = .ok (.getfield 25, 3) := by decide +kernel
theorem dX7_hasPair_38 : decode cX7_hasPair 38 = .ok (.iload_n 3, 1) := by decide +kernel
theorem dX7_hasPair_39 : decode cX7_hasPair 39 = .ok (.iaload, 1) := by decide +kernel
theorem dX7_hasPair_40 : decode cX7_hasPair 40 = .ok (.iconst (-1), 1) := by decide +kernel
theorem dX7_hasPair_41 : decode cX7_hasPair 41 = .ok (.if_icmp .eq 28, 3) := by decide +kernel
theorem dX7_hasPair_44 : decode cX7_hasPair 44 = .ok (.aload_n 0, 1) := by decide +kernel
theorem dX7_hasPair_45 : decode cX7_hasPair 45 = .ok (.getfield 7, 3) := by decide +kernel
theorem dX7_hasPair_48 : decode cX7_hasPair 48 = .ok (.bipush 10, 2) := by decide +kernel
theorem dX7_hasPair_50 : decode cX7_hasPair 50 = .ok (.iload_n 1, 1) := by decide +kernel
theorem dX7_hasPair_51 : decode cX7_hasPair 51 = .ok (.iadd, 1) := by decide +kernel
theorem dX7_hasPair_52 : decode cX7_hasPair 52 = .ok (.iaload, 1) := by decide +kernel
theorem dX7_hasPair_53 : decode cX7_hasPair 53 = .ok (.aload_n 0, 1) := by decide +kernel
theorem dX7_hasPair_54 : decode cX7_hasPair 54 = .ok (.getfield 25, 3) := by decide +kernel
theorem dX7_hasPair_57 : decode cX7_hasPair 57 = .ok (.iload_n 3, 1) := by decide +kernel
theorem dX7_hasPair_58 : decode cX7_hasPair 58 = .ok (.iaload, 1) := by decide +kernel
theorem dX7_hasPair_59 : decode cX7_hasPair 59 = .ok (.invokestatic 89, 3) := by decide +kernel
theorem dX7_hasPair_62 : decode cX7_hasPair 62 = .ok (.ifCond .eq 7, 3) := by decide +kernel
theorem dX7_hasPair_65 : decode cX7_hasPair 65 = .ok (.iconst 1, 1) := by decide +kernel
theorem dX7_hasPair_66 : decode cX7_hasPair 66 = .ok (.goto 4, 3) := by decide +kernel
theorem dX7_hasPair_69 : decode cX7_hasPair 69 = .ok (.iconst 0, 1) := by decide +kernel
theorem dX7_hasPair_70 : decode cX7_hasPair 70 = .ok (.istore_n 2, 1) := by decide +kernel
theorem dX7_hasPair_71 : decode cX7_hasPair 71 = .ok (.iinc 3 1, 3) := by decide +kernel
theorem dX7_hasPair_74 : decode cX7_hasPair 74 = .ok (.goto (-70), 3) := by decide +kernel
theorem dX7_hasPair_77 : decode cX7_hasPair 77 = .ok (.iload_n 2, 1) := by decide +kernel
theorem dX7_hasPair_78 : decode cX7_hasPair 78 = .ok (.ireturn, 1) := by decide +kernel
set_option maxRecDepth 20000 in
theorem ggX7_isLoose_X7_freeOf : GoodIn wsX7_isLoose wsX7_freeOf := goodIn_r _ [7, 1, 8, 9, 10, 6, 11, 12, 13, 14, 15, 16, 17, 18, 19, 23, 24, 25, 26, 27, 28, 29, 30, 31, 32, 33, 34, 35, 36, 37, 38, 39, 40, 41, 42] (by decide +kernel) (by decide +kernel)
set_option maxRecDepth 20000 in
theorem gX7_isLoose_X7_freeOf : GoodIn wsX7_isLoose (wsV RX7 75 RX7 yX7_freeOf wsX7_freeOf) := goodIn_app (goodIn_of _ (by decide +kernel)) ggX7_isLoose_X7_freeOf
set_option maxRecDepth 20000 in
theorem ggX7_isLoose_X7_has : GoodIn wsX7_isLoose wsX7_has := goodIn_r _ [22] (by decide +kernel) (by decide +kernel)
set_option maxRecDepth 20000 in
theorem gX7_isLoose_X7_has : GoodIn wsX7_isLoose (va_wsS RX7 89 yX7_has wsX7_has) := goodIn_app (goodIn_of _ (by decide +kernel)) ggX7_isLoose_X7_has
theorem dX7_isLoose_0 : decode cX7_isLoose 0 = .ok (.iload_n 2, 1) := by decide +kernel
theorem dX7_isLoose_1 : decode cX7_isLoose 1 = .ok (.aload_n 0, 1) := by decide +kernel
theorem dX7_isLoose_2 : decode cX7_isLoose 2 = .ok (.getfield 7, 3) := by decide +kernel
theorem dX7_isLoose_5 : decode cX7_isLoose 5 = .ok (.iconst 0, 1) := by decide +kernel
theorem dX7_isLoose_6 : decode cX7_isLoose 6 = .ok (.iaload, 1) := by decide +kernel
theorem dX7_isLoose_7 : decode cX7_isLoose 7 = .ok (.if_icmp .ge 29, 3) := by decide +kernel
theorem dX7_isLoose_10 : decode cX7_isLoose 10 = .ok (.aload_n 0, 1) := by decide +kernel
theorem dX7_isLoose_11 : decode cX7_isLoose 11 = .ok (.iload_n 1, 1) := by decide +kernel
theorem dX7_isLoose_12 : decode cX7_isLoose 12 = .ok (.invokevirtual 75, 3) := by decide +kernel
theorem dX7_isLoose_15 : decode cX7_isLoose 15 = .ok (.iload_n 2, 1) := by decide +kernel
theorem dX7_isLoose_16 : decode cX7_isLoose 16 = .ok (.invokestatic 89, 3) := by decide +kernel
theorem dX7_isLoose_19 : decode cX7_isLoose 19 = .ok (.ifCond .eq 17, 3) := by decide +kernel
theorem dX7_isLoose_22 : decode cX7_isLoose 22 = .ok (.aload_n 0, 1) := by decide +kernel
theorem dX7_isLoose_23 : decode cX7_isLoose 23 = .ok (.getfield 25, 3) := by decide +kernel
theorem dX7_isLoose_26 : decode cX7_isLoose 26 = .ok (.iload_n 2, 1) := by decide +kernel
theorem dX7_isLoose_27 : decode cX7_isLoose 27 = .ok (.iaload, 1) := by decide +kernel
theorem dX7_isLoose_28 : decode cX7_isLoose 28 = .ok (.iconst (-1), 1) := by decide +kernel
theorem dX7_isLoose_29 : decode cX7_isLoose 29 = .ok (.if_icmp .ne 7, 3) := by decide +kernel
theorem dX7_isLoose_32 : decode cX7_isLoose 32 = .ok (.iconst 1, 1) := by decide +kernel
theorem dX7_isLoose_33 : decode cX7_isLoose 33 = .ok (.goto 4, 3) := by decide +kernel
theorem dX7_isLoose_36 : decode cX7_isLoose 36 = .ok (.iconst 0, 1) := by decide +kernel
theorem dX7_isLoose_37 : decode cX7_isLoose 37 = .ok (.ireturn, 1) := by decide +kernel
theorem dX7_unpair_0 : decode cX7_unpair 0 = .ok (.aload_n 0, 1) := by decide +kernel
theorem dX7_unpair_1 : decode cX7_unpair 1 = .ok (.getfield 28, 3) := by decide +kernel
theorem dX7_unpair_4 : decode cX7_unpair 4 = .ok (.iload_n 1, 1) := by decide +kernel
theorem dX7_unpair_5 : decode cX7_unpair 5 = .ok (.iaload, 1) := by decide +kernel
theorem dX7_unpair_6 : decode cX7_unpair 6 = .ok (.iconst (-1), 1) := by decide +kernel
theorem dX7_unpair_7 : decode cX7_unpair 7 = .ok (.if_icmp .eq 27, 3) := by decide +kernel
theorem dX7_unpair_10 : decode cX7_unpair 10 = .ok (.aload_n 0, 1) := by decide +kernel
theorem dX7_unpair_11 : decode cX7_unpair 11 = .ok (.getfield 25, 3) := by decide +kernel
theorem dX7_unpair_14 : decode cX7_unpair 14 = .ok (.aload_n 0, 1) := by decide +kernel
theorem dX7_unpair_15 : decode cX7_unpair 15 = .ok (.getfield 28, 3) := by decide +kernel
theorem dX7_unpair_18 : decode cX7_unpair 18 = .ok (.iload_n 1, 1) := by decide +kernel
theorem dX7_unpair_19 : decode cX7_unpair 19 = .ok (.iaload, 1) := by decide +kernel
theorem dX7_unpair_20 : decode cX7_unpair 20 = .ok (.iconst (-1), 1) := by decide +kernel
theorem dX7_unpair_21 : decode cX7_unpair 21 = .ok (.iastore, 1) := by decide +kernel
theorem dX7_unpair_22 : decode cX7_unpair 22 = .ok (.aload_n 0, 1) := by decide +kernel
theorem dX7_unpair_23 : decode cX7_unpair 23 = .ok (.getfield 25, 3) := by decide +kernel
theorem dX7_unpair_26 : decode cX7_unpair 26 = .ok (.aload_n 0, 1) := by decide +kernel
theorem dX7_unpair_27 : decode cX7_unpair 27 = .ok (.getfield 31, 3) := by decide +kernel
theorem dX7_unpair_30 : decode cX7_unpair 30 = .ok (.iload_n 1, 1) := by decide +kernel
theorem dX7_unpair_31 : decode cX7_unpair 31 = .ok (.iaload, 1) := by decide +kernel
theorem dX7_unpair_32 : decode cX7_unpair 32 = .ok (.iconst (-1), 1) := by decide +kernel
theorem dX7_unpair_33 : decode cX7_unpair 33 = .ok (.iastore, 1) := by decide +kernel
theorem dX7_unpair_34 : decode cX7_unpair 34 = .ok (.return_, 1) := by decide +kernel
set_option maxRecDepth 20000 in
theorem ggX7_pairNext_X7_unpair : GoodIn wsX7_pairNext wsX7_unpair := goodIn_r _ [9, 1, 4, 2, 33, 34, 35, 36, 37, 38, 39, 40, 41, 42, 43, 44, 45, 46, 47, 48, 49, 50, 51, 52] (by decide +kernel) (by decide +kernel)
set_option maxRecDepth 20000 in
theorem gX7_pairNext_X7_unpair : GoodIn wsX7_pairNext (wsV RX7 102 RX7 yX7_unpair wsX7_unpair) := goodIn_app (goodIn_of _ (by decide +kernel)) ggX7_pairNext_X7_unpair
set_option maxRecDepth 20000 in
theorem ggX7_pairNext_X7_isLoose : GoodIn wsX7_pairNext wsX7_isLoose := goodIn_r _ [13, 3, 4, 14, 15, 16, 8, 17, 18, 19, 20, 21, 22, 23, 24, 25, 26, 27, 28, 29, 30, 31, 32, 33, 34, 35, 36, 37, 38, 39, 40, 41, 42, 43, 44, 45, 46, 47, 48, 49, 50, 51, 52] (by decide +kernel) (by decide +kernel)
set_option maxRecDepth 20000 in
theorem gX7_pairNext_X7_isLoose : GoodIn wsX7_pairNext (wsV RX7 106 RX7 yX7_isLoose wsX7_isLoose) := goodIn_app (goodIn_of _ (by decide +kernel)) ggX7_pairNext_X7_isLoose
theorem dX7_pairNext_0 : decode cX7_pairNext 0 = .ok (.aload_n 0, 1) := by decide +kernel
theorem dX7_pairNext_1 : decode cX7_pairNext 1 = .ok (.getfield 28, 3) := by decide +kernel
theorem dX7_pairNext_4 : decode cX7_pairNext 4 = .ok (.iload_n 1, 1) := by decide +kernel
theorem dX7_pairNext_5 : decode cX7_pairNext 5 = .ok (.iaload, 1) := by decide +kernel
theorem dX7_pairNext_6 : decode cX7_pairNext 6 = .ok (.iconst (-1), 1) := by decide +kernel
theorem dX7_pairNext_7 : decode cX7_pairNext 7 = .ok (.if_icmp .ne 7, 3) := by decide +kernel
theorem dX7_pairNext_10 : decode cX7_pairNext 10 = .ok (.iconst 0, 1) := by decide +kernel
theorem dX7_pairNext_11 : decode cX7_pairNext 11 = .ok (.goto 9, 3) := by decide +kernel
theorem dX7_pairNext_14 : decode cX7_pairNext 14 = .ok (.aload_n 0, 1) := by decide +kernel
theorem dX7_pairNext_15 : decode cX7_pairNext 15 = .ok (.getfield 28, 3) := by decide +kernel
theorem dX7_pairNext_18 : decode cX7_pairNext 18 = .ok (.iload_n 1, 1) := by decide +kernel
theorem dX7_pairNext_19 : decode cX7_pairNext 19 = .ok (.iaload, 1) := by decide +kernel
theorem dX7_pairNext_20 : decode cX7_pairNext 20 = .ok (.istore_n 2, 1) := by decide +kernel
theorem dX7_pairNext_21 : decode cX7_pairNext 21 = .ok (.aload_n 0, 1) := by decide +kernel
theorem dX7_pairNext_22 : decode cX7_pairNext 22 = .ok (.getfield 28, 3) := by decide +kernel
theorem dX7_pairNext_25 : decode cX7_pairNext 25 = .ok (.iload_n 1, 1) := by decide +kernel
theorem dX7_pairNext_26 : decode cX7_pairNext 26 = .ok (.iaload, 1) := by decide +kernel
theorem dX7_pairNext_27 : decode cX7_pairNext 27 = .ok (.iconst (-1), 1) := by decide +kernel
theorem dX7_pairNext_28 : decode cX7_pairNext 28 = .ok (.if_icmp .ne 7, 3) := by decide +kernel
theorem dX7_pairNext_31 : decode cX7_pairNext 31 = .ok (.iconst 0, 1) := by decide +kernel
theorem dX7_pairNext_32 : decode cX7_pairNext 32 = .ok (.goto 9, 3) := by decide +kernel
theorem dX7_pairNext_35 : decode cX7_pairNext 35 = .ok (.aload_n 0, 1) := by decide +kernel
theorem dX7_pairNext_36 : decode cX7_pairNext 36 = .ok (.getfield 31, 3) := by decide +kernel
theorem dX7_pairNext_39 : decode cX7_pairNext 39 = .ok (.iload_n 1, 1) := by decide +kernel
theorem dX7_pairNext_40 : decode cX7_pairNext 40 = .ok (.iaload, 1) := by decide +kernel
theorem dX7_pairNext_41 : decode cX7_pairNext 41 = .ok (.istore_n 3, 1) := by decide +kernel
theorem dX7_pairNext_42 : decode cX7_pairNext 42 = .ok (.aload_n 0, 1) := by decide +kernel
theorem dX7_pairNext_43 : decode cX7_pairNext 43 = .ok (.iload_n 1, 1) := by decide +kernel
theorem dX7_pairNext_44 : decode cX7_pairNext 44 = .ok (.invokevirtual 102, 3) := by decide +kernel
theorem dX7_pairNext_47 : decode cX7_pairNext 47 = .ok (.iload_n 2, 1) := by decide +kernel
theorem dX7_pairNext_48 : decode cX7_pairNext 48 = .ok (.aload_n 0, 1) := by decide +kernel
theorem dX7_pairNext_49 : decode cX7_pairNext 49 = .ok (.getfield 7, 3) := by decide +kernel
theorem dX7_pairNext_52 : decode cX7_pairNext 52 = .ok (.iconst 0, 1) := by decide +kernel
theorem dX7_pairNext_53 : decode cX7_pairNext 53 = .ok (.iaload, 1) := by decide +kernel
theorem dX7_pairNext_54 : decode cX7_pairNext 54 = .ok (.if_icmp .ge 77, 3) := by decide +kernel
theorem dX7_pairNext_57 : decode cX7_pairNext 57 = .ok (.iinc 3 1, 3) := by decide +kernel
theorem dX7_pairNext_60 : decode cX7_pairNext 60 = .ok (.iload_n 3, 1) := by decide +kernel
theorem dX7_pairNext_61 : decode cX7_pairNext 61 = .ok (.aload_n 0, 1) := by decide +kernel
theorem dX7_pairNext_62 : decode cX7_pairNext 62 = .ok (.getfield 7, 3) := by decide +kernel
theorem dX7_pairNext_65 : decode cX7_pairNext 65 = .ok (.iconst 0, 1) := by decide +kernel
theorem dX7_pairNext_66 : decode cX7_pairNext 66 = .ok (.iaload, 1) := by decide +kernel
theorem dX7_pairNext_67 : decode cX7_pairNext 67 = .ok (.if_icmp .lt 11, 3) := by decide +kernel
theorem dX7_pairNext_70 : decode cX7_pairNext 70 = .ok (.iinc 2 1, 3) := by decide +kernel
theorem dX7_pairNext_73 : decode cX7_pairNext 73 = .ok (.iload_n 2, 1) := by decide +kernel
theorem dX7_pairNext_74 : decode cX7_pairNext 74 = .ok (.istore_n 3, 1) := by decide +kernel
theorem dX7_pairNext_75 : decode cX7_pairNext 75 = .ok (.goto (-28), 3) := by decide +kernel
theorem dX7_pairNext_78 : decode cX7_pairNext 78 = .ok (.iload_n 3, 1) := by decide +kernel
theorem dX7_pairNext_79 : decode cX7_pairNext 79 = .ok (.iload_n 2, 1) := by decide +kernel
theorem dX7_pairNext_80 : decode cX7_pairNext 80 = .ok (.if_icmp .le (-33), 3) := by decide +kernel
theorem dX7_pairNext_83 : decode cX7_pairNext 83 = .ok (.aload_n 0, 1) := by decide +kernel
theorem dX7_pairNext_84 : decode cX7_pairNext 84 = .ok (.iload_n 1, 1) := by decide +kernel
theorem dX7_pairNext_85 : decode cX7_pairNext 85 = .ok (.iload_n 2, 1) := by decide +kernel
theorem dX7_pairNext_86 : decode cX7_pairNext 86 = .ok (.invokevirtual 106, 3) := by decide +kernel
theorem dX7_pairNext_89 : decode cX7_pairNext 89 = .ok (.ifCond .eq (-42), 3) := by decide +kernel
theorem dX7_pairNext_92 : decode cX7_pairNext 92 = .ok (.aload_n 0, 1) := by decide +kernel
theorem dX7_pairNext_93 : decode cX7_pairNext 93 = .ok (.iload_n 1, 1) := by decide +kernel
theorem dX7_pairNext_94 : decode cX7_pairNext 94 = .ok (.iload_n 3, 1) := by decide +kernel
theorem dX7_pairNext_95 : decode cX7_pairNext 95 = .ok (.invokevirtual 106, 3) := by decide +kernel
theorem dX7_pairNext_98 : decode cX7_pairNext 98 = .ok (.ifCond .eq (-51), 3) := by decide +kernel
theorem dX7_pairNext_101 : decode cX7_pairNext 101 = .ok (.aload_n 0, 1) := by decide +kernel
theorem dX7_pairNext_102 : decode cX7_pairNext 102 = .ok (.getfield 28, 3) := by decide +kernel
theorem dX7_pairNext_105 : decode cX7_pairNext 105 = .ok (.iload_n 1, 1) := by decide +kernel
theorem dX7_pairNext_106 : decode cX7_pairNext 106 = .ok (.iload_n 2, 1) := by decide +kernel
theorem dX7_pairNext_107 : decode cX7_pairNext 107 = .ok (.iastore, 1) := by decide +kernel
theorem dX7_pairNext_108 : decode cX7_pairNext 108 = .ok (.aload_n 0, 1) := by decide +kernel
theorem dX7_pairNext_109 : decode cX7_pairNext 109 = .ok (.getfield 31, 3) := by decide +kernel
theorem dX7_pairNext_112 : decode cX7_pairNext 112 = .ok (.iload_n 1, 1) := by decide +kernel
theorem dX7_pairNext_113 : decode cX7_pairNext 113 = .ok (.iload_n 3, 1) := by decide +kernel
theorem dX7_pairNext_114 : decode cX7_pairNext 114 = .ok (.iastore, 1) := by decide +kernel
theorem dX7_pairNext_115 : decode cX7_pairNext 115 = .ok (.aload_n 0, 1) := by decide +kernel
theorem dX7_pairNext_116 : decode cX7_pairNext 116 = .ok (.getfield 25, 3) := by decide +kernel
theorem dX7_pairNext_119 : decode cX7_pairNext 119 = .ok (.iload_n 2, 1) := by decide +kernel
theorem dX7_pairNext_120 : decode cX7_pairNext 120 = .ok (.iload_n 3, 1) := by decide +kernel
theorem dX7_pairNext_121 : decode cX7_pairNext 121 = .ok (.iastore, 1) := by decide +kernel
theorem dX7_pairNext_122 : decode cX7_pairNext 122 = .ok (.aload_n 0, 1) := by decide +kernel
theorem dX7_pairNext_123 : decode cX7_pairNext 123 = .ok (.getfield 25, 3) := by decide +kernel
theorem dX7_pairNext_126 : decode cX7_pairNext 126 = .ok (.iload_n 3, 1) := by decide +kernel
theorem dX7_pairNext_127 : decode cX7_pairNext 127 = .ok (.iload_n 2, 1) := by decide +kernel
theorem dX7_pairNext_128 : decode cX7_pairNext 128 = .ok (.iastore, 1) := by decide +kernel
theorem dX7_pairNext_129 : decode cX7_pairNext 129 = .ok (.iconst 1, 1) := by decide +kernel
theorem dX7_pairNext_130 : decode cX7_pairNext 130 = .ok (.ireturn, 1) := by decide +kernel
theorem dX7_pairNext_131 : decode cX7_pairNext 131 = .ok (.aload_n 0, 1) := by decide +kernel
theorem dX7_pairNext_132 : decode cX7_pairNext 132 = .ok (.getfield 28, 3) := by decide +kernel
theorem dX7_pairNext_135 : decode cX7_pairNext 135 = .ok (.iload_n 1, 1) := by decide +kernel
theorem dX7_pairNext_136 : decode cX7_pairNext 136 = .ok (.iconst (-1), 1) := by decide +kernel
theorem dX7_pairNext_137 : decode cX7_pairNext 137 = .ok (.iastore, 1) := by decide +kernel
theorem dX7_pairNext_138 : decode cX7_pairNext 138 = .ok (.iconst 0, 1) := by decide +kernel
theorem dX7_pairNext_139 : decode cX7_pairNext 139 = .ok (.ireturn, 1) := by decide +kernel
theorem dX7_triedAhead_0 : decode cX7_triedAhead 0 = .ok (.iload_n 1, 1) := by decide +kernel
theorem dX7_triedAhead_1 : decode cX7_triedAhead 1 = .ok (.iconst 1, 1) := by decide +kernel
theorem dX7_triedAhead_2 : decode cX7_triedAhead 2 = .ok (.isub, 1) := by decide +kernel
theorem dX7_triedAhead_3 : decode cX7_triedAhead 3 = .ok (.istore_n 2, 1) := by decide +kernel
theorem dX7_triedAhead_4 : decode cX7_triedAhead 4 = .ok (.iload_n 2, 1) := by decide +kernel
theorem dX7_triedAhead_5 : decode cX7_triedAhead 5 = .ok (.ifCond .lt 19, 3) := by decide +kernel
theorem dX7_triedAhead_8 : decode cX7_triedAhead 8 = .ok (.aload_n 0, 1) := by decide +kernel
theorem dX7_triedAhead_9 : decode cX7_triedAhead 9 = .ok (.getfield 28, 3) := by decide +kernel
theorem dX7_triedAhead_12 : decode cX7_triedAhead 12 = .ok (.iload_n 2, 1) := by decide +kernel
theorem dX7_triedAhead_13 : decode cX7_triedAhead 13 = .ok (.iaload, 1) := by decide +kernel
theorem dX7_triedAhead_14 : decode cX7_triedAhead 14 = .ok (.iconst (-1), 1) := by decide +kernel
theorem dX7_triedAhead_15 : decode cX7_triedAhead 15 = .ok (.if_icmp .ne 9, 3) := by decide +kernel
theorem dX7_triedAhead_18 : decode cX7_triedAhead 18 = .ok (.iinc 2 (-1), 3) := by decide +kernel
theorem dX7_triedAhead_21 : decode cX7_triedAhead 21 = .ok (.goto (-17), 3) := by decide +kernel
theorem dX7_triedAhead_24 : decode cX7_triedAhead 24 = .ok (.iload_n 2, 1) := by decide +kernel
theorem dX7_triedAhead_25 : decode cX7_triedAhead 25 = .ok (.ireturn, 1) := by decide +kernel
set_option maxRecDepth 20000 in
theorem ggX7_layPairing_X7_isDead : GoodIn wsX7_layPairing wsX7_isDead := goodIn_r _ [8, 2, 9, 10, 11, 7, 12, 49, 50, 51, 52, 53, 54, 55, 56, 57, 58, 59, 60, 61, 62, 63, 64, 65, 66, 67, 68] (by decide +kernel) (by decide +kernel)
set_option maxRecDepth 20000 in
theorem gX7_layPairing_X7_isDead : GoodIn wsX7_layPairing (wsV RX7 71 RX7 yX7_isDead wsX7_isDead) := goodIn_app (goodIn_of _ (by decide +kernel)) ggX7_layPairing_X7_isDead
set_option maxRecDepth 20000 in
theorem ggX7_layPairing_X7_hasPair : GoodIn wsX7_layPairing wsX7_hasPair := goodIn_r _ [16, 2, 1, 17, 18, 7, 19, 49, 50, 51, 52, 53, 54, 55, 56, 57, 58, 59, 60, 61, 62, 63, 64, 65, 66, 67, 68] (by decide +kernel) (by decide +kernel)
set_option maxRecDepth 20000 in
theorem gX7_layPairing_X7_hasPair : GoodIn wsX7_layPairing (wsV RX7 109 RX7 yX7_hasPair wsX7_hasPair) := goodIn_app (goodIn_of _ (by decide +kernel)) ggX7_layPairing_X7_hasPair
set_option maxRecDepth 20000 in
theorem ggX7_layPairing_X7_pairNext : GoodIn wsX7_layPairing wsX7_pairNext := goodIn_r _ [23, 3, 24, 2, 1, 25, 26, 27, 7, 28, 29, 30, 31, 32, 33, 34, 35, 36, 37, 38, 39, 40, 41, 42, 43, 44, 9, 10, 11, 12, 17, 18, 19, 49, 50, 51, 52, 53, 54, 55, 56, 57, 58, 59, 60, 61, 62, 63, 64, 65, 66, 67, 68] (by decide +kernel) (by decide +kernel)
set_option maxRecDepth 20000 in
theorem gX7_layPairing_X7_pairNext : GoodIn wsX7_layPairing (wsV RX7 112 RX7 yX7_pairNext wsX7_pairNext) := goodIn_app (goodIn_of _ (by decide +kernel)) ggX7_layPairing_X7_pairNext
set_option maxRecDepth 20000 in
theorem ggX7_layPairing_X7_triedAhead : GoodIn wsX7_layPairing wsX7_triedAhead := goodIn_r _ [48, 3, 49, 50, 51, 52, 53, 54, 55, 56, 57, 58, 59, 60, 61, 62, 63, 64, 65, 66, 67, 68] (by decide +kernel) (by decide +kernel)
set_option maxRecDepth 20000 in
theorem gX7_layPairing_X7_triedAhead : GoodIn wsX7_layPairing (wsV RX7 115 RX7 yX7_triedAhead wsX7_triedAhead) := goodIn_app (goodIn_of _ (by decide +kernel)) ggX7_layPairing_X7_triedAhead
theorem dX7_layPairing_0 : decode cX7_layPairing 0 = .ok (.iconst 0, 1) := by decide +kernel
theorem dX7_layPairing_1 : decode cX7_layPairing 1 = .ok (.istore_n 1, 1) := by decide +kernel
theorem dX7_layPairing_2 : decode cX7_layPairing 2 = .ok (.iload_n 1, 1) := by decide +kernel
theorem dX7_layPairing_3 : decode cX7_layPairing 3 = .ok (.bipush 10, 2) := by decide +kernel
theorem dX7_layPairing_5 : decode cX7_layPairing 5 = .ok (.if_icmp .ge 16, 3) := by decide +kernel
theorem dX7_layPairing_8 : decode cX7_layPairing 8 = .ok (.aload_n 0, 1) := by decide +kernel
theorem dX7_layPairing_9 : decode cX7_layPairing 9 = .ok (.getfield 25, 3) := by decide +kernel
theorem dX7_layPairing_12 : decode cX7_layPairing 12 = .ok (.iload_n 1, 1) := by decide +kernel
theorem dX7_layPairing_13 : decode cX7_layPairing 13 = .ok (.iconst (-1), 1) := by decide +kernel
theorem dX7_layPairing_14 : decode cX7_layPairing 14 = .ok (.iastore, 1) := by decide +kernel
theorem dX7_layPairing_15 : decode cX7_layPairing 15 = .ok (.iinc 1 1, 3) := by decide +kernel
theorem dX7_layPairing_18 : decode cX7_layPairing 18 = .ok (.goto (-16), 3) := by decide +kernel
theorem dX7_layPairing_21 : decode cX7_layPairing 21 = .ok (.iconst 0, 1) := by decide +kernel
theorem dX7_layPairing_22 : decode cX7_layPairing 22 = .ok (.istore_n 1, 1) := by decide +kernel
theorem dX7_layPairing_23 : decode cX7_layPairing 23 = .ok (.iload_n 1, 1) := by decide +kernel
theorem dX7_layPairing_24 : decode cX7_layPairing 24 = .ok (.aload_n 0, 1) := by decide +kernel
theorem dX7_layPairing_25 : decode cX7_layPairing 25 = .ok (.getfield 7, 3) := by decide +kernel
theorem dX7_layPairing_28 : decode cX7_layPairing 28 = .ok (.iconst 2, 1) := by decide +kernel
theorem dX7_layPairing_29 : decode cX7_layPairing 29 = .ok (.iaload, 1) := by decide +kernel
theorem dX7_layPairing_30 : decode cX7_layPairing 30 = .ok (.if_icmp .ge 71, 3) := by decide +kernel
theorem dX7_layPairing_33 : decode cX7_layPairing 33 = .ok (.aload_n 0, 1) := by decide +kernel
theorem dX7_layPairing_34 : decode cX7_layPairing 34 = .ok (.getfield 28, 3) := by decide +kernel
theorem dX7_layPairing_37 : decode cX7_layPairing 37 = .ok (.iload_n 1, 1) := by decide +kernel
theorem dX7_layPairing_38 : decode cX7_layPairing 38 = .ok (.iconst (-1), 1) := by decide +kernel
theorem dX7_layPairing_39 : decode cX7_layPairing 39 = .ok (.iastore, 1) := by decide +kernel
theorem dX7_layPairing_40 : decode cX7_layPairing 40 = .ok (.aload_n 0, 1) := by decide +kernel
theorem dX7_layPairing_41 : decode cX7_layPairing 41 = .ok (.iload_n 1, 1) := by decide +kernel
theorem dX7_layPairing_42 : decode cX7_layPairing 42 = .ok (.invokevirtual 71, 3) := by decide +kernel
theorem dX7_layPairing_45 : decode cX7_layPairing 45 = .ok (.ifCond .ne 19, 3) := by decide +kernel
theorem dX7_layPairing_48 : decode cX7_layPairing 48 = .ok (.aload_n 0, 1) := by decide +kernel
theorem dX7_layPairing_49 : decode cX7_layPairing 49 = .ok (.iload_n 1, 1) := by decide +kernel
theorem dX7_layPairing_50 : decode cX7_layPairing 50 = .ok (.invokevirtual 109, 3) := by decide +kernel
theorem dX7_layPairing_53 : decode cX7_layPairing 53 = .ok (.ifCond .ne 11, 3) := by decide +kernel
theorem dX7_layPairing_56 : decode cX7_layPairing 56 = .ok (.aload_n 0, 1) := by decide +kernel
theorem dX7_layPairing_57 : decode cX7_layPairing 57 = .ok (.iload_n 1, 1) := by decide +kernel
theorem dX7_layPairing_58 : decode cX7_layPairing 58 = .ok (.invokevirtual 112, 3) := by decide +kernel
theorem dX7_layPairing_61 : decode cX7_layPairing 61 = .ok (.ifCond .eq 7, 3) := by decide +kernel
theorem dX7_layPairing_64 : decode cX7_layPairing 64 = .ok (.iconst 1, 1) := by decide +kernel
theorem dX7_layPairing_65 : decode cX7_layPairing 65 = .ok (.goto 4, 3) := by decide +kernel
theorem dX7_layPairing_68 : decode cX7_layPairing 68 = .ok (.iconst 0, 1) := by decide +kernel
theorem dX7_layPairing_69 : decode cX7_layPairing 69 = .ok (.istore_n 2, 1) := by decide +kernel
theorem dX7_layPairing_70 : decode cX7_layPairing 70 = .ok (.iload_n 2, 1) := by decide +kernel
theorem dX7_layPairing_71 : decode cX7_layPairing 71 = .ok (.ifCond .ne 24, 3) := by decide +kernel
theorem dX7_layPairing_74 : decode cX7_layPairing 74 = .ok (.aload_n 0, 1) := by decide +kernel
theorem dX7_layPairing_75 : decode cX7_layPairing 75 = .ok (.iload_n 1, 1) := by decide +kernel
theorem dX7_layPairing_76 : decode cX7_layPairing 76 = .ok (.invokevirtual 115, 3) := by decide +kernel
theorem dX7_layPairing_79 : decode cX7_layPairing 79 = .ok (.istore_n 1, 1) := by decide +kernel
theorem dX7_layPairing_80 : decode cX7_layPairing 80 = .ok (.iload_n 1, 1) := by decide +kernel
theorem dX7_layPairing_81 : decode cX7_layPairing 81 = .ok (.ifCond .ge 5, 3) := by decide +kernel
theorem dX7_layPairing_84 : decode cX7_layPairing 84 = .ok (.iconst 0, 1) := by decide +kernel
