theorem dX6_count_196 : decode cX6_count 196 = .ok (.getfield 12, 3) := by decide +kernel
theorem dX6_count_199 : decode cX6_count 199 = .ok (.invokevirtual 203, 3) := by decide +kernel
theorem dX6_count_202 : decode cX6_count 202 = .ok (.ireturn, 1) := by decide +kernel
theorem dX6_count_203 : decode cX6_count 203 = .ok (.aload_n 0, 1) := by decide +kernel
theorem dX6_count_204 : decode cX6_count 204 = .ok (.getfield 12, 3) := by decide +kernel
theorem dX6_count_207 : decode cX6_count 207 = .ok (.getfield 247, 3) := by decide +kernel
theorem dX6_count_210 : decode cX6_count 210 = .ok (.ireturn, 1) := by decide +kernel
theorem dX6_count_211 : decode cX6_count 211 = .ok (.aload_n 0, 1) := by decide +kernel
theorem dX6_count_212 : decode cX6_count 212 = .ok (.getfield 12, 3) := by decide +kernel
theorem dX6_count_215 : decode cX6_count 215 = .ok (.getfield 250, 3) := by decide +kernel
theorem dX6_count_218 : decode cX6_count 218 = .ok (.ireturn, 1) := by decide +kernel
theorem dX6_count_219 : decode cX6_count 219 = .ok (.aload_n 0, 1) := by decide +kernel
theorem dX6_count_220 : decode cX6_count 220 = .ok (.getfield 12, 3) := by decide +kernel
theorem dX6_count_223 : decode cX6_count 223 = .ok (.getfield 253, 3) := by decide +kernel
theorem dX6_count_226 : decode cX6_count 226 = .ok (.ireturn, 1) := by decide +kernel
theorem dX6_count_227 : decode cX6_count 227 = .ok (.aload_n 0, 1) := by decide +kernel
theorem dX6_count_228 : decode cX6_count 228 = .ok (.getfield 12, 3) := by decide +kernel
theorem dX6_count_231 : decode cX6_count 231 = .ok (.getfield 256, 3) := by decide +kernel
theorem dX6_count_234 : decode cX6_count 234 = .ok (.ireturn, 1) := by decide +kernel
theorem dX6_count_235 : decode cX6_count 235 = .ok (.aload_n 0, 1) := by decide +kernel
theorem dX6_count_236 : decode cX6_count 236 = .ok (.invokevirtual 259, 3) := by decide +kernel
theorem dX6_count_239 : decode cX6_count 239 = .ok (.ireturn, 1) := by decide +kernel
theorem dX6_count_240 : decode cX6_count 240 = .ok (.aload_n 0, 1) := by decide +kernel
theorem dX6_count_241 : decode cX6_count 241 = .ok (.getfield 22, 3) := by decide +kernel
theorem dX6_count_244 : decode cX6_count 244 = .ok (.getfield 195, 3) := by decide +kernel
theorem dX6_count_247 : decode cX6_count 247 = .ok (.ireturn, 1) := by decide +kernel
theorem dX6_isRule_0 : decode cX6_isRule 0 = .ok (.iload_n 0, 1) := by decide +kernel
theorem dX6_isRule_1 : decode cX6_isRule 1 = .ok (.ifCond .lt 12, 3) := by decide +kernel
theorem dX6_isRule_4 : decode cX6_isRule 4 = .ok (.iload_n 0, 1) := by decide +kernel
theorem dX6_isRule_5 : decode cX6_isRule 5 = .ok (.iconst 3, 1) := by decide +kernel
theorem dX6_isRule_6 : decode cX6_isRule 6 = .ok (.if_icmp .gt 7, 3) := by decide +kernel
theorem dX6_isRule_9 : decode cX6_isRule 9 = .ok (.iconst 1, 1) := by decide +kernel
theorem dX6_isRule_10 : decode cX6_isRule 10 = .ok (.goto 4, 3) := by decide +kernel
theorem dX6_isRule_13 : decode cX6_isRule 13 = .ok (.iconst 0, 1) := by decide +kernel
theorem dX6_isRule_14 : decode cX6_isRule 14 = .ok (.ireturn, 1) := by decide +kernel
set_option maxRecDepth 20000 in
theorem ggX6_pairsInPairing_X2_lookAt : GoodIn wsX6_pairsInPairing wsX2_lookAt := goodIn_r _ [9, 10, 11, 12, 13, 14, 15, 16, 17, 18, 19, 20, 21, 22, 23, 24, 25, 26, 27, 28, 29, 30, 31, 8, 32, 33, 34, 35, 36, 37, 38, 39, 40, 41, 42, 43, 44, 45, 46, 47, 48, 49, 50, 51, 52, 53, 54, 55, 56, 57, 58, 59, 60, 68, 69, 70, 71, 72, 73, 74, 75, 76, 77, 78, 79, 80, 81, 82, 83, 84, 85, 86, 87, 88, 89] (by decide +kernel) (by decide +kernel)
set_option maxRecDepth 20000 in
theorem gX6_pairsInPairing_X2_lookAt : GoodIn wsX6_pairsInPairing (wsV RX6 299 RX2 yX2_lookAt wsX2_lookAt) := goodIn_app (goodIn_of _ (by decide +kernel)) ggX6_pairsInPairing_X2_lookAt
theorem dX6_pairsInPairing_0 : decode cX6_pairsInPairing 0 = .ok (.aload_n 0, 1) := by decide +kernel
theorem dX6_pairsInPairing_1 : decode cX6_pairsInPairing 1 = .ok (.getfield 40, 3) := by decide +kernel
theorem dX6_pairsInPairing_4 : decode cX6_pairsInPairing 4 = .ok (.aload_n 0, 1) := by decide +kernel
theorem dX6_pairsInPairing_5 : decode cX6_pairsInPairing 5 = .ok (.getfield 12, 3) := by decide +kernel
theorem dX6_pairsInPairing_8 : decode cX6_pairsInPairing 8 = .ok (.invokevirtual 299, 3) := by decide +kernel
theorem dX6_pairsInPairing_11 : decode cX6_pairsInPairing 11 = .ok (.aload_n 0, 1) := by decide +kernel
theorem dX6_pairsInPairing_12 : decode cX6_pairsInPairing 12 = .ok (.getfield 40, 3) := by decide +kernel
theorem dX6_pairsInPairing_15 : decode cX6_pairsInPairing 15 = .ok (.getfield 302, 3) := by decide +kernel
theorem dX6_pairsInPairing_18 : decode cX6_pairsInPairing 18 = .ok (.ifCond .eq 13, 3) := by decide +kernel
theorem dX6_pairsInPairing_21 : decode cX6_pairsInPairing 21 = .ok (.aload_n 0, 1) := by decide +kernel
theorem dX6_pairsInPairing_22 : decode cX6_pairsInPairing 22 = .ok (.getfield 40, 3) := by decide +kernel
theorem dX6_pairsInPairing_25 : decode cX6_pairsInPairing 25 = .ok (.getfield 305, 3) := by decide +kernel
theorem dX6_pairsInPairing_28 : decode cX6_pairsInPairing 28 = .ok (.goto 4, 3) := by decide +kernel
theorem dX6_pairsInPairing_31 : decode cX6_pairsInPairing 31 = .ok (.iconst (-1), 1) := by decide +kernel
theorem dX6_pairsInPairing_32 : decode cX6_pairsInPairing 32 = .ok (.ireturn, 1) := by decide +kernel
set_option maxRecDepth 20000 in
theorem ggX6_otherInPairing_X2_lookAt : GoodIn wsX6_otherInPairing wsX2_lookAt := goodIn_r _ [7, 8, 9, 10, 11, 12, 13, 14, 15, 16, 17, 18, 19, 20, 21, 22, 23, 24, 25, 26, 27, 28, 29, 6, 30, 31, 32, 33, 34, 35, 36, 37, 38, 39, 40, 41, 42, 43, 44, 45, 46, 47, 48, 49, 50, 51, 52, 53, 54, 55, 56, 57, 58, 73, 74, 75, 76, 77, 78, 79, 80, 81, 82, 83, 84, 85, 86, 87, 88, 89, 90, 91, 92, 93, 94] (by decide +kernel) (by decide +kernel)
set_option maxRecDepth 20000 in
theorem gX6_otherInPairing_X2_lookAt : GoodIn wsX6_otherInPairing (wsV RX6 299 RX2 yX2_lookAt wsX2_lookAt) := goodIn_app (goodIn_of _ (by decide +kernel)) ggX6_otherInPairing_X2_lookAt
set_option maxRecDepth 20000 in
theorem ggX6_otherInPairing_X2_otherOf : GoodIn wsX6_otherInPairing wsX2_otherOf := goodIn_r _ [62, 14, 43, 63, 64, 65, 73, 74, 75, 76, 77, 78] (by decide +kernel) (by decide +kernel)
set_option maxRecDepth 20000 in
theorem gX6_otherInPairing_X2_otherOf : GoodIn wsX6_otherInPairing (wsV RX6 306 RX2 yX2_otherOf wsX2_otherOf) := goodIn_app (goodIn_of _ (by decide +kernel)) ggX6_otherInPairing_X2_otherOf
theorem dX6_otherInPairing_0 : decode cX6_otherInPairing 0 = .ok (.aload_n 0, 1) := by decide +kernel
theorem dX6_otherInPairing_1 : decode cX6_otherInPairing 1 = .ok (.getfield 40, 3) := by decide +kernel
theorem dX6_otherInPairing_4 : decode cX6_otherInPairing 4 = .ok (.aload_n 0, 1) := by decide +kernel
theorem dX6_otherInPairing_5 : decode cX6_otherInPairing 5 = .ok (.getfield 12, 3) := by decide +kernel
theorem dX6_otherInPairing_8 : decode cX6_otherInPairing 8 = .ok (.invokevirtual 299, 3) := by decide +kernel
theorem dX6_otherInPairing_11 : decode cX6_otherInPairing 11 = .ok (.aload_n 0, 1) := by decide +kernel
theorem dX6_otherInPairing_12 : decode cX6_otherInPairing 12 = .ok (.getfield 40, 3) := by decide +kernel
theorem dX6_otherInPairing_15 : decode cX6_otherInPairing 15 = .ok (.iload_n 1, 1) := by decide +kernel
theorem dX6_otherInPairing_16 : decode cX6_otherInPairing 16 = .ok (.invokevirtual 306, 3) := by decide +kernel
theorem dX6_otherInPairing_19 : decode cX6_otherInPairing 19 = .ok (.ireturn, 1) := by decide +kernel
theorem dX6_snapshotsTaken_0 : decode cX6_snapshotsTaken 0 = .ok (.iconst 0, 1) := by decide +kernel
theorem dX6_snapshotsTaken_1 : decode cX6_snapshotsTaken 1 = .ok (.istore_n 1, 1) := by decide +kernel
theorem dX6_snapshotsTaken_2 : decode cX6_snapshotsTaken 2 = .ok (.iconst 0, 1) := by decide +kernel
theorem dX6_snapshotsTaken_3 : decode cX6_snapshotsTaken 3 = .ok (.istore_n 2, 1) := by decide +kernel
theorem dX6_snapshotsTaken_4 : decode cX6_snapshotsTaken 4 = .ok (.iload_n 2, 1) := by decide +kernel
theorem dX6_snapshotsTaken_5 : decode cX6_snapshotsTaken 5 = .ok (.aload_n 0, 1) := by decide +kernel
theorem dX6_snapshotsTaken_6 : decode cX6_snapshotsTaken 6 = .ok (.getfield 26, 3) := by decide +kernel
theorem dX6_snapshotsTaken_9 : decode cX6_snapshotsTaken 9 = .ok (.arraylength, 1) := by decide +kernel
theorem dX6_snapshotsTaken_10 : decode cX6_snapshotsTaken 10 = .ok (.if_icmp .ge 21, 3) := by decide +kernel
theorem dX6_snapshotsTaken_13 : decode cX6_snapshotsTaken 13 = .ok (.aload_n 0, 1) := by decide +kernel
theorem dX6_snapshotsTaken_14 : decode cX6_snapshotsTaken 14 = .ok (.getfield 26, 3) := by decide +kernel
theorem dX6_snapshotsTaken_17 : decode cX6_snapshotsTaken 17 = .ok (.iload_n 2, 1) := by decide +kernel
theorem dX6_snapshotsTaken_18 : decode cX6_snapshotsTaken 18 = .ok (.aaload, 1) := by decide +kernel
theorem dX6_snapshotsTaken_19 : decode cX6_snapshotsTaken 19 = .ok (.ifnull 6, 3) := by decide +kernel
theorem dX6_snapshotsTaken_22 : decode cX6_snapshotsTaken 22 = .ok (.iinc 1 1, 3) := by decide +kernel
theorem dX6_snapshotsTaken_25 : decode cX6_snapshotsTaken 25 = .ok (.iinc 2 1, 3) := by decide +kernel
theorem dX6_snapshotsTaken_28 : decode cX6_snapshotsTaken 28 = .ok (.goto (-24), 3) := by decide +kernel
theorem dX6_snapshotsTaken_31 : decode cX6_snapshotsTaken 31 = .ok (.iload_n 1, 1) := by decide +kernel
theorem dX6_snapshotsTaken_32 : decode cX6_snapshotsTaken 32 = .ok (.ireturn, 1) := by decide +kernel
set_option maxRecDepth 20000 in
theorem ggX6_goOn_X4_winner : GoodIn wsX6_goOn wsX4_winner := goodIn_r _ [7, 8, 9, 10, 11, 12, 13, 14, 15, 16, 17, 18, 19, 20, 21, 22, 23, 24, 25, 26, 27, 28, 29, 184, 185, 186, 187, 188, 189, 190, 191, 192, 193, 201, 202, 203, 204, 205, 206] (by decide +kernel) (by decide +kernel)
set_option maxRecDepth 20000 in
theorem gX6_goOn_X4_winner : GoodIn wsX6_goOn (wsV RX6 126 RX4 yX4_winner wsX4_winner) := goodIn_app (goodIn_of _ (by decide +kernel)) ggX6_goOn_X4_winner
set_option maxRecDepth 20000 in
theorem ggX6_goOn_X6_cellBy : GoodIn wsX6_goOn wsX6_cellBy := goodIn_r _ [34, 35, 36, 37, 38, 39, 6, 40, 9, 10, 41, 42, 43, 44, 45, 46, 47, 33, 48, 49, 50, 51, 52, 53, 54, 55, 56, 57, 58, 59, 60, 61, 62, 63, 64, 65, 66, 24, 25, 26, 27, 28, 29, 67, 68, 69, 70, 15, 71, 20, 21, 72, 73, 74, 75, 76, 77, 78, 79, 80, 81, 82, 83, 84, 85, 86, 87, 88, 89, 90, 91, 92, 13, 14, 16, 17, 18, 19, 22, 23, 93, 94, 95, 96, 97, 98, 99, 100, 101, 102, 103, 104, 105, 106, 107, 108, 109, 110, 111, 112, 113, 114, 115, 116, 117, 8, 118, 12, 119, 120, 121, 122, 123, 124, 125, 126, 127, 194, 195, 196, 197, 198, 199, 200, 184, 185, 186, 187, 188, 189, 190, 191, 192, 193, 207, 208, 209, 210, 211, 212, 201, 202, 203, 204, 205, 206] (by decide +kernel) (by decide +kernel)
set_option maxRecDepth 20000 in
theorem gX6_goOn_X6_cellBy : GoodIn wsX6_goOn (wsV RX6 220 RX6 yX6_cellBy wsX6_cellBy) := goodIn_app (goodIn_of _ (by decide +kernel)) ggX6_goOn_X6_cellBy
set_option maxRecDepth 20000 in
theorem ggX6_goOn_X2_lookAt : GoodIn wsX6_goOn wsX2_lookAt := goodIn_r _ [132, 133, 134, 135, 136, 137, 138, 139, 140, 141, 69, 70, 15, 71, 20, 21, 142, 73, 74, 75, 143, 144, 145, 131, 146, 147, 148, 149, 150, 151, 152, 153, 154, 155, 156, 157, 158, 159, 160, 161, 162, 163, 164, 24, 25, 26, 27, 28, 29, 165, 166, 167, 168, 213, 214, 215, 216, 217, 218, 184, 185, 186, 187, 188, 189, 190, 191, 192, 193, 201, 202, 203, 204, 205, 206] (by decide +kernel) (by decide +kernel)
set_option maxRecDepth 20000 in
theorem gX6_goOn_X2_lookAt : GoodIn wsX6_goOn (wsV RX6 299 RX2 yX2_lookAt wsX2_lookAt) := goodIn_app (goodIn_of _ (by decide +kernel)) ggX6_goOn_X2_lookAt
set_option maxRecDepth 20000 in
theorem ggX6_goOn_X2_otherOf : GoodIn wsX6_goOn wsX2_otherOf := goodIn_r _ [172, 139, 159, 47, 33, 48, 213, 214, 215, 216, 217, 218] (by decide +kernel) (by decide +kernel)
set_option maxRecDepth 20000 in
theorem gX6_goOn_X2_otherOf : GoodIn wsX6_goOn (wsV RX6 306 RX2 yX2_otherOf wsX2_otherOf) := goodIn_app (goodIn_of _ (by decide +kernel)) ggX6_goOn_X2_otherOf
set_option maxRecDepth 20000 in
theorem ggX6_goOn_X4_occupy : GoodIn wsX6_goOn wsX4_occupy := goodIn_r _ [176, 177, 9, 10, 178, 179, 180, 181, 182, 183, 4, 5, 6, 7, 8, 11, 12, 13, 14, 15, 16, 17, 18, 19, 20, 21, 22, 23, 24, 25, 26, 27, 28, 29, 184, 185, 186, 187, 188, 189, 190, 191, 192, 193, 201, 202, 203, 204, 205, 206] (by decide +kernel) (by decide +kernel)
set_option maxRecDepth 20000 in
theorem gX6_goOn_X4_occupy : GoodIn wsX6_goOn (wsV RX6 137 RX4 yX4_occupy wsX4_occupy) := goodIn_app (goodIn_of _ (by decide +kernel)) ggX6_goOn_X4_occupy
theorem dX6_goOn_0 : decode cX6_goOn 0 = .ok (.iconst 0, 1) := by decide +kernel
theorem dX6_goOn_1 : decode cX6_goOn 1 = .ok (.istore 5, 2) := by decide +kernel
theorem dX6_goOn_3 : decode cX6_goOn 3 = .ok (.iload 5, 2) := by decide +kernel
theorem dX6_goOn_5 : decode cX6_goOn 5 = .ok (.iload 4, 2) := by decide +kernel
theorem dX6_goOn_7 : decode cX6_goOn 7 = .ok (.if_icmp .ge 58, 3) := by decide +kernel
theorem dX6_goOn_10 : decode cX6_goOn 10 = .ok (.aload_n 1, 1) := by decide +kernel
theorem dX6_goOn_11 : decode cX6_goOn 11 = .ok (.invokevirtual 126, 3) := by decide +kernel
theorem dX6_goOn_14 : decode cX6_goOn 14 = .ok (.ifCond .ne 51, 3) := by decide +kernel
theorem dX6_goOn_17 : decode cX6_goOn 17 = .ok (.aload_n 0, 1) := by decide +kernel
theorem dX6_goOn_18 : decode cX6_goOn 18 = .ok (.aload_n 1, 1) := by decide +kernel
theorem dX6_goOn_19 : decode cX6_goOn 19 = .ok (.getfield 143, 3) := by decide +kernel
theorem dX6_goOn_22 : decode cX6_goOn 22 = .ok (.ifCond .eq 7, 3) := by decide +kernel
theorem dX6_goOn_25 : decode cX6_goOn 25 = .ok (.iload_n 2, 1) := by decide +kernel
theorem dX6_goOn_26 : decode cX6_goOn 26 = .ok (.goto 4, 3) := by decide +kernel
theorem dX6_goOn_29 : decode cX6_goOn 29 = .ok (.iload_n 3, 1) := by decide +kernel
theorem dX6_goOn_30 : decode cX6_goOn 30 = .ok (.aload_n 1, 1) := by decide +kernel
theorem dX6_goOn_31 : decode cX6_goOn 31 = .ok (.invokevirtual 220, 3) := by decide +kernel
theorem dX6_goOn_34 : decode cX6_goOn 34 = .ok (.istore 6, 2) := by decide +kernel
theorem dX6_goOn_36 : decode cX6_goOn 36 = .ok (.aload_n 0, 1) := by decide +kernel
theorem dX6_goOn_37 : decode cX6_goOn 37 = .ok (.getfield 40, 3) := by decide +kernel
theorem dX6_goOn_40 : decode cX6_goOn 40 = .ok (.aload_n 1, 1) := by decide +kernel
theorem dX6_goOn_41 : decode cX6_goOn 41 = .ok (.invokevirtual 299, 3) := by decide +kernel
theorem dX6_goOn_44 : decode cX6_goOn 44 = .ok (.aload_n 1, 1) := by decide +kernel
theorem dX6_goOn_45 : decode cX6_goOn 45 = .ok (.iload 6, 2) := by decide +kernel
theorem dX6_goOn_47 : decode cX6_goOn 47 = .ok (.aload_n 0, 1) := by decide +kernel
theorem dX6_goOn_48 : decode cX6_goOn 48 = .ok (.getfield 40, 3) := by decide +kernel
theorem dX6_goOn_51 : decode cX6_goOn 51 = .ok (.iload 6, 2) := by decide +kernel
theorem dX6_goOn_53 : decode cX6_goOn 53 = .ok (.invokevirtual 306, 3) := by decide +kernel
theorem dX6_goOn_56 : decode cX6_goOn 56 = .ok (.invokevirtual 137, 3) := by decide +kernel
theorem dX6_goOn_59 : decode cX6_goOn 59 = .ok (.iinc 5 1, 3) := by decide +kernel
theorem dX6_goOn_62 : decode cX6_goOn 62 = .ok (.goto (-59), 3) := by decide +kernel
theorem dX6_goOn_65 : decode cX6_goOn 65 = .ok (.iload 5, 2) := by decide +kernel
theorem dX6_goOn_67 : decode cX6_goOn 67 = .ok (.ireturn, 1) := by decide +kernel
set_option maxRecDepth 20000 in
theorem ggX6_cellBy_X4_freeCells : GoodIn wsX6_cellBy wsX4_freeCells := goodIn_r _ [7, 8, 9, 10, 11, 12, 6, 13, 14, 124, 125, 126, 127, 128, 129, 130, 131, 132, 133] (by decide +kernel) (by decide +kernel)
set_option maxRecDepth 20000 in
theorem gX6_cellBy_X4_freeCells : GoodIn wsX6_cellBy (wsV RX6 203 RX4 yX4_freeCells wsX4_freeCells) := goodIn_app (goodIn_of _ (by decide +kernel)) ggX6_cellBy_X4_freeCells
set_option maxRecDepth 20000 in
theorem ggX6_cellBy_X6_lowestOf : GoodIn wsX6_cellBy wsX6_lowestOf := goodIn_r _ [18] (by decide +kernel) (by decide +kernel)
set_option maxRecDepth 20000 in
theorem gX6_cellBy_X6_lowestOf : GoodIn wsX6_cellBy (va_wsS RX6 309 yX6_lowestOf wsX6_lowestOf) := goodIn_app (goodIn_of _ (by decide +kernel)) ggX6_cellBy_X6_lowestOf
set_option maxRecDepth 20000 in
theorem ggX6_cellBy_X3_bestMove : GoodIn wsX6_cellBy wsX3_bestMove := goodIn_r _ [23, 24, 25, 26, 27, 28, 29, 22, 30, 31, 32, 33, 34, 35, 36, 37, 38, 39, 40, 41, 42, 43, 11, 12, 6, 13, 14, 44, 45, 46, 47, 48, 49, 50, 51, 52, 53, 54, 55, 4, 5, 7, 8, 9, 10, 56, 57, 58, 59, 60, 61, 62, 63, 64, 65, 66, 67, 68, 69, 70, 71, 72, 73, 74, 75, 76, 77, 78, 79, 80, 81, 82, 83, 84, 85, 86, 87, 88, 89, 90, 91, 92, 93, 94, 95, 96, 97, 98, 99, 100, 124, 125, 126, 127, 128, 129, 130, 131, 132, 133, 134, 135, 136, 137, 138, 139, 140, 141, 142, 143, 144, 145] (by decide +kernel) (by decide +kernel)
set_option maxRecDepth 20000 in
theorem gX6_cellBy_X3_bestMove : GoodIn wsX6_cellBy (wsV RX6 312 RX3 yX3_bestMove wsX3_bestMove) := goodIn_app (goodIn_of _ (by decide +kernel)) ggX6_cellBy_X3_bestMove
set_option maxRecDepth 20000 in
theorem ggX6_cellBy_X4_forcedReply : GoodIn wsX6_cellBy wsX4_forcedReply := goodIn_r _ [104, 105, 8, 9, 106, 107, 72, 73, 47, 74, 75, 76, 77, 49, 50, 78, 79, 37, 38, 39, 40, 41, 42, 16, 17, 18, 124, 125, 126, 127, 128, 129, 130, 131, 132, 133, 140, 141, 142, 143, 144, 145] (by decide +kernel) (by decide +kernel)
set_option maxRecDepth 20000 in
theorem gX6_cellBy_X4_forcedReply : GoodIn wsX6_cellBy (wsV RX6 241 RX4 yX4_forcedReply wsX4_forcedReply) := goodIn_app (goodIn_of _ (by decide +kernel)) ggX6_cellBy_X4_forcedReply
set_option maxRecDepth 20000 in
theorem ggX6_cellBy_X4_mostDangerous : GoodIn wsX6_cellBy wsX4_mostDangerous := goodIn_r _ [111, 105, 8, 9, 112, 4, 5, 6, 7, 10, 11, 12, 13, 14, 113, 114, 115, 47, 116, 49, 50, 79, 37, 38, 39, 40, 41, 42, 124, 125, 126, 127, 128, 129, 130, 131, 132, 133, 140, 141, 142, 143, 144, 145] (by decide +kernel) (by decide +kernel)
set_option maxRecDepth 20000 in
theorem gX6_cellBy_X4_mostDangerous : GoodIn wsX6_cellBy (wsV RX6 318 RX4 yX4_mostDangerous wsX4_mostDangerous) := goodIn_app (goodIn_of _ (by decide +kernel)) ggX6_cellBy_X4_mostDangerous
theorem dX6_cellBy_0 : decode cX6_cellBy 0 = .ok (.iload_n 1, 1) := by decide +kernel
theorem dX6_cellBy_1 : decode cX6_cellBy 1 = .ok (.ifCond .ne 11, 3) := by decide +kernel
theorem dX6_cellBy_4 : decode cX6_cellBy 4 = .ok (.aload_n 2, 1) := by decide +kernel
theorem dX6_cellBy_5 : decode cX6_cellBy 5 = .ok (.invokevirtual 203, 3) := by decide +kernel
theorem dX6_cellBy_8 : decode cX6_cellBy 8 = .ok (.invokestatic 309, 3) := by decide +kernel
theorem dX6_cellBy_11 : decode cX6_cellBy 11 = .ok (.ireturn, 1) := by decide +kernel
theorem dX6_cellBy_12 : decode cX6_cellBy 12 = .ok (.iload_n 1, 1) := by decide +kernel
theorem dX6_cellBy_13 : decode cX6_cellBy 13 = .ok (.iconst 3, 1) := by decide +kernel
theorem dX6_cellBy_14 : decode cX6_cellBy 14 = .ok (.if_icmp .ne 12, 3) := by decide +kernel
theorem dX6_cellBy_17 : decode cX6_cellBy 17 = .ok (.aload_n 0, 1) := by decide +kernel
theorem dX6_cellBy_18 : decode cX6_cellBy 18 = .ok (.getfield 47, 3) := by decide +kernel
theorem dX6_cellBy_21 : decode cX6_cellBy 21 = .ok (.aload_n 2, 1) := by decide +kernel
theorem dX6_cellBy_22 : decode cX6_cellBy 22 = .ok (.invokevirtual 312, 3) := by decide +kernel
theorem dX6_cellBy_25 : decode cX6_cellBy 25 = .ok (.ireturn, 1) := by decide +kernel
theorem dX6_cellBy_26 : decode cX6_cellBy 26 = .ok (.iload_n 1, 1) := by decide +kernel
theorem dX6_cellBy_27 : decode cX6_cellBy 27 = .ok (.iconst 2, 1) := by decide +kernel
theorem dX6_cellBy_28 : decode cX6_cellBy 28 = .ok (.if_icmp .ne 16, 3) := by decide +kernel
theorem dX6_cellBy_31 : decode cX6_cellBy 31 = .ok (.aload_n 2, 1) := by decide +kernel
theorem dX6_cellBy_32 : decode cX6_cellBy 32 = .ok (.getfield 315, 3) := by decide +kernel
theorem dX6_cellBy_35 : decode cX6_cellBy 35 = .ok (.iconst (-1), 1) := by decide +kernel
theorem dX6_cellBy_36 : decode cX6_cellBy 36 = .ok (.if_icmp .eq 8, 3) := by decide +kernel
theorem dX6_cellBy_39 : decode cX6_cellBy 39 = .ok (.aload_n 2, 1) := by decide +kernel
theorem dX6_cellBy_40 : decode cX6_cellBy 40 = .ok (.getfield 315, 3) := by decide +kernel
theorem dX6_cellBy_43 : decode cX6_cellBy 43 = .ok (.ireturn, 1) := by decide +kernel
theorem dX6_cellBy_44 : decode cX6_cellBy 44 = .ok (.aload_n 2, 1) := by decide +kernel
theorem dX6_cellBy_45 : decode cX6_cellBy 45 = .ok (.invokevirtual 241, 3) := by decide +kernel
theorem dX6_cellBy_48 : decode cX6_cellBy 48 = .ok (.istore_n 3, 1) := by decide +kernel
theorem dX6_cellBy_49 : decode cX6_cellBy 49 = .ok (.iload_n 3, 1) := by decide +kernel
theorem dX6_cellBy_50 : decode cX6_cellBy 50 = .ok (.iconst (-1), 1) := by decide +kernel
theorem dX6_cellBy_51 : decode cX6_cellBy 51 = .ok (.if_icmp .ne 10, 3) := by decide +kernel
theorem dX6_cellBy_54 : decode cX6_cellBy 54 = .ok (.aload_n 2, 1) := by decide +kernel
theorem dX6_cellBy_55 : decode cX6_cellBy 55 = .ok (.invokevirtual 318, 3) := by decide +kernel
theorem dX6_cellBy_58 : decode cX6_cellBy 58 = .ok (.goto 4, 3) := by decide +kernel
theorem dX6_cellBy_61 : decode cX6_cellBy 61 = .ok (.iload_n 3, 1) := by decide +kernel
theorem dX6_cellBy_62 : decode cX6_cellBy 62 = .ok (.ireturn, 1) := by decide +kernel
theorem dX6_lowestOf_0 : decode cX6_lowestOf 0 = .ok (.iconst 0, 1) := by decide +kernel
theorem dX6_lowestOf_1 : decode cX6_lowestOf 1 = .ok (.istore_n 1, 1) := by decide +kernel
theorem dX6_lowestOf_2 : decode cX6_lowestOf 2 = .ok (.iload_n 1, 1) := by decide +kernel
theorem dX6_lowestOf_3 : decode cX6_lowestOf 3 = .ok (.bipush 10, 2) := by decide +kernel
theorem dX6_lowestOf_5 : decode cX6_lowestOf 5 = .ok (.if_icmp .ge 19, 3) := by decide +kernel
theorem dX6_lowestOf_8 : decode cX6_lowestOf 8 = .ok (.iload_n 0, 1) := by decide +kernel
theorem dX6_lowestOf_9 : decode cX6_lowestOf 9 = .ok (.iconst 1, 1) := by decide +kernel
theorem dX6_lowestOf_10 : decode cX6_lowestOf 10 = .ok (.iload_n 1, 1) := by decide +kernel
theorem dX6_lowestOf_11 : decode cX6_lowestOf 11 = .ok (.ishl, 1) := by decide +kernel
theorem dX6_lowestOf_12 : decode cX6_lowestOf 12 = .ok (.iand, 1) := by decide +kernel
theorem dX6_lowestOf_13 : decode cX6_lowestOf 13 = .ok (.ifCond .eq 5, 3) := by decide +kernel
theorem dX6_lowestOf_16 : decode cX6_lowestOf 16 = .ok (.iload_n 1, 1) := by decide +kernel
theorem dX6_lowestOf_17 : decode cX6_lowestOf 17 = .ok (.ireturn, 1) := by decide +kernel
theorem dX6_lowestOf_18 : decode cX6_lowestOf 18 = .ok (.iinc 1 1, 3) := by decide +kernel
theorem dX6_lowestOf_21 : decode cX6_lowestOf 21 = .ok (.goto (-19), 3) := by decide +kernel
theorem dX6_lowestOf_24 : decode cX6_lowestOf 24 = .ok (.iconst (-1), 1) := by decide +kernel
theorem dX6_lowestOf_25 : decode cX6_lowestOf 25 = .ok (.ireturn, 1) := by decide +kernel
theorem dJ6_bitCount_0f7a4_0 : decode cJ6_bitCount_0f7a4 0 = .ok (.iload_n 0, 1) := by decide +kernel
theorem dJ6_bitCount_0f7a4_1 : decode cJ6_bitCount_0f7a4 1 = .ok (.iload_n 0, 1) := by decide +kernel
theorem dJ6_bitCount_0f7a4_2 : decode cJ6_bitCount_0f7a4 2 = .ok (.iconst 1, 1) := by decide +kernel
theorem dJ6_bitCount_0f7a4_3 : decode cJ6_bitCount_0f7a4 3 = .ok (.iushr, 1) := by decide +kernel
theorem dJ6_bitCount_0f7a4_4 : decode cJ6_bitCount_0f7a4 4 = .ok (.ldc_w 265, 3) := by decide +kernel
theorem dJ6_bitCount_0f7a4_7 : decode cJ6_bitCount_0f7a4 7 = .ok (.iand, 1) := by decide +kernel
theorem dJ6_bitCount_0f7a4_8 : decode cJ6_bitCount_0f7a4 8 = .ok (.isub, 1) := by decide +kernel
theorem dJ6_bitCount_0f7a4_9 : decode cJ6_bitCount_0f7a4 9 = .ok (.istore_n 0, 1) := by decide +kernel
theorem dJ6_bitCount_0f7a4_10 : decode cJ6_bitCount_0f7a4 10 = .ok (.iload_n 0, 1) := by decide +kernel
theorem dJ6_bitCount_0f7a4_11 : decode cJ6_bitCount_0f7a4 11 = .ok (.ldc_w 266, 3) := by decide +kernel
theorem dJ6_bitCount_0f7a4_14 : decode cJ6_bitCount_0f7a4 14 = .ok (.iand, 1) := by decide +kernel
theorem dJ6_bitCount_0f7a4_15 : decode cJ6_bitCount_0f7a4 15 = .ok (.iload_n 0, 1) := by decide +kernel
theorem dJ6_bitCount_0f7a4_16 : decode cJ6_bitCount_0f7a4 16 = .ok (.iconst 2, 1) := by decide +kernel
theorem dJ6_bitCount_0f7a4_17 : decode cJ6_bitCount_0f7a4 17 = .ok (.iushr, 1) := by decide +kernel
theorem dJ6_bitCount_0f7a4_18 : decode cJ6_bitCount_0f7a4 18 = .ok (.ldc_w 266, 3) := by decide +kernel
theorem dJ6_bitCount_0f7a4_21 : decode cJ6_bitCount_0f7a4 21 = .ok (.iand, 1) := by decide +kernel
theorem dJ6_bitCount_0f7a4_22 : decode cJ6_bitCount_0f7a4 22 = .ok (.iadd, 1) := by decide +kernel
theorem dJ6_bitCount_0f7a4_23 : decode cJ6_bitCount_0f7a4 23 = .ok (.istore_n 0, 1) := by decide +kernel
theorem dJ6_bitCount_0f7a4_24 : decode cJ6_bitCount_0f7a4 24 = .ok (.iload_n 0, 1) := by decide +kernel
theorem dJ6_bitCount_0f7a4_25 : decode cJ6_bitCount_0f7a4 25 = .ok (.iload_n 0, 1) := by decide +kernel
theorem dJ6_bitCount_0f7a4_26 : decode cJ6_bitCount_0f7a4 26 = .ok (.iconst 4, 1) := by decide +kernel
theorem dJ6_bitCount_0f7a4_27 : decode cJ6_bitCount_0f7a4 27 = .ok (.iushr, 1) := by decide +kernel
theorem dJ6_bitCount_0f7a4_28 : decode cJ6_bitCount_0f7a4 28 = .ok (.iadd, 1) := by decide +kernel
theorem dJ6_bitCount_0f7a4_29 : decode cJ6_bitCount_0f7a4 29 = .ok (.ldc_w 267, 3) := by decide +kernel
theorem dJ6_bitCount_0f7a4_32 : decode cJ6_bitCount_0f7a4 32 = .ok (.iand, 1) := by decide +kernel
theorem dJ6_bitCount_0f7a4_33 : decode cJ6_bitCount_0f7a4 33 = .ok (.istore_n 0, 1) := by decide +kernel
theorem dJ6_bitCount_0f7a4_34 : decode cJ6_bitCount_0f7a4 34 = .ok (.iload_n 0, 1) := by decide +kernel
theorem dJ6_bitCount_0f7a4_35 : decode cJ6_bitCount_0f7a4 35 = .ok (.iload_n 0, 1) := by decide +kernel
theorem dJ6_bitCount_0f7a4_36 : decode cJ6_bitCount_0f7a4 36 = .ok (.bipush 8, 2) := by decide +kernel
theorem dJ6_bitCount_0f7a4_38 : decode cJ6_bitCount_0f7a4 38 = .ok (.iushr, 1) := by decide +kernel
theorem dJ6_bitCount_0f7a4_39 : decode cJ6_bitCount_0f7a4 39 = .ok (.iadd, 1) := by decide +kernel
theorem dJ6_bitCount_0f7a4_40 : decode cJ6_bitCount_0f7a4 40 = .ok (.istore_n 0, 1) := by decide +kernel
theorem dJ6_bitCount_0f7a4_41 : decode cJ6_bitCount_0f7a4 41 = .ok (.iload_n 0, 1) := by decide +kernel
theorem dJ6_bitCount_0f7a4_42 : decode cJ6_bitCount_0f7a4 42 = .ok (.iload_n 0, 1) := by decide +kernel
theorem dJ6_bitCount_0f7a4_43 : decode cJ6_bitCount_0f7a4 43 = .ok (.bipush 16, 2) := by decide +kernel
theorem dJ6_bitCount_0f7a4_45 : decode cJ6_bitCount_0f7a4 45 = .ok (.iushr, 1) := by decide +kernel
theorem dJ6_bitCount_0f7a4_46 : decode cJ6_bitCount_0f7a4 46 = .ok (.iadd, 1) := by decide +kernel
theorem dJ6_bitCount_0f7a4_47 : decode cJ6_bitCount_0f7a4 47 = .ok (.istore_n 0, 1) := by decide +kernel
theorem dJ6_bitCount_0f7a4_48 : decode cJ6_bitCount_0f7a4 48 = .ok (.iload_n 0, 1) := by decide +kernel
theorem dJ6_bitCount_0f7a4_49 : decode cJ6_bitCount_0f7a4 49 = .ok (.bipush 63, 2) := by decide +kernel
theorem dJ6_bitCount_0f7a4_51 : decode cJ6_bitCount_0f7a4 51 = .ok (.iand, 1) := by decide +kernel
theorem dJ6_bitCount_0f7a4_52 : decode cJ6_bitCount_0f7a4 52 = .ok (.ireturn, 1) := by decide +kernel
theorem dJ9_max_7cf53_0 : decode cJ9_max_7cf53 0 = .ok (.iload_n 0, 1) := by decide +kernel
theorem dJ9_max_7cf53_1 : decode cJ9_max_7cf53 1 = .ok (.iload_n 1, 1) := by decide +kernel
theorem dJ9_max_7cf53_2 : decode cJ9_max_7cf53 2 = .ok (.if_icmp .lt 7, 3) := by decide +kernel
theorem dJ9_max_7cf53_5 : decode cJ9_max_7cf53 5 = .ok (.iload_n 0, 1) := by decide +kernel
theorem dJ9_max_7cf53_6 : decode cJ9_max_7cf53 6 = .ok (.goto 4, 3) := by decide +kernel
theorem dJ9_max_7cf53_9 : decode cJ9_max_7cf53 9 = .ok (.iload_n 1, 1) := by decide +kernel
theorem dJ9_max_7cf53_10 : decode cJ9_max_7cf53 10 = .ok (.ireturn, 1) := by decide +kernel
theorem dL_cell_0 : decode cL_cell 0 = .ok (.iload_n 1, 1) := by decide +kernel
theorem dL_cell_1 : decode cL_cell 1 = .ok (.aload_n 0, 1) := by decide +kernel
theorem dL_cell_2 : decode cL_cell 2 = .ok (.arraylength, 1) := by decide +kernel
theorem dL_cell_3 : decode cL_cell 3 = .ok (.if_icmp .ge 9, 3) := by decide +kernel
theorem dL_cell_6 : decode cL_cell 6 = .ok (.aload_n 0, 1) := by decide +kernel
theorem dL_cell_7 : decode cL_cell 7 = .ok (.iload_n 1, 1) := by decide +kernel
theorem dL_cell_8 : decode cL_cell 8 = .ok (.iaload, 1) := by decide +kernel
theorem dL_cell_9 : decode cL_cell 9 = .ok (.goto 11, 3) := by decide +kernel
theorem dL_cell_12 : decode cL_cell 12 = .ok (.ldc 7, 2) := by decide +kernel
theorem dL_cell_14 : decode cL_cell 14 = .ok (.iload_n 1, 1) := by decide +kernel
theorem dL_cell_15 : decode cL_cell 15 = .ok (.sipush 271, 3) := by decide +kernel
theorem dL_cell_18 : decode cL_cell 18 = .ok (.iadd, 1) := by decide +kernel
theorem dL_cell_19 : decode cL_cell 19 = .ok (.imul, 1) := by decide +kernel
theorem dL_cell_20 : decode cL_cell 20 = .ok (.ireturn, 1) := by decide +kernel
theorem dL_at_0 : decode cL_at 0 = .ok (.iload_n 0, 1) := by decide +kernel
theorem dL_at_1 : decode cL_at 1 = .ok (.iconst 1, 1) := by decide +kernel
theorem dL_at_2 : decode cL_at 2 = .ok (.iushr, 1) := by decide +kernel
theorem dL_at_3 : decode cL_at 3 = .ok (.iload_n 1, 1) := by decide +kernel
theorem dL_at_4 : decode cL_at 4 = .ok (.irem, 1) := by decide +kernel
theorem dL_at_5 : decode cL_at 5 = .ok (.ireturn, 1) := by decide +kernel
theorem dL_ones_0 : decode cL_ones 0 = .ok (.iconst 0, 1) := by decide +kernel
theorem dL_ones_1 : decode cL_ones 1 = .ok (.istore_n 1, 1) := by decide +kernel
theorem dL_ones_2 : decode cL_ones 2 = .ok (.iload_n 0, 1) := by decide +kernel
theorem dL_ones_3 : decode cL_ones 3 = .ok (.istore_n 2, 1) := by decide +kernel
theorem dL_ones_4 : decode cL_ones 4 = .ok (.iload_n 2, 1) := by decide +kernel
theorem dL_ones_5 : decode cL_ones 5 = .ok (.ifCond .eq 15, 3) := by decide +kernel
theorem dL_ones_8 : decode cL_ones 8 = .ok (.iinc 1 1, 3) := by decide +kernel
theorem dL_ones_11 : decode cL_ones 11 = .ok (.iload_n 2, 1) := by decide +kernel
theorem dL_ones_12 : decode cL_ones 12 = .ok (.iload_n 2, 1) := by decide +kernel
theorem dL_ones_13 : decode cL_ones 13 = .ok (.iconst 1, 1) := by decide +kernel
theorem dL_ones_14 : decode cL_ones 14 = .ok (.isub, 1) := by decide +kernel
theorem dL_ones_15 : decode cL_ones 15 = .ok (.iand, 1) := by decide +kernel
theorem dL_ones_16 : decode cL_ones 16 = .ok (.istore_n 2, 1) := by decide +kernel
theorem dL_ones_17 : decode cL_ones 17 = .ok (.goto (-13), 3) := by decide +kernel
theorem dL_ones_20 : decode cL_ones 20 = .ok (.iload_n 1, 1) := by decide +kernel
theorem dL_ones_21 : decode cL_ones 21 = .ok (.ireturn, 1) := by decide +kernel
theorem dL_low_0 : decode cL_low 0 = .ok (.iconst 0, 1) := by decide +kernel
theorem dL_low_1 : decode cL_low 1 = .ok (.istore_n 1, 1) := by decide +kernel
theorem dL_low_2 : decode cL_low 2 = .ok (.iload_n 1, 1) := by decide +kernel
theorem dL_low_3 : decode cL_low 3 = .ok (.bipush 10, 2) := by decide +kernel
theorem dL_low_5 : decode cL_low 5 = .ok (.if_icmp .ge 20, 3) := by decide +kernel
theorem dL_low_8 : decode cL_low 8 = .ok (.iload_n 0, 1) := by decide +kernel
theorem dL_low_9 : decode cL_low 9 = .ok (.iload_n 1, 1) := by decide +kernel
theorem dL_low_10 : decode cL_low 10 = .ok (.ishr, 1) := by decide +kernel
theorem dL_low_11 : decode cL_low 11 = .ok (.iconst 1, 1) := by decide +kernel
theorem dL_low_12 : decode cL_low 12 = .ok (.iand, 1) := by decide +kernel
theorem dL_low_13 : decode cL_low 13 = .ok (.iconst 1, 1) := by decide +kernel
theorem dL_low_14 : decode cL_low 14 = .ok (.if_icmp .ne 5, 3) := by decide +kernel
theorem dL_low_17 : decode cL_low 17 = .ok (.iload_n 1, 1) := by decide +kernel
theorem dL_low_18 : decode cL_low 18 = .ok (.ireturn, 1) := by decide +kernel
theorem dL_low_19 : decode cL_low 19 = .ok (.iinc 1 1, 3) := by decide +kernel
theorem dL_low_22 : decode cL_low 22 = .ok (.goto (-20), 3) := by decide +kernel
theorem dL_low_25 : decode cL_low 25 = .ok (.iconst (-1), 1) := by decide +kernel
theorem dL_low_26 : decode cL_low 26 = .ok (.ireturn, 1) := by decide +kernel
theorem dL_winner_0 : decode cL_winner 0 = .ok (.iconst 0, 1) := by decide +kernel
theorem dL_winner_1 : decode cL_winner 1 = .ok (.istore_n 2, 1) := by decide +kernel
theorem dL_winner_2 : decode cL_winner 2 = .ok (.iconst 0, 1) := by decide +kernel
theorem dL_winner_3 : decode cL_winner 3 = .ok (.istore_n 3, 1) := by decide +kernel
theorem dL_winner_4 : decode cL_winner 4 = .ok (.iload_n 3, 1) := by decide +kernel
theorem dL_winner_5 : decode cL_winner 5 = .ok (.aload_n 0, 1) := by decide +kernel
theorem dL_winner_6 : decode cL_winner 6 = .ok (.iconst 2, 1) := by decide +kernel
theorem dL_winner_7 : decode cL_winner 7 = .ok (.iaload, 1) := by decide +kernel
theorem dL_winner_8 : decode cL_winner 8 = .ok (.if_icmp .ge 35, 3) := by decide +kernel
theorem dL_winner_11 : decode cL_winner 11 = .ok (.aload_n 1, 1) := by decide +kernel
theorem dL_winner_12 : decode cL_winner 12 = .ok (.iload_n 3, 1) := by decide +kernel
theorem dL_winner_13 : decode cL_winner 13 = .ok (.iaload, 1) := by decide +kernel
theorem dL_winner_14 : decode cL_winner 14 = .ok (.aload_n 0, 1) := by decide +kernel
theorem dL_winner_15 : decode cL_winner 15 = .ok (.iconst 3, 1) := by decide +kernel
theorem dL_winner_16 : decode cL_winner 16 = .ok (.iaload, 1) := by decide +kernel
theorem dL_winner_17 : decode cL_winner 17 = .ok (.iconst (-1), 1) := by decide +kernel
theorem dL_winner_18 : decode cL_winner 18 = .ok (.ixor, 1) := by decide +kernel
theorem dL_winner_19 : decode cL_winner 19 = .ok (.iand, 1) := by decide +kernel
theorem dL_winner_20 : decode cL_winner 20 = .ok (.ifCond .ne 5, 3) := by decide +kernel
theorem dL_winner_23 : decode cL_winner 23 = .ok (.iconst 1, 1) := by decide +kernel
theorem dL_winner_24 : decode cL_winner 24 = .ok (.ireturn, 1) := by decide +kernel
theorem dL_winner_25 : decode cL_winner 25 = .ok (.aload_n 1, 1) := by decide +kernel
theorem dL_winner_26 : decode cL_winner 26 = .ok (.iload_n 3, 1) := by decide +kernel
theorem dL_winner_27 : decode cL_winner 27 = .ok (.iaload, 1) := by decide +kernel
theorem dL_winner_28 : decode cL_winner 28 = .ok (.aload_n 0, 1) := by decide +kernel
theorem dL_winner_29 : decode cL_winner 29 = .ok (.iconst 4, 1) := by decide +kernel
theorem dL_winner_30 : decode cL_winner 30 = .ok (.iaload, 1) := by decide +kernel
theorem dL_winner_31 : decode cL_winner 31 = .ok (.iand, 1) := by decide +kernel
theorem dL_winner_32 : decode cL_winner 32 = .ok (.ifCond .ne 5, 3) := by decide +kernel
theorem dL_winner_35 : decode cL_winner 35 = .ok (.iconst 1, 1) := by decide +kernel
theorem dL_winner_36 : decode cL_winner 36 = .ok (.istore_n 2, 1) := by decide +kernel
theorem dL_winner_37 : decode cL_winner 37 = .ok (.iinc 3 1, 3) := by decide +kernel
theorem dL_winner_40 : decode cL_winner 40 = .ok (.goto (-36), 3) := by decide +kernel
theorem dL_winner_43 : decode cL_winner 43 = .ok (.iload_n 2, 1) := by decide +kernel
theorem dL_winner_44 : decode cL_winner 44 = .ok (.ifCond .eq 7, 3) := by decide +kernel
theorem dL_winner_47 : decode cL_winner 47 = .ok (.iconst 0, 1) := by decide +kernel
theorem dL_winner_48 : decode cL_winner 48 = .ok (.goto 4, 3) := by decide +kernel
theorem dL_winner_51 : decode cL_winner 51 = .ok (.iconst 2, 1) := by decide +kernel
theorem dL_winner_52 : decode cL_winner 52 = .ok (.ireturn, 1) := by decide +kernel
theorem dL_free_0 : decode cL_free 0 = .ok (.iconst 1, 1) := by decide +kernel
theorem dL_free_1 : decode cL_free 1 = .ok (.aload_n 0, 1) := by decide +kernel
theorem dL_free_2 : decode cL_free 2 = .ok (.iconst 0, 1) := by decide +kernel
theorem dL_free_3 : decode cL_free 3 = .ok (.iaload, 1) := by decide +kernel
theorem dL_free_4 : decode cL_free 4 = .ok (.ishl, 1) := by decide +kernel
theorem dL_free_5 : decode cL_free 5 = .ok (.iconst 1, 1) := by decide +kernel
theorem dL_free_6 : decode cL_free 6 = .ok (.isub, 1) := by decide +kernel
theorem dL_free_7 : decode cL_free 7 = .ok (.aload_n 0, 1) := by decide +kernel
theorem dL_free_8 : decode cL_free 8 = .ok (.iconst 3, 1) := by decide +kernel
theorem dL_free_9 : decode cL_free 9 = .ok (.iaload, 1) := by decide +kernel
theorem dL_free_10 : decode cL_free 10 = .ok (.iconst (-1), 1) := by decide +kernel
theorem dL_free_11 : decode cL_free 11 = .ok (.ixor, 1) := by decide +kernel
theorem dL_free_12 : decode cL_free 12 = .ok (.iand, 1) := by decide +kernel
theorem dL_free_13 : decode cL_free 13 = .ok (.aload_n 0, 1) := by decide +kernel
theorem dL_free_14 : decode cL_free 14 = .ok (.iconst 4, 1) := by decide +kernel
theorem dL_free_15 : decode cL_free 15 = .ok (.iaload, 1) := by decide +kernel
theorem dL_free_16 : decode cL_free 16 = .ok (.iconst (-1), 1) := by decide +kernel
theorem dL_free_17 : decode cL_free 17 = .ok (.ixor, 1) := by decide +kernel
theorem dL_free_18 : decode cL_free 18 = .ok (.iand, 1) := by decide +kernel
theorem dL_free_19 : decode cL_free 19 = .ok (.ireturn, 1) := by decide +kernel
set_option maxRecDepth 20000 in
theorem ggL_weight_L_free : GoodIn wsL_weight wsL_free := goodIn_r _ [4] (by decide +kernel) (by decide +kernel)
set_option maxRecDepth 20000 in
theorem gL_weight_L_free : GoodIn wsL_weight (va_wsS RL 8 yL_free wsL_free) := goodIn_app (goodIn_of _ (by decide +kernel)) ggL_weight_L_free
set_option maxRecDepth 20000 in
theorem ggL_weight_L_ones : GoodIn wsL_weight wsL_ones := goodIn_r _ [7] (by decide +kernel) (by decide +kernel)
set_option maxRecDepth 20000 in
theorem gL_weight_L_ones : GoodIn wsL_weight (va_wsS RL 14 yL_ones wsL_ones) := goodIn_app (goodIn_of _ (by decide +kernel)) ggL_weight_L_ones
theorem dL_weight_0 : decode cL_weight 0 = .ok (.aload_n 1, 1) := by decide +kernel
theorem dL_weight_1 : decode cL_weight 1 = .ok (.iload_n 2, 1) := by decide +kernel
theorem dL_weight_2 : decode cL_weight 2 = .ok (.iaload, 1) := by decide +kernel
theorem dL_weight_3 : decode cL_weight 3 = .ok (.aload_n 0, 1) := by decide +kernel
theorem dL_weight_4 : decode cL_weight 4 = .ok (.iconst 4, 1) := by decide +kernel
theorem dL_weight_5 : decode cL_weight 5 = .ok (.iaload, 1) := by decide +kernel
theorem dL_weight_6 : decode cL_weight 6 = .ok (.iand, 1) := by decide +kernel
theorem dL_weight_7 : decode cL_weight 7 = .ok (.ifCond .eq 7, 3) := by decide +kernel
theorem dL_weight_10 : decode cL_weight 10 = .ok (.iconst 0, 1) := by decide +kernel
theorem dL_weight_11 : decode cL_weight 11 = .ok (.goto 18, 3) := by decide +kernel
theorem dL_weight_14 : decode cL_weight 14 = .ok (.sipush 1024, 3) := by decide +kernel
theorem dL_weight_17 : decode cL_weight 17 = .ok (.aload_n 1, 1) := by decide +kernel
theorem dL_weight_18 : decode cL_weight 18 = .ok (.iload_n 2, 1) := by decide +kernel
theorem dL_weight_19 : decode cL_weight 19 = .ok (.iaload, 1) := by decide +kernel
theorem dL_weight_20 : decode cL_weight 20 = .ok (.aload_n 0, 1) := by decide +kernel
theorem dL_weight_21 : decode cL_weight 21 = .ok (.invokestatic 8, 3) := by decide +kernel
theorem dL_weight_24 : decode cL_weight 24 = .ok (.iand, 1) := by decide +kernel
theorem dL_weight_25 : decode cL_weight 25 = .ok (.invokestatic 14, 3) := by decide +kernel
theorem dL_weight_28 : decode cL_weight 28 = .ok (.ishr, 1) := by decide +kernel
theorem dL_weight_29 : decode cL_weight 29 = .ok (.ireturn, 1) := by decide +kernel
set_option maxRecDepth 20000 in
theorem ggL_danger_L_free : GoodIn wsL_danger wsL_free := goodIn_r _ [4] (by decide +kernel) (by decide +kernel)
set_option maxRecDepth 20000 in
theorem gL_danger_L_free : GoodIn wsL_danger (va_wsS RL 8 yL_free wsL_free) := goodIn_app (goodIn_of _ (by decide +kernel)) ggL_danger_L_free
set_option maxRecDepth 20000 in
theorem ggL_danger_L_weight : GoodIn wsL_danger wsL_weight := goodIn_r _ [7, 1, 2, 3, 4, 8, 9, 10] (by decide +kernel) (by decide +kernel)
set_option maxRecDepth 20000 in
theorem gL_danger_L_weight : GoodIn wsL_danger (va_wsS RL 18 yL_weight wsL_weight) := goodIn_app (goodIn_of _ (by decide +kernel)) ggL_danger_L_weight
theorem dL_danger_0 : decode cL_danger 0 = .ok (.iconst 0, 1) := by decide +kernel
theorem dL_danger_1 : decode cL_danger 1 = .ok (.istore_n 3, 1) := by decide +kernel
theorem dL_danger_2 : decode cL_danger 2 = .ok (.iconst 0, 1) := by decide +kernel
theorem dL_danger_3 : decode cL_danger 3 = .ok (.istore 4, 2) := by decide +kernel
theorem dL_danger_5 : decode cL_danger 5 = .ok (.iload 4, 2) := by decide +kernel
theorem dL_danger_7 : decode cL_danger 7 = .ok (.aload_n 0, 1) := by decide +kernel
theorem dL_danger_8 : decode cL_danger 8 = .ok (.iconst 2, 1) := by decide +kernel
theorem dL_danger_9 : decode cL_danger 9 = .ok (.iaload, 1) := by decide +kernel
theorem dL_danger_10 : decode cL_danger 10 = .ok (.if_icmp .ge 35, 3) := by decide +kernel
theorem dL_danger_13 : decode cL_danger 13 = .ok (.aload_n 1, 1) := by decide +kernel
theorem dL_danger_14 : decode cL_danger 14 = .ok (.iload 4, 2) := by decide +kernel
theorem dL_danger_16 : decode cL_danger 16 = .ok (.iaload, 1) := by decide +kernel
theorem dL_danger_17 : decode cL_danger 17 = .ok (.aload_n 0, 1) := by decide +kernel
theorem dL_danger_18 : decode cL_danger 18 = .ok (.invokestatic 8, 3) := by decide +kernel
theorem dL_danger_21 : decode cL_danger 21 = .ok (.iand, 1) := by decide +kernel
theorem dL_danger_22 : decode cL_danger 22 = .ok (.iconst 1, 1) := by decide +kernel
theorem dL_danger_23 : decode cL_danger 23 = .ok (.iload_n 2, 1) := by decide +kernel
theorem dL_danger_24 : decode cL_danger 24 = .ok (.ishl, 1) := by decide +kernel
theorem dL_danger_25 : decode cL_danger 25 = .ok (.iand, 1) := by decide +kernel
theorem dL_danger_26 : decode cL_danger 26 = .ok (.ifCond .eq 13, 3) := by decide +kernel
theorem dL_danger_29 : decode cL_danger 29 = .ok (.iload_n 3, 1) := by decide +kernel
theorem dL_danger_30 : decode cL_danger 30 = .ok (.aload_n 0, 1) := by decide +kernel
theorem dL_danger_31 : decode cL_danger 31 = .ok (.aload_n 1, 1) := by decide +kernel
theorem dL_danger_32 : decode cL_danger 32 = .ok (.iload 4, 2) := by decide +kernel
theorem dL_danger_34 : decode cL_danger 34 = .ok (.invokestatic 18, 3) := by decide +kernel
theorem dL_danger_37 : decode cL_danger 37 = .ok (.iadd, 1) := by decide +kernel
theorem dL_danger_38 : decode cL_danger 38 = .ok (.istore_n 3, 1) := by decide +kernel
theorem dL_danger_39 : decode cL_danger 39 = .ok (.iinc 4 1, 3) := by decide +kernel
theorem dL_danger_42 : decode cL_danger 42 = .ok (.goto (-37), 3) := by decide +kernel
theorem dL_danger_45 : decode cL_danger 45 = .ok (.iload_n 3, 1) := by decide +kernel
theorem dL_danger_46 : decode cL_danger 46 = .ok (.ireturn, 1) := by decide +kernel
set_option maxRecDepth 20000 in
theorem ggL_threats_L_free : GoodIn wsL_threats wsL_free := goodIn_r _ [4] (by decide +kernel) (by decide +kernel)
set_option maxRecDepth 20000 in
theorem gL_threats_L_free : GoodIn wsL_threats (va_wsS RL 8 yL_free wsL_free) := goodIn_app (goodIn_of _ (by decide +kernel)) ggL_threats_L_free
set_option maxRecDepth 20000 in
theorem ggL_threats_L_ones : GoodIn wsL_threats wsL_ones := goodIn_r _ [7] (by decide +kernel) (by decide +kernel)
set_option maxRecDepth 20000 in
theorem gL_threats_L_ones : GoodIn wsL_threats (va_wsS RL 14 yL_ones wsL_ones) := goodIn_app (goodIn_of _ (by decide +kernel)) ggL_threats_L_ones
theorem dL_threats_0 : decode cL_threats 0 = .ok (.iconst 0, 1) := by decide +kernel
theorem dL_threats_1 : decode cL_threats 1 = .ok (.istore_n 2, 1) := by decide +kernel
theorem dL_threats_2 : decode cL_threats 2 = .ok (.iconst 0, 1) := by decide +kernel
theorem dL_threats_3 : decode cL_threats 3 = .ok (.istore_n 3, 1) := by decide +kernel
theorem dL_threats_4 : decode cL_threats 4 = .ok (.iload_n 3, 1) := by decide +kernel
theorem dL_threats_5 : decode cL_threats 5 = .ok (.aload_n 0, 1) := by decide +kernel
theorem dL_threats_6 : decode cL_threats 6 = .ok (.iconst 2, 1) := by decide +kernel
theorem dL_threats_7 : decode cL_threats 7 = .ok (.iaload, 1) := by decide +kernel
theorem dL_threats_8 : decode cL_threats 8 = .ok (.if_icmp .ge 45, 3) := by decide +kernel
theorem dL_threats_11 : decode cL_threats 11 = .ok (.aload_n 1, 1) := by decide +kernel
theorem dL_threats_12 : decode cL_threats 12 = .ok (.iload_n 3, 1) := by decide +kernel
theorem dL_threats_13 : decode cL_threats 13 = .ok (.iaload, 1) := by decide +kernel
theorem dL_threats_14 : decode cL_threats 14 = .ok (.aload_n 0, 1) := by decide +kernel
theorem dL_threats_15 : decode cL_threats 15 = .ok (.iconst 4, 1) := by decide +kernel
theorem dL_threats_16 : decode cL_threats 16 = .ok (.iaload, 1) := by decide +kernel
theorem dL_threats_17 : decode cL_threats 17 = .ok (.iand, 1) := by decide +kernel
theorem dL_threats_18 : decode cL_threats 18 = .ok (.ifCond .ne 29, 3) := by decide +kernel
theorem dL_threats_21 : decode cL_threats 21 = .ok (.aload_n 1, 1) := by decide +kernel
theorem dL_threats_22 : decode cL_threats 22 = .ok (.iload_n 3, 1) := by decide +kernel
theorem dL_threats_23 : decode cL_threats 23 = .ok (.iaload, 1) := by decide +kernel
theorem dL_threats_24 : decode cL_threats 24 = .ok (.aload_n 0, 1) := by decide +kernel
theorem dL_threats_25 : decode cL_threats 25 = .ok (.invokestatic 8, 3) := by decide +kernel
theorem dL_threats_28 : decode cL_threats 28 = .ok (.iand, 1) := by decide +kernel
theorem dL_threats_29 : decode cL_threats 29 = .ok (.invokestatic 14, 3) := by decide +kernel
theorem dL_threats_32 : decode cL_threats 32 = .ok (.iconst 1, 1) := by decide +kernel
theorem dL_threats_33 : decode cL_threats 33 = .ok (.if_icmp .ne 14, 3) := by decide +kernel
theorem dL_threats_36 : decode cL_threats 36 = .ok (.iload_n 2, 1) := by decide +kernel
theorem dL_threats_37 : decode cL_threats 37 = .ok (.aload_n 1, 1) := by decide +kernel
theorem dL_threats_38 : decode cL_threats 38 = .ok (.iload_n 3, 1) := by decide +kernel
theorem dL_threats_39 : decode cL_threats 39 = .ok (.iaload, 1) := by decide +kernel
theorem dL_threats_40 : decode cL_threats 40 = .ok (.aload_n 0, 1) := by decide +kernel
theorem dL_threats_41 : decode cL_threats 41 = .ok (.invokestatic 8, 3) := by decide +kernel
theorem dL_threats_44 : decode cL_threats 44 = .ok (.iand, 1) := by decide +kernel
theorem dL_threats_45 : decode cL_threats 45 = .ok (.ior, 1) := by decide +kernel
theorem dL_threats_46 : decode cL_threats 46 = .ok (.istore_n 2, 1) := by decide +kernel
theorem dL_threats_47 : decode cL_threats 47 = .ok (.iinc 3 1, 3) := by decide +kernel
theorem dL_threats_50 : decode cL_threats 50 = .ok (.goto (-46), 3) := by decide +kernel
theorem dL_threats_53 : decode cL_threats 53 = .ok (.iload_n 2, 1) := by decide +kernel
theorem dL_threats_54 : decode cL_threats 54 = .ok (.ireturn, 1) := by decide +kernel
set_option maxRecDepth 20000 in
theorem ggL_pairing_L_free : GoodIn wsL_pairing wsL_free := goodIn_r _ [4] (by decide +kernel) (by decide +kernel)
set_option maxRecDepth 20000 in
theorem gL_pairing_L_free : GoodIn wsL_pairing (va_wsS RL 8 yL_free wsL_free) := goodIn_app (goodIn_of _ (by decide +kernel)) ggL_pairing_L_free
theorem dL_pairing_0 : decode cL_pairing 0 = .ok (.iconst 0, 1) := by decide +kernel
theorem dL_pairing_1 : decode cL_pairing 1 = .ok (.istore_n 3, 1) := by decide +kernel
theorem dL_pairing_2 : decode cL_pairing 2 = .ok (.iload_n 3, 1) := by decide +kernel
theorem dL_pairing_3 : decode cL_pairing 3 = .ok (.sipush 1331, 3) := by decide +kernel
theorem dL_pairing_6 : decode cL_pairing 6 = .ok (.if_icmp .ge 363, 3) := by decide +kernel
theorem dL_pairing_9 : decode cL_pairing 9 = .ok (.iconst 0, 1) := by decide +kernel
theorem dL_pairing_10 : decode cL_pairing 10 = .ok (.istore 4, 2) := by decide +kernel
theorem dL_pairing_12 : decode cL_pairing 12 = .ok (.iload 4, 2) := by decide +kernel
theorem dL_pairing_14 : decode cL_pairing 14 = .ok (.iconst 5, 1) := by decide +kernel
theorem dL_pairing_15 : decode cL_pairing 15 = .ok (.if_icmp .ge 14, 3) := by decide +kernel
theorem dL_pairing_18 : decode cL_pairing 18 = .ok (.aload_n 2, 1) := by decide +kernel
theorem dL_pairing_19 : decode cL_pairing 19 = .ok (.iload 4, 2) := by decide +kernel
theorem dL_pairing_21 : decode cL_pairing 21 = .ok (.iconst (-1), 1) := by decide +kernel
theorem dL_pairing_22 : decode cL_pairing 22 = .ok (.iastore, 1) := by decide +kernel
theorem dL_pairing_23 : decode cL_pairing 23 = .ok (.iinc 4 1, 3) := by decide +kernel
theorem dL_pairing_26 : decode cL_pairing 26 = .ok (.goto (-14), 3) := by decide +kernel
theorem dL_pairing_29 : decode cL_pairing 29 = .ok (.iconst 1, 1) := by decide +kernel
theorem dL_pairing_30 : decode cL_pairing 30 = .ok (.istore 4, 2) := by decide +kernel
theorem dL_pairing_32 : decode cL_pairing 32 = .ok (.iload_n 3, 1) := by decide +kernel
theorem dL_pairing_33 : decode cL_pairing 33 = .ok (.istore 5, 2) := by decide +kernel
theorem dL_pairing_35 : decode cL_pairing 35 = .ok (.iconst 0, 1) := by decide +kernel
theorem dL_pairing_36 : decode cL_pairing 36 = .ok (.istore 6, 2) := by decide +kernel
theorem dL_pairing_38 : decode cL_pairing 38 = .ok (.iload 6, 2) := by decide +kernel
theorem dL_pairing_40 : decode cL_pairing 40 = .ok (.iconst 3, 1) := by decide +kernel
theorem dL_pairing_41 : decode cL_pairing 41 = .ok (.if_icmp .ge 315, 3) := by decide +kernel
theorem dL_pairing_44 : decode cL_pairing 44 = .ok (.iload 4, 2) := by decide +kernel
theorem dL_pairing_46 : decode cL_pairing 46 = .ok (.ifCond .eq 310, 3) := by decide +kernel
theorem dL_pairing_49 : decode cL_pairing 49 = .ok (.iload 6, 2) := by decide +kernel
theorem dL_pairing_51 : decode cL_pairing 51 = .ok (.ifCond .ne 11, 3) := by decide +kernel
theorem dL_pairing_54 : decode cL_pairing 54 = .ok (.iload 5, 2) := by decide +kernel
theorem dL_pairing_56 : decode cL_pairing 56 = .ok (.bipush 121, 2) := by decide +kernel
theorem dL_pairing_58 : decode cL_pairing 58 = .ok (.idiv, 1) := by decide +kernel
theorem dL_pairing_59 : decode cL_pairing 59 = .ok (.goto 25, 3) := by decide +kernel
theorem dL_pairing_62 : decode cL_pairing 62 = .ok (.iload 6, 2) := by decide +kernel
theorem dL_pairing_64 : decode cL_pairing 64 = .ok (.iconst 1, 1) := by decide +kernel
theorem dL_pairing_65 : decode cL_pairing 65 = .ok (.if_icmp .ne 14, 3) := by decide +kernel
theorem dL_pairing_68 : decode cL_pairing 68 = .ok (.iload 5, 2) := by decide +kernel
theorem dL_pairing_70 : decode cL_pairing 70 = .ok (.bipush 11, 2) := by decide +kernel
theorem dL_pairing_72 : decode cL_pairing 72 = .ok (.idiv, 1) := by decide +kernel
theorem dL_pairing_73 : decode cL_pairing 73 = .ok (.bipush 11, 2) := by decide +kernel
theorem dL_pairing_75 : decode cL_pairing 75 = .ok (.irem, 1) := by decide +kernel
theorem dL_pairing_76 : decode cL_pairing 76 = .ok (.goto 8, 3) := by decide +kernel
theorem dL_pairing_79 : decode cL_pairing 79 = .ok (.iload 5, 2) := by decide +kernel
theorem dL_pairing_81 : decode cL_pairing 81 = .ok (.bipush 11, 2) := by decide +kernel
theorem dL_pairing_83 : decode cL_pairing 83 = .ok (.irem, 1) := by decide +kernel
theorem dL_pairing_84 : decode cL_pairing 84 = .ok (.istore 7, 2) := by decide +kernel
theorem dL_pairing_86 : decode cL_pairing 86 = .ok (.iload 6, 2) := by decide +kernel
theorem dL_pairing_88 : decode cL_pairing 88 = .ok (.aload_n 0, 1) := by decide +kernel
theorem dL_pairing_89 : decode cL_pairing 89 = .ok (.iconst 2, 1) := by decide +kernel
theorem dL_pairing_90 : decode cL_pairing 90 = .ok (.iaload, 1) := by decide +kernel
theorem dL_pairing_91 : decode cL_pairing 91 = .ok (.if_icmp .ge 18, 3) := by decide +kernel
theorem dL_pairing_94 : decode cL_pairing 94 = .ok (.aload_n 1, 1) := by decide +kernel
theorem dL_pairing_95 : decode cL_pairing 95 = .ok (.iload 6, 2) := by decide +kernel
theorem dL_pairing_97 : decode cL_pairing 97 = .ok (.iaload, 1) := by decide +kernel
theorem dL_pairing_98 : decode cL_pairing 98 = .ok (.aload_n 0, 1) := by decide +kernel
theorem dL_pairing_99 : decode cL_pairing 99 = .ok (.iconst 4, 1) := by decide +kernel
theorem dL_pairing_100 : decode cL_pairing 100 = .ok (.iaload, 1) := by decide +kernel
theorem dL_pairing_101 : decode cL_pairing 101 = .ok (.iand, 1) := by decide +kernel
theorem dL_pairing_102 : decode cL_pairing 102 = .ok (.ifCond .ne 7, 3) := by decide +kernel
theorem dL_pairing_105 : decode cL_pairing 105 = .ok (.iconst 1, 1) := by decide +kernel
theorem dL_pairing_106 : decode cL_pairing 106 = .ok (.goto 4, 3) := by decide +kernel
theorem dL_pairing_109 : decode cL_pairing 109 = .ok (.iconst 0, 1) := by decide +kernel
theorem dL_pairing_110 : decode cL_pairing 110 = .ok (.istore 8, 2) := by decide +kernel
theorem dL_pairing_112 : decode cL_pairing 112 = .ok (.iconst 0, 1) := by decide +kernel
theorem dL_pairing_113 : decode cL_pairing 113 = .ok (.istore 9, 2) := by decide +kernel
theorem dL_pairing_115 : decode cL_pairing 115 = .ok (.iload 9, 2) := by decide +kernel
theorem dL_pairing_117 : decode cL_pairing 117 = .ok (.iconst 5, 1) := by decide +kernel
theorem dL_pairing_118 : decode cL_pairing 118 = .ok (.if_icmp .ge 52, 3) := by decide +kernel
theorem dL_pairing_121 : decode cL_pairing 121 = .ok (.iload 8, 2) := by decide +kernel
theorem dL_pairing_123 : decode cL_pairing 123 = .ok (.ifCond .eq 47, 3) := by decide +kernel
theorem dL_pairing_126 : decode cL_pairing 126 = .ok (.aload_n 2, 1) := by decide +kernel
theorem dL_pairing_127 : decode cL_pairing 127 = .ok (.iload 9, 2) := by decide +kernel
theorem dL_pairing_129 : decode cL_pairing 129 = .ok (.iaload, 1) := by decide +kernel
theorem dL_pairing_130 : decode cL_pairing 130 = .ok (.ifCond .lt 34, 3) := by decide +kernel
theorem dL_pairing_133 : decode cL_pairing 133 = .ok (.aload_n 1, 1) := by decide +kernel
theorem dL_pairing_134 : decode cL_pairing 134 = .ok (.iload 6, 2) := by decide +kernel
theorem dL_pairing_136 : decode cL_pairing 136 = .ok (.iaload, 1) := by decide +kernel
theorem dL_pairing_137 : decode cL_pairing 137 = .ok (.iload 9, 2) := by decide +kernel
theorem dL_pairing_139 : decode cL_pairing 139 = .ok (.ishr, 1) := by decide +kernel
theorem dL_pairing_140 : decode cL_pairing 140 = .ok (.iconst 1, 1) := by decide +kernel
theorem dL_pairing_141 : decode cL_pairing 141 = .ok (.iand, 1) := by decide +kernel
theorem dL_pairing_142 : decode cL_pairing 142 = .ok (.iconst 1, 1) := by decide +kernel
theorem dL_pairing_143 : decode cL_pairing 143 = .ok (.if_icmp .ne 21, 3) := by decide +kernel
theorem dL_pairing_146 : decode cL_pairing 146 = .ok (.aload_n 1, 1) := by decide +kernel
theorem dL_pairing_147 : decode cL_pairing 147 = .ok (.iload 6, 2) := by decide +kernel
theorem dL_pairing_149 : decode cL_pairing 149 = .ok (.iaload, 1) := by decide +kernel
theorem dL_pairing_150 : decode cL_pairing 150 = .ok (.aload_n 2, 1) := by decide +kernel
theorem dL_pairing_151 : decode cL_pairing 151 = .ok (.iload 9, 2) := by decide +kernel
theorem dL_pairing_153 : decode cL_pairing 153 = .ok (.iaload, 1) := by decide +kernel
theorem dL_pairing_154 : decode cL_pairing 154 = .ok (.ishr, 1) := by decide +kernel
theorem dL_pairing_155 : decode cL_pairing 155 = .ok (.iconst 1, 1) := by decide +kernel
theorem dL_pairing_156 : decode cL_pairing 156 = .ok (.iand, 1) := by decide +kernel
theorem dL_pairing_157 : decode cL_pairing 157 = .ok (.iconst 1, 1) := by decide +kernel
theorem dL_pairing_158 : decode cL_pairing 158 = .ok (.if_icmp .ne 6, 3) := by decide +kernel
theorem dL_pairing_161 : decode cL_pairing 161 = .ok (.iconst 0, 1) := by decide +kernel
theorem dL_pairing_162 : decode cL_pairing 162 = .ok (.istore 8, 2) := by decide +kernel
theorem dL_pairing_164 : decode cL_pairing 164 = .ok (.iinc 9 1, 3) := by decide +kernel
theorem dL_pairing_167 : decode cL_pairing 167 = .ok (.goto (-52), 3) := by decide +kernel
theorem dL_pairing_170 : decode cL_pairing 170 = .ok (.iload 8, 2) := by decide +kernel
theorem dL_pairing_172 : decode cL_pairing 172 = .ok (.ifCond .ne 20, 3) := by decide +kernel
theorem dL_pairing_175 : decode cL_pairing 175 = .ok (.iload 7, 2) := by decide +kernel
theorem dL_pairing_177 : decode cL_pairing 177 = .ok (.bipush 10, 2) := by decide +kernel
theorem dL_pairing_179 : decode cL_pairing 179 = .ok (.if_icmp .ne 7, 3) := by decide +kernel
theorem dL_pairing_182 : decode cL_pairing 182 = .ok (.iconst 1, 1) := by decide +kernel
theorem dL_pairing_183 : decode cL_pairing 183 = .ok (.goto 4, 3) := by decide +kernel
theorem dL_pairing_186 : decode cL_pairing 186 = .ok (.iconst 0, 1) := by decide +kernel
theorem dL_pairing_187 : decode cL_pairing 187 = .ok (.istore 4, 2) := by decide +kernel
theorem dL_pairing_189 : decode cL_pairing 189 = .ok (.goto 161, 3) := by decide +kernel
theorem dL_pairing_192 : decode cL_pairing 192 = .ok (.iload 7, 2) := by decide +kernel
theorem dL_pairing_194 : decode cL_pairing 194 = .ok (.iconst 4, 1) := by decide +kernel
theorem dL_pairing_195 : decode cL_pairing 195 = .ok (.if_icmp .ge 7, 3) := by decide +kernel
theorem dL_pairing_198 : decode cL_pairing 198 = .ok (.iconst 0, 1) := by decide +kernel
theorem dL_pairing_199 : decode cL_pairing 199 = .ok (.goto 26, 3) := by decide +kernel
theorem dL_pairing_202 : decode cL_pairing 202 = .ok (.iload 7, 2) := by decide +kernel
theorem dL_pairing_204 : decode cL_pairing 204 = .ok (.bipush 7, 2) := by decide +kernel
theorem dL_pairing_206 : decode cL_pairing 206 = .ok (.if_icmp .ge 7, 3) := by decide +kernel
theorem dL_pairing_209 : decode cL_pairing 209 = .ok (.iconst 1, 1) := by decide +kernel
theorem dL_pairing_210 : decode cL_pairing 210 = .ok (.goto 15, 3) := by decide +kernel
theorem dL_pairing_213 : decode cL_pairing 213 = .ok (.iload 7, 2) := by decide +kernel
theorem dL_pairing_215 : decode cL_pairing 215 = .ok (.bipush 9, 2) := by decide +kernel
theorem dL_pairing_217 : decode cL_pairing 217 = .ok (.if_icmp .ge 7, 3) := by decide +kernel
theorem dL_pairing_220 : decode cL_pairing 220 = .ok (.iconst 2, 1) := by decide +kernel
theorem dL_pairing_221 : decode cL_pairing 221 = .ok (.goto 4, 3) := by decide +kernel
theorem dL_pairing_224 : decode cL_pairing 224 = .ok (.iconst 3, 1) := by decide +kernel
theorem dL_pairing_225 : decode cL_pairing 225 = .ok (.istore 9, 2) := by decide +kernel
theorem dL_pairing_227 : decode cL_pairing 227 = .ok (.iload 7, 2) := by decide +kernel
theorem dL_pairing_229 : decode cL_pairing 229 = .ok (.iconst 4, 1) := by decide +kernel
theorem dL_pairing_230 : decode cL_pairing 230 = .ok (.if_icmp .ge 10, 3) := by decide +kernel
theorem dL_pairing_233 : decode cL_pairing 233 = .ok (.iload 7, 2) := by decide +kernel
theorem dL_pairing_235 : decode cL_pairing 235 = .ok (.iconst 1, 1) := by decide +kernel
theorem dL_pairing_236 : decode cL_pairing 236 = .ok (.iadd, 1) := by decide +kernel
theorem dL_pairing_237 : decode cL_pairing 237 = .ok (.goto 32, 3) := by decide +kernel
theorem dL_pairing_240 : decode cL_pairing 240 = .ok (.iload 7, 2) := by decide +kernel
theorem dL_pairing_242 : decode cL_pairing 242 = .ok (.bipush 7, 2) := by decide +kernel
theorem dL_pairing_244 : decode cL_pairing 244 = .ok (.if_icmp .ge 10, 3) := by decide +kernel
theorem dL_pairing_247 : decode cL_pairing 247 = .ok (.iload 7, 2) := by decide +kernel
theorem dL_pairing_249 : decode cL_pairing 249 = .ok (.iconst 2, 1) := by decide +kernel
theorem dL_pairing_250 : decode cL_pairing 250 = .ok (.isub, 1) := by decide +kernel
theorem dL_pairing_251 : decode cL_pairing 251 = .ok (.goto 18, 3) := by decide +kernel
theorem dL_pairing_254 : decode cL_pairing 254 = .ok (.iload 7, 2) := by decide +kernel
theorem dL_pairing_256 : decode cL_pairing 256 = .ok (.bipush 9, 2) := by decide +kernel
theorem dL_pairing_258 : decode cL_pairing 258 = .ok (.if_icmp .ge 10, 3) := by decide +kernel
theorem dL_pairing_261 : decode cL_pairing 261 = .ok (.iload 7, 2) := by decide +kernel
theorem dL_pairing_263 : decode cL_pairing 263 = .ok (.iconst 4, 1) := by decide +kernel
theorem dL_pairing_264 : decode cL_pairing 264 = .ok (.isub, 1) := by decide +kernel
theorem dL_pairing_265 : decode cL_pairing 265 = .ok (.goto 4, 3) := by decide +kernel
theorem dL_pairing_268 : decode cL_pairing 268 = .ok (.iconst 4, 1) := by decide +kernel
theorem dL_pairing_269 : decode cL_pairing 269 = .ok (.istore 10, 2) := by decide +kernel
theorem dL_pairing_271 : decode cL_pairing 271 = .ok (.iload 7, 2) := by decide +kernel
theorem dL_pairing_273 : decode cL_pairing 273 = .ok (.bipush 10, 2) := by decide +kernel
theorem dL_pairing_275 : decode cL_pairing 275 = .ok (.if_icmp .ge 55, 3) := by decide +kernel
theorem dL_pairing_278 : decode cL_pairing 278 = .ok (.aload_n 1, 1) := by decide +kernel
theorem dL_pairing_279 : decode cL_pairing 279 = .ok (.iload 6, 2) := by decide +kernel
theorem dL_pairing_281 : decode cL_pairing 281 = .ok (.iaload, 1) := by decide +kernel
theorem dL_pairing_282 : decode cL_pairing 282 = .ok (.aload_n 0, 1) := by decide +kernel
theorem dL_pairing_283 : decode cL_pairing 283 = .ok (.invokestatic 8, 3) := by decide +kernel
theorem dL_pairing_286 : decode cL_pairing 286 = .ok (.iand, 1) := by decide +kernel
theorem dL_pairing_287 : decode cL_pairing 287 = .ok (.iconst 1, 1) := by decide +kernel
theorem dL_pairing_288 : decode cL_pairing 288 = .ok (.iload 9, 2) := by decide +kernel
theorem dL_pairing_290 : decode cL_pairing 290 = .ok (.ishl, 1) := by decide +kernel
theorem dL_pairing_291 : decode cL_pairing 291 = .ok (.iand, 1) := by decide +kernel
theorem dL_pairing_292 : decode cL_pairing 292 = .ok (.ifCond .eq 38, 3) := by decide +kernel
theorem dL_pairing_295 : decode cL_pairing 295 = .ok (.aload_n 1, 1) := by decide +kernel
theorem dL_pairing_296 : decode cL_pairing 296 = .ok (.iload 6, 2) := by decide +kernel
theorem dL_pairing_298 : decode cL_pairing 298 = .ok (.iaload, 1) := by decide +kernel
theorem dL_pairing_299 : decode cL_pairing 299 = .ok (.aload_n 0, 1) := by decide +kernel
theorem dL_pairing_300 : decode cL_pairing 300 = .ok (.invokestatic 8, 3) := by decide +kernel
theorem dL_pairing_303 : decode cL_pairing 303 = .ok (.iand, 1) := by decide +kernel
theorem dL_pairing_304 : decode cL_pairing 304 = .ok (.iconst 1, 1) := by decide +kernel
theorem dL_pairing_305 : decode cL_pairing 305 = .ok (.iload 10, 2) := by decide +kernel
theorem dL_pairing_307 : decode cL_pairing 307 = .ok (.ishl, 1) := by decide +kernel
theorem dL_pairing_308 : decode cL_pairing 308 = .ok (.iand, 1) := by decide +kernel
theorem dL_pairing_309 : decode cL_pairing 309 = .ok (.ifCond .eq 21, 3) := by decide +kernel
theorem dL_pairing_312 : decode cL_pairing 312 = .ok (.aload_n 2, 1) := by decide +kernel
theorem dL_pairing_313 : decode cL_pairing 313 = .ok (.iload 9, 2) := by decide +kernel
theorem dL_pairing_315 : decode cL_pairing 315 = .ok (.iaload, 1) := by decide +kernel
theorem dL_pairing_316 : decode cL_pairing 316 = .ok (.ifCond .ge 14, 3) := by decide +kernel
theorem dL_pairing_319 : decode cL_pairing 319 = .ok (.aload_n 2, 1) := by decide +kernel
theorem dL_pairing_320 : decode cL_pairing 320 = .ok (.iload 10, 2) := by decide +kernel
theorem dL_pairing_322 : decode cL_pairing 322 = .ok (.iaload, 1) := by decide +kernel
theorem dL_pairing_323 : decode cL_pairing 323 = .ok (.ifCond .ge 7, 3) := by decide +kernel
theorem dL_pairing_326 : decode cL_pairing 326 = .ok (.iconst 1, 1) := by decide +kernel
theorem dL_pairing_327 : decode cL_pairing 327 = .ok (.goto 4, 3) := by decide +kernel
theorem dL_pairing_330 : decode cL_pairing 330 = .ok (.iconst 0, 1) := by decide +kernel
theorem dL_pairing_331 : decode cL_pairing 331 = .ok (.istore 4, 2) := by decide +kernel
theorem dL_pairing_333 : decode cL_pairing 333 = .ok (.iload 4, 2) := by decide +kernel
theorem dL_pairing_335 : decode cL_pairing 335 = .ok (.ifCond .eq 15, 3) := by decide +kernel
theorem dL_pairing_338 : decode cL_pairing 338 = .ok (.aload_n 2, 1) := by decide +kernel
theorem dL_pairing_339 : decode cL_pairing 339 = .ok (.iload 9, 2) := by decide +kernel
theorem dL_pairing_341 : decode cL_pairing 341 = .ok (.iload 10, 2) := by decide +kernel
theorem dL_pairing_343 : decode cL_pairing 343 = .ok (.iastore, 1) := by decide +kernel
theorem dL_pairing_344 : decode cL_pairing 344 = .ok (.aload_n 2, 1) := by decide +kernel
theorem dL_pairing_345 : decode cL_pairing 345 = .ok (.iload 10, 2) := by decide +kernel
theorem dL_pairing_347 : decode cL_pairing 347 = .ok (.iload 9, 2) := by decide +kernel
theorem dL_pairing_349 : decode cL_pairing 349 = .ok (.iastore, 1) := by decide +kernel
theorem dL_pairing_350 : decode cL_pairing 350 = .ok (.iinc 6 1, 3) := by decide +kernel
theorem dL_pairing_353 : decode cL_pairing 353 = .ok (.goto (-315), 3) := by decide +kernel
theorem dL_pairing_356 : decode cL_pairing 356 = .ok (.iload 4, 2) := by decide +kernel
theorem dL_pairing_358 : decode cL_pairing 358 = .ok (.ifCond .eq 5, 3) := by decide +kernel
theorem dL_pairing_361 : decode cL_pairing 361 = .ok (.iconst 1, 1) := by decide +kernel
theorem dL_pairing_362 : decode cL_pairing 362 = .ok (.ireturn, 1) := by decide +kernel
theorem dL_pairing_363 : decode cL_pairing 363 = .ok (.iinc 3 1, 3) := by decide +kernel
theorem dL_pairing_366 : decode cL_pairing 366 = .ok (.goto (-364), 3) := by decide +kernel
theorem dL_pairing_369 : decode cL_pairing 369 = .ok (.iconst 0, 1) := by decide +kernel
theorem dL_pairing_370 : decode cL_pairing 370 = .ok (.ireturn, 1) := by decide +kernel
set_option maxRecDepth 20000 in
theorem ggL_reply_L_winner : GoodIn wsL_reply wsL_winner := goodIn_r _ [4] (by decide +kernel) (by decide +kernel)
set_option maxRecDepth 20000 in
theorem gL_reply_L_winner : GoodIn wsL_reply (va_wsS RL 22 yL_winner wsL_winner) := goodIn_app (goodIn_of _ (by decide +kernel)) ggL_reply_L_winner
set_option maxRecDepth 20000 in
theorem ggL_reply_L_free : GoodIn wsL_reply wsL_free := goodIn_r _ [7] (by decide +kernel) (by decide +kernel)
set_option maxRecDepth 20000 in
theorem gL_reply_L_free : GoodIn wsL_reply (va_wsS RL 8 yL_free wsL_free) := goodIn_app (goodIn_of _ (by decide +kernel)) ggL_reply_L_free
set_option maxRecDepth 20000 in
theorem ggL_reply_L_low : GoodIn wsL_reply wsL_low := goodIn_r _ [10] (by decide +kernel) (by decide +kernel)
set_option maxRecDepth 20000 in
theorem gL_reply_L_low : GoodIn wsL_reply (va_wsS RL 26 yL_low wsL_low) := goodIn_app (goodIn_of _ (by decide +kernel)) ggL_reply_L_low
set_option maxRecDepth 20000 in
theorem ggL_reply_L_threats : GoodIn wsL_reply wsL_threats := goodIn_r _ [13, 5, 6, 3, 7, 14, 15, 16] (by decide +kernel) (by decide +kernel)
set_option maxRecDepth 20000 in
theorem gL_reply_L_threats : GoodIn wsL_reply (va_wsS RL 29 yL_threats wsL_threats) := goodIn_app (goodIn_of _ (by decide +kernel)) ggL_reply_L_threats
set_option maxRecDepth 20000 in
theorem ggL_reply_L_danger : GoodIn wsL_reply wsL_danger := goodIn_r _ [19, 5, 6, 3, 7, 20, 21, 22, 14, 15, 16] (by decide +kernel) (by decide +kernel)
set_option maxRecDepth 20000 in
theorem gL_reply_L_danger : GoodIn wsL_reply (va_wsS RL 32 yL_danger wsL_danger) := goodIn_app (goodIn_of _ (by decide +kernel)) ggL_reply_L_danger
theorem dL_reply_0 : decode cL_reply 0 = .ok (.aload_n 0, 1) := by decide +kernel
theorem dL_reply_1 : decode cL_reply 1 = .ok (.aload_n 1, 1) := by decide +kernel
theorem dL_reply_2 : decode cL_reply 2 = .ok (.invokestatic 22, 3) := by decide +kernel
theorem dL_reply_5 : decode cL_reply 5 = .ok (.ifCond .le 5, 3) := by decide +kernel
theorem dL_reply_8 : decode cL_reply 8 = .ok (.iconst (-1), 1) := by decide +kernel
theorem dL_reply_9 : decode cL_reply 9 = .ok (.ireturn, 1) := by decide +kernel
theorem dL_reply_10 : decode cL_reply 10 = .ok (.iload_n 2, 1) := by decide +kernel
theorem dL_reply_11 : decode cL_reply 11 = .ok (.ifCond .ne 11, 3) := by decide +kernel
theorem dL_reply_14 : decode cL_reply 14 = .ok (.aload_n 0, 1) := by decide +kernel
theorem dL_reply_15 : decode cL_reply 15 = .ok (.invokestatic 8, 3) := by decide +kernel
theorem dL_reply_18 : decode cL_reply 18 = .ok (.invokestatic 26, 3) := by decide +kernel
theorem dL_reply_21 : decode cL_reply 21 = .ok (.ireturn, 1) := by decide +kernel
theorem dL_reply_22 : decode cL_reply 22 = .ok (.iload_n 2, 1) := by decide +kernel
theorem dL_reply_23 : decode cL_reply 23 = .ok (.iconst 2, 1) := by decide +kernel
theorem dL_reply_24 : decode cL_reply 24 = .ok (.if_icmp .ne 15, 3) := by decide +kernel
theorem dL_reply_27 : decode cL_reply 27 = .ok (.aload_n 0, 1) := by decide +kernel
theorem dL_reply_28 : decode cL_reply 28 = .ok (.bipush 6, 2) := by decide +kernel
theorem dL_reply_30 : decode cL_reply 30 = .ok (.iaload, 1) := by decide +kernel
theorem dL_reply_31 : decode cL_reply 31 = .ok (.ifCond .lt 8, 3) := by decide +kernel
theorem dL_reply_34 : decode cL_reply 34 = .ok (.aload_n 0, 1) := by decide +kernel
theorem dL_reply_35 : decode cL_reply 35 = .ok (.bipush 6, 2) := by decide +kernel
theorem dL_reply_37 : decode cL_reply 37 = .ok (.iaload, 1) := by decide +kernel
theorem dL_reply_38 : decode cL_reply 38 = .ok (.ireturn, 1) := by decide +kernel
theorem dL_reply_39 : decode cL_reply 39 = .ok (.aload_n 0, 1) := by decide +kernel
theorem dL_reply_40 : decode cL_reply 40 = .ok (.aload_n 1, 1) := by decide +kernel
theorem dL_reply_41 : decode cL_reply 41 = .ok (.invokestatic 29, 3) := by decide +kernel
theorem dL_reply_44 : decode cL_reply 44 = .ok (.ifCond .eq 12, 3) := by decide +kernel
theorem dL_reply_47 : decode cL_reply 47 = .ok (.aload_n 0, 1) := by decide +kernel
theorem dL_reply_48 : decode cL_reply 48 = .ok (.aload_n 1, 1) := by decide +kernel
theorem dL_reply_49 : decode cL_reply 49 = .ok (.invokestatic 29, 3) := by decide +kernel
theorem dL_reply_52 : decode cL_reply 52 = .ok (.invokestatic 26, 3) := by decide +kernel
theorem dL_reply_55 : decode cL_reply 55 = .ok (.ireturn, 1) := by decide +kernel
theorem dL_reply_56 : decode cL_reply 56 = .ok (.iconst (-1), 1) := by decide +kernel
theorem dL_reply_57 : decode cL_reply 57 = .ok (.istore_n 3, 1) := by decide +kernel
theorem dL_reply_58 : decode cL_reply 58 = .ok (.aload_n 0, 1) := by decide +kernel
theorem dL_reply_59 : decode cL_reply 59 = .ok (.iconst 0, 1) := by decide +kernel
theorem dL_reply_60 : decode cL_reply 60 = .ok (.iaload, 1) := by decide +kernel
theorem dL_reply_61 : decode cL_reply 61 = .ok (.iconst 1, 1) := by decide +kernel
theorem dL_reply_62 : decode cL_reply 62 = .ok (.isub, 1) := by decide +kernel
theorem dL_reply_63 : decode cL_reply 63 = .ok (.istore 4, 2) := by decide +kernel
theorem dL_reply_65 : decode cL_reply 65 = .ok (.iload 4, 2) := by decide +kernel
theorem dL_reply_67 : decode cL_reply 67 = .ok (.ifCond .lt 45, 3) := by decide +kernel
theorem dL_reply_70 : decode cL_reply 70 = .ok (.aload_n 0, 1) := by decide +kernel
theorem dL_reply_71 : decode cL_reply 71 = .ok (.invokestatic 8, 3) := by decide +kernel
theorem dL_reply_74 : decode cL_reply 74 = .ok (.iload 4, 2) := by decide +kernel
theorem dL_reply_76 : decode cL_reply 76 = .ok (.ishr, 1) := by decide +kernel
theorem dL_reply_77 : decode cL_reply 77 = .ok (.iconst 1, 1) := by decide +kernel
theorem dL_reply_78 : decode cL_reply 78 = .ok (.iand, 1) := by decide +kernel
theorem dL_reply_79 : decode cL_reply 79 = .ok (.iconst 1, 1) := by decide +kernel
theorem dL_reply_80 : decode cL_reply 80 = .ok (.if_icmp .ne 26, 3) := by decide +kernel
theorem dL_reply_83 : decode cL_reply 83 = .ok (.iload_n 3, 1) := by decide +kernel
theorem dL_reply_84 : decode cL_reply 84 = .ok (.ifCond .lt 19, 3) := by decide +kernel
theorem dL_reply_87 : decode cL_reply 87 = .ok (.aload_n 0, 1) := by decide +kernel
theorem dL_reply_88 : decode cL_reply 88 = .ok (.aload_n 1, 1) := by decide +kernel
theorem dL_reply_89 : decode cL_reply 89 = .ok (.iload 4, 2) := by decide +kernel
theorem dL_reply_91 : decode cL_reply 91 = .ok (.invokestatic 32, 3) := by decide +kernel
theorem dL_reply_94 : decode cL_reply 94 = .ok (.aload_n 0, 1) := by decide +kernel
theorem dL_reply_95 : decode cL_reply 95 = .ok (.aload_n 1, 1) := by decide +kernel
theorem dL_reply_96 : decode cL_reply 96 = .ok (.iload_n 3, 1) := by decide +kernel
theorem dL_reply_97 : decode cL_reply 97 = .ok (.invokestatic 32, 3) := by decide +kernel
theorem dL_reply_100 : decode cL_reply 100 = .ok (.if_icmp .lt 6, 3) := by decide +kernel
theorem dL_reply_103 : decode cL_reply 103 = .ok (.iload 4, 2) := by decide +kernel
theorem dL_reply_105 : decode cL_reply 105 = .ok (.istore_n 3, 1) := by decide +kernel
theorem dL_reply_106 : decode cL_reply 106 = .ok (.iinc 4 (-1), 3) := by decide +kernel
theorem dL_reply_109 : decode cL_reply 109 = .ok (.goto (-44), 3) := by decide +kernel
theorem dL_reply_112 : decode cL_reply 112 = .ok (.iload_n 3, 1) := by decide +kernel
theorem dL_reply_113 : decode cL_reply 113 = .ok (.ireturn, 1) := by decide +kernel
set_option maxRecDepth 20000 in
theorem ggL_moves_L_pairing : GoodIn wsL_moves wsL_pairing := goodIn_r _ [4, 5, 6, 3, 7] (by decide +kernel) (by decide +kernel)
set_option maxRecDepth 20000 in
theorem gL_moves_L_pairing : GoodIn wsL_moves (va_wsS RL 35 yL_pairing wsL_pairing) := goodIn_app (goodIn_of _ (by decide +kernel)) ggL_moves_L_pairing
set_option maxRecDepth 20000 in
theorem ggL_moves_L_winner : GoodIn wsL_moves wsL_winner := goodIn_r _ [10] (by decide +kernel) (by decide +kernel)
set_option maxRecDepth 20000 in
theorem gL_moves_L_winner : GoodIn wsL_moves (va_wsS RL 22 yL_winner wsL_winner) := goodIn_app (goodIn_of _ (by decide +kernel)) ggL_moves_L_winner
theorem dL_moves_0 : decode cL_moves 0 = .ok (.aload_n 0, 1) := by decide +kernel
theorem dL_moves_1 : decode cL_moves 1 = .ok (.bipush 6, 2) := by decide +kernel
theorem dL_moves_3 : decode cL_moves 3 = .ok (.aload_n 0, 1) := by decide +kernel
theorem dL_moves_4 : decode cL_moves 4 = .ok (.aload_n 1, 1) := by decide +kernel
theorem dL_moves_5 : decode cL_moves 5 = .ok (.aload_n 2, 1) := by decide +kernel
theorem dL_moves_6 : decode cL_moves 6 = .ok (.invokestatic 35, 3) := by decide +kernel
theorem dL_moves_9 : decode cL_moves 9 = .ok (.ifCond .eq 9, 3) := by decide +kernel
theorem dL_moves_12 : decode cL_moves 12 = .ok (.aload_n 2, 1) := by decide +kernel
theorem dL_moves_13 : decode cL_moves 13 = .ok (.iload_n 3, 1) := by decide +kernel
theorem dL_moves_14 : decode cL_moves 14 = .ok (.iaload, 1) := by decide +kernel
theorem dL_moves_15 : decode cL_moves 15 = .ok (.goto 4, 3) := by decide +kernel
theorem dL_moves_18 : decode cL_moves 18 = .ok (.iconst (-1), 1) := by decide +kernel
theorem dL_moves_19 : decode cL_moves 19 = .ok (.iastore, 1) := by decide +kernel
theorem dL_moves_20 : decode cL_moves 20 = .ok (.aload_n 0, 1) := by decide +kernel
theorem dL_moves_21 : decode cL_moves 21 = .ok (.iconst 2, 1) := by decide +kernel
theorem dL_moves_22 : decode cL_moves 22 = .ok (.aload_n 0, 1) := by decide +kernel
theorem dL_moves_23 : decode cL_moves 23 = .ok (.iconst 1, 1) := by decide +kernel
theorem dL_moves_24 : decode cL_moves 24 = .ok (.iaload, 1) := by decide +kernel
theorem dL_moves_25 : decode cL_moves 25 = .ok (.iadd, 1) := by decide +kernel
theorem dL_moves_26 : decode cL_moves 26 = .ok (.dup2, 1) := by decide +kernel
theorem dL_moves_27 : decode cL_moves 27 = .ok (.iaload, 1) := by decide +kernel
theorem dL_moves_28 : decode cL_moves 28 = .ok (.iconst 1, 1) := by decide +kernel
