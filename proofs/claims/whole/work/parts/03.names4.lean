theorem dX7_layPairing_85 : decode cX7_layPairing 85 = .ok (.ireturn, 1) := by decide +kernel
theorem dX7_layPairing_86 : decode cX7_layPairing 86 = .ok (.aload_n 0, 1) := by decide +kernel
theorem dX7_layPairing_87 : decode cX7_layPairing 87 = .ok (.iload_n 1, 1) := by decide +kernel
theorem dX7_layPairing_88 : decode cX7_layPairing 88 = .ok (.invokevirtual 112, 3) := by decide +kernel
theorem dX7_layPairing_91 : decode cX7_layPairing 91 = .ok (.istore_n 2, 1) := by decide +kernel
theorem dX7_layPairing_92 : decode cX7_layPairing 92 = .ok (.goto (-22), 3) := by decide +kernel
theorem dX7_layPairing_95 : decode cX7_layPairing 95 = .ok (.iinc 1 1, 3) := by decide +kernel
theorem dX7_layPairing_98 : decode cX7_layPairing 98 = .ok (.goto (-75), 3) := by decide +kernel
theorem dX7_layPairing_101 : decode cX7_layPairing 101 = .ok (.iconst 1, 1) := by decide +kernel
theorem dX7_layPairing_102 : decode cX7_layPairing 102 = .ok (.ireturn, 1) := by decide +kernel
set_option maxRecDepth 20000 in
theorem ggX7_partnerOf_X7_layPairing : GoodIn wsX7_partnerOf wsX7_layPairing := goodIn_r _ [6, 1, 7, 8, 9, 10, 11, 5, 12, 13, 14, 15, 16, 17, 18, 19, 20, 21, 22, 23, 24, 25, 26, 27, 28, 29, 30, 31, 32, 33, 34, 35, 36, 37, 38, 39, 40, 41, 42, 43, 44, 45, 46, 47, 48, 49, 50, 51, 52, 53, 54, 55, 56, 57, 58, 59, 60, 61, 62, 63, 64, 65, 66, 67, 68, 69, 70, 71, 72] (by decide +kernel) (by decide +kernel)
set_option maxRecDepth 20000 in
theorem gX7_partnerOf_X7_layPairing : GoodIn wsX7_partnerOf (wsV RX7 118 RX7 yX7_layPairing wsX7_layPairing) := goodIn_app (goodIn_of _ (by decide +kernel)) ggX7_partnerOf_X7_layPairing
theorem dX7_partnerOf_0 : decode cX7_partnerOf 0 = .ok (.aload_n 0, 1) := by decide +kernel
theorem dX7_partnerOf_1 : decode cX7_partnerOf 1 = .ok (.invokevirtual 118, 3) := by decide +kernel
theorem dX7_partnerOf_4 : decode cX7_partnerOf 4 = .ok (.ifCond .eq 12, 3) := by decide +kernel
theorem dX7_partnerOf_7 : decode cX7_partnerOf 7 = .ok (.aload_n 0, 1) := by decide +kernel
theorem dX7_partnerOf_8 : decode cX7_partnerOf 8 = .ok (.getfield 25, 3) := by decide +kernel
theorem dX7_partnerOf_11 : decode cX7_partnerOf 11 = .ok (.iload_n 1, 1) := by decide +kernel
theorem dX7_partnerOf_12 : decode cX7_partnerOf 12 = .ok (.iaload, 1) := by decide +kernel
theorem dX7_partnerOf_13 : decode cX7_partnerOf 13 = .ok (.goto 4, 3) := by decide +kernel
theorem dX7_partnerOf_16 : decode cX7_partnerOf 16 = .ok (.iconst (-1), 1) := by decide +kernel
theorem dX7_partnerOf_17 : decode cX7_partnerOf 17 = .ok (.ireturn, 1) := by decide +kernel
set_option maxRecDepth 20000 in
theorem ggX7_pairs_X7_layPairing : GoodIn wsX7_pairs wsX7_layPairing := goodIn_r _ [6, 1, 7, 8, 9, 10, 11, 5, 12, 13, 14, 15, 16, 17, 18, 19, 20, 21, 22, 23, 24, 25, 26, 27, 28, 29, 30, 31, 32, 33, 34, 35, 36, 37, 38, 39, 40, 41, 42, 43, 44, 45, 46, 47, 48, 49, 50, 51, 52, 53, 54, 55, 56, 57, 58, 59, 60, 61, 62, 63, 64, 65, 66, 67, 68, 69, 70, 71, 72] (by decide +kernel) (by decide +kernel)
set_option maxRecDepth 20000 in
theorem gX7_pairs_X7_layPairing : GoodIn wsX7_pairs (wsV RX7 118 RX7 yX7_layPairing wsX7_layPairing) := goodIn_app (goodIn_of _ (by decide +kernel)) ggX7_pairs_X7_layPairing
theorem dX7_pairs_0 : decode cX7_pairs 0 = .ok (.aload_n 0, 1) := by decide +kernel
theorem dX7_pairs_1 : decode cX7_pairs 1 = .ok (.invokevirtual 118, 3) := by decide +kernel
theorem dX7_pairs_4 : decode cX7_pairs 4 = .ok (.ifCond .ne 5, 3) := by decide +kernel
theorem dX7_pairs_7 : decode cX7_pairs 7 = .ok (.iconst (-1), 1) := by decide +kernel
theorem dX7_pairs_8 : decode cX7_pairs 8 = .ok (.ireturn, 1) := by decide +kernel
theorem dX7_pairs_9 : decode cX7_pairs 9 = .ok (.iconst 0, 1) := by decide +kernel
theorem dX7_pairs_10 : decode cX7_pairs 10 = .ok (.istore_n 1, 1) := by decide +kernel
theorem dX7_pairs_11 : decode cX7_pairs 11 = .ok (.iconst 0, 1) := by decide +kernel
theorem dX7_pairs_12 : decode cX7_pairs 12 = .ok (.istore_n 2, 1) := by decide +kernel
theorem dX7_pairs_13 : decode cX7_pairs 13 = .ok (.iload_n 2, 1) := by decide +kernel
theorem dX7_pairs_14 : decode cX7_pairs 14 = .ok (.bipush 10, 2) := by decide +kernel
theorem dX7_pairs_16 : decode cX7_pairs 16 = .ok (.if_icmp .ge 27, 3) := by decide +kernel
theorem dX7_pairs_19 : decode cX7_pairs 19 = .ok (.iload_n 1, 1) := by decide +kernel
theorem dX7_pairs_20 : decode cX7_pairs 20 = .ok (.aload_n 0, 1) := by decide +kernel
theorem dX7_pairs_21 : decode cX7_pairs 21 = .ok (.getfield 25, 3) := by decide +kernel
theorem dX7_pairs_24 : decode cX7_pairs 24 = .ok (.iload_n 2, 1) := by decide +kernel
theorem dX7_pairs_25 : decode cX7_pairs 25 = .ok (.iaload, 1) := by decide +kernel
theorem dX7_pairs_26 : decode cX7_pairs 26 = .ok (.iload_n 2, 1) := by decide +kernel
theorem dX7_pairs_27 : decode cX7_pairs 27 = .ok (.if_icmp .le 7, 3) := by decide +kernel
theorem dX7_pairs_30 : decode cX7_pairs 30 = .ok (.iconst 1, 1) := by decide +kernel
theorem dX7_pairs_31 : decode cX7_pairs 31 = .ok (.goto 4, 3) := by decide +kernel
theorem dX7_pairs_34 : decode cX7_pairs 34 = .ok (.iconst 0, 1) := by decide +kernel
theorem dX7_pairs_35 : decode cX7_pairs 35 = .ok (.iadd, 1) := by decide +kernel
theorem dX7_pairs_36 : decode cX7_pairs 36 = .ok (.istore_n 1, 1) := by decide +kernel
theorem dX7_pairs_37 : decode cX7_pairs 37 = .ok (.iinc 2 1, 3) := by decide +kernel
theorem dX7_pairs_40 : decode cX7_pairs 40 = .ok (.goto (-27), 3) := by decide +kernel
theorem dX7_pairs_43 : decode cX7_pairs 43 = .ok (.iload_n 1, 1) := by decide +kernel
theorem dX7_pairs_44 : decode cX7_pairs 44 = .ok (.ireturn, 1) := by decide +kernel
theorem dX7_isSolved_0 : decode cX7_isSolved 0 = .ok (.aload_n 0, 1) := by decide +kernel
theorem dX7_isSolved_1 : decode cX7_isSolved 1 = .ok (.getfield 122, 3) := by decide +kernel
theorem dX7_isSolved_4 : decode cX7_isSolved 4 = .ok (.aload_n 0, 1) := by decide +kernel
theorem dX7_isSolved_5 : decode cX7_isSolved 5 = .ok (.getfield 7, 3) := by decide +kernel
theorem dX7_isSolved_8 : decode cX7_isSolved 8 = .ok (.iconst 0, 1) := by decide +kernel
theorem dX7_isSolved_9 : decode cX7_isSolved 9 = .ok (.iaload, 1) := by decide +kernel
theorem dX7_isSolved_10 : decode cX7_isSolved 10 = .ok (.if_icmp .ne 20, 3) := by decide +kernel
theorem dX7_isSolved_13 : decode cX7_isSolved 13 = .ok (.aload_n 0, 1) := by decide +kernel
theorem dX7_isSolved_14 : decode cX7_isSolved 14 = .ok (.getfield 125, 3) := by decide +kernel
theorem dX7_isSolved_17 : decode cX7_isSolved 17 = .ok (.aload_n 0, 1) := by decide +kernel
theorem dX7_isSolved_18 : decode cX7_isSolved 18 = .ok (.getfield 7, 3) := by decide +kernel
theorem dX7_isSolved_21 : decode cX7_isSolved 21 = .ok (.iconst 2, 1) := by decide +kernel
theorem dX7_isSolved_22 : decode cX7_isSolved 22 = .ok (.iaload, 1) := by decide +kernel
theorem dX7_isSolved_23 : decode cX7_isSolved 23 = .ok (.if_icmp .ne 7, 3) := by decide +kernel
theorem dX7_isSolved_26 : decode cX7_isSolved 26 = .ok (.iconst 1, 1) := by decide +kernel
theorem dX7_isSolved_27 : decode cX7_isSolved 27 = .ok (.goto 4, 3) := by decide +kernel
theorem dX7_isSolved_30 : decode cX7_isSolved 30 = .ok (.iconst 0, 1) := by decide +kernel
theorem dX7_isSolved_31 : decode cX7_isSolved 31 = .ok (.istore_n 1, 1) := by decide +kernel
theorem dX7_isSolved_32 : decode cX7_isSolved 32 = .ok (.iconst 0, 1) := by decide +kernel
theorem dX7_isSolved_33 : decode cX7_isSolved 33 = .ok (.istore_n 2, 1) := by decide +kernel
theorem dX7_isSolved_34 : decode cX7_isSolved 34 = .ok (.iload_n 2, 1) := by decide +kernel
theorem dX7_isSolved_35 : decode cX7_isSolved 35 = .ok (.aload_n 0, 1) := by decide +kernel
theorem dX7_isSolved_36 : decode cX7_isSolved 36 = .ok (.getfield 7, 3) := by decide +kernel
theorem dX7_isSolved_39 : decode cX7_isSolved 39 = .ok (.iconst 2, 1) := by decide +kernel
theorem dX7_isSolved_40 : decode cX7_isSolved 40 = .ok (.iaload, 1) := by decide +kernel
theorem dX7_isSolved_41 : decode cX7_isSolved 41 = .ok (.if_icmp .ge 37, 3) := by decide +kernel
theorem dX7_isSolved_44 : decode cX7_isSolved 44 = .ok (.iload_n 1, 1) := by decide +kernel
theorem dX7_isSolved_45 : decode cX7_isSolved 45 = .ok (.ifCond .eq 25, 3) := by decide +kernel
theorem dX7_isSolved_48 : decode cX7_isSolved 48 = .ok (.aload_n 0, 1) := by decide +kernel
theorem dX7_isSolved_49 : decode cX7_isSolved 49 = .ok (.getfield 34, 3) := by decide +kernel
theorem dX7_isSolved_52 : decode cX7_isSolved 52 = .ok (.iload_n 2, 1) := by decide +kernel
theorem dX7_isSolved_53 : decode cX7_isSolved 53 = .ok (.iaload, 1) := by decide +kernel
theorem dX7_isSolved_54 : decode cX7_isSolved 54 = .ok (.aload_n 0, 1) := by decide +kernel
theorem dX7_isSolved_55 : decode cX7_isSolved 55 = .ok (.getfield 7, 3) := by decide +kernel
theorem dX7_isSolved_58 : decode cX7_isSolved 58 = .ok (.bipush 10, 2) := by decide +kernel
theorem dX7_isSolved_60 : decode cX7_isSolved 60 = .ok (.iload_n 2, 1) := by decide +kernel
theorem dX7_isSolved_61 : decode cX7_isSolved 61 = .ok (.iadd, 1) := by decide +kernel
theorem dX7_isSolved_62 : decode cX7_isSolved 62 = .ok (.iaload, 1) := by decide +kernel
theorem dX7_isSolved_63 : decode cX7_isSolved 63 = .ok (.if_icmp .ne 7, 3) := by decide +kernel
theorem dX7_isSolved_66 : decode cX7_isSolved 66 = .ok (.iconst 1, 1) := by decide +kernel
theorem dX7_isSolved_67 : decode cX7_isSolved 67 = .ok (.goto 4, 3) := by decide +kernel
theorem dX7_isSolved_70 : decode cX7_isSolved 70 = .ok (.iconst 0, 1) := by decide +kernel
theorem dX7_isSolved_71 : decode cX7_isSolved 71 = .ok (.istore_n 1, 1) := by decide +kernel
theorem dX7_isSolved_72 : decode cX7_isSolved 72 = .ok (.iinc 2 1, 3) := by decide +kernel
theorem dX7_isSolved_75 : decode cX7_isSolved 75 = .ok (.goto (-41), 3) := by decide +kernel
theorem dX7_isSolved_78 : decode cX7_isSolved 78 = .ok (.iload_n 1, 1) := by decide +kernel
theorem dX7_isSolved_79 : decode cX7_isSolved 79 = .ok (.ireturn, 1) := by decide +kernel
theorem dX7_power_0 : decode cX7_power 0 = .ok (.iconst 1, 1) := by decide +kernel
theorem dX7_power_1 : decode cX7_power 1 = .ok (.istore_n 1, 1) := by decide +kernel
theorem dX7_power_2 : decode cX7_power 2 = .ok (.iconst 0, 1) := by decide +kernel
theorem dX7_power_3 : decode cX7_power 3 = .ok (.istore_n 2, 1) := by decide +kernel
theorem dX7_power_4 : decode cX7_power 4 = .ok (.iload_n 2, 1) := by decide +kernel
theorem dX7_power_5 : decode cX7_power 5 = .ok (.iload_n 0, 1) := by decide +kernel
theorem dX7_power_6 : decode cX7_power 6 = .ok (.if_icmp .ge 13, 3) := by decide +kernel
theorem dX7_power_9 : decode cX7_power 9 = .ok (.iload_n 1, 1) := by decide +kernel
theorem dX7_power_10 : decode cX7_power 10 = .ok (.iconst 3, 1) := by decide +kernel
theorem dX7_power_11 : decode cX7_power 11 = .ok (.imul, 1) := by decide +kernel
theorem dX7_power_12 : decode cX7_power 12 = .ok (.istore_n 1, 1) := by decide +kernel
theorem dX7_power_13 : decode cX7_power 13 = .ok (.iinc 2 1, 3) := by decide +kernel
theorem dX7_power_16 : decode cX7_power 16 = .ok (.goto (-12), 3) := by decide +kernel
theorem dX7_power_19 : decode cX7_power 19 = .ok (.iload_n 1, 1) := by decide +kernel
theorem dX7_power_20 : decode cX7_power 20 = .ok (.ireturn, 1) := by decide +kernel
set_option maxRecDepth 20000 in
theorem ggX7_placeOf_X7_has : GoodIn wsX7_placeOf wsX7_has := goodIn_r _ [6] (by decide +kernel) (by decide +kernel)
set_option maxRecDepth 20000 in
theorem gX7_placeOf_X7_has : GoodIn wsX7_placeOf (va_wsS RX7 89 yX7_has wsX7_has) := goodIn_app (goodIn_of _ (by decide +kernel)) ggX7_placeOf_X7_has
theorem dX7_placeOf_0 : decode cX7_placeOf 0 = .ok (.iconst 0, 1) := by decide +kernel
theorem dX7_placeOf_1 : decode cX7_placeOf 1 = .ok (.istore 4, 2) := by decide +kernel
theorem dX7_placeOf_3 : decode cX7_placeOf 3 = .ok (.aload_n 0, 1) := by decide +kernel
theorem dX7_placeOf_4 : decode cX7_placeOf 4 = .ok (.getfield 7, 3) := by decide +kernel
theorem dX7_placeOf_7 : decode cX7_placeOf 7 = .ok (.iconst 0, 1) := by decide +kernel
theorem dX7_placeOf_8 : decode cX7_placeOf 8 = .ok (.iaload, 1) := by decide +kernel
theorem dX7_placeOf_9 : decode cX7_placeOf 9 = .ok (.iconst 1, 1) := by decide +kernel
theorem dX7_placeOf_10 : decode cX7_placeOf 10 = .ok (.isub, 1) := by decide +kernel
theorem dX7_placeOf_11 : decode cX7_placeOf 11 = .ok (.istore 5, 2) := by decide +kernel
theorem dX7_placeOf_13 : decode cX7_placeOf 13 = .ok (.iload 5, 2) := by decide +kernel
theorem dX7_placeOf_15 : decode cX7_placeOf 15 = .ok (.ifCond .lt 43, 3) := by decide +kernel
theorem dX7_placeOf_18 : decode cX7_placeOf 18 = .ok (.iconst 3, 1) := by decide +kernel
theorem dX7_placeOf_19 : decode cX7_placeOf 19 = .ok (.iload 4, 2) := by decide +kernel
theorem dX7_placeOf_21 : decode cX7_placeOf 21 = .ok (.imul, 1) := by decide +kernel
theorem dX7_placeOf_22 : decode cX7_placeOf 22 = .ok (.iload_n 1, 1) := by decide +kernel
theorem dX7_placeOf_23 : decode cX7_placeOf 23 = .ok (.iload 5, 2) := by decide +kernel
theorem dX7_placeOf_25 : decode cX7_placeOf 25 = .ok (.invokestatic 89, 3) := by decide +kernel
theorem dX7_placeOf_28 : decode cX7_placeOf 28 = .ok (.ifCond .eq 7, 3) := by decide +kernel
theorem dX7_placeOf_31 : decode cX7_placeOf 31 = .ok (.iconst 1, 1) := by decide +kernel
theorem dX7_placeOf_32 : decode cX7_placeOf 32 = .ok (.goto 17, 3) := by decide +kernel
theorem dX7_placeOf_35 : decode cX7_placeOf 35 = .ok (.iload_n 2, 1) := by decide +kernel
theorem dX7_placeOf_36 : decode cX7_placeOf 36 = .ok (.iload 5, 2) := by decide +kernel
theorem dX7_placeOf_38 : decode cX7_placeOf 38 = .ok (.invokestatic 89, 3) := by decide +kernel
theorem dX7_placeOf_41 : decode cX7_placeOf 41 = .ok (.ifCond .eq 7, 3) := by decide +kernel
theorem dX7_placeOf_44 : decode cX7_placeOf 44 = .ok (.iconst 2, 1) := by decide +kernel
theorem dX7_placeOf_45 : decode cX7_placeOf 45 = .ok (.goto 4, 3) := by decide +kernel
theorem dX7_placeOf_48 : decode cX7_placeOf 48 = .ok (.iconst 0, 1) := by decide +kernel
theorem dX7_placeOf_49 : decode cX7_placeOf 49 = .ok (.iadd, 1) := by decide +kernel
theorem dX7_placeOf_50 : decode cX7_placeOf 50 = .ok (.istore 4, 2) := by decide +kernel
theorem dX7_placeOf_52 : decode cX7_placeOf 52 = .ok (.iinc 5 (-1), 3) := by decide +kernel
theorem dX7_placeOf_55 : decode cX7_placeOf 55 = .ok (.goto (-42), 3) := by decide +kernel
theorem dX7_placeOf_58 : decode cX7_placeOf 58 = .ok (.iload 4, 2) := by decide +kernel
theorem dX7_placeOf_60 : decode cX7_placeOf 60 = .ok (.ldc 128, 2) := by decide +kernel
theorem dX7_placeOf_62 : decode cX7_placeOf 62 = .ok (.iload_n 3, 1) := by decide +kernel
theorem dX7_placeOf_63 : decode cX7_placeOf 63 = .ok (.iconst 1, 1) := by decide +kernel
theorem dX7_placeOf_64 : decode cX7_placeOf 64 = .ok (.isub, 1) := by decide +kernel
theorem dX7_placeOf_65 : decode cX7_placeOf 65 = .ok (.imul, 1) := by decide +kernel
theorem dX7_placeOf_66 : decode cX7_placeOf 66 = .ok (.iadd, 1) := by decide +kernel
theorem dX7_placeOf_67 : decode cX7_placeOf 67 = .ok (.ireturn, 1) := by decide +kernel
set_option maxRecDepth 20000 in
theorem ggX7_solveAt_X7_has : GoodIn wsX7_solveAt wsX7_has := goodIn_r _ [8] (by decide +kernel) (by decide +kernel)
set_option maxRecDepth 20000 in
theorem gX7_solveAt_X7_has : GoodIn wsX7_solveAt (va_wsS RX7 89 yX7_has wsX7_has) := goodIn_app (goodIn_of _ (by decide +kernel)) ggX7_solveAt_X7_has
set_option maxRecDepth 20000 in
theorem ggX7_solveAt_X7_ones : GoodIn wsX7_solveAt wsX7_ones := goodIn_r _ [11] (by decide +kernel) (by decide +kernel)
set_option maxRecDepth 20000 in
theorem gX7_solveAt_X7_ones : GoodIn wsX7_solveAt (va_wsS RX7 79 yX7_ones wsX7_ones) := goodIn_app (goodIn_of _ (by decide +kernel)) ggX7_solveAt_X7_ones
theorem dX7_solveAt_0 : decode cX7_solveAt 0 = .ok (.bipush 22, 2) := by decide +kernel
theorem dX7_solveAt_2 : decode cX7_solveAt 2 = .ok (.istore 4, 2) := by decide +kernel
theorem dX7_solveAt_4 : decode cX7_solveAt 4 = .ok (.iconst 0, 1) := by decide +kernel
theorem dX7_solveAt_5 : decode cX7_solveAt 5 = .ok (.istore 5, 2) := by decide +kernel
theorem dX7_solveAt_7 : decode cX7_solveAt 7 = .ok (.iconst 0, 1) := by decide +kernel
theorem dX7_solveAt_8 : decode cX7_solveAt 8 = .ok (.istore 6, 2) := by decide +kernel
theorem dX7_solveAt_10 : decode cX7_solveAt 10 = .ok (.iconst 0, 1) := by decide +kernel
theorem dX7_solveAt_11 : decode cX7_solveAt 11 = .ok (.istore 7, 2) := by decide +kernel
theorem dX7_solveAt_13 : decode cX7_solveAt 13 = .ok (.iload_n 2, 1) := by decide +kernel
theorem dX7_solveAt_14 : decode cX7_solveAt 14 = .ok (.istore 8, 2) := by decide +kernel
theorem dX7_solveAt_16 : decode cX7_solveAt 16 = .ok (.iconst 0, 1) := by decide +kernel
theorem dX7_solveAt_17 : decode cX7_solveAt 17 = .ok (.istore 9, 2) := by decide +kernel
theorem dX7_solveAt_19 : decode cX7_solveAt 19 = .ok (.iload 9, 2) := by decide +kernel
theorem dX7_solveAt_21 : decode cX7_solveAt 21 = .ok (.aload_n 0, 1) := by decide +kernel
theorem dX7_solveAt_22 : decode cX7_solveAt 22 = .ok (.getfield 7, 3) := by decide +kernel
theorem dX7_solveAt_25 : decode cX7_solveAt 25 = .ok (.iconst 0, 1) := by decide +kernel
theorem dX7_solveAt_26 : decode cX7_solveAt 26 = .ok (.iaload, 1) := by decide +kernel
theorem dX7_solveAt_27 : decode cX7_solveAt 27 = .ok (.if_icmp .ge 135, 3) := by decide +kernel
theorem dX7_solveAt_30 : decode cX7_solveAt 30 = .ok (.iload_n 1, 1) := by decide +kernel
theorem dX7_solveAt_31 : decode cX7_solveAt 31 = .ok (.iload 8, 2) := by decide +kernel
theorem dX7_solveAt_33 : decode cX7_solveAt 33 = .ok (.iadd, 1) := by decide +kernel
theorem dX7_solveAt_34 : decode cX7_solveAt 34 = .ok (.ldc 128, 2) := by decide +kernel
theorem dX7_solveAt_36 : decode cX7_solveAt 36 = .ok (.iconst 2, 1) := by decide +kernel
theorem dX7_solveAt_37 : decode cX7_solveAt 37 = .ok (.iload_n 2, 1) := by decide +kernel
theorem dX7_solveAt_38 : decode cX7_solveAt 38 = .ok (.isub, 1) := by decide +kernel
theorem dX7_solveAt_39 : decode cX7_solveAt 39 = .ok (.imul, 1) := by decide +kernel
theorem dX7_solveAt_40 : decode cX7_solveAt 40 = .ok (.iadd, 1) := by decide +kernel
theorem dX7_solveAt_41 : decode cX7_solveAt 41 = .ok (.istore 10, 2) := by decide +kernel
theorem dX7_solveAt_43 : decode cX7_solveAt 43 = .ok (.iload_n 3, 1) := by decide +kernel
theorem dX7_solveAt_44 : decode cX7_solveAt 44 = .ok (.iload 9, 2) := by decide +kernel
theorem dX7_solveAt_46 : decode cX7_solveAt 46 = .ok (.invokestatic 89, 3) := by decide +kernel
theorem dX7_solveAt_49 : decode cX7_solveAt 49 = .ok (.ifCond .eq 69, 3) := by decide +kernel
theorem dX7_solveAt_52 : decode cX7_solveAt 52 = .ok (.aload_n 0, 1) := by decide +kernel
theorem dX7_solveAt_53 : decode cX7_solveAt 53 = .ok (.getfield 38, 3) := by decide +kernel
theorem dX7_solveAt_56 : decode cX7_solveAt 56 = .ok (.iload 10, 2) := by decide +kernel
theorem dX7_solveAt_58 : decode cX7_solveAt 58 = .ok (.iaload, 1) := by decide +kernel
theorem dX7_solveAt_59 : decode cX7_solveAt 59 = .ok (.iconst 1, 1) := by decide +kernel
theorem dX7_solveAt_60 : decode cX7_solveAt 60 = .ok (.if_icmp .ne 58, 3) := by decide +kernel
theorem dX7_solveAt_63 : decode cX7_solveAt 63 = .ok (.iconst 1, 1) := by decide +kernel
theorem dX7_solveAt_64 : decode cX7_solveAt 64 = .ok (.istore 6, 2) := by decide +kernel
theorem dX7_solveAt_66 : decode cX7_solveAt 66 = .ok (.aload_n 0, 1) := by decide +kernel
theorem dX7_solveAt_67 : decode cX7_solveAt 67 = .ok (.getfield 41, 3) := by decide +kernel
theorem dX7_solveAt_70 : decode cX7_solveAt 70 = .ok (.iload 10, 2) := by decide +kernel
theorem dX7_solveAt_72 : decode cX7_solveAt 72 = .ok (.iaload, 1) := by decide +kernel
theorem dX7_solveAt_73 : decode cX7_solveAt 73 = .ok (.iload 4, 2) := by decide +kernel
theorem dX7_solveAt_75 : decode cX7_solveAt 75 = .ok (.if_icmp .ge 13, 3) := by decide +kernel
theorem dX7_solveAt_78 : decode cX7_solveAt 78 = .ok (.aload_n 0, 1) := by decide +kernel
theorem dX7_solveAt_79 : decode cX7_solveAt 79 = .ok (.getfield 41, 3) := by decide +kernel
theorem dX7_solveAt_82 : decode cX7_solveAt 82 = .ok (.iload 10, 2) := by decide +kernel
theorem dX7_solveAt_84 : decode cX7_solveAt 84 = .ok (.iaload, 1) := by decide +kernel
theorem dX7_solveAt_85 : decode cX7_solveAt 85 = .ok (.goto 5, 3) := by decide +kernel
theorem dX7_solveAt_88 : decode cX7_solveAt 88 = .ok (.iload 4, 2) := by decide +kernel
theorem dX7_solveAt_90 : decode cX7_solveAt 90 = .ok (.istore 4, 2) := by decide +kernel
theorem dX7_solveAt_92 : decode cX7_solveAt 92 = .ok (.aload_n 0, 1) := by decide +kernel
theorem dX7_solveAt_93 : decode cX7_solveAt 93 = .ok (.getfield 41, 3) := by decide +kernel
theorem dX7_solveAt_96 : decode cX7_solveAt 96 = .ok (.iload 10, 2) := by decide +kernel
theorem dX7_solveAt_98 : decode cX7_solveAt 98 = .ok (.iaload, 1) := by decide +kernel
theorem dX7_solveAt_99 : decode cX7_solveAt 99 = .ok (.iload 5, 2) := by decide +kernel
theorem dX7_solveAt_101 : decode cX7_solveAt 101 = .ok (.if_icmp .le 13, 3) := by decide +kernel
theorem dX7_solveAt_104 : decode cX7_solveAt 104 = .ok (.aload_n 0, 1) := by decide +kernel
theorem dX7_solveAt_105 : decode cX7_solveAt 105 = .ok (.getfield 41, 3) := by decide +kernel
theorem dX7_solveAt_108 : decode cX7_solveAt 108 = .ok (.iload 10, 2) := by decide +kernel
theorem dX7_solveAt_110 : decode cX7_solveAt 110 = .ok (.iaload, 1) := by decide +kernel
theorem dX7_solveAt_111 : decode cX7_solveAt 111 = .ok (.goto 5, 3) := by decide +kernel
theorem dX7_solveAt_114 : decode cX7_solveAt 114 = .ok (.iload 5, 2) := by decide +kernel
theorem dX7_solveAt_116 : decode cX7_solveAt 116 = .ok (.istore 5, 2) := by decide +kernel
theorem dX7_solveAt_118 : decode cX7_solveAt 118 = .ok (.iload 7, 2) := by decide +kernel
theorem dX7_solveAt_120 : decode cX7_solveAt 120 = .ok (.ifCond .ne 23, 3) := by decide +kernel
theorem dX7_solveAt_123 : decode cX7_solveAt 123 = .ok (.iload_n 3, 1) := by decide +kernel
theorem dX7_solveAt_124 : decode cX7_solveAt 124 = .ok (.iload 9, 2) := by decide +kernel
theorem dX7_solveAt_126 : decode cX7_solveAt 126 = .ok (.invokestatic 89, 3) := by decide +kernel
theorem dX7_solveAt_129 : decode cX7_solveAt 129 = .ok (.ifCond .eq 18, 3) := by decide +kernel
theorem dX7_solveAt_132 : decode cX7_solveAt 132 = .ok (.aload_n 0, 1) := by decide +kernel
theorem dX7_solveAt_133 : decode cX7_solveAt 133 = .ok (.getfield 38, 3) := by decide +kernel
theorem dX7_solveAt_136 : decode cX7_solveAt 136 = .ok (.iload 10, 2) := by decide +kernel
theorem dX7_solveAt_138 : decode cX7_solveAt 138 = .ok (.iaload, 1) := by decide +kernel
theorem dX7_solveAt_139 : decode cX7_solveAt 139 = .ok (.iconst 2, 1) := by decide +kernel
theorem dX7_solveAt_140 : decode cX7_solveAt 140 = .ok (.if_icmp .ne 7, 3) := by decide +kernel
theorem dX7_solveAt_143 : decode cX7_solveAt 143 = .ok (.iconst 1, 1) := by decide +kernel
theorem dX7_solveAt_144 : decode cX7_solveAt 144 = .ok (.goto 4, 3) := by decide +kernel
theorem dX7_solveAt_147 : decode cX7_solveAt 147 = .ok (.iconst 0, 1) := by decide +kernel
theorem dX7_solveAt_148 : decode cX7_solveAt 148 = .ok (.istore 7, 2) := by decide +kernel
theorem dX7_solveAt_150 : decode cX7_solveAt 150 = .ok (.iload 8, 2) := by decide +kernel
theorem dX7_solveAt_152 : decode cX7_solveAt 152 = .ok (.iconst 3, 1) := by decide +kernel
theorem dX7_solveAt_153 : decode cX7_solveAt 153 = .ok (.imul, 1) := by decide +kernel
theorem dX7_solveAt_154 : decode cX7_solveAt 154 = .ok (.istore 8, 2) := by decide +kernel
theorem dX7_solveAt_156 : decode cX7_solveAt 156 = .ok (.iinc 9 1, 3) := by decide +kernel
theorem dX7_solveAt_159 : decode cX7_solveAt 159 = .ok (.goto (-140), 3) := by decide +kernel
theorem dX7_solveAt_162 : decode cX7_solveAt 162 = .ok (.iload_n 1, 1) := by decide +kernel
theorem dX7_solveAt_163 : decode cX7_solveAt 163 = .ok (.ldc 128, 2) := by decide +kernel
theorem dX7_solveAt_165 : decode cX7_solveAt 165 = .ok (.iload_n 2, 1) := by decide +kernel
theorem dX7_solveAt_166 : decode cX7_solveAt 166 = .ok (.iconst 1, 1) := by decide +kernel
theorem dX7_solveAt_167 : decode cX7_solveAt 167 = .ok (.isub, 1) := by decide +kernel
theorem dX7_solveAt_168 : decode cX7_solveAt 168 = .ok (.imul, 1) := by decide +kernel
theorem dX7_solveAt_169 : decode cX7_solveAt 169 = .ok (.iadd, 1) := by decide +kernel
theorem dX7_solveAt_170 : decode cX7_solveAt 170 = .ok (.istore 9, 2) := by decide +kernel
theorem dX7_solveAt_172 : decode cX7_solveAt 172 = .ok (.aload_n 0, 1) := by decide +kernel
theorem dX7_solveAt_173 : decode cX7_solveAt 173 = .ok (.getfield 38, 3) := by decide +kernel
theorem dX7_solveAt_176 : decode cX7_solveAt 176 = .ok (.iload 9, 2) := by decide +kernel
theorem dX7_solveAt_178 : decode cX7_solveAt 178 = .ok (.iload_n 2, 1) := by decide +kernel
theorem dX7_solveAt_179 : decode cX7_solveAt 179 = .ok (.iconst 1, 1) := by decide +kernel
theorem dX7_solveAt_180 : decode cX7_solveAt 180 = .ok (.if_icmp .ne 11, 3) := by decide +kernel
theorem dX7_solveAt_183 : decode cX7_solveAt 183 = .ok (.iload 6, 2) := by decide +kernel
theorem dX7_solveAt_185 : decode cX7_solveAt 185 = .ok (.ifCond .eq 15, 3) := by decide +kernel
theorem dX7_solveAt_188 : decode cX7_solveAt 188 = .ok (.goto 8, 3) := by decide +kernel
theorem dX7_solveAt_191 : decode cX7_solveAt 191 = .ok (.iload 7, 2) := by decide +kernel
theorem dX7_solveAt_193 : decode cX7_solveAt 193 = .ok (.ifCond .ne 7, 3) := by decide +kernel
theorem dX7_solveAt_196 : decode cX7_solveAt 196 = .ok (.iconst 1, 1) := by decide +kernel
theorem dX7_solveAt_197 : decode cX7_solveAt 197 = .ok (.goto 4, 3) := by decide +kernel
theorem dX7_solveAt_200 : decode cX7_solveAt 200 = .ok (.iconst 2, 1) := by decide +kernel
theorem dX7_solveAt_201 : decode cX7_solveAt 201 = .ok (.iastore, 1) := by decide +kernel
theorem dX7_solveAt_202 : decode cX7_solveAt 202 = .ok (.aload_n 0, 1) := by decide +kernel
theorem dX7_solveAt_203 : decode cX7_solveAt 203 = .ok (.getfield 41, 3) := by decide +kernel
theorem dX7_solveAt_206 : decode cX7_solveAt 206 = .ok (.iload 9, 2) := by decide +kernel
theorem dX7_solveAt_208 : decode cX7_solveAt 208 = .ok (.aload_n 0, 1) := by decide +kernel
theorem dX7_solveAt_209 : decode cX7_solveAt 209 = .ok (.getfield 38, 3) := by decide +kernel
theorem dX7_solveAt_212 : decode cX7_solveAt 212 = .ok (.iload 9, 2) := by decide +kernel
theorem dX7_solveAt_214 : decode cX7_solveAt 214 = .ok (.iaload, 1) := by decide +kernel
theorem dX7_solveAt_215 : decode cX7_solveAt 215 = .ok (.iconst 2, 1) := by decide +kernel
theorem dX7_solveAt_216 : decode cX7_solveAt 216 = .ok (.if_icmp .ne 10, 3) := by decide +kernel
theorem dX7_solveAt_219 : decode cX7_solveAt 219 = .ok (.iload_n 3, 1) := by decide +kernel
theorem dX7_solveAt_220 : decode cX7_solveAt 220 = .ok (.invokestatic 79, 3) := by decide +kernel
theorem dX7_solveAt_223 : decode cX7_solveAt 223 = .ok (.goto 17, 3) := by decide +kernel
theorem dX7_solveAt_226 : decode cX7_solveAt 226 = .ok (.iconst 1, 1) := by decide +kernel
theorem dX7_solveAt_227 : decode cX7_solveAt 227 = .ok (.iload_n 2, 1) := by decide +kernel
theorem dX7_solveAt_228 : decode cX7_solveAt 228 = .ok (.iconst 1, 1) := by decide +kernel
theorem dX7_solveAt_229 : decode cX7_solveAt 229 = .ok (.if_icmp .ne 8, 3) := by decide +kernel
theorem dX7_solveAt_232 : decode cX7_solveAt 232 = .ok (.iload 4, 2) := by decide +kernel
theorem dX7_solveAt_234 : decode cX7_solveAt 234 = .ok (.goto 5, 3) := by decide +kernel
theorem dX7_solveAt_237 : decode cX7_solveAt 237 = .ok (.iload 5, 2) := by decide +kernel
theorem dX7_solveAt_239 : decode cX7_solveAt 239 = .ok (.iadd, 1) := by decide +kernel
theorem dX7_solveAt_240 : decode cX7_solveAt 240 = .ok (.iastore, 1) := by decide +kernel
theorem dX7_solveAt_241 : decode cX7_solveAt 241 = .ok (.return_, 1) := by decide +kernel
set_option maxRecDepth 20000 in
theorem ggX7_solveAll_X7_isSolved : GoodIn wsX7_solveAll wsX7_isSolved := goodIn_r _ [12, 2, 1, 3, 4, 30, 31, 32, 33, 34, 35, 36, 37, 38, 39, 40, 41, 42, 43, 44, 45, 46, 47, 48, 49] (by decide +kernel) (by decide +kernel)
set_option maxRecDepth 20000 in
theorem gX7_solveAll_X7_isSolved : GoodIn wsX7_solveAll (wsV RX7 129 RX7 yX7_isSolved wsX7_isSolved) := goodIn_app (goodIn_of _ (by decide +kernel)) ggX7_solveAll_X7_isSolved
set_option maxRecDepth 20000 in
theorem ggX7_solveAll_X7_power : GoodIn wsX7_solveAll wsX7_power := goodIn_r _ [15] (by decide +kernel) (by decide +kernel)
set_option maxRecDepth 20000 in
theorem gX7_solveAll_X7_power : GoodIn wsX7_solveAll (va_wsS RX7 132 yX7_power wsX7_power) := goodIn_app (goodIn_of _ (by decide +kernel)) ggX7_solveAll_X7_power
set_option maxRecDepth 20000 in
theorem ggX7_solveAll_X7_winner : GoodIn wsX7_solveAll wsX7_winner := goodIn_r _ [19, 1, 30, 31, 32, 33, 34, 35, 36, 37, 38, 39, 40, 41, 42, 43, 44, 45, 46, 47, 48, 49] (by decide +kernel) (by decide +kernel)
set_option maxRecDepth 20000 in
theorem gX7_solveAll_X7_winner : GoodIn wsX7_solveAll (wsV RX7 82 RX7 yX7_winner wsX7_winner) := goodIn_app (goodIn_of _ (by decide +kernel)) ggX7_solveAll_X7_winner
set_option maxRecDepth 20000 in
theorem ggX7_solveAll_X7_ones : GoodIn wsX7_solveAll wsX7_ones := goodIn_r _ [22] (by decide +kernel) (by decide +kernel)
set_option maxRecDepth 20000 in
theorem gX7_solveAll_X7_ones : GoodIn wsX7_solveAll (va_wsS RX7 79 yX7_ones wsX7_ones) := goodIn_app (goodIn_of _ (by decide +kernel)) ggX7_solveAll_X7_ones
set_option maxRecDepth 20000 in
theorem ggX7_solveAll_X7_solveAt : GoodIn wsX7_solveAll wsX7_solveAt := goodIn_r _ [26, 1, 6, 5, 7, 27, 28, 11, 29, 20, 21, 22, 30, 31, 32, 33, 34, 35, 36, 37, 38, 39, 40, 41, 42, 43, 44, 45, 46, 47, 48, 49] (by decide +kernel) (by decide +kernel)
set_option maxRecDepth 20000 in
theorem gX7_solveAll_X7_solveAt : GoodIn wsX7_solveAll (wsV RX7 135 RX7 yX7_solveAt wsX7_solveAt) := goodIn_app (goodIn_of _ (by decide +kernel)) ggX7_solveAll_X7_solveAt
theorem dX7_solveAll_0 : decode cX7_solveAll 0 = .ok (.aload_n 0, 1) := by decide +kernel
theorem dX7_solveAll_1 : decode cX7_solveAll 1 = .ok (.invokevirtual 129, 3) := by decide +kernel
theorem dX7_solveAll_4 : decode cX7_solveAll 4 = .ok (.ifCond .eq 4, 3) := by decide +kernel
theorem dX7_solveAll_7 : decode cX7_solveAll 7 = .ok (.return_, 1) := by decide +kernel
theorem dX7_solveAll_8 : decode cX7_solveAll 8 = .ok (.aload_n 0, 1) := by decide +kernel
theorem dX7_solveAll_9 : decode cX7_solveAll 9 = .ok (.aload_n 0, 1) := by decide +kernel
theorem dX7_solveAll_10 : decode cX7_solveAll 10 = .ok (.getfield 7, 3) := by decide +kernel
theorem dX7_solveAll_13 : decode cX7_solveAll 13 = .ok (.iconst 0, 1) := by decide +kernel
theorem dX7_solveAll_14 : decode cX7_solveAll 14 = .ok (.iaload, 1) := by decide +kernel
theorem dX7_solveAll_15 : decode cX7_solveAll 15 = .ok (.putfield 122, 3) := by decide +kernel
theorem dX7_solveAll_18 : decode cX7_solveAll 18 = .ok (.aload_n 0, 1) := by decide +kernel
theorem dX7_solveAll_19 : decode cX7_solveAll 19 = .ok (.aload_n 0, 1) := by decide +kernel
theorem dX7_solveAll_20 : decode cX7_solveAll 20 = .ok (.getfield 7, 3) := by decide +kernel
theorem dX7_solveAll_23 : decode cX7_solveAll 23 = .ok (.iconst 2, 1) := by decide +kernel
theorem dX7_solveAll_24 : decode cX7_solveAll 24 = .ok (.iaload, 1) := by decide +kernel
theorem dX7_solveAll_25 : decode cX7_solveAll 25 = .ok (.putfield 125, 3) := by decide +kernel
theorem dX7_solveAll_28 : decode cX7_solveAll 28 = .ok (.iconst 0, 1) := by decide +kernel
theorem dX7_solveAll_29 : decode cX7_solveAll 29 = .ok (.istore_n 1, 1) := by decide +kernel
theorem dX7_solveAll_30 : decode cX7_solveAll 30 = .ok (.iload_n 1, 1) := by decide +kernel
theorem dX7_solveAll_31 : decode cX7_solveAll 31 = .ok (.aload_n 0, 1) := by decide +kernel
theorem dX7_solveAll_32 : decode cX7_solveAll 32 = .ok (.getfield 7, 3) := by decide +kernel
theorem dX7_solveAll_35 : decode cX7_solveAll 35 = .ok (.iconst 2, 1) := by decide +kernel
theorem dX7_solveAll_36 : decode cX7_solveAll 36 = .ok (.iaload, 1) := by decide +kernel
theorem dX7_solveAll_37 : decode cX7_solveAll 37 = .ok (.if_icmp .ge 24, 3) := by decide +kernel
theorem dX7_solveAll_40 : decode cX7_solveAll 40 = .ok (.aload_n 0, 1) := by decide +kernel
theorem dX7_solveAll_41 : decode cX7_solveAll 41 = .ok (.getfield 34, 3) := by decide +kernel
theorem dX7_solveAll_44 : decode cX7_solveAll 44 = .ok (.iload_n 1, 1) := by decide +kernel
theorem dX7_solveAll_45 : decode cX7_solveAll 45 = .ok (.aload_n 0, 1) := by decide +kernel
theorem dX7_solveAll_46 : decode cX7_solveAll 46 = .ok (.getfield 7, 3) := by decide +kernel
theorem dX7_solveAll_49 : decode cX7_solveAll 49 = .ok (.bipush 10, 2) := by decide +kernel
theorem dX7_solveAll_51 : decode cX7_solveAll 51 = .ok (.iload_n 1, 1) := by decide +kernel
theorem dX7_solveAll_52 : decode cX7_solveAll 52 = .ok (.iadd, 1) := by decide +kernel
theorem dX7_solveAll_53 : decode cX7_solveAll 53 = .ok (.iaload, 1) := by decide +kernel
theorem dX7_solveAll_54 : decode cX7_solveAll 54 = .ok (.iastore, 1) := by decide +kernel
theorem dX7_solveAll_55 : decode cX7_solveAll 55 = .ok (.iinc 1 1, 3) := by decide +kernel
theorem dX7_solveAll_58 : decode cX7_solveAll 58 = .ok (.goto (-28), 3) := by decide +kernel
theorem dX7_solveAll_61 : decode cX7_solveAll 61 = .ok (.aload_n 0, 1) := by decide +kernel
theorem dX7_solveAll_62 : decode cX7_solveAll 62 = .ok (.getfield 7, 3) := by decide +kernel
theorem dX7_solveAll_65 : decode cX7_solveAll 65 = .ok (.iconst 0, 1) := by decide +kernel
theorem dX7_solveAll_66 : decode cX7_solveAll 66 = .ok (.iaload, 1) := by decide +kernel
theorem dX7_solveAll_67 : decode cX7_solveAll 67 = .ok (.invokestatic 132, 3) := by decide +kernel
theorem dX7_solveAll_70 : decode cX7_solveAll 70 = .ok (.iconst 1, 1) := by decide +kernel
theorem dX7_solveAll_71 : decode cX7_solveAll 71 = .ok (.isub, 1) := by decide +kernel
theorem dX7_solveAll_72 : decode cX7_solveAll 72 = .ok (.istore_n 1, 1) := by decide +kernel
theorem dX7_solveAll_73 : decode cX7_solveAll 73 = .ok (.iload_n 1, 1) := by decide +kernel
theorem dX7_solveAll_74 : decode cX7_solveAll 74 = .ok (.ifCond .lt 185, 3) := by decide +kernel
theorem dX7_solveAll_77 : decode cX7_solveAll 77 = .ok (.iconst 0, 1) := by decide +kernel
theorem dX7_solveAll_78 : decode cX7_solveAll 78 = .ok (.istore_n 2, 1) := by decide +kernel
theorem dX7_solveAll_79 : decode cX7_solveAll 79 = .ok (.iconst 0, 1) := by decide +kernel
theorem dX7_solveAll_80 : decode cX7_solveAll 80 = .ok (.istore_n 3, 1) := by decide +kernel
theorem dX7_solveAll_81 : decode cX7_solveAll 81 = .ok (.iload_n 1, 1) := by decide +kernel
theorem dX7_solveAll_82 : decode cX7_solveAll 82 = .ok (.istore 4, 2) := by decide +kernel
theorem dX7_solveAll_84 : decode cX7_solveAll 84 = .ok (.iconst 0, 1) := by decide +kernel
theorem dX7_solveAll_85 : decode cX7_solveAll 85 = .ok (.istore 5, 2) := by decide +kernel
theorem dX7_solveAll_87 : decode cX7_solveAll 87 = .ok (.iload 5, 2) := by decide +kernel
theorem dX7_solveAll_89 : decode cX7_solveAll 89 = .ok (.aload_n 0, 1) := by decide +kernel
theorem dX7_solveAll_90 : decode cX7_solveAll 90 = .ok (.getfield 7, 3) := by decide +kernel
theorem dX7_solveAll_93 : decode cX7_solveAll 93 = .ok (.iconst 0, 1) := by decide +kernel
theorem dX7_solveAll_94 : decode cX7_solveAll 94 = .ok (.iaload, 1) := by decide +kernel
theorem dX7_solveAll_95 : decode cX7_solveAll 95 = .ok (.if_icmp .ge 53, 3) := by decide +kernel
theorem dX7_solveAll_98 : decode cX7_solveAll 98 = .ok (.iload_n 2, 1) := by decide +kernel
theorem dX7_solveAll_99 : decode cX7_solveAll 99 = .ok (.iload 4, 2) := by decide +kernel
theorem dX7_solveAll_101 : decode cX7_solveAll 101 = .ok (.iconst 3, 1) := by decide +kernel
theorem dX7_solveAll_102 : decode cX7_solveAll 102 = .ok (.irem, 1) := by decide +kernel
theorem dX7_solveAll_103 : decode cX7_solveAll 103 = .ok (.iconst 1, 1) := by decide +kernel
theorem dX7_solveAll_104 : decode cX7_solveAll 104 = .ok (.if_icmp .ne 10, 3) := by decide +kernel
theorem dX7_solveAll_107 : decode cX7_solveAll 107 = .ok (.iconst 1, 1) := by decide +kernel
theorem dX7_solveAll_108 : decode cX7_solveAll 108 = .ok (.iload 5, 2) := by decide +kernel
theorem dX7_solveAll_110 : decode cX7_solveAll 110 = .ok (.ishl, 1) := by decide +kernel
theorem dX7_solveAll_111 : decode cX7_solveAll 111 = .ok (.goto 4, 3) := by decide +kernel
theorem dX7_solveAll_114 : decode cX7_solveAll 114 = .ok (.iconst 0, 1) := by decide +kernel
theorem dX7_solveAll_115 : decode cX7_solveAll 115 = .ok (.ior, 1) := by decide +kernel
theorem dX7_solveAll_116 : decode cX7_solveAll 116 = .ok (.istore_n 2, 1) := by decide +kernel
theorem dX7_solveAll_117 : decode cX7_solveAll 117 = .ok (.iload_n 3, 1) := by decide +kernel
theorem dX7_solveAll_118 : decode cX7_solveAll 118 = .ok (.iload 4, 2) := by decide +kernel
theorem dX7_solveAll_120 : decode cX7_solveAll 120 = .ok (.iconst 3, 1) := by decide +kernel
theorem dX7_solveAll_121 : decode cX7_solveAll 121 = .ok (.irem, 1) := by decide +kernel
theorem dX7_solveAll_122 : decode cX7_solveAll 122 = .ok (.iconst 2, 1) := by decide +kernel
theorem dX7_solveAll_123 : decode cX7_solveAll 123 = .ok (.if_icmp .ne 10, 3) := by decide +kernel
theorem dX7_solveAll_126 : decode cX7_solveAll 126 = .ok (.iconst 1, 1) := by decide +kernel
theorem dX7_solveAll_127 : decode cX7_solveAll 127 = .ok (.iload 5, 2) := by decide +kernel
theorem dX7_solveAll_129 : decode cX7_solveAll 129 = .ok (.ishl, 1) := by decide +kernel
theorem dX7_solveAll_130 : decode cX7_solveAll 130 = .ok (.goto 4, 3) := by decide +kernel
theorem dX7_solveAll_133 : decode cX7_solveAll 133 = .ok (.iconst 0, 1) := by decide +kernel
theorem dX7_solveAll_134 : decode cX7_solveAll 134 = .ok (.ior, 1) := by decide +kernel
theorem dX7_solveAll_135 : decode cX7_solveAll 135 = .ok (.istore_n 3, 1) := by decide +kernel
theorem dX7_solveAll_136 : decode cX7_solveAll 136 = .ok (.iload 4, 2) := by decide +kernel
theorem dX7_solveAll_138 : decode cX7_solveAll 138 = .ok (.iconst 3, 1) := by decide +kernel
theorem dX7_solveAll_139 : decode cX7_solveAll 139 = .ok (.idiv, 1) := by decide +kernel
theorem dX7_solveAll_140 : decode cX7_solveAll 140 = .ok (.istore 4, 2) := by decide +kernel
theorem dX7_solveAll_142 : decode cX7_solveAll 142 = .ok (.iinc 5 1, 3) := by decide +kernel
theorem dX7_solveAll_145 : decode cX7_solveAll 145 = .ok (.goto (-58), 3) := by decide +kernel
theorem dX7_solveAll_148 : decode cX7_solveAll 148 = .ok (.aload_n 0, 1) := by decide +kernel
theorem dX7_solveAll_149 : decode cX7_solveAll 149 = .ok (.iload_n 2, 1) := by decide +kernel
theorem dX7_solveAll_150 : decode cX7_solveAll 150 = .ok (.iload_n 3, 1) := by decide +kernel
theorem dX7_solveAll_151 : decode cX7_solveAll 151 = .ok (.invokevirtual 82, 3) := by decide +kernel
theorem dX7_solveAll_154 : decode cX7_solveAll 154 = .ok (.istore 5, 2) := by decide +kernel
theorem dX7_solveAll_156 : decode cX7_solveAll 156 = .ok (.iconst 1, 1) := by decide +kernel
theorem dX7_solveAll_157 : decode cX7_solveAll 157 = .ok (.aload_n 0, 1) := by decide +kernel
theorem dX7_solveAll_158 : decode cX7_solveAll 158 = .ok (.getfield 7, 3) := by decide +kernel
theorem dX7_solveAll_161 : decode cX7_solveAll 161 = .ok (.iconst 0, 1) := by decide +kernel
theorem dX7_solveAll_162 : decode cX7_solveAll 162 = .ok (.iaload, 1) := by decide +kernel
theorem dX7_solveAll_163 : decode cX7_solveAll 163 = .ok (.ishl, 1) := by decide +kernel
theorem dX7_solveAll_164 : decode cX7_solveAll 164 = .ok (.iconst 1, 1) := by decide +kernel
theorem dX7_solveAll_165 : decode cX7_solveAll 165 = .ok (.isub, 1) := by decide +kernel
theorem dX7_solveAll_166 : decode cX7_solveAll 166 = .ok (.iload_n 2, 1) := by decide +kernel
theorem dX7_solveAll_167 : decode cX7_solveAll 167 = .ok (.iconst (-1), 1) := by decide +kernel
theorem dX7_solveAll_168 : decode cX7_solveAll 168 = .ok (.ixor, 1) := by decide +kernel
theorem dX7_solveAll_169 : decode cX7_solveAll 169 = .ok (.iand, 1) := by decide +kernel
theorem dX7_solveAll_170 : decode cX7_solveAll 170 = .ok (.iload_n 3, 1) := by decide +kernel
theorem dX7_solveAll_171 : decode cX7_solveAll 171 = .ok (.iconst (-1), 1) := by decide +kernel
theorem dX7_solveAll_172 : decode cX7_solveAll 172 = .ok (.ixor, 1) := by decide +kernel
theorem dX7_solveAll_173 : decode cX7_solveAll 173 = .ok (.iand, 1) := by decide +kernel
theorem dX7_solveAll_174 : decode cX7_solveAll 174 = .ok (.istore 6, 2) := by decide +kernel
theorem dX7_solveAll_176 : decode cX7_solveAll 176 = .ok (.iconst 1, 1) := by decide +kernel
theorem dX7_solveAll_177 : decode cX7_solveAll 177 = .ok (.istore 7, 2) := by decide +kernel
theorem dX7_solveAll_179 : decode cX7_solveAll 179 = .ok (.iload 7, 2) := by decide +kernel
theorem dX7_solveAll_181 : decode cX7_solveAll 181 = .ok (.iconst 3, 1) := by decide +kernel
theorem dX7_solveAll_182 : decode cX7_solveAll 182 = .ok (.if_icmp .ge 71, 3) := by decide +kernel
theorem dX7_solveAll_185 : decode cX7_solveAll 185 = .ok (.iload 5, 2) := by decide +kernel
theorem dX7_solveAll_187 : decode cX7_solveAll 187 = .ok (.ifCond .le 51, 3) := by decide +kernel
theorem dX7_solveAll_190 : decode cX7_solveAll 190 = .ok (.aload_n 0, 1) := by decide +kernel
theorem dX7_solveAll_191 : decode cX7_solveAll 191 = .ok (.getfield 38, 3) := by decide +kernel
theorem dX7_solveAll_194 : decode cX7_solveAll 194 = .ok (.iload_n 1, 1) := by decide +kernel
theorem dX7_solveAll_195 : decode cX7_solveAll 195 = .ok (.ldc 128, 2) := by decide +kernel
theorem dX7_solveAll_197 : decode cX7_solveAll 197 = .ok (.iload 7, 2) := by decide +kernel
theorem dX7_solveAll_199 : decode cX7_solveAll 199 = .ok (.iconst 1, 1) := by decide +kernel
theorem dX7_solveAll_200 : decode cX7_solveAll 200 = .ok (.isub, 1) := by decide +kernel
theorem dX7_solveAll_201 : decode cX7_solveAll 201 = .ok (.imul, 1) := by decide +kernel
theorem dX7_solveAll_202 : decode cX7_solveAll 202 = .ok (.iadd, 1) := by decide +kernel
theorem dX7_solveAll_203 : decode cX7_solveAll 203 = .ok (.iload 5, 2) := by decide +kernel
theorem dX7_solveAll_205 : decode cX7_solveAll 205 = .ok (.iastore, 1) := by decide +kernel
theorem dX7_solveAll_206 : decode cX7_solveAll 206 = .ok (.aload_n 0, 1) := by decide +kernel
theorem dX7_solveAll_207 : decode cX7_solveAll 207 = .ok (.getfield 41, 3) := by decide +kernel
theorem dX7_solveAll_210 : decode cX7_solveAll 210 = .ok (.iload_n 1, 1) := by decide +kernel
theorem dX7_solveAll_211 : decode cX7_solveAll 211 = .ok (.ldc 128, 2) := by decide +kernel
theorem dX7_solveAll_213 : decode cX7_solveAll 213 = .ok (.iload 7, 2) := by decide +kernel
theorem dX7_solveAll_215 : decode cX7_solveAll 215 = .ok (.iconst 1, 1) := by decide +kernel
theorem dX7_solveAll_216 : decode cX7_solveAll 216 = .ok (.isub, 1) := by decide +kernel
theorem dX7_solveAll_217 : decode cX7_solveAll 217 = .ok (.imul, 1) := by decide +kernel
theorem dX7_solveAll_218 : decode cX7_solveAll 218 = .ok (.iadd, 1) := by decide +kernel
theorem dX7_solveAll_219 : decode cX7_solveAll 219 = .ok (.iload 5, 2) := by decide +kernel
theorem dX7_solveAll_221 : decode cX7_solveAll 221 = .ok (.iconst 1, 1) := by decide +kernel
theorem dX7_solveAll_222 : decode cX7_solveAll 222 = .ok (.if_icmp .ne 7, 3) := by decide +kernel
theorem dX7_solveAll_225 : decode cX7_solveAll 225 = .ok (.iconst 0, 1) := by decide +kernel
theorem dX7_solveAll_226 : decode cX7_solveAll 226 = .ok (.goto 8, 3) := by decide +kernel
theorem dX7_solveAll_229 : decode cX7_solveAll 229 = .ok (.iload 6, 2) := by decide +kernel
theorem dX7_solveAll_231 : decode cX7_solveAll 231 = .ok (.invokestatic 79, 3) := by decide +kernel
theorem dX7_solveAll_234 : decode cX7_solveAll 234 = .ok (.iastore, 1) := by decide +kernel
theorem dX7_solveAll_235 : decode cX7_solveAll 235 = .ok (.goto 12, 3) := by decide +kernel
theorem dX7_solveAll_238 : decode cX7_solveAll 238 = .ok (.aload_n 0, 1) := by decide +kernel
theorem dX7_solveAll_239 : decode cX7_solveAll 239 = .ok (.iload_n 1, 1) := by decide +kernel
theorem dX7_solveAll_240 : decode cX7_solveAll 240 = .ok (.iload 7, 2) := by decide +kernel
theorem dX7_solveAll_242 : decode cX7_solveAll 242 = .ok (.iload 6, 2) := by decide +kernel
theorem dX7_solveAll_244 : decode cX7_solveAll 244 = .ok (.invokevirtual 135, 3) := by decide +kernel
theorem dX7_solveAll_247 : decode cX7_solveAll 247 = .ok (.iinc 7 1, 3) := by decide +kernel
theorem dX7_solveAll_250 : decode cX7_solveAll 250 = .ok (.goto (-71), 3) := by decide +kernel
theorem dX7_solveAll_253 : decode cX7_solveAll 253 = .ok (.iinc 1 (-1), 3) := by decide +kernel
theorem dX7_solveAll_256 : decode cX7_solveAll 256 = .ok (.goto (-183), 3) := by decide +kernel
theorem dX7_solveAll_259 : decode cX7_solveAll 259 = .ok (.return_, 1) := by decide +kernel
set_option maxRecDepth 20000 in
theorem ggX7_placeBehind_X7_maker : GoodIn wsX7_placeBehind wsX7_maker := goodIn_r _ [6, 1, 19, 20, 21, 22, 23, 24, 25, 26, 27, 28, 29, 30, 31, 32, 33, 34, 35, 36, 37, 38] (by decide +kernel) (by decide +kernel)
set_option maxRecDepth 20000 in
theorem gX7_placeBehind_X7_maker : GoodIn wsX7_placeBehind (wsV RX7 61 RX7 yX7_maker wsX7_maker) := goodIn_app (goodIn_of _ (by decide +kernel)) ggX7_placeBehind_X7_maker
set_option maxRecDepth 20000 in
theorem ggX7_placeBehind_X7_breaker : GoodIn wsX7_placeBehind wsX7_breaker := goodIn_r _ [10, 1, 19, 20, 21, 22, 23, 24, 25, 26, 27, 28, 29, 30, 31, 32, 33, 34, 35, 36, 37, 38] (by decide +kernel) (by decide +kernel)
set_option maxRecDepth 20000 in
theorem gX7_placeBehind_X7_breaker : GoodIn wsX7_placeBehind (wsV RX7 65 RX7 yX7_breaker wsX7_breaker) := goodIn_app (goodIn_of _ (by decide +kernel)) ggX7_placeBehind_X7_breaker
set_option maxRecDepth 20000 in
theorem ggX7_placeBehind_X7_placeOf : GoodIn wsX7_placeBehind wsX7_placeOf := goodIn_r _ [14, 1, 15, 16, 17, 5, 18, 19, 20, 21, 22, 23, 24, 25, 26, 27, 28, 29, 30, 31, 32, 33, 34, 35, 36, 37, 38] (by decide +kernel) (by decide +kernel)
set_option maxRecDepth 20000 in
theorem gX7_placeBehind_X7_placeOf : GoodIn wsX7_placeBehind (wsV RX7 139 RX7 yX7_placeOf wsX7_placeOf) := goodIn_app (goodIn_of _ (by decide +kernel)) ggX7_placeBehind_X7_placeOf
theorem dX7_placeBehind_0 : decode cX7_placeBehind 0 = .ok (.iconst 1, 1) := by decide +kernel
theorem dX7_placeBehind_1 : decode cX7_placeBehind 1 = .ok (.iload_n 1, 1) := by decide +kernel
theorem dX7_placeBehind_2 : decode cX7_placeBehind 2 = .ok (.ishl, 1) := by decide +kernel
theorem dX7_placeBehind_3 : decode cX7_placeBehind 3 = .ok (.istore_n 2, 1) := by decide +kernel
theorem dX7_placeBehind_4 : decode cX7_placeBehind 4 = .ok (.aload_n 0, 1) := by decide +kernel
theorem dX7_placeBehind_5 : decode cX7_placeBehind 5 = .ok (.aload_n 0, 1) := by decide +kernel
theorem dX7_placeBehind_6 : decode cX7_placeBehind 6 = .ok (.invokevirtual 61, 3) := by decide +kernel
theorem dX7_placeBehind_9 : decode cX7_placeBehind 9 = .ok (.aload_n 0, 1) := by decide +kernel
theorem dX7_placeBehind_10 : decode cX7_placeBehind 10 = .ok (.getfield 7, 3) := by decide +kernel
theorem dX7_placeBehind_13 : decode cX7_placeBehind 13 = .ok (.iconst 1, 1) := by decide +kernel
theorem dX7_placeBehind_14 : decode cX7_placeBehind 14 = .ok (.iaload, 1) := by decide +kernel
theorem dX7_placeBehind_15 : decode cX7_placeBehind 15 = .ok (.iconst 1, 1) := by decide +kernel
theorem dX7_placeBehind_16 : decode cX7_placeBehind 16 = .ok (.if_icmp .ne 7, 3) := by decide +kernel
theorem dX7_placeBehind_19 : decode cX7_placeBehind 19 = .ok (.iload_n 2, 1) := by decide +kernel
theorem dX7_placeBehind_20 : decode cX7_placeBehind 20 = .ok (.goto 4, 3) := by decide +kernel
theorem dX7_placeBehind_23 : decode cX7_placeBehind 23 = .ok (.iconst 0, 1) := by decide +kernel
theorem dX7_placeBehind_24 : decode cX7_placeBehind 24 = .ok (.ior, 1) := by decide +kernel
theorem dX7_placeBehind_25 : decode cX7_placeBehind 25 = .ok (.aload_n 0, 1) := by decide +kernel
theorem dX7_placeBehind_26 : decode cX7_placeBehind 26 = .ok (.invokevirtual 65, 3) := by decide +kernel
theorem dX7_placeBehind_29 : decode cX7_placeBehind 29 = .ok (.aload_n 0, 1) := by decide +kernel
theorem dX7_placeBehind_30 : decode cX7_placeBehind 30 = .ok (.getfield 7, 3) := by decide +kernel
theorem dX7_placeBehind_33 : decode cX7_placeBehind 33 = .ok (.iconst 1, 1) := by decide +kernel
theorem dX7_placeBehind_34 : decode cX7_placeBehind 34 = .ok (.iaload, 1) := by decide +kernel
theorem dX7_placeBehind_35 : decode cX7_placeBehind 35 = .ok (.iconst 2, 1) := by decide +kernel
theorem dX7_placeBehind_36 : decode cX7_placeBehind 36 = .ok (.if_icmp .ne 7, 3) := by decide +kernel
theorem dX7_placeBehind_39 : decode cX7_placeBehind 39 = .ok (.iload_n 2, 1) := by decide +kernel
theorem dX7_placeBehind_40 : decode cX7_placeBehind 40 = .ok (.goto 4, 3) := by decide +kernel
theorem dX7_placeBehind_43 : decode cX7_placeBehind 43 = .ok (.iconst 0, 1) := by decide +kernel
theorem dX7_placeBehind_44 : decode cX7_placeBehind 44 = .ok (.ior, 1) := by decide +kernel
theorem dX7_placeBehind_45 : decode cX7_placeBehind 45 = .ok (.iconst 3, 1) := by decide +kernel
theorem dX7_placeBehind_46 : decode cX7_placeBehind 46 = .ok (.aload_n 0, 1) := by decide +kernel
theorem dX7_placeBehind_47 : decode cX7_placeBehind 47 = .ok (.getfield 7, 3) := by decide +kernel
theorem dX7_placeBehind_50 : decode cX7_placeBehind 50 = .ok (.iconst 1, 1) := by decide +kernel
theorem dX7_placeBehind_51 : decode cX7_placeBehind 51 = .ok (.iaload, 1) := by decide +kernel
theorem dX7_placeBehind_52 : decode cX7_placeBehind 52 = .ok (.isub, 1) := by decide +kernel
theorem dX7_placeBehind_53 : decode cX7_placeBehind 53 = .ok (.invokevirtual 139, 3) := by decide +kernel
theorem dX7_placeBehind_56 : decode cX7_placeBehind 56 = .ok (.ireturn, 1) := by decide +kernel
set_option maxRecDepth 20000 in
theorem ggX7_bestMove_X7_solveAll : GoodIn wsX7_bestMove wsX7_solveAll := goodIn_r _ [6, 1, 7, 8, 9, 10, 11, 12, 13, 14, 15, 5, 16, 17, 18, 19, 20, 21, 22, 23, 24, 25, 26, 27, 28, 29, 30, 31, 32, 33, 58, 59, 60, 61, 62, 63, 64, 65, 66, 67, 68, 69, 70, 71, 72, 73, 74, 75, 76, 77] (by decide +kernel) (by decide +kernel)
set_option maxRecDepth 20000 in
theorem gX7_bestMove_X7_solveAll : GoodIn wsX7_bestMove (wsV RX7 143 RX7 yX7_solveAll wsX7_solveAll) := goodIn_app (goodIn_of _ (by decide +kernel)) ggX7_bestMove_X7_solveAll
set_option maxRecDepth 20000 in
theorem ggX7_bestMove_X7_free : GoodIn wsX7_bestMove wsX7_free := goodIn_r _ [37, 1, 38, 39, 40, 5, 41, 42, 43, 44, 45, 58, 59, 60, 61, 62, 63, 64, 65, 66, 67, 68, 69, 70, 71, 72, 73, 74, 75, 76, 77] (by decide +kernel) (by decide +kernel)
set_option maxRecDepth 20000 in
theorem gX7_bestMove_X7_free : GoodIn wsX7_bestMove (wsV RX7 68 RX7 yX7_free wsX7_free) := goodIn_app (goodIn_of _ (by decide +kernel)) ggX7_bestMove_X7_free
set_option maxRecDepth 20000 in
theorem ggX7_bestMove_X7_has : GoodIn wsX7_bestMove wsX7_has := goodIn_r _ [33] (by decide +kernel) (by decide +kernel)
set_option maxRecDepth 20000 in
theorem gX7_bestMove_X7_has : GoodIn wsX7_bestMove (va_wsS RX7 89 yX7_has wsX7_has) := goodIn_app (goodIn_of _ (by decide +kernel)) ggX7_bestMove_X7_has
set_option maxRecDepth 20000 in
theorem ggX7_bestMove_X7_isBetter : GoodIn wsX7_bestMove wsX7_isBetter := goodIn_r _ [49, 10, 1, 12, 50, 51, 52, 5, 53, 38, 39, 40, 41, 42, 43, 44, 45, 54, 55, 56, 57, 11, 31, 32, 33, 58, 59, 60, 61, 62, 63, 64, 65, 66, 67, 68, 69, 70, 71, 72, 73, 74, 75, 76, 77] (by decide +kernel) (by decide +kernel)
set_option maxRecDepth 20000 in
theorem gX7_bestMove_X7_isBetter : GoodIn wsX7_bestMove (wsV RX7 146 RX7 yX7_isBetter wsX7_isBetter) := goodIn_app (goodIn_of _ (by decide +kernel)) ggX7_bestMove_X7_isBetter
theorem dX7_bestMove_0 : decode cX7_bestMove 0 = .ok (.aload_n 0, 1) := by decide +kernel
theorem dX7_bestMove_1 : decode cX7_bestMove 1 = .ok (.invokevirtual 143, 3) := by decide +kernel
theorem dX7_bestMove_4 : decode cX7_bestMove 4 = .ok (.iconst (-1), 1) := by decide +kernel
theorem dX7_bestMove_5 : decode cX7_bestMove 5 = .ok (.istore_n 1, 1) := by decide +kernel
theorem dX7_bestMove_6 : decode cX7_bestMove 6 = .ok (.iconst 0, 1) := by decide +kernel
theorem dX7_bestMove_7 : decode cX7_bestMove 7 = .ok (.istore_n 2, 1) := by decide +kernel
theorem dX7_bestMove_8 : decode cX7_bestMove 8 = .ok (.iload_n 2, 1) := by decide +kernel
theorem dX7_bestMove_9 : decode cX7_bestMove 9 = .ok (.aload_n 0, 1) := by decide +kernel
theorem dX7_bestMove_10 : decode cX7_bestMove 10 = .ok (.getfield 7, 3) := by decide +kernel
theorem dX7_bestMove_13 : decode cX7_bestMove 13 = .ok (.iconst 0, 1) := by decide +kernel
theorem dX7_bestMove_14 : decode cX7_bestMove 14 = .ok (.iaload, 1) := by decide +kernel
theorem dX7_bestMove_15 : decode cX7_bestMove 15 = .ok (.if_icmp .ge 40, 3) := by decide +kernel
theorem dX7_bestMove_18 : decode cX7_bestMove 18 = .ok (.aload_n 0, 1) := by decide +kernel
theorem dX7_bestMove_19 : decode cX7_bestMove 19 = .ok (.invokevirtual 68, 3) := by decide +kernel
theorem dX7_bestMove_22 : decode cX7_bestMove 22 = .ok (.iload_n 2, 1) := by decide +kernel
theorem dX7_bestMove_23 : decode cX7_bestMove 23 = .ok (.invokestatic 89, 3) := by decide +kernel
theorem dX7_bestMove_26 : decode cX7_bestMove 26 = .ok (.ifCond .eq 23, 3) := by decide +kernel
theorem dX7_bestMove_29 : decode cX7_bestMove 29 = .ok (.iload_n 1, 1) := by decide +kernel
theorem dX7_bestMove_30 : decode cX7_bestMove 30 = .ok (.iconst (-1), 1) := by decide +kernel
theorem dX7_bestMove_31 : decode cX7_bestMove 31 = .ok (.if_icmp .eq 12, 3) := by decide +kernel
theorem dX7_bestMove_34 : decode cX7_bestMove 34 = .ok (.aload_n 0, 1) := by decide +kernel
theorem dX7_bestMove_35 : decode cX7_bestMove 35 = .ok (.iload_n 2, 1) := by decide +kernel
theorem dX7_bestMove_36 : decode cX7_bestMove 36 = .ok (.iload_n 1, 1) := by decide +kernel
theorem dX7_bestMove_37 : decode cX7_bestMove 37 = .ok (.invokevirtual 146, 3) := by decide +kernel
theorem dX7_bestMove_40 : decode cX7_bestMove 40 = .ok (.ifCond .eq 7, 3) := by decide +kernel
theorem dX7_bestMove_43 : decode cX7_bestMove 43 = .ok (.iload_n 2, 1) := by decide +kernel
theorem dX7_bestMove_44 : decode cX7_bestMove 44 = .ok (.goto 4, 3) := by decide +kernel
theorem dX7_bestMove_47 : decode cX7_bestMove 47 = .ok (.iload_n 1, 1) := by decide +kernel
theorem dX7_bestMove_48 : decode cX7_bestMove 48 = .ok (.istore_n 1, 1) := by decide +kernel
theorem dX7_bestMove_49 : decode cX7_bestMove 49 = .ok (.iinc 2 1, 3) := by decide +kernel
theorem dX7_bestMove_52 : decode cX7_bestMove 52 = .ok (.goto (-44), 3) := by decide +kernel
theorem dX7_bestMove_55 : decode cX7_bestMove 55 = .ok (.iload_n 1, 1) := by decide +kernel
theorem dX7_bestMove_56 : decode cX7_bestMove 56 = .ok (.ireturn, 1) := by decide +kernel
set_option maxRecDepth 20000 in
theorem ggX7_isBetter_X7_placeBehind : GoodIn wsX7_isBetter wsX7_placeBehind := goodIn_r _ [8, 2, 9, 10, 11, 7, 12, 13, 14, 15, 16, 17, 18, 19, 20, 21, 22, 23, 24, 25, 26, 27, 28, 29, 30, 31, 32, 33, 34, 35, 36, 37, 38, 39, 40, 41, 42, 43, 44] (by decide +kernel) (by decide +kernel)
set_option maxRecDepth 20000 in
theorem gX7_isBetter_X7_placeBehind : GoodIn wsX7_isBetter (wsV RX7 149 RX7 yX7_placeBehind wsX7_placeBehind) := goodIn_app (goodIn_of _ (by decide +kernel)) ggX7_isBetter_X7_placeBehind
theorem dX7_isBetter_0 : decode cX7_isBetter 0 = .ok (.aload_n 0, 1) := by decide +kernel
theorem dX7_isBetter_1 : decode cX7_isBetter 1 = .ok (.iload_n 1, 1) := by decide +kernel
theorem dX7_isBetter_2 : decode cX7_isBetter 2 = .ok (.invokevirtual 149, 3) := by decide +kernel
theorem dX7_isBetter_5 : decode cX7_isBetter 5 = .ok (.istore_n 3, 1) := by decide +kernel
theorem dX7_isBetter_6 : decode cX7_isBetter 6 = .ok (.aload_n 0, 1) := by decide +kernel
theorem dX7_isBetter_7 : decode cX7_isBetter 7 = .ok (.iload_n 2, 1) := by decide +kernel
theorem dX7_isBetter_8 : decode cX7_isBetter 8 = .ok (.invokevirtual 149, 3) := by decide +kernel
theorem dX7_isBetter_11 : decode cX7_isBetter 11 = .ok (.istore 4, 2) := by decide +kernel
theorem dX7_isBetter_13 : decode cX7_isBetter 13 = .ok (.aload_n 0, 1) := by decide +kernel
theorem dX7_isBetter_14 : decode cX7_isBetter 14 = .ok (.getfield 38, 3) := by decide +kernel
theorem dX7_isBetter_17 : decode cX7_isBetter 17 = .ok (.iload_n 3, 1) := by decide +kernel
theorem dX7_isBetter_18 : decode cX7_isBetter 18 = .ok (.iaload, 1) := by decide +kernel
theorem dX7_isBetter_19 : decode cX7_isBetter 19 = .ok (.aload_n 0, 1) := by decide +kernel
theorem dX7_isBetter_20 : decode cX7_isBetter 20 = .ok (.getfield 7, 3) := by decide +kernel
theorem dX7_isBetter_23 : decode cX7_isBetter 23 = .ok (.iconst 1, 1) := by decide +kernel
theorem dX7_isBetter_24 : decode cX7_isBetter 24 = .ok (.iaload, 1) := by decide +kernel
theorem dX7_isBetter_25 : decode cX7_isBetter 25 = .ok (.if_icmp .ne 7, 3) := by decide +kernel
theorem dX7_isBetter_28 : decode cX7_isBetter 28 = .ok (.iconst 1, 1) := by decide +kernel
theorem dX7_isBetter_29 : decode cX7_isBetter 29 = .ok (.goto 4, 3) := by decide +kernel
theorem dX7_isBetter_32 : decode cX7_isBetter 32 = .ok (.iconst 0, 1) := by decide +kernel
theorem dX7_isBetter_33 : decode cX7_isBetter 33 = .ok (.istore 5, 2) := by decide +kernel
theorem dX7_isBetter_35 : decode cX7_isBetter 35 = .ok (.aload_n 0, 1) := by decide +kernel
theorem dX7_isBetter_36 : decode cX7_isBetter 36 = .ok (.getfield 38, 3) := by decide +kernel
theorem dX7_isBetter_39 : decode cX7_isBetter 39 = .ok (.iload 4, 2) := by decide +kernel
theorem dX7_isBetter_41 : decode cX7_isBetter 41 = .ok (.iaload, 1) := by decide +kernel
theorem dX7_isBetter_42 : decode cX7_isBetter 42 = .ok (.aload_n 0, 1) := by decide +kernel
theorem dX7_isBetter_43 : decode cX7_isBetter 43 = .ok (.getfield 7, 3) := by decide +kernel
theorem dX7_isBetter_46 : decode cX7_isBetter 46 = .ok (.iconst 1, 1) := by decide +kernel
theorem dX7_isBetter_47 : decode cX7_isBetter 47 = .ok (.iaload, 1) := by decide +kernel
theorem dX7_isBetter_48 : decode cX7_isBetter 48 = .ok (.if_icmp .ne 7, 3) := by decide +kernel
theorem dX7_isBetter_51 : decode cX7_isBetter 51 = .ok (.iconst 1, 1) := by decide +kernel
theorem dX7_isBetter_52 : decode cX7_isBetter 52 = .ok (.goto 4, 3) := by decide +kernel
theorem dX7_isBetter_55 : decode cX7_isBetter 55 = .ok (.iconst 0, 1) := by decide +kernel
theorem dX7_isBetter_56 : decode cX7_isBetter 56 = .ok (.istore 6, 2) := by decide +kernel
theorem dX7_isBetter_58 : decode cX7_isBetter 58 = .ok (.iload 5, 2) := by decide +kernel
theorem dX7_isBetter_60 : decode cX7_isBetter 60 = .ok (.iload 6, 2) := by decide +kernel
theorem dX7_isBetter_62 : decode cX7_isBetter 62 = .ok (.if_icmp .eq 6, 3) := by decide +kernel
theorem dX7_isBetter_65 : decode cX7_isBetter 65 = .ok (.iload 5, 2) := by decide +kernel
theorem dX7_isBetter_67 : decode cX7_isBetter 67 = .ok (.ireturn, 1) := by decide +kernel
theorem dX7_isBetter_68 : decode cX7_isBetter 68 = .ok (.aload_n 0, 1) := by decide +kernel
theorem dX7_isBetter_69 : decode cX7_isBetter 69 = .ok (.getfield 7, 3) := by decide +kernel
theorem dX7_isBetter_72 : decode cX7_isBetter 72 = .ok (.iconst 1, 1) := by decide +kernel
theorem dX7_isBetter_73 : decode cX7_isBetter 73 = .ok (.iaload, 1) := by decide +kernel
theorem dX7_isBetter_74 : decode cX7_isBetter 74 = .ok (.iconst 1, 1) := by decide +kernel
theorem dX7_isBetter_75 : decode cX7_isBetter 75 = .ok (.if_icmp .ne 32, 3) := by decide +kernel
theorem dX7_isBetter_78 : decode cX7_isBetter 78 = .ok (.iload 5, 2) := by decide +kernel
theorem dX7_isBetter_80 : decode cX7_isBetter 80 = .ok (.ifCond .eq 23, 3) := by decide +kernel
theorem dX7_isBetter_83 : decode cX7_isBetter 83 = .ok (.aload_n 0, 1) := by decide +kernel
theorem dX7_isBetter_84 : decode cX7_isBetter 84 = .ok (.getfield 41, 3) := by decide +kernel
theorem dX7_isBetter_87 : decode cX7_isBetter 87 = .ok (.iload_n 3, 1) := by decide +kernel
theorem dX7_isBetter_88 : decode cX7_isBetter 88 = .ok (.iaload, 1) := by decide +kernel
theorem dX7_isBetter_89 : decode cX7_isBetter 89 = .ok (.aload_n 0, 1) := by decide +kernel
theorem dX7_isBetter_90 : decode cX7_isBetter 90 = .ok (.getfield 41, 3) := by decide +kernel
theorem dX7_isBetter_93 : decode cX7_isBetter 93 = .ok (.iload 4, 2) := by decide +kernel
theorem dX7_isBetter_95 : decode cX7_isBetter 95 = .ok (.iaload, 1) := by decide +kernel
theorem dX7_isBetter_96 : decode cX7_isBetter 96 = .ok (.if_icmp .ge 7, 3) := by decide +kernel
theorem dX7_isBetter_99 : decode cX7_isBetter 99 = .ok (.iconst 1, 1) := by decide +kernel
theorem dX7_isBetter_100 : decode cX7_isBetter 100 = .ok (.goto 33, 3) := by decide +kernel
theorem dX7_isBetter_103 : decode cX7_isBetter 103 = .ok (.iconst 0, 1) := by decide +kernel
theorem dX7_isBetter_104 : decode cX7_isBetter 104 = .ok (.goto 29, 3) := by decide +kernel
theorem dX7_isBetter_107 : decode cX7_isBetter 107 = .ok (.iload 5, 2) := by decide +kernel
theorem dX7_isBetter_109 : decode cX7_isBetter 109 = .ok (.ifCond .ne 23, 3) := by decide +kernel
theorem dX7_isBetter_112 : decode cX7_isBetter 112 = .ok (.aload_n 0, 1) := by decide +kernel
theorem dX7_isBetter_113 : decode cX7_isBetter 113 = .ok (.getfield 41, 3) := by decide +kernel
theorem dX7_isBetter_116 : decode cX7_isBetter 116 = .ok (.iload_n 3, 1) := by decide +kernel
theorem dX7_isBetter_117 : decode cX7_isBetter 117 = .ok (.iaload, 1) := by decide +kernel
theorem dX7_isBetter_118 : decode cX7_isBetter 118 = .ok (.aload_n 0, 1) := by decide +kernel
theorem dX7_isBetter_119 : decode cX7_isBetter 119 = .ok (.getfield 41, 3) := by decide +kernel
theorem dX7_isBetter_122 : decode cX7_isBetter 122 = .ok (.iload 4, 2) := by decide +kernel
theorem dX7_isBetter_124 : decode cX7_isBetter 124 = .ok (.iaload, 1) := by decide +kernel
theorem dX7_isBetter_125 : decode cX7_isBetter 125 = .ok (.if_icmp .le 7, 3) := by decide +kernel
theorem dX7_isBetter_128 : decode cX7_isBetter 128 = .ok (.iconst 1, 1) := by decide +kernel
theorem dX7_isBetter_129 : decode cX7_isBetter 129 = .ok (.goto 4, 3) := by decide +kernel
theorem dX7_isBetter_132 : decode cX7_isBetter 132 = .ok (.iconst 0, 1) := by decide +kernel
theorem dX7_isBetter_133 : decode cX7_isBetter 133 = .ok (.ireturn, 1) := by decide +kernel
set_option maxRecDepth 20000 in
theorem ggX7_byDanger_X7_free : GoodIn wsX7_byDanger wsX7_free := goodIn_r _ [6, 1, 7, 8, 9, 5, 10, 11, 12, 13, 14, 37, 38, 39, 40, 41, 42, 43, 44, 45, 46, 47, 48, 49, 50, 51, 52, 53, 54, 55, 56] (by decide +kernel) (by decide +kernel)
set_option maxRecDepth 20000 in
theorem gX7_byDanger_X7_free : GoodIn wsX7_byDanger (wsV RX7 68 RX7 yX7_free wsX7_free) := goodIn_app (goodIn_of _ (by decide +kernel)) ggX7_byDanger_X7_free
set_option maxRecDepth 20000 in
theorem ggX7_byDanger_X7_has : GoodIn wsX7_byDanger wsX7_has := goodIn_r _ [17] (by decide +kernel) (by decide +kernel)
set_option maxRecDepth 20000 in
theorem gX7_byDanger_X7_has : GoodIn wsX7_byDanger (va_wsS RX7 89 yX7_has wsX7_has) := goodIn_app (goodIn_of _ (by decide +kernel)) ggX7_byDanger_X7_has
set_option maxRecDepth 20000 in
theorem ggX7_byDanger_X7_danger : GoodIn wsX7_byDanger wsX7_danger := goodIn_r _ [21, 1, 22, 23, 24, 5, 25, 2, 3, 4, 6, 7, 8, 9, 10, 11, 12, 13, 14, 15, 16, 17, 26, 27, 28, 29, 30, 31, 32, 33, 34, 35, 36, 37, 38, 39, 40, 41, 42, 43, 44, 45, 46, 47, 48, 49, 50, 51, 52, 53, 54, 55, 56] (by decide +kernel) (by decide +kernel)
set_option maxRecDepth 20000 in
theorem gX7_byDanger_X7_danger : GoodIn wsX7_byDanger (wsV RX7 152 RX7 yX7_danger wsX7_danger) := goodIn_app (goodIn_of _ (by decide +kernel)) ggX7_byDanger_X7_danger
theorem dX7_byDanger_0 : decode cX7_byDanger 0 = .ok (.iconst (-1), 1) := by decide +kernel
theorem dX7_byDanger_1 : decode cX7_byDanger 1 = .ok (.istore_n 1, 1) := by decide +kernel
theorem dX7_byDanger_2 : decode cX7_byDanger 2 = .ok (.iconst 0, 1) := by decide +kernel
theorem dX7_byDanger_3 : decode cX7_byDanger 3 = .ok (.istore_n 2, 1) := by decide +kernel
theorem dX7_byDanger_4 : decode cX7_byDanger 4 = .ok (.iload_n 2, 1) := by decide +kernel
theorem dX7_byDanger_5 : decode cX7_byDanger 5 = .ok (.aload_n 0, 1) := by decide +kernel
theorem dX7_byDanger_6 : decode cX7_byDanger 6 = .ok (.getfield 7, 3) := by decide +kernel
theorem dX7_byDanger_9 : decode cX7_byDanger 9 = .ok (.iconst 0, 1) := by decide +kernel
theorem dX7_byDanger_10 : decode cX7_byDanger 10 = .ok (.iaload, 1) := by decide +kernel
theorem dX7_byDanger_11 : decode cX7_byDanger 11 = .ok (.if_icmp .ge 44, 3) := by decide +kernel
theorem dX7_byDanger_14 : decode cX7_byDanger 14 = .ok (.aload_n 0, 1) := by decide +kernel
theorem dX7_byDanger_15 : decode cX7_byDanger 15 = .ok (.invokevirtual 68, 3) := by decide +kernel
theorem dX7_byDanger_18 : decode cX7_byDanger 18 = .ok (.iload_n 2, 1) := by decide +kernel
theorem dX7_byDanger_19 : decode cX7_byDanger 19 = .ok (.invokestatic 89, 3) := by decide +kernel
theorem dX7_byDanger_22 : decode cX7_byDanger 22 = .ok (.ifCond .eq 25, 3) := by decide +kernel
theorem dX7_byDanger_25 : decode cX7_byDanger 25 = .ok (.iload_n 1, 1) := by decide +kernel
theorem dX7_byDanger_26 : decode cX7_byDanger 26 = .ok (.iconst (-1), 1) := by decide +kernel
theorem dX7_byDanger_27 : decode cX7_byDanger 27 = .ok (.if_icmp .eq 16, 3) := by decide +kernel
theorem dX7_byDanger_30 : decode cX7_byDanger 30 = .ok (.aload_n 0, 1) := by decide +kernel
theorem dX7_byDanger_31 : decode cX7_byDanger 31 = .ok (.iload_n 2, 1) := by decide +kernel
theorem dX7_byDanger_32 : decode cX7_byDanger 32 = .ok (.invokevirtual 152, 3) := by decide +kernel
theorem dX7_byDanger_35 : decode cX7_byDanger 35 = .ok (.aload_n 0, 1) := by decide +kernel
theorem dX7_byDanger_36 : decode cX7_byDanger 36 = .ok (.iload_n 1, 1) := by decide +kernel
theorem dX7_byDanger_37 : decode cX7_byDanger 37 = .ok (.invokevirtual 152, 3) := by decide +kernel
theorem dX7_byDanger_40 : decode cX7_byDanger 40 = .ok (.if_icmp .le 7, 3) := by decide +kernel
theorem dX7_byDanger_43 : decode cX7_byDanger 43 = .ok (.iload_n 2, 1) := by decide +kernel
theorem dX7_byDanger_44 : decode cX7_byDanger 44 = .ok (.goto 4, 3) := by decide +kernel
theorem dX7_byDanger_47 : decode cX7_byDanger 47 = .ok (.iload_n 1, 1) := by decide +kernel
theorem dX7_byDanger_48 : decode cX7_byDanger 48 = .ok (.istore_n 1, 1) := by decide +kernel
theorem dX7_byDanger_49 : decode cX7_byDanger 49 = .ok (.iinc 2 1, 3) := by decide +kernel
theorem dX7_byDanger_52 : decode cX7_byDanger 52 = .ok (.goto (-48), 3) := by decide +kernel
theorem dX7_byDanger_55 : decode cX7_byDanger 55 = .ok (.iload_n 1, 1) := by decide +kernel
theorem dX7_byDanger_56 : decode cX7_byDanger 56 = .ok (.ireturn, 1) := by decide +kernel
set_option maxRecDepth 20000 in
theorem ggX7_replyBy_X7_winnerNow : GoodIn wsX7_replyBy wsX7_winnerNow := goodIn_r _ [6, 7, 8, 9, 5, 10, 1, 11, 12, 13, 14, 15, 16, 17, 18, 98, 99, 100, 101, 102, 103, 104, 105, 106, 107, 108, 109, 110, 111, 112, 113, 114, 115, 116, 117] (by decide +kernel) (by decide +kernel)
set_option maxRecDepth 20000 in
theorem gX7_replyBy_X7_winnerNow : GoodIn wsX7_replyBy (wsV RX7 93 RX7 yX7_winnerNow wsX7_winnerNow) := goodIn_app (goodIn_of _ (by decide +kernel)) ggX7_replyBy_X7_winnerNow
set_option maxRecDepth 20000 in
theorem ggX7_replyBy_X7_free : GoodIn wsX7_replyBy wsX7_free := goodIn_r _ [22, 1, 7, 8, 9, 5, 10, 11, 12, 13, 14, 98, 99, 100, 101, 102, 103, 104, 105, 106, 107, 108, 109, 110, 111, 112, 113, 114, 115, 116, 117] (by decide +kernel) (by decide +kernel)
set_option maxRecDepth 20000 in
theorem gX7_replyBy_X7_free : GoodIn wsX7_replyBy (wsV RX7 68 RX7 yX7_free wsX7_free) := goodIn_app (goodIn_of _ (by decide +kernel)) ggX7_replyBy_X7_free
set_option maxRecDepth 20000 in
theorem ggX7_replyBy_X7_lowest : GoodIn wsX7_replyBy wsX7_lowest := goodIn_r _ [26, 27, 28, 5, 29] (by decide +kernel) (by decide +kernel)
set_option maxRecDepth 20000 in
theorem gX7_replyBy_X7_lowest : GoodIn wsX7_replyBy (wsV RX7 99 RX7 yX7_lowest wsX7_lowest) := goodIn_app (goodIn_of _ (by decide +kernel)) ggX7_replyBy_X7_lowest
set_option maxRecDepth 20000 in
theorem ggX7_replyBy_X7_bestMove : GoodIn wsX7_replyBy wsX7_bestMove := goodIn_r _ [33, 1, 34, 35, 36, 5, 37, 38, 39, 40, 41, 42, 43, 44, 45, 46, 47, 48, 49, 50, 15, 16, 17, 18, 51, 52, 53, 54, 55, 56, 57, 27, 28, 29, 19, 20, 21, 22, 7, 8, 9, 10, 11, 12, 13, 14, 58, 59, 60, 61, 62, 63, 64, 65, 66, 67, 68, 69, 98, 99, 100, 101, 102, 103, 104, 105, 106, 107, 108, 109, 110, 111, 112, 113, 114, 115, 116, 117] (by decide +kernel) (by decide +kernel)
set_option maxRecDepth 20000 in
theorem gX7_replyBy_X7_bestMove : GoodIn wsX7_replyBy (wsV RX7 155 RX7 yX7_bestMove wsX7_bestMove) := goodIn_app (goodIn_of _ (by decide +kernel)) ggX7_replyBy_X7_bestMove
set_option maxRecDepth 20000 in
theorem ggX7_replyBy_X7_forced : GoodIn wsX7_replyBy wsX7_forced := goodIn_r _ [73, 2, 3, 4, 5, 6, 7, 8, 9, 10, 1, 11, 12, 13, 14, 15, 16, 17, 18, 74, 75, 76, 77, 78, 79, 80, 81, 82, 83, 84, 85, 19, 20, 21, 22, 51, 52, 53, 23, 24, 25, 26, 27, 28, 29, 98, 99, 100, 101, 102, 103, 104, 105, 106, 107, 108, 109, 110, 111, 112, 113, 114, 115, 116, 117] (by decide +kernel) (by decide +kernel)
set_option maxRecDepth 20000 in
theorem gX7_replyBy_X7_forced : GoodIn wsX7_replyBy (wsV RX7 158 RX7 yX7_forced wsX7_forced) := goodIn_app (goodIn_of _ (by decide +kernel)) ggX7_replyBy_X7_forced
set_option maxRecDepth 20000 in
theorem ggX7_replyBy_X7_byDanger : GoodIn wsX7_replyBy wsX7_byDanger := goodIn_r _ [89, 1, 19, 20, 21, 5, 22, 7, 8, 9, 10, 11, 12, 13, 14, 27, 28, 29, 90, 91, 92, 93, 82, 83, 84, 85, 94, 95, 96, 97, 78, 79, 80, 81, 51, 52, 53, 98, 99, 100, 101, 102, 103, 104, 105, 106, 107, 108, 109, 110, 111, 112, 113, 114, 115, 116, 117] (by decide +kernel) (by decide +kernel)
set_option maxRecDepth 20000 in
theorem gX7_replyBy_X7_byDanger : GoodIn wsX7_replyBy (wsV RX7 161 RX7 yX7_byDanger wsX7_byDanger) := goodIn_app (goodIn_of _ (by decide +kernel)) ggX7_replyBy_X7_byDanger
theorem dX7_replyBy_0 : decode cX7_replyBy 0 = .ok (.aload_n 0, 1) := by decide +kernel
theorem dX7_replyBy_1 : decode cX7_replyBy 1 = .ok (.invokevirtual 93, 3) := by decide +kernel
theorem dX7_replyBy_4 : decode cX7_replyBy 4 = .ok (.ifCond .le 5, 3) := by decide +kernel
theorem dX7_replyBy_7 : decode cX7_replyBy 7 = .ok (.iconst (-1), 1) := by decide +kernel
theorem dX7_replyBy_8 : decode cX7_replyBy 8 = .ok (.ireturn, 1) := by decide +kernel
theorem dX7_replyBy_9 : decode cX7_replyBy 9 = .ok (.iload_n 1, 1) := by decide +kernel
theorem dX7_replyBy_10 : decode cX7_replyBy 10 = .ok (.ifCond .ne 12, 3) := by decide +kernel
theorem dX7_replyBy_13 : decode cX7_replyBy 13 = .ok (.aload_n 0, 1) := by decide +kernel
theorem dX7_replyBy_14 : decode cX7_replyBy 14 = .ok (.aload_n 0, 1) := by decide +kernel
theorem dX7_replyBy_15 : decode cX7_replyBy 15 = .ok (.invokevirtual 68, 3) := by decide +kernel
theorem dX7_replyBy_18 : decode cX7_replyBy 18 = .ok (.invokevirtual 99, 3) := by decide +kernel
theorem dX7_replyBy_21 : decode cX7_replyBy 21 = .ok (.ireturn, 1) := by decide +kernel
theorem dX7_replyBy_22 : decode cX7_replyBy 22 = .ok (.iload_n 1, 1) := by decide +kernel
theorem dX7_replyBy_23 : decode cX7_replyBy 23 = .ok (.iconst 3, 1) := by decide +kernel
theorem dX7_replyBy_24 : decode cX7_replyBy 24 = .ok (.if_icmp .ne 8, 3) := by decide +kernel
theorem dX7_replyBy_27 : decode cX7_replyBy 27 = .ok (.aload_n 0, 1) := by decide +kernel
theorem dX7_replyBy_28 : decode cX7_replyBy 28 = .ok (.invokevirtual 155, 3) := by decide +kernel
theorem dX7_replyBy_31 : decode cX7_replyBy 31 = .ok (.ireturn, 1) := by decide +kernel
theorem dX7_replyBy_32 : decode cX7_replyBy 32 = .ok (.iload_n 1, 1) := by decide +kernel
theorem dX7_replyBy_33 : decode cX7_replyBy 33 = .ok (.iconst 2, 1) := by decide +kernel
theorem dX7_replyBy_34 : decode cX7_replyBy 34 = .ok (.if_icmp .ne 22, 3) := by decide +kernel
theorem dX7_replyBy_37 : decode cX7_replyBy 37 = .ok (.aload_n 0, 1) := by decide +kernel
theorem dX7_replyBy_38 : decode cX7_replyBy 38 = .ok (.getfield 7, 3) := by decide +kernel
theorem dX7_replyBy_41 : decode cX7_replyBy 41 = .ok (.bipush 6, 2) := by decide +kernel
theorem dX7_replyBy_43 : decode cX7_replyBy 43 = .ok (.iaload, 1) := by decide +kernel
theorem dX7_replyBy_44 : decode cX7_replyBy 44 = .ok (.iconst (-1), 1) := by decide +kernel
theorem dX7_replyBy_45 : decode cX7_replyBy 45 = .ok (.if_icmp .eq 11, 3) := by decide +kernel
theorem dX7_replyBy_48 : decode cX7_replyBy 48 = .ok (.aload_n 0, 1) := by decide +kernel
theorem dX7_replyBy_49 : decode cX7_replyBy 49 = .ok (.getfield 7, 3) := by decide +kernel
theorem dX7_replyBy_52 : decode cX7_replyBy 52 = .ok (.bipush 6, 2) := by decide +kernel
theorem dX7_replyBy_54 : decode cX7_replyBy 54 = .ok (.iaload, 1) := by decide +kernel
theorem dX7_replyBy_55 : decode cX7_replyBy 55 = .ok (.ireturn, 1) := by decide +kernel
theorem dX7_replyBy_56 : decode cX7_replyBy 56 = .ok (.aload_n 0, 1) := by decide +kernel
theorem dX7_replyBy_57 : decode cX7_replyBy 57 = .ok (.invokevirtual 158, 3) := by decide +kernel
theorem dX7_replyBy_60 : decode cX7_replyBy 60 = .ok (.iconst (-1), 1) := by decide +kernel
theorem dX7_replyBy_61 : decode cX7_replyBy 61 = .ok (.if_icmp .ne 10, 3) := by decide +kernel
theorem dX7_replyBy_64 : decode cX7_replyBy 64 = .ok (.aload_n 0, 1) := by decide +kernel
theorem dX7_replyBy_65 : decode cX7_replyBy 65 = .ok (.invokevirtual 161, 3) := by decide +kernel
theorem dX7_replyBy_68 : decode cX7_replyBy 68 = .ok (.goto 7, 3) := by decide +kernel
theorem dX7_replyBy_71 : decode cX7_replyBy 71 = .ok (.aload_n 0, 1) := by decide +kernel
theorem dX7_replyBy_72 : decode cX7_replyBy 72 = .ok (.invokevirtual 158, 3) := by decide +kernel
theorem dX7_replyBy_75 : decode cX7_replyBy 75 = .ok (.ireturn, 1) := by decide +kernel
set_option maxRecDepth 20000 in
theorem ggX7_begin_X7_within : GoodIn wsX7_begin wsX7_within := goodIn_r _ [6] (by decide +kernel) (by decide +kernel)
set_option maxRecDepth 20000 in
theorem gX7_begin_X7_within : GoodIn wsX7_begin (va_wsS RX7 57 yX7_within wsX7_within) := goodIn_app (goodIn_of _ (by decide +kernel)) ggX7_begin_X7_within
set_option maxRecDepth 20000 in
theorem ggX7_begin_X7_save : GoodIn wsX7_begin wsX7_save := goodIn_r _ [10, 11, 12, 2, 17, 18, 19, 20, 21, 22, 23, 24, 25, 26, 27, 28, 29, 30, 31, 32, 33, 34, 35, 36] (by decide +kernel) (by decide +kernel)
set_option maxRecDepth 20000 in
theorem gX7_begin_X7_save : GoodIn wsX7_begin (wsV RX7 164 RX7 yX7_save wsX7_save) := goodIn_app (goodIn_of _ (by decide +kernel)) ggX7_begin_X7_save
set_option maxRecDepth 20000 in
theorem ggX7_begin_X7_empties : GoodIn wsX7_begin wsX7_empties := goodIn_r _ [16, 2, 17, 18, 19, 20, 21, 22, 23, 24, 25, 26, 27, 28, 29, 30, 31, 32, 33, 34, 35, 36] (by decide +kernel) (by decide +kernel)
set_option maxRecDepth 20000 in
theorem gX7_begin_X7_empties : GoodIn wsX7_begin (wsV RX7 167 RX7 yX7_empties wsX7_empties) := goodIn_app (goodIn_of _ (by decide +kernel)) ggX7_begin_X7_empties
theorem dX7_begin_0 : decode cX7_begin 0 = .ok (.aload_n 0, 1) := by decide +kernel
theorem dX7_begin_1 : decode cX7_begin 1 = .ok (.iload_n 1, 1) := by decide +kernel
theorem dX7_begin_2 : decode cX7_begin 2 = .ok (.iconst 2, 1) := by decide +kernel
theorem dX7_begin_3 : decode cX7_begin 3 = .ok (.bipush 10, 2) := by decide +kernel
theorem dX7_begin_5 : decode cX7_begin 5 = .ok (.invokestatic 57, 3) := by decide +kernel
theorem dX7_begin_8 : decode cX7_begin 8 = .ok (.ifCond .eq 7, 3) := by decide +kernel
theorem dX7_begin_11 : decode cX7_begin 11 = .ok (.iconst 0, 1) := by decide +kernel
theorem dX7_begin_12 : decode cX7_begin 12 = .ok (.goto 4, 3) := by decide +kernel
theorem dX7_begin_15 : decode cX7_begin 15 = .ok (.iconst 1, 1) := by decide +kernel
theorem dX7_begin_16 : decode cX7_begin 16 = .ok (.putfield 50, 3) := by decide +kernel
theorem dX7_begin_19 : decode cX7_begin 19 = .ok (.aload_n 0, 1) := by decide +kernel
theorem dX7_begin_20 : decode cX7_begin 20 = .ok (.getfield 50, 3) := by decide +kernel
theorem dX7_begin_23 : decode cX7_begin 23 = .ok (.ifCond .le 5, 3) := by decide +kernel
theorem dX7_begin_26 : decode cX7_begin 26 = .ok (.iconst 0, 1) := by decide +kernel
theorem dX7_begin_27 : decode cX7_begin 27 = .ok (.ireturn, 1) := by decide +kernel
theorem dX7_begin_28 : decode cX7_begin 28 = .ok (.aload_n 0, 1) := by decide +kernel
theorem dX7_begin_29 : decode cX7_begin 29 = .ok (.invokevirtual 164, 3) := by decide +kernel
theorem dX7_begin_32 : decode cX7_begin 32 = .ok (.aload_n 0, 1) := by decide +kernel
theorem dX7_begin_33 : decode cX7_begin 33 = .ok (.getfield 7, 3) := by decide +kernel
theorem dX7_begin_36 : decode cX7_begin 36 = .ok (.iconst 0, 1) := by decide +kernel
theorem dX7_begin_37 : decode cX7_begin 37 = .ok (.iaload, 1) := by decide +kernel
theorem dX7_begin_38 : decode cX7_begin 38 = .ok (.istore_n 2, 1) := by decide +kernel
theorem dX7_begin_39 : decode cX7_begin 39 = .ok (.aload_n 0, 1) := by decide +kernel
theorem dX7_begin_40 : decode cX7_begin 40 = .ok (.getfield 7, 3) := by decide +kernel
theorem dX7_begin_43 : decode cX7_begin 43 = .ok (.iconst 0, 1) := by decide +kernel
theorem dX7_begin_44 : decode cX7_begin 44 = .ok (.iload_n 1, 1) := by decide +kernel
theorem dX7_begin_45 : decode cX7_begin 45 = .ok (.iastore, 1) := by decide +kernel
theorem dX7_begin_46 : decode cX7_begin 46 = .ok (.aload_n 0, 1) := by decide +kernel
theorem dX7_begin_47 : decode cX7_begin 47 = .ok (.getfield 7, 3) := by decide +kernel
theorem dX7_begin_50 : decode cX7_begin 50 = .ok (.iconst 2, 1) := by decide +kernel
theorem dX7_begin_51 : decode cX7_begin 51 = .ok (.iconst 0, 1) := by decide +kernel
theorem dX7_begin_52 : decode cX7_begin 52 = .ok (.iastore, 1) := by decide +kernel
theorem dX7_begin_53 : decode cX7_begin 53 = .ok (.aload_n 0, 1) := by decide +kernel
theorem dX7_begin_54 : decode cX7_begin 54 = .ok (.iconst 1, 1) := by decide +kernel
theorem dX7_begin_55 : decode cX7_begin 55 = .ok (.invokevirtual 167, 3) := by decide +kernel
theorem dX7_begin_58 : decode cX7_begin 58 = .ok (.iload_n 2, 1) := by decide +kernel
theorem dX7_begin_59 : decode cX7_begin 59 = .ok (.ireturn, 1) := by decide +kernel
theorem dX7_empties_0 : decode cX7_empties 0 = .ok (.aload_n 0, 1) := by decide +kernel
theorem dX7_empties_1 : decode cX7_empties 1 = .ok (.getfield 7, 3) := by decide +kernel
theorem dX7_empties_4 : decode cX7_empties 4 = .ok (.iconst 1, 1) := by decide +kernel
theorem dX7_empties_5 : decode cX7_empties 5 = .ok (.iload_n 1, 1) := by decide +kernel
theorem dX7_empties_6 : decode cX7_empties 6 = .ok (.iastore, 1) := by decide +kernel
theorem dX7_empties_7 : decode cX7_empties 7 = .ok (.aload_n 0, 1) := by decide +kernel
theorem dX7_empties_8 : decode cX7_empties 8 = .ok (.getfield 7, 3) := by decide +kernel
theorem dX7_empties_11 : decode cX7_empties 11 = .ok (.iconst 3, 1) := by decide +kernel
theorem dX7_empties_12 : decode cX7_empties 12 = .ok (.iconst 0, 1) := by decide +kernel
theorem dX7_empties_13 : decode cX7_empties 13 = .ok (.iastore, 1) := by decide +kernel
theorem dX7_empties_14 : decode cX7_empties 14 = .ok (.aload_n 0, 1) := by decide +kernel
theorem dX7_empties_15 : decode cX7_empties 15 = .ok (.getfield 7, 3) := by decide +kernel
theorem dX7_empties_18 : decode cX7_empties 18 = .ok (.iconst 4, 1) := by decide +kernel
theorem dX7_empties_19 : decode cX7_empties 19 = .ok (.iconst 0, 1) := by decide +kernel
theorem dX7_empties_20 : decode cX7_empties 20 = .ok (.iastore, 1) := by decide +kernel
theorem dX7_empties_21 : decode cX7_empties 21 = .ok (.aload_n 0, 1) := by decide +kernel
theorem dX7_empties_22 : decode cX7_empties 22 = .ok (.getfield 7, 3) := by decide +kernel
theorem dX7_empties_25 : decode cX7_empties 25 = .ok (.iconst 5, 1) := by decide +kernel
theorem dX7_empties_26 : decode cX7_empties 26 = .ok (.iconst (-1), 1) := by decide +kernel
theorem dX7_empties_27 : decode cX7_empties 27 = .ok (.iastore, 1) := by decide +kernel
theorem dX7_empties_28 : decode cX7_empties 28 = .ok (.aload_n 0, 1) := by decide +kernel
theorem dX7_empties_29 : decode cX7_empties 29 = .ok (.getfield 7, 3) := by decide +kernel
theorem dX7_empties_32 : decode cX7_empties 32 = .ok (.bipush 6, 2) := by decide +kernel
theorem dX7_empties_34 : decode cX7_empties 34 = .ok (.iconst (-1), 1) := by decide +kernel
theorem dX7_empties_35 : decode cX7_empties 35 = .ok (.iastore, 1) := by decide +kernel
theorem dX7_empties_36 : decode cX7_empties 36 = .ok (.return_, 1) := by decide +kernel
set_option maxRecDepth 20000 in
theorem ggX7_addLine_X7_within : GoodIn wsX7_addLine wsX7_within := goodIn_r _ [6] (by decide +kernel) (by decide +kernel)
set_option maxRecDepth 20000 in
theorem gX7_addLine_X7_within : GoodIn wsX7_addLine (va_wsS RX7 57 yX7_within wsX7_within) := goodIn_app (goodIn_of _ (by decide +kernel)) ggX7_addLine_X7_within
set_option maxRecDepth 20000 in
theorem ggX7_addLine_X7_save : GoodIn wsX7_addLine wsX7_save := goodIn_r _ [10, 11, 12, 1, 13, 14, 15, 16, 17, 18, 19, 20, 21, 22, 23, 24, 25, 26, 27, 28, 29, 30, 31, 32] (by decide +kernel) (by decide +kernel)
set_option maxRecDepth 20000 in
theorem gX7_addLine_X7_save : GoodIn wsX7_addLine (wsV RX7 164 RX7 yX7_save wsX7_save) := goodIn_app (goodIn_of _ (by decide +kernel)) ggX7_addLine_X7_save
theorem dX7_addLine_0 : decode cX7_addLine 0 = .ok (.aload_n 0, 1) := by decide +kernel
theorem dX7_addLine_1 : decode cX7_addLine 1 = .ok (.iload_n 1, 1) := by decide +kernel
theorem dX7_addLine_2 : decode cX7_addLine 2 = .ok (.iconst 1, 1) := by decide +kernel
theorem dX7_addLine_3 : decode cX7_addLine 3 = .ok (.iconst 1, 1) := by decide +kernel
theorem dX7_addLine_4 : decode cX7_addLine 4 = .ok (.aload_n 0, 1) := by decide +kernel
theorem dX7_addLine_5 : decode cX7_addLine 5 = .ok (.getfield 7, 3) := by decide +kernel
theorem dX7_addLine_8 : decode cX7_addLine 8 = .ok (.iconst 0, 1) := by decide +kernel
theorem dX7_addLine_9 : decode cX7_addLine 9 = .ok (.iaload, 1) := by decide +kernel
theorem dX7_addLine_10 : decode cX7_addLine 10 = .ok (.ishl, 1) := by decide +kernel
theorem dX7_addLine_11 : decode cX7_addLine 11 = .ok (.iconst 1, 1) := by decide +kernel
theorem dX7_addLine_12 : decode cX7_addLine 12 = .ok (.isub, 1) := by decide +kernel
theorem dX7_addLine_13 : decode cX7_addLine 13 = .ok (.invokestatic 57, 3) := by decide +kernel
theorem dX7_addLine_16 : decode cX7_addLine 16 = .ok (.ifCond .ne 7, 3) := by decide +kernel
theorem dX7_addLine_19 : decode cX7_addLine 19 = .ok (.iconst 1, 1) := by decide +kernel
theorem dX7_addLine_20 : decode cX7_addLine 20 = .ok (.goto 19, 3) := by decide +kernel
theorem dX7_addLine_23 : decode cX7_addLine 23 = .ok (.aload_n 0, 1) := by decide +kernel
theorem dX7_addLine_24 : decode cX7_addLine 24 = .ok (.getfield 7, 3) := by decide +kernel
theorem dX7_addLine_27 : decode cX7_addLine 27 = .ok (.iconst 2, 1) := by decide +kernel
theorem dX7_addLine_28 : decode cX7_addLine 28 = .ok (.iaload, 1) := by decide +kernel
theorem dX7_addLine_29 : decode cX7_addLine 29 = .ok (.bipush 12, 2) := by decide +kernel
theorem dX7_addLine_31 : decode cX7_addLine 31 = .ok (.if_icmp .ne 7, 3) := by decide +kernel
theorem dX7_addLine_34 : decode cX7_addLine 34 = .ok (.iconst 2, 1) := by decide +kernel
theorem dX7_addLine_35 : decode cX7_addLine 35 = .ok (.goto 4, 3) := by decide +kernel
theorem dX7_addLine_38 : decode cX7_addLine 38 = .ok (.iconst 0, 1) := by decide +kernel
theorem dX7_addLine_39 : decode cX7_addLine 39 = .ok (.putfield 50, 3) := by decide +kernel
theorem dX7_addLine_42 : decode cX7_addLine 42 = .ok (.aload_n 0, 1) := by decide +kernel
theorem dX7_addLine_43 : decode cX7_addLine 43 = .ok (.getfield 50, 3) := by decide +kernel
theorem dX7_addLine_46 : decode cX7_addLine 46 = .ok (.ifCond .le 5, 3) := by decide +kernel
theorem dX7_addLine_49 : decode cX7_addLine 49 = .ok (.iconst 0, 1) := by decide +kernel
theorem dX7_addLine_50 : decode cX7_addLine 50 = .ok (.ireturn, 1) := by decide +kernel
theorem dX7_addLine_51 : decode cX7_addLine 51 = .ok (.aload_n 0, 1) := by decide +kernel
theorem dX7_addLine_52 : decode cX7_addLine 52 = .ok (.invokevirtual 164, 3) := by decide +kernel
theorem dX7_addLine_55 : decode cX7_addLine 55 = .ok (.aload_n 0, 1) := by decide +kernel
theorem dX7_addLine_56 : decode cX7_addLine 56 = .ok (.getfield 7, 3) := by decide +kernel
theorem dX7_addLine_59 : decode cX7_addLine 59 = .ok (.bipush 10, 2) := by decide +kernel
theorem dX7_addLine_61 : decode cX7_addLine 61 = .ok (.aload_n 0, 1) := by decide +kernel
theorem dX7_addLine_62 : decode cX7_addLine 62 = .ok (.getfield 7, 3) := by decide +kernel
theorem dX7_addLine_65 : decode cX7_addLine 65 = .ok (.iconst 2, 1) := by decide +kernel
theorem dX7_addLine_66 : decode cX7_addLine 66 = .ok (.iaload, 1) := by decide +kernel
theorem dX7_addLine_67 : decode cX7_addLine 67 = .ok (.iadd, 1) := by decide +kernel
theorem dX7_addLine_68 : decode cX7_addLine 68 = .ok (.iload_n 1, 1) := by decide +kernel
theorem dX7_addLine_69 : decode cX7_addLine 69 = .ok (.iastore, 1) := by decide +kernel
theorem dX7_addLine_70 : decode cX7_addLine 70 = .ok (.aload_n 0, 1) := by decide +kernel
theorem dX7_addLine_71 : decode cX7_addLine 71 = .ok (.getfield 7, 3) := by decide +kernel
theorem dX7_addLine_74 : decode cX7_addLine 74 = .ok (.iconst 2, 1) := by decide +kernel
theorem dX7_addLine_75 : decode cX7_addLine 75 = .ok (.dup2, 1) := by decide +kernel
theorem dX7_addLine_76 : decode cX7_addLine 76 = .ok (.iaload, 1) := by decide +kernel
theorem dX7_addLine_77 : decode cX7_addLine 77 = .ok (.iconst 1, 1) := by decide +kernel
theorem dX7_addLine_78 : decode cX7_addLine 78 = .ok (.iadd, 1) := by decide +kernel
theorem dX7_addLine_79 : decode cX7_addLine 79 = .ok (.iastore, 1) := by decide +kernel
theorem dX7_addLine_80 : decode cX7_addLine 80 = .ok (.aload_n 0, 1) := by decide +kernel
theorem dX7_addLine_81 : decode cX7_addLine 81 = .ok (.getfield 7, 3) := by decide +kernel
theorem dX7_addLine_84 : decode cX7_addLine 84 = .ok (.iconst 2, 1) := by decide +kernel
theorem dX7_addLine_85 : decode cX7_addLine 85 = .ok (.iaload, 1) := by decide +kernel
theorem dX7_addLine_86 : decode cX7_addLine 86 = .ok (.iconst 1, 1) := by decide +kernel
theorem dX7_addLine_87 : decode cX7_addLine 87 = .ok (.isub, 1) := by decide +kernel
theorem dX7_addLine_88 : decode cX7_addLine 88 = .ok (.ireturn, 1) := by decide +kernel
set_option maxRecDepth 20000 in
theorem ggX7_removeLine_X7_isLine : GoodIn wsX7_removeLine wsX7_isLine := goodIn_r _ [7, 2, 8, 9, 6, 10, 17, 18, 19, 20, 21, 22, 23, 24, 25, 26, 27, 28, 29, 30, 31, 32, 33, 34, 35, 36] (by decide +kernel) (by decide +kernel)
set_option maxRecDepth 20000 in
theorem gX7_removeLine_X7_isLine : GoodIn wsX7_removeLine (wsV RX7 170 RX7 yX7_isLine wsX7_isLine) := goodIn_app (goodIn_of _ (by decide +kernel)) ggX7_removeLine_X7_isLine
set_option maxRecDepth 20000 in
theorem ggX7_removeLine_X7_save : GoodIn wsX7_removeLine wsX7_save := goodIn_r _ [14, 15, 16, 2, 17, 18, 19, 20, 21, 22, 23, 24, 25, 26, 27, 28, 29, 30, 31, 32, 33, 34, 35, 36] (by decide +kernel) (by decide +kernel)
set_option maxRecDepth 20000 in
theorem gX7_removeLine_X7_save : GoodIn wsX7_removeLine (wsV RX7 164 RX7 yX7_save wsX7_save) := goodIn_app (goodIn_of _ (by decide +kernel)) ggX7_removeLine_X7_save
theorem dX7_removeLine_0 : decode cX7_removeLine 0 = .ok (.aload_n 0, 1) := by decide +kernel
theorem dX7_removeLine_1 : decode cX7_removeLine 1 = .ok (.aload_n 0, 1) := by decide +kernel
theorem dX7_removeLine_2 : decode cX7_removeLine 2 = .ok (.iload_n 1, 1) := by decide +kernel
theorem dX7_removeLine_3 : decode cX7_removeLine 3 = .ok (.invokevirtual 170, 3) := by decide +kernel
theorem dX7_removeLine_6 : decode cX7_removeLine 6 = .ok (.ifCond .eq 7, 3) := by decide +kernel
theorem dX7_removeLine_9 : decode cX7_removeLine 9 = .ok (.iconst 0, 1) := by decide +kernel
theorem dX7_removeLine_10 : decode cX7_removeLine 10 = .ok (.goto 4, 3) := by decide +kernel
theorem dX7_removeLine_13 : decode cX7_removeLine 13 = .ok (.iconst 1, 1) := by decide +kernel
theorem dX7_removeLine_14 : decode cX7_removeLine 14 = .ok (.putfield 50, 3) := by decide +kernel
theorem dX7_removeLine_17 : decode cX7_removeLine 17 = .ok (.aload_n 0, 1) := by decide +kernel
theorem dX7_removeLine_18 : decode cX7_removeLine 18 = .ok (.getfield 50, 3) := by decide +kernel
theorem dX7_removeLine_21 : decode cX7_removeLine 21 = .ok (.ifCond .le 5, 3) := by decide +kernel
theorem dX7_removeLine_24 : decode cX7_removeLine 24 = .ok (.iconst 0, 1) := by decide +kernel
theorem dX7_removeLine_25 : decode cX7_removeLine 25 = .ok (.ireturn, 1) := by decide +kernel
theorem dX7_removeLine_26 : decode cX7_removeLine 26 = .ok (.aload_n 0, 1) := by decide +kernel
theorem dX7_removeLine_27 : decode cX7_removeLine 27 = .ok (.invokevirtual 164, 3) := by decide +kernel
theorem dX7_removeLine_30 : decode cX7_removeLine 30 = .ok (.aload_n 0, 1) := by decide +kernel
theorem dX7_removeLine_31 : decode cX7_removeLine 31 = .ok (.getfield 7, 3) := by decide +kernel
theorem dX7_removeLine_34 : decode cX7_removeLine 34 = .ok (.bipush 10, 2) := by decide +kernel
theorem dX7_removeLine_36 : decode cX7_removeLine 36 = .ok (.iload_n 1, 1) := by decide +kernel
theorem dX7_removeLine_37 : decode cX7_removeLine 37 = .ok (.iadd, 1) := by decide +kernel
theorem dX7_removeLine_38 : decode cX7_removeLine 38 = .ok (.iaload, 1) := by decide +kernel
theorem dX7_removeLine_39 : decode cX7_removeLine 39 = .ok (.istore_n 2, 1) := by decide +kernel
theorem dX7_removeLine_40 : decode cX7_removeLine 40 = .ok (.aload_n 0, 1) := by decide +kernel
theorem dX7_removeLine_41 : decode cX7_removeLine 41 = .ok (.getfield 7, 3) := by decide +kernel
theorem dX7_removeLine_44 : decode cX7_removeLine 44 = .ok (.iconst 2, 1) := by decide +kernel
theorem dX7_removeLine_45 : decode cX7_removeLine 45 = .ok (.dup2, 1) := by decide +kernel
theorem dX7_removeLine_46 : decode cX7_removeLine 46 = .ok (.iaload, 1) := by decide +kernel
theorem dX7_removeLine_47 : decode cX7_removeLine 47 = .ok (.iconst 1, 1) := by decide +kernel
theorem dX7_removeLine_48 : decode cX7_removeLine 48 = .ok (.isub, 1) := by decide +kernel
theorem dX7_removeLine_49 : decode cX7_removeLine 49 = .ok (.iastore, 1) := by decide +kernel
theorem dX7_removeLine_50 : decode cX7_removeLine 50 = .ok (.iload_n 1, 1) := by decide +kernel
theorem dX7_removeLine_51 : decode cX7_removeLine 51 = .ok (.istore_n 3, 1) := by decide +kernel
theorem dX7_removeLine_52 : decode cX7_removeLine 52 = .ok (.iload_n 3, 1) := by decide +kernel
theorem dX7_removeLine_53 : decode cX7_removeLine 53 = .ok (.aload_n 0, 1) := by decide +kernel
theorem dX7_removeLine_54 : decode cX7_removeLine 54 = .ok (.getfield 7, 3) := by decide +kernel
theorem dX7_removeLine_57 : decode cX7_removeLine 57 = .ok (.iconst 2, 1) := by decide +kernel
theorem dX7_removeLine_58 : decode cX7_removeLine 58 = .ok (.iaload, 1) := by decide +kernel
theorem dX7_removeLine_59 : decode cX7_removeLine 59 = .ok (.if_icmp .ge 29, 3) := by decide +kernel
theorem dX7_removeLine_62 : decode cX7_removeLine 62 = .ok (.aload_n 0, 1) := by decide +kernel
theorem dX7_removeLine_63 : decode cX7_removeLine 63 = .ok (.getfield 7, 3) := by decide +kernel
theorem dX7_removeLine_66 : decode cX7_removeLine 66 = .ok (.bipush 10, 2) := by decide +kernel
theorem dX7_removeLine_68 : decode cX7_removeLine 68 = .ok (.iload_n 3, 1) := by decide +kernel
theorem dX7_removeLine_69 : decode cX7_removeLine 69 = .ok (.iadd, 1) := by decide +kernel
theorem dX7_removeLine_70 : decode cX7_removeLine 70 = .ok (.aload_n 0, 1) := by decide +kernel
theorem dX7_removeLine_71 : decode cX7_removeLine 71 = .ok (.getfield 7, 3) := by decide +kernel
theorem dX7_removeLine_74 : decode cX7_removeLine 74 = .ok (.bipush 10, 2) := by decide +kernel
theorem dX7_removeLine_76 : decode cX7_removeLine 76 = .ok (.iload_n 3, 1) := by decide +kernel
theorem dX7_removeLine_77 : decode cX7_removeLine 77 = .ok (.iadd, 1) := by decide +kernel
theorem dX7_removeLine_78 : decode cX7_removeLine 78 = .ok (.iconst 1, 1) := by decide +kernel
theorem dX7_removeLine_79 : decode cX7_removeLine 79 = .ok (.iadd, 1) := by decide +kernel
theorem dX7_removeLine_80 : decode cX7_removeLine 80 = .ok (.iaload, 1) := by decide +kernel
theorem dX7_removeLine_81 : decode cX7_removeLine 81 = .ok (.iastore, 1) := by decide +kernel
theorem dX7_removeLine_82 : decode cX7_removeLine 82 = .ok (.iinc 3 1, 3) := by decide +kernel
theorem dX7_removeLine_85 : decode cX7_removeLine 85 = .ok (.goto (-33), 3) := by decide +kernel
theorem dX7_removeLine_88 : decode cX7_removeLine 88 = .ok (.iload_n 2, 1) := by decide +kernel
theorem dX7_removeLine_89 : decode cX7_removeLine 89 = .ok (.ireturn, 1) := by decide +kernel
set_option maxRecDepth 20000 in
theorem ggX7_clear_X7_save : GoodIn wsX7_clear wsX7_save := goodIn_r _ [6, 7, 8, 9, 25, 26, 27, 28, 29, 30, 31, 32, 33, 34, 35, 36, 37, 38, 39, 40, 41, 42, 43, 44] (by decide +kernel) (by decide +kernel)
set_option maxRecDepth 20000 in
theorem gX7_clear_X7_save : GoodIn wsX7_clear (wsV RX7 164 RX7 yX7_save wsX7_save) := goodIn_app (goodIn_of _ (by decide +kernel)) ggX7_clear_X7_save
set_option maxRecDepth 20000 in
theorem ggX7_clear_X7_maker : GoodIn wsX7_clear wsX7_maker := goodIn_r _ [13, 9, 25, 26, 27, 28, 29, 30, 31, 32, 33, 34, 35, 36, 37, 38, 39, 40, 41, 42, 43, 44] (by decide +kernel) (by decide +kernel)
set_option maxRecDepth 20000 in
theorem gX7_clear_X7_maker : GoodIn wsX7_clear (wsV RX7 61 RX7 yX7_maker wsX7_maker) := goodIn_app (goodIn_of _ (by decide +kernel)) ggX7_clear_X7_maker
set_option maxRecDepth 20000 in
theorem ggX7_clear_X7_breaker : GoodIn wsX7_clear wsX7_breaker := goodIn_r _ [17, 9, 25, 26, 27, 28, 29, 30, 31, 32, 33, 34, 35, 36, 37, 38, 39, 40, 41, 42, 43, 44] (by decide +kernel) (by decide +kernel)
set_option maxRecDepth 20000 in
theorem gX7_clear_X7_breaker : GoodIn wsX7_clear (wsV RX7 65 RX7 yX7_breaker wsX7_breaker) := goodIn_app (goodIn_of _ (by decide +kernel)) ggX7_clear_X7_breaker
set_option maxRecDepth 20000 in
theorem ggX7_clear_X7_ones : GoodIn wsX7_clear wsX7_ones := goodIn_r _ [20] (by decide +kernel) (by decide +kernel)
set_option maxRecDepth 20000 in
theorem gX7_clear_X7_ones : GoodIn wsX7_clear (va_wsS RX7 79 yX7_ones wsX7_ones) := goodIn_app (goodIn_of _ (by decide +kernel)) ggX7_clear_X7_ones
set_option maxRecDepth 20000 in
theorem ggX7_clear_X7_empties : GoodIn wsX7_clear wsX7_empties := goodIn_r _ [24, 9, 25, 26, 27, 28, 29, 30, 31, 32, 33, 34, 35, 36, 37, 38, 39, 40, 41, 42, 43, 44] (by decide +kernel) (by decide +kernel)
set_option maxRecDepth 20000 in
theorem gX7_clear_X7_empties : GoodIn wsX7_clear (wsV RX7 167 RX7 yX7_empties wsX7_empties) := goodIn_app (goodIn_of _ (by decide +kernel)) ggX7_clear_X7_empties
theorem dX7_clear_0 : decode cX7_clear 0 = .ok (.aload_n 0, 1) := by decide +kernel
theorem dX7_clear_1 : decode cX7_clear 1 = .ok (.iconst 0, 1) := by decide +kernel
theorem dX7_clear_2 : decode cX7_clear 2 = .ok (.putfield 50, 3) := by decide +kernel
theorem dX7_clear_5 : decode cX7_clear 5 = .ok (.aload_n 0, 1) := by decide +kernel
theorem dX7_clear_6 : decode cX7_clear 6 = .ok (.invokevirtual 164, 3) := by decide +kernel
theorem dX7_clear_9 : decode cX7_clear 9 = .ok (.aload_n 0, 1) := by decide +kernel
theorem dX7_clear_10 : decode cX7_clear 10 = .ok (.invokevirtual 61, 3) := by decide +kernel
theorem dX7_clear_13 : decode cX7_clear 13 = .ok (.aload_n 0, 1) := by decide +kernel
theorem dX7_clear_14 : decode cX7_clear 14 = .ok (.invokevirtual 65, 3) := by decide +kernel
theorem dX7_clear_17 : decode cX7_clear 17 = .ok (.ior, 1) := by decide +kernel
theorem dX7_clear_18 : decode cX7_clear 18 = .ok (.invokestatic 79, 3) := by decide +kernel
theorem dX7_clear_21 : decode cX7_clear 21 = .ok (.istore_n 2, 1) := by decide +kernel
theorem dX7_clear_22 : decode cX7_clear 22 = .ok (.aload_n 0, 1) := by decide +kernel
theorem dX7_clear_23 : decode cX7_clear 23 = .ok (.iload_n 1, 1) := by decide +kernel
theorem dX7_clear_24 : decode cX7_clear 24 = .ok (.ifCond .eq 7, 3) := by decide +kernel
theorem dX7_clear_27 : decode cX7_clear 27 = .ok (.iconst 1, 1) := by decide +kernel
theorem dX7_clear_28 : decode cX7_clear 28 = .ok (.goto 4, 3) := by decide +kernel
theorem dX7_clear_31 : decode cX7_clear 31 = .ok (.iconst 2, 1) := by decide +kernel
theorem dX7_clear_32 : decode cX7_clear 32 = .ok (.invokevirtual 167, 3) := by decide +kernel
theorem dX7_clear_35 : decode cX7_clear 35 = .ok (.iload_n 2, 1) := by decide +kernel
theorem dX7_clear_36 : decode cX7_clear 36 = .ok (.ireturn, 1) := by decide +kernel
set_option maxRecDepth 20000 in
theorem ggX7_moves_X7_partnerOf : GoodIn wsX7_moves wsX7_partnerOf := goodIn_r _ [6, 7, 8, 9, 10, 5, 11, 1, 12, 13, 14, 15, 16, 17, 18, 19, 20, 21, 22, 23, 24, 25, 26, 27, 28, 29, 30, 31, 32, 33, 34, 35, 36, 37, 38, 39, 40, 41, 42, 43, 44, 45, 46, 47, 48, 49, 50, 51, 52, 53, 54, 55, 56, 65, 66, 67, 68, 69, 70, 71, 72, 73, 74, 75, 76, 77, 78, 79, 80, 81, 82, 83, 84] (by decide +kernel) (by decide +kernel)
set_option maxRecDepth 20000 in
theorem gX7_moves_X7_partnerOf : GoodIn wsX7_moves (wsV RX7 173 RX7 yX7_partnerOf wsX7_partnerOf) := goodIn_app (goodIn_of _ (by decide +kernel)) ggX7_moves_X7_partnerOf
set_option maxRecDepth 20000 in
theorem ggX7_moves_X7_winnerNow : GoodIn wsX7_moves wsX7_winnerNow := goodIn_r _ [60, 49, 50, 51, 5, 52, 1, 17, 18, 19, 20, 61, 62, 63, 64, 65, 66, 67, 68, 69, 70, 71, 72, 73, 74, 75, 76, 77, 78, 79, 80, 81, 82, 83, 84] (by decide +kernel) (by decide +kernel)
set_option maxRecDepth 20000 in
theorem gX7_moves_X7_winnerNow : GoodIn wsX7_moves (wsV RX7 93 RX7 yX7_winnerNow wsX7_winnerNow) := goodIn_app (goodIn_of _ (by decide +kernel)) ggX7_moves_X7_winnerNow
theorem dX7_moves_0 : decode cX7_moves 0 = .ok (.aload_n 0, 1) := by decide +kernel
theorem dX7_moves_1 : decode cX7_moves 1 = .ok (.getfield 7, 3) := by decide +kernel
theorem dX7_moves_4 : decode cX7_moves 4 = .ok (.bipush 6, 2) := by decide +kernel
theorem dX7_moves_6 : decode cX7_moves 6 = .ok (.aload_n 0, 1) := by decide +kernel
theorem dX7_moves_7 : decode cX7_moves 7 = .ok (.iload_n 1, 1) := by decide +kernel
theorem dX7_moves_8 : decode cX7_moves 8 = .ok (.invokevirtual 173, 3) := by decide +kernel
theorem dX7_moves_11 : decode cX7_moves 11 = .ok (.iastore, 1) := by decide +kernel
theorem dX7_moves_12 : decode cX7_moves 12 = .ok (.aload_n 0, 1) := by decide +kernel
theorem dX7_moves_13 : decode cX7_moves 13 = .ok (.getfield 7, 3) := by decide +kernel
theorem dX7_moves_16 : decode cX7_moves 16 = .ok (.iconst 2, 1) := by decide +kernel
theorem dX7_moves_17 : decode cX7_moves 17 = .ok (.aload_n 0, 1) := by decide +kernel
theorem dX7_moves_18 : decode cX7_moves 18 = .ok (.getfield 7, 3) := by decide +kernel
theorem dX7_moves_21 : decode cX7_moves 21 = .ok (.iconst 1, 1) := by decide +kernel
theorem dX7_moves_22 : decode cX7_moves 22 = .ok (.iaload, 1) := by decide +kernel
theorem dX7_moves_23 : decode cX7_moves 23 = .ok (.iadd, 1) := by decide +kernel
theorem dX7_moves_24 : decode cX7_moves 24 = .ok (.dup2, 1) := by decide +kernel
theorem dX7_moves_25 : decode cX7_moves 25 = .ok (.iaload, 1) := by decide +kernel
theorem dX7_moves_26 : decode cX7_moves 26 = .ok (.iconst 1, 1) := by decide +kernel
theorem dX7_moves_27 : decode cX7_moves 27 = .ok (.iload_n 1, 1) := by decide +kernel
theorem dX7_moves_28 : decode cX7_moves 28 = .ok (.ishl, 1) := by decide +kernel
theorem dX7_moves_29 : decode cX7_moves 29 = .ok (.ior, 1) := by decide +kernel
theorem dX7_moves_30 : decode cX7_moves 30 = .ok (.iastore, 1) := by decide +kernel
theorem dX7_moves_31 : decode cX7_moves 31 = .ok (.aload_n 0, 1) := by decide +kernel
theorem dX7_moves_32 : decode cX7_moves 32 = .ok (.getfield 7, 3) := by decide +kernel
theorem dX7_moves_35 : decode cX7_moves 35 = .ok (.iconst 5, 1) := by decide +kernel
theorem dX7_moves_36 : decode cX7_moves 36 = .ok (.iload_n 1, 1) := by decide +kernel
theorem dX7_moves_37 : decode cX7_moves 37 = .ok (.iastore, 1) := by decide +kernel
theorem dX7_moves_38 : decode cX7_moves 38 = .ok (.aload_n 0, 1) := by decide +kernel
theorem dX7_moves_39 : decode cX7_moves 39 = .ok (.getfield 7, 3) := by decide +kernel
theorem dX7_moves_42 : decode cX7_moves 42 = .ok (.iconst 1, 1) := by decide +kernel
theorem dX7_moves_43 : decode cX7_moves 43 = .ok (.iconst 3, 1) := by decide +kernel
theorem dX7_moves_44 : decode cX7_moves 44 = .ok (.aload_n 0, 1) := by decide +kernel
theorem dX7_moves_45 : decode cX7_moves 45 = .ok (.getfield 7, 3) := by decide +kernel
theorem dX7_moves_48 : decode cX7_moves 48 = .ok (.iconst 1, 1) := by decide +kernel
theorem dX7_moves_49 : decode cX7_moves 49 = .ok (.iaload, 1) := by decide +kernel
theorem dX7_moves_50 : decode cX7_moves 50 = .ok (.isub, 1) := by decide +kernel
theorem dX7_moves_51 : decode cX7_moves 51 = .ok (.iastore, 1) := by decide +kernel
theorem dX7_moves_52 : decode cX7_moves 52 = .ok (.aload_n 0, 1) := by decide +kernel
theorem dX7_moves_53 : decode cX7_moves 53 = .ok (.getfield 7, 3) := by decide +kernel
theorem dX7_moves_56 : decode cX7_moves 56 = .ok (.bipush 7, 2) := by decide +kernel
theorem dX7_moves_58 : decode cX7_moves 58 = .ok (.dup2, 1) := by decide +kernel
theorem dX7_moves_59 : decode cX7_moves 59 = .ok (.iaload, 1) := by decide +kernel
theorem dX7_moves_60 : decode cX7_moves 60 = .ok (.iconst 1, 1) := by decide +kernel
theorem dX7_moves_61 : decode cX7_moves 61 = .ok (.iadd, 1) := by decide +kernel
theorem dX7_moves_62 : decode cX7_moves 62 = .ok (.iastore, 1) := by decide +kernel
theorem dX7_moves_63 : decode cX7_moves 63 = .ok (.aload_n 0, 1) := by decide +kernel
theorem dX7_moves_64 : decode cX7_moves 64 = .ok (.invokevirtual 93, 3) := by decide +kernel
theorem dX7_moves_67 : decode cX7_moves 67 = .ok (.istore_n 2, 1) := by decide +kernel
theorem dX7_moves_68 : decode cX7_moves 68 = .ok (.iload_n 2, 1) := by decide +kernel
theorem dX7_moves_69 : decode cX7_moves 69 = .ok (.ifCond .le 16, 3) := by decide +kernel
theorem dX7_moves_72 : decode cX7_moves 72 = .ok (.aload_n 0, 1) := by decide +kernel
theorem dX7_moves_73 : decode cX7_moves 73 = .ok (.getfield 7, 3) := by decide +kernel
theorem dX7_moves_76 : decode cX7_moves 76 = .ok (.bipush 7, 2) := by decide +kernel
theorem dX7_moves_78 : decode cX7_moves 78 = .ok (.iload_n 2, 1) := by decide +kernel
theorem dX7_moves_79 : decode cX7_moves 79 = .ok (.iadd, 1) := by decide +kernel
theorem dX7_moves_80 : decode cX7_moves 80 = .ok (.dup2, 1) := by decide +kernel
theorem dX7_moves_81 : decode cX7_moves 81 = .ok (.iaload, 1) := by decide +kernel
theorem dX7_moves_82 : decode cX7_moves 82 = .ok (.iconst 1, 1) := by decide +kernel
theorem dX7_moves_83 : decode cX7_moves 83 = .ok (.iadd, 1) := by decide +kernel
theorem dX7_moves_84 : decode cX7_moves 84 = .ok (.iastore, 1) := by decide +kernel
theorem dX7_moves_85 : decode cX7_moves 85 = .ok (.return_, 1) := by decide +kernel
set_option maxRecDepth 20000 in
theorem ggX7_move_X7_isCell : GoodIn wsX7_move wsX7_isCell := goodIn_r _ [6, 7, 8, 9, 5, 10, 83, 84, 85, 86, 87, 88, 89, 90, 91, 92, 93, 94, 95, 96, 97, 98, 99, 100, 101, 102] (by decide +kernel) (by decide +kernel)
set_option maxRecDepth 20000 in
theorem gX7_move_X7_isCell : GoodIn wsX7_move (wsV RX7 176 RX7 yX7_isCell wsX7_isCell) := goodIn_app (goodIn_of _ (by decide +kernel)) ggX7_move_X7_isCell
set_option maxRecDepth 20000 in
theorem ggX7_move_X7_winnerNow : GoodIn wsX7_move wsX7_winnerNow := goodIn_r _ [14, 15, 16, 17, 5, 18, 7, 19, 20, 21, 22, 23, 24, 25, 26, 83, 84, 85, 86, 87, 88, 89, 90, 91, 92, 93, 94, 95, 96, 97, 98, 99, 100, 101, 102] (by decide +kernel) (by decide +kernel)
set_option maxRecDepth 20000 in
theorem gX7_move_X7_winnerNow : GoodIn wsX7_move (wsV RX7 93 RX7 yX7_winnerNow wsX7_winnerNow) := goodIn_app (goodIn_of _ (by decide +kernel)) ggX7_move_X7_winnerNow
set_option maxRecDepth 20000 in
theorem ggX7_move_X7_free : GoodIn wsX7_move wsX7_free := goodIn_r _ [30, 7, 15, 16, 17, 5, 18, 19, 20, 21, 22, 83, 84, 85, 86, 87, 88, 89, 90, 91, 92, 93, 94, 95, 96, 97, 98, 99, 100, 101, 102] (by decide +kernel) (by decide +kernel)
set_option maxRecDepth 20000 in
theorem gX7_move_X7_free : GoodIn wsX7_move (wsV RX7 68 RX7 yX7_free wsX7_free) := goodIn_app (goodIn_of _ (by decide +kernel)) ggX7_move_X7_free
set_option maxRecDepth 20000 in
theorem ggX7_move_X7_has : GoodIn wsX7_move wsX7_has := goodIn_r _ [33] (by decide +kernel) (by decide +kernel)
set_option maxRecDepth 20000 in
theorem gX7_move_X7_has : GoodIn wsX7_move (va_wsS RX7 89 yX7_has wsX7_has) := goodIn_app (goodIn_of _ (by decide +kernel)) ggX7_move_X7_has
set_option maxRecDepth 20000 in
theorem ggX7_move_X7_save : GoodIn wsX7_move wsX7_save := goodIn_r _ [37, 38, 39, 7, 83, 84, 85, 86, 87, 88, 89, 90, 91, 92, 93, 94, 95, 96, 97, 98, 99, 100, 101, 102] (by decide +kernel) (by decide +kernel)
set_option maxRecDepth 20000 in
theorem gX7_move_X7_save : GoodIn wsX7_move (wsV RX7 164 RX7 yX7_save wsX7_save) := goodIn_app (goodIn_of _ (by decide +kernel)) ggX7_move_X7_save
set_option maxRecDepth 20000 in
theorem ggX7_move_X7_moves : GoodIn wsX7_move wsX7_moves := goodIn_r _ [43, 7, 44, 45, 46, 5, 47, 48, 49, 50, 51, 52, 53, 54, 55, 56, 57, 19, 20, 21, 22, 58, 59, 60, 61, 31, 32, 33, 62, 63, 64, 65, 66, 67, 68, 69, 70, 71, 72, 73, 74, 75, 76, 77, 78, 27, 28, 29, 30, 15, 16, 17, 18, 79, 80, 81, 82, 11, 12, 13, 14, 23, 24, 25, 26, 83, 84, 85, 86, 87, 88, 89, 90, 91, 92, 93, 94, 95, 96, 97, 98, 99, 100, 101, 102] (by decide +kernel) (by decide +kernel)
set_option maxRecDepth 20000 in
theorem gX7_move_X7_moves : GoodIn wsX7_move (wsV RX7 179 RX7 yX7_moves wsX7_moves) := goodIn_app (goodIn_of _ (by decide +kernel)) ggX7_move_X7_moves
theorem dX7_move_0 : decode cX7_move 0 = .ok (.aload_n 0, 1) := by decide +kernel
theorem dX7_move_1 : decode cX7_move 1 = .ok (.aload_n 0, 1) := by decide +kernel
theorem dX7_move_2 : decode cX7_move 2 = .ok (.iload_n 1, 1) := by decide +kernel
theorem dX7_move_3 : decode cX7_move 3 = .ok (.invokevirtual 176, 3) := by decide +kernel
theorem dX7_move_6 : decode cX7_move 6 = .ok (.ifCond .ne 7, 3) := by decide +kernel
theorem dX7_move_9 : decode cX7_move 9 = .ok (.iconst 1, 1) := by decide +kernel
theorem dX7_move_10 : decode cX7_move 10 = .ok (.goto 26, 3) := by decide +kernel
theorem dX7_move_13 : decode cX7_move 13 = .ok (.aload_n 0, 1) := by decide +kernel
theorem dX7_move_14 : decode cX7_move 14 = .ok (.invokevirtual 93, 3) := by decide +kernel
theorem dX7_move_17 : decode cX7_move 17 = .ok (.ifCond .ne 18, 3) := by decide +kernel
theorem dX7_move_20 : decode cX7_move 20 = .ok (.aload_n 0, 1) := by decide +kernel
theorem dX7_move_21 : decode cX7_move 21 = .ok (.invokevirtual 68, 3) := by decide +kernel
theorem dX7_move_24 : decode cX7_move 24 = .ok (.iload_n 1, 1) := by decide +kernel
theorem dX7_move_25 : decode cX7_move 25 = .ok (.invokestatic 89, 3) := by decide +kernel
theorem dX7_move_28 : decode cX7_move 28 = .ok (.ifCond .eq 7, 3) := by decide +kernel
theorem dX7_move_31 : decode cX7_move 31 = .ok (.iconst 0, 1) := by decide +kernel
theorem dX7_move_32 : decode cX7_move 32 = .ok (.goto 4, 3) := by decide +kernel
theorem dX7_move_35 : decode cX7_move 35 = .ok (.iconst 2, 1) := by decide +kernel
theorem dX7_move_36 : decode cX7_move 36 = .ok (.putfield 50, 3) := by decide +kernel
theorem dX7_move_39 : decode cX7_move 39 = .ok (.aload_n 0, 1) := by decide +kernel
theorem dX7_move_40 : decode cX7_move 40 = .ok (.getfield 50, 3) := by decide +kernel
theorem dX7_move_43 : decode cX7_move 43 = .ok (.ifCond .le 5, 3) := by decide +kernel
theorem dX7_move_46 : decode cX7_move 46 = .ok (.iconst 0, 1) := by decide +kernel
theorem dX7_move_47 : decode cX7_move 47 = .ok (.ireturn, 1) := by decide +kernel
theorem dX7_move_48 : decode cX7_move 48 = .ok (.aload_n 0, 1) := by decide +kernel
theorem dX7_move_49 : decode cX7_move 49 = .ok (.invokevirtual 164, 3) := by decide +kernel
theorem dX7_move_52 : decode cX7_move 52 = .ok (.aload_n 0, 1) := by decide +kernel
theorem dX7_move_53 : decode cX7_move 53 = .ok (.iload_n 1, 1) := by decide +kernel
theorem dX7_move_54 : decode cX7_move 54 = .ok (.invokevirtual 179, 3) := by decide +kernel
theorem dX7_move_57 : decode cX7_move 57 = .ok (.aload_n 0, 1) := by decide +kernel
theorem dX7_move_58 : decode cX7_move 58 = .ok (.invokevirtual 93, 3) := by decide +kernel
theorem dX7_move_61 : decode cX7_move 61 = .ok (.ireturn, 1) := by decide +kernel
set_option maxRecDepth 20000 in
theorem ggX7_skip_X7_winnerNow : GoodIn wsX7_skip wsX7_winnerNow := goodIn_r _ [7, 8, 9, 10, 6, 11, 2, 12, 13, 14, 15, 16, 17, 18, 19, 26, 27, 28, 29, 30, 31, 32, 33, 34, 35, 36, 37, 38, 39, 40, 41, 42, 43, 44, 45] (by decide +kernel) (by decide +kernel)
set_option maxRecDepth 20000 in
theorem gX7_skip_X7_winnerNow : GoodIn wsX7_skip (wsV RX7 93 RX7 yX7_winnerNow wsX7_winnerNow) := goodIn_app (goodIn_of _ (by decide +kernel)) ggX7_skip_X7_winnerNow
set_option maxRecDepth 20000 in
theorem ggX7_skip_X7_save : GoodIn wsX7_skip wsX7_save := goodIn_r _ [23, 24, 25, 2, 26, 27, 28, 29, 30, 31, 32, 33, 34, 35, 36, 37, 38, 39, 40, 41, 42, 43, 44, 45] (by decide +kernel) (by decide +kernel)
set_option maxRecDepth 20000 in
theorem gX7_skip_X7_save : GoodIn wsX7_skip (wsV RX7 164 RX7 yX7_save wsX7_save) := goodIn_app (goodIn_of _ (by decide +kernel)) ggX7_skip_X7_save
theorem dX7_skip_0 : decode cX7_skip 0 = .ok (.aload_n 0, 1) := by decide +kernel
theorem dX7_skip_1 : decode cX7_skip 1 = .ok (.aload_n 0, 1) := by decide +kernel
theorem dX7_skip_2 : decode cX7_skip 2 = .ok (.invokevirtual 93, 3) := by decide +kernel
theorem dX7_skip_5 : decode cX7_skip 5 = .ok (.ifCond .ne 7, 3) := by decide +kernel
theorem dX7_skip_8 : decode cX7_skip 8 = .ok (.iconst 0, 1) := by decide +kernel
theorem dX7_skip_9 : decode cX7_skip 9 = .ok (.goto 4, 3) := by decide +kernel
theorem dX7_skip_12 : decode cX7_skip 12 = .ok (.iconst 1, 1) := by decide +kernel
theorem dX7_skip_13 : decode cX7_skip 13 = .ok (.putfield 50, 3) := by decide +kernel
theorem dX7_skip_16 : decode cX7_skip 16 = .ok (.aload_n 0, 1) := by decide +kernel
theorem dX7_skip_17 : decode cX7_skip 17 = .ok (.getfield 50, 3) := by decide +kernel
theorem dX7_skip_20 : decode cX7_skip 20 = .ok (.ifCond .le 5, 3) := by decide +kernel
theorem dX7_skip_23 : decode cX7_skip 23 = .ok (.iconst 0, 1) := by decide +kernel
theorem dX7_skip_24 : decode cX7_skip 24 = .ok (.ireturn, 1) := by decide +kernel
theorem dX7_skip_25 : decode cX7_skip 25 = .ok (.aload_n 0, 1) := by decide +kernel
theorem dX7_skip_26 : decode cX7_skip 26 = .ok (.invokevirtual 164, 3) := by decide +kernel
theorem dX7_skip_29 : decode cX7_skip 29 = .ok (.aload_n 0, 1) := by decide +kernel
theorem dX7_skip_30 : decode cX7_skip 30 = .ok (.getfield 7, 3) := by decide +kernel
theorem dX7_skip_33 : decode cX7_skip 33 = .ok (.iconst 1, 1) := by decide +kernel
theorem dX7_skip_34 : decode cX7_skip 34 = .ok (.iconst 3, 1) := by decide +kernel
theorem dX7_skip_35 : decode cX7_skip 35 = .ok (.aload_n 0, 1) := by decide +kernel
theorem dX7_skip_36 : decode cX7_skip 36 = .ok (.getfield 7, 3) := by decide +kernel
theorem dX7_skip_39 : decode cX7_skip 39 = .ok (.iconst 1, 1) := by decide +kernel
theorem dX7_skip_40 : decode cX7_skip 40 = .ok (.iaload, 1) := by decide +kernel
theorem dX7_skip_41 : decode cX7_skip 41 = .ok (.isub, 1) := by decide +kernel
theorem dX7_skip_42 : decode cX7_skip 42 = .ok (.iastore, 1) := by decide +kernel
theorem dX7_skip_43 : decode cX7_skip 43 = .ok (.aload_n 0, 1) := by decide +kernel
theorem dX7_skip_44 : decode cX7_skip 44 = .ok (.getfield 7, 3) := by decide +kernel
theorem dX7_skip_47 : decode cX7_skip 47 = .ok (.iconst 5, 1) := by decide +kernel
theorem dX7_skip_48 : decode cX7_skip 48 = .ok (.iconst (-1), 1) := by decide +kernel
theorem dX7_skip_49 : decode cX7_skip 49 = .ok (.iastore, 1) := by decide +kernel
theorem dX7_skip_50 : decode cX7_skip 50 = .ok (.aload_n 0, 1) := by decide +kernel
theorem dX7_skip_51 : decode cX7_skip 51 = .ok (.getfield 7, 3) := by decide +kernel
theorem dX7_skip_54 : decode cX7_skip 54 = .ok (.bipush 6, 2) := by decide +kernel
theorem dX7_skip_56 : decode cX7_skip 56 = .ok (.iconst (-1), 1) := by decide +kernel
theorem dX7_skip_57 : decode cX7_skip 57 = .ok (.iastore, 1) := by decide +kernel
theorem dX7_skip_58 : decode cX7_skip 58 = .ok (.aload_n 0, 1) := by decide +kernel
theorem dX7_skip_59 : decode cX7_skip 59 = .ok (.getfield 7, 3) := by decide +kernel
theorem dX7_skip_62 : decode cX7_skip 62 = .ok (.iconst 1, 1) := by decide +kernel
theorem dX7_skip_63 : decode cX7_skip 63 = .ok (.iaload, 1) := by decide +kernel
theorem dX7_skip_64 : decode cX7_skip 64 = .ok (.ireturn, 1) := by decide +kernel
set_option maxRecDepth 20000 in
theorem ggX7_isRule_X7_within : GoodIn wsX7_isRule wsX7_within := goodIn_r _ [4] (by decide +kernel) (by decide +kernel)
set_option maxRecDepth 20000 in
theorem gX7_isRule_X7_within : GoodIn wsX7_isRule (va_wsS RX7 57 yX7_within wsX7_within) := goodIn_app (goodIn_of _ (by decide +kernel)) ggX7_isRule_X7_within
theorem dX7_isRule_0 : decode cX7_isRule 0 = .ok (.iload_n 0, 1) := by decide +kernel
theorem dX7_isRule_1 : decode cX7_isRule 1 = .ok (.iconst 0, 1) := by decide +kernel
theorem dX7_isRule_2 : decode cX7_isRule 2 = .ok (.iconst 3, 1) := by decide +kernel
theorem dX7_isRule_3 : decode cX7_isRule 3 = .ok (.invokestatic 57, 3) := by decide +kernel
theorem dX7_isRule_6 : decode cX7_isRule 6 = .ok (.ireturn, 1) := by decide +kernel
set_option maxRecDepth 20000 in
theorem ggX7_plays_X7_winnerNow : GoodIn wsX7_plays wsX7_winnerNow := goodIn_r _ [6, 7, 8, 9, 5, 10, 1, 11, 12, 13, 14, 15, 16, 17, 18, 137, 138, 139, 140, 141, 142, 143, 144, 145, 146, 147, 148, 149, 150, 151, 152, 153, 154, 155, 156] (by decide +kernel) (by decide +kernel)
set_option maxRecDepth 20000 in
theorem gX7_plays_X7_winnerNow : GoodIn wsX7_plays (wsV RX7 93 RX7 yX7_winnerNow wsX7_winnerNow) := goodIn_app (goodIn_of _ (by decide +kernel)) ggX7_plays_X7_winnerNow
set_option maxRecDepth 20000 in
theorem ggX7_plays_X7_replyBy : GoodIn wsX7_plays wsX7_replyBy := goodIn_r _ [22, 1, 2, 3, 4, 5, 6, 7, 8, 9, 10, 11, 12, 13, 14, 15, 16, 17, 18, 23, 24, 25, 26, 27, 28, 29, 30, 31, 32, 33, 34, 35, 36, 37, 38, 39, 40, 41, 42, 43, 44, 45, 46, 47, 48, 49, 50, 51, 52, 53, 54, 55, 56, 57, 58, 59, 60, 61, 62, 63, 64, 65, 66, 67, 68, 69, 70, 71, 72, 73, 74, 75, 76, 77, 78, 79, 80, 81, 82, 83, 84, 85, 86, 87, 88, 89, 90, 91, 92, 93, 94, 95, 96, 97, 98, 99, 100, 101, 137, 138, 139, 140, 141, 142, 143, 144, 145, 146, 147, 148, 149, 150, 151, 152, 153, 154, 155, 156] (by decide +kernel) (by decide +kernel)
set_option maxRecDepth 20000 in
theorem gX7_plays_X7_replyBy : GoodIn wsX7_plays (wsV RX7 182 RX7 yX7_replyBy wsX7_replyBy) := goodIn_app (goodIn_of _ (by decide +kernel)) ggX7_plays_X7_replyBy
set_option maxRecDepth 20000 in
theorem ggX7_plays_X7_moves : GoodIn wsX7_plays wsX7_moves := goodIn_r _ [105, 1, 106, 107, 108, 5, 109, 110, 111, 112, 113, 114, 115, 82, 83, 84, 85, 11, 12, 13, 14, 116, 117, 118, 119, 31, 32, 33, 120, 121, 122, 123, 124, 125, 126, 127, 128, 129, 130, 131, 132, 86, 87, 88, 89, 23, 24, 25, 26, 7, 8, 9, 10, 133, 134, 135, 136, 2, 3, 4, 6, 15, 16, 17, 18, 137, 138, 139, 140, 141, 142, 143, 144, 145, 146, 147, 148, 149, 150, 151, 152, 153, 154, 155, 156] (by decide +kernel) (by decide +kernel)
set_option maxRecDepth 20000 in
theorem gX7_plays_X7_moves : GoodIn wsX7_plays (wsV RX7 179 RX7 yX7_moves wsX7_moves) := goodIn_app (goodIn_of _ (by decide +kernel)) ggX7_plays_X7_moves
theorem dX7_plays_0 : decode cX7_plays 0 = .ok (.iconst 0, 1) := by decide +kernel
theorem dX7_plays_1 : decode cX7_plays 1 = .ok (.istore 4, 2) := by decide +kernel
theorem dX7_plays_3 : decode cX7_plays 3 = .ok (.iload 4, 2) := by decide +kernel
theorem dX7_plays_5 : decode cX7_plays 5 = .ok (.iload_n 3, 1) := by decide +kernel
theorem dX7_plays_6 : decode cX7_plays 6 = .ok (.if_icmp .ge 39, 3) := by decide +kernel
theorem dX7_plays_9 : decode cX7_plays 9 = .ok (.aload_n 0, 1) := by decide +kernel
theorem dX7_plays_10 : decode cX7_plays 10 = .ok (.invokevirtual 93, 3) := by decide +kernel
theorem dX7_plays_13 : decode cX7_plays 13 = .ok (.ifCond .ne 32, 3) := by decide +kernel
theorem dX7_plays_16 : decode cX7_plays 16 = .ok (.aload_n 0, 1) := by decide +kernel
theorem dX7_plays_17 : decode cX7_plays 17 = .ok (.aload_n 0, 1) := by decide +kernel
theorem dX7_plays_18 : decode cX7_plays 18 = .ok (.aload_n 0, 1) := by decide +kernel
theorem dX7_plays_19 : decode cX7_plays 19 = .ok (.getfield 7, 3) := by decide +kernel
theorem dX7_plays_22 : decode cX7_plays 22 = .ok (.iconst 1, 1) := by decide +kernel
theorem dX7_plays_23 : decode cX7_plays 23 = .ok (.iaload, 1) := by decide +kernel
theorem dX7_plays_24 : decode cX7_plays 24 = .ok (.iconst 1, 1) := by decide +kernel
theorem dX7_plays_25 : decode cX7_plays 25 = .ok (.if_icmp .ne 7, 3) := by decide +kernel
theorem dX7_plays_28 : decode cX7_plays 28 = .ok (.iload_n 1, 1) := by decide +kernel
theorem dX7_plays_29 : decode cX7_plays 29 = .ok (.goto 4, 3) := by decide +kernel
theorem dX7_plays_32 : decode cX7_plays 32 = .ok (.iload_n 2, 1) := by decide +kernel
theorem dX7_plays_33 : decode cX7_plays 33 = .ok (.invokevirtual 182, 3) := by decide +kernel
theorem dX7_plays_36 : decode cX7_plays 36 = .ok (.invokevirtual 179, 3) := by decide +kernel
theorem dX7_plays_39 : decode cX7_plays 39 = .ok (.iinc 4 1, 3) := by decide +kernel
theorem dX7_plays_42 : decode cX7_plays 42 = .ok (.goto (-39), 3) := by decide +kernel
theorem dX7_plays_45 : decode cX7_plays 45 = .ok (.iload 4, 2) := by decide +kernel
theorem dX7_plays_47 : decode cX7_plays 47 = .ok (.ireturn, 1) := by decide +kernel
set_option maxRecDepth 20000 in
theorem ggX7_play_X7_isRule : GoodIn wsX7_play wsX7_isRule := goodIn_r _ [5, 6, 7, 4, 8] (by decide +kernel) (by decide +kernel)
set_option maxRecDepth 20000 in
theorem gX7_play_X7_isRule : GoodIn wsX7_play (va_wsS RX7 185 yX7_isRule wsX7_isRule) := goodIn_app (goodIn_of _ (by decide +kernel)) ggX7_play_X7_isRule
set_option maxRecDepth 20000 in
theorem ggX7_play_X7_within : GoodIn wsX7_play wsX7_within := goodIn_r _ [8] (by decide +kernel) (by decide +kernel)
set_option maxRecDepth 20000 in
theorem gX7_play_X7_within : GoodIn wsX7_play (va_wsS RX7 57 yX7_within wsX7_within) := goodIn_app (goodIn_of _ (by decide +kernel)) ggX7_play_X7_within
set_option maxRecDepth 20000 in
theorem ggX7_play_X7_winnerNow : GoodIn wsX7_play wsX7_winnerNow := goodIn_r _ [12, 13, 14, 15, 4, 16, 17, 18, 19, 20, 21, 22, 23, 24, 25, 154, 155, 156, 157, 158, 159, 160, 161, 162, 163, 164, 165, 166, 167, 168, 169, 170, 171, 172, 173] (by decide +kernel) (by decide +kernel)
set_option maxRecDepth 20000 in
theorem gX7_play_X7_winnerNow : GoodIn wsX7_play (wsV RX7 93 RX7 yX7_winnerNow wsX7_winnerNow) := goodIn_app (goodIn_of _ (by decide +kernel)) ggX7_play_X7_winnerNow
set_option maxRecDepth 20000 in
theorem ggX7_play_X7_save : GoodIn wsX7_play wsX7_save := goodIn_r _ [29, 30, 31, 17, 154, 155, 156, 157, 158, 159, 160, 161, 162, 163, 164, 165, 166, 167, 168, 169, 170, 171, 172, 173] (by decide +kernel) (by decide +kernel)
set_option maxRecDepth 20000 in
theorem gX7_play_X7_save : GoodIn wsX7_play (wsV RX7 164 RX7 yX7_save wsX7_save) := goodIn_app (goodIn_of _ (by decide +kernel)) ggX7_play_X7_save
set_option maxRecDepth 20000 in
theorem ggX7_play_X7_plays : GoodIn wsX7_play wsX7_plays := goodIn_r _ [35, 17, 9, 10, 11, 4, 12, 13, 14, 15, 16, 18, 19, 20, 21, 22, 23, 24, 25, 36, 37, 38, 39, 40, 41, 42, 43, 44, 45, 46, 47, 48, 49, 50, 51, 52, 53, 54, 55, 56, 57, 58, 59, 60, 61, 62, 63, 64, 65, 66, 67, 68, 69, 70, 71, 72, 73, 74, 75, 76, 77, 78, 79, 80, 81, 82, 83, 84, 85, 86, 87, 88, 89, 90, 91, 92, 93, 94, 95, 96, 97, 98, 99, 100, 101, 102, 103, 104, 105, 106, 107, 108, 109, 110, 111, 112, 113, 114, 115, 116, 117, 118, 119, 120, 121, 122, 123, 124, 125, 126, 127, 128, 129, 130, 131, 132, 133, 134, 135, 136, 137, 138, 139, 140, 141, 142, 143, 144, 145, 146, 147, 148, 149, 150, 151, 152, 153, 154, 155, 156, 157, 158, 159, 160, 161, 162, 163, 164, 165, 166, 167, 168, 169, 170, 171, 172, 173] (by decide +kernel) (by decide +kernel)
set_option maxRecDepth 20000 in
theorem gX7_play_X7_plays : GoodIn wsX7_play (wsV RX7 188 RX7 yX7_plays wsX7_plays) := goodIn_app (goodIn_of _ (by decide +kernel)) ggX7_play_X7_plays
theorem dX7_play_0 : decode cX7_play 0 = .ok (.aload_n 0, 1) := by decide +kernel
theorem dX7_play_1 : decode cX7_play 1 = .ok (.iload_n 1, 1) := by decide +kernel
theorem dX7_play_2 : decode cX7_play 2 = .ok (.invokestatic 185, 3) := by decide +kernel
theorem dX7_play_5 : decode cX7_play 5 = .ok (.ifCond .eq 20, 3) := by decide +kernel
theorem dX7_play_8 : decode cX7_play 8 = .ok (.iload_n 2, 1) := by decide +kernel
theorem dX7_play_9 : decode cX7_play 9 = .ok (.invokestatic 185, 3) := by decide +kernel
theorem dX7_play_12 : decode cX7_play 12 = .ok (.ifCond .eq 13, 3) := by decide +kernel
theorem dX7_play_15 : decode cX7_play 15 = .ok (.iload_n 3, 1) := by decide +kernel
theorem dX7_play_16 : decode cX7_play 16 = .ok (.iconst 1, 1) := by decide +kernel
theorem dX7_play_17 : decode cX7_play 17 = .ok (.bipush 10, 2) := by decide +kernel
theorem dX7_play_19 : decode cX7_play 19 = .ok (.invokestatic 57, 3) := by decide +kernel
theorem dX7_play_22 : decode cX7_play 22 = .ok (.ifCond .ne 7, 3) := by decide +kernel
theorem dX7_play_25 : decode cX7_play 25 = .ok (.iconst 1, 1) := by decide +kernel
theorem dX7_play_26 : decode cX7_play 26 = .ok (.goto 15, 3) := by decide +kernel
theorem dX7_play_29 : decode cX7_play 29 = .ok (.aload_n 0, 1) := by decide +kernel
theorem dX7_play_30 : decode cX7_play 30 = .ok (.invokevirtual 93, 3) := by decide +kernel
theorem dX7_play_33 : decode cX7_play 33 = .ok (.ifCond .ne 7, 3) := by decide +kernel
theorem dX7_play_36 : decode cX7_play 36 = .ok (.iconst 0, 1) := by decide +kernel
theorem dX7_play_37 : decode cX7_play 37 = .ok (.goto 4, 3) := by decide +kernel
theorem dX7_play_40 : decode cX7_play 40 = .ok (.iconst 2, 1) := by decide +kernel
theorem dX7_play_41 : decode cX7_play 41 = .ok (.putfield 50, 3) := by decide +kernel
theorem dX7_play_44 : decode cX7_play 44 = .ok (.aload_n 0, 1) := by decide +kernel
theorem dX7_play_45 : decode cX7_play 45 = .ok (.getfield 50, 3) := by decide +kernel
theorem dX7_play_48 : decode cX7_play 48 = .ok (.ifCond .le 5, 3) := by decide +kernel
theorem dX7_play_51 : decode cX7_play 51 = .ok (.iconst 0, 1) := by decide +kernel
theorem dX7_play_52 : decode cX7_play 52 = .ok (.ireturn, 1) := by decide +kernel
theorem dX7_play_53 : decode cX7_play 53 = .ok (.aload_n 0, 1) := by decide +kernel
theorem dX7_play_54 : decode cX7_play 54 = .ok (.invokevirtual 164, 3) := by decide +kernel
theorem dX7_play_57 : decode cX7_play 57 = .ok (.aload_n 0, 1) := by decide +kernel
theorem dX7_play_58 : decode cX7_play 58 = .ok (.iload_n 1, 1) := by decide +kernel
theorem dX7_play_59 : decode cX7_play 59 = .ok (.iload_n 2, 1) := by decide +kernel
theorem dX7_play_60 : decode cX7_play 60 = .ok (.iload_n 3, 1) := by decide +kernel
theorem dX7_play_61 : decode cX7_play 61 = .ok (.invokevirtual 188, 3) := by decide +kernel
theorem dX7_play_64 : decode cX7_play 64 = .ok (.ireturn, 1) := by decide +kernel
set_option maxRecDepth 20000 in
theorem ggX7_append_X7_within : GoodIn wsX7_append wsX7_within := goodIn_r _ [7] (by decide +kernel) (by decide +kernel)
set_option maxRecDepth 20000 in
theorem gX7_append_X7_within : GoodIn wsX7_append (va_wsS RX7 57 yX7_within wsX7_within) := goodIn_app (goodIn_of _ (by decide +kernel)) ggX7_append_X7_within
theorem dX7_append_0 : decode cX7_append 0 = .ok (.aload_n 0, 1) := by decide +kernel
theorem dX7_append_1 : decode cX7_append 1 = .ok (.iload_n 1, 1) := by decide +kernel
theorem dX7_append_2 : decode cX7_append 2 = .ok (.bipush 33, 2) := by decide +kernel
theorem dX7_append_4 : decode cX7_append 4 = .ok (.bipush 126, 2) := by decide +kernel
theorem dX7_append_6 : decode cX7_append 6 = .ok (.invokestatic 57, 3) := by decide +kernel
theorem dX7_append_9 : decode cX7_append 9 = .ok (.ifCond .ne 7, 3) := by decide +kernel
theorem dX7_append_12 : decode cX7_append 12 = .ok (.iconst 1, 1) := by decide +kernel
theorem dX7_append_13 : decode cX7_append 13 = .ok (.goto 17, 3) := by decide +kernel
theorem dX7_append_16 : decode cX7_append 16 = .ok (.aload_n 0, 1) := by decide +kernel
theorem dX7_append_17 : decode cX7_append 17 = .ok (.getfield 191, 3) := by decide +kernel
theorem dX7_append_20 : decode cX7_append 20 = .ok (.bipush 60, 2) := by decide +kernel
theorem dX7_append_22 : decode cX7_append 22 = .ok (.if_icmp .ne 7, 3) := by decide +kernel
theorem dX7_append_25 : decode cX7_append 25 = .ok (.iconst 2, 1) := by decide +kernel
theorem dX7_append_26 : decode cX7_append 26 = .ok (.goto 4, 3) := by decide +kernel
theorem dX7_append_29 : decode cX7_append 29 = .ok (.iconst 0, 1) := by decide +kernel
theorem dX7_append_30 : decode cX7_append 30 = .ok (.putfield 50, 3) := by decide +kernel
theorem dX7_append_33 : decode cX7_append 33 = .ok (.aload_n 0, 1) := by decide +kernel
theorem dX7_append_34 : decode cX7_append 34 = .ok (.getfield 50, 3) := by decide +kernel
theorem dX7_append_37 : decode cX7_append 37 = .ok (.ifCond .le 5, 3) := by decide +kernel
theorem dX7_append_40 : decode cX7_append 40 = .ok (.iconst 0, 1) := by decide +kernel
theorem dX7_append_41 : decode cX7_append 41 = .ok (.ireturn, 1) := by decide +kernel
theorem dX7_append_42 : decode cX7_append 42 = .ok (.aload_n 0, 1) := by decide +kernel
theorem dX7_append_43 : decode cX7_append 43 = .ok (.getfield 22, 3) := by decide +kernel
theorem dX7_append_46 : decode cX7_append 46 = .ok (.aload_n 0, 1) := by decide +kernel
theorem dX7_append_47 : decode cX7_append 47 = .ok (.getfield 191, 3) := by decide +kernel
theorem dX7_append_50 : decode cX7_append 50 = .ok (.iload_n 1, 1) := by decide +kernel
theorem dX7_append_51 : decode cX7_append 51 = .ok (.iastore, 1) := by decide +kernel
theorem dX7_append_52 : decode cX7_append 52 = .ok (.aload_n 0, 1) := by decide +kernel
theorem dX7_append_53 : decode cX7_append 53 = .ok (.dup, 1) := by decide +kernel
theorem dX7_append_54 : decode cX7_append 54 = .ok (.getfield 191, 3) := by decide +kernel
theorem dX7_append_57 : decode cX7_append 57 = .ok (.iconst 1, 1) := by decide +kernel
theorem dX7_append_58 : decode cX7_append 58 = .ok (.iadd, 1) := by decide +kernel
theorem dX7_append_59 : decode cX7_append 59 = .ok (.putfield 191, 3) := by decide +kernel
theorem dX7_append_62 : decode cX7_append 62 = .ok (.aload_n 0, 1) := by decide +kernel
theorem dX7_append_63 : decode cX7_append 63 = .ok (.getfield 191, 3) := by decide +kernel
theorem dX7_append_66 : decode cX7_append 66 = .ok (.ireturn, 1) := by decide +kernel
theorem dX7_clearBuffer_0 : decode cX7_clearBuffer 0 = .ok (.aload_n 0, 1) := by decide +kernel
theorem dX7_clearBuffer_1 : decode cX7_clearBuffer 1 = .ok (.iconst 0, 1) := by decide +kernel
theorem dX7_clearBuffer_2 : decode cX7_clearBuffer 2 = .ok (.putfield 50, 3) := by decide +kernel
theorem dX7_clearBuffer_5 : decode cX7_clearBuffer 5 = .ok (.aload_n 0, 1) := by decide +kernel
theorem dX7_clearBuffer_6 : decode cX7_clearBuffer 6 = .ok (.getfield 191, 3) := by decide +kernel
theorem dX7_clearBuffer_9 : decode cX7_clearBuffer 9 = .ok (.istore_n 1, 1) := by decide +kernel
theorem dX7_clearBuffer_10 : decode cX7_clearBuffer 10 = .ok (.aload_n 0, 1) := by decide +kernel
theorem dX7_clearBuffer_11 : decode cX7_clearBuffer 11 = .ok (.iconst 0, 1) := by decide +kernel
theorem dX7_clearBuffer_12 : decode cX7_clearBuffer 12 = .ok (.putfield 191, 3) := by decide +kernel
theorem dX7_clearBuffer_15 : decode cX7_clearBuffer 15 = .ok (.iload_n 1, 1) := by decide +kernel
theorem dX7_clearBuffer_16 : decode cX7_clearBuffer 16 = .ok (.ireturn, 1) := by decide +kernel
set_option maxRecDepth 20000 in
theorem ggX7_takes_X7_isCell : GoodIn wsX7_takes wsX7_isCell := goodIn_r _ [7, 8, 9, 10, 6, 11, 12, 13, 14, 15, 16, 17, 18, 19, 20, 21, 22, 23, 24, 25, 26, 27, 28, 29, 30, 31] (by decide +kernel) (by decide +kernel)
set_option maxRecDepth 20000 in
theorem gX7_takes_X7_isCell : GoodIn wsX7_takes (wsV RX7 176 RX7 yX7_isCell wsX7_isCell) := goodIn_app (goodIn_of _ (by decide +kernel)) ggX7_takes_X7_isCell
theorem dX7_takes_0 : decode cX7_takes 0 = .ok (.iload_n 1, 1) := by decide +kernel
theorem dX7_takes_1 : decode cX7_takes 1 = .ok (.bipush 59, 2) := by decide +kernel
theorem dX7_takes_3 : decode cX7_takes 3 = .ok (.if_icmp .ne 37, 3) := by decide +kernel
theorem dX7_takes_6 : decode cX7_takes 6 = .ok (.aload_n 0, 1) := by decide +kernel
theorem dX7_takes_7 : decode cX7_takes 7 = .ok (.getfield 44, 3) := by decide +kernel
theorem dX7_takes_10 : decode cX7_takes 10 = .ok (.aload_n 0, 1) := by decide +kernel
theorem dX7_takes_11 : decode cX7_takes 11 = .ok (.getfield 194, 3) := by decide +kernel
theorem dX7_takes_14 : decode cX7_takes 14 = .ok (.iaload, 1) := by decide +kernel
theorem dX7_takes_15 : decode cX7_takes 15 = .ok (.ifCond .le 25, 3) := by decide +kernel
theorem dX7_takes_18 : decode cX7_takes 18 = .ok (.aload_n 0, 1) := by decide +kernel
theorem dX7_takes_19 : decode cX7_takes 19 = .ok (.dup, 1) := by decide +kernel
theorem dX7_takes_20 : decode cX7_takes 20 = .ok (.getfield 194, 3) := by decide +kernel
theorem dX7_takes_23 : decode cX7_takes 23 = .ok (.iconst 1, 1) := by decide +kernel
theorem dX7_takes_24 : decode cX7_takes 24 = .ok (.iadd, 1) := by decide +kernel
theorem dX7_takes_25 : decode cX7_takes 25 = .ok (.putfield 194, 3) := by decide +kernel
theorem dX7_takes_28 : decode cX7_takes 28 = .ok (.aload_n 0, 1) := by decide +kernel
theorem dX7_takes_29 : decode cX7_takes 29 = .ok (.getfield 44, 3) := by decide +kernel
theorem dX7_takes_32 : decode cX7_takes 32 = .ok (.aload_n 0, 1) := by decide +kernel
theorem dX7_takes_33 : decode cX7_takes 33 = .ok (.getfield 194, 3) := by decide +kernel
theorem dX7_takes_36 : decode cX7_takes 36 = .ok (.iconst 0, 1) := by decide +kernel
theorem dX7_takes_37 : decode cX7_takes 37 = .ok (.iastore, 1) := by decide +kernel
theorem dX7_takes_38 : decode cX7_takes 38 = .ok (.iconst 1, 1) := by decide +kernel
theorem dX7_takes_39 : decode cX7_takes 39 = .ok (.ireturn, 1) := by decide +kernel
theorem dX7_takes_40 : decode cX7_takes 40 = .ok (.aload_n 0, 1) := by decide +kernel
theorem dX7_takes_41 : decode cX7_takes 41 = .ok (.iload_n 1, 1) := by decide +kernel
theorem dX7_takes_42 : decode cX7_takes 42 = .ok (.bipush 48, 2) := by decide +kernel
theorem dX7_takes_44 : decode cX7_takes 44 = .ok (.isub, 1) := by decide +kernel
theorem dX7_takes_45 : decode cX7_takes 45 = .ok (.invokevirtual 176, 3) := by decide +kernel
theorem dX7_takes_48 : decode cX7_takes 48 = .ok (.ifCond .eq 25, 3) := by decide +kernel
theorem dX7_takes_51 : decode cX7_takes 51 = .ok (.aload_n 0, 1) := by decide +kernel
theorem dX7_takes_52 : decode cX7_takes 52 = .ok (.getfield 44, 3) := by decide +kernel
theorem dX7_takes_55 : decode cX7_takes 55 = .ok (.aload_n 0, 1) := by decide +kernel
theorem dX7_takes_56 : decode cX7_takes 56 = .ok (.getfield 194, 3) := by decide +kernel
theorem dX7_takes_59 : decode cX7_takes 59 = .ok (.iaload, 1) := by decide +kernel
theorem dX7_takes_60 : decode cX7_takes 60 = .ok (.iconst 1, 1) := by decide +kernel
theorem dX7_takes_61 : decode cX7_takes 61 = .ok (.iload_n 1, 1) := by decide +kernel
theorem dX7_takes_62 : decode cX7_takes 62 = .ok (.bipush 48, 2) := by decide +kernel
theorem dX7_takes_64 : decode cX7_takes 64 = .ok (.isub, 1) := by decide +kernel
theorem dX7_takes_65 : decode cX7_takes 65 = .ok (.ishl, 1) := by decide +kernel
theorem dX7_takes_66 : decode cX7_takes 66 = .ok (.if_icmp .ge 7, 3) := by decide +kernel
theorem dX7_takes_69 : decode cX7_takes 69 = .ok (.iconst 1, 1) := by decide +kernel
theorem dX7_takes_70 : decode cX7_takes 70 = .ok (.goto 4, 3) := by decide +kernel
theorem dX7_takes_73 : decode cX7_takes 73 = .ok (.iconst 0, 1) := by decide +kernel
theorem dX7_takes_74 : decode cX7_takes 74 = .ok (.istore_n 2, 1) := by decide +kernel
theorem dX7_takes_75 : decode cX7_takes 75 = .ok (.aload_n 0, 1) := by decide +kernel
theorem dX7_takes_76 : decode cX7_takes 76 = .ok (.getfield 44, 3) := by decide +kernel
theorem dX7_takes_79 : decode cX7_takes 79 = .ok (.aload_n 0, 1) := by decide +kernel
theorem dX7_takes_80 : decode cX7_takes 80 = .ok (.getfield 194, 3) := by decide +kernel
theorem dX7_takes_83 : decode cX7_takes 83 = .ok (.dup2, 1) := by decide +kernel
theorem dX7_takes_84 : decode cX7_takes 84 = .ok (.iaload, 1) := by decide +kernel
theorem dX7_takes_85 : decode cX7_takes 85 = .ok (.iload_n 2, 1) := by decide +kernel
theorem dX7_takes_86 : decode cX7_takes 86 = .ok (.ifCond .eq 12, 3) := by decide +kernel
theorem dX7_takes_89 : decode cX7_takes 89 = .ok (.iconst 1, 1) := by decide +kernel
theorem dX7_takes_90 : decode cX7_takes 90 = .ok (.iload_n 1, 1) := by decide +kernel
theorem dX7_takes_91 : decode cX7_takes 91 = .ok (.bipush 48, 2) := by decide +kernel
theorem dX7_takes_93 : decode cX7_takes 93 = .ok (.isub, 1) := by decide +kernel
theorem dX7_takes_94 : decode cX7_takes 94 = .ok (.ishl, 1) := by decide +kernel
theorem dX7_takes_95 : decode cX7_takes 95 = .ok (.goto 4, 3) := by decide +kernel
theorem dX7_takes_98 : decode cX7_takes 98 = .ok (.iconst 0, 1) := by decide +kernel
theorem dX7_takes_99 : decode cX7_takes 99 = .ok (.ior, 1) := by decide +kernel
theorem dX7_takes_100 : decode cX7_takes 100 = .ok (.iastore, 1) := by decide +kernel
theorem dX7_takes_101 : decode cX7_takes 101 = .ok (.iload_n 2, 1) := by decide +kernel
theorem dX7_takes_102 : decode cX7_takes 102 = .ok (.ireturn, 1) := by decide +kernel
set_option maxRecDepth 20000 in
theorem ggX7_rightUpTo_X7_takes : GoodIn wsX7_rightUpTo wsX7_takes := goodIn_r _ [9, 2, 1, 10, 11, 12, 8, 13, 14, 15, 16, 17, 18, 19, 20, 21, 22, 23, 24, 25, 26, 27, 28, 29, 30, 31, 32, 33, 34, 35, 36, 37] (by decide +kernel) (by decide +kernel)
set_option maxRecDepth 20000 in
theorem gX7_rightUpTo_X7_takes : GoodIn wsX7_rightUpTo (wsV RX7 197 RX7 yX7_takes wsX7_takes) := goodIn_app (goodIn_of _ (by decide +kernel)) ggX7_rightUpTo_X7_takes
theorem dX7_rightUpTo_0 : decode cX7_rightUpTo 0 = .ok (.aload_n 0, 1) := by decide +kernel
theorem dX7_rightUpTo_1 : decode cX7_rightUpTo 1 = .ok (.iconst 0, 1) := by decide +kernel
theorem dX7_rightUpTo_2 : decode cX7_rightUpTo 2 = .ok (.putfield 194, 3) := by decide +kernel
theorem dX7_rightUpTo_5 : decode cX7_rightUpTo 5 = .ok (.aload_n 0, 1) := by decide +kernel
theorem dX7_rightUpTo_6 : decode cX7_rightUpTo 6 = .ok (.getfield 44, 3) := by decide +kernel
theorem dX7_rightUpTo_9 : decode cX7_rightUpTo 9 = .ok (.iconst 0, 1) := by decide +kernel
theorem dX7_rightUpTo_10 : decode cX7_rightUpTo 10 = .ok (.iconst 0, 1) := by decide +kernel
theorem dX7_rightUpTo_11 : decode cX7_rightUpTo 11 = .ok (.iastore, 1) := by decide +kernel
theorem dX7_rightUpTo_12 : decode cX7_rightUpTo 12 = .ok (.iconst 0, 1) := by decide +kernel
theorem dX7_rightUpTo_13 : decode cX7_rightUpTo 13 = .ok (.istore_n 1, 1) := by decide +kernel
theorem dX7_rightUpTo_14 : decode cX7_rightUpTo 14 = .ok (.iload_n 1, 1) := by decide +kernel
theorem dX7_rightUpTo_15 : decode cX7_rightUpTo 15 = .ok (.aload_n 0, 1) := by decide +kernel
theorem dX7_rightUpTo_16 : decode cX7_rightUpTo 16 = .ok (.getfield 191, 3) := by decide +kernel
theorem dX7_rightUpTo_19 : decode cX7_rightUpTo 19 = .ok (.if_icmp .ge 22, 3) := by decide +kernel
theorem dX7_rightUpTo_22 : decode cX7_rightUpTo 22 = .ok (.aload_n 0, 1) := by decide +kernel
theorem dX7_rightUpTo_23 : decode cX7_rightUpTo 23 = .ok (.aload_n 0, 1) := by decide +kernel
theorem dX7_rightUpTo_24 : decode cX7_rightUpTo 24 = .ok (.getfield 22, 3) := by decide +kernel
theorem dX7_rightUpTo_27 : decode cX7_rightUpTo 27 = .ok (.iload_n 1, 1) := by decide +kernel
theorem dX7_rightUpTo_28 : decode cX7_rightUpTo 28 = .ok (.iaload, 1) := by decide +kernel
theorem dX7_rightUpTo_29 : decode cX7_rightUpTo 29 = .ok (.invokevirtual 197, 3) := by decide +kernel
theorem dX7_rightUpTo_32 : decode cX7_rightUpTo 32 = .ok (.ifCond .eq 9, 3) := by decide +kernel
theorem dX7_rightUpTo_35 : decode cX7_rightUpTo 35 = .ok (.iinc 1 1, 3) := by decide +kernel
theorem dX7_rightUpTo_38 : decode cX7_rightUpTo 38 = .ok (.goto (-24), 3) := by decide +kernel
theorem dX7_rightUpTo_41 : decode cX7_rightUpTo 41 = .ok (.iload_n 1, 1) := by decide +kernel
theorem dX7_rightUpTo_42 : decode cX7_rightUpTo 42 = .ok (.ireturn, 1) := by decide +kernel
set_option maxRecDepth 20000 in
theorem ggX7_firstError_X7_rightUpTo : GoodIn wsX7_firstError wsX7_rightUpTo := goodIn_r _ [6, 7, 8, 9, 10, 11, 12, 13, 5, 14, 15, 16, 17, 18, 19, 20, 21, 22, 23, 24, 25, 26, 27, 28, 29, 30, 31, 32, 33, 34, 35, 36, 37, 38, 39, 40, 41, 42] (by decide +kernel) (by decide +kernel)
set_option maxRecDepth 20000 in
theorem gX7_firstError_X7_rightUpTo : GoodIn wsX7_firstError (wsV RX7 200 RX7 yX7_rightUpTo wsX7_rightUpTo) := goodIn_app (goodIn_of _ (by decide +kernel)) ggX7_firstError_X7_rightUpTo
theorem dX7_firstError_0 : decode cX7_firstError 0 = .ok (.aload_n 0, 1) := by decide +kernel
theorem dX7_firstError_1 : decode cX7_firstError 1 = .ok (.iconst 0, 1) := by decide +kernel
theorem dX7_firstError_2 : decode cX7_firstError 2 = .ok (.putfield 50, 3) := by decide +kernel
theorem dX7_firstError_5 : decode cX7_firstError 5 = .ok (.aload_n 0, 1) := by decide +kernel
theorem dX7_firstError_6 : decode cX7_firstError 6 = .ok (.invokevirtual 200, 3) := by decide +kernel
theorem dX7_firstError_9 : decode cX7_firstError 9 = .ok (.ireturn, 1) := by decide +kernel
set_option maxRecDepth 20000 in
theorem ggX7_read_X7_rightUpTo : GoodIn wsX7_read wsX7_rightUpTo := goodIn_r _ [10, 3, 2, 1, 11, 12, 13, 14, 9, 15, 16, 17, 18, 19, 4, 20, 21, 22, 29, 30, 31, 32, 33, 34, 35, 36, 37, 38, 39, 40, 41, 42, 43, 44, 45, 46, 47, 48] (by decide +kernel) (by decide +kernel)
set_option maxRecDepth 20000 in
theorem gX7_read_X7_rightUpTo : GoodIn wsX7_read (wsV RX7 200 RX7 yX7_rightUpTo wsX7_rightUpTo) := goodIn_app (goodIn_of _ (by decide +kernel)) ggX7_read_X7_rightUpTo
set_option maxRecDepth 20000 in
theorem ggX7_read_X7_save : GoodIn wsX7_read wsX7_save := goodIn_r _ [26, 27, 28, 4, 29, 30, 31, 32, 33, 34, 35, 36, 37, 38, 39, 40, 41, 42, 43, 44, 45, 46, 47, 48] (by decide +kernel) (by decide +kernel)
set_option maxRecDepth 20000 in
theorem gX7_read_X7_save : GoodIn wsX7_read (wsV RX7 164 RX7 yX7_save wsX7_save) := goodIn_app (goodIn_of _ (by decide +kernel)) ggX7_read_X7_save
theorem dX7_read_0 : decode cX7_read 0 = .ok (.aload_n 0, 1) := by decide +kernel
theorem dX7_read_1 : decode cX7_read 1 = .ok (.invokevirtual 200, 3) := by decide +kernel
theorem dX7_read_4 : decode cX7_read 4 = .ok (.aload_n 0, 1) := by decide +kernel
theorem dX7_read_5 : decode cX7_read 5 = .ok (.getfield 191, 3) := by decide +kernel
theorem dX7_read_8 : decode cX7_read 8 = .ok (.if_icmp .ne 19, 3) := by decide +kernel
theorem dX7_read_11 : decode cX7_read 11 = .ok (.aload_n 0, 1) := by decide +kernel
theorem dX7_read_12 : decode cX7_read 12 = .ok (.getfield 44, 3) := by decide +kernel
theorem dX7_read_15 : decode cX7_read 15 = .ok (.aload_n 0, 1) := by decide +kernel
