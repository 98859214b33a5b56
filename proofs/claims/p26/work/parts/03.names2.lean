theorem dX2_isHopeless_25 : decode cX2_isHopeless 25 = .ok (.iload_n 2, 1) := by decide +kernel
theorem dX2_isHopeless_26 : decode cX2_isHopeless 26 = .ok (.iconst (-1), 1) := by decide +kernel
theorem dX2_isHopeless_27 : decode cX2_isHopeless 27 = .ok (.ixor, 1) := by decide +kernel
theorem dX2_isHopeless_28 : decode cX2_isHopeless 28 = .ok (.iand, 1) := by decide +kernel
theorem dX2_isHopeless_29 : decode cX2_isHopeless 29 = .ok (.invokestatic 74, 3) := by decide +kernel
theorem dX2_isHopeless_32 : decode cX2_isHopeless 32 = .ok (.iconst 2, 1) := by decide +kernel
theorem dX2_isHopeless_33 : decode cX2_isHopeless 33 = .ok (.if_icmp .ge 14, 3) := by decide +kernel
theorem dX2_isHopeless_36 : decode cX2_isHopeless 36 = .ok (.aload_n 0, 1) := by decide +kernel
theorem dX2_isHopeless_37 : decode cX2_isHopeless 37 = .ok (.iload 4, 2) := by decide +kernel
theorem dX2_isHopeless_39 : decode cX2_isHopeless 39 = .ok (.invokevirtual 64, 3) := by decide +kernel
theorem dX2_isHopeless_42 : decode cX2_isHopeless 42 = .ok (.ifCond .eq 5, 3) := by decide +kernel
theorem dX2_isHopeless_45 : decode cX2_isHopeless 45 = .ok (.iconst 1, 1) := by decide +kernel
theorem dX2_isHopeless_46 : decode cX2_isHopeless 46 = .ok (.ireturn, 1) := by decide +kernel
theorem dX2_isHopeless_47 : decode cX2_isHopeless 47 = .ok (.iinc 3 1, 3) := by decide +kernel
theorem dX2_isHopeless_50 : decode cX2_isHopeless 50 = .ok (.goto (-48), 3) := by decide +kernel
theorem dX2_isHopeless_53 : decode cX2_isHopeless 53 = .ok (.iconst 0, 1) := by decide +kernel
theorem dX2_isHopeless_54 : decode cX2_isHopeless 54 = .ok (.ireturn, 1) := by decide +kernel
set_option maxRecDepth 20000 in
theorem ggX3_init_X1_init : GoodIn wsX3_init wsX1_init := goodIn_r _ [16, 17, 2, 3, 11, 18, 19, 20, 21, 22, 23, 24, 25, 26, 27, 28, 29] (by decide +kernel) (by decide +kernel)
set_option maxRecDepth 20000 in
theorem gX3_init_X1_init_n11 : GoodIn wsX3_init (wsX1_init) := ggX3_init_X1_init
theorem dX3_init_0 : decode cX3_init 0 = .ok (.aload_n 0, 1) := by decide +kernel
theorem dX3_init_1 : decode cX3_init 1 = .ok (.invokespecial 3, 3) := by decide +kernel
theorem dX3_init_4 : decode cX3_init 4 = .ok (.aload_n 0, 1) := by decide +kernel
theorem dX3_init_5 : decode cX3_init 5 = .ok (.new 9, 3) := by decide +kernel
theorem dX3_init_8 : decode cX3_init 8 = .ok (.dup, 1) := by decide +kernel
theorem dX3_init_9 : decode cX3_init 9 = .ok (.invokespecial 11, 3) := by decide +kernel
theorem dX3_init_12 : decode cX3_init 12 = .ok (.putfield 12, 3) := by decide +kernel
theorem dX3_init_15 : decode cX3_init 15 = .ok (.aload_n 0, 1) := by decide +kernel
theorem dX3_init_16 : decode cX3_init 16 = .ok (.iconst 0, 1) := by decide +kernel
theorem dX3_init_17 : decode cX3_init 17 = .ok (.putfield 18, 3) := by decide +kernel
theorem dX3_init_20 : decode cX3_init 20 = .ok (.aload_n 0, 1) := by decide +kernel
theorem dX3_init_21 : decode cX3_init 21 = .ok (.iconst 1, 1) := by decide +kernel
theorem dX3_init_22 : decode cX3_init 22 = .ok (.putfield 22, 3) := by decide +kernel
theorem dX3_init_25 : decode cX3_init 25 = .ok (.aload_n 0, 1) := by decide +kernel
theorem dX3_init_26 : decode cX3_init 26 = .ok (.ldc 26, 2) := by decide +kernel
theorem dX3_init_28 : decode cX3_init 28 = .ok (.newarray .int, 2) := by decide +kernel
theorem dX3_init_30 : decode cX3_init 30 = .ok (.putfield 27, 3) := by decide +kernel
theorem dX3_init_33 : decode cX3_init 33 = .ok (.aload_n 0, 1) := by decide +kernel
theorem dX3_init_34 : decode cX3_init 34 = .ok (.iconst 1, 1) := by decide +kernel
theorem dX3_init_35 : decode cX3_init 35 = .ok (.putfield 31, 3) := by decide +kernel
theorem dX3_init_38 : decode cX3_init 38 = .ok (.aload_n 0, 1) := by decide +kernel
theorem dX3_init_39 : decode cX3_init 39 = .ok (.sipush 1024, 3) := by decide +kernel
theorem dX3_init_42 : decode cX3_init 42 = .ok (.newarray .int, 2) := by decide +kernel
theorem dX3_init_44 : decode cX3_init 44 = .ok (.putfield 34, 3) := by decide +kernel
theorem dX3_init_47 : decode cX3_init 47 = .ok (.iconst 1, 1) := by decide +kernel
theorem dX3_init_48 : decode cX3_init 48 = .ok (.istore_n 1, 1) := by decide +kernel
theorem dX3_init_49 : decode cX3_init 49 = .ok (.iconst 0, 1) := by decide +kernel
theorem dX3_init_50 : decode cX3_init 50 = .ok (.istore_n 2, 1) := by decide +kernel
theorem dX3_init_51 : decode cX3_init 51 = .ok (.iload_n 2, 1) := by decide +kernel
theorem dX3_init_52 : decode cX3_init 52 = .ok (.bipush 10, 2) := by decide +kernel
theorem dX3_init_54 : decode cX3_init 54 = .ok (.if_icmp .ge 52, 3) := by decide +kernel
theorem dX3_init_57 : decode cX3_init 57 = .ok (.iconst 0, 1) := by decide +kernel
theorem dX3_init_58 : decode cX3_init 58 = .ok (.istore_n 3, 1) := by decide +kernel
theorem dX3_init_59 : decode cX3_init 59 = .ok (.iload_n 3, 1) := by decide +kernel
theorem dX3_init_60 : decode cX3_init 60 = .ok (.aload_n 0, 1) := by decide +kernel
theorem dX3_init_61 : decode cX3_init 61 = .ok (.getfield 34, 3) := by decide +kernel
theorem dX3_init_64 : decode cX3_init 64 = .ok (.arraylength, 1) := by decide +kernel
theorem dX3_init_65 : decode cX3_init 65 = .ok (.if_icmp .ge 31, 3) := by decide +kernel
theorem dX3_init_68 : decode cX3_init 68 = .ok (.aload_n 0, 1) := by decide +kernel
theorem dX3_init_69 : decode cX3_init 69 = .ok (.getfield 34, 3) := by decide +kernel
theorem dX3_init_72 : decode cX3_init 72 = .ok (.iload_n 3, 1) := by decide +kernel
theorem dX3_init_73 : decode cX3_init 73 = .ok (.dup2, 1) := by decide +kernel
theorem dX3_init_74 : decode cX3_init 74 = .ok (.iaload, 1) := by decide +kernel
theorem dX3_init_75 : decode cX3_init 75 = .ok (.iload_n 3, 1) := by decide +kernel
theorem dX3_init_76 : decode cX3_init 76 = .ok (.iconst 1, 1) := by decide +kernel
theorem dX3_init_77 : decode cX3_init 77 = .ok (.iload_n 2, 1) := by decide +kernel
theorem dX3_init_78 : decode cX3_init 78 = .ok (.ishl, 1) := by decide +kernel
theorem dX3_init_79 : decode cX3_init 79 = .ok (.iand, 1) := by decide +kernel
theorem dX3_init_80 : decode cX3_init 80 = .ok (.ifCond .eq 7, 3) := by decide +kernel
theorem dX3_init_83 : decode cX3_init 83 = .ok (.iload_n 1, 1) := by decide +kernel
theorem dX3_init_84 : decode cX3_init 84 = .ok (.goto 4, 3) := by decide +kernel
theorem dX3_init_87 : decode cX3_init 87 = .ok (.iconst 0, 1) := by decide +kernel
theorem dX3_init_88 : decode cX3_init 88 = .ok (.iadd, 1) := by decide +kernel
theorem dX3_init_89 : decode cX3_init 89 = .ok (.iastore, 1) := by decide +kernel
theorem dX3_init_90 : decode cX3_init 90 = .ok (.iinc 3 1, 3) := by decide +kernel
theorem dX3_init_93 : decode cX3_init 93 = .ok (.goto (-34), 3) := by decide +kernel
theorem dX3_init_96 : decode cX3_init 96 = .ok (.iload_n 1, 1) := by decide +kernel
theorem dX3_init_97 : decode cX3_init 97 = .ok (.iconst 3, 1) := by decide +kernel
theorem dX3_init_98 : decode cX3_init 98 = .ok (.imul, 1) := by decide +kernel
theorem dX3_init_99 : decode cX3_init 99 = .ok (.istore_n 1, 1) := by decide +kernel
theorem dX3_init_100 : decode cX3_init 100 = .ok (.iinc 2 1, 3) := by decide +kernel
theorem dX3_init_103 : decode cX3_init 103 = .ok (.goto (-52), 3) := by decide +kernel
theorem dX3_init_106 : decode cX3_init 106 = .ok (.return_, 1) := by decide +kernel
set_option maxRecDepth 20000 in
theorem ggX3_lengthOf_X3_prepare : GoodIn wsX3_lengthOf wsX3_prepare := goodIn_r _ [8, 1, 2, 3, 9, 10, 11, 12, 13, 14, 15, 16, 17, 18, 19, 20, 21, 22, 23, 24, 25, 26, 27, 28, 29, 30, 31, 32, 33, 34, 35, 36, 37, 80, 81, 82, 83, 84, 85, 86, 87, 88, 89, 90, 91, 92, 93, 94, 95, 96, 97, 98, 99, 100, 101] (by decide +kernel) (by decide +kernel)
set_option maxRecDepth 20000 in
theorem gX3_lengthOf_X3_prepare : GoodIn wsX3_lengthOf (wsV RX3 37 RX3 yX3_prepare wsX3_prepare) := goodIn_app (goodIn_of _ (by decide +kernel)) ggX3_lengthOf_X3_prepare
set_option maxRecDepth 20000 in
theorem ggX3_lengthOf_X3_search : GoodIn wsX3_lengthOf wsX3_search := goodIn_r _ [41, 11, 42, 43, 44, 45, 7, 46, 47, 48, 49, 50, 51, 52, 13, 53, 54, 55, 30, 56, 57, 58, 59, 32, 33, 60, 61, 15, 16, 17, 18, 19, 20, 62, 63, 64, 65, 66, 67, 68, 69, 70, 71, 72, 73, 74, 9, 75, 76, 77, 78, 14, 38, 39, 40, 79, 90, 91, 92, 93, 94, 95, 96, 97, 98, 99, 100, 101] (by decide +kernel) (by decide +kernel)
set_option maxRecDepth 20000 in
theorem gX3_lengthOf_X3_search : GoodIn wsX3_lengthOf (wsV RX3 52 RX3 yX3_search wsX3_search) := goodIn_app (goodIn_of _ (by decide +kernel)) ggX3_lengthOf_X3_search
theorem dX3_lengthOf_0 : decode cX3_lengthOf 0 = .ok (.aload_n 0, 1) := by decide +kernel
theorem dX3_lengthOf_1 : decode cX3_lengthOf 1 = .ok (.aload_n 1, 1) := by decide +kernel
theorem dX3_lengthOf_2 : decode cX3_lengthOf 2 = .ok (.invokevirtual 37, 3) := by decide +kernel
theorem dX3_lengthOf_5 : decode cX3_lengthOf 5 = .ok (.aload_n 0, 1) := by decide +kernel
theorem dX3_lengthOf_6 : decode cX3_lengthOf 6 = .ok (.aload_n 1, 1) := by decide +kernel
theorem dX3_lengthOf_7 : decode cX3_lengthOf 7 = .ok (.getfield 41, 3) := by decide +kernel
theorem dX3_lengthOf_10 : decode cX3_lengthOf 10 = .ok (.aload_n 1, 1) := by decide +kernel
theorem dX3_lengthOf_11 : decode cX3_lengthOf 11 = .ok (.getfield 46, 3) := by decide +kernel
theorem dX3_lengthOf_14 : decode cX3_lengthOf 14 = .ok (.aload_n 1, 1) := by decide +kernel
theorem dX3_lengthOf_15 : decode cX3_lengthOf 15 = .ok (.getfield 49, 3) := by decide +kernel
theorem dX3_lengthOf_18 : decode cX3_lengthOf 18 = .ok (.iconst 0, 1) := by decide +kernel
theorem dX3_lengthOf_19 : decode cX3_lengthOf 19 = .ok (.invokevirtual 52, 3) := by decide +kernel
theorem dX3_lengthOf_22 : decode cX3_lengthOf 22 = .ok (.ireturn, 1) := by decide +kernel
set_option maxRecDepth 20000 in
theorem ggX3_bestMove_X3_prepare : GoodIn wsX3_bestMove wsX3_prepare := goodIn_r _ [8, 2, 3, 1, 9, 10, 11, 12, 13, 14, 15, 16, 17, 18, 19, 20, 21, 22, 23, 24, 25, 26, 27, 28, 29, 30, 31, 32, 33, 34, 35, 36, 37, 90, 91, 92, 93, 94, 95, 96, 97, 98, 99, 100, 101, 102, 103, 104, 105, 106, 107, 108, 109, 110, 111] (by decide +kernel) (by decide +kernel)
set_option maxRecDepth 20000 in
theorem gX3_bestMove_X3_prepare : GoodIn wsX3_bestMove (wsV RX3 37 RX3 yX3_prepare wsX3_prepare) := goodIn_app (goodIn_of _ (by decide +kernel)) ggX3_bestMove_X3_prepare
set_option maxRecDepth 20000 in
theorem ggX3_bestMove_X4_freeCells : GoodIn wsX3_bestMove wsX4_freeCells := goodIn_r _ [41, 42, 43, 44, 22, 23, 24, 25, 26, 90, 91, 92, 93, 94, 95, 96, 97, 98, 99] (by decide +kernel) (by decide +kernel)
set_option maxRecDepth 20000 in
theorem gX3_bestMove_X4_freeCells : GoodIn wsX3_bestMove (wsV RX3 56 RX4 yX4_freeCells wsX4_freeCells) := goodIn_app (goodIn_of _ (by decide +kernel)) ggX3_bestMove_X4_freeCells
set_option maxRecDepth 20000 in
theorem ggX3_bestMove_X3_search : GoodIn wsX3_bestMove wsX3_search := goodIn_r _ [48, 11, 49, 50, 51, 52, 7, 53, 54, 55, 56, 57, 58, 59, 13, 60, 61, 62, 30, 63, 64, 65, 66, 32, 33, 67, 68, 15, 16, 17, 18, 19, 20, 69, 70, 71, 72, 73, 74, 75, 76, 77, 78, 79, 80, 81, 9, 82, 83, 84, 85, 14, 45, 46, 47, 86, 100, 101, 102, 103, 104, 105, 106, 107, 108, 109, 110, 111] (by decide +kernel) (by decide +kernel)
set_option maxRecDepth 20000 in
theorem gX3_bestMove_X3_search : GoodIn wsX3_bestMove (wsV RX3 52 RX3 yX3_search wsX3_search) := goodIn_app (goodIn_of _ (by decide +kernel)) ggX3_bestMove_X3_search
set_option maxRecDepth 20000 in
theorem ggX3_bestMove_X3_rankOf : GoodIn wsX3_bestMove wsX3_rankOf := goodIn_r _ [89] (by decide +kernel) (by decide +kernel)
set_option maxRecDepth 20000 in
theorem gX3_bestMove_X3_rankOf : GoodIn wsX3_bestMove (va_wsS RX3 60 yX3_rankOf wsX3_rankOf) := goodIn_app (goodIn_of _ (by decide +kernel)) ggX3_bestMove_X3_rankOf
theorem dX3_bestMove_0 : decode cX3_bestMove 0 = .ok (.aload_n 0, 1) := by decide +kernel
theorem dX3_bestMove_1 : decode cX3_bestMove 1 = .ok (.aload_n 1, 1) := by decide +kernel
theorem dX3_bestMove_2 : decode cX3_bestMove 2 = .ok (.invokevirtual 37, 3) := by decide +kernel
theorem dX3_bestMove_5 : decode cX3_bestMove 5 = .ok (.aload_n 1, 1) := by decide +kernel
theorem dX3_bestMove_6 : decode cX3_bestMove 6 = .ok (.getfield 49, 3) := by decide +kernel
theorem dX3_bestMove_9 : decode cX3_bestMove 9 = .ok (.istore_n 2, 1) := by decide +kernel
theorem dX3_bestMove_10 : decode cX3_bestMove 10 = .ok (.aload_n 1, 1) := by decide +kernel
theorem dX3_bestMove_11 : decode cX3_bestMove 11 = .ok (.invokevirtual 56, 3) := by decide +kernel
theorem dX3_bestMove_14 : decode cX3_bestMove 14 = .ok (.istore_n 3, 1) := by decide +kernel
theorem dX3_bestMove_15 : decode cX3_bestMove 15 = .ok (.iconst (-1), 1) := by decide +kernel
theorem dX3_bestMove_16 : decode cX3_bestMove 16 = .ok (.istore 4, 2) := by decide +kernel
theorem dX3_bestMove_18 : decode cX3_bestMove 18 = .ok (.iconst (-1), 1) := by decide +kernel
theorem dX3_bestMove_19 : decode cX3_bestMove 19 = .ok (.istore 5, 2) := by decide +kernel
theorem dX3_bestMove_21 : decode cX3_bestMove 21 = .ok (.iconst 0, 1) := by decide +kernel
theorem dX3_bestMove_22 : decode cX3_bestMove 22 = .ok (.istore 6, 2) := by decide +kernel
theorem dX3_bestMove_24 : decode cX3_bestMove 24 = .ok (.iload 6, 2) := by decide +kernel
theorem dX3_bestMove_26 : decode cX3_bestMove 26 = .ok (.bipush 10, 2) := by decide +kernel
theorem dX3_bestMove_28 : decode cX3_bestMove 28 = .ok (.if_icmp .ge 101, 3) := by decide +kernel
theorem dX3_bestMove_31 : decode cX3_bestMove 31 = .ok (.iload_n 3, 1) := by decide +kernel
theorem dX3_bestMove_32 : decode cX3_bestMove 32 = .ok (.iconst 1, 1) := by decide +kernel
theorem dX3_bestMove_33 : decode cX3_bestMove 33 = .ok (.iload 6, 2) := by decide +kernel
theorem dX3_bestMove_35 : decode cX3_bestMove 35 = .ok (.ishl, 1) := by decide +kernel
theorem dX3_bestMove_36 : decode cX3_bestMove 36 = .ok (.iand, 1) := by decide +kernel
theorem dX3_bestMove_37 : decode cX3_bestMove 37 = .ok (.istore 7, 2) := by decide +kernel
theorem dX3_bestMove_39 : decode cX3_bestMove 39 = .ok (.iload 7, 2) := by decide +kernel
theorem dX3_bestMove_41 : decode cX3_bestMove 41 = .ok (.ifCond .eq 82, 3) := by decide +kernel
theorem dX3_bestMove_44 : decode cX3_bestMove 44 = .ok (.iload_n 2, 1) := by decide +kernel
theorem dX3_bestMove_45 : decode cX3_bestMove 45 = .ok (.ifCond .eq 13, 3) := by decide +kernel
theorem dX3_bestMove_48 : decode cX3_bestMove 48 = .ok (.aload_n 1, 1) := by decide +kernel
theorem dX3_bestMove_49 : decode cX3_bestMove 49 = .ok (.getfield 41, 3) := by decide +kernel
theorem dX3_bestMove_52 : decode cX3_bestMove 52 = .ok (.iload 7, 2) := by decide +kernel
theorem dX3_bestMove_54 : decode cX3_bestMove 54 = .ok (.ior, 1) := by decide +kernel
theorem dX3_bestMove_55 : decode cX3_bestMove 55 = .ok (.goto 7, 3) := by decide +kernel
theorem dX3_bestMove_58 : decode cX3_bestMove 58 = .ok (.aload_n 1, 1) := by decide +kernel
theorem dX3_bestMove_59 : decode cX3_bestMove 59 = .ok (.getfield 41, 3) := by decide +kernel
theorem dX3_bestMove_62 : decode cX3_bestMove 62 = .ok (.istore 8, 2) := by decide +kernel
theorem dX3_bestMove_64 : decode cX3_bestMove 64 = .ok (.iload_n 2, 1) := by decide +kernel
theorem dX3_bestMove_65 : decode cX3_bestMove 65 = .ok (.ifCond .eq 10, 3) := by decide +kernel
theorem dX3_bestMove_68 : decode cX3_bestMove 68 = .ok (.aload_n 1, 1) := by decide +kernel
theorem dX3_bestMove_69 : decode cX3_bestMove 69 = .ok (.getfield 46, 3) := by decide +kernel
theorem dX3_bestMove_72 : decode cX3_bestMove 72 = .ok (.goto 10, 3) := by decide +kernel
theorem dX3_bestMove_75 : decode cX3_bestMove 75 = .ok (.aload_n 1, 1) := by decide +kernel
theorem dX3_bestMove_76 : decode cX3_bestMove 76 = .ok (.getfield 46, 3) := by decide +kernel
theorem dX3_bestMove_79 : decode cX3_bestMove 79 = .ok (.iload 7, 2) := by decide +kernel
theorem dX3_bestMove_81 : decode cX3_bestMove 81 = .ok (.ior, 1) := by decide +kernel
theorem dX3_bestMove_82 : decode cX3_bestMove 82 = .ok (.istore 9, 2) := by decide +kernel
theorem dX3_bestMove_84 : decode cX3_bestMove 84 = .ok (.aload_n 0, 1) := by decide +kernel
theorem dX3_bestMove_85 : decode cX3_bestMove 85 = .ok (.iload 8, 2) := by decide +kernel
theorem dX3_bestMove_87 : decode cX3_bestMove 87 = .ok (.iload 9, 2) := by decide +kernel
theorem dX3_bestMove_89 : decode cX3_bestMove 89 = .ok (.iload_n 2, 1) := by decide +kernel
theorem dX3_bestMove_90 : decode cX3_bestMove 90 = .ok (.ifCond .ne 7, 3) := by decide +kernel
theorem dX3_bestMove_93 : decode cX3_bestMove 93 = .ok (.iconst 1, 1) := by decide +kernel
theorem dX3_bestMove_94 : decode cX3_bestMove 94 = .ok (.goto 4, 3) := by decide +kernel
theorem dX3_bestMove_97 : decode cX3_bestMove 97 = .ok (.iconst 0, 1) := by decide +kernel
theorem dX3_bestMove_98 : decode cX3_bestMove 98 = .ok (.iconst 1, 1) := by decide +kernel
theorem dX3_bestMove_99 : decode cX3_bestMove 99 = .ok (.invokevirtual 52, 3) := by decide +kernel
theorem dX3_bestMove_102 : decode cX3_bestMove 102 = .ok (.iload_n 2, 1) := by decide +kernel
theorem dX3_bestMove_103 : decode cX3_bestMove 103 = .ok (.invokestatic 60, 3) := by decide +kernel
theorem dX3_bestMove_106 : decode cX3_bestMove 106 = .ok (.istore 10, 2) := by decide +kernel
theorem dX3_bestMove_108 : decode cX3_bestMove 108 = .ok (.iload 10, 2) := by decide +kernel
theorem dX3_bestMove_110 : decode cX3_bestMove 110 = .ok (.iload 5, 2) := by decide +kernel
theorem dX3_bestMove_112 : decode cX3_bestMove 112 = .ok (.if_icmp .le 11, 3) := by decide +kernel
theorem dX3_bestMove_115 : decode cX3_bestMove 115 = .ok (.iload 10, 2) := by decide +kernel
theorem dX3_bestMove_117 : decode cX3_bestMove 117 = .ok (.istore 5, 2) := by decide +kernel
theorem dX3_bestMove_119 : decode cX3_bestMove 119 = .ok (.iload 6, 2) := by decide +kernel
theorem dX3_bestMove_121 : decode cX3_bestMove 121 = .ok (.istore 4, 2) := by decide +kernel
theorem dX3_bestMove_123 : decode cX3_bestMove 123 = .ok (.iinc 6 1, 3) := by decide +kernel
theorem dX3_bestMove_126 : decode cX3_bestMove 126 = .ok (.goto (-102), 3) := by decide +kernel
theorem dX3_bestMove_129 : decode cX3_bestMove 129 = .ok (.iload 4, 2) := by decide +kernel
theorem dX3_bestMove_131 : decode cX3_bestMove 131 = .ok (.ireturn, 1) := by decide +kernel
theorem dX3_rankOf_0 : decode cX3_rankOf 0 = .ok (.iload_n 1, 1) := by decide +kernel
theorem dX3_rankOf_1 : decode cX3_rankOf 1 = .ok (.ifCond .eq 17, 3) := by decide +kernel
theorem dX3_rankOf_4 : decode cX3_rankOf 4 = .ok (.iload_n 0, 1) := by decide +kernel
theorem dX3_rankOf_5 : decode cX3_rankOf 5 = .ok (.iconst (-1), 1) := by decide +kernel
theorem dX3_rankOf_6 : decode cX3_rankOf 6 = .ok (.if_icmp .ne 7, 3) := by decide +kernel
theorem dX3_rankOf_9 : decode cX3_rankOf 9 = .ok (.iconst 0, 1) := by decide +kernel
theorem dX3_rankOf_10 : decode cX3_rankOf 10 = .ok (.goto 7, 3) := by decide +kernel
theorem dX3_rankOf_13 : decode cX3_rankOf 13 = .ok (.bipush 100, 2) := by decide +kernel
theorem dX3_rankOf_15 : decode cX3_rankOf 15 = .ok (.iload_n 0, 1) := by decide +kernel
theorem dX3_rankOf_16 : decode cX3_rankOf 16 = .ok (.isub, 1) := by decide +kernel
theorem dX3_rankOf_17 : decode cX3_rankOf 17 = .ok (.ireturn, 1) := by decide +kernel
theorem dX3_rankOf_18 : decode cX3_rankOf 18 = .ok (.iload_n 0, 1) := by decide +kernel
theorem dX3_rankOf_19 : decode cX3_rankOf 19 = .ok (.iconst (-1), 1) := by decide +kernel
theorem dX3_rankOf_20 : decode cX3_rankOf 20 = .ok (.if_icmp .ne 8, 3) := by decide +kernel
theorem dX3_rankOf_23 : decode cX3_rankOf 23 = .ok (.bipush 100, 2) := by decide +kernel
theorem dX3_rankOf_25 : decode cX3_rankOf 25 = .ok (.goto 4, 3) := by decide +kernel
theorem dX3_rankOf_28 : decode cX3_rankOf 28 = .ok (.iload_n 0, 1) := by decide +kernel
theorem dX3_rankOf_29 : decode cX3_rankOf 29 = .ok (.ireturn, 1) := by decide +kernel
set_option maxRecDepth 20000 in
theorem ggX3_prepare_J6_bitCount_0f7a4 : GoodIn wsX3_prepare wsJ6_bitCount_0f7a4 := goodIn_r _ [12, 13, 14, 15] (by decide +kernel) (by decide +kernel)
set_option maxRecDepth 20000 in
theorem gX3_prepare_J6_bitCount_0f7a4 : GoodIn wsX3_prepare (va_wsS RX3 64 yJ6_bitCount_0f7a4 wsJ6_bitCount_0f7a4) := goodIn_app (goodIn_of _ (by decide +kernel)) ggX3_prepare_J6_bitCount_0f7a4
set_option maxRecDepth 20000 in
theorem ggX3_prepare_X4_allCells : GoodIn wsX3_prepare wsX4_allCells := goodIn_r _ [20, 21, 33, 34, 35, 36, 37, 38, 39, 40, 41, 42] (by decide +kernel) (by decide +kernel)
set_option maxRecDepth 20000 in
theorem gX3_prepare_X4_allCells : GoodIn wsX3_prepare (wsV RX3 70 RX4 yX4_allCells wsX4_allCells) := goodIn_app (goodIn_of _ (by decide +kernel)) ggX3_prepare_X4_allCells
set_option maxRecDepth 20000 in
theorem ggX3_prepare_X1_areSame : GoodIn wsX3_prepare wsX1_areSame := goodIn_r _ [26, 27, 28, 49, 50, 51, 52, 53, 54] (by decide +kernel) (by decide +kernel)
set_option maxRecDepth 20000 in
theorem gX3_prepare_X1_areSame : GoodIn wsX3_prepare (wsV RX3 73 RX1 yX1_areSame wsX1_areSame) := goodIn_app (goodIn_of _ (by decide +kernel)) ggX3_prepare_X1_areSame
set_option maxRecDepth 20000 in
theorem ggX3_prepare_X1_copy : GoodIn wsX3_prepare wsX1_copy := goodIn_r _ [32, 27, 28, 49, 50, 51, 52, 53, 54] (by decide +kernel) (by decide +kernel)
set_option maxRecDepth 20000 in
theorem gX3_prepare_X1_copy : GoodIn wsX3_prepare (wsV RX3 77 RX1 yX1_copy wsX1_copy) := goodIn_app (goodIn_of _ (by decide +kernel)) ggX3_prepare_X1_copy
theorem dX3_prepare_0 : decode cX3_prepare 0 = .ok (.aload_n 1, 1) := by decide +kernel
theorem dX3_prepare_1 : decode cX3_prepare 1 = .ok (.getfield 41, 3) := by decide +kernel
theorem dX3_prepare_4 : decode cX3_prepare 4 = .ok (.aload_n 1, 1) := by decide +kernel
theorem dX3_prepare_5 : decode cX3_prepare 5 = .ok (.getfield 46, 3) := by decide +kernel
theorem dX3_prepare_8 : decode cX3_prepare 8 = .ok (.ior, 1) := by decide +kernel
theorem dX3_prepare_9 : decode cX3_prepare 9 = .ok (.invokestatic 64, 3) := by decide +kernel
theorem dX3_prepare_12 : decode cX3_prepare 12 = .ok (.istore_n 2, 1) := by decide +kernel
theorem dX3_prepare_13 : decode cX3_prepare 13 = .ok (.aload_n 1, 1) := by decide +kernel
theorem dX3_prepare_14 : decode cX3_prepare 14 = .ok (.getfield 49, 3) := by decide +kernel
theorem dX3_prepare_17 : decode cX3_prepare 17 = .ok (.iload_n 2, 1) := by decide +kernel
theorem dX3_prepare_18 : decode cX3_prepare 18 = .ok (.iconst 1, 1) := by decide +kernel
theorem dX3_prepare_19 : decode cX3_prepare 19 = .ok (.iand, 1) := by decide +kernel
theorem dX3_prepare_20 : decode cX3_prepare 20 = .ok (.ifCond .ne 7, 3) := by decide +kernel
theorem dX3_prepare_23 : decode cX3_prepare 23 = .ok (.iconst 1, 1) := by decide +kernel
theorem dX3_prepare_24 : decode cX3_prepare 24 = .ok (.goto 4, 3) := by decide +kernel
theorem dX3_prepare_27 : decode cX3_prepare 27 = .ok (.iconst 0, 1) := by decide +kernel
theorem dX3_prepare_28 : decode cX3_prepare 28 = .ok (.if_icmp .ne 7, 3) := by decide +kernel
theorem dX3_prepare_31 : decode cX3_prepare 31 = .ok (.iconst 1, 1) := by decide +kernel
theorem dX3_prepare_32 : decode cX3_prepare 32 = .ok (.goto 4, 3) := by decide +kernel
theorem dX3_prepare_35 : decode cX3_prepare 35 = .ok (.iconst 0, 1) := by decide +kernel
theorem dX3_prepare_36 : decode cX3_prepare 36 = .ok (.istore_n 3, 1) := by decide +kernel
theorem dX3_prepare_37 : decode cX3_prepare 37 = .ok (.aload_n 0, 1) := by decide +kernel
theorem dX3_prepare_38 : decode cX3_prepare 38 = .ok (.getfield 18, 3) := by decide +kernel
theorem dX3_prepare_41 : decode cX3_prepare 41 = .ok (.aload_n 1, 1) := by decide +kernel
theorem dX3_prepare_42 : decode cX3_prepare 42 = .ok (.invokevirtual 70, 3) := by decide +kernel
theorem dX3_prepare_45 : decode cX3_prepare 45 = .ok (.if_icmp .ne 15, 3) := by decide +kernel
theorem dX3_prepare_48 : decode cX3_prepare 48 = .ok (.aload_n 0, 1) := by decide +kernel
theorem dX3_prepare_49 : decode cX3_prepare 49 = .ok (.getfield 22, 3) := by decide +kernel
theorem dX3_prepare_52 : decode cX3_prepare 52 = .ok (.iload_n 3, 1) := by decide +kernel
theorem dX3_prepare_53 : decode cX3_prepare 53 = .ok (.if_icmp .ne 7, 3) := by decide +kernel
theorem dX3_prepare_56 : decode cX3_prepare 56 = .ok (.iconst 1, 1) := by decide +kernel
theorem dX3_prepare_57 : decode cX3_prepare 57 = .ok (.goto 4, 3) := by decide +kernel
theorem dX3_prepare_60 : decode cX3_prepare 60 = .ok (.iconst 0, 1) := by decide +kernel
theorem dX3_prepare_61 : decode cX3_prepare 61 = .ok (.istore 4, 2) := by decide +kernel
theorem dX3_prepare_63 : decode cX3_prepare 63 = .ok (.iload 4, 2) := by decide +kernel
theorem dX3_prepare_65 : decode cX3_prepare 65 = .ok (.ifCond .eq 17, 3) := by decide +kernel
theorem dX3_prepare_68 : decode cX3_prepare 68 = .ok (.aload_n 0, 1) := by decide +kernel
theorem dX3_prepare_69 : decode cX3_prepare 69 = .ok (.getfield 12, 3) := by decide +kernel
theorem dX3_prepare_72 : decode cX3_prepare 72 = .ok (.aload_n 1, 1) := by decide +kernel
theorem dX3_prepare_73 : decode cX3_prepare 73 = .ok (.getfield 72, 3) := by decide +kernel
theorem dX3_prepare_76 : decode cX3_prepare 76 = .ok (.invokevirtual 73, 3) := by decide +kernel
theorem dX3_prepare_79 : decode cX3_prepare 79 = .ok (.ifCond .ne 37, 3) := by decide +kernel
theorem dX3_prepare_82 : decode cX3_prepare 82 = .ok (.aload_n 0, 1) := by decide +kernel
theorem dX3_prepare_83 : decode cX3_prepare 83 = .ok (.getfield 12, 3) := by decide +kernel
theorem dX3_prepare_86 : decode cX3_prepare 86 = .ok (.aload_n 1, 1) := by decide +kernel
theorem dX3_prepare_87 : decode cX3_prepare 87 = .ok (.getfield 72, 3) := by decide +kernel
theorem dX3_prepare_90 : decode cX3_prepare 90 = .ok (.invokevirtual 77, 3) := by decide +kernel
theorem dX3_prepare_93 : decode cX3_prepare 93 = .ok (.aload_n 0, 1) := by decide +kernel
theorem dX3_prepare_94 : decode cX3_prepare 94 = .ok (.aload_n 1, 1) := by decide +kernel
theorem dX3_prepare_95 : decode cX3_prepare 95 = .ok (.invokevirtual 70, 3) := by decide +kernel
theorem dX3_prepare_98 : decode cX3_prepare 98 = .ok (.putfield 18, 3) := by decide +kernel
theorem dX3_prepare_101 : decode cX3_prepare 101 = .ok (.aload_n 0, 1) := by decide +kernel
theorem dX3_prepare_102 : decode cX3_prepare 102 = .ok (.iload_n 3, 1) := by decide +kernel
theorem dX3_prepare_103 : decode cX3_prepare 103 = .ok (.putfield 22, 3) := by decide +kernel
theorem dX3_prepare_106 : decode cX3_prepare 106 = .ok (.aload_n 0, 1) := by decide +kernel
theorem dX3_prepare_107 : decode cX3_prepare 107 = .ok (.dup, 1) := by decide +kernel
theorem dX3_prepare_108 : decode cX3_prepare 108 = .ok (.getfield 31, 3) := by decide +kernel
theorem dX3_prepare_111 : decode cX3_prepare 111 = .ok (.iconst 1, 1) := by decide +kernel
theorem dX3_prepare_112 : decode cX3_prepare 112 = .ok (.iadd, 1) := by decide +kernel
theorem dX3_prepare_113 : decode cX3_prepare 113 = .ok (.putfield 31, 3) := by decide +kernel
theorem dX3_prepare_116 : decode cX3_prepare 116 = .ok (.return_, 1) := by decide +kernel
set_option maxRecDepth 20000 in
theorem ggX3_search_X3_placeOf : GoodIn wsX3_search wsX3_placeOf := goodIn_r _ [7, 8, 56, 57, 58, 59, 60, 61] (by decide +kernel) (by decide +kernel)
set_option maxRecDepth 20000 in
theorem gX3_search_X3_placeOf : GoodIn wsX3_search (wsV RX3 81 RX3 yX3_placeOf wsX3_placeOf) := goodIn_app (goodIn_of _ (by decide +kernel)) ggX3_search_X3_placeOf
set_option maxRecDepth 20000 in
theorem ggX3_search_X3_recall : GoodIn wsX3_search wsX3_recall := goodIn_r _ [12, 13, 14, 56, 57, 58, 59, 60, 61] (by decide +kernel) (by decide +kernel)
set_option maxRecDepth 20000 in
theorem gX3_search_X3_recall : GoodIn wsX3_search (wsV RX3 85 RX3 yX3_recall wsX3_recall) := goodIn_app (goodIn_of _ (by decide +kernel)) ggX3_search_X3_recall
set_option maxRecDepth 20000 in
theorem ggX3_search_X1_survey : GoodIn wsX3_search wsX1_survey := goodIn_r _ [19, 20, 21, 22, 23, 24, 25, 26, 27, 28, 29, 30, 31, 32, 62, 63, 64, 65, 66, 67] (by decide +kernel) (by decide +kernel)
set_option maxRecDepth 20000 in
theorem gX3_search_X1_survey : GoodIn wsX3_search (wsV RX3 88 RX1 yX1_survey wsX1_survey) := goodIn_app (goodIn_of _ (by decide +kernel)) ggX3_search_X1_survey
set_option maxRecDepth 20000 in
theorem ggX3_search_X3_shortest : GoodIn wsX3_search wsX3_shortest := goodIn_r _ [55, 1, 45, 46, 52, 53, 54, 6, 43, 44, 47, 48, 49, 50, 51, 27, 28, 29, 30, 31, 32, 0, 2, 3, 4, 5, 7, 8, 9, 10, 11, 12, 13, 14, 15, 16, 17, 18, 19, 20, 21, 22, 23, 24, 25, 26, 33, 34, 35, 36, 37, 38, 39, 40, 41, 42, 56, 57, 58, 59, 60, 61, 62, 63, 64, 65, 66, 67] (by decide +kernel) (by decide +kernel)
set_option maxRecDepth 20000 in
theorem gX3_search_X3_shortest : GoodIn wsX3_search (wsV RX3 95 RX3 yX3_shortest wsX3_shortest) := goodIn_app (goodIn_of _ (by decide +kernel)) ggX3_search_X3_shortest
set_option maxRecDepth 20000 in
theorem ggX3_search_X3_longest : GoodIn wsX3_search wsX3_longest := goodIn_r _ [43, 1, 44, 45, 46, 47, 48, 49, 50, 51, 27, 28, 29, 30, 31, 32, 52, 53, 54, 6, 0, 2, 3, 4, 5, 7, 8, 9, 10, 11, 12, 13, 14, 15, 16, 17, 18, 19, 20, 21, 22, 23, 24, 25, 26, 33, 34, 35, 36, 37, 38, 39, 40, 41, 42, 55, 56, 57, 58, 59, 60, 61, 62, 63, 64, 65, 66, 67] (by decide +kernel) (by decide +kernel)
set_option maxRecDepth 20000 in
theorem gX3_search_X3_longest : GoodIn wsX3_search (wsV RX3 99 RX3 yX3_longest wsX3_longest) := goodIn_app (goodIn_of _ (by decide +kernel)) ggX3_search_X3_longest
set_option maxRecDepth 20000 in
theorem ggX3_search_X3_keep : GoodIn wsX3_search wsX3_keep := goodIn_r _ [42, 13, 14, 56, 57, 58, 59, 60, 61] (by decide +kernel) (by decide +kernel)
set_option maxRecDepth 20000 in
theorem gX3_search_X3_keep : GoodIn wsX3_search (wsV RX3 102 RX3 yX3_keep wsX3_keep) := goodIn_app (goodIn_of _ (by decide +kernel)) ggX3_search_X3_keep
theorem dX3_search_0 : decode cX3_search 0 = .ok (.iload 4, 2) := by decide +kernel
theorem dX3_search_2 : decode cX3_search 2 = .ok (.bipush 10, 2) := by decide +kernel
theorem dX3_search_4 : decode cX3_search 4 = .ok (.if_icmp .le 5, 3) := by decide +kernel
theorem dX3_search_7 : decode cX3_search 7 = .ok (.iconst (-1), 1) := by decide +kernel
theorem dX3_search_8 : decode cX3_search 8 = .ok (.ireturn, 1) := by decide +kernel
theorem dX3_search_9 : decode cX3_search 9 = .ok (.aload_n 0, 1) := by decide +kernel
theorem dX3_search_10 : decode cX3_search 10 = .ok (.iload_n 1, 1) := by decide +kernel
theorem dX3_search_11 : decode cX3_search 11 = .ok (.iload_n 2, 1) := by decide +kernel
theorem dX3_search_12 : decode cX3_search 12 = .ok (.invokevirtual 81, 3) := by decide +kernel
theorem dX3_search_15 : decode cX3_search 15 = .ok (.istore 5, 2) := by decide +kernel
theorem dX3_search_17 : decode cX3_search 17 = .ok (.aload_n 0, 1) := by decide +kernel
theorem dX3_search_18 : decode cX3_search 18 = .ok (.iload 5, 2) := by decide +kernel
theorem dX3_search_20 : decode cX3_search 20 = .ok (.invokevirtual 85, 3) := by decide +kernel
theorem dX3_search_23 : decode cX3_search 23 = .ok (.istore 6, 2) := by decide +kernel
theorem dX3_search_25 : decode cX3_search 25 = .ok (.iload 6, 2) := by decide +kernel
theorem dX3_search_27 : decode cX3_search 27 = .ok (.bipush (-2), 2) := by decide +kernel
theorem dX3_search_29 : decode cX3_search 29 = .ok (.if_icmp .ne 78, 3) := by decide +kernel
theorem dX3_search_32 : decode cX3_search 32 = .ok (.aload_n 0, 1) := by decide +kernel
theorem dX3_search_33 : decode cX3_search 33 = .ok (.getfield 12, 3) := by decide +kernel
theorem dX3_search_36 : decode cX3_search 36 = .ok (.iload_n 1, 1) := by decide +kernel
theorem dX3_search_37 : decode cX3_search 37 = .ok (.iload_n 2, 1) := by decide +kernel
theorem dX3_search_38 : decode cX3_search 38 = .ok (.invokevirtual 88, 3) := by decide +kernel
theorem dX3_search_41 : decode cX3_search 41 = .ok (.aload_n 0, 1) := by decide +kernel
theorem dX3_search_42 : decode cX3_search 42 = .ok (.getfield 12, 3) := by decide +kernel
theorem dX3_search_45 : decode cX3_search 45 = .ok (.getfield 92, 3) := by decide +kernel
theorem dX3_search_48 : decode cX3_search 48 = .ok (.ifCond .eq 24, 3) := by decide +kernel
theorem dX3_search_51 : decode cX3_search 51 = .ok (.aload_n 0, 1) := by decide +kernel
theorem dX3_search_52 : decode cX3_search 52 = .ok (.getfield 12, 3) := by decide +kernel
theorem dX3_search_55 : decode cX3_search 55 = .ok (.getfield 92, 3) := by decide +kernel
theorem dX3_search_58 : decode cX3_search 58 = .ok (.iconst 1, 1) := by decide +kernel
theorem dX3_search_59 : decode cX3_search 59 = .ok (.if_icmp .ne 7, 3) := by decide +kernel
theorem dX3_search_62 : decode cX3_search 62 = .ok (.iconst 0, 1) := by decide +kernel
theorem dX3_search_63 : decode cX3_search 63 = .ok (.goto 4, 3) := by decide +kernel
theorem dX3_search_66 : decode cX3_search 66 = .ok (.iconst (-1), 1) := by decide +kernel
theorem dX3_search_67 : decode cX3_search 67 = .ok (.istore 6, 2) := by decide +kernel
theorem dX3_search_69 : decode cX3_search 69 = .ok (.goto 30, 3) := by decide +kernel
theorem dX3_search_72 : decode cX3_search 72 = .ok (.iload_n 3, 1) := by decide +kernel
theorem dX3_search_73 : decode cX3_search 73 = .ok (.ifCond .eq 16, 3) := by decide +kernel
theorem dX3_search_76 : decode cX3_search 76 = .ok (.aload_n 0, 1) := by decide +kernel
theorem dX3_search_77 : decode cX3_search 77 = .ok (.iload_n 1, 1) := by decide +kernel
theorem dX3_search_78 : decode cX3_search 78 = .ok (.iload_n 2, 1) := by decide +kernel
theorem dX3_search_79 : decode cX3_search 79 = .ok (.iload 4, 2) := by decide +kernel
theorem dX3_search_81 : decode cX3_search 81 = .ok (.invokevirtual 95, 3) := by decide +kernel
theorem dX3_search_84 : decode cX3_search 84 = .ok (.istore 6, 2) := by decide +kernel
theorem dX3_search_86 : decode cX3_search 86 = .ok (.goto 13, 3) := by decide +kernel
theorem dX3_search_89 : decode cX3_search 89 = .ok (.aload_n 0, 1) := by decide +kernel
theorem dX3_search_90 : decode cX3_search 90 = .ok (.iload_n 1, 1) := by decide +kernel
theorem dX3_search_91 : decode cX3_search 91 = .ok (.iload_n 2, 1) := by decide +kernel
theorem dX3_search_92 : decode cX3_search 92 = .ok (.iload 4, 2) := by decide +kernel
theorem dX3_search_94 : decode cX3_search 94 = .ok (.invokevirtual 99, 3) := by decide +kernel
theorem dX3_search_97 : decode cX3_search 97 = .ok (.istore 6, 2) := by decide +kernel
theorem dX3_search_99 : decode cX3_search 99 = .ok (.aload_n 0, 1) := by decide +kernel
theorem dX3_search_100 : decode cX3_search 100 = .ok (.iload 5, 2) := by decide +kernel
theorem dX3_search_102 : decode cX3_search 102 = .ok (.iload 6, 2) := by decide +kernel
theorem dX3_search_104 : decode cX3_search 104 = .ok (.invokevirtual 102, 3) := by decide +kernel
theorem dX3_search_107 : decode cX3_search 107 = .ok (.iload 6, 2) := by decide +kernel
theorem dX3_search_109 : decode cX3_search 109 = .ok (.ireturn, 1) := by decide +kernel
set_option maxRecDepth 20000 in
theorem ggX3_shortest_X3_search : GoodIn wsX3_shortest wsX3_search := goodIn_r _ [21, 1, 22, 23, 24, 25, 7, 26, 27, 28, 29, 30, 31, 32, 33, 34, 35, 36, 37, 38, 39, 40, 41, 42, 43, 44, 45, 15, 16, 17, 18, 19, 20, 46, 47, 48, 49, 50, 51, 52, 53, 54, 55, 8, 9, 2, 3, 10, 11, 12, 13, 14, 4, 5, 6, 0, 56, 57, 58, 59, 60, 61, 62, 63, 64, 65, 66, 67] (by decide +kernel) (by decide +kernel)
set_option maxRecDepth 20000 in
theorem gX3_shortest_X3_search : GoodIn wsX3_shortest (wsV RX3 52 RX3 yX3_search wsX3_search) := goodIn_app (goodIn_of _ (by decide +kernel)) ggX3_shortest_X3_search
theorem dX3_shortest_0 : decode cX3_shortest 0 = .ok (.aload_n 0, 1) := by decide +kernel
theorem dX3_shortest_1 : decode cX3_shortest 1 = .ok (.getfield 12, 3) := by decide +kernel
theorem dX3_shortest_4 : decode cX3_shortest 4 = .ok (.getfield 105, 3) := by decide +kernel
theorem dX3_shortest_7 : decode cX3_shortest 7 = .ok (.ifCond .eq 5, 3) := by decide +kernel
theorem dX3_shortest_10 : decode cX3_shortest 10 = .ok (.iconst 1, 1) := by decide +kernel
theorem dX3_shortest_11 : decode cX3_shortest 11 = .ok (.ireturn, 1) := by decide +kernel
theorem dX3_shortest_12 : decode cX3_shortest 12 = .ok (.aload_n 0, 1) := by decide +kernel
theorem dX3_shortest_13 : decode cX3_shortest 13 = .ok (.getfield 18, 3) := by decide +kernel
theorem dX3_shortest_16 : decode cX3_shortest 16 = .ok (.iload_n 1, 1) := by decide +kernel
theorem dX3_shortest_17 : decode cX3_shortest 17 = .ok (.iload_n 2, 1) := by decide +kernel
theorem dX3_shortest_18 : decode cX3_shortest 18 = .ok (.ior, 1) := by decide +kernel
theorem dX3_shortest_19 : decode cX3_shortest 19 = .ok (.iconst (-1), 1) := by decide +kernel
theorem dX3_shortest_20 : decode cX3_shortest 20 = .ok (.ixor, 1) := by decide +kernel
theorem dX3_shortest_21 : decode cX3_shortest 21 = .ok (.iand, 1) := by decide +kernel
theorem dX3_shortest_22 : decode cX3_shortest 22 = .ok (.istore 4, 2) := by decide +kernel
theorem dX3_shortest_24 : decode cX3_shortest 24 = .ok (.iconst (-1), 1) := by decide +kernel
theorem dX3_shortest_25 : decode cX3_shortest 25 = .ok (.istore 5, 2) := by decide +kernel
theorem dX3_shortest_27 : decode cX3_shortest 27 = .ok (.iconst 0, 1) := by decide +kernel
theorem dX3_shortest_28 : decode cX3_shortest 28 = .ok (.istore 6, 2) := by decide +kernel
theorem dX3_shortest_30 : decode cX3_shortest 30 = .ok (.iload 6, 2) := by decide +kernel
theorem dX3_shortest_32 : decode cX3_shortest 32 = .ok (.bipush 10, 2) := by decide +kernel
theorem dX3_shortest_34 : decode cX3_shortest 34 = .ok (.if_icmp .ge 63, 3) := by decide +kernel
theorem dX3_shortest_37 : decode cX3_shortest 37 = .ok (.iload 4, 2) := by decide +kernel
theorem dX3_shortest_39 : decode cX3_shortest 39 = .ok (.iconst 1, 1) := by decide +kernel
theorem dX3_shortest_40 : decode cX3_shortest 40 = .ok (.iload 6, 2) := by decide +kernel
theorem dX3_shortest_42 : decode cX3_shortest 42 = .ok (.ishl, 1) := by decide +kernel
theorem dX3_shortest_43 : decode cX3_shortest 43 = .ok (.iand, 1) := by decide +kernel
theorem dX3_shortest_44 : decode cX3_shortest 44 = .ok (.ifCond .eq 47, 3) := by decide +kernel
theorem dX3_shortest_47 : decode cX3_shortest 47 = .ok (.aload_n 0, 1) := by decide +kernel
theorem dX3_shortest_48 : decode cX3_shortest 48 = .ok (.iload_n 1, 1) := by decide +kernel
theorem dX3_shortest_49 : decode cX3_shortest 49 = .ok (.iconst 1, 1) := by decide +kernel
theorem dX3_shortest_50 : decode cX3_shortest 50 = .ok (.iload 6, 2) := by decide +kernel
theorem dX3_shortest_52 : decode cX3_shortest 52 = .ok (.ishl, 1) := by decide +kernel
theorem dX3_shortest_53 : decode cX3_shortest 53 = .ok (.ior, 1) := by decide +kernel
theorem dX3_shortest_54 : decode cX3_shortest 54 = .ok (.iload_n 2, 1) := by decide +kernel
theorem dX3_shortest_55 : decode cX3_shortest 55 = .ok (.iconst 0, 1) := by decide +kernel
theorem dX3_shortest_56 : decode cX3_shortest 56 = .ok (.iload_n 3, 1) := by decide +kernel
theorem dX3_shortest_57 : decode cX3_shortest 57 = .ok (.iconst 1, 1) := by decide +kernel
theorem dX3_shortest_58 : decode cX3_shortest 58 = .ok (.iadd, 1) := by decide +kernel
theorem dX3_shortest_59 : decode cX3_shortest 59 = .ok (.invokevirtual 52, 3) := by decide +kernel
theorem dX3_shortest_62 : decode cX3_shortest 62 = .ok (.istore 7, 2) := by decide +kernel
theorem dX3_shortest_64 : decode cX3_shortest 64 = .ok (.iload 7, 2) := by decide +kernel
theorem dX3_shortest_66 : decode cX3_shortest 66 = .ok (.iconst (-1), 1) := by decide +kernel
theorem dX3_shortest_67 : decode cX3_shortest 67 = .ok (.if_icmp .eq 24, 3) := by decide +kernel
theorem dX3_shortest_70 : decode cX3_shortest 70 = .ok (.iload 5, 2) := by decide +kernel
theorem dX3_shortest_72 : decode cX3_shortest 72 = .ok (.iconst (-1), 1) := by decide +kernel
theorem dX3_shortest_73 : decode cX3_shortest 73 = .ok (.if_icmp .eq 12, 3) := by decide +kernel
theorem dX3_shortest_76 : decode cX3_shortest 76 = .ok (.iload 7, 2) := by decide +kernel
theorem dX3_shortest_78 : decode cX3_shortest 78 = .ok (.iconst 1, 1) := by decide +kernel
theorem dX3_shortest_79 : decode cX3_shortest 79 = .ok (.iadd, 1) := by decide +kernel
theorem dX3_shortest_80 : decode cX3_shortest 80 = .ok (.iload 5, 2) := by decide +kernel
theorem dX3_shortest_82 : decode cX3_shortest 82 = .ok (.if_icmp .ge 9, 3) := by decide +kernel
theorem dX3_shortest_85 : decode cX3_shortest 85 = .ok (.iload 7, 2) := by decide +kernel
theorem dX3_shortest_87 : decode cX3_shortest 87 = .ok (.iconst 1, 1) := by decide +kernel
theorem dX3_shortest_88 : decode cX3_shortest 88 = .ok (.iadd, 1) := by decide +kernel
theorem dX3_shortest_89 : decode cX3_shortest 89 = .ok (.istore 5, 2) := by decide +kernel
theorem dX3_shortest_91 : decode cX3_shortest 91 = .ok (.iinc 6 1, 3) := by decide +kernel
theorem dX3_shortest_94 : decode cX3_shortest 94 = .ok (.goto (-64), 3) := by decide +kernel
theorem dX3_shortest_97 : decode cX3_shortest 97 = .ok (.iload 5, 2) := by decide +kernel
theorem dX3_shortest_99 : decode cX3_shortest 99 = .ok (.ireturn, 1) := by decide +kernel
set_option maxRecDepth 20000 in
theorem ggX3_longest_J6_bitCount_0f7a4 : GoodIn wsX3_longest wsJ6_bitCount_0f7a4 := goodIn_r _ [12, 13, 14, 15] (by decide +kernel) (by decide +kernel)
set_option maxRecDepth 20000 in
theorem gX3_longest_J6_bitCount_0f7a4 : GoodIn wsX3_longest (va_wsS RX3 64 yJ6_bitCount_0f7a4 wsJ6_bitCount_0f7a4) := goodIn_app (goodIn_of _ (by decide +kernel)) ggX3_longest_J6_bitCount_0f7a4
set_option maxRecDepth 20000 in
theorem ggX3_longest_X3_search : GoodIn wsX3_longest wsX3_search := goodIn_r _ [20, 1, 21, 22, 23, 24, 19, 25, 26, 27, 28, 29, 30, 31, 32, 33, 34, 35, 36, 37, 38, 39, 40, 41, 42, 43, 44, 10, 11, 12, 13, 14, 15, 45, 46, 47, 48, 49, 50, 51, 52, 53, 54, 0, 2, 3, 4, 5, 6, 7, 8, 9, 16, 17, 18, 55, 56, 57, 58, 59, 60, 61, 62, 63, 64, 65, 66, 67] (by decide +kernel) (by decide +kernel)
set_option maxRecDepth 20000 in
theorem gX3_longest_X3_search : GoodIn wsX3_longest (wsV RX3 52 RX3 yX3_search wsX3_search) := goodIn_app (goodIn_of _ (by decide +kernel)) ggX3_longest_X3_search
theorem dX3_longest_0 : decode cX3_longest 0 = .ok (.aload_n 0, 1) := by decide +kernel
theorem dX3_longest_1 : decode cX3_longest 1 = .ok (.getfield 12, 3) := by decide +kernel
theorem dX3_longest_4 : decode cX3_longest 4 = .ok (.getfield 108, 3) := by decide +kernel
theorem dX3_longest_7 : decode cX3_longest 7 = .ok (.sipush 1024, 3) := by decide +kernel
theorem dX3_longest_10 : decode cX3_longest 10 = .ok (.if_icmp .ge 5, 3) := by decide +kernel
theorem dX3_longest_13 : decode cX3_longest 13 = .ok (.iconst (-1), 1) := by decide +kernel
theorem dX3_longest_14 : decode cX3_longest 14 = .ok (.ireturn, 1) := by decide +kernel
theorem dX3_longest_15 : decode cX3_longest 15 = .ok (.aload_n 0, 1) := by decide +kernel
theorem dX3_longest_16 : decode cX3_longest 16 = .ok (.getfield 12, 3) := by decide +kernel
theorem dX3_longest_19 : decode cX3_longest 19 = .ok (.getfield 105, 3) := by decide +kernel
theorem dX3_longest_22 : decode cX3_longest 22 = .ok (.istore 4, 2) := by decide +kernel
theorem dX3_longest_24 : decode cX3_longest 24 = .ok (.iload 4, 2) := by decide +kernel
theorem dX3_longest_26 : decode cX3_longest 26 = .ok (.invokestatic 64, 3) := by decide +kernel
theorem dX3_longest_29 : decode cX3_longest 29 = .ok (.iconst 1, 1) := by decide +kernel
theorem dX3_longest_30 : decode cX3_longest 30 = .ok (.if_icmp .le 5, 3) := by decide +kernel
theorem dX3_longest_33 : decode cX3_longest 33 = .ok (.iconst 2, 1) := by decide +kernel
theorem dX3_longest_34 : decode cX3_longest 34 = .ok (.ireturn, 1) := by decide +kernel
theorem dX3_longest_35 : decode cX3_longest 35 = .ok (.iload 4, 2) := by decide +kernel
theorem dX3_longest_37 : decode cX3_longest 37 = .ok (.ifCond .eq 8, 3) := by decide +kernel
theorem dX3_longest_40 : decode cX3_longest 40 = .ok (.iload 4, 2) := by decide +kernel
theorem dX3_longest_42 : decode cX3_longest 42 = .ok (.goto 13, 3) := by decide +kernel
theorem dX3_longest_45 : decode cX3_longest 45 = .ok (.aload_n 0, 1) := by decide +kernel
theorem dX3_longest_46 : decode cX3_longest 46 = .ok (.getfield 18, 3) := by decide +kernel
theorem dX3_longest_49 : decode cX3_longest 49 = .ok (.iload_n 1, 1) := by decide +kernel
theorem dX3_longest_50 : decode cX3_longest 50 = .ok (.iload_n 2, 1) := by decide +kernel
theorem dX3_longest_51 : decode cX3_longest 51 = .ok (.ior, 1) := by decide +kernel
theorem dX3_longest_52 : decode cX3_longest 52 = .ok (.iconst (-1), 1) := by decide +kernel
theorem dX3_longest_53 : decode cX3_longest 53 = .ok (.ixor, 1) := by decide +kernel
theorem dX3_longest_54 : decode cX3_longest 54 = .ok (.iand, 1) := by decide +kernel
theorem dX3_longest_55 : decode cX3_longest 55 = .ok (.istore 5, 2) := by decide +kernel
theorem dX3_longest_57 : decode cX3_longest 57 = .ok (.iconst 0, 1) := by decide +kernel
theorem dX3_longest_58 : decode cX3_longest 58 = .ok (.istore 6, 2) := by decide +kernel
theorem dX3_longest_60 : decode cX3_longest 60 = .ok (.iconst 0, 1) := by decide +kernel
theorem dX3_longest_61 : decode cX3_longest 61 = .ok (.istore 7, 2) := by decide +kernel
theorem dX3_longest_63 : decode cX3_longest 63 = .ok (.iload 7, 2) := by decide +kernel
theorem dX3_longest_65 : decode cX3_longest 65 = .ok (.bipush 10, 2) := by decide +kernel
theorem dX3_longest_67 : decode cX3_longest 67 = .ok (.if_icmp .ge 55, 3) := by decide +kernel
theorem dX3_longest_70 : decode cX3_longest 70 = .ok (.iload 5, 2) := by decide +kernel
theorem dX3_longest_72 : decode cX3_longest 72 = .ok (.iconst 1, 1) := by decide +kernel
theorem dX3_longest_73 : decode cX3_longest 73 = .ok (.iload 7, 2) := by decide +kernel
theorem dX3_longest_75 : decode cX3_longest 75 = .ok (.ishl, 1) := by decide +kernel
theorem dX3_longest_76 : decode cX3_longest 76 = .ok (.iand, 1) := by decide +kernel
theorem dX3_longest_77 : decode cX3_longest 77 = .ok (.ifCond .eq 39, 3) := by decide +kernel
theorem dX3_longest_80 : decode cX3_longest 80 = .ok (.aload_n 0, 1) := by decide +kernel
theorem dX3_longest_81 : decode cX3_longest 81 = .ok (.iload_n 1, 1) := by decide +kernel
theorem dX3_longest_82 : decode cX3_longest 82 = .ok (.iload_n 2, 1) := by decide +kernel
theorem dX3_longest_83 : decode cX3_longest 83 = .ok (.iconst 1, 1) := by decide +kernel
theorem dX3_longest_84 : decode cX3_longest 84 = .ok (.iload 7, 2) := by decide +kernel
theorem dX3_longest_86 : decode cX3_longest 86 = .ok (.ishl, 1) := by decide +kernel
theorem dX3_longest_87 : decode cX3_longest 87 = .ok (.ior, 1) := by decide +kernel
theorem dX3_longest_88 : decode cX3_longest 88 = .ok (.iconst 1, 1) := by decide +kernel
theorem dX3_longest_89 : decode cX3_longest 89 = .ok (.iload_n 3, 1) := by decide +kernel
theorem dX3_longest_90 : decode cX3_longest 90 = .ok (.iconst 1, 1) := by decide +kernel
theorem dX3_longest_91 : decode cX3_longest 91 = .ok (.iadd, 1) := by decide +kernel
theorem dX3_longest_92 : decode cX3_longest 92 = .ok (.invokevirtual 52, 3) := by decide +kernel
theorem dX3_longest_95 : decode cX3_longest 95 = .ok (.istore 8, 2) := by decide +kernel
theorem dX3_longest_97 : decode cX3_longest 97 = .ok (.iload 8, 2) := by decide +kernel
theorem dX3_longest_99 : decode cX3_longest 99 = .ok (.iconst (-1), 1) := by decide +kernel
theorem dX3_longest_100 : decode cX3_longest 100 = .ok (.if_icmp .ne 5, 3) := by decide +kernel
theorem dX3_longest_103 : decode cX3_longest 103 = .ok (.iconst (-1), 1) := by decide +kernel
theorem dX3_longest_104 : decode cX3_longest 104 = .ok (.ireturn, 1) := by decide +kernel
theorem dX3_longest_105 : decode cX3_longest 105 = .ok (.iload 6, 2) := by decide +kernel
theorem dX3_longest_107 : decode cX3_longest 107 = .ok (.iload 8, 2) := by decide +kernel
theorem dX3_longest_109 : decode cX3_longest 109 = .ok (.iconst 1, 1) := by decide +kernel
theorem dX3_longest_110 : decode cX3_longest 110 = .ok (.iadd, 1) := by decide +kernel
theorem dX3_longest_111 : decode cX3_longest 111 = .ok (.invokestatic 111, 3) := by decide +kernel
theorem dX3_longest_114 : decode cX3_longest 114 = .ok (.istore 6, 2) := by decide +kernel
theorem dX3_longest_116 : decode cX3_longest 116 = .ok (.iinc 7 1, 3) := by decide +kernel
theorem dX3_longest_119 : decode cX3_longest 119 = .ok (.goto (-56), 3) := by decide +kernel
theorem dX3_longest_122 : decode cX3_longest 122 = .ok (.iload 6, 2) := by decide +kernel
theorem dX3_longest_124 : decode cX3_longest 124 = .ok (.ireturn, 1) := by decide +kernel
theorem dX3_placeOf_0 : decode cX3_placeOf 0 = .ok (.iload_n 1, 1) := by decide +kernel
theorem dX3_placeOf_1 : decode cX3_placeOf 1 = .ok (.ifCond .lt 29, 3) := by decide +kernel
theorem dX3_placeOf_4 : decode cX3_placeOf 4 = .ok (.iload_n 1, 1) := by decide +kernel
theorem dX3_placeOf_5 : decode cX3_placeOf 5 = .ok (.aload_n 0, 1) := by decide +kernel
theorem dX3_placeOf_6 : decode cX3_placeOf 6 = .ok (.getfield 34, 3) := by decide +kernel
theorem dX3_placeOf_9 : decode cX3_placeOf 9 = .ok (.arraylength, 1) := by decide +kernel
theorem dX3_placeOf_10 : decode cX3_placeOf 10 = .ok (.if_icmp .ge 20, 3) := by decide +kernel
theorem dX3_placeOf_13 : decode cX3_placeOf 13 = .ok (.iload_n 2, 1) := by decide +kernel
theorem dX3_placeOf_14 : decode cX3_placeOf 14 = .ok (.ifCond .lt 16, 3) := by decide +kernel
theorem dX3_placeOf_17 : decode cX3_placeOf 17 = .ok (.iload_n 2, 1) := by decide +kernel
theorem dX3_placeOf_18 : decode cX3_placeOf 18 = .ok (.aload_n 0, 1) := by decide +kernel
theorem dX3_placeOf_19 : decode cX3_placeOf 19 = .ok (.getfield 34, 3) := by decide +kernel
theorem dX3_placeOf_22 : decode cX3_placeOf 22 = .ok (.arraylength, 1) := by decide +kernel
theorem dX3_placeOf_23 : decode cX3_placeOf 23 = .ok (.if_icmp .ge 7, 3) := by decide +kernel
theorem dX3_placeOf_26 : decode cX3_placeOf 26 = .ok (.iconst 1, 1) := by decide +kernel
theorem dX3_placeOf_27 : decode cX3_placeOf 27 = .ok (.goto 4, 3) := by decide +kernel
theorem dX3_placeOf_30 : decode cX3_placeOf 30 = .ok (.iconst 0, 1) := by decide +kernel
theorem dX3_placeOf_31 : decode cX3_placeOf 31 = .ok (.istore_n 3, 1) := by decide +kernel
theorem dX3_placeOf_32 : decode cX3_placeOf 32 = .ok (.iload_n 3, 1) := by decide +kernel
theorem dX3_placeOf_33 : decode cX3_placeOf 33 = .ok (.ifCond .eq 21, 3) := by decide +kernel
theorem dX3_placeOf_36 : decode cX3_placeOf 36 = .ok (.aload_n 0, 1) := by decide +kernel
theorem dX3_placeOf_37 : decode cX3_placeOf 37 = .ok (.getfield 34, 3) := by decide +kernel
theorem dX3_placeOf_40 : decode cX3_placeOf 40 = .ok (.iload_n 1, 1) := by decide +kernel
theorem dX3_placeOf_41 : decode cX3_placeOf 41 = .ok (.iaload, 1) := by decide +kernel
theorem dX3_placeOf_42 : decode cX3_placeOf 42 = .ok (.iconst 2, 1) := by decide +kernel
theorem dX3_placeOf_43 : decode cX3_placeOf 43 = .ok (.aload_n 0, 1) := by decide +kernel
theorem dX3_placeOf_44 : decode cX3_placeOf 44 = .ok (.getfield 34, 3) := by decide +kernel
theorem dX3_placeOf_47 : decode cX3_placeOf 47 = .ok (.iload_n 2, 1) := by decide +kernel
theorem dX3_placeOf_48 : decode cX3_placeOf 48 = .ok (.iaload, 1) := by decide +kernel
theorem dX3_placeOf_49 : decode cX3_placeOf 49 = .ok (.imul, 1) := by decide +kernel
theorem dX3_placeOf_50 : decode cX3_placeOf 50 = .ok (.iadd, 1) := by decide +kernel
theorem dX3_placeOf_51 : decode cX3_placeOf 51 = .ok (.goto 4, 3) := by decide +kernel
theorem dX3_placeOf_54 : decode cX3_placeOf 54 = .ok (.iconst (-1), 1) := by decide +kernel
theorem dX3_placeOf_55 : decode cX3_placeOf 55 = .ok (.ireturn, 1) := by decide +kernel
theorem dX3_recall_0 : decode cX3_recall 0 = .ok (.iload_n 1, 1) := by decide +kernel
theorem dX3_recall_1 : decode cX3_recall 1 = .ok (.ifCond .lt 16, 3) := by decide +kernel
theorem dX3_recall_4 : decode cX3_recall 4 = .ok (.iload_n 1, 1) := by decide +kernel
theorem dX3_recall_5 : decode cX3_recall 5 = .ok (.aload_n 0, 1) := by decide +kernel
theorem dX3_recall_6 : decode cX3_recall 6 = .ok (.getfield 27, 3) := by decide +kernel
theorem dX3_recall_9 : decode cX3_recall 9 = .ok (.arraylength, 1) := by decide +kernel
theorem dX3_recall_10 : decode cX3_recall 10 = .ok (.if_icmp .ge 7, 3) := by decide +kernel
theorem dX3_recall_13 : decode cX3_recall 13 = .ok (.iconst 1, 1) := by decide +kernel
theorem dX3_recall_14 : decode cX3_recall 14 = .ok (.goto 4, 3) := by decide +kernel
theorem dX3_recall_17 : decode cX3_recall 17 = .ok (.iconst 0, 1) := by decide +kernel
theorem dX3_recall_18 : decode cX3_recall 18 = .ok (.istore_n 2, 1) := by decide +kernel
theorem dX3_recall_19 : decode cX3_recall 19 = .ok (.iload_n 2, 1) := by decide +kernel
theorem dX3_recall_20 : decode cX3_recall 20 = .ok (.ifCond .eq 30, 3) := by decide +kernel
theorem dX3_recall_23 : decode cX3_recall 23 = .ok (.aload_n 0, 1) := by decide +kernel
theorem dX3_recall_24 : decode cX3_recall 24 = .ok (.getfield 27, 3) := by decide +kernel
theorem dX3_recall_27 : decode cX3_recall 27 = .ok (.iload_n 1, 1) := by decide +kernel
theorem dX3_recall_28 : decode cX3_recall 28 = .ok (.iaload, 1) := by decide +kernel
theorem dX3_recall_29 : decode cX3_recall 29 = .ok (.iconst 4, 1) := by decide +kernel
theorem dX3_recall_30 : decode cX3_recall 30 = .ok (.ishr, 1) := by decide +kernel
theorem dX3_recall_31 : decode cX3_recall 31 = .ok (.aload_n 0, 1) := by decide +kernel
theorem dX3_recall_32 : decode cX3_recall 32 = .ok (.getfield 31, 3) := by decide +kernel
theorem dX3_recall_35 : decode cX3_recall 35 = .ok (.if_icmp .ne 15, 3) := by decide +kernel
theorem dX3_recall_38 : decode cX3_recall 38 = .ok (.aload_n 0, 1) := by decide +kernel
theorem dX3_recall_39 : decode cX3_recall 39 = .ok (.getfield 27, 3) := by decide +kernel
theorem dX3_recall_42 : decode cX3_recall 42 = .ok (.iload_n 1, 1) := by decide +kernel
theorem dX3_recall_43 : decode cX3_recall 43 = .ok (.iaload, 1) := by decide +kernel
theorem dX3_recall_44 : decode cX3_recall 44 = .ok (.bipush 15, 2) := by decide +kernel
theorem dX3_recall_46 : decode cX3_recall 46 = .ok (.iand, 1) := by decide +kernel
theorem dX3_recall_47 : decode cX3_recall 47 = .ok (.iconst 1, 1) := by decide +kernel
theorem dX3_recall_48 : decode cX3_recall 48 = .ok (.isub, 1) := by decide +kernel
theorem dX3_recall_49 : decode cX3_recall 49 = .ok (.ireturn, 1) := by decide +kernel
theorem dX3_recall_50 : decode cX3_recall 50 = .ok (.bipush (-2), 2) := by decide +kernel
theorem dX3_recall_52 : decode cX3_recall 52 = .ok (.ireturn, 1) := by decide +kernel
theorem dX3_keep_0 : decode cX3_keep 0 = .ok (.iload_n 1, 1) := by decide +kernel
theorem dX3_keep_1 : decode cX3_keep 1 = .ok (.ifCond .lt 31, 3) := by decide +kernel
theorem dX3_keep_4 : decode cX3_keep 4 = .ok (.iload_n 1, 1) := by decide +kernel
theorem dX3_keep_5 : decode cX3_keep 5 = .ok (.aload_n 0, 1) := by decide +kernel
theorem dX3_keep_6 : decode cX3_keep 6 = .ok (.getfield 27, 3) := by decide +kernel
theorem dX3_keep_9 : decode cX3_keep 9 = .ok (.arraylength, 1) := by decide +kernel
theorem dX3_keep_10 : decode cX3_keep 10 = .ok (.if_icmp .ge 22, 3) := by decide +kernel
theorem dX3_keep_13 : decode cX3_keep 13 = .ok (.aload_n 0, 1) := by decide +kernel
theorem dX3_keep_14 : decode cX3_keep 14 = .ok (.getfield 27, 3) := by decide +kernel
theorem dX3_keep_17 : decode cX3_keep 17 = .ok (.iload_n 1, 1) := by decide +kernel
theorem dX3_keep_18 : decode cX3_keep 18 = .ok (.aload_n 0, 1) := by decide +kernel
theorem dX3_keep_19 : decode cX3_keep 19 = .ok (.getfield 31, 3) := by decide +kernel
theorem dX3_keep_22 : decode cX3_keep 22 = .ok (.iconst 4, 1) := by decide +kernel
theorem dX3_keep_23 : decode cX3_keep 23 = .ok (.ishl, 1) := by decide +kernel
theorem dX3_keep_24 : decode cX3_keep 24 = .ok (.iload_n 2, 1) := by decide +kernel
theorem dX3_keep_25 : decode cX3_keep 25 = .ok (.iconst 1, 1) := by decide +kernel
theorem dX3_keep_26 : decode cX3_keep 26 = .ok (.iadd, 1) := by decide +kernel
theorem dX3_keep_27 : decode cX3_keep 27 = .ok (.bipush 15, 2) := by decide +kernel
theorem dX3_keep_29 : decode cX3_keep 29 = .ok (.iand, 1) := by decide +kernel
theorem dX3_keep_30 : decode cX3_keep 30 = .ok (.ior, 1) := by decide +kernel
theorem dX3_keep_31 : decode cX3_keep 31 = .ok (.iastore, 1) := by decide +kernel
theorem dX3_keep_32 : decode cX3_keep 32 = .ok (.return_, 1) := by decide +kernel
set_option maxRecDepth 20000 in
theorem ggX4_init_X1_init : GoodIn wsX4_init wsX1_init := goodIn_r _ [18, 19, 2, 3, 20, 21, 22, 23, 24, 25, 26, 27, 28, 29, 30, 31, 32] (by decide +kernel) (by decide +kernel)
set_option maxRecDepth 20000 in
theorem gX4_init_X1_init_n11 : GoodIn wsX4_init (wsX1_init) := ggX4_init_X1_init
theorem dX4_init_0 : decode cX4_init 0 = .ok (.aload_n 0, 1) := by decide +kernel
theorem dX4_init_1 : decode cX4_init 1 = .ok (.invokespecial 3, 3) := by decide +kernel
theorem dX4_init_4 : decode cX4_init 4 = .ok (.aload_n 0, 1) := by decide +kernel
theorem dX4_init_5 : decode cX4_init 5 = .ok (.new 9, 3) := by decide +kernel
theorem dX4_init_8 : decode cX4_init 8 = .ok (.dup, 1) := by decide +kernel
theorem dX4_init_9 : decode cX4_init 9 = .ok (.invokespecial 11, 3) := by decide +kernel
theorem dX4_init_12 : decode cX4_init 12 = .ok (.putfield 12, 3) := by decide +kernel
theorem dX4_init_15 : decode cX4_init 15 = .ok (.aload_n 0, 1) := by decide +kernel
theorem dX4_init_16 : decode cX4_init 16 = .ok (.bipush 9, 2) := by decide +kernel
theorem dX4_init_18 : decode cX4_init 18 = .ok (.putfield 18, 3) := by decide +kernel
theorem dX4_init_21 : decode cX4_init 21 = .ok (.aload_n 0, 1) := by decide +kernel
theorem dX4_init_22 : decode cX4_init 22 = .ok (.iconst 0, 1) := by decide +kernel
theorem dX4_init_23 : decode cX4_init 23 = .ok (.putfield 22, 3) := by decide +kernel
theorem dX4_init_26 : decode cX4_init 26 = .ok (.aload_n 0, 1) := by decide +kernel
theorem dX4_init_27 : decode cX4_init 27 = .ok (.iconst 0, 1) := by decide +kernel
theorem dX4_init_28 : decode cX4_init 28 = .ok (.putfield 25, 3) := by decide +kernel
theorem dX4_init_31 : decode cX4_init 31 = .ok (.aload_n 0, 1) := by decide +kernel
theorem dX4_init_32 : decode cX4_init 32 = .ok (.iconst 1, 1) := by decide +kernel
theorem dX4_init_33 : decode cX4_init 33 = .ok (.putfield 28, 3) := by decide +kernel
theorem dX4_init_36 : decode cX4_init 36 = .ok (.aload_n 0, 1) := by decide +kernel
theorem dX4_init_37 : decode cX4_init 37 = .ok (.iconst (-1), 1) := by decide +kernel
theorem dX4_init_38 : decode cX4_init 38 = .ok (.putfield 32, 3) := by decide +kernel
theorem dX4_init_41 : decode cX4_init 41 = .ok (.aload_n 0, 1) := by decide +kernel
theorem dX4_init_42 : decode cX4_init 42 = .ok (.iconst (-1), 1) := by decide +kernel
theorem dX4_init_43 : decode cX4_init 43 = .ok (.putfield 35, 3) := by decide +kernel
theorem dX4_init_46 : decode cX4_init 46 = .ok (.aload_n 0, 1) := by decide +kernel
theorem dX4_init_47 : decode cX4_init 47 = .ok (.iconst 0, 1) := by decide +kernel
theorem dX4_init_48 : decode cX4_init 48 = .ok (.putfield 38, 3) := by decide +kernel
theorem dX4_init_51 : decode cX4_init 51 = .ok (.aload_n 0, 1) := by decide +kernel
theorem dX4_init_52 : decode cX4_init 52 = .ok (.iconst 0, 1) := by decide +kernel
theorem dX4_init_53 : decode cX4_init 53 = .ok (.putfield 41, 3) := by decide +kernel
theorem dX4_init_56 : decode cX4_init 56 = .ok (.aload_n 0, 1) := by decide +kernel
theorem dX4_init_57 : decode cX4_init 57 = .ok (.iconst 0, 1) := by decide +kernel
theorem dX4_init_58 : decode cX4_init 58 = .ok (.putfield 44, 3) := by decide +kernel
theorem dX4_init_61 : decode cX4_init 61 = .ok (.return_, 1) := by decide +kernel
set_option maxRecDepth 20000 in
theorem ggX4_copyBoard_X1_copy : GoodIn wsX4_copyBoard wsX1_copy := goodIn_r _ [12, 13, 14, 25, 26, 27, 28, 29, 30] (by decide +kernel) (by decide +kernel)
set_option maxRecDepth 20000 in
theorem gX4_copyBoard_X1_copy : GoodIn wsX4_copyBoard (wsV RX4 47 RX1 yX1_copy wsX1_copy) := goodIn_app (goodIn_of _ (by decide +kernel)) ggX4_copyBoard_X1_copy
theorem dX4_copyBoard_0 : decode cX4_copyBoard 0 = .ok (.aload_n 0, 1) := by decide +kernel
theorem dX4_copyBoard_1 : decode cX4_copyBoard 1 = .ok (.getfield 12, 3) := by decide +kernel
theorem dX4_copyBoard_4 : decode cX4_copyBoard 4 = .ok (.aload_n 1, 1) := by decide +kernel
theorem dX4_copyBoard_5 : decode cX4_copyBoard 5 = .ok (.getfield 12, 3) := by decide +kernel
theorem dX4_copyBoard_8 : decode cX4_copyBoard 8 = .ok (.invokevirtual 47, 3) := by decide +kernel
theorem dX4_copyBoard_11 : decode cX4_copyBoard 11 = .ok (.aload_n 0, 1) := by decide +kernel
theorem dX4_copyBoard_12 : decode cX4_copyBoard 12 = .ok (.aload_n 1, 1) := by decide +kernel
theorem dX4_copyBoard_13 : decode cX4_copyBoard 13 = .ok (.getfield 18, 3) := by decide +kernel
theorem dX4_copyBoard_16 : decode cX4_copyBoard 16 = .ok (.putfield 18, 3) := by decide +kernel
theorem dX4_copyBoard_19 : decode cX4_copyBoard 19 = .ok (.aload_n 0, 1) := by decide +kernel
theorem dX4_copyBoard_20 : decode cX4_copyBoard 20 = .ok (.aload_n 1, 1) := by decide +kernel
theorem dX4_copyBoard_21 : decode cX4_copyBoard 21 = .ok (.getfield 22, 3) := by decide +kernel
theorem dX4_copyBoard_24 : decode cX4_copyBoard 24 = .ok (.putfield 22, 3) := by decide +kernel
theorem dX4_copyBoard_27 : decode cX4_copyBoard 27 = .ok (.aload_n 0, 1) := by decide +kernel
theorem dX4_copyBoard_28 : decode cX4_copyBoard 28 = .ok (.aload_n 1, 1) := by decide +kernel
theorem dX4_copyBoard_29 : decode cX4_copyBoard 29 = .ok (.getfield 25, 3) := by decide +kernel
theorem dX4_copyBoard_32 : decode cX4_copyBoard 32 = .ok (.putfield 25, 3) := by decide +kernel
theorem dX4_copyBoard_35 : decode cX4_copyBoard 35 = .ok (.aload_n 0, 1) := by decide +kernel
theorem dX4_copyBoard_36 : decode cX4_copyBoard 36 = .ok (.aload_n 1, 1) := by decide +kernel
theorem dX4_copyBoard_37 : decode cX4_copyBoard 37 = .ok (.getfield 28, 3) := by decide +kernel
theorem dX4_copyBoard_40 : decode cX4_copyBoard 40 = .ok (.putfield 28, 3) := by decide +kernel
theorem dX4_copyBoard_43 : decode cX4_copyBoard 43 = .ok (.aload_n 0, 1) := by decide +kernel
theorem dX4_copyBoard_44 : decode cX4_copyBoard 44 = .ok (.aload_n 1, 1) := by decide +kernel
theorem dX4_copyBoard_45 : decode cX4_copyBoard 45 = .ok (.getfield 32, 3) := by decide +kernel
theorem dX4_copyBoard_48 : decode cX4_copyBoard 48 = .ok (.putfield 32, 3) := by decide +kernel
theorem dX4_copyBoard_51 : decode cX4_copyBoard 51 = .ok (.aload_n 0, 1) := by decide +kernel
theorem dX4_copyBoard_52 : decode cX4_copyBoard 52 = .ok (.aload_n 1, 1) := by decide +kernel
theorem dX4_copyBoard_53 : decode cX4_copyBoard 53 = .ok (.getfield 35, 3) := by decide +kernel
theorem dX4_copyBoard_56 : decode cX4_copyBoard 56 = .ok (.putfield 35, 3) := by decide +kernel
theorem dX4_copyBoard_59 : decode cX4_copyBoard 59 = .ok (.return_, 1) := by decide +kernel
set_option maxRecDepth 20000 in
theorem ggX4_copyAll_X4_copyBoard : GoodIn wsX4_copyAll wsX4_copyBoard := goodIn_r _ [8, 9, 10, 11, 12, 13, 14, 15, 16, 17, 18, 19, 20, 21, 22, 23, 24, 25, 26, 27, 28, 29, 30, 31, 32, 33, 34, 35, 36, 37, 38] (by decide +kernel) (by decide +kernel)
set_option maxRecDepth 20000 in
theorem gX4_copyAll_X4_copyBoard : GoodIn wsX4_copyAll (wsV RX4 51 RX4 yX4_copyBoard wsX4_copyBoard) := goodIn_app (goodIn_of _ (by decide +kernel)) ggX4_copyAll_X4_copyBoard
theorem dX4_copyAll_0 : decode cX4_copyAll 0 = .ok (.aload_n 0, 1) := by decide +kernel
theorem dX4_copyAll_1 : decode cX4_copyAll 1 = .ok (.aload_n 1, 1) := by decide +kernel
theorem dX4_copyAll_2 : decode cX4_copyAll 2 = .ok (.invokevirtual 51, 3) := by decide +kernel
theorem dX4_copyAll_5 : decode cX4_copyAll 5 = .ok (.aload_n 0, 1) := by decide +kernel
theorem dX4_copyAll_6 : decode cX4_copyAll 6 = .ok (.aload_n 1, 1) := by decide +kernel
theorem dX4_copyAll_7 : decode cX4_copyAll 7 = .ok (.getfield 38, 3) := by decide +kernel
theorem dX4_copyAll_10 : decode cX4_copyAll 10 = .ok (.putfield 38, 3) := by decide +kernel
theorem dX4_copyAll_13 : decode cX4_copyAll 13 = .ok (.aload_n 0, 1) := by decide +kernel
theorem dX4_copyAll_14 : decode cX4_copyAll 14 = .ok (.aload_n 1, 1) := by decide +kernel
theorem dX4_copyAll_15 : decode cX4_copyAll 15 = .ok (.getfield 41, 3) := by decide +kernel
theorem dX4_copyAll_18 : decode cX4_copyAll 18 = .ok (.putfield 41, 3) := by decide +kernel
theorem dX4_copyAll_21 : decode cX4_copyAll 21 = .ok (.aload_n 0, 1) := by decide +kernel
theorem dX4_copyAll_22 : decode cX4_copyAll 22 = .ok (.aload_n 1, 1) := by decide +kernel
theorem dX4_copyAll_23 : decode cX4_copyAll 23 = .ok (.getfield 44, 3) := by decide +kernel
theorem dX4_copyAll_26 : decode cX4_copyAll 26 = .ok (.putfield 44, 3) := by decide +kernel
theorem dX4_copyAll_29 : decode cX4_copyAll 29 = .ok (.return_, 1) := by decide +kernel
set_option maxRecDepth 20000 in
theorem ggX4_freeAll_X4_forgetLatest : GoodIn wsX4_freeAll wsX4_forgetLatest := goodIn_r _ [8, 9, 10, 11, 12, 13, 14, 15, 16, 17, 18, 19, 20] (by decide +kernel) (by decide +kernel)
set_option maxRecDepth 20000 in
theorem gX4_freeAll_X4_forgetLatest : GoodIn wsX4_freeAll (wsV RX4 55 RX4 yX4_forgetLatest wsX4_forgetLatest) := goodIn_app (goodIn_of _ (by decide +kernel)) ggX4_freeAll_X4_forgetLatest
theorem dX4_freeAll_0 : decode cX4_freeAll 0 = .ok (.aload_n 0, 1) := by decide +kernel
theorem dX4_freeAll_1 : decode cX4_freeAll 1 = .ok (.iconst 0, 1) := by decide +kernel
theorem dX4_freeAll_2 : decode cX4_freeAll 2 = .ok (.putfield 22, 3) := by decide +kernel
theorem dX4_freeAll_5 : decode cX4_freeAll 5 = .ok (.aload_n 0, 1) := by decide +kernel
theorem dX4_freeAll_6 : decode cX4_freeAll 6 = .ok (.iconst 0, 1) := by decide +kernel
theorem dX4_freeAll_7 : decode cX4_freeAll 7 = .ok (.putfield 25, 3) := by decide +kernel
theorem dX4_freeAll_10 : decode cX4_freeAll 10 = .ok (.aload_n 0, 1) := by decide +kernel
theorem dX4_freeAll_11 : decode cX4_freeAll 11 = .ok (.iload_n 1, 1) := by decide +kernel
theorem dX4_freeAll_12 : decode cX4_freeAll 12 = .ok (.putfield 28, 3) := by decide +kernel
theorem dX4_freeAll_15 : decode cX4_freeAll 15 = .ok (.aload_n 0, 1) := by decide +kernel
theorem dX4_freeAll_16 : decode cX4_freeAll 16 = .ok (.invokevirtual 55, 3) := by decide +kernel
theorem dX4_freeAll_19 : decode cX4_freeAll 19 = .ok (.return_, 1) := by decide +kernel
theorem dX4_forgetLatest_0 : decode cX4_forgetLatest 0 = .ok (.aload_n 0, 1) := by decide +kernel
theorem dX4_forgetLatest_1 : decode cX4_forgetLatest 1 = .ok (.iconst (-1), 1) := by decide +kernel
theorem dX4_forgetLatest_2 : decode cX4_forgetLatest 2 = .ok (.putfield 32, 3) := by decide +kernel
theorem dX4_forgetLatest_5 : decode cX4_forgetLatest 5 = .ok (.aload_n 0, 1) := by decide +kernel
theorem dX4_forgetLatest_6 : decode cX4_forgetLatest 6 = .ok (.iconst (-1), 1) := by decide +kernel
theorem dX4_forgetLatest_7 : decode cX4_forgetLatest 7 = .ok (.putfield 35, 3) := by decide +kernel
theorem dX4_forgetLatest_10 : decode cX4_forgetLatest 10 = .ok (.return_, 1) := by decide +kernel
set_option maxRecDepth 20000 in
theorem ggX4_occupy_X4_winner : GoodIn wsX4_occupy wsX4_winner := goodIn_r _ [13, 14, 2, 3, 15, 16, 17, 18, 19, 20, 21, 22, 23, 24, 25, 26, 27, 28, 29, 30, 31, 32, 33, 34, 35, 36, 37, 38, 39, 40, 41, 42, 43, 44, 45, 46, 47, 48, 49] (by decide +kernel) (by decide +kernel)
set_option maxRecDepth 20000 in
theorem gX4_occupy_X4_winner : GoodIn wsX4_occupy (wsV RX4 58 RX4 yX4_winner wsX4_winner) := goodIn_app (goodIn_of _ (by decide +kernel)) ggX4_occupy_X4_winner
theorem dX4_occupy_0 : decode cX4_occupy 0 = .ok (.aload_n 0, 1) := by decide +kernel
theorem dX4_occupy_1 : decode cX4_occupy 1 = .ok (.getfield 28, 3) := by decide +kernel
theorem dX4_occupy_4 : decode cX4_occupy 4 = .ok (.ifCond .eq 18, 3) := by decide +kernel
theorem dX4_occupy_7 : decode cX4_occupy 7 = .ok (.aload_n 0, 1) := by decide +kernel
theorem dX4_occupy_8 : decode cX4_occupy 8 = .ok (.dup, 1) := by decide +kernel
theorem dX4_occupy_9 : decode cX4_occupy 9 = .ok (.getfield 22, 3) := by decide +kernel
theorem dX4_occupy_12 : decode cX4_occupy 12 = .ok (.iconst 1, 1) := by decide +kernel
theorem dX4_occupy_13 : decode cX4_occupy 13 = .ok (.iload_n 1, 1) := by decide +kernel
theorem dX4_occupy_14 : decode cX4_occupy 14 = .ok (.ishl, 1) := by decide +kernel
theorem dX4_occupy_15 : decode cX4_occupy 15 = .ok (.ior, 1) := by decide +kernel
theorem dX4_occupy_16 : decode cX4_occupy 16 = .ok (.putfield 22, 3) := by decide +kernel
theorem dX4_occupy_19 : decode cX4_occupy 19 = .ok (.goto 15, 3) := by decide +kernel
theorem dX4_occupy_22 : decode cX4_occupy 22 = .ok (.aload_n 0, 1) := by decide +kernel
theorem dX4_occupy_23 : decode cX4_occupy 23 = .ok (.dup, 1) := by decide +kernel
theorem dX4_occupy_24 : decode cX4_occupy 24 = .ok (.getfield 25, 3) := by decide +kernel
theorem dX4_occupy_27 : decode cX4_occupy 27 = .ok (.iconst 1, 1) := by decide +kernel
theorem dX4_occupy_28 : decode cX4_occupy 28 = .ok (.iload_n 1, 1) := by decide +kernel
theorem dX4_occupy_29 : decode cX4_occupy 29 = .ok (.ishl, 1) := by decide +kernel
theorem dX4_occupy_30 : decode cX4_occupy 30 = .ok (.ior, 1) := by decide +kernel
theorem dX4_occupy_31 : decode cX4_occupy 31 = .ok (.putfield 25, 3) := by decide +kernel
theorem dX4_occupy_34 : decode cX4_occupy 34 = .ok (.aload_n 0, 1) := by decide +kernel
theorem dX4_occupy_35 : decode cX4_occupy 35 = .ok (.aload_n 0, 1) := by decide +kernel
theorem dX4_occupy_36 : decode cX4_occupy 36 = .ok (.getfield 28, 3) := by decide +kernel
theorem dX4_occupy_39 : decode cX4_occupy 39 = .ok (.ifCond .ne 7, 3) := by decide +kernel
theorem dX4_occupy_42 : decode cX4_occupy 42 = .ok (.iconst 1, 1) := by decide +kernel
theorem dX4_occupy_43 : decode cX4_occupy 43 = .ok (.goto 4, 3) := by decide +kernel
theorem dX4_occupy_46 : decode cX4_occupy 46 = .ok (.iconst 0, 1) := by decide +kernel
theorem dX4_occupy_47 : decode cX4_occupy 47 = .ok (.putfield 28, 3) := by decide +kernel
theorem dX4_occupy_50 : decode cX4_occupy 50 = .ok (.aload_n 0, 1) := by decide +kernel
theorem dX4_occupy_51 : decode cX4_occupy 51 = .ok (.iload_n 1, 1) := by decide +kernel
theorem dX4_occupy_52 : decode cX4_occupy 52 = .ok (.putfield 32, 3) := by decide +kernel
theorem dX4_occupy_55 : decode cX4_occupy 55 = .ok (.aload_n 0, 1) := by decide +kernel
theorem dX4_occupy_56 : decode cX4_occupy 56 = .ok (.iload_n 2, 1) := by decide +kernel
theorem dX4_occupy_57 : decode cX4_occupy 57 = .ok (.putfield 35, 3) := by decide +kernel
theorem dX4_occupy_60 : decode cX4_occupy 60 = .ok (.aload_n 0, 1) := by decide +kernel
theorem dX4_occupy_61 : decode cX4_occupy 61 = .ok (.dup, 1) := by decide +kernel
theorem dX4_occupy_62 : decode cX4_occupy 62 = .ok (.getfield 38, 3) := by decide +kernel
theorem dX4_occupy_65 : decode cX4_occupy 65 = .ok (.iconst 1, 1) := by decide +kernel
theorem dX4_occupy_66 : decode cX4_occupy 66 = .ok (.iadd, 1) := by decide +kernel
theorem dX4_occupy_67 : decode cX4_occupy 67 = .ok (.putfield 38, 3) := by decide +kernel
theorem dX4_occupy_70 : decode cX4_occupy 70 = .ok (.aload_n 0, 1) := by decide +kernel
theorem dX4_occupy_71 : decode cX4_occupy 71 = .ok (.invokevirtual 58, 3) := by decide +kernel
theorem dX4_occupy_74 : decode cX4_occupy 74 = .ok (.istore_n 3, 1) := by decide +kernel
theorem dX4_occupy_75 : decode cX4_occupy 75 = .ok (.aload_n 0, 1) := by decide +kernel
theorem dX4_occupy_76 : decode cX4_occupy 76 = .ok (.dup, 1) := by decide +kernel
theorem dX4_occupy_77 : decode cX4_occupy 77 = .ok (.getfield 41, 3) := by decide +kernel
theorem dX4_occupy_80 : decode cX4_occupy 80 = .ok (.iload_n 3, 1) := by decide +kernel
theorem dX4_occupy_81 : decode cX4_occupy 81 = .ok (.iconst 1, 1) := by decide +kernel
theorem dX4_occupy_82 : decode cX4_occupy 82 = .ok (.if_icmp .ne 7, 3) := by decide +kernel
theorem dX4_occupy_85 : decode cX4_occupy 85 = .ok (.iconst 1, 1) := by decide +kernel
theorem dX4_occupy_86 : decode cX4_occupy 86 = .ok (.goto 4, 3) := by decide +kernel
theorem dX4_occupy_89 : decode cX4_occupy 89 = .ok (.iconst 0, 1) := by decide +kernel
theorem dX4_occupy_90 : decode cX4_occupy 90 = .ok (.iadd, 1) := by decide +kernel
theorem dX4_occupy_91 : decode cX4_occupy 91 = .ok (.putfield 41, 3) := by decide +kernel
theorem dX4_occupy_94 : decode cX4_occupy 94 = .ok (.aload_n 0, 1) := by decide +kernel
theorem dX4_occupy_95 : decode cX4_occupy 95 = .ok (.dup, 1) := by decide +kernel
theorem dX4_occupy_96 : decode cX4_occupy 96 = .ok (.getfield 44, 3) := by decide +kernel
theorem dX4_occupy_99 : decode cX4_occupy 99 = .ok (.iload_n 3, 1) := by decide +kernel
theorem dX4_occupy_100 : decode cX4_occupy 100 = .ok (.iconst 2, 1) := by decide +kernel
theorem dX4_occupy_101 : decode cX4_occupy 101 = .ok (.if_icmp .ne 7, 3) := by decide +kernel
theorem dX4_occupy_104 : decode cX4_occupy 104 = .ok (.iconst 1, 1) := by decide +kernel
theorem dX4_occupy_105 : decode cX4_occupy 105 = .ok (.goto 4, 3) := by decide +kernel
theorem dX4_occupy_108 : decode cX4_occupy 108 = .ok (.iconst 0, 1) := by decide +kernel
theorem dX4_occupy_109 : decode cX4_occupy 109 = .ok (.iadd, 1) := by decide +kernel
theorem dX4_occupy_110 : decode cX4_occupy 110 = .ok (.putfield 44, 3) := by decide +kernel
theorem dX4_occupy_113 : decode cX4_occupy 113 = .ok (.return_, 1) := by decide +kernel
theorem dX4_allCells_0 : decode cX4_allCells 0 = .ok (.iconst 1, 1) := by decide +kernel
theorem dX4_allCells_1 : decode cX4_allCells 1 = .ok (.aload_n 0, 1) := by decide +kernel
theorem dX4_allCells_2 : decode cX4_allCells 2 = .ok (.getfield 18, 3) := by decide +kernel
theorem dX4_allCells_5 : decode cX4_allCells 5 = .ok (.ishl, 1) := by decide +kernel
theorem dX4_allCells_6 : decode cX4_allCells 6 = .ok (.iconst 1, 1) := by decide +kernel
theorem dX4_allCells_7 : decode cX4_allCells 7 = .ok (.isub, 1) := by decide +kernel
theorem dX4_allCells_8 : decode cX4_allCells 8 = .ok (.ireturn, 1) := by decide +kernel
set_option maxRecDepth 20000 in
theorem ggX4_freeCells_X4_allCells : GoodIn wsX4_freeCells wsX4_allCells := goodIn_r _ [7, 8, 9, 10, 11, 12, 13, 14, 15, 16, 17, 18] (by decide +kernel) (by decide +kernel)
set_option maxRecDepth 20000 in
theorem gX4_freeCells_X4_allCells : GoodIn wsX4_freeCells (wsV RX4 62 RX4 yX4_allCells wsX4_allCells) := goodIn_app (goodIn_of _ (by decide +kernel)) ggX4_freeCells_X4_allCells
theorem dX4_freeCells_0 : decode cX4_freeCells 0 = .ok (.aload_n 0, 1) := by decide +kernel
theorem dX4_freeCells_1 : decode cX4_freeCells 1 = .ok (.invokevirtual 62, 3) := by decide +kernel
theorem dX4_freeCells_4 : decode cX4_freeCells 4 = .ok (.aload_n 0, 1) := by decide +kernel
theorem dX4_freeCells_5 : decode cX4_freeCells 5 = .ok (.getfield 22, 3) := by decide +kernel
theorem dX4_freeCells_8 : decode cX4_freeCells 8 = .ok (.aload_n 0, 1) := by decide +kernel
theorem dX4_freeCells_9 : decode cX4_freeCells 9 = .ok (.getfield 25, 3) := by decide +kernel
theorem dX4_freeCells_12 : decode cX4_freeCells 12 = .ok (.ior, 1) := by decide +kernel
theorem dX4_freeCells_13 : decode cX4_freeCells 13 = .ok (.iconst (-1), 1) := by decide +kernel
theorem dX4_freeCells_14 : decode cX4_freeCells 14 = .ok (.ixor, 1) := by decide +kernel
theorem dX4_freeCells_15 : decode cX4_freeCells 15 = .ok (.iand, 1) := by decide +kernel
theorem dX4_freeCells_16 : decode cX4_freeCells 16 = .ok (.ireturn, 1) := by decide +kernel
theorem dX4_hasCell_0 : decode cX4_hasCell 0 = .ok (.iload_n 1, 1) := by decide +kernel
theorem dX4_hasCell_1 : decode cX4_hasCell 1 = .ok (.ifCond .lt 15, 3) := by decide +kernel
theorem dX4_hasCell_4 : decode cX4_hasCell 4 = .ok (.iload_n 1, 1) := by decide +kernel
theorem dX4_hasCell_5 : decode cX4_hasCell 5 = .ok (.aload_n 0, 1) := by decide +kernel
theorem dX4_hasCell_6 : decode cX4_hasCell 6 = .ok (.getfield 18, 3) := by decide +kernel
theorem dX4_hasCell_9 : decode cX4_hasCell 9 = .ok (.if_icmp .ge 7, 3) := by decide +kernel
theorem dX4_hasCell_12 : decode cX4_hasCell 12 = .ok (.iconst 1, 1) := by decide +kernel
theorem dX4_hasCell_13 : decode cX4_hasCell 13 = .ok (.goto 4, 3) := by decide +kernel
theorem dX4_hasCell_16 : decode cX4_hasCell 16 = .ok (.iconst 0, 1) := by decide +kernel
