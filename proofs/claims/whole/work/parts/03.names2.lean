theorem dX3_keep_6 : decode cX3_keep 6 = .ok (.getfield 27, 3) := by decide +kernel
theorem dX3_keep_9 : decode cX3_keep 9 = .ok (.arraylength, 1) := by decide +kernel
theorem dX3_keep_10 : decode cX3_keep 10 = .ok (.if_icmp .ge 22, 3) := by decide +kernel
theorem dX3_keep_13 : decode cX3_keep 13 = .ok (.aload_n 0, 1) := by decide +kernel
theorem dX3_keep_14 : decode cX3_keep 14 = .ok (.getfield 27, 3) := by decide +kernel
theorem dX3_keep_17 : decode cX3_keep 17 = .ok (.iload_n 1, 1) := by decide +kernel
theorem dX3_keep_18 : decode cX3_keep 18 = .ok (.aload_n 0, 1) := by decide +kernel
theorem dX3_keep_19 : decode cX3_keep 19 = .ok (.getfield 31, 3) := by decide +kernel
theorem dX3_keep_22 : decode cX3_keep 22 = .ok (.iconst 4, 1) := by decide +kernel
theorem dX3_keep_23 : decode cX3_keep 23 = .ok (.ishl, 1) := by decide +kernel
theorem dX3_keep_24 : decode cX3_keep 24 = .ok (.iload_n 2, 1) := by decide +kernel
theorem dX3_keep_25 : decode cX3_keep 25 = .ok (.iconst 1, 1) := by decide +kernel
theorem dX3_keep_26 : decode cX3_keep 26 = .ok (.iadd, 1) := by decide +kernel
theorem dX3_keep_27 : decode cX3_keep 27 = .ok (.bipush 15, 2) := by decide +kernel
theorem dX3_keep_29 : decode cX3_keep 29 = .ok (.iand, 1) := by decide +kernel
theorem dX3_keep_30 : decode cX3_keep 30 = .ok (.ior, 1) := by decide +kernel
theorem dX3_keep_31 : decode cX3_keep 31 = .ok (.iastore, 1) := by decide +kernel
theorem dX3_keep_32 : decode cX3_keep 32 = .ok (.return_, 1) := by decide +kernel
set_option maxRecDepth 20000 in
theorem ggX4_init_X1_init : GoodIn wsX4_init wsX1_init := goodIn_r _ [18, 19, 2, 3, 20, 21, 22, 23, 24, 25, 26, 27, 28, 29, 30, 31, 32] (by decide +kernel) (by decide +kernel)
set_option maxRecDepth 20000 in
theorem gX4_init_X1_init_n11 : GoodIn wsX4_init (wsX1_init) := ggX4_init_X1_init
theorem dX4_init_0 : decode cX4_init 0 = .ok (.aload_n 0, 1) := by decide +kernel
theorem dX4_init_1 : decode cX4_init 1 = .ok (.invokespecial 3, 3) := by decide +kernel
theorem dX4_init_4 : decode cX4_init 4 = .ok (.aload_n 0, 1) := by decide +kernel
theorem dX4_init_5 : decode cX4_init 5 = .ok (.new 9, 3) := by decide +kernel
theorem dX4_init_8 : decode cX4_init 8 = .ok (.dup, 1) := by decide +kernel
theorem dX4_init_9 : decode cX4_init 9 = .ok (.invokespecial 11, 3) := by decide +kernel
theorem dX4_init_12 : decode cX4_init 12 = .ok (.putfield 12, 3) := by decide +kernel
theorem dX4_init_15 : decode cX4_init 15 = .ok (.aload_n 0, 1) := by decide +kernel
theorem dX4_init_16 : decode cX4_init 16 = .ok (.bipush 9, 2) := by decide +kernel
theorem dX4_init_18 : decode cX4_init 18 = .ok (.putfield 18, 3) := by decide +kernel
theorem dX4_init_21 : decode cX4_init 21 = .ok (.aload_n 0, 1) := by decide +kernel
theorem dX4_init_22 : decode cX4_init 22 = .ok (.iconst 0, 1) := by decide +kernel
theorem dX4_init_23 : decode cX4_init 23 = .ok (.putfield 22, 3) := by decide +kernel
theorem dX4_init_26 : decode cX4_init 26 = .ok (.aload_n 0, 1) := by decide +kernel
theorem dX4_init_27 : decode cX4_init 27 = .ok (.iconst 0, 1) := by decide +kernel
theorem dX4_init_28 : decode cX4_init 28 = .ok (.putfield 25, 3) := by decide +kernel
theorem dX4_init_31 : decode cX4_init 31 = .ok (.aload_n 0, 1) := by decide +kernel
theorem dX4_init_32 : decode cX4_init 32 = .ok (.iconst 1, 1) := by decide +kernel
theorem dX4_init_33 : decode cX4_init 33 = .ok (.putfield 28, 3) := by decide +kernel
theorem dX4_init_36 : decode cX4_init 36 = .ok (.aload_n 0, 1) := by decide +kernel
theorem dX4_init_37 : decode cX4_init 37 = .ok (.iconst (-1), 1) := by decide +kernel
theorem dX4_init_38 : decode cX4_init 38 = .ok (.putfield 32, 3) := by decide +kernel
theorem dX4_init_41 : decode cX4_init 41 = .ok (.aload_n 0, 1) := by decide +kernel
theorem dX4_init_42 : decode cX4_init 42 = .ok (.iconst (-1), 1) := by decide +kernel
theorem dX4_init_43 : decode cX4_init 43 = .ok (.putfield 35, 3) := by decide +kernel
theorem dX4_init_46 : decode cX4_init 46 = .ok (.aload_n 0, 1) := by decide +kernel
theorem dX4_init_47 : decode cX4_init 47 = .ok (.iconst 0, 1) := by decide +kernel
theorem dX4_init_48 : decode cX4_init 48 = .ok (.putfield 38, 3) := by decide +kernel
theorem dX4_init_51 : decode cX4_init 51 = .ok (.aload_n 0, 1) := by decide +kernel
theorem dX4_init_52 : decode cX4_init 52 = .ok (.iconst 0, 1) := by decide +kernel
theorem dX4_init_53 : decode cX4_init 53 = .ok (.putfield 41, 3) := by decide +kernel
theorem dX4_init_56 : decode cX4_init 56 = .ok (.aload_n 0, 1) := by decide +kernel
theorem dX4_init_57 : decode cX4_init 57 = .ok (.iconst 0, 1) := by decide +kernel
theorem dX4_init_58 : decode cX4_init 58 = .ok (.putfield 44, 3) := by decide +kernel
theorem dX4_init_61 : decode cX4_init 61 = .ok (.return_, 1) := by decide +kernel
set_option maxRecDepth 20000 in
theorem ggX4_copyBoard_X1_copy : GoodIn wsX4_copyBoard wsX1_copy := goodIn_r _ [12, 13, 14, 25, 26, 27, 28, 29, 30] (by decide +kernel) (by decide +kernel)
set_option maxRecDepth 20000 in
theorem gX4_copyBoard_X1_copy : GoodIn wsX4_copyBoard (wsV RX4 47 RX1 yX1_copy wsX1_copy) := goodIn_app (goodIn_of _ (by decide +kernel)) ggX4_copyBoard_X1_copy
theorem dX4_copyBoard_0 : decode cX4_copyBoard 0 = .ok (.aload_n 0, 1) := by decide +kernel
theorem dX4_copyBoard_1 : decode cX4_copyBoard 1 = .ok (.getfield 12, 3) := by decide +kernel
theorem dX4_copyBoard_4 : decode cX4_copyBoard 4 = .ok (.aload_n 1, 1) := by decide +kernel
theorem dX4_copyBoard_5 : decode cX4_copyBoard 5 = .ok (.getfield 12, 3) := by decide +kernel
theorem dX4_copyBoard_8 : decode cX4_copyBoard 8 = .ok (.invokevirtual 47, 3) := by decide +kernel
theorem dX4_copyBoard_11 : decode cX4_copyBoard 11 = .ok (.aload_n 0, 1) := by decide +kernel
theorem dX4_copyBoard_12 : decode cX4_copyBoard 12 = .ok (.aload_n 1, 1) := by decide +kernel
theorem dX4_copyBoard_13 : decode cX4_copyBoard 13 = .ok (.getfield 18, 3) := by decide +kernel
theorem dX4_copyBoard_16 : decode cX4_copyBoard 16 = .ok (.putfield 18, 3) := by decide +kernel
theorem dX4_copyBoard_19 : decode cX4_copyBoard 19 = .ok (.aload_n 0, 1) := by decide +kernel
theorem dX4_copyBoard_20 : decode cX4_copyBoard 20 = .ok (.aload_n 1, 1) := by decide +kernel
theorem dX4_copyBoard_21 : decode cX4_copyBoard 21 = .ok (.getfield 22, 3) := by decide +kernel
theorem dX4_copyBoard_24 : decode cX4_copyBoard 24 = .ok (.putfield 22, 3) := by decide +kernel
theorem dX4_copyBoard_27 : decode cX4_copyBoard 27 = .ok (.aload_n 0, 1) := by decide +kernel
theorem dX4_copyBoard_28 : decode cX4_copyBoard 28 = .ok (.aload_n 1, 1) := by decide +kernel
theorem dX4_copyBoard_29 : decode cX4_copyBoard 29 = .ok (.getfield 25, 3) := by decide +kernel
theorem dX4_copyBoard_32 : decode cX4_copyBoard 32 = .ok (.putfield 25, 3) := by decide +kernel
theorem dX4_copyBoard_35 : decode cX4_copyBoard 35 = .ok (.aload_n 0, 1) := by decide +kernel
theorem dX4_copyBoard_36 : decode cX4_copyBoard 36 = .ok (.aload_n 1, 1) := by decide +kernel
theorem dX4_copyBoard_37 : decode cX4_copyBoard 37 = .ok (.getfield 28, 3) := by decide +kernel
theorem dX4_copyBoard_40 : decode cX4_copyBoard 40 = .ok (.putfield 28, 3) := by decide +kernel
theorem dX4_copyBoard_43 : decode cX4_copyBoard 43 = .ok (.aload_n 0, 1) := by decide +kernel
theorem dX4_copyBoard_44 : decode cX4_copyBoard 44 = .ok (.aload_n 1, 1) := by decide +kernel
theorem dX4_copyBoard_45 : decode cX4_copyBoard 45 = .ok (.getfield 32, 3) := by decide +kernel
theorem dX4_copyBoard_48 : decode cX4_copyBoard 48 = .ok (.putfield 32, 3) := by decide +kernel
theorem dX4_copyBoard_51 : decode cX4_copyBoard 51 = .ok (.aload_n 0, 1) := by decide +kernel
theorem dX4_copyBoard_52 : decode cX4_copyBoard 52 = .ok (.aload_n 1, 1) := by decide +kernel
theorem dX4_copyBoard_53 : decode cX4_copyBoard 53 = .ok (.getfield 35, 3) := by decide +kernel
theorem dX4_copyBoard_56 : decode cX4_copyBoard 56 = .ok (.putfield 35, 3) := by decide +kernel
theorem dX4_copyBoard_59 : decode cX4_copyBoard 59 = .ok (.return_, 1) := by decide +kernel
set_option maxRecDepth 20000 in
theorem ggX4_copyAll_X4_copyBoard : GoodIn wsX4_copyAll wsX4_copyBoard := goodIn_r _ [8, 9, 10, 11, 12, 13, 14, 15, 16, 17, 18, 19, 20, 21, 22, 23, 24, 25, 26, 27, 28, 29, 30, 31, 32, 33, 34, 35, 36, 37, 38] (by decide +kernel) (by decide +kernel)
set_option maxRecDepth 20000 in
theorem gX4_copyAll_X4_copyBoard : GoodIn wsX4_copyAll (wsV RX4 51 RX4 yX4_copyBoard wsX4_copyBoard) := goodIn_app (goodIn_of _ (by decide +kernel)) ggX4_copyAll_X4_copyBoard
theorem dX4_copyAll_0 : decode cX4_copyAll 0 = .ok (.aload_n 0, 1) := by decide +kernel
theorem dX4_copyAll_1 : decode cX4_copyAll 1 = .ok (.aload_n 1, 1) := by decide +kernel
theorem dX4_copyAll_2 : decode cX4_copyAll 2 = .ok (.invokevirtual 51, 3) := by decide +kernel
theorem dX4_copyAll_5 : decode cX4_copyAll 5 = .ok (.aload_n 0, 1) := by decide +kernel
theorem dX4_copyAll_6 : decode cX4_copyAll 6 = .ok (.aload_n 1, 1) := by decide +kernel
theorem dX4_copyAll_7 : decode cX4_copyAll 7 = .ok (.getfield 38, 3) := by decide +kernel
theorem dX4_copyAll_10 : decode cX4_copyAll 10 = .ok (.putfield 38, 3) := by decide +kernel
theorem dX4_copyAll_13 : decode cX4_copyAll 13 = .ok (.aload_n 0, 1) := by decide +kernel
theorem dX4_copyAll_14 : decode cX4_copyAll 14 = .ok (.aload_n 1, 1) := by decide +kernel
theorem dX4_copyAll_15 : decode cX4_copyAll 15 = .ok (.getfield 41, 3) := by decide +kernel
theorem dX4_copyAll_18 : decode cX4_copyAll 18 = .ok (.putfield 41, 3) := by decide +kernel
theorem dX4_copyAll_21 : decode cX4_copyAll 21 = .ok (.aload_n 0, 1) := by decide +kernel
theorem dX4_copyAll_22 : decode cX4_copyAll 22 = .ok (.aload_n 1, 1) := by decide +kernel
theorem dX4_copyAll_23 : decode cX4_copyAll 23 = .ok (.getfield 44, 3) := by decide +kernel
theorem dX4_copyAll_26 : decode cX4_copyAll 26 = .ok (.putfield 44, 3) := by decide +kernel
theorem dX4_copyAll_29 : decode cX4_copyAll 29 = .ok (.return_, 1) := by decide +kernel
set_option maxRecDepth 20000 in
theorem ggX4_freeAll_X4_forgetLatest : GoodIn wsX4_freeAll wsX4_forgetLatest := goodIn_r _ [8, 9, 10, 11, 12, 13, 14, 15, 16, 17, 18, 19, 20] (by decide +kernel) (by decide +kernel)
set_option maxRecDepth 20000 in
theorem gX4_freeAll_X4_forgetLatest : GoodIn wsX4_freeAll (wsV RX4 55 RX4 yX4_forgetLatest wsX4_forgetLatest) := goodIn_app (goodIn_of _ (by decide +kernel)) ggX4_freeAll_X4_forgetLatest
theorem dX4_freeAll_0 : decode cX4_freeAll 0 = .ok (.aload_n 0, 1) := by decide +kernel
theorem dX4_freeAll_1 : decode cX4_freeAll 1 = .ok (.iconst 0, 1) := by decide +kernel
theorem dX4_freeAll_2 : decode cX4_freeAll 2 = .ok (.putfield 22, 3) := by decide +kernel
theorem dX4_freeAll_5 : decode cX4_freeAll 5 = .ok (.aload_n 0, 1) := by decide +kernel
theorem dX4_freeAll_6 : decode cX4_freeAll 6 = .ok (.iconst 0, 1) := by decide +kernel
theorem dX4_freeAll_7 : decode cX4_freeAll 7 = .ok (.putfield 25, 3) := by decide +kernel
theorem dX4_freeAll_10 : decode cX4_freeAll 10 = .ok (.aload_n 0, 1) := by decide +kernel
theorem dX4_freeAll_11 : decode cX4_freeAll 11 = .ok (.iload_n 1, 1) := by decide +kernel
theorem dX4_freeAll_12 : decode cX4_freeAll 12 = .ok (.putfield 28, 3) := by decide +kernel
theorem dX4_freeAll_15 : decode cX4_freeAll 15 = .ok (.aload_n 0, 1) := by decide +kernel
theorem dX4_freeAll_16 : decode cX4_freeAll 16 = .ok (.invokevirtual 55, 3) := by decide +kernel
theorem dX4_freeAll_19 : decode cX4_freeAll 19 = .ok (.return_, 1) := by decide +kernel
theorem dX4_forgetLatest_0 : decode cX4_forgetLatest 0 = .ok (.aload_n 0, 1) := by decide +kernel
theorem dX4_forgetLatest_1 : decode cX4_forgetLatest 1 = .ok (.iconst (-1), 1) := by decide +kernel
theorem dX4_forgetLatest_2 : decode cX4_forgetLatest 2 = .ok (.putfield 32, 3) := by decide +kernel
theorem dX4_forgetLatest_5 : decode cX4_forgetLatest 5 = .ok (.aload_n 0, 1) := by decide +kernel
theorem dX4_forgetLatest_6 : decode cX4_forgetLatest 6 = .ok (.iconst (-1), 1) := by decide +kernel
theorem dX4_forgetLatest_7 : decode cX4_forgetLatest 7 = .ok (.putfield 35, 3) := by decide +kernel
theorem dX4_forgetLatest_10 : decode cX4_forgetLatest 10 = .ok (.return_, 1) := by decide +kernel
set_option maxRecDepth 20000 in
theorem ggX4_occupy_X4_winner : GoodIn wsX4_occupy wsX4_winner := goodIn_r _ [13, 14, 2, 3, 15, 16, 17, 18, 19, 20, 21, 22, 23, 24, 25, 26, 27, 28, 29, 30, 31, 32, 33, 34, 35, 36, 37, 38, 39, 40, 41, 42, 43, 44, 45, 46, 47, 48, 49] (by decide +kernel) (by decide +kernel)
set_option maxRecDepth 20000 in
theorem gX4_occupy_X4_winner : GoodIn wsX4_occupy (wsV RX4 58 RX4 yX4_winner wsX4_winner) := goodIn_app (goodIn_of _ (by decide +kernel)) ggX4_occupy_X4_winner
theorem dX4_occupy_0 : decode cX4_occupy 0 = .ok (.aload_n 0, 1) := by decide +kernel
theorem dX4_occupy_1 : decode cX4_occupy 1 = .ok (.getfield 28, 3) := by decide +kernel
theorem dX4_occupy_4 : decode cX4_occupy 4 = .ok (.ifCond .eq 18, 3) := by decide +kernel
theorem dX4_occupy_7 : decode cX4_occupy 7 = .ok (.aload_n 0, 1) := by decide +kernel
theorem dX4_occupy_8 : decode cX4_occupy 8 = .ok (.dup, 1) := by decide +kernel
theorem dX4_occupy_9 : decode cX4_occupy 9 = .ok (.getfield 22, 3) := by decide +kernel
theorem dX4_occupy_12 : decode cX4_occupy 12 = .ok (.iconst 1, 1) := by decide +kernel
theorem dX4_occupy_13 : decode cX4_occupy 13 = .ok (.iload_n 1, 1) := by decide +kernel
theorem dX4_occupy_14 : decode cX4_occupy 14 = .ok (.ishl, 1) := by decide +kernel
theorem dX4_occupy_15 : decode cX4_occupy 15 = .ok (.ior, 1) := by decide +kernel
theorem dX4_occupy_16 : decode cX4_occupy 16 = .ok (.putfield 22, 3) := by decide +kernel
theorem dX4_occupy_19 : decode cX4_occupy 19 = .ok (.goto 15, 3) := by decide +kernel
theorem dX4_occupy_22 : decode cX4_occupy 22 = .ok (.aload_n 0, 1) := by decide +kernel
theorem dX4_occupy_23 : decode cX4_occupy 23 = .ok (.dup, 1) := by decide +kernel
theorem dX4_occupy_24 : decode cX4_occupy 24 = .ok (.getfield 25, 3) := by decide +kernel
theorem dX4_occupy_27 : decode cX4_occupy 27 = .ok (.iconst 1, 1) := by decide +kernel
theorem dX4_occupy_28 : decode cX4_occupy 28 = .ok (.iload_n 1, 1) := by decide +kernel
theorem dX4_occupy_29 : decode cX4_occupy 29 = .ok (.ishl, 1) := by decide +kernel
theorem dX4_occupy_30 : decode cX4_occupy 30 = .ok (.ior, 1) := by decide +kernel
theorem dX4_occupy_31 : decode cX4_occupy 31 = .ok (.putfield 25, 3) := by decide +kernel
theorem dX4_occupy_34 : decode cX4_occupy 34 = .ok (.aload_n 0, 1) := by decide +kernel
theorem dX4_occupy_35 : decode cX4_occupy 35 = .ok (.aload_n 0, 1) := by decide +kernel
theorem dX4_occupy_36 : decode cX4_occupy 36 = .ok (.getfield 28, 3) := by decide +kernel
theorem dX4_occupy_39 : decode cX4_occupy 39 = .ok (.ifCond .ne 7, 3) := by decide +kernel
theorem dX4_occupy_42 : decode cX4_occupy 42 = .ok (.iconst 1, 1) := by decide +kernel
theorem dX4_occupy_43 : decode cX4_occupy 43 = .ok (.goto 4, 3) := by decide +kernel
theorem dX4_occupy_46 : decode cX4_occupy 46 = .ok (.iconst 0, 1) := by decide +kernel
theorem dX4_occupy_47 : decode cX4_occupy 47 = .ok (.putfield 28, 3) := by decide +kernel
theorem dX4_occupy_50 : decode cX4_occupy 50 = .ok (.aload_n 0, 1) := by decide +kernel
theorem dX4_occupy_51 : decode cX4_occupy 51 = .ok (.iload_n 1, 1) := by decide +kernel
theorem dX4_occupy_52 : decode cX4_occupy 52 = .ok (.putfield 32, 3) := by decide +kernel
theorem dX4_occupy_55 : decode cX4_occupy 55 = .ok (.aload_n 0, 1) := by decide +kernel
theorem dX4_occupy_56 : decode cX4_occupy 56 = .ok (.iload_n 2, 1) := by decide +kernel
theorem dX4_occupy_57 : decode cX4_occupy 57 = .ok (.putfield 35, 3) := by decide +kernel
theorem dX4_occupy_60 : decode cX4_occupy 60 = .ok (.aload_n 0, 1) := by decide +kernel
theorem dX4_occupy_61 : decode cX4_occupy 61 = .ok (.dup, 1) := by decide +kernel
theorem dX4_occupy_62 : decode cX4_occupy 62 = .ok (.getfield 38, 3) := by decide +kernel
theorem dX4_occupy_65 : decode cX4_occupy 65 = .ok (.iconst 1, 1) := by decide +kernel
theorem dX4_occupy_66 : decode cX4_occupy 66 = .ok (.iadd, 1) := by decide +kernel
theorem dX4_occupy_67 : decode cX4_occupy 67 = .ok (.putfield 38, 3) := by decide +kernel
theorem dX4_occupy_70 : decode cX4_occupy 70 = .ok (.aload_n 0, 1) := by decide +kernel
theorem dX4_occupy_71 : decode cX4_occupy 71 = .ok (.invokevirtual 58, 3) := by decide +kernel
theorem dX4_occupy_74 : decode cX4_occupy 74 = .ok (.istore_n 3, 1) := by decide +kernel
theorem dX4_occupy_75 : decode cX4_occupy 75 = .ok (.aload_n 0, 1) := by decide +kernel
theorem dX4_occupy_76 : decode cX4_occupy 76 = .ok (.dup, 1) := by decide +kernel
theorem dX4_occupy_77 : decode cX4_occupy 77 = .ok (.getfield 41, 3) := by decide +kernel
theorem dX4_occupy_80 : decode cX4_occupy 80 = .ok (.iload_n 3, 1) := by decide +kernel
theorem dX4_occupy_81 : decode cX4_occupy 81 = .ok (.iconst 1, 1) := by decide +kernel
theorem dX4_occupy_82 : decode cX4_occupy 82 = .ok (.if_icmp .ne 7, 3) := by decide +kernel
theorem dX4_occupy_85 : decode cX4_occupy 85 = .ok (.iconst 1, 1) := by decide +kernel
theorem dX4_occupy_86 : decode cX4_occupy 86 = .ok (.goto 4, 3) := by decide +kernel
theorem dX4_occupy_89 : decode cX4_occupy 89 = .ok (.iconst 0, 1) := by decide +kernel
theorem dX4_occupy_90 : decode cX4_occupy 90 = .ok (.iadd, 1) := by decide +kernel
theorem dX4_occupy_91 : decode cX4_occupy 91 = .ok (.putfield 41, 3) := by decide +kernel
theorem dX4_occupy_94 : decode cX4_occupy 94 = .ok (.aload_n 0, 1) := by decide +kernel
theorem dX4_occupy_95 : decode cX4_occupy 95 = .ok (.dup, 1) := by decide +kernel
theorem dX4_occupy_96 : decode cX4_occupy 96 = .ok (.getfield 44, 3) := by decide +kernel
theorem dX4_occupy_99 : decode cX4_occupy 99 = .ok (.iload_n 3, 1) := by decide +kernel
theorem dX4_occupy_100 : decode cX4_occupy 100 = .ok (.iconst 2, 1) := by decide +kernel
theorem dX4_occupy_101 : decode cX4_occupy 101 = .ok (.if_icmp .ne 7, 3) := by decide +kernel
theorem dX4_occupy_104 : decode cX4_occupy 104 = .ok (.iconst 1, 1) := by decide +kernel
theorem dX4_occupy_105 : decode cX4_occupy 105 = .ok (.goto 4, 3) := by decide +kernel
theorem dX4_occupy_108 : decode cX4_occupy 108 = .ok (.iconst 0, 1) := by decide +kernel
theorem dX4_occupy_109 : decode cX4_occupy 109 = .ok (.iadd, 1) := by decide +kernel
theorem dX4_occupy_110 : decode cX4_occupy 110 = .ok (.putfield 44, 3) := by decide +kernel
theorem dX4_occupy_113 : decode cX4_occupy 113 = .ok (.return_, 1) := by decide +kernel
theorem dX4_allCells_0 : decode cX4_allCells 0 = .ok (.iconst 1, 1) := by decide +kernel
theorem dX4_allCells_1 : decode cX4_allCells 1 = .ok (.aload_n 0, 1) := by decide +kernel
theorem dX4_allCells_2 : decode cX4_allCells 2 = .ok (.getfield 18, 3) := by decide +kernel
theorem dX4_allCells_5 : decode cX4_allCells 5 = .ok (.ishl, 1) := by decide +kernel
theorem dX4_allCells_6 : decode cX4_allCells 6 = .ok (.iconst 1, 1) := by decide +kernel
theorem dX4_allCells_7 : decode cX4_allCells 7 = .ok (.isub, 1) := by decide +kernel
theorem dX4_allCells_8 : decode cX4_allCells 8 = .ok (.ireturn, 1) := by decide +kernel
set_option maxRecDepth 20000 in
theorem ggX4_freeCells_X4_allCells : GoodIn wsX4_freeCells wsX4_allCells := goodIn_r _ [7, 8, 9, 10, 11, 12, 13, 14, 15, 16, 17, 18] (by decide +kernel) (by decide +kernel)
set_option maxRecDepth 20000 in
theorem gX4_freeCells_X4_allCells : GoodIn wsX4_freeCells (wsV RX4 62 RX4 yX4_allCells wsX4_allCells) := goodIn_app (goodIn_of _ (by decide +kernel)) ggX4_freeCells_X4_allCells
theorem dX4_freeCells_0 : decode cX4_freeCells 0 = .ok (.aload_n 0, 1) := by decide +kernel
theorem dX4_freeCells_1 : decode cX4_freeCells 1 = .ok (.invokevirtual 62, 3) := by decide +kernel
theorem dX4_freeCells_4 : decode cX4_freeCells 4 = .ok (.aload_n 0, 1) := by decide +kernel
theorem dX4_freeCells_5 : decode cX4_freeCells 5 = .ok (.getfield 22, 3) := by decide +kernel
theorem dX4_freeCells_8 : decode cX4_freeCells 8 = .ok (.aload_n 0, 1) := by decide +kernel
theorem dX4_freeCells_9 : decode cX4_freeCells 9 = .ok (.getfield 25, 3) := by decide +kernel
theorem dX4_freeCells_12 : decode cX4_freeCells 12 = .ok (.ior, 1) := by decide +kernel
theorem dX4_freeCells_13 : decode cX4_freeCells 13 = .ok (.iconst (-1), 1) := by decide +kernel
theorem dX4_freeCells_14 : decode cX4_freeCells 14 = .ok (.ixor, 1) := by decide +kernel
theorem dX4_freeCells_15 : decode cX4_freeCells 15 = .ok (.iand, 1) := by decide +kernel
theorem dX4_freeCells_16 : decode cX4_freeCells 16 = .ok (.ireturn, 1) := by decide +kernel
theorem dX4_hasCell_0 : decode cX4_hasCell 0 = .ok (.iload_n 1, 1) := by decide +kernel
theorem dX4_hasCell_1 : decode cX4_hasCell 1 = .ok (.ifCond .lt 15, 3) := by decide +kernel
theorem dX4_hasCell_4 : decode cX4_hasCell 4 = .ok (.iload_n 1, 1) := by decide +kernel
theorem dX4_hasCell_5 : decode cX4_hasCell 5 = .ok (.aload_n 0, 1) := by decide +kernel
theorem dX4_hasCell_6 : decode cX4_hasCell 6 = .ok (.getfield 18, 3) := by decide +kernel
theorem dX4_hasCell_9 : decode cX4_hasCell 9 = .ok (.if_icmp .ge 7, 3) := by decide +kernel
theorem dX4_hasCell_12 : decode cX4_hasCell 12 = .ok (.iconst 1, 1) := by decide +kernel
theorem dX4_hasCell_13 : decode cX4_hasCell 13 = .ok (.goto 4, 3) := by decide +kernel
theorem dX4_hasCell_16 : decode cX4_hasCell 16 = .ok (.iconst 0, 1) := by decide +kernel
theorem dX4_hasCell_17 : decode cX4_hasCell 17 = .ok (.ireturn, 1) := by decide +kernel
set_option maxRecDepth 20000 in
theorem ggX4_isFree_X4_freeCells : GoodIn wsX4_isFree wsX4_freeCells := goodIn_r _ [5, 6, 7, 8, 9, 10, 4, 11, 12, 13, 14, 15, 16, 17, 18, 19, 20, 21, 22] (by decide +kernel) (by decide +kernel)
set_option maxRecDepth 20000 in
theorem gX4_isFree_X4_freeCells : GoodIn wsX4_isFree (wsV RX4 65 RX4 yX4_freeCells wsX4_freeCells) := goodIn_app (goodIn_of _ (by decide +kernel)) ggX4_isFree_X4_freeCells
theorem dX4_isFree_0 : decode cX4_isFree 0 = .ok (.aload_n 0, 1) := by decide +kernel
theorem dX4_isFree_1 : decode cX4_isFree 1 = .ok (.invokevirtual 65, 3) := by decide +kernel
theorem dX4_isFree_4 : decode cX4_isFree 4 = .ok (.iconst 1, 1) := by decide +kernel
theorem dX4_isFree_5 : decode cX4_isFree 5 = .ok (.iload_n 1, 1) := by decide +kernel
theorem dX4_isFree_6 : decode cX4_isFree 6 = .ok (.ishl, 1) := by decide +kernel
theorem dX4_isFree_7 : decode cX4_isFree 7 = .ok (.iand, 1) := by decide +kernel
theorem dX4_isFree_8 : decode cX4_isFree 8 = .ok (.ifCond .eq 7, 3) := by decide +kernel
theorem dX4_isFree_11 : decode cX4_isFree 11 = .ok (.iconst 1, 1) := by decide +kernel
theorem dX4_isFree_12 : decode cX4_isFree 12 = .ok (.goto 4, 3) := by decide +kernel
theorem dX4_isFree_15 : decode cX4_isFree 15 = .ok (.iconst 0, 1) := by decide +kernel
theorem dX4_isFree_16 : decode cX4_isFree 16 = .ok (.ireturn, 1) := by decide +kernel
set_option maxRecDepth 20000 in
theorem ggX4_ownerOf_X4_isFree : GoodIn wsX4_ownerOf wsX4_isFree := goodIn_r _ [6, 7, 8, 9, 5, 10, 1, 11, 12, 13, 14, 15, 16, 17, 18, 19, 20, 21, 22, 23, 24, 25, 26] (by decide +kernel) (by decide +kernel)
set_option maxRecDepth 20000 in
theorem gX4_ownerOf_X4_isFree : GoodIn wsX4_ownerOf (wsV RX4 68 RX4 yX4_isFree wsX4_isFree) := goodIn_app (goodIn_of _ (by decide +kernel)) ggX4_ownerOf_X4_isFree
theorem dX4_ownerOf_0 : decode cX4_ownerOf 0 = .ok (.aload_n 0, 1) := by decide +kernel
theorem dX4_ownerOf_1 : decode cX4_ownerOf 1 = .ok (.iload_n 1, 1) := by decide +kernel
theorem dX4_ownerOf_2 : decode cX4_ownerOf 2 = .ok (.invokevirtual 68, 3) := by decide +kernel
theorem dX4_ownerOf_5 : decode cX4_ownerOf 5 = .ok (.ifCond .eq 5, 3) := by decide +kernel
theorem dX4_ownerOf_8 : decode cX4_ownerOf 8 = .ok (.iconst 0, 1) := by decide +kernel
theorem dX4_ownerOf_9 : decode cX4_ownerOf 9 = .ok (.ireturn, 1) := by decide +kernel
theorem dX4_ownerOf_10 : decode cX4_ownerOf 10 = .ok (.aload_n 0, 1) := by decide +kernel
theorem dX4_ownerOf_11 : decode cX4_ownerOf 11 = .ok (.getfield 22, 3) := by decide +kernel
theorem dX4_ownerOf_14 : decode cX4_ownerOf 14 = .ok (.iconst 1, 1) := by decide +kernel
theorem dX4_ownerOf_15 : decode cX4_ownerOf 15 = .ok (.iload_n 1, 1) := by decide +kernel
theorem dX4_ownerOf_16 : decode cX4_ownerOf 16 = .ok (.ishl, 1) := by decide +kernel
theorem dX4_ownerOf_17 : decode cX4_ownerOf 17 = .ok (.iand, 1) := by decide +kernel
theorem dX4_ownerOf_18 : decode cX4_ownerOf 18 = .ok (.ifCond .eq 7, 3) := by decide +kernel
theorem dX4_ownerOf_21 : decode cX4_ownerOf 21 = .ok (.iconst 1, 1) := by decide +kernel
theorem dX4_ownerOf_22 : decode cX4_ownerOf 22 = .ok (.goto 4, 3) := by decide +kernel
theorem dX4_ownerOf_25 : decode cX4_ownerOf 25 = .ok (.iconst 2, 1) := by decide +kernel
theorem dX4_ownerOf_26 : decode cX4_ownerOf 26 = .ok (.ireturn, 1) := by decide +kernel
theorem dX4_mover_0 : decode cX4_mover 0 = .ok (.aload_n 0, 1) := by decide +kernel
theorem dX4_mover_1 : decode cX4_mover 1 = .ok (.getfield 28, 3) := by decide +kernel
theorem dX4_mover_4 : decode cX4_mover 4 = .ok (.ifCond .eq 7, 3) := by decide +kernel
theorem dX4_mover_7 : decode cX4_mover 7 = .ok (.iconst 1, 1) := by decide +kernel
theorem dX4_mover_8 : decode cX4_mover 8 = .ok (.goto 4, 3) := by decide +kernel
theorem dX4_mover_11 : decode cX4_mover 11 = .ok (.iconst 2, 1) := by decide +kernel
theorem dX4_mover_12 : decode cX4_mover 12 = .ok (.ireturn, 1) := by decide +kernel
set_option maxRecDepth 20000 in
theorem ggX4_winner_X1_survey : GoodIn wsX4_winner wsX1_survey := goodIn_r _ [9, 10, 11, 12, 13, 14, 15, 16, 17, 18, 19, 20, 21, 22, 33, 34, 35, 36, 37, 38] (by decide +kernel) (by decide +kernel)
set_option maxRecDepth 20000 in
theorem gX4_winner_X1_survey : GoodIn wsX4_winner (wsV RX4 72 RX1 yX1_survey wsX1_survey) := goodIn_app (goodIn_of _ (by decide +kernel)) ggX4_winner_X1_survey
theorem dX4_winner_0 : decode cX4_winner 0 = .ok (.aload_n 0, 1) := by decide +kernel
theorem dX4_winner_1 : decode cX4_winner 1 = .ok (.getfield 12, 3) := by decide +kernel
theorem dX4_winner_4 : decode cX4_winner 4 = .ok (.aload_n 0, 1) := by decide +kernel
theorem dX4_winner_5 : decode cX4_winner 5 = .ok (.getfield 22, 3) := by decide +kernel
theorem dX4_winner_8 : decode cX4_winner 8 = .ok (.aload_n 0, 1) := by decide +kernel
theorem dX4_winner_9 : decode cX4_winner 9 = .ok (.getfield 25, 3) := by decide +kernel
theorem dX4_winner_12 : decode cX4_winner 12 = .ok (.invokevirtual 72, 3) := by decide +kernel
theorem dX4_winner_15 : decode cX4_winner 15 = .ok (.aload_n 0, 1) := by decide +kernel
theorem dX4_winner_16 : decode cX4_winner 16 = .ok (.getfield 12, 3) := by decide +kernel
theorem dX4_winner_19 : decode cX4_winner 19 = .ok (.getfield 76, 3) := by decide +kernel
theorem dX4_winner_22 : decode cX4_winner 22 = .ok (.ireturn, 1) := by decide +kernel
set_option maxRecDepth 20000 in
theorem ggX4_weight_X1_survey : GoodIn wsX4_weight wsX1_survey := goodIn_r _ [9, 10, 11, 12, 13, 14, 15, 16, 17, 18, 19, 20, 21, 22, 33, 34, 35, 36, 37, 38] (by decide +kernel) (by decide +kernel)
set_option maxRecDepth 20000 in
theorem gX4_weight_X1_survey : GoodIn wsX4_weight (wsV RX4 72 RX1 yX1_survey wsX1_survey) := goodIn_app (goodIn_of _ (by decide +kernel)) ggX4_weight_X1_survey
theorem dX4_weight_0 : decode cX4_weight 0 = .ok (.aload_n 0, 1) := by decide +kernel
theorem dX4_weight_1 : decode cX4_weight 1 = .ok (.getfield 12, 3) := by decide +kernel
theorem dX4_weight_4 : decode cX4_weight 4 = .ok (.aload_n 0, 1) := by decide +kernel
theorem dX4_weight_5 : decode cX4_weight 5 = .ok (.getfield 22, 3) := by decide +kernel
theorem dX4_weight_8 : decode cX4_weight 8 = .ok (.aload_n 0, 1) := by decide +kernel
theorem dX4_weight_9 : decode cX4_weight 9 = .ok (.getfield 25, 3) := by decide +kernel
theorem dX4_weight_12 : decode cX4_weight 12 = .ok (.invokevirtual 72, 3) := by decide +kernel
theorem dX4_weight_15 : decode cX4_weight 15 = .ok (.aload_n 0, 1) := by decide +kernel
theorem dX4_weight_16 : decode cX4_weight 16 = .ok (.getfield 12, 3) := by decide +kernel
theorem dX4_weight_19 : decode cX4_weight 19 = .ok (.getfield 78, 3) := by decide +kernel
theorem dX4_weight_22 : decode cX4_weight 22 = .ok (.ireturn, 1) := by decide +kernel
set_option maxRecDepth 20000 in
theorem ggX4_forcedReply_X1_survey : GoodIn wsX4_forcedReply wsX1_survey := goodIn_r _ [9, 10, 11, 12, 13, 14, 15, 16, 17, 18, 19, 20, 21, 22, 36, 37, 38, 39, 40, 41] (by decide +kernel) (by decide +kernel)
set_option maxRecDepth 20000 in
theorem gX4_forcedReply_X1_survey : GoodIn wsX4_forcedReply (wsV RX4 72 RX1 yX1_survey wsX1_survey) := goodIn_app (goodIn_of _ (by decide +kernel)) ggX4_forcedReply_X1_survey
set_option maxRecDepth 20000 in
theorem ggX4_forcedReply_X6_lowestOf : GoodIn wsX4_forcedReply wsX6_lowestOf := goodIn_r _ [25] (by decide +kernel) (by decide +kernel)
set_option maxRecDepth 20000 in
theorem gX4_forcedReply_X6_lowestOf_n84 : GoodIn wsX4_forcedReply (wsX6_lowestOf) := ggX4_forcedReply_X6_lowestOf
theorem dX4_forcedReply_0 : decode cX4_forcedReply 0 = .ok (.aload_n 0, 1) := by decide +kernel
theorem dX4_forcedReply_1 : decode cX4_forcedReply 1 = .ok (.getfield 12, 3) := by decide +kernel
theorem dX4_forcedReply_4 : decode cX4_forcedReply 4 = .ok (.aload_n 0, 1) := by decide +kernel
theorem dX4_forcedReply_5 : decode cX4_forcedReply 5 = .ok (.getfield 22, 3) := by decide +kernel
theorem dX4_forcedReply_8 : decode cX4_forcedReply 8 = .ok (.aload_n 0, 1) := by decide +kernel
theorem dX4_forcedReply_9 : decode cX4_forcedReply 9 = .ok (.getfield 25, 3) := by decide +kernel
theorem dX4_forcedReply_12 : decode cX4_forcedReply 12 = .ok (.invokevirtual 72, 3) := by decide +kernel
theorem dX4_forcedReply_15 : decode cX4_forcedReply 15 = .ok (.aload_n 0, 1) := by decide +kernel
theorem dX4_forcedReply_16 : decode cX4_forcedReply 16 = .ok (.getfield 12, 3) := by decide +kernel
theorem dX4_forcedReply_19 : decode cX4_forcedReply 19 = .ok (.getfield 81, 3) := by decide +kernel
theorem dX4_forcedReply_22 : decode cX4_forcedReply 22 = .ok (.invokestatic 84, 3) := by decide +kernel
theorem dX4_forcedReply_25 : decode cX4_forcedReply 25 = .ok (.ireturn, 1) := by decide +kernel
set_option maxRecDepth 20000 in
theorem ggX4_dangerOf_X4_isFree : GoodIn wsX4_dangerOf wsX4_isFree := goodIn_r _ [8, 9, 10, 11, 7, 12, 2, 3, 13, 14, 15, 16, 17, 32, 33, 34, 35, 36, 37, 38, 39, 40, 41] (by decide +kernel) (by decide +kernel)
set_option maxRecDepth 20000 in
theorem gX4_dangerOf_X4_isFree : GoodIn wsX4_dangerOf (wsV RX4 68 RX4 yX4_isFree wsX4_isFree) := goodIn_app (goodIn_of _ (by decide +kernel)) ggX4_dangerOf_X4_isFree
set_option maxRecDepth 20000 in
theorem ggX4_dangerOf_X1_weightWith : GoodIn wsX4_dangerOf wsX1_weightWith := goodIn_r _ [22, 23, 24, 25, 26, 27, 28, 29, 30, 31, 42, 43, 44, 45, 46, 47] (by decide +kernel) (by decide +kernel)
set_option maxRecDepth 20000 in
theorem gX4_dangerOf_X1_weightWith : GoodIn wsX4_dangerOf (wsV RX4 88 RX1 yX1_weightWith wsX1_weightWith) := goodIn_app (goodIn_of _ (by decide +kernel)) ggX4_dangerOf_X1_weightWith
theorem dX4_dangerOf_0 : decode cX4_dangerOf 0 = .ok (.aload_n 0, 1) := by decide +kernel
theorem dX4_dangerOf_1 : decode cX4_dangerOf 1 = .ok (.iload_n 1, 1) := by decide +kernel
theorem dX4_dangerOf_2 : decode cX4_dangerOf 2 = .ok (.invokevirtual 68, 3) := by decide +kernel
theorem dX4_dangerOf_5 : decode cX4_dangerOf 5 = .ok (.ifCond .eq 22, 3) := by decide +kernel
theorem dX4_dangerOf_8 : decode cX4_dangerOf 8 = .ok (.aload_n 0, 1) := by decide +kernel
theorem dX4_dangerOf_9 : decode cX4_dangerOf 9 = .ok (.getfield 12, 3) := by decide +kernel
theorem dX4_dangerOf_12 : decode cX4_dangerOf 12 = .ok (.iload_n 1, 1) := by decide +kernel
theorem dX4_dangerOf_13 : decode cX4_dangerOf 13 = .ok (.aload_n 0, 1) := by decide +kernel
theorem dX4_dangerOf_14 : decode cX4_dangerOf 14 = .ok (.getfield 22, 3) := by decide +kernel
theorem dX4_dangerOf_17 : decode cX4_dangerOf 17 = .ok (.aload_n 0, 1) := by decide +kernel
theorem dX4_dangerOf_18 : decode cX4_dangerOf 18 = .ok (.getfield 25, 3) := by decide +kernel
theorem dX4_dangerOf_21 : decode cX4_dangerOf 21 = .ok (.invokevirtual 88, 3) := by decide +kernel
theorem dX4_dangerOf_24 : decode cX4_dangerOf 24 = .ok (.goto 4, 3) := by decide +kernel
theorem dX4_dangerOf_27 : decode cX4_dangerOf 27 = .ok (.iconst 0, 1) := by decide +kernel
theorem dX4_dangerOf_28 : decode cX4_dangerOf 28 = .ok (.ireturn, 1) := by decide +kernel
set_option maxRecDepth 20000 in
theorem ggX4_mostDangerous_X4_freeCells : GoodIn wsX4_mostDangerous wsX4_freeCells := goodIn_r _ [8, 2, 3, 9, 10, 11, 7, 12, 13, 28, 29, 30, 31, 32, 33, 34, 35, 36, 37] (by decide +kernel) (by decide +kernel)
set_option maxRecDepth 20000 in
theorem gX4_mostDangerous_X4_freeCells : GoodIn wsX4_mostDangerous (wsV RX4 65 RX4 yX4_freeCells wsX4_freeCells) := goodIn_app (goodIn_of _ (by decide +kernel)) ggX4_mostDangerous_X4_freeCells
set_option maxRecDepth 20000 in
theorem ggX4_mostDangerous_X1_weightWith : GoodIn wsX4_mostDangerous wsX1_weightWith := goodIn_r _ [18, 19, 20, 21, 22, 23, 24, 25, 26, 27, 38, 39, 40, 41, 42, 43] (by decide +kernel) (by decide +kernel)
set_option maxRecDepth 20000 in
theorem gX4_mostDangerous_X1_weightWith : GoodIn wsX4_mostDangerous (wsV RX4 88 RX1 yX1_weightWith wsX1_weightWith) := goodIn_app (goodIn_of _ (by decide +kernel)) ggX4_mostDangerous_X1_weightWith
theorem dX4_mostDangerous_0 : decode cX4_mostDangerous 0 = .ok (.aload_n 0, 1) := by decide +kernel
theorem dX4_mostDangerous_1 : decode cX4_mostDangerous 1 = .ok (.invokevirtual 65, 3) := by decide +kernel
theorem dX4_mostDangerous_4 : decode cX4_mostDangerous 4 = .ok (.istore_n 1, 1) := by decide +kernel
theorem dX4_mostDangerous_5 : decode cX4_mostDangerous 5 = .ok (.iconst (-1), 1) := by decide +kernel
theorem dX4_mostDangerous_6 : decode cX4_mostDangerous 6 = .ok (.istore_n 2, 1) := by decide +kernel
theorem dX4_mostDangerous_7 : decode cX4_mostDangerous 7 = .ok (.iconst (-1), 1) := by decide +kernel
theorem dX4_mostDangerous_8 : decode cX4_mostDangerous 8 = .ok (.istore_n 3, 1) := by decide +kernel
theorem dX4_mostDangerous_9 : decode cX4_mostDangerous 9 = .ok (.iconst 0, 1) := by decide +kernel
theorem dX4_mostDangerous_10 : decode cX4_mostDangerous 10 = .ok (.istore 4, 2) := by decide +kernel
theorem dX4_mostDangerous_12 : decode cX4_mostDangerous 12 = .ok (.iload 4, 2) := by decide +kernel
theorem dX4_mostDangerous_14 : decode cX4_mostDangerous 14 = .ok (.bipush 10, 2) := by decide +kernel
theorem dX4_mostDangerous_16 : decode cX4_mostDangerous 16 = .ok (.if_icmp .ge 49, 3) := by decide +kernel
theorem dX4_mostDangerous_19 : decode cX4_mostDangerous 19 = .ok (.iload_n 1, 1) := by decide +kernel
theorem dX4_mostDangerous_20 : decode cX4_mostDangerous 20 = .ok (.iconst 1, 1) := by decide +kernel
theorem dX4_mostDangerous_21 : decode cX4_mostDangerous 21 = .ok (.iload 4, 2) := by decide +kernel
theorem dX4_mostDangerous_23 : decode cX4_mostDangerous 23 = .ok (.ishl, 1) := by decide +kernel
theorem dX4_mostDangerous_24 : decode cX4_mostDangerous 24 = .ok (.iand, 1) := by decide +kernel
theorem dX4_mostDangerous_25 : decode cX4_mostDangerous 25 = .ok (.ifCond .eq 34, 3) := by decide +kernel
theorem dX4_mostDangerous_28 : decode cX4_mostDangerous 28 = .ok (.aload_n 0, 1) := by decide +kernel
theorem dX4_mostDangerous_29 : decode cX4_mostDangerous 29 = .ok (.getfield 12, 3) := by decide +kernel
theorem dX4_mostDangerous_32 : decode cX4_mostDangerous 32 = .ok (.iload 4, 2) := by decide +kernel
theorem dX4_mostDangerous_34 : decode cX4_mostDangerous 34 = .ok (.aload_n 0, 1) := by decide +kernel
theorem dX4_mostDangerous_35 : decode cX4_mostDangerous 35 = .ok (.getfield 22, 3) := by decide +kernel
theorem dX4_mostDangerous_38 : decode cX4_mostDangerous 38 = .ok (.aload_n 0, 1) := by decide +kernel
theorem dX4_mostDangerous_39 : decode cX4_mostDangerous 39 = .ok (.getfield 25, 3) := by decide +kernel
theorem dX4_mostDangerous_42 : decode cX4_mostDangerous 42 = .ok (.invokevirtual 88, 3) := by decide +kernel
theorem dX4_mostDangerous_45 : decode cX4_mostDangerous 45 = .ok (.istore 5, 2) := by decide +kernel
theorem dX4_mostDangerous_47 : decode cX4_mostDangerous 47 = .ok (.iload 5, 2) := by decide +kernel
theorem dX4_mostDangerous_49 : decode cX4_mostDangerous 49 = .ok (.iload_n 3, 1) := by decide +kernel
theorem dX4_mostDangerous_50 : decode cX4_mostDangerous 50 = .ok (.if_icmp .le 9, 3) := by decide +kernel
theorem dX4_mostDangerous_53 : decode cX4_mostDangerous 53 = .ok (.iload 5, 2) := by decide +kernel
theorem dX4_mostDangerous_55 : decode cX4_mostDangerous 55 = .ok (.istore_n 3, 1) := by decide +kernel
theorem dX4_mostDangerous_56 : decode cX4_mostDangerous 56 = .ok (.iload 4, 2) := by decide +kernel
theorem dX4_mostDangerous_58 : decode cX4_mostDangerous 58 = .ok (.istore_n 2, 1) := by decide +kernel
theorem dX4_mostDangerous_59 : decode cX4_mostDangerous 59 = .ok (.iinc 4 1, 3) := by decide +kernel
theorem dX4_mostDangerous_62 : decode cX4_mostDangerous 62 = .ok (.goto (-50), 3) := by decide +kernel
theorem dX4_mostDangerous_65 : decode cX4_mostDangerous 65 = .ok (.iload_n 2, 1) := by decide +kernel
theorem dX4_mostDangerous_66 : decode cX4_mostDangerous 66 = .ok (.ireturn, 1) := by decide +kernel
theorem dX5_init_0 : decode cX5_init 0 = .ok (.aload_n 0, 1) := by decide +kernel
theorem dX5_init_1 : decode cX5_init 1 = .ok (.invokespecial 3, 3) := by decide +kernel
theorem dX5_init_4 : decode cX5_init 4 = .ok (.aload_n 0, 1) := by decide +kernel
theorem dX5_init_5 : decode cX5_init 5 = .ok (.bipush 60, 2) := by decide +kernel
theorem dX5_init_7 : decode cX5_init 7 = .ok (.newarray .int, 2) := by decide +kernel
theorem dX5_init_9 : decode cX5_init 9 = .ok (.putfield 9, 3) := by decide +kernel
theorem dX5_init_12 : decode cX5_init 12 = .ok (.aload_n 0, 1) := by decide +kernel
theorem dX5_init_13 : decode cX5_init 13 = .ok (.iconst 0, 1) := by decide +kernel
theorem dX5_init_14 : decode cX5_init 14 = .ok (.putfield 15, 3) := by decide +kernel
theorem dX5_init_17 : decode cX5_init 17 = .ok (.return_, 1) := by decide +kernel
theorem dX5_put_0 : decode cX5_put 0 = .ok (.aload_n 0, 1) := by decide +kernel
theorem dX5_put_1 : decode cX5_put 1 = .ok (.getfield 15, 3) := by decide +kernel
theorem dX5_put_4 : decode cX5_put 4 = .ok (.ifCond .lt 35, 3) := by decide +kernel
theorem dX5_put_7 : decode cX5_put 7 = .ok (.aload_n 0, 1) := by decide +kernel
theorem dX5_put_8 : decode cX5_put 8 = .ok (.getfield 15, 3) := by decide +kernel
theorem dX5_put_11 : decode cX5_put 11 = .ok (.aload_n 0, 1) := by decide +kernel
theorem dX5_put_12 : decode cX5_put 12 = .ok (.getfield 9, 3) := by decide +kernel
theorem dX5_put_15 : decode cX5_put 15 = .ok (.arraylength, 1) := by decide +kernel
theorem dX5_put_16 : decode cX5_put 16 = .ok (.if_icmp .ge 23, 3) := by decide +kernel
theorem dX5_put_19 : decode cX5_put 19 = .ok (.aload_n 0, 1) := by decide +kernel
theorem dX5_put_20 : decode cX5_put 20 = .ok (.getfield 9, 3) := by decide +kernel
theorem dX5_put_23 : decode cX5_put 23 = .ok (.aload_n 0, 1) := by decide +kernel
theorem dX5_put_24 : decode cX5_put 24 = .ok (.getfield 15, 3) := by decide +kernel
theorem dX5_put_27 : decode cX5_put 27 = .ok (.iload_n 1, 1) := by decide +kernel
theorem dX5_put_28 : decode cX5_put 28 = .ok (.iastore, 1) := by decide +kernel
theorem dX5_put_29 : decode cX5_put 29 = .ok (.aload_n 0, 1) := by decide +kernel
theorem dX5_put_30 : decode cX5_put 30 = .ok (.dup, 1) := by decide +kernel
theorem dX5_put_31 : decode cX5_put 31 = .ok (.getfield 15, 3) := by decide +kernel
theorem dX5_put_34 : decode cX5_put 34 = .ok (.iconst 1, 1) := by decide +kernel
theorem dX5_put_35 : decode cX5_put 35 = .ok (.iadd, 1) := by decide +kernel
theorem dX5_put_36 : decode cX5_put 36 = .ok (.putfield 15, 3) := by decide +kernel
theorem dX5_put_39 : decode cX5_put 39 = .ok (.return_, 1) := by decide +kernel
theorem dX5_errorAt_0 : decode cX5_errorAt 0 = .ok (.iconst 0, 1) := by decide +kernel
theorem dX5_errorAt_1 : decode cX5_errorAt 1 = .ok (.istore_n 2, 1) := by decide +kernel
theorem dX5_errorAt_2 : decode cX5_errorAt 2 = .ok (.iconst 0, 1) := by decide +kernel
theorem dX5_errorAt_3 : decode cX5_errorAt 3 = .ok (.istore_n 3, 1) := by decide +kernel
theorem dX5_errorAt_4 : decode cX5_errorAt 4 = .ok (.iload_n 3, 1) := by decide +kernel
theorem dX5_errorAt_5 : decode cX5_errorAt 5 = .ok (.aload_n 0, 1) := by decide +kernel
theorem dX5_errorAt_6 : decode cX5_errorAt 6 = .ok (.getfield 15, 3) := by decide +kernel
theorem dX5_errorAt_9 : decode cX5_errorAt 9 = .ok (.if_icmp .ge 71, 3) := by decide +kernel
theorem dX5_errorAt_12 : decode cX5_errorAt 12 = .ok (.iload_n 3, 1) := by decide +kernel
theorem dX5_errorAt_13 : decode cX5_errorAt 13 = .ok (.aload_n 0, 1) := by decide +kernel
theorem dX5_errorAt_14 : decode cX5_errorAt 14 = .ok (.getfield 9, 3) := by decide +kernel
theorem dX5_errorAt_17 : decode cX5_errorAt 17 = .ok (.arraylength, 1) := by decide +kernel
theorem dX5_errorAt_18 : decode cX5_errorAt 18 = .ok (.if_icmp .ge 62, 3) := by decide +kernel
theorem dX5_errorAt_21 : decode cX5_errorAt 21 = .ok (.aload_n 0, 1) := by decide +kernel
theorem dX5_errorAt_22 : decode cX5_errorAt 22 = .ok (.getfield 9, 3) := by decide +kernel
theorem dX5_errorAt_25 : decode cX5_errorAt 25 = .ok (.iload_n 3, 1) := by decide +kernel
theorem dX5_errorAt_26 : decode cX5_errorAt 26 = .ok (.iaload, 1) := by decide +kernel
theorem dX5_errorAt_27 : decode cX5_errorAt 27 = .ok (.bipush 48, 2) := by decide +kernel
theorem dX5_errorAt_29 : decode cX5_errorAt 29 = .ok (.isub, 1) := by decide +kernel
theorem dX5_errorAt_30 : decode cX5_errorAt 30 = .ok (.istore 4, 2) := by decide +kernel
theorem dX5_errorAt_32 : decode cX5_errorAt 32 = .ok (.aload_n 0, 1) := by decide +kernel
theorem dX5_errorAt_33 : decode cX5_errorAt 33 = .ok (.getfield 9, 3) := by decide +kernel
theorem dX5_errorAt_36 : decode cX5_errorAt 36 = .ok (.iload_n 3, 1) := by decide +kernel
theorem dX5_errorAt_37 : decode cX5_errorAt 37 = .ok (.iaload, 1) := by decide +kernel
theorem dX5_errorAt_38 : decode cX5_errorAt 38 = .ok (.bipush 59, 2) := by decide +kernel
theorem dX5_errorAt_40 : decode cX5_errorAt 40 = .ok (.if_icmp .ne 12, 3) := by decide +kernel
theorem dX5_errorAt_43 : decode cX5_errorAt 43 = .ok (.iload_n 2, 1) := by decide +kernel
theorem dX5_errorAt_44 : decode cX5_errorAt 44 = .ok (.ifCond .le 8, 3) := by decide +kernel
theorem dX5_errorAt_47 : decode cX5_errorAt 47 = .ok (.iconst 0, 1) := by decide +kernel
theorem dX5_errorAt_48 : decode cX5_errorAt 48 = .ok (.istore_n 2, 1) := by decide +kernel
theorem dX5_errorAt_49 : decode cX5_errorAt 49 = .ok (.goto 25, 3) := by decide +kernel
theorem dX5_errorAt_52 : decode cX5_errorAt 52 = .ok (.iload 4, 2) := by decide +kernel
theorem dX5_errorAt_54 : decode cX5_errorAt 54 = .ok (.iload_n 2, 1) := by decide +kernel
theorem dX5_errorAt_55 : decode cX5_errorAt 55 = .ok (.if_icmp .lt 17, 3) := by decide +kernel
theorem dX5_errorAt_58 : decode cX5_errorAt 58 = .ok (.iload 4, 2) := by decide +kernel
theorem dX5_errorAt_60 : decode cX5_errorAt 60 = .ok (.iload_n 1, 1) := by decide +kernel
theorem dX5_errorAt_61 : decode cX5_errorAt 61 = .ok (.if_icmp .ge 11, 3) := by decide +kernel
theorem dX5_errorAt_64 : decode cX5_errorAt 64 = .ok (.iload 4, 2) := by decide +kernel
theorem dX5_errorAt_66 : decode cX5_errorAt 66 = .ok (.iconst 1, 1) := by decide +kernel
theorem dX5_errorAt_67 : decode cX5_errorAt 67 = .ok (.iadd, 1) := by decide +kernel
theorem dX5_errorAt_68 : decode cX5_errorAt 68 = .ok (.istore_n 2, 1) := by decide +kernel
theorem dX5_errorAt_69 : decode cX5_errorAt 69 = .ok (.goto 5, 3) := by decide +kernel
theorem dX5_errorAt_72 : decode cX5_errorAt 72 = .ok (.iload_n 3, 1) := by decide +kernel
theorem dX5_errorAt_73 : decode cX5_errorAt 73 = .ok (.ireturn, 1) := by decide +kernel
theorem dX5_errorAt_74 : decode cX5_errorAt 74 = .ok (.iinc 3 1, 3) := by decide +kernel
theorem dX5_errorAt_77 : decode cX5_errorAt 77 = .ok (.goto (-73), 3) := by decide +kernel
theorem dX5_errorAt_80 : decode cX5_errorAt 80 = .ok (.aload_n 0, 1) := by decide +kernel
theorem dX5_errorAt_81 : decode cX5_errorAt 81 = .ok (.getfield 15, 3) := by decide +kernel
theorem dX5_errorAt_84 : decode cX5_errorAt 84 = .ok (.ireturn, 1) := by decide +kernel
set_option maxRecDepth 20000 in
theorem ggX5_isComplete_X5_errorAt : GoodIn wsX5_isComplete wsX5_errorAt := goodIn_r _ [7, 1, 2, 8, 9] (by decide +kernel) (by decide +kernel)
set_option maxRecDepth 20000 in
theorem gX5_isComplete_X5_errorAt : GoodIn wsX5_isComplete (wsV RX5 19 RX5 yX5_errorAt wsX5_errorAt) := goodIn_app (goodIn_of _ (by decide +kernel)) ggX5_isComplete_X5_errorAt
theorem dX5_isComplete_0 : decode cX5_isComplete 0 = .ok (.aload_n 0, 1) := by decide +kernel
theorem dX5_isComplete_1 : decode cX5_isComplete 1 = .ok (.getfield 15, 3) := by decide +kernel
theorem dX5_isComplete_4 : decode cX5_isComplete 4 = .ok (.ifCond .le 15, 3) := by decide +kernel
theorem dX5_isComplete_7 : decode cX5_isComplete 7 = .ok (.aload_n 0, 1) := by decide +kernel
theorem dX5_isComplete_8 : decode cX5_isComplete 8 = .ok (.getfield 15, 3) := by decide +kernel
theorem dX5_isComplete_11 : decode cX5_isComplete 11 = .ok (.aload_n 0, 1) := by decide +kernel
theorem dX5_isComplete_12 : decode cX5_isComplete 12 = .ok (.getfield 9, 3) := by decide +kernel
theorem dX5_isComplete_15 : decode cX5_isComplete 15 = .ok (.arraylength, 1) := by decide +kernel
theorem dX5_isComplete_16 : decode cX5_isComplete 16 = .ok (.if_icmp .le 5, 3) := by decide +kernel
theorem dX5_isComplete_19 : decode cX5_isComplete 19 = .ok (.iconst 0, 1) := by decide +kernel
theorem dX5_isComplete_20 : decode cX5_isComplete 20 = .ok (.ireturn, 1) := by decide +kernel
theorem dX5_isComplete_21 : decode cX5_isComplete 21 = .ok (.aload_n 0, 1) := by decide +kernel
theorem dX5_isComplete_22 : decode cX5_isComplete 22 = .ok (.getfield 9, 3) := by decide +kernel
theorem dX5_isComplete_25 : decode cX5_isComplete 25 = .ok (.aload_n 0, 1) := by decide +kernel
theorem dX5_isComplete_26 : decode cX5_isComplete 26 = .ok (.getfield 15, 3) := by decide +kernel
theorem dX5_isComplete_29 : decode cX5_isComplete 29 = .ok (.iconst 1, 1) := by decide +kernel
theorem dX5_isComplete_30 : decode cX5_isComplete 30 = .ok (.isub, 1) := by decide +kernel
theorem dX5_isComplete_31 : decode cX5_isComplete 31 = .ok (.iaload, 1) := by decide +kernel
theorem dX5_isComplete_32 : decode cX5_isComplete 32 = .ok (.bipush 59, 2) := by decide +kernel
theorem dX5_isComplete_34 : decode cX5_isComplete 34 = .ok (.if_icmp .eq 19, 3) := by decide +kernel
theorem dX5_isComplete_37 : decode cX5_isComplete 37 = .ok (.aload_n 0, 1) := by decide +kernel
theorem dX5_isComplete_38 : decode cX5_isComplete 38 = .ok (.iload_n 1, 1) := by decide +kernel
theorem dX5_isComplete_39 : decode cX5_isComplete 39 = .ok (.invokevirtual 19, 3) := by decide +kernel
theorem dX5_isComplete_42 : decode cX5_isComplete 42 = .ok (.aload_n 0, 1) := by decide +kernel
theorem dX5_isComplete_43 : decode cX5_isComplete 43 = .ok (.getfield 15, 3) := by decide +kernel
theorem dX5_isComplete_46 : decode cX5_isComplete 46 = .ok (.if_icmp .ne 7, 3) := by decide +kernel
theorem dX5_isComplete_49 : decode cX5_isComplete 49 = .ok (.iconst 1, 1) := by decide +kernel
theorem dX5_isComplete_50 : decode cX5_isComplete 50 = .ok (.goto 4, 3) := by decide +kernel
theorem dX5_isComplete_53 : decode cX5_isComplete 53 = .ok (.iconst 0, 1) := by decide +kernel
theorem dX5_isComplete_54 : decode cX5_isComplete 54 = .ok (.ireturn, 1) := by decide +kernel
theorem dX5_rows_0 : decode cX5_rows 0 = .ok (.iconst 1, 1) := by decide +kernel
theorem dX5_rows_1 : decode cX5_rows 1 = .ok (.istore_n 1, 1) := by decide +kernel
theorem dX5_rows_2 : decode cX5_rows 2 = .ok (.iconst 0, 1) := by decide +kernel
theorem dX5_rows_3 : decode cX5_rows 3 = .ok (.istore_n 2, 1) := by decide +kernel
theorem dX5_rows_4 : decode cX5_rows 4 = .ok (.iload_n 2, 1) := by decide +kernel
theorem dX5_rows_5 : decode cX5_rows 5 = .ok (.aload_n 0, 1) := by decide +kernel
theorem dX5_rows_6 : decode cX5_rows 6 = .ok (.getfield 15, 3) := by decide +kernel
theorem dX5_rows_9 : decode cX5_rows 9 = .ok (.if_icmp .ge 32, 3) := by decide +kernel
theorem dX5_rows_12 : decode cX5_rows 12 = .ok (.iload_n 2, 1) := by decide +kernel
theorem dX5_rows_13 : decode cX5_rows 13 = .ok (.aload_n 0, 1) := by decide +kernel
theorem dX5_rows_14 : decode cX5_rows 14 = .ok (.getfield 9, 3) := by decide +kernel
theorem dX5_rows_17 : decode cX5_rows 17 = .ok (.arraylength, 1) := by decide +kernel
theorem dX5_rows_18 : decode cX5_rows 18 = .ok (.if_icmp .ge 23, 3) := by decide +kernel
theorem dX5_rows_21 : decode cX5_rows 21 = .ok (.aload_n 0, 1) := by decide +kernel
theorem dX5_rows_22 : decode cX5_rows 22 = .ok (.getfield 9, 3) := by decide +kernel
theorem dX5_rows_25 : decode cX5_rows 25 = .ok (.iload_n 2, 1) := by decide +kernel
theorem dX5_rows_26 : decode cX5_rows 26 = .ok (.iaload, 1) := by decide +kernel
theorem dX5_rows_27 : decode cX5_rows 27 = .ok (.bipush 59, 2) := by decide +kernel
theorem dX5_rows_29 : decode cX5_rows 29 = .ok (.if_icmp .ne 6, 3) := by decide +kernel
theorem dX5_rows_32 : decode cX5_rows 32 = .ok (.iinc 1 1, 3) := by decide +kernel
theorem dX5_rows_35 : decode cX5_rows 35 = .ok (.iinc 2 1, 3) := by decide +kernel
theorem dX5_rows_38 : decode cX5_rows 38 = .ok (.goto (-34), 3) := by decide +kernel
theorem dX5_rows_41 : decode cX5_rows 41 = .ok (.iload_n 1, 1) := by decide +kernel
theorem dX5_rows_42 : decode cX5_rows 42 = .ok (.ireturn, 1) := by decide +kernel
set_option maxRecDepth 20000 in
theorem ggX5_addTo_X1_put : GoodIn wsX5_addTo wsX1_put := goodIn_r _ [7, 8, 9, 12, 13, 14, 15, 16, 17] (by decide +kernel) (by decide +kernel)
set_option maxRecDepth 20000 in
theorem gX5_addTo_X1_put : GoodIn wsX5_addTo (wsV RX5 23 RX1 yX1_put wsX1_put) := goodIn_app (goodIn_of _ (by decide +kernel)) ggX5_addTo_X1_put
theorem dX5_addTo_0 : decode cX5_addTo 0 = .ok (.iconst 0, 1) := by decide +kernel
theorem dX5_addTo_1 : decode cX5_addTo 1 = .ok (.istore_n 2, 1) := by decide +kernel
theorem dX5_addTo_2 : decode cX5_addTo 2 = .ok (.iconst 0, 1) := by decide +kernel
theorem dX5_addTo_3 : decode cX5_addTo 3 = .ok (.istore_n 3, 1) := by decide +kernel
theorem dX5_addTo_4 : decode cX5_addTo 4 = .ok (.iload_n 3, 1) := by decide +kernel
theorem dX5_addTo_5 : decode cX5_addTo 5 = .ok (.aload_n 0, 1) := by decide +kernel
theorem dX5_addTo_6 : decode cX5_addTo 6 = .ok (.getfield 15, 3) := by decide +kernel
theorem dX5_addTo_9 : decode cX5_addTo 9 = .ok (.if_icmp .ge 53, 3) := by decide +kernel
theorem dX5_addTo_12 : decode cX5_addTo 12 = .ok (.iload_n 3, 1) := by decide +kernel
theorem dX5_addTo_13 : decode cX5_addTo 13 = .ok (.aload_n 0, 1) := by decide +kernel
theorem dX5_addTo_14 : decode cX5_addTo 14 = .ok (.getfield 9, 3) := by decide +kernel
theorem dX5_addTo_17 : decode cX5_addTo 17 = .ok (.arraylength, 1) := by decide +kernel
theorem dX5_addTo_18 : decode cX5_addTo 18 = .ok (.if_icmp .ge 44, 3) := by decide +kernel
theorem dX5_addTo_21 : decode cX5_addTo 21 = .ok (.aload_n 0, 1) := by decide +kernel
theorem dX5_addTo_22 : decode cX5_addTo 22 = .ok (.getfield 9, 3) := by decide +kernel
theorem dX5_addTo_25 : decode cX5_addTo 25 = .ok (.iload_n 3, 1) := by decide +kernel
theorem dX5_addTo_26 : decode cX5_addTo 26 = .ok (.iaload, 1) := by decide +kernel
theorem dX5_addTo_27 : decode cX5_addTo 27 = .ok (.bipush 59, 2) := by decide +kernel
theorem dX5_addTo_29 : decode cX5_addTo 29 = .ok (.if_icmp .ne 13, 3) := by decide +kernel
theorem dX5_addTo_32 : decode cX5_addTo 32 = .ok (.aload_n 1, 1) := by decide +kernel
theorem dX5_addTo_33 : decode cX5_addTo 33 = .ok (.iload_n 2, 1) := by decide +kernel
theorem dX5_addTo_34 : decode cX5_addTo 34 = .ok (.invokevirtual 23, 3) := by decide +kernel
theorem dX5_addTo_37 : decode cX5_addTo 37 = .ok (.iconst 0, 1) := by decide +kernel
theorem dX5_addTo_38 : decode cX5_addTo 38 = .ok (.istore_n 2, 1) := by decide +kernel
theorem dX5_addTo_39 : decode cX5_addTo 39 = .ok (.goto 17, 3) := by decide +kernel
theorem dX5_addTo_42 : decode cX5_addTo 42 = .ok (.iload_n 2, 1) := by decide +kernel
theorem dX5_addTo_43 : decode cX5_addTo 43 = .ok (.iconst 1, 1) := by decide +kernel
theorem dX5_addTo_44 : decode cX5_addTo 44 = .ok (.aload_n 0, 1) := by decide +kernel
theorem dX5_addTo_45 : decode cX5_addTo 45 = .ok (.getfield 9, 3) := by decide +kernel
theorem dX5_addTo_48 : decode cX5_addTo 48 = .ok (.iload_n 3, 1) := by decide +kernel
theorem dX5_addTo_49 : decode cX5_addTo 49 = .ok (.iaload, 1) := by decide +kernel
theorem dX5_addTo_50 : decode cX5_addTo 50 = .ok (.bipush 48, 2) := by decide +kernel
theorem dX5_addTo_52 : decode cX5_addTo 52 = .ok (.isub, 1) := by decide +kernel
theorem dX5_addTo_53 : decode cX5_addTo 53 = .ok (.ishl, 1) := by decide +kernel
theorem dX5_addTo_54 : decode cX5_addTo 54 = .ok (.ior, 1) := by decide +kernel
theorem dX5_addTo_55 : decode cX5_addTo 55 = .ok (.istore_n 2, 1) := by decide +kernel
theorem dX5_addTo_56 : decode cX5_addTo 56 = .ok (.iinc 3 1, 3) := by decide +kernel
theorem dX5_addTo_59 : decode cX5_addTo 59 = .ok (.goto (-55), 3) := by decide +kernel
theorem dX5_addTo_62 : decode cX5_addTo 62 = .ok (.aload_n 1, 1) := by decide +kernel
theorem dX5_addTo_63 : decode cX5_addTo 63 = .ok (.iload_n 2, 1) := by decide +kernel
theorem dX5_addTo_64 : decode cX5_addTo 64 = .ok (.invokevirtual 23, 3) := by decide +kernel
theorem dX5_addTo_67 : decode cX5_addTo 67 = .ok (.return_, 1) := by decide +kernel
theorem dX5_hashOnto_0 : decode cX5_hashOnto 0 = .ok (.ldc2_w 29, 3) := by decide +kernel
theorem dX5_hashOnto_3 : decode cX5_hashOnto 3 = .ok (.lload_n 1, 1) := by decide +kernel
theorem dX5_hashOnto_4 : decode cX5_hashOnto 4 = .ok (.lmul, 1) := by decide +kernel
theorem dX5_hashOnto_5 : decode cX5_hashOnto 5 = .ok (.aload_n 0, 1) := by decide +kernel
theorem dX5_hashOnto_6 : decode cX5_hashOnto 6 = .ok (.getfield 15, 3) := by decide +kernel
theorem dX5_hashOnto_9 : decode cX5_hashOnto 9 = .ok (.i2l, 1) := by decide +kernel
theorem dX5_hashOnto_10 : decode cX5_hashOnto 10 = .ok (.ladd, 1) := by decide +kernel
theorem dX5_hashOnto_11 : decode cX5_hashOnto 11 = .ok (.lstore_n 3, 1) := by decide +kernel
theorem dX5_hashOnto_12 : decode cX5_hashOnto 12 = .ok (.iconst 0, 1) := by decide +kernel
theorem dX5_hashOnto_13 : decode cX5_hashOnto 13 = .ok (.istore 5, 2) := by decide +kernel
theorem dX5_hashOnto_15 : decode cX5_hashOnto 15 = .ok (.iload 5, 2) := by decide +kernel
theorem dX5_hashOnto_17 : decode cX5_hashOnto 17 = .ok (.aload_n 0, 1) := by decide +kernel
theorem dX5_hashOnto_18 : decode cX5_hashOnto 18 = .ok (.getfield 15, 3) := by decide +kernel
theorem dX5_hashOnto_21 : decode cX5_hashOnto 21 = .ok (.if_icmp .ge 34, 3) := by decide +kernel
theorem dX5_hashOnto_24 : decode cX5_hashOnto 24 = .ok (.iload 5, 2) := by decide +kernel
theorem dX5_hashOnto_26 : decode cX5_hashOnto 26 = .ok (.aload_n 0, 1) := by decide +kernel
theorem dX5_hashOnto_27 : decode cX5_hashOnto 27 = .ok (.getfield 9, 3) := by decide +kernel
theorem dX5_hashOnto_30 : decode cX5_hashOnto 30 = .ok (.arraylength, 1) := by decide +kernel
theorem dX5_hashOnto_31 : decode cX5_hashOnto 31 = .ok (.if_icmp .ge 24, 3) := by decide +kernel
theorem dX5_hashOnto_34 : decode cX5_hashOnto 34 = .ok (.ldc2_w 29, 3) := by decide +kernel
theorem dX5_hashOnto_37 : decode cX5_hashOnto 37 = .ok (.lload_n 3, 1) := by decide +kernel
theorem dX5_hashOnto_38 : decode cX5_hashOnto 38 = .ok (.lmul, 1) := by decide +kernel
theorem dX5_hashOnto_39 : decode cX5_hashOnto 39 = .ok (.aload_n 0, 1) := by decide +kernel
theorem dX5_hashOnto_40 : decode cX5_hashOnto 40 = .ok (.getfield 9, 3) := by decide +kernel
theorem dX5_hashOnto_43 : decode cX5_hashOnto 43 = .ok (.iload 5, 2) := by decide +kernel
theorem dX5_hashOnto_45 : decode cX5_hashOnto 45 = .ok (.iaload, 1) := by decide +kernel
theorem dX5_hashOnto_46 : decode cX5_hashOnto 46 = .ok (.i2l, 1) := by decide +kernel
theorem dX5_hashOnto_47 : decode cX5_hashOnto 47 = .ok (.ladd, 1) := by decide +kernel
theorem dX5_hashOnto_48 : decode cX5_hashOnto 48 = .ok (.lstore_n 3, 1) := by decide +kernel
theorem dX5_hashOnto_49 : decode cX5_hashOnto 49 = .ok (.iinc 5 1, 3) := by decide +kernel
theorem dX5_hashOnto_52 : decode cX5_hashOnto 52 = .ok (.goto (-37), 3) := by decide +kernel
theorem dX5_hashOnto_55 : decode cX5_hashOnto 55 = .ok (.lload_n 3, 1) := by decide +kernel
theorem dX5_hashOnto_56 : decode cX5_hashOnto 56 = .ok (.lreturn, 1) := by decide +kernel
set_option maxRecDepth 20000 in
theorem ggX6_init_X4_init : GoodIn wsX6_init wsX4_init := goodIn_r _ [27, 28, 2, 3, 29, 30, 31, 32, 33, 34, 35, 36, 37, 38, 39, 40, 41, 42, 43, 44, 45, 46, 47, 48, 49, 50, 51, 118, 119, 120, 121, 122, 123, 85, 86, 87, 88, 89, 90, 91, 92, 93, 94] (by decide +kernel) (by decide +kernel)
set_option maxRecDepth 20000 in
theorem gX6_init_X4_init_n11 : GoodIn wsX6_init (wsX4_init) := ggX6_init_X4_init
set_option maxRecDepth 20000 in
theorem ggX6_init_X0_init : GoodIn wsX6_init wsX0_init := goodIn_r _ [53, 54, 2, 3, 55, 56, 57, 102, 103] (by decide +kernel) (by decide +kernel)
set_option maxRecDepth 20000 in
theorem gX6_init_X0_init_n21 : GoodIn wsX6_init (wsX0_init) := ggX6_init_X0_init
set_option maxRecDepth 20000 in
theorem ggX6_init_X5_init : GoodIn wsX6_init wsX5_init := goodIn_r _ [59, 60, 2, 3, 45, 61, 62, 104, 105] (by decide +kernel) (by decide +kernel)
set_option maxRecDepth 20000 in
theorem gX6_init_X5_init_n32 : GoodIn wsX6_init (wsX5_init) := ggX6_init_X5_init
set_option maxRecDepth 20000 in
theorem ggX6_init_X2_init : GoodIn wsX6_init wsX2_init := goodIn_r _ [64, 65, 2, 3, 66, 30, 31, 67, 68, 69, 45, 70, 71, 72, 42, 43, 44, 46, 47, 48, 49, 50, 51, 118, 119, 120, 121, 122, 123, 106, 107, 108, 109, 110, 111] (by decide +kernel) (by decide +kernel)
set_option maxRecDepth 20000 in
theorem gX6_init_X2_init_n39 : GoodIn wsX6_init (wsX2_init) := ggX6_init_X2_init
set_option maxRecDepth 20000 in
theorem ggX6_init_X3_init : GoodIn wsX6_init wsX3_init := goodIn_r _ [75, 76, 2, 3, 77, 30, 31, 78, 79, 80, 81, 45, 82, 83, 84, 42, 43, 44, 46, 47, 48, 49, 50, 51, 118, 119, 120, 121, 122, 123, 112, 113, 114, 115, 116, 117] (by decide +kernel) (by decide +kernel)
set_option maxRecDepth 20000 in
theorem gX6_init_X3_init : GoodIn wsX6_init (wsX3_init) := ggX6_init_X3_init
theorem dX6_init_0 : decode cX6_init 0 = .ok (.aload_n 0, 1) := by decide +kernel
theorem dX6_init_1 : decode cX6_init 1 = .ok (.invokespecial 3, 3) := by decide +kernel
theorem dX6_init_4 : decode cX6_init 4 = .ok (.aload_n 0, 1) := by decide +kernel
theorem dX6_init_5 : decode cX6_init 5 = .ok (.new 9, 3) := by decide +kernel
theorem dX6_init_8 : decode cX6_init 8 = .ok (.dup, 1) := by decide +kernel
theorem dX6_init_9 : decode cX6_init 9 = .ok (.invokespecial 11, 3) := by decide +kernel
theorem dX6_init_12 : decode cX6_init 12 = .ok (.putfield 12, 3) := by decide +kernel
theorem dX6_init_15 : decode cX6_init 15 = .ok (.aload_n 0, 1) := by decide +kernel
theorem dX6_init_16 : decode cX6_init 16 = .ok (.new 9, 3) := by decide +kernel
theorem dX6_init_19 : decode cX6_init 19 = .ok (.dup, 1) := by decide +kernel
theorem dX6_init_20 : decode cX6_init 20 = .ok (.invokespecial 11, 3) := by decide +kernel
theorem dX6_init_23 : decode cX6_init 23 = .ok (.putfield 16, 3) := by decide +kernel
theorem dX6_init_26 : decode cX6_init 26 = .ok (.aload_n 0, 1) := by decide +kernel
theorem dX6_init_27 : decode cX6_init 27 = .ok (.new 19, 3) := by decide +kernel
theorem dX6_init_30 : decode cX6_init 30 = .ok (.dup, 1) := by decide +kernel
theorem dX6_init_31 : decode cX6_init 31 = .ok (.invokespecial 21, 3) := by decide +kernel
theorem dX6_init_34 : decode cX6_init 34 = .ok (.putfield 22, 3) := by decide +kernel
theorem dX6_init_37 : decode cX6_init 37 = .ok (.aload_n 0, 1) := by decide +kernel
theorem dX6_init_38 : decode cX6_init 38 = .ok (.iconst 2, 1) := by decide +kernel
theorem dX6_init_39 : decode cX6_init 39 = .ok (.anewarray 9, 3) := by decide +kernel
theorem dX6_init_42 : decode cX6_init 42 = .ok (.putfield 26, 3) := by decide +kernel
theorem dX6_init_45 : decode cX6_init 45 = .ok (.aload_n 0, 1) := by decide +kernel
theorem dX6_init_46 : decode cX6_init 46 = .ok (.new 30, 3) := by decide +kernel
theorem dX6_init_49 : decode cX6_init 49 = .ok (.dup, 1) := by decide +kernel
theorem dX6_init_50 : decode cX6_init 50 = .ok (.invokespecial 32, 3) := by decide +kernel
theorem dX6_init_53 : decode cX6_init 53 = .ok (.putfield 33, 3) := by decide +kernel
theorem dX6_init_56 : decode cX6_init 56 = .ok (.aload_n 0, 1) := by decide +kernel
theorem dX6_init_57 : decode cX6_init 57 = .ok (.new 37, 3) := by decide +kernel
theorem dX6_init_60 : decode cX6_init 60 = .ok (.dup, 1) := by decide +kernel
theorem dX6_init_61 : decode cX6_init 61 = .ok (.invokespecial 39, 3) := by decide +kernel
theorem dX6_init_64 : decode cX6_init 64 = .ok (.putfield 40, 3) := by decide +kernel
theorem dX6_init_67 : decode cX6_init 67 = .ok (.aload_n 0, 1) := by decide +kernel
theorem dX6_init_68 : decode cX6_init 68 = .ok (.new 44, 3) := by decide +kernel
theorem dX6_init_71 : decode cX6_init 71 = .ok (.dup, 1) := by decide +kernel
theorem dX6_init_72 : decode cX6_init 72 = .ok (.invokespecial 46, 3) := by decide +kernel
theorem dX6_init_75 : decode cX6_init 75 = .ok (.putfield 47, 3) := by decide +kernel
theorem dX6_init_78 : decode cX6_init 78 = .ok (.return_, 1) := by decide +kernel
set_option maxRecDepth 20000 in
theorem ggX6_begin_X0_save : GoodIn wsX6_begin wsX0_save := goodIn_r _ [12, 13, 14, 15, 16, 17, 18, 19, 20, 11, 21, 22, 23, 24, 25, 26, 27, 28, 29, 30, 31, 32, 33, 34, 35, 36, 37, 38, 39, 40, 41, 42, 43, 44, 45, 46, 47, 48, 49, 50, 51, 52, 53, 54, 55, 56, 57, 58, 59, 60, 61, 93, 94, 77, 78, 79, 80, 81, 82, 83, 84, 85, 86, 87, 88, 89, 90, 91, 92] (by decide +kernel) (by decide +kernel)
set_option maxRecDepth 20000 in
theorem gX6_begin_X0_save : GoodIn wsX6_begin (wsV RX6 58 RX0 yX0_save wsX0_save) := goodIn_app (goodIn_of _ (by decide +kernel)) ggX6_begin_X0_save
set_option maxRecDepth 20000 in
theorem ggX6_begin_X4_freeAll : GoodIn wsX6_begin wsX4_freeAll := goodIn_r _ [65, 32, 33, 34, 66, 67, 68, 17, 69, 35, 36, 77, 78, 79, 80, 81, 82, 83, 84, 85, 86] (by decide +kernel) (by decide +kernel)
set_option maxRecDepth 20000 in
theorem gX6_begin_X4_freeAll : GoodIn wsX6_begin (wsV RX6 75 RX4 yX4_freeAll wsX4_freeAll) := goodIn_app (goodIn_of _ (by decide +kernel)) ggX6_begin_X4_freeAll
theorem dX6_begin_0 : decode cX6_begin 0 = .ok (.iload_n 1, 1) := by decide +kernel
theorem dX6_begin_1 : decode cX6_begin 1 = .ok (.iconst 2, 1) := by decide +kernel
theorem dX6_begin_2 : decode cX6_begin 2 = .ok (.if_icmp .lt 9, 3) := by decide +kernel
theorem dX6_begin_5 : decode cX6_begin 5 = .ok (.iload_n 1, 1) := by decide +kernel
theorem dX6_begin_6 : decode cX6_begin 6 = .ok (.bipush 10, 2) := by decide +kernel
theorem dX6_begin_8 : decode cX6_begin 8 = .ok (.if_icmp .le 13, 3) := by decide +kernel
theorem dX6_begin_11 : decode cX6_begin 11 = .ok (.new 51, 3) := by decide +kernel
theorem dX6_begin_14 : decode cX6_begin 14 = .ok (.dup, 1) := by decide +kernel
theorem dX6_begin_15 : decode cX6_begin 15 = .ok (.ldc 53, 2) := by decide +kernel
theorem dX6_begin_17 : decode cX6_begin 17 = .ok (.invokespecial 55, 3) := by decide +kernel
theorem dX6_begin_20 : decode cX6_begin 20 = .ok (.athrow, 1) := by decide +kernel
theorem dX6_begin_21 : decode cX6_begin 21 = .ok (.aload_n 0, 1) := by decide +kernel
theorem dX6_begin_22 : decode cX6_begin 22 = .ok (.getfield 22, 3) := by decide +kernel
theorem dX6_begin_25 : decode cX6_begin 25 = .ok (.aload_n 0, 1) := by decide +kernel
theorem dX6_begin_26 : decode cX6_begin 26 = .ok (.getfield 12, 3) := by decide +kernel
theorem dX6_begin_29 : decode cX6_begin 29 = .ok (.invokevirtual 58, 3) := by decide +kernel
theorem dX6_begin_32 : decode cX6_begin 32 = .ok (.aload_n 0, 1) := by decide +kernel
theorem dX6_begin_33 : decode cX6_begin 33 = .ok (.getfield 12, 3) := by decide +kernel
theorem dX6_begin_36 : decode cX6_begin 36 = .ok (.getfield 62, 3) := by decide +kernel
theorem dX6_begin_39 : decode cX6_begin 39 = .ok (.istore_n 2, 1) := by decide +kernel
theorem dX6_begin_40 : decode cX6_begin 40 = .ok (.aload_n 0, 1) := by decide +kernel
theorem dX6_begin_41 : decode cX6_begin 41 = .ok (.getfield 12, 3) := by decide +kernel
theorem dX6_begin_44 : decode cX6_begin 44 = .ok (.iload_n 1, 1) := by decide +kernel
theorem dX6_begin_45 : decode cX6_begin 45 = .ok (.putfield 62, 3) := by decide +kernel
theorem dX6_begin_48 : decode cX6_begin 48 = .ok (.aload_n 0, 1) := by decide +kernel
theorem dX6_begin_49 : decode cX6_begin 49 = .ok (.getfield 12, 3) := by decide +kernel
theorem dX6_begin_52 : decode cX6_begin 52 = .ok (.getfield 66, 3) := by decide +kernel
theorem dX6_begin_55 : decode cX6_begin 55 = .ok (.iconst 0, 1) := by decide +kernel
theorem dX6_begin_56 : decode cX6_begin 56 = .ok (.putfield 70, 3) := by decide +kernel
theorem dX6_begin_59 : decode cX6_begin 59 = .ok (.aload_n 0, 1) := by decide +kernel
theorem dX6_begin_60 : decode cX6_begin 60 = .ok (.getfield 12, 3) := by decide +kernel
theorem dX6_begin_63 : decode cX6_begin 63 = .ok (.iconst 1, 1) := by decide +kernel
theorem dX6_begin_64 : decode cX6_begin 64 = .ok (.invokevirtual 75, 3) := by decide +kernel
theorem dX6_begin_67 : decode cX6_begin 67 = .ok (.iload_n 2, 1) := by decide +kernel
theorem dX6_begin_68 : decode cX6_begin 68 = .ok (.ireturn, 1) := by decide +kernel
set_option maxRecDepth 20000 in
theorem ggX6_addLine_X4_allCells : GoodIn wsX6_addLine wsX4_allCells := goodIn_r _ [13, 14, 78, 79, 80, 81, 82, 83, 84, 85, 86, 87] (by decide +kernel) (by decide +kernel)
set_option maxRecDepth 20000 in
theorem gX6_addLine_X4_allCells : GoodIn wsX6_addLine (wsV RX6 79 RX4 yX4_allCells wsX4_allCells) := goodIn_app (goodIn_of _ (by decide +kernel)) ggX6_addLine_X4_allCells
set_option maxRecDepth 20000 in
theorem ggX6_addLine_X0_save : GoodIn wsX6_addLine wsX0_save := goodIn_r _ [19, 20, 21, 22, 23, 12, 24, 25, 26, 18, 27, 28, 29, 30, 31, 32, 33, 34, 35, 36, 14, 37, 38, 39, 40, 41, 42, 43, 44, 45, 46, 47, 48, 49, 50, 51, 52, 53, 54, 55, 56, 57, 58, 59, 60, 61, 62, 63, 64, 65, 66, 94, 95, 78, 79, 80, 81, 82, 83, 84, 85, 86, 87, 88, 89, 90, 91, 92, 93] (by decide +kernel) (by decide +kernel)
set_option maxRecDepth 20000 in
theorem gX6_addLine_X0_save : GoodIn wsX6_addLine (wsV RX6 58 RX0 yX0_save wsX0_save) := goodIn_app (goodIn_of _ (by decide +kernel)) ggX6_addLine_X0_save
set_option maxRecDepth 20000 in
theorem ggX6_addLine_X1_put : GoodIn wsX6_addLine wsX1_put := goodIn_r _ [70, 50, 49, 88, 89, 90, 91, 92, 93] (by decide +kernel) (by decide +kernel)
set_option maxRecDepth 20000 in
theorem gX6_addLine_X1_put : GoodIn wsX6_addLine (wsV RX6 90 RX1 yX1_put wsX1_put) := goodIn_app (goodIn_of _ (by decide +kernel)) ggX6_addLine_X1_put
theorem dX6_addLine_0 : decode cX6_addLine 0 = .ok (.iload_n 1, 1) := by decide +kernel
theorem dX6_addLine_1 : decode cX6_addLine 1 = .ok (.ifCond .eq 17, 3) := by decide +kernel
theorem dX6_addLine_4 : decode cX6_addLine 4 = .ok (.iload_n 1, 1) := by decide +kernel
theorem dX6_addLine_5 : decode cX6_addLine 5 = .ok (.aload_n 0, 1) := by decide +kernel
theorem dX6_addLine_6 : decode cX6_addLine 6 = .ok (.getfield 12, 3) := by decide +kernel
theorem dX6_addLine_9 : decode cX6_addLine 9 = .ok (.invokevirtual 79, 3) := by decide +kernel
theorem dX6_addLine_12 : decode cX6_addLine 12 = .ok (.iconst (-1), 1) := by decide +kernel
theorem dX6_addLine_13 : decode cX6_addLine 13 = .ok (.ixor, 1) := by decide +kernel
theorem dX6_addLine_14 : decode cX6_addLine 14 = .ok (.iand, 1) := by decide +kernel
theorem dX6_addLine_15 : decode cX6_addLine 15 = .ok (.ifCond .eq 13, 3) := by decide +kernel
theorem dX6_addLine_18 : decode cX6_addLine 18 = .ok (.new 51, 3) := by decide +kernel
theorem dX6_addLine_21 : decode cX6_addLine 21 = .ok (.dup, 1) := by decide +kernel
theorem dX6_addLine_22 : decode cX6_addLine 22 = .ok (.ldc 83, 2) := by decide +kernel
theorem dX6_addLine_24 : decode cX6_addLine 24 = .ok (.invokespecial 55, 3) := by decide +kernel
theorem dX6_addLine_27 : decode cX6_addLine 27 = .ok (.athrow, 1) := by decide +kernel
theorem dX6_addLine_28 : decode cX6_addLine 28 = .ok (.aload_n 0, 1) := by decide +kernel
theorem dX6_addLine_29 : decode cX6_addLine 29 = .ok (.getfield 12, 3) := by decide +kernel
theorem dX6_addLine_32 : decode cX6_addLine 32 = .ok (.getfield 66, 3) := by decide +kernel
theorem dX6_addLine_35 : decode cX6_addLine 35 = .ok (.getfield 70, 3) := by decide +kernel
theorem dX6_addLine_38 : decode cX6_addLine 38 = .ok (.bipush 12, 2) := by decide +kernel
theorem dX6_addLine_40 : decode cX6_addLine 40 = .ok (.if_icmp .lt 13, 3) := by decide +kernel
theorem dX6_addLine_43 : decode cX6_addLine 43 = .ok (.new 85, 3) := by decide +kernel
theorem dX6_addLine_46 : decode cX6_addLine 46 = .ok (.dup, 1) := by decide +kernel
theorem dX6_addLine_47 : decode cX6_addLine 47 = .ok (.ldc 87, 2) := by decide +kernel
theorem dX6_addLine_49 : decode cX6_addLine 49 = .ok (.invokespecial 89, 3) := by decide +kernel
theorem dX6_addLine_52 : decode cX6_addLine 52 = .ok (.athrow, 1) := by decide +kernel
theorem dX6_addLine_53 : decode cX6_addLine 53 = .ok (.aload_n 0, 1) := by decide +kernel
theorem dX6_addLine_54 : decode cX6_addLine 54 = .ok (.getfield 22, 3) := by decide +kernel
theorem dX6_addLine_57 : decode cX6_addLine 57 = .ok (.aload_n 0, 1) := by decide +kernel
theorem dX6_addLine_58 : decode cX6_addLine 58 = .ok (.getfield 12, 3) := by decide +kernel
theorem dX6_addLine_61 : decode cX6_addLine 61 = .ok (.invokevirtual 58, 3) := by decide +kernel
theorem dX6_addLine_64 : decode cX6_addLine 64 = .ok (.aload_n 0, 1) := by decide +kernel
theorem dX6_addLine_65 : decode cX6_addLine 65 = .ok (.getfield 12, 3) := by decide +kernel
theorem dX6_addLine_68 : decode cX6_addLine 68 = .ok (.getfield 66, 3) := by decide +kernel
theorem dX6_addLine_71 : decode cX6_addLine 71 = .ok (.iload_n 1, 1) := by decide +kernel
theorem dX6_addLine_72 : decode cX6_addLine 72 = .ok (.invokevirtual 90, 3) := by decide +kernel
theorem dX6_addLine_75 : decode cX6_addLine 75 = .ok (.aload_n 0, 1) := by decide +kernel
theorem dX6_addLine_76 : decode cX6_addLine 76 = .ok (.getfield 12, 3) := by decide +kernel
theorem dX6_addLine_79 : decode cX6_addLine 79 = .ok (.getfield 66, 3) := by decide +kernel
theorem dX6_addLine_82 : decode cX6_addLine 82 = .ok (.getfield 70, 3) := by decide +kernel
theorem dX6_addLine_85 : decode cX6_addLine 85 = .ok (.iconst 1, 1) := by decide +kernel
theorem dX6_addLine_86 : decode cX6_addLine 86 = .ok (.isub, 1) := by decide +kernel
theorem dX6_addLine_87 : decode cX6_addLine 87 = .ok (.ireturn, 1) := by decide +kernel
set_option maxRecDepth 20000 in
theorem ggX6_removeLine_X1_has : GoodIn wsX6_removeLine wsX1_has := goodIn_r _ [10, 11, 12, 90, 91, 92, 93, 94, 95] (by decide +kernel) (by decide +kernel)
set_option maxRecDepth 20000 in
theorem gX6_removeLine_X1_has : GoodIn wsX6_removeLine (wsV RX6 94 RX1 yX1_has wsX1_has) := goodIn_app (goodIn_of _ (by decide +kernel)) ggX6_removeLine_X1_has
set_option maxRecDepth 20000 in
theorem ggX6_removeLine_X0_save : GoodIn wsX6_removeLine wsX0_save := goodIn_r _ [17, 18, 19, 20, 21, 22, 23, 24, 25, 16, 26, 27, 28, 29, 30, 31, 32, 33, 9, 34, 35, 36, 37, 38, 39, 40, 41, 42, 43, 44, 45, 46, 47, 12, 11, 48, 49, 50, 51, 52, 53, 54, 55, 56, 57, 58, 59, 60, 61, 62, 63, 96, 97, 80, 81, 82, 83, 84, 85, 86, 87, 88, 89, 90, 91, 92, 93, 94, 95] (by decide +kernel) (by decide +kernel)
set_option maxRecDepth 20000 in
theorem gX6_removeLine_X0_save : GoodIn wsX6_removeLine (wsV RX6 58 RX0 yX0_save wsX0_save) := goodIn_app (goodIn_of _ (by decide +kernel)) ggX6_removeLine_X0_save
set_option maxRecDepth 20000 in
theorem ggX6_removeLine_X1_maskOf : GoodIn wsX6_removeLine wsX1_maskOf := goodIn_r _ [67, 11, 12, 90, 91, 92, 93, 94, 95] (by decide +kernel) (by decide +kernel)
set_option maxRecDepth 20000 in
theorem gX6_removeLine_X1_maskOf : GoodIn wsX6_removeLine (wsV RX6 103 RX1 yX1_maskOf wsX1_maskOf) := goodIn_app (goodIn_of _ (by decide +kernel)) ggX6_removeLine_X1_maskOf
set_option maxRecDepth 20000 in
theorem ggX6_removeLine_X1_drop : GoodIn wsX6_removeLine wsX1_drop := goodIn_r _ [71, 11, 12, 72, 7, 8, 9, 10, 90, 91, 92, 93, 94, 95] (by decide +kernel) (by decide +kernel)
set_option maxRecDepth 20000 in
theorem gX6_removeLine_X1_drop : GoodIn wsX6_removeLine (wsV RX6 107 RX1 yX1_drop wsX1_drop) := goodIn_app (goodIn_of _ (by decide +kernel)) ggX6_removeLine_X1_drop
theorem dX6_removeLine_0 : decode cX6_removeLine 0 = .ok (.aload_n 0, 1) := by decide +kernel
theorem dX6_removeLine_1 : decode cX6_removeLine 1 = .ok (.getfield 12, 3) := by decide +kernel
theorem dX6_removeLine_4 : decode cX6_removeLine 4 = .ok (.getfield 66, 3) := by decide +kernel
theorem dX6_removeLine_7 : decode cX6_removeLine 7 = .ok (.iload_n 1, 1) := by decide +kernel
theorem dX6_removeLine_8 : decode cX6_removeLine 8 = .ok (.invokevirtual 94, 3) := by decide +kernel
theorem dX6_removeLine_11 : decode cX6_removeLine 11 = .ok (.ifCond .ne 13, 3) := by decide +kernel
theorem dX6_removeLine_14 : decode cX6_removeLine 14 = .ok (.new 98, 3) := by decide +kernel
theorem dX6_removeLine_17 : decode cX6_removeLine 17 = .ok (.dup, 1) := by decide +kernel
theorem dX6_removeLine_18 : decode cX6_removeLine 18 = .ok (.ldc 100, 2) := by decide +kernel
theorem dX6_removeLine_20 : decode cX6_removeLine 20 = .ok (.invokespecial 102, 3) := by decide +kernel
theorem dX6_removeLine_23 : decode cX6_removeLine 23 = .ok (.athrow, 1) := by decide +kernel
theorem dX6_removeLine_24 : decode cX6_removeLine 24 = .ok (.aload_n 0, 1) := by decide +kernel
theorem dX6_removeLine_25 : decode cX6_removeLine 25 = .ok (.getfield 22, 3) := by decide +kernel
theorem dX6_removeLine_28 : decode cX6_removeLine 28 = .ok (.aload_n 0, 1) := by decide +kernel
theorem dX6_removeLine_29 : decode cX6_removeLine 29 = .ok (.getfield 12, 3) := by decide +kernel
theorem dX6_removeLine_32 : decode cX6_removeLine 32 = .ok (.invokevirtual 58, 3) := by decide +kernel
theorem dX6_removeLine_35 : decode cX6_removeLine 35 = .ok (.aload_n 0, 1) := by decide +kernel
theorem dX6_removeLine_36 : decode cX6_removeLine 36 = .ok (.getfield 12, 3) := by decide +kernel
theorem dX6_removeLine_39 : decode cX6_removeLine 39 = .ok (.getfield 66, 3) := by decide +kernel
theorem dX6_removeLine_42 : decode cX6_removeLine 42 = .ok (.iload_n 1, 1) := by decide +kernel
theorem dX6_removeLine_43 : decode cX6_removeLine 43 = .ok (.invokevirtual 103, 3) := by decide +kernel
theorem dX6_removeLine_46 : decode cX6_removeLine 46 = .ok (.istore_n 2, 1) := by decide +kernel
theorem dX6_removeLine_47 : decode cX6_removeLine 47 = .ok (.aload_n 0, 1) := by decide +kernel
theorem dX6_removeLine_48 : decode cX6_removeLine 48 = .ok (.getfield 12, 3) := by decide +kernel
theorem dX6_removeLine_51 : decode cX6_removeLine 51 = .ok (.getfield 66, 3) := by decide +kernel
theorem dX6_removeLine_54 : decode cX6_removeLine 54 = .ok (.iload_n 1, 1) := by decide +kernel
theorem dX6_removeLine_55 : decode cX6_removeLine 55 = .ok (.invokevirtual 107, 3) := by decide +kernel
theorem dX6_removeLine_58 : decode cX6_removeLine 58 = .ok (.iload_n 2, 1) := by decide +kernel
theorem dX6_removeLine_59 : decode cX6_removeLine 59 = .ok (.ireturn, 1) := by decide +kernel
set_option maxRecDepth 20000 in
theorem ggX6_clear_X0_save : GoodIn wsX6_clear wsX0_save := goodIn_r _ [9, 10, 11, 12, 13, 14, 15, 16, 17, 8, 18, 19, 20, 21, 22, 23, 24, 25, 26, 27, 28, 29, 30, 31, 32, 33, 34, 35, 36, 37, 38, 39, 40, 41, 42, 43, 44, 45, 46, 47, 48, 49, 50, 51, 52, 53, 54, 55, 56, 57, 58, 91, 92, 81, 82, 83, 84, 85, 86, 87, 88, 89, 90, 93, 94, 95, 96, 97, 98] (by decide +kernel) (by decide +kernel)
set_option maxRecDepth 20000 in
theorem gX6_clear_X0_save : GoodIn wsX6_clear (wsV RX6 58 RX0 yX0_save wsX0_save) := goodIn_app (goodIn_of _ (by decide +kernel)) ggX6_clear_X0_save
set_option maxRecDepth 20000 in
theorem ggX6_clear_J6_bitCount_0f7a4 : GoodIn wsX6_clear wsJ6_bitCount_0f7a4 := goodIn_r _ [62, 63, 64, 65] (by decide +kernel) (by decide +kernel)
set_option maxRecDepth 20000 in
theorem gX6_clear_J6_bitCount_0f7a4 : GoodIn wsX6_clear (va_wsS RX6 116 yJ6_bitCount_0f7a4 wsJ6_bitCount_0f7a4) := goodIn_app (goodIn_of _ (by decide +kernel)) ggX6_clear_J6_bitCount_0f7a4
set_option maxRecDepth 20000 in
theorem ggX6_clear_X4_freeAll : GoodIn wsX6_clear wsX4_freeAll := goodIn_r _ [69, 29, 30, 31, 70, 71, 72, 14, 73, 32, 33, 81, 82, 83, 84, 85, 86, 87, 88, 89, 90] (by decide +kernel) (by decide +kernel)
set_option maxRecDepth 20000 in
theorem gX6_clear_X4_freeAll : GoodIn wsX6_clear (wsV RX6 75 RX4 yX4_freeAll wsX4_freeAll) := goodIn_app (goodIn_of _ (by decide +kernel)) ggX6_clear_X4_freeAll
theorem dX6_clear_0 : decode cX6_clear 0 = .ok (.aload_n 0, 1) := by decide +kernel
theorem dX6_clear_1 : decode cX6_clear 1 = .ok (.getfield 22, 3) := by decide +kernel
theorem dX6_clear_4 : decode cX6_clear 4 = .ok (.aload_n 0, 1) := by decide +kernel
theorem dX6_clear_5 : decode cX6_clear 5 = .ok (.getfield 12, 3) := by decide +kernel
theorem dX6_clear_8 : decode cX6_clear 8 = .ok (.invokevirtual 58, 3) := by decide +kernel
theorem dX6_clear_11 : decode cX6_clear 11 = .ok (.aload_n 0, 1) := by decide +kernel
theorem dX6_clear_12 : decode cX6_clear 12 = .ok (.getfield 12, 3) := by decide +kernel
theorem dX6_clear_15 : decode cX6_clear 15 = .ok (.getfield 110, 3) := by decide +kernel
theorem dX6_clear_18 : decode cX6_clear 18 = .ok (.aload_n 0, 1) := by decide +kernel
theorem dX6_clear_19 : decode cX6_clear 19 = .ok (.getfield 12, 3) := by decide +kernel
theorem dX6_clear_22 : decode cX6_clear 22 = .ok (.getfield 113, 3) := by decide +kernel
theorem dX6_clear_25 : decode cX6_clear 25 = .ok (.ior, 1) := by decide +kernel
theorem dX6_clear_26 : decode cX6_clear 26 = .ok (.invokestatic 116, 3) := by decide +kernel
theorem dX6_clear_29 : decode cX6_clear 29 = .ok (.istore_n 2, 1) := by decide +kernel
theorem dX6_clear_30 : decode cX6_clear 30 = .ok (.aload_n 0, 1) := by decide +kernel
theorem dX6_clear_31 : decode cX6_clear 31 = .ok (.getfield 12, 3) := by decide +kernel
theorem dX6_clear_34 : decode cX6_clear 34 = .ok (.iload_n 1, 1) := by decide +kernel
theorem dX6_clear_35 : decode cX6_clear 35 = .ok (.invokevirtual 75, 3) := by decide +kernel
theorem dX6_clear_38 : decode cX6_clear 38 = .ok (.iload_n 2, 1) := by decide +kernel
theorem dX6_clear_39 : decode cX6_clear 39 = .ok (.ireturn, 1) := by decide +kernel
set_option maxRecDepth 20000 in
theorem ggX6_move_X4_hasCell : GoodIn wsX6_move wsX4_hasCell := goodIn_r _ [11, 12, 161, 162, 163, 164, 165, 166, 167, 168, 169, 170] (by decide +kernel) (by decide +kernel)
set_option maxRecDepth 20000 in
theorem gX6_move_X4_hasCell : GoodIn wsX6_move (wsV RX6 121 RX4 yX4_hasCell wsX4_hasCell) := goodIn_app (goodIn_of _ (by decide +kernel)) ggX6_move_X4_hasCell
set_option maxRecDepth 20000 in
theorem ggX6_move_X4_winner : GoodIn wsX6_move wsX4_winner := goodIn_r _ [16, 17, 18, 19, 20, 21, 22, 23, 24, 25, 26, 27, 28, 29, 30, 31, 32, 33, 34, 35, 36, 37, 38, 161, 162, 163, 164, 165, 166, 167, 168, 169, 170, 171, 172, 173, 174, 175, 176] (by decide +kernel) (by decide +kernel)
set_option maxRecDepth 20000 in
theorem gX6_move_X4_winner : GoodIn wsX6_move (wsV RX6 126 RX4 yX4_winner wsX4_winner) := goodIn_app (goodIn_of _ (by decide +kernel)) ggX6_move_X4_winner
set_option maxRecDepth 20000 in
theorem ggX6_move_X4_isFree : GoodIn wsX6_move wsX4_isFree := goodIn_r _ [42, 43, 44, 45, 10, 46, 18, 19, 47, 48, 49, 50, 12, 161, 162, 163, 164, 165, 166, 167, 168, 169, 170] (by decide +kernel) (by decide +kernel)
set_option maxRecDepth 20000 in
theorem gX6_move_X4_isFree : GoodIn wsX6_move (wsV RX6 129 RX4 yX4_isFree wsX4_isFree) := goodIn_app (goodIn_of _ (by decide +kernel)) ggX6_move_X4_isFree
set_option maxRecDepth 20000 in
theorem ggX6_move_X0_save : GoodIn wsX6_move wsX0_save := goodIn_r _ [55, 56, 57, 58, 59, 10, 60, 61, 62, 54, 63, 64, 65, 66, 67, 68, 69, 70, 24, 17, 12, 18, 19, 71, 72, 73, 74, 75, 76, 77, 78, 79, 80, 30, 29, 31, 26, 27, 28, 81, 82, 83, 84, 85, 86, 87, 88, 89, 90, 91, 92, 177, 178, 161, 162, 163, 164, 165, 166, 167, 168, 169, 170, 171, 172, 173, 174, 175, 176] (by decide +kernel) (by decide +kernel)
set_option maxRecDepth 20000 in
theorem gX6_move_X0_save : GoodIn wsX6_move (wsV RX6 58 RX0 yX0_save wsX0_save) := goodIn_app (goodIn_of _ (by decide +kernel)) ggX6_move_X0_save
set_option maxRecDepth 20000 in
theorem ggX6_move_X6_otherInPairing : GoodIn wsX6_move wsX6_otherInPairing := goodIn_r _ [97, 98, 5, 99, 100, 101, 102, 103, 104, 105, 106, 107, 108, 109, 110, 111, 112, 113, 114, 24, 115, 29, 30, 116, 90, 91, 92, 117, 118, 119, 120, 121, 122, 123, 124, 125, 126, 127, 128, 129, 130, 131, 132, 133, 134, 135, 136, 137, 138, 33, 34, 35, 36, 37, 38, 139, 140, 141, 142, 143, 144, 145, 146, 147, 96, 148, 154, 155, 156, 157, 158, 159, 160, 179, 180, 181, 182, 183, 184, 161, 162, 163, 164, 165, 166, 167, 168, 169, 170, 171, 172, 173, 174, 175, 176] (by decide +kernel) (by decide +kernel)
set_option maxRecDepth 20000 in
theorem gX6_move_X6_otherInPairing : GoodIn wsX6_move (wsV RX6 134 RX6 yX6_otherInPairing wsX6_otherInPairing) := goodIn_app (goodIn_of _ (by decide +kernel)) ggX6_move_X6_otherInPairing
set_option maxRecDepth 20000 in
theorem ggX6_move_X4_occupy : GoodIn wsX6_move wsX4_occupy := goodIn_r _ [152, 71, 18, 19, 72, 73, 74, 75, 76, 153, 14, 15, 10, 16, 17, 20, 21, 22, 23, 24, 25, 26, 27, 28, 29, 30, 31, 32, 33, 34, 35, 36, 37, 38, 161, 162, 163, 164, 165, 166, 167, 168, 169, 170, 171, 172, 173, 174, 175, 176] (by decide +kernel) (by decide +kernel)
set_option maxRecDepth 20000 in
theorem gX6_move_X4_occupy : GoodIn wsX6_move (wsV RX6 137 RX4 yX4_occupy wsX4_occupy) := goodIn_app (goodIn_of _ (by decide +kernel)) ggX6_move_X4_occupy
theorem dX6_move_0 : decode cX6_move 0 = .ok (.aload_n 0, 1) := by decide +kernel
theorem dX6_move_1 : decode cX6_move 1 = .ok (.getfield 12, 3) := by decide +kernel
theorem dX6_move_4 : decode cX6_move 4 = .ok (.iload_n 1, 1) := by decide +kernel
theorem dX6_move_5 : decode cX6_move 5 = .ok (.invokevirtual 121, 3) := by decide +kernel
theorem dX6_move_8 : decode cX6_move 8 = .ok (.ifCond .ne 13, 3) := by decide +kernel
theorem dX6_move_11 : decode cX6_move 11 = .ok (.new 98, 3) := by decide +kernel
theorem dX6_move_14 : decode cX6_move 14 = .ok (.dup, 1) := by decide +kernel
theorem dX6_move_15 : decode cX6_move 15 = .ok (.ldc 124, 2) := by decide +kernel
theorem dX6_move_17 : decode cX6_move 17 = .ok (.invokespecial 102, 3) := by decide +kernel
theorem dX6_move_20 : decode cX6_move 20 = .ok (.athrow, 1) := by decide +kernel
theorem dX6_move_21 : decode cX6_move 21 = .ok (.aload_n 0, 1) := by decide +kernel
theorem dX6_move_22 : decode cX6_move 22 = .ok (.getfield 12, 3) := by decide +kernel
theorem dX6_move_25 : decode cX6_move 25 = .ok (.invokevirtual 126, 3) := by decide +kernel
theorem dX6_move_28 : decode cX6_move 28 = .ok (.ifCond .ne 14, 3) := by decide +kernel
theorem dX6_move_31 : decode cX6_move 31 = .ok (.aload_n 0, 1) := by decide +kernel
theorem dX6_move_32 : decode cX6_move 32 = .ok (.getfield 12, 3) := by decide +kernel
theorem dX6_move_35 : decode cX6_move 35 = .ok (.iload_n 1, 1) := by decide +kernel
theorem dX6_move_36 : decode cX6_move 36 = .ok (.invokevirtual 129, 3) := by decide +kernel
theorem dX6_move_39 : decode cX6_move 39 = .ok (.ifCond .ne 13, 3) := by decide +kernel
theorem dX6_move_42 : decode cX6_move 42 = .ok (.new 85, 3) := by decide +kernel
theorem dX6_move_45 : decode cX6_move 45 = .ok (.dup, 1) := by decide +kernel
theorem dX6_move_46 : decode cX6_move 46 = .ok (.ldc 132, 2) := by decide +kernel
theorem dX6_move_48 : decode cX6_move 48 = .ok (.invokespecial 89, 3) := by decide +kernel
theorem dX6_move_51 : decode cX6_move 51 = .ok (.athrow, 1) := by decide +kernel
theorem dX6_move_52 : decode cX6_move 52 = .ok (.aload_n 0, 1) := by decide +kernel
theorem dX6_move_53 : decode cX6_move 53 = .ok (.getfield 22, 3) := by decide +kernel
theorem dX6_move_56 : decode cX6_move 56 = .ok (.aload_n 0, 1) := by decide +kernel
theorem dX6_move_57 : decode cX6_move 57 = .ok (.getfield 12, 3) := by decide +kernel
theorem dX6_move_60 : decode cX6_move 60 = .ok (.invokevirtual 58, 3) := by decide +kernel
theorem dX6_move_63 : decode cX6_move 63 = .ok (.aload_n 0, 1) := by decide +kernel
theorem dX6_move_64 : decode cX6_move 64 = .ok (.getfield 12, 3) := by decide +kernel
theorem dX6_move_67 : decode cX6_move 67 = .ok (.iload_n 1, 1) := by decide +kernel
theorem dX6_move_68 : decode cX6_move 68 = .ok (.aload_n 0, 1) := by decide +kernel
theorem dX6_move_69 : decode cX6_move 69 = .ok (.iload_n 1, 1) := by decide +kernel
theorem dX6_move_70 : decode cX6_move 70 = .ok (.invokevirtual 134, 3) := by decide +kernel
theorem dX6_move_73 : decode cX6_move 73 = .ok (.invokevirtual 137, 3) := by decide +kernel
theorem dX6_move_76 : decode cX6_move 76 = .ok (.aload_n 0, 1) := by decide +kernel
theorem dX6_move_77 : decode cX6_move 77 = .ok (.getfield 12, 3) := by decide +kernel
theorem dX6_move_80 : decode cX6_move 80 = .ok (.invokevirtual 126, 3) := by decide +kernel
theorem dX6_move_83 : decode cX6_move 83 = .ok (.ireturn, 1) := by decide +kernel
set_option maxRecDepth 20000 in
theorem ggX6_skip_X4_winner : GoodIn wsX6_skip wsX4_winner := goodIn_r _ [10, 11, 12, 13, 14, 15, 16, 17, 18, 19, 20, 21, 22, 23, 24, 25, 26, 27, 28, 29, 30, 31, 32, 91, 92, 93, 94, 95, 96, 97, 98, 99, 100, 101, 102, 103, 104, 105, 106] (by decide +kernel) (by decide +kernel)
set_option maxRecDepth 20000 in
theorem gX6_skip_X4_winner : GoodIn wsX6_skip (wsV RX6 126 RX4 yX4_winner wsX4_winner) := goodIn_app (goodIn_of _ (by decide +kernel)) ggX6_skip_X4_winner
set_option maxRecDepth 20000 in
theorem ggX6_skip_X0_save : GoodIn wsX6_skip wsX0_save := goodIn_r _ [37, 38, 39, 40, 41, 9, 42, 43, 44, 36, 45, 46, 47, 48, 49, 50, 51, 52, 18, 11, 53, 12, 13, 54, 55, 56, 57, 58, 59, 60, 61, 62, 63, 24, 23, 25, 20, 21, 22, 64, 65, 66, 67, 68, 69, 70, 71, 72, 73, 74, 75, 107, 108, 91, 92, 93, 94, 95, 96, 97, 98, 99, 100, 101, 102, 103, 104, 105, 106] (by decide +kernel) (by decide +kernel)
set_option maxRecDepth 20000 in
theorem gX6_skip_X0_save : GoodIn wsX6_skip (wsV RX6 58 RX0 yX0_save wsX0_save) := goodIn_app (goodIn_of _ (by decide +kernel)) ggX6_skip_X0_save
set_option maxRecDepth 20000 in
theorem ggX6_skip_X4_forgetLatest : GoodIn wsX6_skip wsX4_forgetLatest := goodIn_r _ [79, 55, 56, 91, 92, 93, 94, 95, 96, 97, 98, 99, 100] (by decide +kernel) (by decide +kernel)
set_option maxRecDepth 20000 in
theorem gX6_skip_X4_forgetLatest : GoodIn wsX6_skip (wsV RX6 147 RX4 yX4_forgetLatest wsX4_forgetLatest) := goodIn_app (goodIn_of _ (by decide +kernel)) ggX6_skip_X4_forgetLatest
set_option maxRecDepth 20000 in
theorem ggX6_skip_X4_mover : GoodIn wsX6_skip wsX4_mover := goodIn_r _ [83, 54, 91, 92, 93, 94, 95, 96, 97, 98, 99, 100] (by decide +kernel) (by decide +kernel)
set_option maxRecDepth 20000 in
theorem gX6_skip_X4_mover : GoodIn wsX6_skip (wsV RX6 150 RX4 yX4_mover wsX4_mover) := goodIn_app (goodIn_of _ (by decide +kernel)) ggX6_skip_X4_mover
theorem dX6_skip_0 : decode cX6_skip 0 = .ok (.aload_n 0, 1) := by decide +kernel
theorem dX6_skip_1 : decode cX6_skip 1 = .ok (.getfield 12, 3) := by decide +kernel
theorem dX6_skip_4 : decode cX6_skip 4 = .ok (.invokevirtual 126, 3) := by decide +kernel
theorem dX6_skip_7 : decode cX6_skip 7 = .ok (.ifCond .eq 13, 3) := by decide +kernel
theorem dX6_skip_10 : decode cX6_skip 10 = .ok (.new 85, 3) := by decide +kernel
theorem dX6_skip_13 : decode cX6_skip 13 = .ok (.dup, 1) := by decide +kernel
theorem dX6_skip_14 : decode cX6_skip 14 = .ok (.ldc 141, 2) := by decide +kernel
theorem dX6_skip_16 : decode cX6_skip 16 = .ok (.invokespecial 89, 3) := by decide +kernel
theorem dX6_skip_19 : decode cX6_skip 19 = .ok (.athrow, 1) := by decide +kernel
theorem dX6_skip_20 : decode cX6_skip 20 = .ok (.aload_n 0, 1) := by decide +kernel
theorem dX6_skip_21 : decode cX6_skip 21 = .ok (.getfield 22, 3) := by decide +kernel
theorem dX6_skip_24 : decode cX6_skip 24 = .ok (.aload_n 0, 1) := by decide +kernel
theorem dX6_skip_25 : decode cX6_skip 25 = .ok (.getfield 12, 3) := by decide +kernel
theorem dX6_skip_28 : decode cX6_skip 28 = .ok (.invokevirtual 58, 3) := by decide +kernel
theorem dX6_skip_31 : decode cX6_skip 31 = .ok (.aload_n 0, 1) := by decide +kernel
theorem dX6_skip_32 : decode cX6_skip 32 = .ok (.getfield 12, 3) := by decide +kernel
theorem dX6_skip_35 : decode cX6_skip 35 = .ok (.aload_n 0, 1) := by decide +kernel
theorem dX6_skip_36 : decode cX6_skip 36 = .ok (.getfield 12, 3) := by decide +kernel
theorem dX6_skip_39 : decode cX6_skip 39 = .ok (.getfield 143, 3) := by decide +kernel
theorem dX6_skip_42 : decode cX6_skip 42 = .ok (.ifCond .ne 7, 3) := by decide +kernel
theorem dX6_skip_45 : decode cX6_skip 45 = .ok (.iconst 1, 1) := by decide +kernel
theorem dX6_skip_46 : decode cX6_skip 46 = .ok (.goto 4, 3) := by decide +kernel
theorem dX6_skip_49 : decode cX6_skip 49 = .ok (.iconst 0, 1) := by decide +kernel
theorem dX6_skip_50 : decode cX6_skip 50 = .ok (.putfield 143, 3) := by decide +kernel
theorem dX6_skip_53 : decode cX6_skip 53 = .ok (.aload_n 0, 1) := by decide +kernel
theorem dX6_skip_54 : decode cX6_skip 54 = .ok (.getfield 12, 3) := by decide +kernel
theorem dX6_skip_57 : decode cX6_skip 57 = .ok (.invokevirtual 147, 3) := by decide +kernel
theorem dX6_skip_60 : decode cX6_skip 60 = .ok (.aload_n 0, 1) := by decide +kernel
theorem dX6_skip_61 : decode cX6_skip 61 = .ok (.getfield 12, 3) := by decide +kernel
theorem dX6_skip_64 : decode cX6_skip 64 = .ok (.invokevirtual 150, 3) := by decide +kernel
theorem dX6_skip_67 : decode cX6_skip 67 = .ok (.ireturn, 1) := by decide +kernel
set_option maxRecDepth 20000 in
theorem ggX6_play_X6_isRule : GoodIn wsX6_play wsX6_isRule := goodIn_r _ [10] (by decide +kernel) (by decide +kernel)
set_option maxRecDepth 20000 in
theorem gX6_play_X6_isRule : GoodIn wsX6_play (va_wsS RX6 153 yX6_isRule wsX6_isRule) := goodIn_app (goodIn_of _ (by decide +kernel)) ggX6_play_X6_isRule
set_option maxRecDepth 20000 in
theorem ggX6_play_X4_winner : GoodIn wsX6_play wsX4_winner := goodIn_r _ [15, 16, 17, 18, 19, 20, 21, 22, 23, 24, 25, 26, 27, 28, 29, 30, 31, 32, 33, 34, 35, 36, 37, 237, 238, 239, 240, 241, 242, 243, 244, 245, 246, 247, 248, 249, 250, 251, 252] (by decide +kernel) (by decide +kernel)
set_option maxRecDepth 20000 in
theorem gX6_play_X4_winner : GoodIn wsX6_play (wsV RX6 126 RX4 yX4_winner wsX4_winner) := goodIn_app (goodIn_of _ (by decide +kernel)) ggX6_play_X4_winner
set_option maxRecDepth 20000 in
theorem ggX6_play_X0_save : GoodIn wsX6_play wsX0_save := goodIn_r _ [42, 43, 44, 45, 46, 14, 47, 48, 49, 41, 50, 51, 52, 53, 54, 55, 56, 57, 23, 16, 58, 17, 18, 59, 60, 61, 62, 63, 64, 65, 66, 67, 68, 29, 28, 30, 25, 26, 27, 69, 70, 71, 72, 73, 74, 75, 76, 77, 78, 79, 80, 253, 254, 237, 238, 239, 240, 241, 242, 243, 244, 245, 246, 247, 248, 249, 250, 251, 252] (by decide +kernel) (by decide +kernel)
set_option maxRecDepth 20000 in
theorem gX6_play_X0_save : GoodIn wsX6_play (wsV RX6 58 RX0 yX0_save wsX0_save) := goodIn_app (goodIn_of _ (by decide +kernel)) ggX6_play_X0_save
set_option maxRecDepth 20000 in
theorem ggX6_play_X6_goOn : GoodIn wsX6_play wsX6_goOn := goodIn_r _ [84, 85, 86, 11, 12, 13, 14, 15, 16, 17, 18, 19, 20, 21, 22, 23, 24, 25, 26, 27, 28, 29, 30, 31, 32, 33, 34, 35, 36, 37, 87, 88, 89, 9, 90, 91, 92, 93, 94, 95, 96, 97, 98, 99, 100, 58, 101, 102, 103, 104, 105, 106, 107, 108, 109, 110, 111, 112, 113, 114, 115, 116, 117, 118, 119, 120, 121, 122, 123, 124, 125, 126, 127, 78, 79, 80, 128, 129, 130, 131, 132, 133, 134, 135, 136, 137, 138, 139, 140, 141, 142, 143, 144, 145, 146, 147, 148, 149, 150, 151, 152, 153, 154, 155, 156, 157, 158, 159, 160, 161, 162, 163, 164, 165, 166, 167, 168, 169, 170, 171, 172, 173, 174, 175, 176, 177, 178, 179, 180, 181, 182, 183, 184, 185, 186, 187, 188, 189, 190, 191, 192, 193, 194, 195, 196, 197, 198, 199, 200, 201, 202, 203, 204, 205, 206, 207, 208, 209, 210, 211, 212, 213, 214, 215, 216, 217, 218, 219, 220, 221, 222, 223, 224, 225, 226, 227, 228, 59, 60, 61, 62, 63, 64, 229, 237, 238, 239, 240, 241, 242, 243, 244, 245, 246, 230, 231, 232, 233, 234, 235, 236, 247, 248, 249, 250, 251, 252, 255, 256, 257, 258, 259, 260, 261, 262, 263, 264, 265, 266] (by decide +kernel) (by decide +kernel)
set_option maxRecDepth 20000 in
theorem gX6_play_X6_goOn : GoodIn wsX6_play (wsV RX6 158 RX6 yX6_goOn wsX6_goOn) := goodIn_app (goodIn_of _ (by decide +kernel)) ggX6_play_X6_goOn
theorem dX6_play_0 : decode cX6_play 0 = .ok (.iload_n 1, 1) := by decide +kernel
theorem dX6_play_1 : decode cX6_play 1 = .ok (.invokestatic 153, 3) := by decide +kernel
theorem dX6_play_4 : decode cX6_play 4 = .ok (.ifCond .eq 21, 3) := by decide +kernel
theorem dX6_play_7 : decode cX6_play 7 = .ok (.iload_n 2, 1) := by decide +kernel
theorem dX6_play_8 : decode cX6_play 8 = .ok (.invokestatic 153, 3) := by decide +kernel
theorem dX6_play_11 : decode cX6_play 11 = .ok (.ifCond .eq 14, 3) := by decide +kernel
theorem dX6_play_14 : decode cX6_play 14 = .ok (.iload_n 3, 1) := by decide +kernel
theorem dX6_play_15 : decode cX6_play 15 = .ok (.iconst 1, 1) := by decide +kernel
theorem dX6_play_16 : decode cX6_play 16 = .ok (.if_icmp .lt 9, 3) := by decide +kernel
theorem dX6_play_19 : decode cX6_play 19 = .ok (.iload_n 3, 1) := by decide +kernel
theorem dX6_play_20 : decode cX6_play 20 = .ok (.bipush 10, 2) := by decide +kernel
theorem dX6_play_22 : decode cX6_play 22 = .ok (.if_icmp .le 13, 3) := by decide +kernel
theorem dX6_play_25 : decode cX6_play 25 = .ok (.new 51, 3) := by decide +kernel
theorem dX6_play_28 : decode cX6_play 28 = .ok (.dup, 1) := by decide +kernel
theorem dX6_play_29 : decode cX6_play 29 = .ok (.ldc 156, 2) := by decide +kernel
theorem dX6_play_31 : decode cX6_play 31 = .ok (.invokespecial 55, 3) := by decide +kernel
theorem dX6_play_34 : decode cX6_play 34 = .ok (.athrow, 1) := by decide +kernel
theorem dX6_play_35 : decode cX6_play 35 = .ok (.aload_n 0, 1) := by decide +kernel
theorem dX6_play_36 : decode cX6_play 36 = .ok (.getfield 12, 3) := by decide +kernel
theorem dX6_play_39 : decode cX6_play 39 = .ok (.invokevirtual 126, 3) := by decide +kernel
theorem dX6_play_42 : decode cX6_play 42 = .ok (.ifCond .eq 13, 3) := by decide +kernel
theorem dX6_play_45 : decode cX6_play 45 = .ok (.new 85, 3) := by decide +kernel
theorem dX6_play_48 : decode cX6_play 48 = .ok (.dup, 1) := by decide +kernel
theorem dX6_play_49 : decode cX6_play 49 = .ok (.ldc 141, 2) := by decide +kernel
theorem dX6_play_51 : decode cX6_play 51 = .ok (.invokespecial 89, 3) := by decide +kernel
theorem dX6_play_54 : decode cX6_play 54 = .ok (.athrow, 1) := by decide +kernel
theorem dX6_play_55 : decode cX6_play 55 = .ok (.aload_n 0, 1) := by decide +kernel
theorem dX6_play_56 : decode cX6_play 56 = .ok (.getfield 22, 3) := by decide +kernel
theorem dX6_play_59 : decode cX6_play 59 = .ok (.aload_n 0, 1) := by decide +kernel
theorem dX6_play_60 : decode cX6_play 60 = .ok (.getfield 12, 3) := by decide +kernel
theorem dX6_play_63 : decode cX6_play 63 = .ok (.invokevirtual 58, 3) := by decide +kernel
theorem dX6_play_66 : decode cX6_play 66 = .ok (.aload_n 0, 1) := by decide +kernel
theorem dX6_play_67 : decode cX6_play 67 = .ok (.aload_n 0, 1) := by decide +kernel
theorem dX6_play_68 : decode cX6_play 68 = .ok (.getfield 12, 3) := by decide +kernel
theorem dX6_play_71 : decode cX6_play 71 = .ok (.iload_n 1, 1) := by decide +kernel
theorem dX6_play_72 : decode cX6_play 72 = .ok (.iload_n 2, 1) := by decide +kernel
theorem dX6_play_73 : decode cX6_play 73 = .ok (.iload_n 3, 1) := by decide +kernel
theorem dX6_play_74 : decode cX6_play 74 = .ok (.invokevirtual 158, 3) := by decide +kernel
theorem dX6_play_77 : decode cX6_play 77 = .ok (.ireturn, 1) := by decide +kernel
set_option maxRecDepth 20000 in
theorem ggX6_append_X5_put : GoodIn wsX6_append wsX5_put := goodIn_r _ [11, 12, 13, 21, 22] (by decide +kernel) (by decide +kernel)
set_option maxRecDepth 20000 in
theorem gX6_append_X5_put : GoodIn wsX6_append (wsV RX6 167 RX5 yX5_put wsX5_put) := goodIn_app (goodIn_of _ (by decide +kernel)) ggX6_append_X5_put
theorem dX6_append_0 : decode cX6_append 0 = .ok (.iload_n 1, 1) := by decide +kernel
theorem dX6_append_1 : decode cX6_append 1 = .ok (.bipush 33, 2) := by decide +kernel
theorem dX6_append_3 : decode cX6_append 3 = .ok (.if_icmp .lt 9, 3) := by decide +kernel
theorem dX6_append_6 : decode cX6_append 6 = .ok (.iload_n 1, 1) := by decide +kernel
theorem dX6_append_7 : decode cX6_append 7 = .ok (.bipush 126, 2) := by decide +kernel
theorem dX6_append_9 : decode cX6_append 9 = .ok (.if_icmp .le 13, 3) := by decide +kernel
theorem dX6_append_12 : decode cX6_append 12 = .ok (.new 51, 3) := by decide +kernel
theorem dX6_append_15 : decode cX6_append 15 = .ok (.dup, 1) := by decide +kernel
theorem dX6_append_16 : decode cX6_append 16 = .ok (.ldc 162, 2) := by decide +kernel
theorem dX6_append_18 : decode cX6_append 18 = .ok (.invokespecial 55, 3) := by decide +kernel
theorem dX6_append_21 : decode cX6_append 21 = .ok (.athrow, 1) := by decide +kernel
theorem dX6_append_22 : decode cX6_append 22 = .ok (.aload_n 0, 1) := by decide +kernel
theorem dX6_append_23 : decode cX6_append 23 = .ok (.getfield 33, 3) := by decide +kernel
theorem dX6_append_26 : decode cX6_append 26 = .ok (.getfield 164, 3) := by decide +kernel
theorem dX6_append_29 : decode cX6_append 29 = .ok (.bipush 60, 2) := by decide +kernel
theorem dX6_append_31 : decode cX6_append 31 = .ok (.if_icmp .lt 13, 3) := by decide +kernel
theorem dX6_append_34 : decode cX6_append 34 = .ok (.new 85, 3) := by decide +kernel
theorem dX6_append_37 : decode cX6_append 37 = .ok (.dup, 1) := by decide +kernel
theorem dX6_append_38 : decode cX6_append 38 = .ok (.ldc 165, 2) := by decide +kernel
theorem dX6_append_40 : decode cX6_append 40 = .ok (.invokespecial 89, 3) := by decide +kernel
theorem dX6_append_43 : decode cX6_append 43 = .ok (.athrow, 1) := by decide +kernel
theorem dX6_append_44 : decode cX6_append 44 = .ok (.aload_n 0, 1) := by decide +kernel
theorem dX6_append_45 : decode cX6_append 45 = .ok (.getfield 33, 3) := by decide +kernel
theorem dX6_append_48 : decode cX6_append 48 = .ok (.iload_n 1, 1) := by decide +kernel
theorem dX6_append_49 : decode cX6_append 49 = .ok (.invokevirtual 167, 3) := by decide +kernel
theorem dX6_append_52 : decode cX6_append 52 = .ok (.aload_n 0, 1) := by decide +kernel
theorem dX6_append_53 : decode cX6_append 53 = .ok (.getfield 33, 3) := by decide +kernel
theorem dX6_append_56 : decode cX6_append 56 = .ok (.getfield 164, 3) := by decide +kernel
theorem dX6_append_59 : decode cX6_append 59 = .ok (.ireturn, 1) := by decide +kernel
theorem dX6_clearBuffer_0 : decode cX6_clearBuffer 0 = .ok (.aload_n 0, 1) := by decide +kernel
theorem dX6_clearBuffer_1 : decode cX6_clearBuffer 1 = .ok (.getfield 33, 3) := by decide +kernel
theorem dX6_clearBuffer_4 : decode cX6_clearBuffer 4 = .ok (.getfield 164, 3) := by decide +kernel
theorem dX6_clearBuffer_7 : decode cX6_clearBuffer 7 = .ok (.istore_n 1, 1) := by decide +kernel
theorem dX6_clearBuffer_8 : decode cX6_clearBuffer 8 = .ok (.aload_n 0, 1) := by decide +kernel
theorem dX6_clearBuffer_9 : decode cX6_clearBuffer 9 = .ok (.getfield 33, 3) := by decide +kernel
theorem dX6_clearBuffer_12 : decode cX6_clearBuffer 12 = .ok (.iconst 0, 1) := by decide +kernel
theorem dX6_clearBuffer_13 : decode cX6_clearBuffer 13 = .ok (.putfield 164, 3) := by decide +kernel
theorem dX6_clearBuffer_16 : decode cX6_clearBuffer 16 = .ok (.iload_n 1, 1) := by decide +kernel
theorem dX6_clearBuffer_17 : decode cX6_clearBuffer 17 = .ok (.ireturn, 1) := by decide +kernel
set_option maxRecDepth 20000 in
theorem ggX6_firstError_X5_errorAt : GoodIn wsX6_firstError wsX5_errorAt := goodIn_r _ [8, 9, 10, 28, 29] (by decide +kernel) (by decide +kernel)
set_option maxRecDepth 20000 in
theorem gX6_firstError_X5_errorAt : GoodIn wsX6_firstError (wsV RX6 168 RX5 yX5_errorAt wsX5_errorAt) := goodIn_app (goodIn_of _ (by decide +kernel)) ggX6_firstError_X5_errorAt
theorem dX6_firstError_0 : decode cX6_firstError 0 = .ok (.aload_n 0, 1) := by decide +kernel
theorem dX6_firstError_1 : decode cX6_firstError 1 = .ok (.getfield 33, 3) := by decide +kernel
theorem dX6_firstError_4 : decode cX6_firstError 4 = .ok (.aload_n 0, 1) := by decide +kernel
theorem dX6_firstError_5 : decode cX6_firstError 5 = .ok (.getfield 12, 3) := by decide +kernel
theorem dX6_firstError_8 : decode cX6_firstError 8 = .ok (.getfield 62, 3) := by decide +kernel
theorem dX6_firstError_11 : decode cX6_firstError 11 = .ok (.invokevirtual 168, 3) := by decide +kernel
theorem dX6_firstError_14 : decode cX6_firstError 14 = .ok (.ireturn, 1) := by decide +kernel
set_option maxRecDepth 20000 in
theorem ggX6_read_X5_isComplete : GoodIn wsX6_read wsX5_isComplete := goodIn_r _ [16, 17, 18, 19, 20, 21, 15, 22, 112, 113] (by decide +kernel) (by decide +kernel)
set_option maxRecDepth 20000 in
theorem gX6_read_X5_isComplete : GoodIn wsX6_read (wsV RX6 171 RX5 yX5_isComplete wsX5_isComplete) := goodIn_app (goodIn_of _ (by decide +kernel)) ggX6_read_X5_isComplete
set_option maxRecDepth 20000 in
theorem ggX6_read_X5_rows : GoodIn wsX6_read wsX5_rows := goodIn_r _ [26, 17, 18, 112, 113] (by decide +kernel) (by decide +kernel)
set_option maxRecDepth 20000 in
theorem gX6_read_X5_rows : GoodIn wsX6_read (wsV RX6 176 RX5 yX5_rows wsX5_rows) := goodIn_app (goodIn_of _ (by decide +kernel)) ggX6_read_X5_rows
set_option maxRecDepth 20000 in
theorem ggX6_read_X0_save : GoodIn wsX6_read wsX0_save := goodIn_r _ [31, 32, 33, 34, 35, 36, 37, 38, 39, 30, 40, 41, 42, 43, 44, 45, 46, 47, 48, 49, 50, 51, 52, 53, 54, 55, 56, 57, 58, 59, 60, 61, 62, 63, 64, 65, 66, 67, 68, 69, 70, 71, 72, 73, 74, 75, 76, 77, 78, 79, 80, 114, 115, 96, 97, 98, 99, 100, 101, 102, 103, 104, 105, 106, 107, 108, 109, 110, 111] (by decide +kernel) (by decide +kernel)
set_option maxRecDepth 20000 in
theorem gX6_read_X0_save : GoodIn wsX6_read (wsV RX6 58 RX0 yX0_save wsX0_save) := goodIn_app (goodIn_of _ (by decide +kernel)) ggX6_read_X0_save
set_option maxRecDepth 20000 in
theorem ggX6_read_X5_addTo : GoodIn wsX6_read wsX5_addTo := goodIn_r _ [84, 17, 18, 85, 86, 87, 48, 88, 64, 63, 112, 113, 106, 107, 108, 109, 110, 111] (by decide +kernel) (by decide +kernel)
set_option maxRecDepth 20000 in
theorem gX6_read_X5_addTo : GoodIn wsX6_read (wsV RX6 181 RX5 yX5_addTo wsX5_addTo) := goodIn_app (goodIn_of _ (by decide +kernel)) ggX6_read_X5_addTo
theorem dX6_read_0 : decode cX6_read 0 = .ok (.aload_n 0, 1) := by decide +kernel
theorem dX6_read_1 : decode cX6_read 1 = .ok (.getfield 33, 3) := by decide +kernel
theorem dX6_read_4 : decode cX6_read 4 = .ok (.aload_n 0, 1) := by decide +kernel
theorem dX6_read_5 : decode cX6_read 5 = .ok (.getfield 12, 3) := by decide +kernel
theorem dX6_read_8 : decode cX6_read 8 = .ok (.getfield 62, 3) := by decide +kernel
theorem dX6_read_11 : decode cX6_read 11 = .ok (.invokevirtual 171, 3) := by decide +kernel
theorem dX6_read_14 : decode cX6_read 14 = .ok (.ifCond .ne 13, 3) := by decide +kernel
theorem dX6_read_17 : decode cX6_read 17 = .ok (.new 51, 3) := by decide +kernel
theorem dX6_read_20 : decode cX6_read 20 = .ok (.dup, 1) := by decide +kernel
theorem dX6_read_21 : decode cX6_read 21 = .ok (.ldc 174, 2) := by decide +kernel
theorem dX6_read_23 : decode cX6_read 23 = .ok (.invokespecial 55, 3) := by decide +kernel
theorem dX6_read_26 : decode cX6_read 26 = .ok (.athrow, 1) := by decide +kernel
theorem dX6_read_27 : decode cX6_read 27 = .ok (.aload_n 0, 1) := by decide +kernel
theorem dX6_read_28 : decode cX6_read 28 = .ok (.getfield 12, 3) := by decide +kernel
theorem dX6_read_31 : decode cX6_read 31 = .ok (.getfield 66, 3) := by decide +kernel
theorem dX6_read_34 : decode cX6_read 34 = .ok (.getfield 70, 3) := by decide +kernel
theorem dX6_read_37 : decode cX6_read 37 = .ok (.aload_n 0, 1) := by decide +kernel
theorem dX6_read_38 : decode cX6_read 38 = .ok (.getfield 33, 3) := by decide +kernel
theorem dX6_read_41 : decode cX6_read 41 = .ok (.invokevirtual 176, 3) := by decide +kernel
theorem dX6_read_44 : decode cX6_read 44 = .ok (.iadd, 1) := by decide +kernel
theorem dX6_read_45 : decode cX6_read 45 = .ok (.bipush 12, 2) := by decide +kernel
theorem dX6_read_47 : decode cX6_read 47 = .ok (.if_icmp .le 13, 3) := by decide +kernel
theorem dX6_read_50 : decode cX6_read 50 = .ok (.new 85, 3) := by decide +kernel
theorem dX6_read_53 : decode cX6_read 53 = .ok (.dup, 1) := by decide +kernel
theorem dX6_read_54 : decode cX6_read 54 = .ok (.ldc 179, 2) := by decide +kernel
theorem dX6_read_56 : decode cX6_read 56 = .ok (.invokespecial 89, 3) := by decide +kernel
theorem dX6_read_59 : decode cX6_read 59 = .ok (.athrow, 1) := by decide +kernel
theorem dX6_read_60 : decode cX6_read 60 = .ok (.aload_n 0, 1) := by decide +kernel
theorem dX6_read_61 : decode cX6_read 61 = .ok (.getfield 22, 3) := by decide +kernel
theorem dX6_read_64 : decode cX6_read 64 = .ok (.aload_n 0, 1) := by decide +kernel
theorem dX6_read_65 : decode cX6_read 65 = .ok (.getfield 12, 3) := by decide +kernel
theorem dX6_read_68 : decode cX6_read 68 = .ok (.invokevirtual 58, 3) := by decide +kernel
theorem dX6_read_71 : decode cX6_read 71 = .ok (.aload_n 0, 1) := by decide +kernel
theorem dX6_read_72 : decode cX6_read 72 = .ok (.getfield 33, 3) := by decide +kernel
theorem dX6_read_75 : decode cX6_read 75 = .ok (.aload_n 0, 1) := by decide +kernel
theorem dX6_read_76 : decode cX6_read 76 = .ok (.getfield 12, 3) := by decide +kernel
theorem dX6_read_79 : decode cX6_read 79 = .ok (.getfield 66, 3) := by decide +kernel
theorem dX6_read_82 : decode cX6_read 82 = .ok (.invokevirtual 181, 3) := by decide +kernel
theorem dX6_read_85 : decode cX6_read 85 = .ok (.aload_n 0, 1) := by decide +kernel
theorem dX6_read_86 : decode cX6_read 86 = .ok (.getfield 33, 3) := by decide +kernel
theorem dX6_read_89 : decode cX6_read 89 = .ok (.iconst 0, 1) := by decide +kernel
theorem dX6_read_90 : decode cX6_read 90 = .ok (.putfield 164, 3) := by decide +kernel
theorem dX6_read_93 : decode cX6_read 93 = .ok (.aload_n 0, 1) := by decide +kernel
theorem dX6_read_94 : decode cX6_read 94 = .ok (.getfield 12, 3) := by decide +kernel
theorem dX6_read_97 : decode cX6_read 97 = .ok (.getfield 66, 3) := by decide +kernel
theorem dX6_read_100 : decode cX6_read 100 = .ok (.getfield 70, 3) := by decide +kernel
theorem dX6_read_103 : decode cX6_read 103 = .ok (.ireturn, 1) := by decide +kernel
set_option maxRecDepth 20000 in
theorem ggX6_take_X6_isSnapshot : GoodIn wsX6_take wsX6_isSnapshot := goodIn_r _ [14, 3, 51, 52, 53, 54, 55, 56, 57] (by decide +kernel) (by decide +kernel)
set_option maxRecDepth 20000 in
theorem gX6_take_X6_isSnapshot : GoodIn wsX6_take (wsV RX6 185 RX6 yX6_isSnapshot wsX6_isSnapshot) := goodIn_app (goodIn_of _ (by decide +kernel)) ggX6_take_X6_isSnapshot
set_option maxRecDepth 20000 in
theorem ggX6_take_X4_init : GoodIn wsX6_take wsX4_init := goodIn_r _ [16, 17, 18, 19, 20, 21, 22, 23, 24, 25, 26, 27, 28, 29, 30, 31, 32, 33, 34, 35, 36, 37, 38, 39, 40, 41, 42, 68, 69, 70, 71, 72, 73, 58, 59, 60, 61, 62, 63, 64, 65, 66, 67] (by decide +kernel) (by decide +kernel)
set_option maxRecDepth 20000 in
theorem gX6_take_X4_init_n11 : GoodIn wsX6_take (wsX4_init) := ggX6_take_X4_init
set_option maxRecDepth 20000 in
theorem ggX6_take_X4_copyBoard : GoodIn wsX6_take wsX4_copyBoard := goodIn_r _ [46, 23, 24, 25, 26, 27, 28, 29, 47, 48, 49, 22, 50, 38, 37, 58, 59, 60, 61, 62, 63, 64, 65, 66, 67, 68, 69, 70, 71, 72, 73] (by decide +kernel) (by decide +kernel)
set_option maxRecDepth 20000 in
theorem gX6_take_X4_copyBoard : GoodIn wsX6_take (wsV RX6 190 RX4 yX4_copyBoard wsX4_copyBoard) := goodIn_app (goodIn_of _ (by decide +kernel)) ggX6_take_X4_copyBoard
theorem dX6_take_0 : decode cX6_take 0 = .ok (.aload_n 0, 1) := by decide +kernel
theorem dX6_take_1 : decode cX6_take 1 = .ok (.iload_n 1, 1) := by decide +kernel
theorem dX6_take_2 : decode cX6_take 2 = .ok (.invokevirtual 185, 3) := by decide +kernel
theorem dX6_take_5 : decode cX6_take 5 = .ok (.ifCond .ne 13, 3) := by decide +kernel
theorem dX6_take_8 : decode cX6_take 8 = .ok (.new 98, 3) := by decide +kernel
theorem dX6_take_11 : decode cX6_take 11 = .ok (.dup, 1) := by decide +kernel
theorem dX6_take_12 : decode cX6_take 12 = .ok (.ldc 188, 2) := by decide +kernel
theorem dX6_take_14 : decode cX6_take 14 = .ok (.invokespecial 102, 3) := by decide +kernel
theorem dX6_take_17 : decode cX6_take 17 = .ok (.athrow, 1) := by decide +kernel
theorem dX6_take_18 : decode cX6_take 18 = .ok (.aload_n 0, 1) := by decide +kernel
theorem dX6_take_19 : decode cX6_take 19 = .ok (.getfield 26, 3) := by decide +kernel
theorem dX6_take_22 : decode cX6_take 22 = .ok (.iload_n 1, 1) := by decide +kernel
theorem dX6_take_23 : decode cX6_take 23 = .ok (.aaload, 1) := by decide +kernel
theorem dX6_take_24 : decode cX6_take 24 = .ok (.astore_n 2, 1) := by decide +kernel
theorem dX6_take_25 : decode cX6_take 25 = .ok (.aload_n 2, 1) := by decide +kernel
theorem dX6_take_26 : decode cX6_take 26 = .ok (.ifnonnull 18, 3) := by decide +kernel
theorem dX6_take_29 : decode cX6_take 29 = .ok (.new 9, 3) := by decide +kernel
theorem dX6_take_32 : decode cX6_take 32 = .ok (.dup, 1) := by decide +kernel
theorem dX6_take_33 : decode cX6_take 33 = .ok (.invokespecial 11, 3) := by decide +kernel
theorem dX6_take_36 : decode cX6_take 36 = .ok (.astore_n 2, 1) := by decide +kernel
theorem dX6_take_37 : decode cX6_take 37 = .ok (.aload_n 0, 1) := by decide +kernel
theorem dX6_take_38 : decode cX6_take 38 = .ok (.getfield 26, 3) := by decide +kernel
theorem dX6_take_41 : decode cX6_take 41 = .ok (.iload_n 1, 1) := by decide +kernel
theorem dX6_take_42 : decode cX6_take 42 = .ok (.aload_n 2, 1) := by decide +kernel
theorem dX6_take_43 : decode cX6_take 43 = .ok (.aastore, 1) := by decide +kernel
theorem dX6_take_44 : decode cX6_take 44 = .ok (.aload_n 2, 1) := by decide +kernel
theorem dX6_take_45 : decode cX6_take 45 = .ok (.aload_n 0, 1) := by decide +kernel
theorem dX6_take_46 : decode cX6_take 46 = .ok (.getfield 12, 3) := by decide +kernel
theorem dX6_take_49 : decode cX6_take 49 = .ok (.invokevirtual 190, 3) := by decide +kernel
theorem dX6_take_52 : decode cX6_take 52 = .ok (.aload_n 0, 1) := by decide +kernel
theorem dX6_take_53 : decode cX6_take 53 = .ok (.getfield 12, 3) := by decide +kernel
theorem dX6_take_56 : decode cX6_take 56 = .ok (.getfield 66, 3) := by decide +kernel
theorem dX6_take_59 : decode cX6_take 59 = .ok (.getfield 70, 3) := by decide +kernel
theorem dX6_take_62 : decode cX6_take 62 = .ok (.ireturn, 1) := by decide +kernel
set_option maxRecDepth 20000 in
theorem ggX6_restore_X6_isSnapshot : GoodIn wsX6_restore wsX6_isSnapshot := goodIn_r _ [14, 5, 70, 71, 72, 73, 74, 75, 76] (by decide +kernel) (by decide +kernel)
set_option maxRecDepth 20000 in
theorem gX6_restore_X6_isSnapshot : GoodIn wsX6_restore (wsV RX6 185 RX6 yX6_isSnapshot wsX6_isSnapshot) := goodIn_app (goodIn_of _ (by decide +kernel)) ggX6_restore_X6_isSnapshot
set_option maxRecDepth 20000 in
theorem ggX6_restore_X0_save : GoodIn wsX6_restore wsX0_save := goodIn_r _ [19, 20, 21, 22, 23, 24, 25, 26, 27, 18, 28, 29, 30, 31, 32, 33, 34, 35, 36, 37, 38, 39, 40, 41, 42, 43, 44, 45, 46, 47, 48, 49, 50, 51, 52, 53, 54, 55, 56, 57, 58, 59, 60, 61, 62, 63, 64, 65, 66, 67, 68, 93, 94, 77, 78, 79, 80, 81, 82, 83, 84, 85, 86, 87, 88, 89, 90, 91, 92] (by decide +kernel) (by decide +kernel)
set_option maxRecDepth 20000 in
theorem gX6_restore_X0_save : GoodIn wsX6_restore (wsV RX6 58 RX0 yX0_save wsX0_save) := goodIn_app (goodIn_of _ (by decide +kernel)) ggX6_restore_X0_save
set_option maxRecDepth 20000 in
theorem ggX6_restore_X4_copyBoard : GoodIn wsX6_restore wsX4_copyBoard := goodIn_r _ [64, 37, 38, 39, 40, 41, 42, 43, 65, 66, 67, 36, 68, 52, 51, 77, 78, 79, 80, 81, 82, 83, 84, 85, 86, 87, 88, 89, 90, 91, 92] (by decide +kernel) (by decide +kernel)
set_option maxRecDepth 20000 in
theorem gX6_restore_X4_copyBoard : GoodIn wsX6_restore (wsV RX6 190 RX4 yX4_copyBoard wsX4_copyBoard) := goodIn_app (goodIn_of _ (by decide +kernel)) ggX6_restore_X4_copyBoard
theorem dX6_restore_0 : decode cX6_restore 0 = .ok (.aload_n 0, 1) := by decide +kernel
theorem dX6_restore_1 : decode cX6_restore 1 = .ok (.iload_n 1, 1) := by decide +kernel
theorem dX6_restore_2 : decode cX6_restore 2 = .ok (.invokevirtual 185, 3) := by decide +kernel
theorem dX6_restore_5 : decode cX6_restore 5 = .ok (.ifCond .ne 13, 3) := by decide +kernel
theorem dX6_restore_8 : decode cX6_restore 8 = .ok (.new 98, 3) := by decide +kernel
theorem dX6_restore_11 : decode cX6_restore 11 = .ok (.dup, 1) := by decide +kernel
theorem dX6_restore_12 : decode cX6_restore 12 = .ok (.ldc 188, 2) := by decide +kernel
theorem dX6_restore_14 : decode cX6_restore 14 = .ok (.invokespecial 102, 3) := by decide +kernel
theorem dX6_restore_17 : decode cX6_restore 17 = .ok (.athrow, 1) := by decide +kernel
theorem dX6_restore_18 : decode cX6_restore 18 = .ok (.aload_n 0, 1) := by decide +kernel
theorem dX6_restore_19 : decode cX6_restore 19 = .ok (.getfield 26, 3) := by decide +kernel
theorem dX6_restore_22 : decode cX6_restore 22 = .ok (.iload_n 1, 1) := by decide +kernel
theorem dX6_restore_23 : decode cX6_restore 23 = .ok (.aaload, 1) := by decide +kernel
theorem dX6_restore_24 : decode cX6_restore 24 = .ok (.astore_n 2, 1) := by decide +kernel
theorem dX6_restore_25 : decode cX6_restore 25 = .ok (.aload_n 2, 1) := by decide +kernel
theorem dX6_restore_26 : decode cX6_restore 26 = .ok (.ifnonnull 13, 3) := by decide +kernel
theorem dX6_restore_29 : decode cX6_restore 29 = .ok (.new 85, 3) := by decide +kernel
theorem dX6_restore_32 : decode cX6_restore 32 = .ok (.dup, 1) := by decide +kernel
theorem dX6_restore_33 : decode cX6_restore 33 = .ok (.ldc 193, 2) := by decide +kernel
theorem dX6_restore_35 : decode cX6_restore 35 = .ok (.invokespecial 89, 3) := by decide +kernel
theorem dX6_restore_38 : decode cX6_restore 38 = .ok (.athrow, 1) := by decide +kernel
theorem dX6_restore_39 : decode cX6_restore 39 = .ok (.aload_n 0, 1) := by decide +kernel
theorem dX6_restore_40 : decode cX6_restore 40 = .ok (.getfield 22, 3) := by decide +kernel
theorem dX6_restore_43 : decode cX6_restore 43 = .ok (.aload_n 0, 1) := by decide +kernel
theorem dX6_restore_44 : decode cX6_restore 44 = .ok (.getfield 12, 3) := by decide +kernel
theorem dX6_restore_47 : decode cX6_restore 47 = .ok (.invokevirtual 58, 3) := by decide +kernel
theorem dX6_restore_50 : decode cX6_restore 50 = .ok (.aload_n 0, 1) := by decide +kernel
theorem dX6_restore_51 : decode cX6_restore 51 = .ok (.getfield 12, 3) := by decide +kernel
theorem dX6_restore_54 : decode cX6_restore 54 = .ok (.aload_n 2, 1) := by decide +kernel
theorem dX6_restore_55 : decode cX6_restore 55 = .ok (.invokevirtual 190, 3) := by decide +kernel
theorem dX6_restore_58 : decode cX6_restore 58 = .ok (.aload_n 0, 1) := by decide +kernel
theorem dX6_restore_59 : decode cX6_restore 59 = .ok (.getfield 12, 3) := by decide +kernel
theorem dX6_restore_62 : decode cX6_restore 62 = .ok (.getfield 66, 3) := by decide +kernel
theorem dX6_restore_65 : decode cX6_restore 65 = .ok (.getfield 70, 3) := by decide +kernel
theorem dX6_restore_68 : decode cX6_restore 68 = .ok (.ireturn, 1) := by decide +kernel
set_option maxRecDepth 20000 in
theorem ggX6_undo_X0_goBack : GoodIn wsX6_undo wsX0_goBack := goodIn_r _ [10, 11, 12, 13, 14, 15, 16, 17, 18, 19, 20, 21, 22, 23, 24, 25, 26, 27, 28, 29, 30, 31, 32, 33, 34, 35, 36, 37, 38, 46, 47, 48, 49, 50, 51, 52, 53, 54, 55, 56, 57, 58, 59, 60, 61, 62, 63] (by decide +kernel) (by decide +kernel)
set_option maxRecDepth 20000 in
theorem gX6_undo_X0_goBack : GoodIn wsX6_undo (wsV RX6 198 RX0 yX0_goBack wsX0_goBack) := goodIn_app (goodIn_of _ (by decide +kernel)) ggX6_undo_X0_goBack
theorem dX6_undo_0 : decode cX6_undo 0 = .ok (.aload_n 0, 1) := by decide +kernel
theorem dX6_undo_1 : decode cX6_undo 1 = .ok (.getfield 22, 3) := by decide +kernel
theorem dX6_undo_4 : decode cX6_undo 4 = .ok (.getfield 195, 3) := by decide +kernel
theorem dX6_undo_7 : decode cX6_undo 7 = .ok (.ifCond .gt 13, 3) := by decide +kernel
theorem dX6_undo_10 : decode cX6_undo 10 = .ok (.new 85, 3) := by decide +kernel
theorem dX6_undo_13 : decode cX6_undo 13 = .ok (.dup, 1) := by decide +kernel
theorem dX6_undo_14 : decode cX6_undo 14 = .ok (.ldc 196, 2) := by decide +kernel
theorem dX6_undo_16 : decode cX6_undo 16 = .ok (.invokespecial 89, 3) := by decide +kernel
theorem dX6_undo_19 : decode cX6_undo 19 = .ok (.athrow, 1) := by decide +kernel
theorem dX6_undo_20 : decode cX6_undo 20 = .ok (.aload_n 0, 1) := by decide +kernel
theorem dX6_undo_21 : decode cX6_undo 21 = .ok (.getfield 22, 3) := by decide +kernel
theorem dX6_undo_24 : decode cX6_undo 24 = .ok (.aload_n 0, 1) := by decide +kernel
theorem dX6_undo_25 : decode cX6_undo 25 = .ok (.getfield 12, 3) := by decide +kernel
theorem dX6_undo_28 : decode cX6_undo 28 = .ok (.invokevirtual 198, 3) := by decide +kernel
theorem dX6_undo_31 : decode cX6_undo 31 = .ok (.aload_n 0, 1) := by decide +kernel
theorem dX6_undo_32 : decode cX6_undo 32 = .ok (.getfield 22, 3) := by decide +kernel
theorem dX6_undo_35 : decode cX6_undo 35 = .ok (.getfield 195, 3) := by decide +kernel
theorem dX6_undo_38 : decode cX6_undo 38 = .ok (.ireturn, 1) := by decide +kernel
set_option maxRecDepth 20000 in
theorem ggX6_line_X1_has : GoodIn wsX6_line wsX1_has := goodIn_r _ [13, 14, 15, 56, 57, 58, 59, 60, 61] (by decide +kernel) (by decide +kernel)
set_option maxRecDepth 20000 in
theorem gX6_line_X1_has : GoodIn wsX6_line (wsV RX6 94 RX1 yX1_has wsX1_has) := goodIn_app (goodIn_of _ (by decide +kernel)) ggX6_line_X1_has
set_option maxRecDepth 20000 in
theorem ggX6_line_X1_maskOf : GoodIn wsX6_line wsX1_maskOf := goodIn_r _ [19, 14, 15, 56, 57, 58, 59, 60, 61] (by decide +kernel) (by decide +kernel)
set_option maxRecDepth 20000 in
theorem gX6_line_X1_maskOf : GoodIn wsX6_line (wsV RX6 103 RX1 yX1_maskOf wsX1_maskOf) := goodIn_app (goodIn_of _ (by decide +kernel)) ggX6_line_X1_maskOf
set_option maxRecDepth 20000 in
theorem ggX6_line_X4_freeCells : GoodIn wsX6_line wsX4_freeCells := goodIn_r _ [24, 25, 26, 27, 28, 29, 23, 30, 31, 46, 47, 48, 49, 50, 51, 52, 53, 54, 55] (by decide +kernel) (by decide +kernel)
set_option maxRecDepth 20000 in
theorem gX6_line_X4_freeCells : GoodIn wsX6_line (wsV RX6 203 RX4 yX4_freeCells wsX4_freeCells) := goodIn_app (goodIn_of _ (by decide +kernel)) ggX6_line_X4_freeCells
set_option maxRecDepth 20000 in
theorem ggX6_line_J6_bitCount_0f7a4 : GoodIn wsX6_line wsJ6_bitCount_0f7a4 := goodIn_r _ [35, 36, 37, 38] (by decide +kernel) (by decide +kernel)
set_option maxRecDepth 20000 in
theorem gX6_line_J6_bitCount_0f7a4 : GoodIn wsX6_line (va_wsS RX6 116 yJ6_bitCount_0f7a4 wsJ6_bitCount_0f7a4) := goodIn_app (goodIn_of _ (by decide +kernel)) ggX6_line_J6_bitCount_0f7a4
theorem dX6_line_0 : decode cX6_line 0 = .ok (.aload_n 0, 1) := by decide +kernel
theorem dX6_line_1 : decode cX6_line 1 = .ok (.getfield 12, 3) := by decide +kernel
theorem dX6_line_4 : decode cX6_line 4 = .ok (.getfield 66, 3) := by decide +kernel
theorem dX6_line_7 : decode cX6_line 7 = .ok (.iload_n 1, 1) := by decide +kernel
theorem dX6_line_8 : decode cX6_line 8 = .ok (.invokevirtual 94, 3) := by decide +kernel
theorem dX6_line_11 : decode cX6_line 11 = .ok (.ifCond .ne 13, 3) := by decide +kernel
theorem dX6_line_14 : decode cX6_line 14 = .ok (.new 98, 3) := by decide +kernel
theorem dX6_line_17 : decode cX6_line 17 = .ok (.dup, 1) := by decide +kernel
theorem dX6_line_18 : decode cX6_line 18 = .ok (.ldc 100, 2) := by decide +kernel
theorem dX6_line_20 : decode cX6_line 20 = .ok (.invokespecial 102, 3) := by decide +kernel
theorem dX6_line_23 : decode cX6_line 23 = .ok (.athrow, 1) := by decide +kernel
theorem dX6_line_24 : decode cX6_line 24 = .ok (.iload_n 2, 1) := by decide +kernel
theorem dX6_line_25 : decode cX6_line 25 = .ok (.ifCond .lt 8, 3) := by decide +kernel
theorem dX6_line_28 : decode cX6_line 28 = .ok (.iload_n 2, 1) := by decide +kernel
theorem dX6_line_29 : decode cX6_line 29 = .ok (.iconst 5, 1) := by decide +kernel
theorem dX6_line_30 : decode cX6_line 30 = .ok (.if_icmp .lt 13, 3) := by decide +kernel
theorem dX6_line_33 : decode cX6_line 33 = .ok (.new 51, 3) := by decide +kernel
theorem dX6_line_36 : decode cX6_line 36 = .ok (.dup, 1) := by decide +kernel
theorem dX6_line_37 : decode cX6_line 37 = .ok (.ldc 201, 2) := by decide +kernel
theorem dX6_line_39 : decode cX6_line 39 = .ok (.invokespecial 55, 3) := by decide +kernel
theorem dX6_line_42 : decode cX6_line 42 = .ok (.athrow, 1) := by decide +kernel
theorem dX6_line_43 : decode cX6_line 43 = .ok (.aload_n 0, 1) := by decide +kernel
theorem dX6_line_44 : decode cX6_line 44 = .ok (.getfield 12, 3) := by decide +kernel
theorem dX6_line_47 : decode cX6_line 47 = .ok (.getfield 66, 3) := by decide +kernel
theorem dX6_line_50 : decode cX6_line 50 = .ok (.iload_n 1, 1) := by decide +kernel
theorem dX6_line_51 : decode cX6_line 51 = .ok (.invokevirtual 103, 3) := by decide +kernel
theorem dX6_line_54 : decode cX6_line 54 = .ok (.istore_n 3, 1) := by decide +kernel
theorem dX6_line_55 : decode cX6_line 55 = .ok (.iload_n 3, 1) := by decide +kernel
theorem dX6_line_56 : decode cX6_line 56 = .ok (.aload_n 0, 1) := by decide +kernel
theorem dX6_line_57 : decode cX6_line 57 = .ok (.getfield 12, 3) := by decide +kernel
theorem dX6_line_60 : decode cX6_line 60 = .ok (.getfield 113, 3) := by decide +kernel
theorem dX6_line_63 : decode cX6_line 63 = .ok (.iand, 1) := by decide +kernel
theorem dX6_line_64 : decode cX6_line 64 = .ok (.ifCond .eq 7, 3) := by decide +kernel
theorem dX6_line_67 : decode cX6_line 67 = .ok (.iconst 1, 1) := by decide +kernel
theorem dX6_line_68 : decode cX6_line 68 = .ok (.goto 4, 3) := by decide +kernel
theorem dX6_line_71 : decode cX6_line 71 = .ok (.iconst 0, 1) := by decide +kernel
theorem dX6_line_72 : decode cX6_line 72 = .ok (.istore 4, 2) := by decide +kernel
theorem dX6_line_74 : decode cX6_line 74 = .ok (.iload_n 3, 1) := by decide +kernel
theorem dX6_line_75 : decode cX6_line 75 = .ok (.aload_n 0, 1) := by decide +kernel
theorem dX6_line_76 : decode cX6_line 76 = .ok (.getfield 12, 3) := by decide +kernel
theorem dX6_line_79 : decode cX6_line 79 = .ok (.invokevirtual 203, 3) := by decide +kernel
theorem dX6_line_82 : decode cX6_line 82 = .ok (.iand, 1) := by decide +kernel
theorem dX6_line_83 : decode cX6_line 83 = .ok (.invokestatic 116, 3) := by decide +kernel
theorem dX6_line_86 : decode cX6_line 86 = .ok (.istore 5, 2) := by decide +kernel
theorem dX6_line_88 : decode cX6_line 88 = .ok (.iload_n 2, 1) := by decide +kernel
theorem dX6_line_89 : decode cX6_line 89 = .ok (.tableswitch 63 0 3 #[31, 33, 44, 47], 31) := by decide +kernel
theorem dX6_line_120 : decode cX6_line 120 = .ok (.iload_n 3, 1) := by decide +kernel
theorem dX6_line_121 : decode cX6_line 121 = .ok (.ireturn, 1) := by decide +kernel
theorem dX6_line_122 : decode cX6_line 122 = .ok (.iload 4, 2) := by decide +kernel
theorem dX6_line_124 : decode cX6_line 124 = .ok (.ifCond .eq 7, 3) := by decide +kernel
theorem dX6_line_127 : decode cX6_line 127 = .ok (.iconst 1, 1) := by decide +kernel
theorem dX6_line_128 : decode cX6_line 128 = .ok (.goto 4, 3) := by decide +kernel
theorem dX6_line_131 : decode cX6_line 131 = .ok (.iconst 0, 1) := by decide +kernel
theorem dX6_line_132 : decode cX6_line 132 = .ok (.ireturn, 1) := by decide +kernel
theorem dX6_line_133 : decode cX6_line 133 = .ok (.iload 5, 2) := by decide +kernel
theorem dX6_line_135 : decode cX6_line 135 = .ok (.ireturn, 1) := by decide +kernel
theorem dX6_line_136 : decode cX6_line 136 = .ok (.iload 4, 2) := by decide +kernel
theorem dX6_line_138 : decode cX6_line 138 = .ok (.ifCond .eq 7, 3) := by decide +kernel
theorem dX6_line_141 : decode cX6_line 141 = .ok (.iconst 0, 1) := by decide +kernel
theorem dX6_line_142 : decode cX6_line 142 = .ok (.goto 9, 3) := by decide +kernel
theorem dX6_line_145 : decode cX6_line 145 = .ok (.sipush 1024, 3) := by decide +kernel
theorem dX6_line_148 : decode cX6_line 148 = .ok (.iload 5, 2) := by decide +kernel
theorem dX6_line_150 : decode cX6_line 150 = .ok (.ishr, 1) := by decide +kernel
theorem dX6_line_151 : decode cX6_line 151 = .ok (.ireturn, 1) := by decide +kernel
theorem dX6_line_152 : decode cX6_line 152 = .ok (.iload_n 3, 1) := by decide +kernel
theorem dX6_line_153 : decode cX6_line 153 = .ok (.aload_n 0, 1) := by decide +kernel
theorem dX6_line_154 : decode cX6_line 154 = .ok (.getfield 12, 3) := by decide +kernel
theorem dX6_line_157 : decode cX6_line 157 = .ok (.getfield 110, 3) := by decide +kernel
theorem dX6_line_160 : decode cX6_line 160 = .ok (.iand, 1) := by decide +kernel
theorem dX6_line_161 : decode cX6_line 161 = .ok (.invokestatic 116, 3) := by decide +kernel
theorem dX6_line_164 : decode cX6_line 164 = .ok (.ireturn, 1) := by decide +kernel
set_option maxRecDepth 20000 in
theorem ggX6_cell_X4_hasCell : GoodIn wsX6_cell wsX4_hasCell := goodIn_r _ [12, 13, 121, 122, 123, 124, 125, 126, 127, 128, 129, 130] (by decide +kernel) (by decide +kernel)
set_option maxRecDepth 20000 in
theorem gX6_cell_X4_hasCell : GoodIn wsX6_cell (wsV RX6 121 RX4 yX4_hasCell wsX4_hasCell) := goodIn_app (goodIn_of _ (by decide +kernel)) ggX6_cell_X4_hasCell
set_option maxRecDepth 20000 in
theorem ggX6_cell_X4_ownerOf : GoodIn wsX6_cell wsX4_ownerOf := goodIn_r _ [17, 18, 19, 20, 21, 11, 22, 23, 24, 25, 26, 27, 28, 29, 30, 31, 13, 121, 122, 123, 124, 125, 126, 127, 128, 129, 130] (by decide +kernel) (by decide +kernel)
set_option maxRecDepth 20000 in
theorem gX6_cell_X4_ownerOf : GoodIn wsX6_cell (wsV RX6 208 RX4 yX4_ownerOf wsX4_ownerOf) := goodIn_app (goodIn_of _ (by decide +kernel)) ggX6_cell_X4_ownerOf
set_option maxRecDepth 20000 in
theorem ggX6_cell_X4_dangerOf : GoodIn wsX6_cell wsX4_dangerOf := goodIn_r _ [35, 36, 18, 27, 19, 20, 21, 11, 22, 23, 24, 25, 26, 28, 29, 30, 31, 13, 37, 38, 39, 40, 41, 42, 43, 44, 45, 46, 47, 48, 49, 50, 121, 122, 123, 124, 125, 126, 127, 128, 129, 130, 131, 132, 133, 134, 135, 136] (by decide +kernel) (by decide +kernel)
set_option maxRecDepth 20000 in
theorem gX6_cell_X4_dangerOf : GoodIn wsX6_cell (wsV RX6 211 RX4 yX4_dangerOf wsX4_dangerOf) := goodIn_app (goodIn_of _ (by decide +kernel)) ggX6_cell_X4_dangerOf
set_option maxRecDepth 20000 in
theorem ggX6_cell_X6_otherInPairing : GoodIn wsX6_cell wsX6_otherInPairing := goodIn_r _ [55, 56, 5, 57, 58, 59, 60, 61, 62, 63, 64, 65, 66, 67, 68, 69, 70, 71, 72, 40, 73, 42, 43, 74, 75, 76, 77, 78, 79, 80, 81, 82, 83, 84, 85, 86, 87, 88, 89, 90, 91, 92, 93, 94, 95, 96, 97, 98, 99, 45, 46, 47, 48, 49, 50, 100, 101, 102, 103, 104, 105, 106, 107, 108, 54, 109, 114, 115, 116, 117, 118, 119, 120, 137, 138, 139, 140, 141, 142, 121, 122, 123, 124, 125, 126, 127, 128, 129, 130, 131, 132, 133, 134, 135, 136] (by decide +kernel) (by decide +kernel)
set_option maxRecDepth 20000 in
theorem gX6_cell_X6_otherInPairing : GoodIn wsX6_cell (wsV RX6 134 RX6 yX6_otherInPairing wsX6_otherInPairing) := goodIn_app (goodIn_of _ (by decide +kernel)) ggX6_cell_X6_otherInPairing
set_option maxRecDepth 20000 in
theorem ggX6_cell_X1_aliveWith : GoodIn wsX6_cell wsX1_aliveWith := goodIn_r _ [113, 42, 43, 131, 132, 133, 134, 135, 136] (by decide +kernel) (by decide +kernel)
set_option maxRecDepth 20000 in
theorem gX6_cell_X1_aliveWith : GoodIn wsX6_cell (wsV RX6 214 RX1 yX1_aliveWith wsX1_aliveWith) := goodIn_app (goodIn_of _ (by decide +kernel)) ggX6_cell_X1_aliveWith
theorem dX6_cell_0 : decode cX6_cell 0 = .ok (.aload_n 0, 1) := by decide +kernel
theorem dX6_cell_1 : decode cX6_cell 1 = .ok (.getfield 12, 3) := by decide +kernel
theorem dX6_cell_4 : decode cX6_cell 4 = .ok (.iload_n 1, 1) := by decide +kernel
theorem dX6_cell_5 : decode cX6_cell 5 = .ok (.invokevirtual 121, 3) := by decide +kernel
theorem dX6_cell_8 : decode cX6_cell 8 = .ok (.ifCond .ne 13, 3) := by decide +kernel
theorem dX6_cell_11 : decode cX6_cell 11 = .ok (.new 98, 3) := by decide +kernel
theorem dX6_cell_14 : decode cX6_cell 14 = .ok (.dup, 1) := by decide +kernel
theorem dX6_cell_15 : decode cX6_cell 15 = .ok (.ldc 124, 2) := by decide +kernel
theorem dX6_cell_17 : decode cX6_cell 17 = .ok (.invokespecial 102, 3) := by decide +kernel
theorem dX6_cell_20 : decode cX6_cell 20 = .ok (.athrow, 1) := by decide +kernel
theorem dX6_cell_21 : decode cX6_cell 21 = .ok (.iload_n 2, 1) := by decide +kernel
theorem dX6_cell_22 : decode cX6_cell 22 = .ok (.ifCond .lt 8, 3) := by decide +kernel
theorem dX6_cell_25 : decode cX6_cell 25 = .ok (.iload_n 2, 1) := by decide +kernel
theorem dX6_cell_26 : decode cX6_cell 26 = .ok (.iconst 4, 1) := by decide +kernel
theorem dX6_cell_27 : decode cX6_cell 27 = .ok (.if_icmp .lt 13, 3) := by decide +kernel
theorem dX6_cell_30 : decode cX6_cell 30 = .ok (.new 51, 3) := by decide +kernel
theorem dX6_cell_33 : decode cX6_cell 33 = .ok (.dup, 1) := by decide +kernel
theorem dX6_cell_34 : decode cX6_cell 34 = .ok (.ldc 206, 2) := by decide +kernel
theorem dX6_cell_36 : decode cX6_cell 36 = .ok (.invokespecial 55, 3) := by decide +kernel
theorem dX6_cell_39 : decode cX6_cell 39 = .ok (.athrow, 1) := by decide +kernel
theorem dX6_cell_40 : decode cX6_cell 40 = .ok (.iload_n 2, 1) := by decide +kernel
theorem dX6_cell_41 : decode cX6_cell 41 = .ok (.tableswitch 51 0 2 #[27, 36, 45], 27) := by decide +kernel
theorem dX6_cell_68 : decode cX6_cell 68 = .ok (.aload_n 0, 1) := by decide +kernel
theorem dX6_cell_69 : decode cX6_cell 69 = .ok (.getfield 12, 3) := by decide +kernel
theorem dX6_cell_72 : decode cX6_cell 72 = .ok (.iload_n 1, 1) := by decide +kernel
theorem dX6_cell_73 : decode cX6_cell 73 = .ok (.invokevirtual 208, 3) := by decide +kernel
theorem dX6_cell_76 : decode cX6_cell 76 = .ok (.ireturn, 1) := by decide +kernel
theorem dX6_cell_77 : decode cX6_cell 77 = .ok (.aload_n 0, 1) := by decide +kernel
theorem dX6_cell_78 : decode cX6_cell 78 = .ok (.getfield 12, 3) := by decide +kernel
theorem dX6_cell_81 : decode cX6_cell 81 = .ok (.iload_n 1, 1) := by decide +kernel
theorem dX6_cell_82 : decode cX6_cell 82 = .ok (.invokevirtual 211, 3) := by decide +kernel
theorem dX6_cell_85 : decode cX6_cell 85 = .ok (.ireturn, 1) := by decide +kernel
theorem dX6_cell_86 : decode cX6_cell 86 = .ok (.aload_n 0, 1) := by decide +kernel
theorem dX6_cell_87 : decode cX6_cell 87 = .ok (.iload_n 1, 1) := by decide +kernel
theorem dX6_cell_88 : decode cX6_cell 88 = .ok (.invokevirtual 134, 3) := by decide +kernel
theorem dX6_cell_91 : decode cX6_cell 91 = .ok (.ireturn, 1) := by decide +kernel
theorem dX6_cell_92 : decode cX6_cell 92 = .ok (.aload_n 0, 1) := by decide +kernel
theorem dX6_cell_93 : decode cX6_cell 93 = .ok (.getfield 12, 3) := by decide +kernel
theorem dX6_cell_96 : decode cX6_cell 96 = .ok (.getfield 66, 3) := by decide +kernel
theorem dX6_cell_99 : decode cX6_cell 99 = .ok (.iload_n 1, 1) := by decide +kernel
theorem dX6_cell_100 : decode cX6_cell 100 = .ok (.aload_n 0, 1) := by decide +kernel
theorem dX6_cell_101 : decode cX6_cell 101 = .ok (.getfield 12, 3) := by decide +kernel
theorem dX6_cell_104 : decode cX6_cell 104 = .ok (.getfield 113, 3) := by decide +kernel
theorem dX6_cell_107 : decode cX6_cell 107 = .ok (.invokevirtual 214, 3) := by decide +kernel
theorem dX6_cell_110 : decode cX6_cell 110 = .ok (.ireturn, 1) := by decide +kernel
set_option maxRecDepth 20000 in
theorem ggX6_reply_X6_isRule : GoodIn wsX6_reply wsX6_isRule := goodIn_r _ [7] (by decide +kernel) (by decide +kernel)
set_option maxRecDepth 20000 in
theorem gX6_reply_X6_isRule : GoodIn wsX6_reply (va_wsS RX6 153 yX6_isRule wsX6_isRule) := goodIn_app (goodIn_of _ (by decide +kernel)) ggX6_reply_X6_isRule
set_option maxRecDepth 20000 in
theorem ggX6_reply_X4_winner : GoodIn wsX6_reply wsX4_winner := goodIn_r _ [12, 13, 14, 15, 16, 17, 18, 19, 20, 21, 22, 23, 24, 25, 26, 27, 28, 29, 30, 31, 32, 33, 34, 139, 140, 141, 142, 143, 144, 145, 146, 147, 148, 149, 150, 151, 152, 153, 154] (by decide +kernel) (by decide +kernel)
set_option maxRecDepth 20000 in
theorem gX6_reply_X4_winner : GoodIn wsX6_reply (wsV RX6 126 RX4 yX4_winner wsX4_winner) := goodIn_app (goodIn_of _ (by decide +kernel)) ggX6_reply_X4_winner
set_option maxRecDepth 20000 in
theorem ggX6_reply_X6_cellBy : GoodIn wsX6_reply wsX6_cellBy := goodIn_r _ [38, 39, 40, 41, 42, 43, 11, 44, 14, 15, 45, 46, 47, 48, 49, 50, 51, 6, 52, 53, 54, 55, 56, 57, 58, 59, 60, 61, 62, 63, 64, 65, 66, 67, 68, 69, 70, 29, 30, 31, 32, 33, 34, 71, 72, 73, 74, 20, 75, 25, 26, 76, 77, 78, 79, 80, 81, 82, 83, 84, 85, 86, 87, 88, 89, 90, 91, 92, 93, 94, 95, 96, 18, 19, 21, 22, 23, 24, 27, 28, 97, 98, 99, 100, 101, 102, 103, 104, 105, 106, 107, 108, 109, 110, 111, 112, 113, 114, 115, 116, 117, 118, 119, 120, 121, 13, 122, 17, 123, 124, 125, 126, 127, 128, 129, 130, 131, 132, 133, 134, 135, 136, 137, 138, 139, 140, 141, 142, 143, 144, 145, 146, 147, 148, 155, 156, 157, 158, 159, 160, 149, 150, 151, 152, 153, 154] (by decide +kernel) (by decide +kernel)
set_option maxRecDepth 20000 in
theorem gX6_reply_X6_cellBy : GoodIn wsX6_reply (wsV RX6 220 RX6 yX6_cellBy wsX6_cellBy) := goodIn_app (goodIn_of _ (by decide +kernel)) ggX6_reply_X6_cellBy
theorem dX6_reply_0 : decode cX6_reply 0 = .ok (.iload_n 1, 1) := by decide +kernel
theorem dX6_reply_1 : decode cX6_reply 1 = .ok (.invokestatic 153, 3) := by decide +kernel
theorem dX6_reply_4 : decode cX6_reply 4 = .ok (.ifCond .ne 13, 3) := by decide +kernel
theorem dX6_reply_7 : decode cX6_reply 7 = .ok (.new 51, 3) := by decide +kernel
theorem dX6_reply_10 : decode cX6_reply 10 = .ok (.dup, 1) := by decide +kernel
theorem dX6_reply_11 : decode cX6_reply 11 = .ok (.ldc 218, 2) := by decide +kernel
theorem dX6_reply_13 : decode cX6_reply 13 = .ok (.invokespecial 55, 3) := by decide +kernel
theorem dX6_reply_16 : decode cX6_reply 16 = .ok (.athrow, 1) := by decide +kernel
theorem dX6_reply_17 : decode cX6_reply 17 = .ok (.aload_n 0, 1) := by decide +kernel
theorem dX6_reply_18 : decode cX6_reply 18 = .ok (.getfield 12, 3) := by decide +kernel
theorem dX6_reply_21 : decode cX6_reply 21 = .ok (.invokevirtual 126, 3) := by decide +kernel
theorem dX6_reply_24 : decode cX6_reply 24 = .ok (.ifCond .ne 15, 3) := by decide +kernel
theorem dX6_reply_27 : decode cX6_reply 27 = .ok (.aload_n 0, 1) := by decide +kernel
theorem dX6_reply_28 : decode cX6_reply 28 = .ok (.iload_n 1, 1) := by decide +kernel
theorem dX6_reply_29 : decode cX6_reply 29 = .ok (.aload_n 0, 1) := by decide +kernel
theorem dX6_reply_30 : decode cX6_reply 30 = .ok (.getfield 12, 3) := by decide +kernel
theorem dX6_reply_33 : decode cX6_reply 33 = .ok (.invokevirtual 220, 3) := by decide +kernel
theorem dX6_reply_36 : decode cX6_reply 36 = .ok (.goto 4, 3) := by decide +kernel
theorem dX6_reply_39 : decode cX6_reply 39 = .ok (.iconst (-1), 1) := by decide +kernel
theorem dX6_reply_40 : decode cX6_reply 40 = .ok (.ireturn, 1) := by decide +kernel
set_option maxRecDepth 20000 in
theorem ggX6_solved_X4_winner : GoodIn wsX6_solved wsX4_winner := goodIn_r _ [9, 10, 11, 12, 13, 14, 15, 16, 17, 18, 19, 20, 21, 22, 23, 24, 25, 26, 27, 28, 29, 30, 31, 110, 111, 112, 113, 114, 115, 116, 117, 118, 119, 120, 121, 122, 123, 124, 125] (by decide +kernel) (by decide +kernel)
set_option maxRecDepth 20000 in
theorem gX6_solved_X4_winner : GoodIn wsX6_solved (wsV RX6 126 RX4 yX4_winner wsX4_winner) := goodIn_app (goodIn_of _ (by decide +kernel)) ggX6_solved_X4_winner
set_option maxRecDepth 20000 in
theorem ggX6_solved_X3_lengthOf : GoodIn wsX6_solved wsX3_lengthOf := goodIn_r _ [36, 37, 38, 39, 40, 41, 42, 35, 43, 44, 45, 46, 47, 48, 49, 26, 27, 28, 29, 30, 31, 50, 51, 52, 8, 53, 54, 55, 56, 57, 17, 58, 22, 23, 59, 60, 61, 62, 63, 64, 65, 66, 67, 68, 69, 70, 71, 72, 73, 74, 75, 76, 77, 78, 15, 16, 18, 19, 20, 21, 24, 25, 79, 80, 81, 82, 83, 84, 85, 86, 87, 88, 89, 90, 91, 92, 93, 94, 95, 96, 110, 111, 112, 113, 114, 115, 116, 117, 118, 119, 126, 127, 128, 129, 130, 131, 120, 121, 122, 123, 124, 125] (by decide +kernel) (by decide +kernel)
set_option maxRecDepth 20000 in
theorem gX6_solved_X3_lengthOf : GoodIn wsX6_solved (wsV RX6 226 RX3 yX3_lengthOf wsX3_lengthOf) := goodIn_app (goodIn_of _ (by decide +kernel)) ggX6_solved_X3_lengthOf
set_option maxRecDepth 20000 in
theorem ggX6_solved_X4_freeCells : GoodIn wsX6_solved wsX4_freeCells := goodIn_r _ [100, 11, 12, 101, 51, 52, 8, 53, 54, 110, 111, 112, 113, 114, 115, 116, 117, 118, 119] (by decide +kernel) (by decide +kernel)
set_option maxRecDepth 20000 in
theorem gX6_solved_X4_freeCells : GoodIn wsX6_solved (wsV RX6 203 RX4 yX4_freeCells wsX4_freeCells) := goodIn_app (goodIn_of _ (by decide +kernel)) ggX6_solved_X4_freeCells
set_option maxRecDepth 20000 in
theorem ggX6_solved_J6_bitCount_0f7a4 : GoodIn wsX6_solved wsJ6_bitCount_0f7a4 := goodIn_r _ [28, 29, 30, 31] (by decide +kernel) (by decide +kernel)
set_option maxRecDepth 20000 in
theorem gX6_solved_J6_bitCount_0f7a4 : GoodIn wsX6_solved (va_wsS RX6 116 yJ6_bitCount_0f7a4 wsJ6_bitCount_0f7a4) := goodIn_app (goodIn_of _ (by decide +kernel)) ggX6_solved_J6_bitCount_0f7a4
theorem dX6_solved_0 : decode cX6_solved 0 = .ok (.iload_n 1, 1) := by decide +kernel
theorem dX6_solved_1 : decode cX6_solved 1 = .ok (.ifCond .lt 8, 3) := by decide +kernel
theorem dX6_solved_4 : decode cX6_solved 4 = .ok (.iload_n 1, 1) := by decide +kernel
theorem dX6_solved_5 : decode cX6_solved 5 = .ok (.iconst 2, 1) := by decide +kernel
theorem dX6_solved_6 : decode cX6_solved 6 = .ok (.if_icmp .lt 13, 3) := by decide +kernel
theorem dX6_solved_9 : decode cX6_solved 9 = .ok (.new 51, 3) := by decide +kernel
theorem dX6_solved_12 : decode cX6_solved 12 = .ok (.dup, 1) := by decide +kernel
theorem dX6_solved_13 : decode cX6_solved 13 = .ok (.ldc 224, 2) := by decide +kernel
theorem dX6_solved_15 : decode cX6_solved 15 = .ok (.invokespecial 55, 3) := by decide +kernel
theorem dX6_solved_18 : decode cX6_solved 18 = .ok (.athrow, 1) := by decide +kernel
theorem dX6_solved_19 : decode cX6_solved 19 = .ok (.aload_n 0, 1) := by decide +kernel
theorem dX6_solved_20 : decode cX6_solved 20 = .ok (.getfield 12, 3) := by decide +kernel
theorem dX6_solved_23 : decode cX6_solved 23 = .ok (.invokevirtual 126, 3) := by decide +kernel
theorem dX6_solved_26 : decode cX6_solved 26 = .ok (.istore_n 2, 1) := by decide +kernel
theorem dX6_solved_27 : decode cX6_solved 27 = .ok (.iload_n 2, 1) := by decide +kernel
theorem dX6_solved_28 : decode cX6_solved 28 = .ok (.ifCond .eq 13, 3) := by decide +kernel
theorem dX6_solved_31 : decode cX6_solved 31 = .ok (.iload_n 1, 1) := by decide +kernel
theorem dX6_solved_32 : decode cX6_solved 32 = .ok (.ifCond .ne 7, 3) := by decide +kernel
theorem dX6_solved_35 : decode cX6_solved 35 = .ok (.iload_n 2, 1) := by decide +kernel
theorem dX6_solved_36 : decode cX6_solved 36 = .ok (.goto 4, 3) := by decide +kernel
theorem dX6_solved_39 : decode cX6_solved 39 = .ok (.iconst 0, 1) := by decide +kernel
theorem dX6_solved_40 : decode cX6_solved 40 = .ok (.ireturn, 1) := by decide +kernel
theorem dX6_solved_41 : decode cX6_solved 41 = .ok (.aload_n 0, 1) := by decide +kernel
theorem dX6_solved_42 : decode cX6_solved 42 = .ok (.getfield 47, 3) := by decide +kernel
theorem dX6_solved_45 : decode cX6_solved 45 = .ok (.aload_n 0, 1) := by decide +kernel
theorem dX6_solved_46 : decode cX6_solved 46 = .ok (.getfield 12, 3) := by decide +kernel
theorem dX6_solved_49 : decode cX6_solved 49 = .ok (.invokevirtual 226, 3) := by decide +kernel
theorem dX6_solved_52 : decode cX6_solved 52 = .ok (.istore_n 3, 1) := by decide +kernel
theorem dX6_solved_53 : decode cX6_solved 53 = .ok (.iload_n 1, 1) := by decide +kernel
theorem dX6_solved_54 : decode cX6_solved 54 = .ok (.ifCond .ne 14, 3) := by decide +kernel
theorem dX6_solved_57 : decode cX6_solved 57 = .ok (.iload_n 3, 1) := by decide +kernel
theorem dX6_solved_58 : decode cX6_solved 58 = .ok (.iconst (-1), 1) := by decide +kernel
theorem dX6_solved_59 : decode cX6_solved 59 = .ok (.if_icmp .ne 7, 3) := by decide +kernel
theorem dX6_solved_62 : decode cX6_solved 62 = .ok (.iconst 2, 1) := by decide +kernel
theorem dX6_solved_63 : decode cX6_solved 63 = .ok (.goto 4, 3) := by decide +kernel
theorem dX6_solved_66 : decode cX6_solved 66 = .ok (.iconst 1, 1) := by decide +kernel
theorem dX6_solved_67 : decode cX6_solved 67 = .ok (.ireturn, 1) := by decide +kernel
theorem dX6_solved_68 : decode cX6_solved 68 = .ok (.iload_n 3, 1) := by decide +kernel
theorem dX6_solved_69 : decode cX6_solved 69 = .ok (.iconst (-1), 1) := by decide +kernel
theorem dX6_solved_70 : decode cX6_solved 70 = .ok (.if_icmp .ne 16, 3) := by decide +kernel
theorem dX6_solved_73 : decode cX6_solved 73 = .ok (.aload_n 0, 1) := by decide +kernel
theorem dX6_solved_74 : decode cX6_solved 74 = .ok (.getfield 12, 3) := by decide +kernel
theorem dX6_solved_77 : decode cX6_solved 77 = .ok (.invokevirtual 203, 3) := by decide +kernel
theorem dX6_solved_80 : decode cX6_solved 80 = .ok (.invokestatic 116, 3) := by decide +kernel
