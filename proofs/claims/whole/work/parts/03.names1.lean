theorem dX0_init_0 : decode cX0_init 0 = .ok (.aload_n 0, 1) := by decide +kernel
theorem dX0_init_1 : decode cX0_init 1 = .ok (.invokespecial 3, 3) := by decide +kernel
theorem dX0_init_4 : decode cX0_init 4 = .ok (.aload_n 0, 1) := by decide +kernel
theorem dX0_init_5 : decode cX0_init 5 = .ok (.bipush 6, 2) := by decide +kernel
theorem dX0_init_7 : decode cX0_init 7 = .ok (.anewarray 9, 3) := by decide +kernel
theorem dX0_init_10 : decode cX0_init 10 = .ok (.putfield 11, 3) := by decide +kernel
theorem dX0_init_13 : decode cX0_init 13 = .ok (.aload_n 0, 1) := by decide +kernel
theorem dX0_init_14 : decode cX0_init 14 = .ok (.iconst 0, 1) := by decide +kernel
theorem dX0_init_15 : decode cX0_init 15 = .ok (.putfield 17, 3) := by decide +kernel
theorem dX0_init_18 : decode cX0_init 18 = .ok (.return_, 1) := by decide +kernel
set_option maxRecDepth 20000 in
theorem ggX0_save_X0_dropOldest : GoodIn wsX0_save wsX0_dropOldest := goodIn_r _ [10, 2, 1, 51, 52] (by decide +kernel) (by decide +kernel)
set_option maxRecDepth 20000 in
theorem gX0_save_X0_dropOldest : GoodIn wsX0_save (wsV RX0 21 RX0 yX0_dropOldest wsX0_dropOldest) := goodIn_app (goodIn_of _ (by decide +kernel)) ggX0_save_X0_dropOldest
set_option maxRecDepth 20000 in
theorem ggX0_save_X4_init : GoodIn wsX0_save wsX4_init := goodIn_r _ [12, 13, 14, 15, 16, 17, 18, 19, 20, 21, 22, 23, 24, 25, 26, 27, 28, 29, 30, 31, 32, 33, 34, 35, 36, 37, 38, 63, 64, 65, 66, 67, 68, 53, 54, 55, 56, 57, 58, 59, 60, 61, 62] (by decide +kernel) (by decide +kernel)
set_option maxRecDepth 20000 in
theorem gX0_save_X4_init_n24 : GoodIn wsX0_save (wsX4_init) := ggX0_save_X4_init
set_option maxRecDepth 20000 in
theorem ggX0_save_X4_copyAll : GoodIn wsX0_save wsX4_copyAll := goodIn_r _ [42, 26, 27, 28, 43, 44, 45, 5, 46, 19, 20, 21, 22, 23, 24, 25, 47, 48, 49, 18, 50, 34, 33, 53, 54, 55, 56, 57, 58, 59, 60, 61, 62, 63, 64, 65, 66, 67, 68] (by decide +kernel) (by decide +kernel)
set_option maxRecDepth 20000 in
theorem gX0_save_X4_copyAll : GoodIn wsX0_save (wsV RX0 25 RX4 yX4_copyAll wsX4_copyAll) := goodIn_app (goodIn_of _ (by decide +kernel)) ggX0_save_X4_copyAll
theorem dX0_save_0 : decode cX0_save 0 = .ok (.aload_n 0, 1) := by decide +kernel
theorem dX0_save_1 : decode cX0_save 1 = .ok (.getfield 17, 3) := by decide +kernel
theorem dX0_save_4 : decode cX0_save 4 = .ok (.aload_n 0, 1) := by decide +kernel
theorem dX0_save_5 : decode cX0_save 5 = .ok (.getfield 11, 3) := by decide +kernel
theorem dX0_save_8 : decode cX0_save 8 = .ok (.arraylength, 1) := by decide +kernel
theorem dX0_save_9 : decode cX0_save 9 = .ok (.if_icmp .lt 7, 3) := by decide +kernel
theorem dX0_save_12 : decode cX0_save 12 = .ok (.aload_n 0, 1) := by decide +kernel
theorem dX0_save_13 : decode cX0_save 13 = .ok (.invokevirtual 21, 3) := by decide +kernel
theorem dX0_save_16 : decode cX0_save 16 = .ok (.aload_n 0, 1) := by decide +kernel
theorem dX0_save_17 : decode cX0_save 17 = .ok (.getfield 17, 3) := by decide +kernel
theorem dX0_save_20 : decode cX0_save 20 = .ok (.ifCond .lt 62, 3) := by decide +kernel
theorem dX0_save_23 : decode cX0_save 23 = .ok (.aload_n 0, 1) := by decide +kernel
theorem dX0_save_24 : decode cX0_save 24 = .ok (.getfield 17, 3) := by decide +kernel
theorem dX0_save_27 : decode cX0_save 27 = .ok (.aload_n 0, 1) := by decide +kernel
theorem dX0_save_28 : decode cX0_save 28 = .ok (.getfield 11, 3) := by decide +kernel
theorem dX0_save_31 : decode cX0_save 31 = .ok (.arraylength, 1) := by decide +kernel
theorem dX0_save_32 : decode cX0_save 32 = .ok (.if_icmp .ge 50, 3) := by decide +kernel
theorem dX0_save_35 : decode cX0_save 35 = .ok (.aload_n 0, 1) := by decide +kernel
theorem dX0_save_36 : decode cX0_save 36 = .ok (.getfield 11, 3) := by decide +kernel
theorem dX0_save_39 : decode cX0_save 39 = .ok (.aload_n 0, 1) := by decide +kernel
theorem dX0_save_40 : decode cX0_save 40 = .ok (.getfield 17, 3) := by decide +kernel
theorem dX0_save_43 : decode cX0_save 43 = .ok (.aaload, 1) := by decide +kernel
theorem dX0_save_44 : decode cX0_save 44 = .ok (.astore_n 2, 1) := by decide +kernel
theorem dX0_save_45 : decode cX0_save 45 = .ok (.aload_n 2, 1) := by decide +kernel
theorem dX0_save_46 : decode cX0_save 46 = .ok (.ifnonnull 21, 3) := by decide +kernel
theorem dX0_save_49 : decode cX0_save 49 = .ok (.new 9, 3) := by decide +kernel
theorem dX0_save_52 : decode cX0_save 52 = .ok (.dup, 1) := by decide +kernel
theorem dX0_save_53 : decode cX0_save 53 = .ok (.invokespecial 24, 3) := by decide +kernel
theorem dX0_save_56 : decode cX0_save 56 = .ok (.astore_n 2, 1) := by decide +kernel
theorem dX0_save_57 : decode cX0_save 57 = .ok (.aload_n 0, 1) := by decide +kernel
theorem dX0_save_58 : decode cX0_save 58 = .ok (.getfield 11, 3) := by decide +kernel
theorem dX0_save_61 : decode cX0_save 61 = .ok (.aload_n 0, 1) := by decide +kernel
theorem dX0_save_62 : decode cX0_save 62 = .ok (.getfield 17, 3) := by decide +kernel
theorem dX0_save_65 : decode cX0_save 65 = .ok (.aload_n 2, 1) := by decide +kernel
theorem dX0_save_66 : decode cX0_save 66 = .ok (.aastore, 1) := by decide +kernel
theorem dX0_save_67 : decode cX0_save 67 = .ok (.aload_n 2, 1) := by decide +kernel
theorem dX0_save_68 : decode cX0_save 68 = .ok (.aload_n 1, 1) := by decide +kernel
theorem dX0_save_69 : decode cX0_save 69 = .ok (.invokevirtual 25, 3) := by decide +kernel
theorem dX0_save_72 : decode cX0_save 72 = .ok (.aload_n 0, 1) := by decide +kernel
theorem dX0_save_73 : decode cX0_save 73 = .ok (.dup, 1) := by decide +kernel
theorem dX0_save_74 : decode cX0_save 74 = .ok (.getfield 17, 3) := by decide +kernel
theorem dX0_save_77 : decode cX0_save 77 = .ok (.iconst 1, 1) := by decide +kernel
theorem dX0_save_78 : decode cX0_save 78 = .ok (.iadd, 1) := by decide +kernel
theorem dX0_save_79 : decode cX0_save 79 = .ok (.putfield 17, 3) := by decide +kernel
theorem dX0_save_82 : decode cX0_save 82 = .ok (.return_, 1) := by decide +kernel
theorem dX0_dropOldest_0 : decode cX0_dropOldest 0 = .ok (.aload_n 0, 1) := by decide +kernel
theorem dX0_dropOldest_1 : decode cX0_dropOldest 1 = .ok (.getfield 11, 3) := by decide +kernel
theorem dX0_dropOldest_4 : decode cX0_dropOldest 4 = .ok (.arraylength, 1) := by decide +kernel
theorem dX0_dropOldest_5 : decode cX0_dropOldest 5 = .ok (.ifCond .le 65, 3) := by decide +kernel
theorem dX0_dropOldest_8 : decode cX0_dropOldest 8 = .ok (.aload_n 0, 1) := by decide +kernel
theorem dX0_dropOldest_9 : decode cX0_dropOldest 9 = .ok (.getfield 11, 3) := by decide +kernel
theorem dX0_dropOldest_12 : decode cX0_dropOldest 12 = .ok (.iconst 0, 1) := by decide +kernel
theorem dX0_dropOldest_13 : decode cX0_dropOldest 13 = .ok (.aaload, 1) := by decide +kernel
theorem dX0_dropOldest_14 : decode cX0_dropOldest 14 = .ok (.astore_n 1, 1) := by decide +kernel
theorem dX0_dropOldest_15 : decode cX0_dropOldest 15 = .ok (.iconst 1, 1) := by decide +kernel
theorem dX0_dropOldest_16 : decode cX0_dropOldest 16 = .ok (.istore_n 2, 1) := by decide +kernel
theorem dX0_dropOldest_17 : decode cX0_dropOldest 17 = .ok (.iload_n 2, 1) := by decide +kernel
theorem dX0_dropOldest_18 : decode cX0_dropOldest 18 = .ok (.aload_n 0, 1) := by decide +kernel
theorem dX0_dropOldest_19 : decode cX0_dropOldest 19 = .ok (.getfield 11, 3) := by decide +kernel
theorem dX0_dropOldest_22 : decode cX0_dropOldest 22 = .ok (.arraylength, 1) := by decide +kernel
theorem dX0_dropOldest_23 : decode cX0_dropOldest 23 = .ok (.if_icmp .ge 23, 3) := by decide +kernel
theorem dX0_dropOldest_26 : decode cX0_dropOldest 26 = .ok (.aload_n 0, 1) := by decide +kernel
theorem dX0_dropOldest_27 : decode cX0_dropOldest 27 = .ok (.getfield 11, 3) := by decide +kernel
theorem dX0_dropOldest_30 : decode cX0_dropOldest 30 = .ok (.iload_n 2, 1) := by decide +kernel
theorem dX0_dropOldest_31 : decode cX0_dropOldest 31 = .ok (.iconst 1, 1) := by decide +kernel
theorem dX0_dropOldest_32 : decode cX0_dropOldest 32 = .ok (.isub, 1) := by decide +kernel
theorem dX0_dropOldest_33 : decode cX0_dropOldest 33 = .ok (.aload_n 0, 1) := by decide +kernel
theorem dX0_dropOldest_34 : decode cX0_dropOldest 34 = .ok (.getfield 11, 3) := by decide +kernel
theorem dX0_dropOldest_37 : decode cX0_dropOldest 37 = .ok (.iload_n 2, 1) := by decide +kernel
theorem dX0_dropOldest_38 : decode cX0_dropOldest 38 = .ok (.aaload, 1) := by decide +kernel
theorem dX0_dropOldest_39 : decode cX0_dropOldest 39 = .ok (.aastore, 1) := by decide +kernel
theorem dX0_dropOldest_40 : decode cX0_dropOldest 40 = .ok (.iinc 2 1, 3) := by decide +kernel
theorem dX0_dropOldest_43 : decode cX0_dropOldest 43 = .ok (.goto (-26), 3) := by decide +kernel
theorem dX0_dropOldest_46 : decode cX0_dropOldest 46 = .ok (.aload_n 0, 1) := by decide +kernel
theorem dX0_dropOldest_47 : decode cX0_dropOldest 47 = .ok (.getfield 11, 3) := by decide +kernel
theorem dX0_dropOldest_50 : decode cX0_dropOldest 50 = .ok (.aload_n 0, 1) := by decide +kernel
theorem dX0_dropOldest_51 : decode cX0_dropOldest 51 = .ok (.getfield 11, 3) := by decide +kernel
theorem dX0_dropOldest_54 : decode cX0_dropOldest 54 = .ok (.arraylength, 1) := by decide +kernel
theorem dX0_dropOldest_55 : decode cX0_dropOldest 55 = .ok (.iconst 1, 1) := by decide +kernel
theorem dX0_dropOldest_56 : decode cX0_dropOldest 56 = .ok (.isub, 1) := by decide +kernel
theorem dX0_dropOldest_57 : decode cX0_dropOldest 57 = .ok (.aload_n 1, 1) := by decide +kernel
theorem dX0_dropOldest_58 : decode cX0_dropOldest 58 = .ok (.aastore, 1) := by decide +kernel
theorem dX0_dropOldest_59 : decode cX0_dropOldest 59 = .ok (.aload_n 0, 1) := by decide +kernel
theorem dX0_dropOldest_60 : decode cX0_dropOldest 60 = .ok (.aload_n 0, 1) := by decide +kernel
theorem dX0_dropOldest_61 : decode cX0_dropOldest 61 = .ok (.getfield 11, 3) := by decide +kernel
theorem dX0_dropOldest_64 : decode cX0_dropOldest 64 = .ok (.arraylength, 1) := by decide +kernel
theorem dX0_dropOldest_65 : decode cX0_dropOldest 65 = .ok (.iconst 1, 1) := by decide +kernel
theorem dX0_dropOldest_66 : decode cX0_dropOldest 66 = .ok (.isub, 1) := by decide +kernel
theorem dX0_dropOldest_67 : decode cX0_dropOldest 67 = .ok (.putfield 17, 3) := by decide +kernel
theorem dX0_dropOldest_70 : decode cX0_dropOldest 70 = .ok (.return_, 1) := by decide +kernel
set_option maxRecDepth 20000 in
theorem ggX0_goBack_X4_copyAll : GoodIn wsX0_goBack wsX4_copyAll := goodIn_r _ [7, 8, 9, 10, 11, 12, 13, 6, 14, 15, 16, 17, 18, 19, 20, 21, 22, 23, 24, 25, 26, 27, 28, 31, 32, 33, 34, 35, 36, 37, 38, 39, 40, 41, 42, 43, 44, 45, 46] (by decide +kernel) (by decide +kernel)
set_option maxRecDepth 20000 in
theorem gX0_goBack_X4_copyAll : GoodIn wsX0_goBack (wsV RX0 25 RX4 yX4_copyAll wsX4_copyAll) := goodIn_app (goodIn_of _ (by decide +kernel)) ggX0_goBack_X4_copyAll
theorem dX0_goBack_0 : decode cX0_goBack 0 = .ok (.aload_n 0, 1) := by decide +kernel
theorem dX0_goBack_1 : decode cX0_goBack 1 = .ok (.getfield 17, 3) := by decide +kernel
theorem dX0_goBack_4 : decode cX0_goBack 4 = .ok (.ifCond .le 44, 3) := by decide +kernel
theorem dX0_goBack_7 : decode cX0_goBack 7 = .ok (.aload_n 0, 1) := by decide +kernel
theorem dX0_goBack_8 : decode cX0_goBack 8 = .ok (.getfield 17, 3) := by decide +kernel
theorem dX0_goBack_11 : decode cX0_goBack 11 = .ok (.aload_n 0, 1) := by decide +kernel
theorem dX0_goBack_12 : decode cX0_goBack 12 = .ok (.getfield 11, 3) := by decide +kernel
theorem dX0_goBack_15 : decode cX0_goBack 15 = .ok (.arraylength, 1) := by decide +kernel
theorem dX0_goBack_16 : decode cX0_goBack 16 = .ok (.if_icmp .gt 32, 3) := by decide +kernel
theorem dX0_goBack_19 : decode cX0_goBack 19 = .ok (.aload_n 0, 1) := by decide +kernel
theorem dX0_goBack_20 : decode cX0_goBack 20 = .ok (.dup, 1) := by decide +kernel
theorem dX0_goBack_21 : decode cX0_goBack 21 = .ok (.getfield 17, 3) := by decide +kernel
theorem dX0_goBack_24 : decode cX0_goBack 24 = .ok (.iconst 1, 1) := by decide +kernel
theorem dX0_goBack_25 : decode cX0_goBack 25 = .ok (.isub, 1) := by decide +kernel
theorem dX0_goBack_26 : decode cX0_goBack 26 = .ok (.putfield 17, 3) := by decide +kernel
theorem dX0_goBack_29 : decode cX0_goBack 29 = .ok (.aload_n 0, 1) := by decide +kernel
theorem dX0_goBack_30 : decode cX0_goBack 30 = .ok (.getfield 11, 3) := by decide +kernel
theorem dX0_goBack_33 : decode cX0_goBack 33 = .ok (.aload_n 0, 1) := by decide +kernel
theorem dX0_goBack_34 : decode cX0_goBack 34 = .ok (.getfield 17, 3) := by decide +kernel
theorem dX0_goBack_37 : decode cX0_goBack 37 = .ok (.aaload, 1) := by decide +kernel
theorem dX0_goBack_38 : decode cX0_goBack 38 = .ok (.astore_n 2, 1) := by decide +kernel
theorem dX0_goBack_39 : decode cX0_goBack 39 = .ok (.aload_n 2, 1) := by decide +kernel
theorem dX0_goBack_40 : decode cX0_goBack 40 = .ok (.ifnull 8, 3) := by decide +kernel
theorem dX0_goBack_43 : decode cX0_goBack 43 = .ok (.aload_n 1, 1) := by decide +kernel
theorem dX0_goBack_44 : decode cX0_goBack 44 = .ok (.aload_n 2, 1) := by decide +kernel
theorem dX0_goBack_45 : decode cX0_goBack 45 = .ok (.invokevirtual 25, 3) := by decide +kernel
theorem dX0_goBack_48 : decode cX0_goBack 48 = .ok (.return_, 1) := by decide +kernel
theorem dX1_init_0 : decode cX1_init 0 = .ok (.aload_n 0, 1) := by decide +kernel
theorem dX1_init_1 : decode cX1_init 1 = .ok (.invokespecial 3, 3) := by decide +kernel
theorem dX1_init_4 : decode cX1_init 4 = .ok (.aload_n 0, 1) := by decide +kernel
theorem dX1_init_5 : decode cX1_init 5 = .ok (.bipush 12, 2) := by decide +kernel
theorem dX1_init_7 : decode cX1_init 7 = .ok (.newarray .int, 2) := by decide +kernel
theorem dX1_init_9 : decode cX1_init 9 = .ok (.putfield 9, 3) := by decide +kernel
theorem dX1_init_12 : decode cX1_init 12 = .ok (.aload_n 0, 1) := by decide +kernel
theorem dX1_init_13 : decode cX1_init 13 = .ok (.iconst 0, 1) := by decide +kernel
theorem dX1_init_14 : decode cX1_init 14 = .ok (.putfield 15, 3) := by decide +kernel
theorem dX1_init_17 : decode cX1_init 17 = .ok (.aload_n 0, 1) := by decide +kernel
theorem dX1_init_18 : decode cX1_init 18 = .ok (.iconst 2, 1) := by decide +kernel
theorem dX1_init_19 : decode cX1_init 19 = .ok (.putfield 19, 3) := by decide +kernel
theorem dX1_init_22 : decode cX1_init 22 = .ok (.aload_n 0, 1) := by decide +kernel
theorem dX1_init_23 : decode cX1_init 23 = .ok (.iconst 0, 1) := by decide +kernel
theorem dX1_init_24 : decode cX1_init 24 = .ok (.putfield 22, 3) := by decide +kernel
theorem dX1_init_27 : decode cX1_init 27 = .ok (.aload_n 0, 1) := by decide +kernel
theorem dX1_init_28 : decode cX1_init 28 = .ok (.iconst 0, 1) := by decide +kernel
theorem dX1_init_29 : decode cX1_init 29 = .ok (.putfield 25, 3) := by decide +kernel
theorem dX1_init_32 : decode cX1_init 32 = .ok (.aload_n 0, 1) := by decide +kernel
theorem dX1_init_33 : decode cX1_init 33 = .ok (.iconst 0, 1) := by decide +kernel
theorem dX1_init_34 : decode cX1_init 34 = .ok (.putfield 28, 3) := by decide +kernel
theorem dX1_init_37 : decode cX1_init 37 = .ok (.return_, 1) := by decide +kernel
theorem dX1_has_0 : decode cX1_has 0 = .ok (.iload_n 1, 1) := by decide +kernel
theorem dX1_has_1 : decode cX1_has 1 = .ok (.ifCond .lt 24, 3) := by decide +kernel
theorem dX1_has_4 : decode cX1_has 4 = .ok (.iload_n 1, 1) := by decide +kernel
theorem dX1_has_5 : decode cX1_has 5 = .ok (.aload_n 0, 1) := by decide +kernel
theorem dX1_has_6 : decode cX1_has 6 = .ok (.getfield 15, 3) := by decide +kernel
theorem dX1_has_9 : decode cX1_has 9 = .ok (.if_icmp .ge 16, 3) := by decide +kernel
theorem dX1_has_12 : decode cX1_has 12 = .ok (.iload_n 1, 1) := by decide +kernel
theorem dX1_has_13 : decode cX1_has 13 = .ok (.aload_n 0, 1) := by decide +kernel
theorem dX1_has_14 : decode cX1_has 14 = .ok (.getfield 9, 3) := by decide +kernel
theorem dX1_has_17 : decode cX1_has 17 = .ok (.arraylength, 1) := by decide +kernel
theorem dX1_has_18 : decode cX1_has 18 = .ok (.if_icmp .ge 7, 3) := by decide +kernel
theorem dX1_has_21 : decode cX1_has 21 = .ok (.iconst 1, 1) := by decide +kernel
theorem dX1_has_22 : decode cX1_has 22 = .ok (.goto 4, 3) := by decide +kernel
theorem dX1_has_25 : decode cX1_has 25 = .ok (.iconst 0, 1) := by decide +kernel
theorem dX1_has_26 : decode cX1_has 26 = .ok (.ireturn, 1) := by decide +kernel
theorem dX1_maskOf_0 : decode cX1_maskOf 0 = .ok (.iload_n 1, 1) := by decide +kernel
theorem dX1_maskOf_1 : decode cX1_maskOf 1 = .ok (.ifCond .lt 29, 3) := by decide +kernel
theorem dX1_maskOf_4 : decode cX1_maskOf 4 = .ok (.iload_n 1, 1) := by decide +kernel
theorem dX1_maskOf_5 : decode cX1_maskOf 5 = .ok (.aload_n 0, 1) := by decide +kernel
theorem dX1_maskOf_6 : decode cX1_maskOf 6 = .ok (.getfield 15, 3) := by decide +kernel
theorem dX1_maskOf_9 : decode cX1_maskOf 9 = .ok (.if_icmp .ge 21, 3) := by decide +kernel
theorem dX1_maskOf_12 : decode cX1_maskOf 12 = .ok (.iload_n 1, 1) := by decide +kernel
theorem dX1_maskOf_13 : decode cX1_maskOf 13 = .ok (.aload_n 0, 1) := by decide +kernel
theorem dX1_maskOf_14 : decode cX1_maskOf 14 = .ok (.getfield 9, 3) := by decide +kernel
theorem dX1_maskOf_17 : decode cX1_maskOf 17 = .ok (.arraylength, 1) := by decide +kernel
theorem dX1_maskOf_18 : decode cX1_maskOf 18 = .ok (.if_icmp .ge 12, 3) := by decide +kernel
theorem dX1_maskOf_21 : decode cX1_maskOf 21 = .ok (.aload_n 0, 1) := by decide +kernel
theorem dX1_maskOf_22 : decode cX1_maskOf 22 = .ok (.getfield 9, 3) := by decide +kernel
theorem dX1_maskOf_25 : decode cX1_maskOf 25 = .ok (.iload_n 1, 1) := by decide +kernel
theorem dX1_maskOf_26 : decode cX1_maskOf 26 = .ok (.iaload, 1) := by decide +kernel
theorem dX1_maskOf_27 : decode cX1_maskOf 27 = .ok (.goto 4, 3) := by decide +kernel
theorem dX1_maskOf_30 : decode cX1_maskOf 30 = .ok (.iconst 0, 1) := by decide +kernel
theorem dX1_maskOf_31 : decode cX1_maskOf 31 = .ok (.ireturn, 1) := by decide +kernel
theorem dX1_put_0 : decode cX1_put 0 = .ok (.aload_n 0, 1) := by decide +kernel
theorem dX1_put_1 : decode cX1_put 1 = .ok (.getfield 15, 3) := by decide +kernel
theorem dX1_put_4 : decode cX1_put 4 = .ok (.ifCond .lt 35, 3) := by decide +kernel
theorem dX1_put_7 : decode cX1_put 7 = .ok (.aload_n 0, 1) := by decide +kernel
theorem dX1_put_8 : decode cX1_put 8 = .ok (.getfield 15, 3) := by decide +kernel
theorem dX1_put_11 : decode cX1_put 11 = .ok (.aload_n 0, 1) := by decide +kernel
theorem dX1_put_12 : decode cX1_put 12 = .ok (.getfield 9, 3) := by decide +kernel
theorem dX1_put_15 : decode cX1_put 15 = .ok (.arraylength, 1) := by decide +kernel
theorem dX1_put_16 : decode cX1_put 16 = .ok (.if_icmp .ge 23, 3) := by decide +kernel
theorem dX1_put_19 : decode cX1_put 19 = .ok (.aload_n 0, 1) := by decide +kernel
theorem dX1_put_20 : decode cX1_put 20 = .ok (.getfield 9, 3) := by decide +kernel
theorem dX1_put_23 : decode cX1_put 23 = .ok (.aload_n 0, 1) := by decide +kernel
theorem dX1_put_24 : decode cX1_put 24 = .ok (.getfield 15, 3) := by decide +kernel
theorem dX1_put_27 : decode cX1_put 27 = .ok (.iload_n 1, 1) := by decide +kernel
theorem dX1_put_28 : decode cX1_put 28 = .ok (.iastore, 1) := by decide +kernel
theorem dX1_put_29 : decode cX1_put 29 = .ok (.aload_n 0, 1) := by decide +kernel
theorem dX1_put_30 : decode cX1_put 30 = .ok (.dup, 1) := by decide +kernel
theorem dX1_put_31 : decode cX1_put 31 = .ok (.getfield 15, 3) := by decide +kernel
theorem dX1_put_34 : decode cX1_put 34 = .ok (.iconst 1, 1) := by decide +kernel
theorem dX1_put_35 : decode cX1_put 35 = .ok (.iadd, 1) := by decide +kernel
theorem dX1_put_36 : decode cX1_put 36 = .ok (.putfield 15, 3) := by decide +kernel
theorem dX1_put_39 : decode cX1_put 39 = .ok (.return_, 1) := by decide +kernel
set_option maxRecDepth 20000 in
theorem ggX1_drop_X1_has : GoodIn wsX1_drop wsX1_has := goodIn_r _ [7, 1, 2, 8, 9, 10, 11, 12, 13] (by decide +kernel) (by decide +kernel)
set_option maxRecDepth 20000 in
theorem gX1_drop_X1_has : GoodIn wsX1_drop (wsV RX1 31 RX1 yX1_has wsX1_has) := goodIn_app (goodIn_of _ (by decide +kernel)) ggX1_drop_X1_has
theorem dX1_drop_0 : decode cX1_drop 0 = .ok (.aload_n 0, 1) := by decide +kernel
theorem dX1_drop_1 : decode cX1_drop 1 = .ok (.iload_n 1, 1) := by decide +kernel
theorem dX1_drop_2 : decode cX1_drop 2 = .ok (.invokevirtual 31, 3) := by decide +kernel
theorem dX1_drop_5 : decode cX1_drop 5 = .ok (.ifCond .eq 54, 3) := by decide +kernel
theorem dX1_drop_8 : decode cX1_drop 8 = .ok (.iload_n 1, 1) := by decide +kernel
theorem dX1_drop_9 : decode cX1_drop 9 = .ok (.iconst 1, 1) := by decide +kernel
theorem dX1_drop_10 : decode cX1_drop 10 = .ok (.iadd, 1) := by decide +kernel
theorem dX1_drop_11 : decode cX1_drop 11 = .ok (.istore_n 2, 1) := by decide +kernel
theorem dX1_drop_12 : decode cX1_drop 12 = .ok (.iload_n 2, 1) := by decide +kernel
theorem dX1_drop_13 : decode cX1_drop 13 = .ok (.aload_n 0, 1) := by decide +kernel
theorem dX1_drop_14 : decode cX1_drop 14 = .ok (.getfield 15, 3) := by decide +kernel
theorem dX1_drop_17 : decode cX1_drop 17 = .ok (.if_icmp .ge 32, 3) := by decide +kernel
theorem dX1_drop_20 : decode cX1_drop 20 = .ok (.iload_n 2, 1) := by decide +kernel
theorem dX1_drop_21 : decode cX1_drop 21 = .ok (.aload_n 0, 1) := by decide +kernel
theorem dX1_drop_22 : decode cX1_drop 22 = .ok (.getfield 9, 3) := by decide +kernel
theorem dX1_drop_25 : decode cX1_drop 25 = .ok (.arraylength, 1) := by decide +kernel
theorem dX1_drop_26 : decode cX1_drop 26 = .ok (.if_icmp .ge 23, 3) := by decide +kernel
theorem dX1_drop_29 : decode cX1_drop 29 = .ok (.aload_n 0, 1) := by decide +kernel
theorem dX1_drop_30 : decode cX1_drop 30 = .ok (.getfield 9, 3) := by decide +kernel
theorem dX1_drop_33 : decode cX1_drop 33 = .ok (.iload_n 2, 1) := by decide +kernel
theorem dX1_drop_34 : decode cX1_drop 34 = .ok (.iconst 1, 1) := by decide +kernel
theorem dX1_drop_35 : decode cX1_drop 35 = .ok (.isub, 1) := by decide +kernel
theorem dX1_drop_36 : decode cX1_drop 36 = .ok (.aload_n 0, 1) := by decide +kernel
theorem dX1_drop_37 : decode cX1_drop 37 = .ok (.getfield 9, 3) := by decide +kernel
theorem dX1_drop_40 : decode cX1_drop 40 = .ok (.iload_n 2, 1) := by decide +kernel
theorem dX1_drop_41 : decode cX1_drop 41 = .ok (.iaload, 1) := by decide +kernel
theorem dX1_drop_42 : decode cX1_drop 42 = .ok (.iastore, 1) := by decide +kernel
theorem dX1_drop_43 : decode cX1_drop 43 = .ok (.iinc 2 1, 3) := by decide +kernel
theorem dX1_drop_46 : decode cX1_drop 46 = .ok (.goto (-34), 3) := by decide +kernel
theorem dX1_drop_49 : decode cX1_drop 49 = .ok (.aload_n 0, 1) := by decide +kernel
theorem dX1_drop_50 : decode cX1_drop 50 = .ok (.dup, 1) := by decide +kernel
theorem dX1_drop_51 : decode cX1_drop 51 = .ok (.getfield 15, 3) := by decide +kernel
theorem dX1_drop_54 : decode cX1_drop 54 = .ok (.iconst 1, 1) := by decide +kernel
theorem dX1_drop_55 : decode cX1_drop 55 = .ok (.isub, 1) := by decide +kernel
theorem dX1_drop_56 : decode cX1_drop 56 = .ok (.putfield 15, 3) := by decide +kernel
theorem dX1_drop_59 : decode cX1_drop 59 = .ok (.return_, 1) := by decide +kernel
theorem dX1_copy_0 : decode cX1_copy 0 = .ok (.iconst 0, 1) := by decide +kernel
theorem dX1_copy_1 : decode cX1_copy 1 = .ok (.istore_n 2, 1) := by decide +kernel
theorem dX1_copy_2 : decode cX1_copy 2 = .ok (.iload_n 2, 1) := by decide +kernel
theorem dX1_copy_3 : decode cX1_copy 3 = .ok (.aload_n 1, 1) := by decide +kernel
theorem dX1_copy_4 : decode cX1_copy 4 = .ok (.getfield 15, 3) := by decide +kernel
theorem dX1_copy_7 : decode cX1_copy 7 = .ok (.if_icmp .ge 39, 3) := by decide +kernel
theorem dX1_copy_10 : decode cX1_copy 10 = .ok (.iload_n 2, 1) := by decide +kernel
theorem dX1_copy_11 : decode cX1_copy 11 = .ok (.aload_n 1, 1) := by decide +kernel
theorem dX1_copy_12 : decode cX1_copy 12 = .ok (.getfield 9, 3) := by decide +kernel
theorem dX1_copy_15 : decode cX1_copy 15 = .ok (.arraylength, 1) := by decide +kernel
theorem dX1_copy_16 : decode cX1_copy 16 = .ok (.if_icmp .ge 30, 3) := by decide +kernel
theorem dX1_copy_19 : decode cX1_copy 19 = .ok (.iload_n 2, 1) := by decide +kernel
theorem dX1_copy_20 : decode cX1_copy 20 = .ok (.aload_n 0, 1) := by decide +kernel
theorem dX1_copy_21 : decode cX1_copy 21 = .ok (.getfield 9, 3) := by decide +kernel
theorem dX1_copy_24 : decode cX1_copy 24 = .ok (.arraylength, 1) := by decide +kernel
theorem dX1_copy_25 : decode cX1_copy 25 = .ok (.if_icmp .ge 21, 3) := by decide +kernel
theorem dX1_copy_28 : decode cX1_copy 28 = .ok (.aload_n 0, 1) := by decide +kernel
theorem dX1_copy_29 : decode cX1_copy 29 = .ok (.getfield 9, 3) := by decide +kernel
theorem dX1_copy_32 : decode cX1_copy 32 = .ok (.iload_n 2, 1) := by decide +kernel
theorem dX1_copy_33 : decode cX1_copy 33 = .ok (.aload_n 1, 1) := by decide +kernel
theorem dX1_copy_34 : decode cX1_copy 34 = .ok (.getfield 9, 3) := by decide +kernel
theorem dX1_copy_37 : decode cX1_copy 37 = .ok (.iload_n 2, 1) := by decide +kernel
theorem dX1_copy_38 : decode cX1_copy 38 = .ok (.iaload, 1) := by decide +kernel
theorem dX1_copy_39 : decode cX1_copy 39 = .ok (.iastore, 1) := by decide +kernel
theorem dX1_copy_40 : decode cX1_copy 40 = .ok (.iinc 2 1, 3) := by decide +kernel
theorem dX1_copy_43 : decode cX1_copy 43 = .ok (.goto (-41), 3) := by decide +kernel
theorem dX1_copy_46 : decode cX1_copy 46 = .ok (.aload_n 0, 1) := by decide +kernel
theorem dX1_copy_47 : decode cX1_copy 47 = .ok (.aload_n 1, 1) := by decide +kernel
theorem dX1_copy_48 : decode cX1_copy 48 = .ok (.getfield 15, 3) := by decide +kernel
theorem dX1_copy_51 : decode cX1_copy 51 = .ok (.putfield 15, 3) := by decide +kernel
theorem dX1_copy_54 : decode cX1_copy 54 = .ok (.return_, 1) := by decide +kernel
theorem dX1_areSame_0 : decode cX1_areSame 0 = .ok (.aload_n 0, 1) := by decide +kernel
theorem dX1_areSame_1 : decode cX1_areSame 1 = .ok (.getfield 15, 3) := by decide +kernel
theorem dX1_areSame_4 : decode cX1_areSame 4 = .ok (.aload_n 1, 1) := by decide +kernel
theorem dX1_areSame_5 : decode cX1_areSame 5 = .ok (.getfield 15, 3) := by decide +kernel
theorem dX1_areSame_8 : decode cX1_areSame 8 = .ok (.if_icmp .eq 5, 3) := by decide +kernel
theorem dX1_areSame_11 : decode cX1_areSame 11 = .ok (.iconst 0, 1) := by decide +kernel
theorem dX1_areSame_12 : decode cX1_areSame 12 = .ok (.ireturn, 1) := by decide +kernel
theorem dX1_areSame_13 : decode cX1_areSame 13 = .ok (.iconst 0, 1) := by decide +kernel
theorem dX1_areSame_14 : decode cX1_areSame 14 = .ok (.istore_n 2, 1) := by decide +kernel
theorem dX1_areSame_15 : decode cX1_areSame 15 = .ok (.iload_n 2, 1) := by decide +kernel
theorem dX1_areSame_16 : decode cX1_areSame 16 = .ok (.aload_n 0, 1) := by decide +kernel
theorem dX1_areSame_17 : decode cX1_areSame 17 = .ok (.getfield 15, 3) := by decide +kernel
theorem dX1_areSame_20 : decode cX1_areSame 20 = .ok (.if_icmp .ge 44, 3) := by decide +kernel
theorem dX1_areSame_23 : decode cX1_areSame 23 = .ok (.iload_n 2, 1) := by decide +kernel
theorem dX1_areSame_24 : decode cX1_areSame 24 = .ok (.aload_n 0, 1) := by decide +kernel
theorem dX1_areSame_25 : decode cX1_areSame 25 = .ok (.getfield 9, 3) := by decide +kernel
theorem dX1_areSame_28 : decode cX1_areSame 28 = .ok (.arraylength, 1) := by decide +kernel
theorem dX1_areSame_29 : decode cX1_areSame 29 = .ok (.if_icmp .ge 35, 3) := by decide +kernel
theorem dX1_areSame_32 : decode cX1_areSame 32 = .ok (.iload_n 2, 1) := by decide +kernel
theorem dX1_areSame_33 : decode cX1_areSame 33 = .ok (.aload_n 1, 1) := by decide +kernel
theorem dX1_areSame_34 : decode cX1_areSame 34 = .ok (.getfield 9, 3) := by decide +kernel
theorem dX1_areSame_37 : decode cX1_areSame 37 = .ok (.arraylength, 1) := by decide +kernel
theorem dX1_areSame_38 : decode cX1_areSame 38 = .ok (.if_icmp .ge 26, 3) := by decide +kernel
theorem dX1_areSame_41 : decode cX1_areSame 41 = .ok (.aload_n 0, 1) := by decide +kernel
theorem dX1_areSame_42 : decode cX1_areSame 42 = .ok (.getfield 9, 3) := by decide +kernel
theorem dX1_areSame_45 : decode cX1_areSame 45 = .ok (.iload_n 2, 1) := by decide +kernel
theorem dX1_areSame_46 : decode cX1_areSame 46 = .ok (.iaload, 1) := by decide +kernel
theorem dX1_areSame_47 : decode cX1_areSame 47 = .ok (.aload_n 1, 1) := by decide +kernel
theorem dX1_areSame_48 : decode cX1_areSame 48 = .ok (.getfield 9, 3) := by decide +kernel
theorem dX1_areSame_51 : decode cX1_areSame 51 = .ok (.iload_n 2, 1) := by decide +kernel
theorem dX1_areSame_52 : decode cX1_areSame 52 = .ok (.iaload, 1) := by decide +kernel
theorem dX1_areSame_53 : decode cX1_areSame 53 = .ok (.if_icmp .eq 5, 3) := by decide +kernel
theorem dX1_areSame_56 : decode cX1_areSame 56 = .ok (.iconst 0, 1) := by decide +kernel
theorem dX1_areSame_57 : decode cX1_areSame 57 = .ok (.ireturn, 1) := by decide +kernel
theorem dX1_areSame_58 : decode cX1_areSame 58 = .ok (.iinc 2 1, 3) := by decide +kernel
theorem dX1_areSame_61 : decode cX1_areSame 61 = .ok (.goto (-46), 3) := by decide +kernel
theorem dX1_areSame_64 : decode cX1_areSame 64 = .ok (.iconst 1, 1) := by decide +kernel
theorem dX1_areSame_65 : decode cX1_areSame 65 = .ok (.ireturn, 1) := by decide +kernel
set_option maxRecDepth 20000 in
theorem ggX1_survey_J6_bitCount_0f7a4 : GoodIn wsX1_survey wsJ6_bitCount_0f7a4 := goodIn_r _ [10, 11, 12, 13] (by decide +kernel) (by decide +kernel)
set_option maxRecDepth 20000 in
theorem gX1_survey_J6_bitCount_0f7a4 : GoodIn wsX1_survey (va_wsS RX1 35 yJ6_bitCount_0f7a4 wsJ6_bitCount_0f7a4) := goodIn_app (goodIn_of _ (by decide +kernel)) ggX1_survey_J6_bitCount_0f7a4
theorem dX1_survey_0 : decode cX1_survey 0 = .ok (.iconst 0, 1) := by decide +kernel
theorem dX1_survey_1 : decode cX1_survey 1 = .ok (.istore_n 3, 1) := by decide +kernel
theorem dX1_survey_2 : decode cX1_survey 2 = .ok (.aload_n 0, 1) := by decide +kernel
theorem dX1_survey_3 : decode cX1_survey 3 = .ok (.iconst 0, 1) := by decide +kernel
theorem dX1_survey_4 : decode cX1_survey 4 = .ok (.putfield 22, 3) := by decide +kernel
theorem dX1_survey_7 : decode cX1_survey 7 = .ok (.aload_n 0, 1) := by decide +kernel
theorem dX1_survey_8 : decode cX1_survey 8 = .ok (.iconst 0, 1) := by decide +kernel
theorem dX1_survey_9 : decode cX1_survey 9 = .ok (.putfield 25, 3) := by decide +kernel
theorem dX1_survey_12 : decode cX1_survey 12 = .ok (.aload_n 0, 1) := by decide +kernel
theorem dX1_survey_13 : decode cX1_survey 13 = .ok (.iconst 0, 1) := by decide +kernel
theorem dX1_survey_14 : decode cX1_survey 14 = .ok (.putfield 28, 3) := by decide +kernel
theorem dX1_survey_17 : decode cX1_survey 17 = .ok (.iconst 0, 1) := by decide +kernel
theorem dX1_survey_18 : decode cX1_survey 18 = .ok (.istore 4, 2) := by decide +kernel
theorem dX1_survey_20 : decode cX1_survey 20 = .ok (.iload 4, 2) := by decide +kernel
theorem dX1_survey_22 : decode cX1_survey 22 = .ok (.aload_n 0, 1) := by decide +kernel
theorem dX1_survey_23 : decode cX1_survey 23 = .ok (.getfield 15, 3) := by decide +kernel
theorem dX1_survey_26 : decode cX1_survey 26 = .ok (.if_icmp .ge 112, 3) := by decide +kernel
theorem dX1_survey_29 : decode cX1_survey 29 = .ok (.iload 4, 2) := by decide +kernel
theorem dX1_survey_31 : decode cX1_survey 31 = .ok (.aload_n 0, 1) := by decide +kernel
theorem dX1_survey_32 : decode cX1_survey 32 = .ok (.getfield 9, 3) := by decide +kernel
theorem dX1_survey_35 : decode cX1_survey 35 = .ok (.arraylength, 1) := by decide +kernel
theorem dX1_survey_36 : decode cX1_survey 36 = .ok (.if_icmp .ge 102, 3) := by decide +kernel
theorem dX1_survey_39 : decode cX1_survey 39 = .ok (.aload_n 0, 1) := by decide +kernel
theorem dX1_survey_40 : decode cX1_survey 40 = .ok (.getfield 9, 3) := by decide +kernel
theorem dX1_survey_43 : decode cX1_survey 43 = .ok (.iload 4, 2) := by decide +kernel
theorem dX1_survey_45 : decode cX1_survey 45 = .ok (.iaload, 1) := by decide +kernel
theorem dX1_survey_46 : decode cX1_survey 46 = .ok (.iload_n 2, 1) := by decide +kernel
theorem dX1_survey_47 : decode cX1_survey 47 = .ok (.iand, 1) := by decide +kernel
theorem dX1_survey_48 : decode cX1_survey 48 = .ok (.ifCond .ne 84, 3) := by decide +kernel
theorem dX1_survey_51 : decode cX1_survey 51 = .ok (.aload_n 0, 1) := by decide +kernel
theorem dX1_survey_52 : decode cX1_survey 52 = .ok (.getfield 9, 3) := by decide +kernel
theorem dX1_survey_55 : decode cX1_survey 55 = .ok (.iload 4, 2) := by decide +kernel
theorem dX1_survey_57 : decode cX1_survey 57 = .ok (.iaload, 1) := by decide +kernel
theorem dX1_survey_58 : decode cX1_survey 58 = .ok (.iload_n 1, 1) := by decide +kernel
theorem dX1_survey_59 : decode cX1_survey 59 = .ok (.iconst (-1), 1) := by decide +kernel
theorem dX1_survey_60 : decode cX1_survey 60 = .ok (.ixor, 1) := by decide +kernel
theorem dX1_survey_61 : decode cX1_survey 61 = .ok (.iand, 1) := by decide +kernel
theorem dX1_survey_62 : decode cX1_survey 62 = .ok (.istore 5, 2) := by decide +kernel
theorem dX1_survey_64 : decode cX1_survey 64 = .ok (.iload 5, 2) := by decide +kernel
theorem dX1_survey_66 : decode cX1_survey 66 = .ok (.invokestatic 35, 3) := by decide +kernel
theorem dX1_survey_69 : decode cX1_survey 69 = .ok (.istore 6, 2) := by decide +kernel
theorem dX1_survey_71 : decode cX1_survey 71 = .ok (.aload_n 0, 1) := by decide +kernel
theorem dX1_survey_72 : decode cX1_survey 72 = .ok (.dup, 1) := by decide +kernel
theorem dX1_survey_73 : decode cX1_survey 73 = .ok (.getfield 22, 3) := by decide +kernel
theorem dX1_survey_76 : decode cX1_survey 76 = .ok (.iconst 1, 1) := by decide +kernel
theorem dX1_survey_77 : decode cX1_survey 77 = .ok (.iadd, 1) := by decide +kernel
theorem dX1_survey_78 : decode cX1_survey 78 = .ok (.putfield 22, 3) := by decide +kernel
theorem dX1_survey_81 : decode cX1_survey 81 = .ok (.aload_n 0, 1) := by decide +kernel
theorem dX1_survey_82 : decode cX1_survey 82 = .ok (.dup, 1) := by decide +kernel
theorem dX1_survey_83 : decode cX1_survey 83 = .ok (.getfield 25, 3) := by decide +kernel
theorem dX1_survey_86 : decode cX1_survey 86 = .ok (.sipush 1024, 3) := by decide +kernel
theorem dX1_survey_89 : decode cX1_survey 89 = .ok (.iload 6, 2) := by decide +kernel
theorem dX1_survey_91 : decode cX1_survey 91 = .ok (.ishr, 1) := by decide +kernel
theorem dX1_survey_92 : decode cX1_survey 92 = .ok (.iadd, 1) := by decide +kernel
theorem dX1_survey_93 : decode cX1_survey 93 = .ok (.putfield 25, 3) := by decide +kernel
theorem dX1_survey_96 : decode cX1_survey 96 = .ok (.iload_n 3, 1) := by decide +kernel
theorem dX1_survey_97 : decode cX1_survey 97 = .ok (.ifCond .ne 8, 3) := by decide +kernel
theorem dX1_survey_100 : decode cX1_survey 100 = .ok (.iload 6, 2) := by decide +kernel
theorem dX1_survey_102 : decode cX1_survey 102 = .ok (.ifCond .ne 7, 3) := by decide +kernel
theorem dX1_survey_105 : decode cX1_survey 105 = .ok (.iconst 1, 1) := by decide +kernel
theorem dX1_survey_106 : decode cX1_survey 106 = .ok (.goto 4, 3) := by decide +kernel
theorem dX1_survey_109 : decode cX1_survey 109 = .ok (.iconst 0, 1) := by decide +kernel
theorem dX1_survey_110 : decode cX1_survey 110 = .ok (.istore_n 3, 1) := by decide +kernel
theorem dX1_survey_111 : decode cX1_survey 111 = .ok (.aload_n 0, 1) := by decide +kernel
theorem dX1_survey_112 : decode cX1_survey 112 = .ok (.dup, 1) := by decide +kernel
theorem dX1_survey_113 : decode cX1_survey 113 = .ok (.getfield 28, 3) := by decide +kernel
theorem dX1_survey_116 : decode cX1_survey 116 = .ok (.iload 6, 2) := by decide +kernel
theorem dX1_survey_118 : decode cX1_survey 118 = .ok (.iconst 1, 1) := by decide +kernel
theorem dX1_survey_119 : decode cX1_survey 119 = .ok (.if_icmp .ne 8, 3) := by decide +kernel
theorem dX1_survey_122 : decode cX1_survey 122 = .ok (.iload 5, 2) := by decide +kernel
theorem dX1_survey_124 : decode cX1_survey 124 = .ok (.goto 4, 3) := by decide +kernel
theorem dX1_survey_127 : decode cX1_survey 127 = .ok (.iconst 0, 1) := by decide +kernel
theorem dX1_survey_128 : decode cX1_survey 128 = .ok (.ior, 1) := by decide +kernel
theorem dX1_survey_129 : decode cX1_survey 129 = .ok (.putfield 28, 3) := by decide +kernel
theorem dX1_survey_132 : decode cX1_survey 132 = .ok (.iinc 4 1, 3) := by decide +kernel
theorem dX1_survey_135 : decode cX1_survey 135 = .ok (.goto (-115), 3) := by decide +kernel
theorem dX1_survey_138 : decode cX1_survey 138 = .ok (.aload_n 0, 1) := by decide +kernel
theorem dX1_survey_139 : decode cX1_survey 139 = .ok (.aload_n 0, 1) := by decide +kernel
theorem dX1_survey_140 : decode cX1_survey 140 = .ok (.getfield 22, 3) := by decide +kernel
theorem dX1_survey_143 : decode cX1_survey 143 = .ok (.ifCond .ne 7, 3) := by decide +kernel
theorem dX1_survey_146 : decode cX1_survey 146 = .ok (.iconst 2, 1) := by decide +kernel
theorem dX1_survey_147 : decode cX1_survey 147 = .ok (.goto 4, 3) := by decide +kernel
theorem dX1_survey_150 : decode cX1_survey 150 = .ok (.iconst 0, 1) := by decide +kernel
theorem dX1_survey_151 : decode cX1_survey 151 = .ok (.putfield 19, 3) := by decide +kernel
theorem dX1_survey_154 : decode cX1_survey 154 = .ok (.aload_n 0, 1) := by decide +kernel
theorem dX1_survey_155 : decode cX1_survey 155 = .ok (.iload_n 3, 1) := by decide +kernel
theorem dX1_survey_156 : decode cX1_survey 156 = .ok (.ifCond .eq 7, 3) := by decide +kernel
theorem dX1_survey_159 : decode cX1_survey 159 = .ok (.iconst 1, 1) := by decide +kernel
theorem dX1_survey_160 : decode cX1_survey 160 = .ok (.goto 7, 3) := by decide +kernel
theorem dX1_survey_163 : decode cX1_survey 163 = .ok (.aload_n 0, 1) := by decide +kernel
theorem dX1_survey_164 : decode cX1_survey 164 = .ok (.getfield 19, 3) := by decide +kernel
theorem dX1_survey_167 : decode cX1_survey 167 = .ok (.putfield 19, 3) := by decide +kernel
theorem dX1_survey_170 : decode cX1_survey 170 = .ok (.return_, 1) := by decide +kernel
set_option maxRecDepth 20000 in
theorem ggX1_weightWith_J6_bitCount_0f7a4 : GoodIn wsX1_weightWith wsJ6_bitCount_0f7a4 := goodIn_r _ [6, 7, 8, 9] (by decide +kernel) (by decide +kernel)
set_option maxRecDepth 20000 in
theorem gX1_weightWith_J6_bitCount_0f7a4 : GoodIn wsX1_weightWith (va_wsS RX1 35 yJ6_bitCount_0f7a4 wsJ6_bitCount_0f7a4) := goodIn_app (goodIn_of _ (by decide +kernel)) ggX1_weightWith_J6_bitCount_0f7a4
theorem dX1_weightWith_0 : decode cX1_weightWith 0 = .ok (.iconst 0, 1) := by decide +kernel
theorem dX1_weightWith_1 : decode cX1_weightWith 1 = .ok (.istore 4, 2) := by decide +kernel
theorem dX1_weightWith_3 : decode cX1_weightWith 3 = .ok (.iconst 0, 1) := by decide +kernel
theorem dX1_weightWith_4 : decode cX1_weightWith 4 = .ok (.istore 5, 2) := by decide +kernel
theorem dX1_weightWith_6 : decode cX1_weightWith 6 = .ok (.iload 5, 2) := by decide +kernel
theorem dX1_weightWith_8 : decode cX1_weightWith 8 = .ok (.aload_n 0, 1) := by decide +kernel
theorem dX1_weightWith_9 : decode cX1_weightWith 9 = .ok (.getfield 15, 3) := by decide +kernel
theorem dX1_weightWith_12 : decode cX1_weightWith 12 = .ok (.if_icmp .ge 68, 3) := by decide +kernel
theorem dX1_weightWith_15 : decode cX1_weightWith 15 = .ok (.iload 5, 2) := by decide +kernel
theorem dX1_weightWith_17 : decode cX1_weightWith 17 = .ok (.aload_n 0, 1) := by decide +kernel
theorem dX1_weightWith_18 : decode cX1_weightWith 18 = .ok (.getfield 9, 3) := by decide +kernel
theorem dX1_weightWith_21 : decode cX1_weightWith 21 = .ok (.arraylength, 1) := by decide +kernel
theorem dX1_weightWith_22 : decode cX1_weightWith 22 = .ok (.if_icmp .ge 58, 3) := by decide +kernel
theorem dX1_weightWith_25 : decode cX1_weightWith 25 = .ok (.aload_n 0, 1) := by decide +kernel
theorem dX1_weightWith_26 : decode cX1_weightWith 26 = .ok (.getfield 9, 3) := by decide +kernel
theorem dX1_weightWith_29 : decode cX1_weightWith 29 = .ok (.iload 5, 2) := by decide +kernel
theorem dX1_weightWith_31 : decode cX1_weightWith 31 = .ok (.iaload, 1) := by decide +kernel
theorem dX1_weightWith_32 : decode cX1_weightWith 32 = .ok (.iconst 1, 1) := by decide +kernel
theorem dX1_weightWith_33 : decode cX1_weightWith 33 = .ok (.iload_n 1, 1) := by decide +kernel
theorem dX1_weightWith_34 : decode cX1_weightWith 34 = .ok (.ishl, 1) := by decide +kernel
theorem dX1_weightWith_35 : decode cX1_weightWith 35 = .ok (.iand, 1) := by decide +kernel
theorem dX1_weightWith_36 : decode cX1_weightWith 36 = .ok (.ifCond .eq 38, 3) := by decide +kernel
theorem dX1_weightWith_39 : decode cX1_weightWith 39 = .ok (.aload_n 0, 1) := by decide +kernel
theorem dX1_weightWith_40 : decode cX1_weightWith 40 = .ok (.getfield 9, 3) := by decide +kernel
theorem dX1_weightWith_43 : decode cX1_weightWith 43 = .ok (.iload 5, 2) := by decide +kernel
theorem dX1_weightWith_45 : decode cX1_weightWith 45 = .ok (.iaload, 1) := by decide +kernel
theorem dX1_weightWith_46 : decode cX1_weightWith 46 = .ok (.iload_n 3, 1) := by decide +kernel
theorem dX1_weightWith_47 : decode cX1_weightWith 47 = .ok (.iand, 1) := by decide +kernel
theorem dX1_weightWith_48 : decode cX1_weightWith 48 = .ok (.ifCond .ne 26, 3) := by decide +kernel
theorem dX1_weightWith_51 : decode cX1_weightWith 51 = .ok (.iload 4, 2) := by decide +kernel
theorem dX1_weightWith_53 : decode cX1_weightWith 53 = .ok (.sipush 1024, 3) := by decide +kernel
theorem dX1_weightWith_56 : decode cX1_weightWith 56 = .ok (.aload_n 0, 1) := by decide +kernel
theorem dX1_weightWith_57 : decode cX1_weightWith 57 = .ok (.getfield 9, 3) := by decide +kernel
theorem dX1_weightWith_60 : decode cX1_weightWith 60 = .ok (.iload 5, 2) := by decide +kernel
theorem dX1_weightWith_62 : decode cX1_weightWith 62 = .ok (.iaload, 1) := by decide +kernel
theorem dX1_weightWith_63 : decode cX1_weightWith 63 = .ok (.iload_n 2, 1) := by decide +kernel
theorem dX1_weightWith_64 : decode cX1_weightWith 64 = .ok (.iconst (-1), 1) := by decide +kernel
theorem dX1_weightWith_65 : decode cX1_weightWith 65 = .ok (.ixor, 1) := by decide +kernel
theorem dX1_weightWith_66 : decode cX1_weightWith 66 = .ok (.iand, 1) := by decide +kernel
theorem dX1_weightWith_67 : decode cX1_weightWith 67 = .ok (.invokestatic 35, 3) := by decide +kernel
theorem dX1_weightWith_70 : decode cX1_weightWith 70 = .ok (.ishr, 1) := by decide +kernel
theorem dX1_weightWith_71 : decode cX1_weightWith 71 = .ok (.iadd, 1) := by decide +kernel
theorem dX1_weightWith_72 : decode cX1_weightWith 72 = .ok (.istore 4, 2) := by decide +kernel
theorem dX1_weightWith_74 : decode cX1_weightWith 74 = .ok (.iinc 5 1, 3) := by decide +kernel
theorem dX1_weightWith_77 : decode cX1_weightWith 77 = .ok (.goto (-71), 3) := by decide +kernel
theorem dX1_weightWith_80 : decode cX1_weightWith 80 = .ok (.iload 4, 2) := by decide +kernel
theorem dX1_weightWith_82 : decode cX1_weightWith 82 = .ok (.ireturn, 1) := by decide +kernel
theorem dX1_aliveWith_0 : decode cX1_aliveWith 0 = .ok (.iconst 0, 1) := by decide +kernel
theorem dX1_aliveWith_1 : decode cX1_aliveWith 1 = .ok (.istore_n 3, 1) := by decide +kernel
theorem dX1_aliveWith_2 : decode cX1_aliveWith 2 = .ok (.iconst 0, 1) := by decide +kernel
theorem dX1_aliveWith_3 : decode cX1_aliveWith 3 = .ok (.istore 4, 2) := by decide +kernel
theorem dX1_aliveWith_5 : decode cX1_aliveWith 5 = .ok (.iload 4, 2) := by decide +kernel
theorem dX1_aliveWith_7 : decode cX1_aliveWith 7 = .ok (.aload_n 0, 1) := by decide +kernel
theorem dX1_aliveWith_8 : decode cX1_aliveWith 8 = .ok (.getfield 15, 3) := by decide +kernel
theorem dX1_aliveWith_11 : decode cX1_aliveWith 11 = .ok (.if_icmp .ge 48, 3) := by decide +kernel
theorem dX1_aliveWith_14 : decode cX1_aliveWith 14 = .ok (.iload 4, 2) := by decide +kernel
theorem dX1_aliveWith_16 : decode cX1_aliveWith 16 = .ok (.aload_n 0, 1) := by decide +kernel
theorem dX1_aliveWith_17 : decode cX1_aliveWith 17 = .ok (.getfield 9, 3) := by decide +kernel
theorem dX1_aliveWith_20 : decode cX1_aliveWith 20 = .ok (.arraylength, 1) := by decide +kernel
theorem dX1_aliveWith_21 : decode cX1_aliveWith 21 = .ok (.if_icmp .ge 38, 3) := by decide +kernel
theorem dX1_aliveWith_24 : decode cX1_aliveWith 24 = .ok (.aload_n 0, 1) := by decide +kernel
theorem dX1_aliveWith_25 : decode cX1_aliveWith 25 = .ok (.getfield 9, 3) := by decide +kernel
theorem dX1_aliveWith_28 : decode cX1_aliveWith 28 = .ok (.iload 4, 2) := by decide +kernel
theorem dX1_aliveWith_30 : decode cX1_aliveWith 30 = .ok (.iaload, 1) := by decide +kernel
theorem dX1_aliveWith_31 : decode cX1_aliveWith 31 = .ok (.iconst 1, 1) := by decide +kernel
theorem dX1_aliveWith_32 : decode cX1_aliveWith 32 = .ok (.iload_n 1, 1) := by decide +kernel
theorem dX1_aliveWith_33 : decode cX1_aliveWith 33 = .ok (.ishl, 1) := by decide +kernel
theorem dX1_aliveWith_34 : decode cX1_aliveWith 34 = .ok (.iand, 1) := by decide +kernel
theorem dX1_aliveWith_35 : decode cX1_aliveWith 35 = .ok (.ifCond .eq 18, 3) := by decide +kernel
theorem dX1_aliveWith_38 : decode cX1_aliveWith 38 = .ok (.aload_n 0, 1) := by decide +kernel
theorem dX1_aliveWith_39 : decode cX1_aliveWith 39 = .ok (.getfield 9, 3) := by decide +kernel
theorem dX1_aliveWith_42 : decode cX1_aliveWith 42 = .ok (.iload 4, 2) := by decide +kernel
theorem dX1_aliveWith_44 : decode cX1_aliveWith 44 = .ok (.iaload, 1) := by decide +kernel
theorem dX1_aliveWith_45 : decode cX1_aliveWith 45 = .ok (.iload_n 2, 1) := by decide +kernel
theorem dX1_aliveWith_46 : decode cX1_aliveWith 46 = .ok (.iand, 1) := by decide +kernel
theorem dX1_aliveWith_47 : decode cX1_aliveWith 47 = .ok (.ifCond .ne 6, 3) := by decide +kernel
theorem dX1_aliveWith_50 : decode cX1_aliveWith 50 = .ok (.iinc 3 1, 3) := by decide +kernel
theorem dX1_aliveWith_53 : decode cX1_aliveWith 53 = .ok (.iinc 4 1, 3) := by decide +kernel
theorem dX1_aliveWith_56 : decode cX1_aliveWith 56 = .ok (.goto (-51), 3) := by decide +kernel
theorem dX1_aliveWith_59 : decode cX1_aliveWith 59 = .ok (.iload_n 3, 1) := by decide +kernel
theorem dX1_aliveWith_60 : decode cX1_aliveWith 60 = .ok (.ireturn, 1) := by decide +kernel
set_option maxRecDepth 20000 in
theorem ggX2_init_X1_init : GoodIn wsX2_init wsX1_init := goodIn_r _ [15, 16, 2, 3, 10, 17, 18, 19, 20, 21, 22, 23, 24, 25, 26, 27, 28] (by decide +kernel) (by decide +kernel)
set_option maxRecDepth 20000 in
theorem gX2_init_X1_init_n11 : GoodIn wsX2_init (wsX1_init) := ggX2_init_X1_init
theorem dX2_init_0 : decode cX2_init 0 = .ok (.aload_n 0, 1) := by decide +kernel
theorem dX2_init_1 : decode cX2_init 1 = .ok (.invokespecial 3, 3) := by decide +kernel
theorem dX2_init_4 : decode cX2_init 4 = .ok (.aload_n 0, 1) := by decide +kernel
theorem dX2_init_5 : decode cX2_init 5 = .ok (.new 9, 3) := by decide +kernel
theorem dX2_init_8 : decode cX2_init 8 = .ok (.dup, 1) := by decide +kernel
theorem dX2_init_9 : decode cX2_init 9 = .ok (.invokespecial 11, 3) := by decide +kernel
theorem dX2_init_12 : decode cX2_init 12 = .ok (.putfield 12, 3) := by decide +kernel
theorem dX2_init_15 : decode cX2_init 15 = .ok (.aload_n 0, 1) := by decide +kernel
theorem dX2_init_16 : decode cX2_init 16 = .ok (.iconst 0, 1) := by decide +kernel
theorem dX2_init_17 : decode cX2_init 17 = .ok (.putfield 18, 3) := by decide +kernel
theorem dX2_init_20 : decode cX2_init 20 = .ok (.aload_n 0, 1) := by decide +kernel
theorem dX2_init_21 : decode cX2_init 21 = .ok (.iconst 0, 1) := by decide +kernel
theorem dX2_init_22 : decode cX2_init 22 = .ok (.putfield 22, 3) := by decide +kernel
theorem dX2_init_25 : decode cX2_init 25 = .ok (.aload_n 0, 1) := by decide +kernel
theorem dX2_init_26 : decode cX2_init 26 = .ok (.iconst 5, 1) := by decide +kernel
theorem dX2_init_27 : decode cX2_init 27 = .ok (.newarray .int, 2) := by decide +kernel
theorem dX2_init_29 : decode cX2_init 29 = .ok (.putfield 25, 3) := by decide +kernel
theorem dX2_init_32 : decode cX2_init 32 = .ok (.aload_n 0, 1) := by decide +kernel
theorem dX2_init_33 : decode cX2_init 33 = .ok (.iconst 0, 1) := by decide +kernel
theorem dX2_init_34 : decode cX2_init 34 = .ok (.putfield 29, 3) := by decide +kernel
theorem dX2_init_37 : decode cX2_init 37 = .ok (.aload_n 0, 1) := by decide +kernel
theorem dX2_init_38 : decode cX2_init 38 = .ok (.iconst 1, 1) := by decide +kernel
theorem dX2_init_39 : decode cX2_init 39 = .ok (.putfield 32, 3) := by decide +kernel
theorem dX2_init_42 : decode cX2_init 42 = .ok (.return_, 1) := by decide +kernel
set_option maxRecDepth 20000 in
theorem ggX2_lookAt_X1_areSame : GoodIn wsX2_lookAt wsX1_areSame := goodIn_r _ [13, 14, 15, 69, 70, 71, 72, 73, 74] (by decide +kernel) (by decide +kernel)
set_option maxRecDepth 20000 in
theorem gX2_lookAt_X1_areSame : GoodIn wsX2_lookAt (wsV RX2 41 RX1 yX1_areSame wsX1_areSame) := goodIn_app (goodIn_of _ (by decide +kernel)) ggX2_lookAt_X1_areSame
set_option maxRecDepth 20000 in
theorem ggX2_lookAt_X1_copy : GoodIn wsX2_lookAt wsX1_copy := goodIn_r _ [19, 14, 15, 69, 70, 71, 72, 73, 74] (by decide +kernel) (by decide +kernel)
set_option maxRecDepth 20000 in
theorem gX2_lookAt_X1_copy : GoodIn wsX2_lookAt (wsV RX2 45 RX1 yX1_copy wsX1_copy) := goodIn_app (goodIn_of _ (by decide +kernel)) ggX2_lookAt_X1_copy
set_option maxRecDepth 20000 in
theorem ggX2_lookAt_X2_pairFrom : GoodIn wsX2_lookAt wsX2_pairFrom := goodIn_r _ [24, 5, 25, 26, 27, 12, 28, 14, 15, 29, 30, 31, 32, 33, 34, 35, 23, 36, 7, 37, 3, 20, 21, 22, 38, 39, 40, 41, 42, 43, 44, 45, 46, 47, 48, 49, 50, 51, 52, 53, 54, 55, 56, 57, 58, 69, 70, 71, 72, 73, 74] (by decide +kernel) (by decide +kernel)
set_option maxRecDepth 20000 in
theorem gX2_lookAt_X2_pairFrom : GoodIn wsX2_lookAt (wsV RX2 49 RX2 yX2_pairFrom wsX2_pairFrom) := goodIn_app (goodIn_of _ (by decide +kernel)) ggX2_lookAt_X2_pairFrom
theorem dX2_lookAt_0 : decode cX2_lookAt 0 = .ok (.aload_n 0, 1) := by decide +kernel
theorem dX2_lookAt_1 : decode cX2_lookAt 1 = .ok (.getfield 18, 3) := by decide +kernel
theorem dX2_lookAt_4 : decode cX2_lookAt 4 = .ok (.aload_n 1, 1) := by decide +kernel
theorem dX2_lookAt_5 : decode cX2_lookAt 5 = .ok (.getfield 36, 3) := by decide +kernel
theorem dX2_lookAt_8 : decode cX2_lookAt 8 = .ok (.if_icmp .ne 28, 3) := by decide +kernel
theorem dX2_lookAt_11 : decode cX2_lookAt 11 = .ok (.aload_n 0, 1) := by decide +kernel
theorem dX2_lookAt_12 : decode cX2_lookAt 12 = .ok (.getfield 22, 3) := by decide +kernel
theorem dX2_lookAt_15 : decode cX2_lookAt 15 = .ok (.aload_n 1, 1) := by decide +kernel
theorem dX2_lookAt_16 : decode cX2_lookAt 16 = .ok (.getfield 39, 3) := by decide +kernel
theorem dX2_lookAt_19 : decode cX2_lookAt 19 = .ok (.if_icmp .ne 17, 3) := by decide +kernel
theorem dX2_lookAt_22 : decode cX2_lookAt 22 = .ok (.aload_n 0, 1) := by decide +kernel
theorem dX2_lookAt_23 : decode cX2_lookAt 23 = .ok (.getfield 12, 3) := by decide +kernel
theorem dX2_lookAt_26 : decode cX2_lookAt 26 = .ok (.aload_n 1, 1) := by decide +kernel
theorem dX2_lookAt_27 : decode cX2_lookAt 27 = .ok (.getfield 40, 3) := by decide +kernel
theorem dX2_lookAt_30 : decode cX2_lookAt 30 = .ok (.invokevirtual 41, 3) := by decide +kernel
theorem dX2_lookAt_33 : decode cX2_lookAt 33 = .ok (.ifCond .ne 53, 3) := by decide +kernel
theorem dX2_lookAt_36 : decode cX2_lookAt 36 = .ok (.aload_n 0, 1) := by decide +kernel
theorem dX2_lookAt_37 : decode cX2_lookAt 37 = .ok (.getfield 12, 3) := by decide +kernel
theorem dX2_lookAt_40 : decode cX2_lookAt 40 = .ok (.aload_n 1, 1) := by decide +kernel
theorem dX2_lookAt_41 : decode cX2_lookAt 41 = .ok (.getfield 40, 3) := by decide +kernel
theorem dX2_lookAt_44 : decode cX2_lookAt 44 = .ok (.invokevirtual 45, 3) := by decide +kernel
theorem dX2_lookAt_47 : decode cX2_lookAt 47 = .ok (.aload_n 0, 1) := by decide +kernel
theorem dX2_lookAt_48 : decode cX2_lookAt 48 = .ok (.aload_n 1, 1) := by decide +kernel
theorem dX2_lookAt_49 : decode cX2_lookAt 49 = .ok (.getfield 36, 3) := by decide +kernel
theorem dX2_lookAt_52 : decode cX2_lookAt 52 = .ok (.putfield 18, 3) := by decide +kernel
theorem dX2_lookAt_55 : decode cX2_lookAt 55 = .ok (.aload_n 0, 1) := by decide +kernel
theorem dX2_lookAt_56 : decode cX2_lookAt 56 = .ok (.aload_n 1, 1) := by decide +kernel
theorem dX2_lookAt_57 : decode cX2_lookAt 57 = .ok (.getfield 39, 3) := by decide +kernel
theorem dX2_lookAt_60 : decode cX2_lookAt 60 = .ok (.putfield 22, 3) := by decide +kernel
theorem dX2_lookAt_63 : decode cX2_lookAt 63 = .ok (.aload_n 0, 1) := by decide +kernel
theorem dX2_lookAt_64 : decode cX2_lookAt 64 = .ok (.iconst 0, 1) := by decide +kernel
theorem dX2_lookAt_65 : decode cX2_lookAt 65 = .ok (.putfield 29, 3) := by decide +kernel
theorem dX2_lookAt_68 : decode cX2_lookAt 68 = .ok (.aload_n 0, 1) := by decide +kernel
theorem dX2_lookAt_69 : decode cX2_lookAt 69 = .ok (.aload_n 0, 1) := by decide +kernel
theorem dX2_lookAt_70 : decode cX2_lookAt 70 = .ok (.iconst 0, 1) := by decide +kernel
theorem dX2_lookAt_71 : decode cX2_lookAt 71 = .ok (.aload_n 0, 1) := by decide +kernel
theorem dX2_lookAt_72 : decode cX2_lookAt 72 = .ok (.getfield 18, 3) := by decide +kernel
theorem dX2_lookAt_75 : decode cX2_lookAt 75 = .ok (.aload_n 0, 1) := by decide +kernel
theorem dX2_lookAt_76 : decode cX2_lookAt 76 = .ok (.getfield 22, 3) := by decide +kernel
theorem dX2_lookAt_79 : decode cX2_lookAt 79 = .ok (.ior, 1) := by decide +kernel
theorem dX2_lookAt_80 : decode cX2_lookAt 80 = .ok (.invokevirtual 49, 3) := by decide +kernel
theorem dX2_lookAt_83 : decode cX2_lookAt 83 = .ok (.putfield 32, 3) := by decide +kernel
theorem dX2_lookAt_86 : decode cX2_lookAt 86 = .ok (.return_, 1) := by decide +kernel
set_option maxRecDepth 20000 in
theorem ggX2_otherOf_X6_lowestOf : GoodIn wsX2_otherOf wsX6_lowestOf := goodIn_r _ [5] (by decide +kernel) (by decide +kernel)
set_option maxRecDepth 20000 in
theorem gX2_otherOf_X6_lowestOf_n53 : GoodIn wsX2_otherOf (wsX6_lowestOf) := ggX2_otherOf_X6_lowestOf
theorem dX2_otherOf_0 : decode cX2_otherOf 0 = .ok (.iconst 0, 1) := by decide +kernel
theorem dX2_otherOf_1 : decode cX2_otherOf 1 = .ok (.istore_n 2, 1) := by decide +kernel
theorem dX2_otherOf_2 : decode cX2_otherOf 2 = .ok (.iload_n 2, 1) := by decide +kernel
theorem dX2_otherOf_3 : decode cX2_otherOf 3 = .ok (.aload_n 0, 1) := by decide +kernel
theorem dX2_otherOf_4 : decode cX2_otherOf 4 = .ok (.getfield 29, 3) := by decide +kernel
theorem dX2_otherOf_7 : decode cX2_otherOf 7 = .ok (.if_icmp .ge 47, 3) := by decide +kernel
theorem dX2_otherOf_10 : decode cX2_otherOf 10 = .ok (.iload_n 2, 1) := by decide +kernel
theorem dX2_otherOf_11 : decode cX2_otherOf 11 = .ok (.aload_n 0, 1) := by decide +kernel
theorem dX2_otherOf_12 : decode cX2_otherOf 12 = .ok (.getfield 25, 3) := by decide +kernel
theorem dX2_otherOf_15 : decode cX2_otherOf 15 = .ok (.arraylength, 1) := by decide +kernel
theorem dX2_otherOf_16 : decode cX2_otherOf 16 = .ok (.if_icmp .ge 38, 3) := by decide +kernel
theorem dX2_otherOf_19 : decode cX2_otherOf 19 = .ok (.aload_n 0, 1) := by decide +kernel
theorem dX2_otherOf_20 : decode cX2_otherOf 20 = .ok (.getfield 25, 3) := by decide +kernel
theorem dX2_otherOf_23 : decode cX2_otherOf 23 = .ok (.iload_n 2, 1) := by decide +kernel
theorem dX2_otherOf_24 : decode cX2_otherOf 24 = .ok (.iaload, 1) := by decide +kernel
theorem dX2_otherOf_25 : decode cX2_otherOf 25 = .ok (.iconst 1, 1) := by decide +kernel
theorem dX2_otherOf_26 : decode cX2_otherOf 26 = .ok (.iload_n 1, 1) := by decide +kernel
theorem dX2_otherOf_27 : decode cX2_otherOf 27 = .ok (.ishl, 1) := by decide +kernel
theorem dX2_otherOf_28 : decode cX2_otherOf 28 = .ok (.iand, 1) := by decide +kernel
theorem dX2_otherOf_29 : decode cX2_otherOf 29 = .ok (.ifCond .eq 19, 3) := by decide +kernel
theorem dX2_otherOf_32 : decode cX2_otherOf 32 = .ok (.aload_n 0, 1) := by decide +kernel
theorem dX2_otherOf_33 : decode cX2_otherOf 33 = .ok (.getfield 25, 3) := by decide +kernel
theorem dX2_otherOf_36 : decode cX2_otherOf 36 = .ok (.iload_n 2, 1) := by decide +kernel
theorem dX2_otherOf_37 : decode cX2_otherOf 37 = .ok (.iaload, 1) := by decide +kernel
theorem dX2_otherOf_38 : decode cX2_otherOf 38 = .ok (.iconst 1, 1) := by decide +kernel
theorem dX2_otherOf_39 : decode cX2_otherOf 39 = .ok (.iload_n 1, 1) := by decide +kernel
theorem dX2_otherOf_40 : decode cX2_otherOf 40 = .ok (.ishl, 1) := by decide +kernel
theorem dX2_otherOf_41 : decode cX2_otherOf 41 = .ok (.iconst (-1), 1) := by decide +kernel
theorem dX2_otherOf_42 : decode cX2_otherOf 42 = .ok (.ixor, 1) := by decide +kernel
theorem dX2_otherOf_43 : decode cX2_otherOf 43 = .ok (.iand, 1) := by decide +kernel
theorem dX2_otherOf_44 : decode cX2_otherOf 44 = .ok (.invokestatic 53, 3) := by decide +kernel
theorem dX2_otherOf_47 : decode cX2_otherOf 47 = .ok (.ireturn, 1) := by decide +kernel
theorem dX2_otherOf_48 : decode cX2_otherOf 48 = .ok (.iinc 2 1, 3) := by decide +kernel
theorem dX2_otherOf_51 : decode cX2_otherOf 51 = .ok (.goto (-49), 3) := by decide +kernel
theorem dX2_otherOf_54 : decode cX2_otherOf 54 = .ok (.iconst (-1), 1) := by decide +kernel
theorem dX2_otherOf_55 : decode cX2_otherOf 55 = .ok (.ireturn, 1) := by decide +kernel
set_option maxRecDepth 20000 in
theorem ggX2_pairFrom_X1_has : GoodIn wsX2_pairFrom wsX1_has := goodIn_r _ [6, 7, 8, 45, 46, 47, 48, 49, 50] (by decide +kernel) (by decide +kernel)
set_option maxRecDepth 20000 in
theorem gX2_pairFrom_X1_has : GoodIn wsX2_pairFrom (wsV RX2 57 RX1 yX1_has wsX1_has) := goodIn_app (goodIn_of _ (by decide +kernel)) ggX2_pairFrom_X1_has
set_option maxRecDepth 20000 in
theorem ggX2_pairFrom_X1_maskOf : GoodIn wsX2_pairFrom wsX1_maskOf := goodIn_r _ [12, 7, 8, 45, 46, 47, 48, 49, 50] (by decide +kernel) (by decide +kernel)
set_option maxRecDepth 20000 in
theorem gX2_pairFrom_X1_maskOf : GoodIn wsX2_pairFrom (wsV RX2 61 RX1 yX1_maskOf wsX1_maskOf) := goodIn_app (goodIn_of _ (by decide +kernel)) ggX2_pairFrom_X1_maskOf
set_option maxRecDepth 20000 in
theorem ggX2_pairFrom_X2_needsPair : GoodIn wsX2_pairFrom wsX2_needsPair := goodIn_r _ [17, 18, 19, 20, 39, 40, 41, 42, 43, 44] (by decide +kernel) (by decide +kernel)
set_option maxRecDepth 20000 in
theorem gX2_pairFrom_X2_needsPair : GoodIn wsX2_pairFrom (wsV RX2 64 RX2 yX2_needsPair wsX2_needsPair) := goodIn_app (goodIn_of _ (by decide +kernel)) ggX2_pairFrom_X2_needsPair
set_option maxRecDepth 20000 in
theorem ggX2_pairFrom_X2_pairFrom : GoodIn wsX2_pairFrom wsX2_pairFrom := goodIn_r _ [0, 1, 2, 3, 4, 5, 6, 7, 8, 9, 10, 11, 12, 13, 14, 15, 16, 17, 18, 19, 20, 21, 22, 23, 24, 25, 26, 27, 28, 29, 30, 31, 32, 33, 34, 35, 36, 37, 38, 39, 40, 41, 42, 43, 44, 45, 46, 47, 48, 49, 50] (by decide +kernel) (by decide +kernel)
set_option maxRecDepth 20000 in
theorem gX2_pairFrom_X2_pairFrom : GoodIn wsX2_pairFrom (wsV RX2 49 RX2 yX2_pairFrom wsX2_pairFrom) := goodIn_app (goodIn_of _ (by decide +kernel)) ggX2_pairFrom_X2_pairFrom
set_option maxRecDepth 20000 in
theorem ggX2_pairFrom_X2_isHopeless : GoodIn wsX2_pairFrom wsX2_isHopeless := goodIn_r _ [27, 1, 9, 10, 11, 5, 12, 7, 8, 28, 29, 30, 31, 32, 33, 34, 13, 14, 15, 16, 17, 18, 19, 20, 39, 40, 41, 42, 43, 44, 45, 46, 47, 48, 49, 50] (by decide +kernel) (by decide +kernel)
set_option maxRecDepth 20000 in
theorem gX2_pairFrom_X2_isHopeless : GoodIn wsX2_pairFrom (wsV RX2 67 RX2 yX2_isHopeless wsX2_isHopeless) := goodIn_app (goodIn_of _ (by decide +kernel)) ggX2_pairFrom_X2_isHopeless
set_option maxRecDepth 20000 in
theorem ggX2_pairFrom_X2_pairBy : GoodIn wsX2_pairFrom wsX2_pairBy := goodIn_r _ [38, 18, 19, 21, 22, 23, 16, 0, 1, 2, 3, 4, 5, 6, 7, 8, 9, 10, 11, 12, 13, 14, 15, 17, 20, 24, 25, 26, 27, 28, 29, 30, 31, 32, 33, 34, 35, 36, 37, 39, 40, 41, 42, 43, 44, 45, 46, 47, 48, 49, 50] (by decide +kernel) (by decide +kernel)
set_option maxRecDepth 20000 in
theorem gX2_pairFrom_X2_pairBy : GoodIn wsX2_pairFrom (wsV RX2 70 RX2 yX2_pairBy wsX2_pairBy) := goodIn_app (goodIn_of _ (by decide +kernel)) ggX2_pairFrom_X2_pairBy
theorem dX2_pairFrom_0 : decode cX2_pairFrom 0 = .ok (.aload_n 0, 1) := by decide +kernel
theorem dX2_pairFrom_1 : decode cX2_pairFrom 1 = .ok (.getfield 12, 3) := by decide +kernel
theorem dX2_pairFrom_4 : decode cX2_pairFrom 4 = .ok (.iload_n 1, 1) := by decide +kernel
theorem dX2_pairFrom_5 : decode cX2_pairFrom 5 = .ok (.invokevirtual 57, 3) := by decide +kernel
theorem dX2_pairFrom_8 : decode cX2_pairFrom 8 = .ok (.ifCond .ne 5, 3) := by decide +kernel
theorem dX2_pairFrom_11 : decode cX2_pairFrom 11 = .ok (.iconst 1, 1) := by decide +kernel
theorem dX2_pairFrom_12 : decode cX2_pairFrom 12 = .ok (.ireturn, 1) := by decide +kernel
theorem dX2_pairFrom_13 : decode cX2_pairFrom 13 = .ok (.aload_n 0, 1) := by decide +kernel
theorem dX2_pairFrom_14 : decode cX2_pairFrom 14 = .ok (.getfield 12, 3) := by decide +kernel
theorem dX2_pairFrom_17 : decode cX2_pairFrom 17 = .ok (.iload_n 1, 1) := by decide +kernel
theorem dX2_pairFrom_18 : decode cX2_pairFrom 18 = .ok (.invokevirtual 61, 3) := by decide +kernel
theorem dX2_pairFrom_21 : decode cX2_pairFrom 21 = .ok (.istore_n 3, 1) := by decide +kernel
theorem dX2_pairFrom_22 : decode cX2_pairFrom 22 = .ok (.aload_n 0, 1) := by decide +kernel
theorem dX2_pairFrom_23 : decode cX2_pairFrom 23 = .ok (.iload_n 3, 1) := by decide +kernel
theorem dX2_pairFrom_24 : decode cX2_pairFrom 24 = .ok (.invokevirtual 64, 3) := by decide +kernel
theorem dX2_pairFrom_27 : decode cX2_pairFrom 27 = .ok (.ifCond .ne 12, 3) := by decide +kernel
theorem dX2_pairFrom_30 : decode cX2_pairFrom 30 = .ok (.aload_n 0, 1) := by decide +kernel
theorem dX2_pairFrom_31 : decode cX2_pairFrom 31 = .ok (.iload_n 1, 1) := by decide +kernel
theorem dX2_pairFrom_32 : decode cX2_pairFrom 32 = .ok (.iconst 1, 1) := by decide +kernel
theorem dX2_pairFrom_33 : decode cX2_pairFrom 33 = .ok (.iadd, 1) := by decide +kernel
theorem dX2_pairFrom_34 : decode cX2_pairFrom 34 = .ok (.iload_n 2, 1) := by decide +kernel
theorem dX2_pairFrom_35 : decode cX2_pairFrom 35 = .ok (.invokevirtual 49, 3) := by decide +kernel
theorem dX2_pairFrom_38 : decode cX2_pairFrom 38 = .ok (.ireturn, 1) := by decide +kernel
theorem dX2_pairFrom_39 : decode cX2_pairFrom 39 = .ok (.aload_n 0, 1) := by decide +kernel
theorem dX2_pairFrom_40 : decode cX2_pairFrom 40 = .ok (.iload_n 1, 1) := by decide +kernel
theorem dX2_pairFrom_41 : decode cX2_pairFrom 41 = .ok (.iload_n 2, 1) := by decide +kernel
theorem dX2_pairFrom_42 : decode cX2_pairFrom 42 = .ok (.invokevirtual 67, 3) := by decide +kernel
theorem dX2_pairFrom_45 : decode cX2_pairFrom 45 = .ok (.ifCond .eq 5, 3) := by decide +kernel
theorem dX2_pairFrom_48 : decode cX2_pairFrom 48 = .ok (.iconst 0, 1) := by decide +kernel
theorem dX2_pairFrom_49 : decode cX2_pairFrom 49 = .ok (.ireturn, 1) := by decide +kernel
theorem dX2_pairFrom_50 : decode cX2_pairFrom 50 = .ok (.iload_n 3, 1) := by decide +kernel
theorem dX2_pairFrom_51 : decode cX2_pairFrom 51 = .ok (.iload_n 2, 1) := by decide +kernel
theorem dX2_pairFrom_52 : decode cX2_pairFrom 52 = .ok (.iconst (-1), 1) := by decide +kernel
theorem dX2_pairFrom_53 : decode cX2_pairFrom 53 = .ok (.ixor, 1) := by decide +kernel
theorem dX2_pairFrom_54 : decode cX2_pairFrom 54 = .ok (.iand, 1) := by decide +kernel
theorem dX2_pairFrom_55 : decode cX2_pairFrom 55 = .ok (.istore 4, 2) := by decide +kernel
theorem dX2_pairFrom_57 : decode cX2_pairFrom 57 = .ok (.iconst 0, 1) := by decide +kernel
theorem dX2_pairFrom_58 : decode cX2_pairFrom 58 = .ok (.istore 5, 2) := by decide +kernel
theorem dX2_pairFrom_60 : decode cX2_pairFrom 60 = .ok (.iload 5, 2) := by decide +kernel
theorem dX2_pairFrom_62 : decode cX2_pairFrom 62 = .ok (.bipush 10, 2) := by decide +kernel
theorem dX2_pairFrom_64 : decode cX2_pairFrom 64 = .ok (.if_icmp .ge 62, 3) := by decide +kernel
theorem dX2_pairFrom_67 : decode cX2_pairFrom 67 = .ok (.iload 5, 2) := by decide +kernel
theorem dX2_pairFrom_69 : decode cX2_pairFrom 69 = .ok (.iconst 1, 1) := by decide +kernel
theorem dX2_pairFrom_70 : decode cX2_pairFrom 70 = .ok (.iadd, 1) := by decide +kernel
theorem dX2_pairFrom_71 : decode cX2_pairFrom 71 = .ok (.istore 6, 2) := by decide +kernel
theorem dX2_pairFrom_73 : decode cX2_pairFrom 73 = .ok (.iload 6, 2) := by decide +kernel
theorem dX2_pairFrom_75 : decode cX2_pairFrom 75 = .ok (.bipush 10, 2) := by decide +kernel
theorem dX2_pairFrom_77 : decode cX2_pairFrom 77 = .ok (.if_icmp .ge 43, 3) := by decide +kernel
theorem dX2_pairFrom_80 : decode cX2_pairFrom 80 = .ok (.iconst 1, 1) := by decide +kernel
theorem dX2_pairFrom_81 : decode cX2_pairFrom 81 = .ok (.iload 5, 2) := by decide +kernel
theorem dX2_pairFrom_83 : decode cX2_pairFrom 83 = .ok (.ishl, 1) := by decide +kernel
theorem dX2_pairFrom_84 : decode cX2_pairFrom 84 = .ok (.iconst 1, 1) := by decide +kernel
theorem dX2_pairFrom_85 : decode cX2_pairFrom 85 = .ok (.iload 6, 2) := by decide +kernel
theorem dX2_pairFrom_87 : decode cX2_pairFrom 87 = .ok (.ishl, 1) := by decide +kernel
theorem dX2_pairFrom_88 : decode cX2_pairFrom 88 = .ok (.ior, 1) := by decide +kernel
theorem dX2_pairFrom_89 : decode cX2_pairFrom 89 = .ok (.istore 7, 2) := by decide +kernel
theorem dX2_pairFrom_91 : decode cX2_pairFrom 91 = .ok (.iload 4, 2) := by decide +kernel
theorem dX2_pairFrom_93 : decode cX2_pairFrom 93 = .ok (.iload 7, 2) := by decide +kernel
theorem dX2_pairFrom_95 : decode cX2_pairFrom 95 = .ok (.iand, 1) := by decide +kernel
theorem dX2_pairFrom_96 : decode cX2_pairFrom 96 = .ok (.iload 7, 2) := by decide +kernel
theorem dX2_pairFrom_98 : decode cX2_pairFrom 98 = .ok (.if_icmp .ne 16, 3) := by decide +kernel
theorem dX2_pairFrom_101 : decode cX2_pairFrom 101 = .ok (.aload_n 0, 1) := by decide +kernel
theorem dX2_pairFrom_102 : decode cX2_pairFrom 102 = .ok (.iload 7, 2) := by decide +kernel
theorem dX2_pairFrom_104 : decode cX2_pairFrom 104 = .ok (.iload_n 1, 1) := by decide +kernel
theorem dX2_pairFrom_105 : decode cX2_pairFrom 105 = .ok (.iload_n 2, 1) := by decide +kernel
theorem dX2_pairFrom_106 : decode cX2_pairFrom 106 = .ok (.invokevirtual 70, 3) := by decide +kernel
theorem dX2_pairFrom_109 : decode cX2_pairFrom 109 = .ok (.ifCond .eq 5, 3) := by decide +kernel
theorem dX2_pairFrom_112 : decode cX2_pairFrom 112 = .ok (.iconst 1, 1) := by decide +kernel
theorem dX2_pairFrom_113 : decode cX2_pairFrom 113 = .ok (.ireturn, 1) := by decide +kernel
theorem dX2_pairFrom_114 : decode cX2_pairFrom 114 = .ok (.iinc 6 1, 3) := by decide +kernel
theorem dX2_pairFrom_117 : decode cX2_pairFrom 117 = .ok (.goto (-44), 3) := by decide +kernel
theorem dX2_pairFrom_120 : decode cX2_pairFrom 120 = .ok (.iinc 5 1, 3) := by decide +kernel
theorem dX2_pairFrom_123 : decode cX2_pairFrom 123 = .ok (.goto (-63), 3) := by decide +kernel
theorem dX2_pairFrom_126 : decode cX2_pairFrom 126 = .ok (.iconst 0, 1) := by decide +kernel
theorem dX2_pairFrom_127 : decode cX2_pairFrom 127 = .ok (.ireturn, 1) := by decide +kernel
set_option maxRecDepth 20000 in
theorem ggX2_pairBy_X2_pairFrom : GoodIn wsX2_pairBy wsX2_pairFrom := goodIn_r _ [7, 8, 9, 10, 11, 12, 13, 14, 15, 16, 17, 18, 19, 20, 21, 22, 6, 23, 1, 2, 24, 3, 4, 5, 25, 26, 27, 28, 29, 30, 31, 32, 33, 34, 35, 36, 37, 38, 0, 39, 40, 41, 42, 43, 44, 45, 46, 47, 48, 49, 50] (by decide +kernel) (by decide +kernel)
set_option maxRecDepth 20000 in
theorem gX2_pairBy_X2_pairFrom : GoodIn wsX2_pairBy (wsV RX2 49 RX2 yX2_pairFrom wsX2_pairFrom) := goodIn_app (goodIn_of _ (by decide +kernel)) ggX2_pairBy_X2_pairFrom
theorem dX2_pairBy_0 : decode cX2_pairBy 0 = .ok (.aload_n 0, 1) := by decide +kernel
theorem dX2_pairBy_1 : decode cX2_pairBy 1 = .ok (.getfield 29, 3) := by decide +kernel
theorem dX2_pairBy_4 : decode cX2_pairBy 4 = .ok (.ifCond .lt 15, 3) := by decide +kernel
theorem dX2_pairBy_7 : decode cX2_pairBy 7 = .ok (.aload_n 0, 1) := by decide +kernel
theorem dX2_pairBy_8 : decode cX2_pairBy 8 = .ok (.getfield 29, 3) := by decide +kernel
theorem dX2_pairBy_11 : decode cX2_pairBy 11 = .ok (.aload_n 0, 1) := by decide +kernel
theorem dX2_pairBy_12 : decode cX2_pairBy 12 = .ok (.getfield 25, 3) := by decide +kernel
theorem dX2_pairBy_15 : decode cX2_pairBy 15 = .ok (.arraylength, 1) := by decide +kernel
theorem dX2_pairBy_16 : decode cX2_pairBy 16 = .ok (.if_icmp .lt 5, 3) := by decide +kernel
theorem dX2_pairBy_19 : decode cX2_pairBy 19 = .ok (.iconst 0, 1) := by decide +kernel
theorem dX2_pairBy_20 : decode cX2_pairBy 20 = .ok (.ireturn, 1) := by decide +kernel
theorem dX2_pairBy_21 : decode cX2_pairBy 21 = .ok (.aload_n 0, 1) := by decide +kernel
theorem dX2_pairBy_22 : decode cX2_pairBy 22 = .ok (.getfield 25, 3) := by decide +kernel
theorem dX2_pairBy_25 : decode cX2_pairBy 25 = .ok (.aload_n 0, 1) := by decide +kernel
theorem dX2_pairBy_26 : decode cX2_pairBy 26 = .ok (.getfield 29, 3) := by decide +kernel
theorem dX2_pairBy_29 : decode cX2_pairBy 29 = .ok (.iload_n 1, 1) := by decide +kernel
theorem dX2_pairBy_30 : decode cX2_pairBy 30 = .ok (.iastore, 1) := by decide +kernel
theorem dX2_pairBy_31 : decode cX2_pairBy 31 = .ok (.aload_n 0, 1) := by decide +kernel
theorem dX2_pairBy_32 : decode cX2_pairBy 32 = .ok (.dup, 1) := by decide +kernel
theorem dX2_pairBy_33 : decode cX2_pairBy 33 = .ok (.getfield 29, 3) := by decide +kernel
theorem dX2_pairBy_36 : decode cX2_pairBy 36 = .ok (.iconst 1, 1) := by decide +kernel
theorem dX2_pairBy_37 : decode cX2_pairBy 37 = .ok (.iadd, 1) := by decide +kernel
theorem dX2_pairBy_38 : decode cX2_pairBy 38 = .ok (.putfield 29, 3) := by decide +kernel
theorem dX2_pairBy_41 : decode cX2_pairBy 41 = .ok (.aload_n 0, 1) := by decide +kernel
theorem dX2_pairBy_42 : decode cX2_pairBy 42 = .ok (.iload_n 2, 1) := by decide +kernel
theorem dX2_pairBy_43 : decode cX2_pairBy 43 = .ok (.iconst 1, 1) := by decide +kernel
theorem dX2_pairBy_44 : decode cX2_pairBy 44 = .ok (.iadd, 1) := by decide +kernel
theorem dX2_pairBy_45 : decode cX2_pairBy 45 = .ok (.iload_n 3, 1) := by decide +kernel
theorem dX2_pairBy_46 : decode cX2_pairBy 46 = .ok (.iload_n 1, 1) := by decide +kernel
theorem dX2_pairBy_47 : decode cX2_pairBy 47 = .ok (.ior, 1) := by decide +kernel
theorem dX2_pairBy_48 : decode cX2_pairBy 48 = .ok (.invokevirtual 49, 3) := by decide +kernel
theorem dX2_pairBy_51 : decode cX2_pairBy 51 = .ok (.ifCond .eq 5, 3) := by decide +kernel
theorem dX2_pairBy_54 : decode cX2_pairBy 54 = .ok (.iconst 1, 1) := by decide +kernel
theorem dX2_pairBy_55 : decode cX2_pairBy 55 = .ok (.ireturn, 1) := by decide +kernel
theorem dX2_pairBy_56 : decode cX2_pairBy 56 = .ok (.aload_n 0, 1) := by decide +kernel
theorem dX2_pairBy_57 : decode cX2_pairBy 57 = .ok (.dup, 1) := by decide +kernel
theorem dX2_pairBy_58 : decode cX2_pairBy 58 = .ok (.getfield 29, 3) := by decide +kernel
theorem dX2_pairBy_61 : decode cX2_pairBy 61 = .ok (.iconst 1, 1) := by decide +kernel
theorem dX2_pairBy_62 : decode cX2_pairBy 62 = .ok (.isub, 1) := by decide +kernel
theorem dX2_pairBy_63 : decode cX2_pairBy 63 = .ok (.putfield 29, 3) := by decide +kernel
theorem dX2_pairBy_66 : decode cX2_pairBy 66 = .ok (.iconst 0, 1) := by decide +kernel
theorem dX2_pairBy_67 : decode cX2_pairBy 67 = .ok (.ireturn, 1) := by decide +kernel
theorem dX2_needsPair_0 : decode cX2_needsPair 0 = .ok (.iconst 0, 1) := by decide +kernel
theorem dX2_needsPair_1 : decode cX2_needsPair 1 = .ok (.istore_n 2, 1) := by decide +kernel
theorem dX2_needsPair_2 : decode cX2_needsPair 2 = .ok (.iload_n 2, 1) := by decide +kernel
theorem dX2_needsPair_3 : decode cX2_needsPair 3 = .ok (.aload_n 0, 1) := by decide +kernel
theorem dX2_needsPair_4 : decode cX2_needsPair 4 = .ok (.getfield 29, 3) := by decide +kernel
theorem dX2_needsPair_7 : decode cX2_needsPair 7 = .ok (.if_icmp .ge 33, 3) := by decide +kernel
theorem dX2_needsPair_10 : decode cX2_needsPair 10 = .ok (.iload_n 2, 1) := by decide +kernel
theorem dX2_needsPair_11 : decode cX2_needsPair 11 = .ok (.aload_n 0, 1) := by decide +kernel
theorem dX2_needsPair_12 : decode cX2_needsPair 12 = .ok (.getfield 25, 3) := by decide +kernel
theorem dX2_needsPair_15 : decode cX2_needsPair 15 = .ok (.arraylength, 1) := by decide +kernel
theorem dX2_needsPair_16 : decode cX2_needsPair 16 = .ok (.if_icmp .ge 24, 3) := by decide +kernel
theorem dX2_needsPair_19 : decode cX2_needsPair 19 = .ok (.aload_n 0, 1) := by decide +kernel
theorem dX2_needsPair_20 : decode cX2_needsPair 20 = .ok (.getfield 25, 3) := by decide +kernel
theorem dX2_needsPair_23 : decode cX2_needsPair 23 = .ok (.iload_n 2, 1) := by decide +kernel
theorem dX2_needsPair_24 : decode cX2_needsPair 24 = .ok (.iaload, 1) := by decide +kernel
theorem dX2_needsPair_25 : decode cX2_needsPair 25 = .ok (.iload_n 1, 1) := by decide +kernel
theorem dX2_needsPair_26 : decode cX2_needsPair 26 = .ok (.iconst (-1), 1) := by decide +kernel
theorem dX2_needsPair_27 : decode cX2_needsPair 27 = .ok (.ixor, 1) := by decide +kernel
theorem dX2_needsPair_28 : decode cX2_needsPair 28 = .ok (.iand, 1) := by decide +kernel
theorem dX2_needsPair_29 : decode cX2_needsPair 29 = .ok (.ifCond .ne 5, 3) := by decide +kernel
theorem dX2_needsPair_32 : decode cX2_needsPair 32 = .ok (.iconst 0, 1) := by decide +kernel
theorem dX2_needsPair_33 : decode cX2_needsPair 33 = .ok (.ireturn, 1) := by decide +kernel
theorem dX2_needsPair_34 : decode cX2_needsPair 34 = .ok (.iinc 2 1, 3) := by decide +kernel
theorem dX2_needsPair_37 : decode cX2_needsPair 37 = .ok (.goto (-35), 3) := by decide +kernel
theorem dX2_needsPair_40 : decode cX2_needsPair 40 = .ok (.iload_n 1, 1) := by decide +kernel
theorem dX2_needsPair_41 : decode cX2_needsPair 41 = .ok (.aload_n 0, 1) := by decide +kernel
theorem dX2_needsPair_42 : decode cX2_needsPair 42 = .ok (.getfield 22, 3) := by decide +kernel
theorem dX2_needsPair_45 : decode cX2_needsPair 45 = .ok (.iand, 1) := by decide +kernel
theorem dX2_needsPair_46 : decode cX2_needsPair 46 = .ok (.ifCond .ne 7, 3) := by decide +kernel
theorem dX2_needsPair_49 : decode cX2_needsPair 49 = .ok (.iconst 1, 1) := by decide +kernel
theorem dX2_needsPair_50 : decode cX2_needsPair 50 = .ok (.goto 4, 3) := by decide +kernel
theorem dX2_needsPair_53 : decode cX2_needsPair 53 = .ok (.iconst 0, 1) := by decide +kernel
theorem dX2_needsPair_54 : decode cX2_needsPair 54 = .ok (.ireturn, 1) := by decide +kernel
set_option maxRecDepth 20000 in
theorem ggX2_isHopeless_X1_maskOf : GoodIn wsX2_isHopeless wsX1_maskOf := goodIn_r _ [6, 7, 8, 30, 31, 32, 33, 34, 35] (by decide +kernel) (by decide +kernel)
set_option maxRecDepth 20000 in
theorem gX2_isHopeless_X1_maskOf : GoodIn wsX2_isHopeless (wsV RX2 61 RX1 yX1_maskOf wsX1_maskOf) := goodIn_app (goodIn_of _ (by decide +kernel)) ggX2_isHopeless_X1_maskOf
set_option maxRecDepth 20000 in
theorem ggX2_isHopeless_J6_bitCount_0f7a4 : GoodIn wsX2_isHopeless wsJ6_bitCount_0f7a4 := goodIn_r _ [12, 13, 14, 15] (by decide +kernel) (by decide +kernel)
set_option maxRecDepth 20000 in
theorem gX2_isHopeless_J6_bitCount_0f7a4 : GoodIn wsX2_isHopeless (va_wsS RX2 74 yJ6_bitCount_0f7a4 wsJ6_bitCount_0f7a4) := goodIn_app (goodIn_of _ (by decide +kernel)) ggX2_isHopeless_J6_bitCount_0f7a4
set_option maxRecDepth 20000 in
theorem ggX2_isHopeless_X2_needsPair : GoodIn wsX2_isHopeless wsX2_needsPair := goodIn_r _ [20, 21, 22, 23, 24, 25, 26, 27, 28, 29] (by decide +kernel) (by decide +kernel)
set_option maxRecDepth 20000 in
theorem gX2_isHopeless_X2_needsPair : GoodIn wsX2_isHopeless (wsV RX2 64 RX2 yX2_needsPair wsX2_needsPair) := goodIn_app (goodIn_of _ (by decide +kernel)) ggX2_isHopeless_X2_needsPair
theorem dX2_isHopeless_0 : decode cX2_isHopeless 0 = .ok (.iload_n 1, 1) := by decide +kernel
theorem dX2_isHopeless_1 : decode cX2_isHopeless 1 = .ok (.istore_n 3, 1) := by decide +kernel
theorem dX2_isHopeless_2 : decode cX2_isHopeless 2 = .ok (.iload_n 3, 1) := by decide +kernel
theorem dX2_isHopeless_3 : decode cX2_isHopeless 3 = .ok (.bipush 12, 2) := by decide +kernel
theorem dX2_isHopeless_5 : decode cX2_isHopeless 5 = .ok (.if_icmp .ge 48, 3) := by decide +kernel
theorem dX2_isHopeless_8 : decode cX2_isHopeless 8 = .ok (.aload_n 0, 1) := by decide +kernel
theorem dX2_isHopeless_9 : decode cX2_isHopeless 9 = .ok (.getfield 12, 3) := by decide +kernel
theorem dX2_isHopeless_12 : decode cX2_isHopeless 12 = .ok (.iload_n 3, 1) := by decide +kernel
theorem dX2_isHopeless_13 : decode cX2_isHopeless 13 = .ok (.invokevirtual 61, 3) := by decide +kernel
theorem dX2_isHopeless_16 : decode cX2_isHopeless 16 = .ok (.istore 4, 2) := by decide +kernel
theorem dX2_isHopeless_18 : decode cX2_isHopeless 18 = .ok (.iload 4, 2) := by decide +kernel
theorem dX2_isHopeless_20 : decode cX2_isHopeless 20 = .ok (.ifCond .eq 27, 3) := by decide +kernel
theorem dX2_isHopeless_23 : decode cX2_isHopeless 23 = .ok (.iload 4, 2) := by decide +kernel
theorem dX2_isHopeless_25 : decode cX2_isHopeless 25 = .ok (.iload_n 2, 1) := by decide +kernel
theorem dX2_isHopeless_26 : decode cX2_isHopeless 26 = .ok (.iconst (-1), 1) := by decide +kernel
theorem dX2_isHopeless_27 : decode cX2_isHopeless 27 = .ok (.ixor, 1) := by decide +kernel
theorem dX2_isHopeless_28 : decode cX2_isHopeless 28 = .ok (.iand, 1) := by decide +kernel
theorem dX2_isHopeless_29 : decode cX2_isHopeless 29 = .ok (.invokestatic 74, 3) := by decide +kernel
theorem dX2_isHopeless_32 : decode cX2_isHopeless 32 = .ok (.iconst 2, 1) := by decide +kernel
theorem dX2_isHopeless_33 : decode cX2_isHopeless 33 = .ok (.if_icmp .ge 14, 3) := by decide +kernel
theorem dX2_isHopeless_36 : decode cX2_isHopeless 36 = .ok (.aload_n 0, 1) := by decide +kernel
theorem dX2_isHopeless_37 : decode cX2_isHopeless 37 = .ok (.iload 4, 2) := by decide +kernel
theorem dX2_isHopeless_39 : decode cX2_isHopeless 39 = .ok (.invokevirtual 64, 3) := by decide +kernel
theorem dX2_isHopeless_42 : decode cX2_isHopeless 42 = .ok (.ifCond .eq 5, 3) := by decide +kernel
theorem dX2_isHopeless_45 : decode cX2_isHopeless 45 = .ok (.iconst 1, 1) := by decide +kernel
theorem dX2_isHopeless_46 : decode cX2_isHopeless 46 = .ok (.ireturn, 1) := by decide +kernel
theorem dX2_isHopeless_47 : decode cX2_isHopeless 47 = .ok (.iinc 3 1, 3) := by decide +kernel
theorem dX2_isHopeless_50 : decode cX2_isHopeless 50 = .ok (.goto (-48), 3) := by decide +kernel
theorem dX2_isHopeless_53 : decode cX2_isHopeless 53 = .ok (.iconst 0, 1) := by decide +kernel
theorem dX2_isHopeless_54 : decode cX2_isHopeless 54 = .ok (.ireturn, 1) := by decide +kernel
set_option maxRecDepth 20000 in
theorem ggX3_init_X1_init : GoodIn wsX3_init wsX1_init := goodIn_r _ [16, 17, 2, 3, 11, 18, 19, 20, 21, 22, 23, 24, 25, 26, 27, 28, 29] (by decide +kernel) (by decide +kernel)
set_option maxRecDepth 20000 in
theorem gX3_init_X1_init_n11 : GoodIn wsX3_init (wsX1_init) := ggX3_init_X1_init
theorem dX3_init_0 : decode cX3_init 0 = .ok (.aload_n 0, 1) := by decide +kernel
theorem dX3_init_1 : decode cX3_init 1 = .ok (.invokespecial 3, 3) := by decide +kernel
theorem dX3_init_4 : decode cX3_init 4 = .ok (.aload_n 0, 1) := by decide +kernel
theorem dX3_init_5 : decode cX3_init 5 = .ok (.new 9, 3) := by decide +kernel
theorem dX3_init_8 : decode cX3_init 8 = .ok (.dup, 1) := by decide +kernel
theorem dX3_init_9 : decode cX3_init 9 = .ok (.invokespecial 11, 3) := by decide +kernel
theorem dX3_init_12 : decode cX3_init 12 = .ok (.putfield 12, 3) := by decide +kernel
theorem dX3_init_15 : decode cX3_init 15 = .ok (.aload_n 0, 1) := by decide +kernel
theorem dX3_init_16 : decode cX3_init 16 = .ok (.iconst 0, 1) := by decide +kernel
theorem dX3_init_17 : decode cX3_init 17 = .ok (.putfield 18, 3) := by decide +kernel
theorem dX3_init_20 : decode cX3_init 20 = .ok (.aload_n 0, 1) := by decide +kernel
theorem dX3_init_21 : decode cX3_init 21 = .ok (.iconst 1, 1) := by decide +kernel
theorem dX3_init_22 : decode cX3_init 22 = .ok (.putfield 22, 3) := by decide +kernel
theorem dX3_init_25 : decode cX3_init 25 = .ok (.aload_n 0, 1) := by decide +kernel
theorem dX3_init_26 : decode cX3_init 26 = .ok (.ldc 26, 2) := by decide +kernel
theorem dX3_init_28 : decode cX3_init 28 = .ok (.newarray .int, 2) := by decide +kernel
theorem dX3_init_30 : decode cX3_init 30 = .ok (.putfield 27, 3) := by decide +kernel
theorem dX3_init_33 : decode cX3_init 33 = .ok (.aload_n 0, 1) := by decide +kernel
theorem dX3_init_34 : decode cX3_init 34 = .ok (.iconst 1, 1) := by decide +kernel
theorem dX3_init_35 : decode cX3_init 35 = .ok (.putfield 31, 3) := by decide +kernel
theorem dX3_init_38 : decode cX3_init 38 = .ok (.aload_n 0, 1) := by decide +kernel
theorem dX3_init_39 : decode cX3_init 39 = .ok (.sipush 1024, 3) := by decide +kernel
theorem dX3_init_42 : decode cX3_init 42 = .ok (.newarray .int, 2) := by decide +kernel
theorem dX3_init_44 : decode cX3_init 44 = .ok (.putfield 34, 3) := by decide +kernel
theorem dX3_init_47 : decode cX3_init 47 = .ok (.iconst 1, 1) := by decide +kernel
theorem dX3_init_48 : decode cX3_init 48 = .ok (.istore_n 1, 1) := by decide +kernel
theorem dX3_init_49 : decode cX3_init 49 = .ok (.iconst 0, 1) := by decide +kernel
theorem dX3_init_50 : decode cX3_init 50 = .ok (.istore_n 2, 1) := by decide +kernel
theorem dX3_init_51 : decode cX3_init 51 = .ok (.iload_n 2, 1) := by decide +kernel
theorem dX3_init_52 : decode cX3_init 52 = .ok (.bipush 10, 2) := by decide +kernel
theorem dX3_init_54 : decode cX3_init 54 = .ok (.if_icmp .ge 52, 3) := by decide +kernel
theorem dX3_init_57 : decode cX3_init 57 = .ok (.iconst 0, 1) := by decide +kernel
theorem dX3_init_58 : decode cX3_init 58 = .ok (.istore_n 3, 1) := by decide +kernel
theorem dX3_init_59 : decode cX3_init 59 = .ok (.iload_n 3, 1) := by decide +kernel
theorem dX3_init_60 : decode cX3_init 60 = .ok (.aload_n 0, 1) := by decide +kernel
theorem dX3_init_61 : decode cX3_init 61 = .ok (.getfield 34, 3) := by decide +kernel
theorem dX3_init_64 : decode cX3_init 64 = .ok (.arraylength, 1) := by decide +kernel
theorem dX3_init_65 : decode cX3_init 65 = .ok (.if_icmp .ge 31, 3) := by decide +kernel
theorem dX3_init_68 : decode cX3_init 68 = .ok (.aload_n 0, 1) := by decide +kernel
theorem dX3_init_69 : decode cX3_init 69 = .ok (.getfield 34, 3) := by decide +kernel
theorem dX3_init_72 : decode cX3_init 72 = .ok (.iload_n 3, 1) := by decide +kernel
theorem dX3_init_73 : decode cX3_init 73 = .ok (.dup2, 1) := by decide +kernel
theorem dX3_init_74 : decode cX3_init 74 = .ok (.iaload, 1) := by decide +kernel
theorem dX3_init_75 : decode cX3_init 75 = .ok (.iload_n 3, 1) := by decide +kernel
theorem dX3_init_76 : decode cX3_init 76 = .ok (.iconst 1, 1) := by decide +kernel
theorem dX3_init_77 : decode cX3_init 77 = .ok (.iload_n 2, 1) := by decide +kernel
theorem dX3_init_78 : decode cX3_init 78 = .ok (.ishl, 1) := by decide +kernel
theorem dX3_init_79 : decode cX3_init 79 = .ok (.iand, 1) := by decide +kernel
theorem dX3_init_80 : decode cX3_init 80 = .ok (.ifCond .eq 7, 3) := by decide +kernel
theorem dX3_init_83 : decode cX3_init 83 = .ok (.iload_n 1, 1) := by decide +kernel
theorem dX3_init_84 : decode cX3_init 84 = .ok (.goto 4, 3) := by decide +kernel
theorem dX3_init_87 : decode cX3_init 87 = .ok (.iconst 0, 1) := by decide +kernel
theorem dX3_init_88 : decode cX3_init 88 = .ok (.iadd, 1) := by decide +kernel
theorem dX3_init_89 : decode cX3_init 89 = .ok (.iastore, 1) := by decide +kernel
theorem dX3_init_90 : decode cX3_init 90 = .ok (.iinc 3 1, 3) := by decide +kernel
theorem dX3_init_93 : decode cX3_init 93 = .ok (.goto (-34), 3) := by decide +kernel
theorem dX3_init_96 : decode cX3_init 96 = .ok (.iload_n 1, 1) := by decide +kernel
theorem dX3_init_97 : decode cX3_init 97 = .ok (.iconst 3, 1) := by decide +kernel
theorem dX3_init_98 : decode cX3_init 98 = .ok (.imul, 1) := by decide +kernel
theorem dX3_init_99 : decode cX3_init 99 = .ok (.istore_n 1, 1) := by decide +kernel
theorem dX3_init_100 : decode cX3_init 100 = .ok (.iinc 2 1, 3) := by decide +kernel
theorem dX3_init_103 : decode cX3_init 103 = .ok (.goto (-52), 3) := by decide +kernel
theorem dX3_init_106 : decode cX3_init 106 = .ok (.return_, 1) := by decide +kernel
set_option maxRecDepth 20000 in
theorem ggX3_lengthOf_X3_prepare : GoodIn wsX3_lengthOf wsX3_prepare := goodIn_r _ [8, 1, 2, 3, 9, 10, 11, 12, 13, 14, 15, 16, 17, 18, 19, 20, 21, 22, 23, 24, 25, 26, 27, 28, 29, 30, 31, 32, 33, 34, 35, 36, 37, 80, 81, 82, 83, 84, 85, 86, 87, 88, 89, 90, 91, 92, 93, 94, 95, 96, 97, 98, 99, 100, 101] (by decide +kernel) (by decide +kernel)
set_option maxRecDepth 20000 in
theorem gX3_lengthOf_X3_prepare : GoodIn wsX3_lengthOf (wsV RX3 37 RX3 yX3_prepare wsX3_prepare) := goodIn_app (goodIn_of _ (by decide +kernel)) ggX3_lengthOf_X3_prepare
set_option maxRecDepth 20000 in
theorem ggX3_lengthOf_X3_search : GoodIn wsX3_lengthOf wsX3_search := goodIn_r _ [41, 11, 42, 43, 44, 45, 7, 46, 47, 48, 49, 50, 51, 52, 13, 53, 54, 55, 30, 56, 57, 58, 59, 32, 33, 60, 61, 15, 16, 17, 18, 19, 20, 62, 63, 64, 65, 66, 67, 68, 69, 70, 71, 72, 73, 74, 9, 75, 76, 77, 78, 14, 38, 39, 40, 79, 90, 91, 92, 93, 94, 95, 96, 97, 98, 99, 100, 101] (by decide +kernel) (by decide +kernel)
set_option maxRecDepth 20000 in
theorem gX3_lengthOf_X3_search : GoodIn wsX3_lengthOf (wsV RX3 52 RX3 yX3_search wsX3_search) := goodIn_app (goodIn_of _ (by decide +kernel)) ggX3_lengthOf_X3_search
theorem dX3_lengthOf_0 : decode cX3_lengthOf 0 = .ok (.aload_n 0, 1) := by decide +kernel
theorem dX3_lengthOf_1 : decode cX3_lengthOf 1 = .ok (.aload_n 1, 1) := by decide +kernel
theorem dX3_lengthOf_2 : decode cX3_lengthOf 2 = .ok (.invokevirtual 37, 3) := by decide +kernel
theorem dX3_lengthOf_5 : decode cX3_lengthOf 5 = .ok (.aload_n 0, 1) := by decide +kernel
theorem dX3_lengthOf_6 : decode cX3_lengthOf 6 = .ok (.aload_n 1, 1) := by decide +kernel
theorem dX3_lengthOf_7 : decode cX3_lengthOf 7 = .ok (.getfield 41, 3) := by decide +kernel
theorem dX3_lengthOf_10 : decode cX3_lengthOf 10 = .ok (.aload_n 1, 1) := by decide +kernel
theorem dX3_lengthOf_11 : decode cX3_lengthOf 11 = .ok (.getfield 46, 3) := by decide +kernel
theorem dX3_lengthOf_14 : decode cX3_lengthOf 14 = .ok (.aload_n 1, 1) := by decide +kernel
theorem dX3_lengthOf_15 : decode cX3_lengthOf 15 = .ok (.getfield 49, 3) := by decide +kernel
theorem dX3_lengthOf_18 : decode cX3_lengthOf 18 = .ok (.iconst 0, 1) := by decide +kernel
theorem dX3_lengthOf_19 : decode cX3_lengthOf 19 = .ok (.invokevirtual 52, 3) := by decide +kernel
theorem dX3_lengthOf_22 : decode cX3_lengthOf 22 = .ok (.ireturn, 1) := by decide +kernel
set_option maxRecDepth 20000 in
theorem ggX3_bestMove_X3_prepare : GoodIn wsX3_bestMove wsX3_prepare := goodIn_r _ [8, 2, 3, 1, 9, 10, 11, 12, 13, 14, 15, 16, 17, 18, 19, 20, 21, 22, 23, 24, 25, 26, 27, 28, 29, 30, 31, 32, 33, 34, 35, 36, 37, 90, 91, 92, 93, 94, 95, 96, 97, 98, 99, 100, 101, 102, 103, 104, 105, 106, 107, 108, 109, 110, 111] (by decide +kernel) (by decide +kernel)
set_option maxRecDepth 20000 in
theorem gX3_bestMove_X3_prepare : GoodIn wsX3_bestMove (wsV RX3 37 RX3 yX3_prepare wsX3_prepare) := goodIn_app (goodIn_of _ (by decide +kernel)) ggX3_bestMove_X3_prepare
set_option maxRecDepth 20000 in
theorem ggX3_bestMove_X4_freeCells : GoodIn wsX3_bestMove wsX4_freeCells := goodIn_r _ [41, 42, 43, 44, 22, 23, 24, 25, 26, 90, 91, 92, 93, 94, 95, 96, 97, 98, 99] (by decide +kernel) (by decide +kernel)
set_option maxRecDepth 20000 in
theorem gX3_bestMove_X4_freeCells : GoodIn wsX3_bestMove (wsV RX3 56 RX4 yX4_freeCells wsX4_freeCells) := goodIn_app (goodIn_of _ (by decide +kernel)) ggX3_bestMove_X4_freeCells
set_option maxRecDepth 20000 in
theorem ggX3_bestMove_X3_search : GoodIn wsX3_bestMove wsX3_search := goodIn_r _ [48, 11, 49, 50, 51, 52, 7, 53, 54, 55, 56, 57, 58, 59, 13, 60, 61, 62, 30, 63, 64, 65, 66, 32, 33, 67, 68, 15, 16, 17, 18, 19, 20, 69, 70, 71, 72, 73, 74, 75, 76, 77, 78, 79, 80, 81, 9, 82, 83, 84, 85, 14, 45, 46, 47, 86, 100, 101, 102, 103, 104, 105, 106, 107, 108, 109, 110, 111] (by decide +kernel) (by decide +kernel)
set_option maxRecDepth 20000 in
theorem gX3_bestMove_X3_search : GoodIn wsX3_bestMove (wsV RX3 52 RX3 yX3_search wsX3_search) := goodIn_app (goodIn_of _ (by decide +kernel)) ggX3_bestMove_X3_search
set_option maxRecDepth 20000 in
theorem ggX3_bestMove_X3_rankOf : GoodIn wsX3_bestMove wsX3_rankOf := goodIn_r _ [89] (by decide +kernel) (by decide +kernel)
set_option maxRecDepth 20000 in
theorem gX3_bestMove_X3_rankOf : GoodIn wsX3_bestMove (va_wsS RX3 60 yX3_rankOf wsX3_rankOf) := goodIn_app (goodIn_of _ (by decide +kernel)) ggX3_bestMove_X3_rankOf
theorem dX3_bestMove_0 : decode cX3_bestMove 0 = .ok (.aload_n 0, 1) := by decide +kernel
theorem dX3_bestMove_1 : decode cX3_bestMove 1 = .ok (.aload_n 1, 1) := by decide +kernel
theorem dX3_bestMove_2 : decode cX3_bestMove 2 = .ok (.invokevirtual 37, 3) := by decide +kernel
theorem dX3_bestMove_5 : decode cX3_bestMove 5 = .ok (.aload_n 1, 1) := by decide +kernel
theorem dX3_bestMove_6 : decode cX3_bestMove 6 = .ok (.getfield 49, 3) := by decide +kernel
theorem dX3_bestMove_9 : decode cX3_bestMove 9 = .ok (.istore_n 2, 1) := by decide +kernel
theorem dX3_bestMove_10 : decode cX3_bestMove 10 = .ok (.aload_n 1, 1) := by decide +kernel
theorem dX3_bestMove_11 : decode cX3_bestMove 11 = .ok (.invokevirtual 56, 3) := by decide +kernel
theorem dX3_bestMove_14 : decode cX3_bestMove 14 = .ok (.istore_n 3, 1) := by decide +kernel
theorem dX3_bestMove_15 : decode cX3_bestMove 15 = .ok (.iconst (-1), 1) := by decide +kernel
theorem dX3_bestMove_16 : decode cX3_bestMove 16 = .ok (.istore 4, 2) := by decide +kernel
theorem dX3_bestMove_18 : decode cX3_bestMove 18 = .ok (.iconst (-1), 1) := by decide +kernel
theorem dX3_bestMove_19 : decode cX3_bestMove 19 = .ok (.istore 5, 2) := by decide +kernel
theorem dX3_bestMove_21 : decode cX3_bestMove 21 = .ok (.iconst 0, 1) := by decide +kernel
theorem dX3_bestMove_22 : decode cX3_bestMove 22 = .ok (.istore 6, 2) := by decide +kernel
theorem dX3_bestMove_24 : decode cX3_bestMove 24 = .ok (.iload 6, 2) := by decide +kernel
theorem dX3_bestMove_26 : decode cX3_bestMove 26 = .ok (.bipush 10, 2) := by decide +kernel
theorem dX3_bestMove_28 : decode cX3_bestMove 28 = .ok (.if_icmp .ge 101, 3) := by decide +kernel
theorem dX3_bestMove_31 : decode cX3_bestMove 31 = .ok (.iload_n 3, 1) := by decide +kernel
theorem dX3_bestMove_32 : decode cX3_bestMove 32 = .ok (.iconst 1, 1) := by decide +kernel
theorem dX3_bestMove_33 : decode cX3_bestMove 33 = .ok (.iload 6, 2) := by decide +kernel
theorem dX3_bestMove_35 : decode cX3_bestMove 35 = .ok (.ishl, 1) := by decide +kernel
theorem dX3_bestMove_36 : decode cX3_bestMove 36 = .ok (.iand, 1) := by decide +kernel
theorem dX3_bestMove_37 : decode cX3_bestMove 37 = .ok (.istore 7, 2) := by decide +kernel
theorem dX3_bestMove_39 : decode cX3_bestMove 39 = .ok (.iload 7, 2) := by decide +kernel
theorem dX3_bestMove_41 : decode cX3_bestMove 41 = .ok (.ifCond .eq 82, 3) := by decide +kernel
theorem dX3_bestMove_44 : decode cX3_bestMove 44 = .ok (.iload_n 2, 1) := by decide +kernel
theorem dX3_bestMove_45 : decode cX3_bestMove 45 = .ok (.ifCond .eq 13, 3) := by decide +kernel
theorem dX3_bestMove_48 : decode cX3_bestMove 48 = .ok (.aload_n 1, 1) := by decide +kernel
theorem dX3_bestMove_49 : decode cX3_bestMove 49 = .ok (.getfield 41, 3) := by decide +kernel
theorem dX3_bestMove_52 : decode cX3_bestMove 52 = .ok (.iload 7, 2) := by decide +kernel
theorem dX3_bestMove_54 : decode cX3_bestMove 54 = .ok (.ior, 1) := by decide +kernel
theorem dX3_bestMove_55 : decode cX3_bestMove 55 = .ok (.goto 7, 3) := by decide +kernel
theorem dX3_bestMove_58 : decode cX3_bestMove 58 = .ok (.aload_n 1, 1) := by decide +kernel
theorem dX3_bestMove_59 : decode cX3_bestMove 59 = .ok (.getfield 41, 3) := by decide +kernel
theorem dX3_bestMove_62 : decode cX3_bestMove 62 = .ok (.istore 8, 2) := by decide +kernel
theorem dX3_bestMove_64 : decode cX3_bestMove 64 = .ok (.iload_n 2, 1) := by decide +kernel
theorem dX3_bestMove_65 : decode cX3_bestMove 65 = .ok (.ifCond .eq 10, 3) := by decide +kernel
theorem dX3_bestMove_68 : decode cX3_bestMove 68 = .ok (.aload_n 1, 1) := by decide +kernel
theorem dX3_bestMove_69 : decode cX3_bestMove 69 = .ok (.getfield 46, 3) := by decide +kernel
theorem dX3_bestMove_72 : decode cX3_bestMove 72 = .ok (.goto 10, 3) := by decide +kernel
theorem dX3_bestMove_75 : decode cX3_bestMove 75 = .ok (.aload_n 1, 1) := by decide +kernel
theorem dX3_bestMove_76 : decode cX3_bestMove 76 = .ok (.getfield 46, 3) := by decide +kernel
theorem dX3_bestMove_79 : decode cX3_bestMove 79 = .ok (.iload 7, 2) := by decide +kernel
theorem dX3_bestMove_81 : decode cX3_bestMove 81 = .ok (.ior, 1) := by decide +kernel
theorem dX3_bestMove_82 : decode cX3_bestMove 82 = .ok (.istore 9, 2) := by decide +kernel
theorem dX3_bestMove_84 : decode cX3_bestMove 84 = .ok (.aload_n 0, 1) := by decide +kernel
theorem dX3_bestMove_85 : decode cX3_bestMove 85 = .ok (.iload 8, 2) := by decide +kernel
theorem dX3_bestMove_87 : decode cX3_bestMove 87 = .ok (.iload 9, 2) := by decide +kernel
theorem dX3_bestMove_89 : decode cX3_bestMove 89 = .ok (.iload_n 2, 1) := by decide +kernel
theorem dX3_bestMove_90 : decode cX3_bestMove 90 = .ok (.ifCond .ne 7, 3) := by decide +kernel
theorem dX3_bestMove_93 : decode cX3_bestMove 93 = .ok (.iconst 1, 1) := by decide +kernel
theorem dX3_bestMove_94 : decode cX3_bestMove 94 = .ok (.goto 4, 3) := by decide +kernel
theorem dX3_bestMove_97 : decode cX3_bestMove 97 = .ok (.iconst 0, 1) := by decide +kernel
theorem dX3_bestMove_98 : decode cX3_bestMove 98 = .ok (.iconst 1, 1) := by decide +kernel
theorem dX3_bestMove_99 : decode cX3_bestMove 99 = .ok (.invokevirtual 52, 3) := by decide +kernel
theorem dX3_bestMove_102 : decode cX3_bestMove 102 = .ok (.iload_n 2, 1) := by decide +kernel
theorem dX3_bestMove_103 : decode cX3_bestMove 103 = .ok (.invokestatic 60, 3) := by decide +kernel
theorem dX3_bestMove_106 : decode cX3_bestMove 106 = .ok (.istore 10, 2) := by decide +kernel
theorem dX3_bestMove_108 : decode cX3_bestMove 108 = .ok (.iload 10, 2) := by decide +kernel
theorem dX3_bestMove_110 : decode cX3_bestMove 110 = .ok (.iload 5, 2) := by decide +kernel
theorem dX3_bestMove_112 : decode cX3_bestMove 112 = .ok (.if_icmp .le 11, 3) := by decide +kernel
theorem dX3_bestMove_115 : decode cX3_bestMove 115 = .ok (.iload 10, 2) := by decide +kernel
theorem dX3_bestMove_117 : decode cX3_bestMove 117 = .ok (.istore 5, 2) := by decide +kernel
theorem dX3_bestMove_119 : decode cX3_bestMove 119 = .ok (.iload 6, 2) := by decide +kernel
theorem dX3_bestMove_121 : decode cX3_bestMove 121 = .ok (.istore 4, 2) := by decide +kernel
theorem dX3_bestMove_123 : decode cX3_bestMove 123 = .ok (.iinc 6 1, 3) := by decide +kernel
theorem dX3_bestMove_126 : decode cX3_bestMove 126 = .ok (.goto (-102), 3) := by decide +kernel
theorem dX3_bestMove_129 : decode cX3_bestMove 129 = .ok (.iload 4, 2) := by decide +kernel
theorem dX3_bestMove_131 : decode cX3_bestMove 131 = .ok (.ireturn, 1) := by decide +kernel
theorem dX3_rankOf_0 : decode cX3_rankOf 0 = .ok (.iload_n 1, 1) := by decide +kernel
theorem dX3_rankOf_1 : decode cX3_rankOf 1 = .ok (.ifCond .eq 17, 3) := by decide +kernel
theorem dX3_rankOf_4 : decode cX3_rankOf 4 = .ok (.iload_n 0, 1) := by decide +kernel
theorem dX3_rankOf_5 : decode cX3_rankOf 5 = .ok (.iconst (-1), 1) := by decide +kernel
theorem dX3_rankOf_6 : decode cX3_rankOf 6 = .ok (.if_icmp .ne 7, 3) := by decide +kernel
theorem dX3_rankOf_9 : decode cX3_rankOf 9 = .ok (.iconst 0, 1) := by decide +kernel
theorem dX3_rankOf_10 : decode cX3_rankOf 10 = .ok (.goto 7, 3) := by decide +kernel
theorem dX3_rankOf_13 : decode cX3_rankOf 13 = .ok (.bipush 100, 2) := by decide +kernel
theorem dX3_rankOf_15 : decode cX3_rankOf 15 = .ok (.iload_n 0, 1) := by decide +kernel
theorem dX3_rankOf_16 : decode cX3_rankOf 16 = .ok (.isub, 1) := by decide +kernel
theorem dX3_rankOf_17 : decode cX3_rankOf 17 = .ok (.ireturn, 1) := by decide +kernel
theorem dX3_rankOf_18 : decode cX3_rankOf 18 = .ok (.iload_n 0, 1) := by decide +kernel
theorem dX3_rankOf_19 : decode cX3_rankOf 19 = .ok (.iconst (-1), 1) := by decide +kernel
theorem dX3_rankOf_20 : decode cX3_rankOf 20 = .ok (.if_icmp .ne 8, 3) := by decide +kernel
theorem dX3_rankOf_23 : decode cX3_rankOf 23 = .ok (.bipush 100, 2) := by decide +kernel
theorem dX3_rankOf_25 : decode cX3_rankOf 25 = .ok (.goto 4, 3) := by decide +kernel
theorem dX3_rankOf_28 : decode cX3_rankOf 28 = .ok (.iload_n 0, 1) := by decide +kernel
theorem dX3_rankOf_29 : decode cX3_rankOf 29 = .ok (.ireturn, 1) := by decide +kernel
set_option maxRecDepth 20000 in
theorem ggX3_prepare_J6_bitCount_0f7a4 : GoodIn wsX3_prepare wsJ6_bitCount_0f7a4 := goodIn_r _ [12, 13, 14, 15] (by decide +kernel) (by decide +kernel)
set_option maxRecDepth 20000 in
theorem gX3_prepare_J6_bitCount_0f7a4 : GoodIn wsX3_prepare (va_wsS RX3 64 yJ6_bitCount_0f7a4 wsJ6_bitCount_0f7a4) := goodIn_app (goodIn_of _ (by decide +kernel)) ggX3_prepare_J6_bitCount_0f7a4
set_option maxRecDepth 20000 in
theorem ggX3_prepare_X4_allCells : GoodIn wsX3_prepare wsX4_allCells := goodIn_r _ [20, 21, 33, 34, 35, 36, 37, 38, 39, 40, 41, 42] (by decide +kernel) (by decide +kernel)
set_option maxRecDepth 20000 in
theorem gX3_prepare_X4_allCells : GoodIn wsX3_prepare (wsV RX3 70 RX4 yX4_allCells wsX4_allCells) := goodIn_app (goodIn_of _ (by decide +kernel)) ggX3_prepare_X4_allCells
set_option maxRecDepth 20000 in
theorem ggX3_prepare_X1_areSame : GoodIn wsX3_prepare wsX1_areSame := goodIn_r _ [26, 27, 28, 49, 50, 51, 52, 53, 54] (by decide +kernel) (by decide +kernel)
set_option maxRecDepth 20000 in
theorem gX3_prepare_X1_areSame : GoodIn wsX3_prepare (wsV RX3 73 RX1 yX1_areSame wsX1_areSame) := goodIn_app (goodIn_of _ (by decide +kernel)) ggX3_prepare_X1_areSame
set_option maxRecDepth 20000 in
theorem ggX3_prepare_X1_copy : GoodIn wsX3_prepare wsX1_copy := goodIn_r _ [32, 27, 28, 49, 50, 51, 52, 53, 54] (by decide +kernel) (by decide +kernel)
set_option maxRecDepth 20000 in
theorem gX3_prepare_X1_copy : GoodIn wsX3_prepare (wsV RX3 77 RX1 yX1_copy wsX1_copy) := goodIn_app (goodIn_of _ (by decide +kernel)) ggX3_prepare_X1_copy
theorem dX3_prepare_0 : decode cX3_prepare 0 = .ok (.aload_n 1, 1) := by decide +kernel
theorem dX3_prepare_1 : decode cX3_prepare 1 = .ok (.getfield 41, 3) := by decide +kernel
theorem dX3_prepare_4 : decode cX3_prepare 4 = .ok (.aload_n 1, 1) := by decide +kernel
theorem dX3_prepare_5 : decode cX3_prepare 5 = .ok (.getfield 46, 3) := by decide +kernel
theorem dX3_prepare_8 : decode cX3_prepare 8 = .ok (.ior, 1) := by decide +kernel
theorem dX3_prepare_9 : decode cX3_prepare 9 = .ok (.invokestatic 64, 3) := by decide +kernel
theorem dX3_prepare_12 : decode cX3_prepare 12 = .ok (.istore_n 2, 1) := by decide +kernel
theorem dX3_prepare_13 : decode cX3_prepare 13 = .ok (.aload_n 1, 1) := by decide +kernel
theorem dX3_prepare_14 : decode cX3_prepare 14 = .ok (.getfield 49, 3) := by decide +kernel
theorem dX3_prepare_17 : decode cX3_prepare 17 = .ok (.iload_n 2, 1) := by decide +kernel
theorem dX3_prepare_18 : decode cX3_prepare 18 = .ok (.iconst 1, 1) := by decide +kernel
theorem dX3_prepare_19 : decode cX3_prepare 19 = .ok (.iand, 1) := by decide +kernel
theorem dX3_prepare_20 : decode cX3_prepare 20 = .ok (.ifCond .ne 7, 3) := by decide +kernel
theorem dX3_prepare_23 : decode cX3_prepare 23 = .ok (.iconst 1, 1) := by decide +kernel
theorem dX3_prepare_24 : decode cX3_prepare 24 = .ok (.goto 4, 3) := by decide +kernel
theorem dX3_prepare_27 : decode cX3_prepare 27 = .ok (.iconst 0, 1) := by decide +kernel
theorem dX3_prepare_28 : decode cX3_prepare 28 = .ok (.if_icmp .ne 7, 3) := by decide +kernel
theorem dX3_prepare_31 : decode cX3_prepare 31 = .ok (.iconst 1, 1) := by decide +kernel
theorem dX3_prepare_32 : decode cX3_prepare 32 = .ok (.goto 4, 3) := by decide +kernel
theorem dX3_prepare_35 : decode cX3_prepare 35 = .ok (.iconst 0, 1) := by decide +kernel
theorem dX3_prepare_36 : decode cX3_prepare 36 = .ok (.istore_n 3, 1) := by decide +kernel
theorem dX3_prepare_37 : decode cX3_prepare 37 = .ok (.aload_n 0, 1) := by decide +kernel
theorem dX3_prepare_38 : decode cX3_prepare 38 = .ok (.getfield 18, 3) := by decide +kernel
theorem dX3_prepare_41 : decode cX3_prepare 41 = .ok (.aload_n 1, 1) := by decide +kernel
theorem dX3_prepare_42 : decode cX3_prepare 42 = .ok (.invokevirtual 70, 3) := by decide +kernel
theorem dX3_prepare_45 : decode cX3_prepare 45 = .ok (.if_icmp .ne 15, 3) := by decide +kernel
theorem dX3_prepare_48 : decode cX3_prepare 48 = .ok (.aload_n 0, 1) := by decide +kernel
theorem dX3_prepare_49 : decode cX3_prepare 49 = .ok (.getfield 22, 3) := by decide +kernel
theorem dX3_prepare_52 : decode cX3_prepare 52 = .ok (.iload_n 3, 1) := by decide +kernel
theorem dX3_prepare_53 : decode cX3_prepare 53 = .ok (.if_icmp .ne 7, 3) := by decide +kernel
theorem dX3_prepare_56 : decode cX3_prepare 56 = .ok (.iconst 1, 1) := by decide +kernel
theorem dX3_prepare_57 : decode cX3_prepare 57 = .ok (.goto 4, 3) := by decide +kernel
theorem dX3_prepare_60 : decode cX3_prepare 60 = .ok (.iconst 0, 1) := by decide +kernel
theorem dX3_prepare_61 : decode cX3_prepare 61 = .ok (.istore 4, 2) := by decide +kernel
theorem dX3_prepare_63 : decode cX3_prepare 63 = .ok (.iload 4, 2) := by decide +kernel
theorem dX3_prepare_65 : decode cX3_prepare 65 = .ok (.ifCond .eq 17, 3) := by decide +kernel
theorem dX3_prepare_68 : decode cX3_prepare 68 = .ok (.aload_n 0, 1) := by decide +kernel
theorem dX3_prepare_69 : decode cX3_prepare 69 = .ok (.getfield 12, 3) := by decide +kernel
theorem dX3_prepare_72 : decode cX3_prepare 72 = .ok (.aload_n 1, 1) := by decide +kernel
theorem dX3_prepare_73 : decode cX3_prepare 73 = .ok (.getfield 72, 3) := by decide +kernel
theorem dX3_prepare_76 : decode cX3_prepare 76 = .ok (.invokevirtual 73, 3) := by decide +kernel
theorem dX3_prepare_79 : decode cX3_prepare 79 = .ok (.ifCond .ne 37, 3) := by decide +kernel
theorem dX3_prepare_82 : decode cX3_prepare 82 = .ok (.aload_n 0, 1) := by decide +kernel
theorem dX3_prepare_83 : decode cX3_prepare 83 = .ok (.getfield 12, 3) := by decide +kernel
theorem dX3_prepare_86 : decode cX3_prepare 86 = .ok (.aload_n 1, 1) := by decide +kernel
theorem dX3_prepare_87 : decode cX3_prepare 87 = .ok (.getfield 72, 3) := by decide +kernel
theorem dX3_prepare_90 : decode cX3_prepare 90 = .ok (.invokevirtual 77, 3) := by decide +kernel
theorem dX3_prepare_93 : decode cX3_prepare 93 = .ok (.aload_n 0, 1) := by decide +kernel
theorem dX3_prepare_94 : decode cX3_prepare 94 = .ok (.aload_n 1, 1) := by decide +kernel
theorem dX3_prepare_95 : decode cX3_prepare 95 = .ok (.invokevirtual 70, 3) := by decide +kernel
theorem dX3_prepare_98 : decode cX3_prepare 98 = .ok (.putfield 18, 3) := by decide +kernel
theorem dX3_prepare_101 : decode cX3_prepare 101 = .ok (.aload_n 0, 1) := by decide +kernel
theorem dX3_prepare_102 : decode cX3_prepare 102 = .ok (.iload_n 3, 1) := by decide +kernel
theorem dX3_prepare_103 : decode cX3_prepare 103 = .ok (.putfield 22, 3) := by decide +kernel
theorem dX3_prepare_106 : decode cX3_prepare 106 = .ok (.aload_n 0, 1) := by decide +kernel
theorem dX3_prepare_107 : decode cX3_prepare 107 = .ok (.dup, 1) := by decide +kernel
theorem dX3_prepare_108 : decode cX3_prepare 108 = .ok (.getfield 31, 3) := by decide +kernel
theorem dX3_prepare_111 : decode cX3_prepare 111 = .ok (.iconst 1, 1) := by decide +kernel
theorem dX3_prepare_112 : decode cX3_prepare 112 = .ok (.iadd, 1) := by decide +kernel
theorem dX3_prepare_113 : decode cX3_prepare 113 = .ok (.putfield 31, 3) := by decide +kernel
theorem dX3_prepare_116 : decode cX3_prepare 116 = .ok (.return_, 1) := by decide +kernel
set_option maxRecDepth 20000 in
theorem ggX3_search_X3_placeOf : GoodIn wsX3_search wsX3_placeOf := goodIn_r _ [7, 8, 56, 57, 58, 59, 60, 61] (by decide +kernel) (by decide +kernel)
set_option maxRecDepth 20000 in
theorem gX3_search_X3_placeOf : GoodIn wsX3_search (wsV RX3 81 RX3 yX3_placeOf wsX3_placeOf) := goodIn_app (goodIn_of _ (by decide +kernel)) ggX3_search_X3_placeOf
set_option maxRecDepth 20000 in
theorem ggX3_search_X3_recall : GoodIn wsX3_search wsX3_recall := goodIn_r _ [12, 13, 14, 56, 57, 58, 59, 60, 61] (by decide +kernel) (by decide +kernel)
set_option maxRecDepth 20000 in
theorem gX3_search_X3_recall : GoodIn wsX3_search (wsV RX3 85 RX3 yX3_recall wsX3_recall) := goodIn_app (goodIn_of _ (by decide +kernel)) ggX3_search_X3_recall
set_option maxRecDepth 20000 in
theorem ggX3_search_X1_survey : GoodIn wsX3_search wsX1_survey := goodIn_r _ [19, 20, 21, 22, 23, 24, 25, 26, 27, 28, 29, 30, 31, 32, 62, 63, 64, 65, 66, 67] (by decide +kernel) (by decide +kernel)
set_option maxRecDepth 20000 in
theorem gX3_search_X1_survey : GoodIn wsX3_search (wsV RX3 88 RX1 yX1_survey wsX1_survey) := goodIn_app (goodIn_of _ (by decide +kernel)) ggX3_search_X1_survey
set_option maxRecDepth 20000 in
theorem ggX3_search_X3_shortest : GoodIn wsX3_search wsX3_shortest := goodIn_r _ [55, 1, 45, 46, 52, 53, 54, 6, 43, 44, 47, 48, 49, 50, 51, 27, 28, 29, 30, 31, 32, 0, 2, 3, 4, 5, 7, 8, 9, 10, 11, 12, 13, 14, 15, 16, 17, 18, 19, 20, 21, 22, 23, 24, 25, 26, 33, 34, 35, 36, 37, 38, 39, 40, 41, 42, 56, 57, 58, 59, 60, 61, 62, 63, 64, 65, 66, 67] (by decide +kernel) (by decide +kernel)
set_option maxRecDepth 20000 in
theorem gX3_search_X3_shortest : GoodIn wsX3_search (wsV RX3 95 RX3 yX3_shortest wsX3_shortest) := goodIn_app (goodIn_of _ (by decide +kernel)) ggX3_search_X3_shortest
set_option maxRecDepth 20000 in
theorem ggX3_search_X3_longest : GoodIn wsX3_search wsX3_longest := goodIn_r _ [43, 1, 44, 45, 46, 47, 48, 49, 50, 51, 27, 28, 29, 30, 31, 32, 52, 53, 54, 6, 0, 2, 3, 4, 5, 7, 8, 9, 10, 11, 12, 13, 14, 15, 16, 17, 18, 19, 20, 21, 22, 23, 24, 25, 26, 33, 34, 35, 36, 37, 38, 39, 40, 41, 42, 55, 56, 57, 58, 59, 60, 61, 62, 63, 64, 65, 66, 67] (by decide +kernel) (by decide +kernel)
set_option maxRecDepth 20000 in
theorem gX3_search_X3_longest : GoodIn wsX3_search (wsV RX3 99 RX3 yX3_longest wsX3_longest) := goodIn_app (goodIn_of _ (by decide +kernel)) ggX3_search_X3_longest
set_option maxRecDepth 20000 in
theorem ggX3_search_X3_keep : GoodIn wsX3_search wsX3_keep := goodIn_r _ [42, 13, 14, 56, 57, 58, 59, 60, 61] (by decide +kernel) (by decide +kernel)
set_option maxRecDepth 20000 in
theorem gX3_search_X3_keep : GoodIn wsX3_search (wsV RX3 102 RX3 yX3_keep wsX3_keep) := goodIn_app (goodIn_of _ (by decide +kernel)) ggX3_search_X3_keep
theorem dX3_search_0 : decode cX3_search 0 = .ok (.iload 4, 2) := by decide +kernel
theorem dX3_search_2 : decode cX3_search 2 = .ok (.bipush 10, 2) := by decide +kernel
theorem dX3_search_4 : decode cX3_search 4 = .ok (.if_icmp .le 5, 3) := by decide +kernel
theorem dX3_search_7 : decode cX3_search 7 = .ok (.iconst (-1), 1) := by decide +kernel
theorem dX3_search_8 : decode cX3_search 8 = .ok (.ireturn, 1) := by decide +kernel
theorem dX3_search_9 : decode cX3_search 9 = .ok (.aload_n 0, 1) := by decide +kernel
theorem dX3_search_10 : decode cX3_search 10 = .ok (.iload_n 1, 1) := by decide +kernel
theorem dX3_search_11 : decode cX3_search 11 = .ok (.iload_n 2, 1) := by decide +kernel
theorem dX3_search_12 : decode cX3_search 12 = .ok (.invokevirtual 81, 3) := by decide +kernel
theorem dX3_search_15 : decode cX3_search 15 = .ok (.istore 5, 2) := by decide +kernel
theorem dX3_search_17 : decode cX3_search 17 = .ok (.aload_n 0, 1) := by decide +kernel
theorem dX3_search_18 : decode cX3_search 18 = .ok (.iload 5, 2) := by decide +kernel
theorem dX3_search_20 : decode cX3_search 20 = .ok (.invokevirtual 85, 3) := by decide +kernel
theorem dX3_search_23 : decode cX3_search 23 = .ok (.istore 6, 2) := by decide +kernel
theorem dX3_search_25 : decode cX3_search 25 = .ok (.iload 6, 2) := by decide +kernel
theorem dX3_search_27 : decode cX3_search 27 = .ok (.bipush (-2), 2) := by decide +kernel
theorem dX3_search_29 : decode cX3_search 29 = .ok (.if_icmp .ne 78, 3) := by decide +kernel
theorem dX3_search_32 : decode cX3_search 32 = .ok (.aload_n 0, 1) := by decide +kernel
theorem dX3_search_33 : decode cX3_search 33 = .ok (.getfield 12, 3) := by decide +kernel
theorem dX3_search_36 : decode cX3_search 36 = .ok (.iload_n 1, 1) := by decide +kernel
theorem dX3_search_37 : decode cX3_search 37 = .ok (.iload_n 2, 1) := by decide +kernel
theorem dX3_search_38 : decode cX3_search 38 = .ok (.invokevirtual 88, 3) := by decide +kernel
theorem dX3_search_41 : decode cX3_search 41 = .ok (.aload_n 0, 1) := by decide +kernel
theorem dX3_search_42 : decode cX3_search 42 = .ok (.getfield 12, 3) := by decide +kernel
theorem dX3_search_45 : decode cX3_search 45 = .ok (.getfield 92, 3) := by decide +kernel
theorem dX3_search_48 : decode cX3_search 48 = .ok (.ifCond .eq 24, 3) := by decide +kernel
theorem dX3_search_51 : decode cX3_search 51 = .ok (.aload_n 0, 1) := by decide +kernel
theorem dX3_search_52 : decode cX3_search 52 = .ok (.getfield 12, 3) := by decide +kernel
theorem dX3_search_55 : decode cX3_search 55 = .ok (.getfield 92, 3) := by decide +kernel
theorem dX3_search_58 : decode cX3_search 58 = .ok (.iconst 1, 1) := by decide +kernel
theorem dX3_search_59 : decode cX3_search 59 = .ok (.if_icmp .ne 7, 3) := by decide +kernel
theorem dX3_search_62 : decode cX3_search 62 = .ok (.iconst 0, 1) := by decide +kernel
theorem dX3_search_63 : decode cX3_search 63 = .ok (.goto 4, 3) := by decide +kernel
theorem dX3_search_66 : decode cX3_search 66 = .ok (.iconst (-1), 1) := by decide +kernel
theorem dX3_search_67 : decode cX3_search 67 = .ok (.istore 6, 2) := by decide +kernel
theorem dX3_search_69 : decode cX3_search 69 = .ok (.goto 30, 3) := by decide +kernel
theorem dX3_search_72 : decode cX3_search 72 = .ok (.iload_n 3, 1) := by decide +kernel
theorem dX3_search_73 : decode cX3_search 73 = .ok (.ifCond .eq 16, 3) := by decide +kernel
theorem dX3_search_76 : decode cX3_search 76 = .ok (.aload_n 0, 1) := by decide +kernel
theorem dX3_search_77 : decode cX3_search 77 = .ok (.iload_n 1, 1) := by decide +kernel
theorem dX3_search_78 : decode cX3_search 78 = .ok (.iload_n 2, 1) := by decide +kernel
theorem dX3_search_79 : decode cX3_search 79 = .ok (.iload 4, 2) := by decide +kernel
theorem dX3_search_81 : decode cX3_search 81 = .ok (.invokevirtual 95, 3) := by decide +kernel
theorem dX3_search_84 : decode cX3_search 84 = .ok (.istore 6, 2) := by decide +kernel
theorem dX3_search_86 : decode cX3_search 86 = .ok (.goto 13, 3) := by decide +kernel
theorem dX3_search_89 : decode cX3_search 89 = .ok (.aload_n 0, 1) := by decide +kernel
theorem dX3_search_90 : decode cX3_search 90 = .ok (.iload_n 1, 1) := by decide +kernel
theorem dX3_search_91 : decode cX3_search 91 = .ok (.iload_n 2, 1) := by decide +kernel
theorem dX3_search_92 : decode cX3_search 92 = .ok (.iload 4, 2) := by decide +kernel
theorem dX3_search_94 : decode cX3_search 94 = .ok (.invokevirtual 99, 3) := by decide +kernel
theorem dX3_search_97 : decode cX3_search 97 = .ok (.istore 6, 2) := by decide +kernel
theorem dX3_search_99 : decode cX3_search 99 = .ok (.aload_n 0, 1) := by decide +kernel
theorem dX3_search_100 : decode cX3_search 100 = .ok (.iload 5, 2) := by decide +kernel
theorem dX3_search_102 : decode cX3_search 102 = .ok (.iload 6, 2) := by decide +kernel
theorem dX3_search_104 : decode cX3_search 104 = .ok (.invokevirtual 102, 3) := by decide +kernel
theorem dX3_search_107 : decode cX3_search 107 = .ok (.iload 6, 2) := by decide +kernel
theorem dX3_search_109 : decode cX3_search 109 = .ok (.ireturn, 1) := by decide +kernel
set_option maxRecDepth 20000 in
theorem ggX3_shortest_X3_search : GoodIn wsX3_shortest wsX3_search := goodIn_r _ [21, 1, 22, 23, 24, 25, 7, 26, 27, 28, 29, 30, 31, 32, 33, 34, 35, 36, 37, 38, 39, 40, 41, 42, 43, 44, 45, 15, 16, 17, 18, 19, 20, 46, 47, 48, 49, 50, 51, 52, 53, 54, 55, 8, 9, 2, 3, 10, 11, 12, 13, 14, 4, 5, 6, 0, 56, 57, 58, 59, 60, 61, 62, 63, 64, 65, 66, 67] (by decide +kernel) (by decide +kernel)
set_option maxRecDepth 20000 in
theorem gX3_shortest_X3_search : GoodIn wsX3_shortest (wsV RX3 52 RX3 yX3_search wsX3_search) := goodIn_app (goodIn_of _ (by decide +kernel)) ggX3_shortest_X3_search
theorem dX3_shortest_0 : decode cX3_shortest 0 = .ok (.aload_n 0, 1) := by decide +kernel
theorem dX3_shortest_1 : decode cX3_shortest 1 = .ok (.getfield 12, 3) := by decide +kernel
theorem dX3_shortest_4 : decode cX3_shortest 4 = .ok (.getfield 105, 3) := by decide +kernel
theorem dX3_shortest_7 : decode cX3_shortest 7 = .ok (.ifCond .eq 5, 3) := by decide +kernel
theorem dX3_shortest_10 : decode cX3_shortest 10 = .ok (.iconst 1, 1) := by decide +kernel
theorem dX3_shortest_11 : decode cX3_shortest 11 = .ok (.ireturn, 1) := by decide +kernel
theorem dX3_shortest_12 : decode cX3_shortest 12 = .ok (.aload_n 0, 1) := by decide +kernel
theorem dX3_shortest_13 : decode cX3_shortest 13 = .ok (.getfield 18, 3) := by decide +kernel
theorem dX3_shortest_16 : decode cX3_shortest 16 = .ok (.iload_n 1, 1) := by decide +kernel
theorem dX3_shortest_17 : decode cX3_shortest 17 = .ok (.iload_n 2, 1) := by decide +kernel
theorem dX3_shortest_18 : decode cX3_shortest 18 = .ok (.ior, 1) := by decide +kernel
theorem dX3_shortest_19 : decode cX3_shortest 19 = .ok (.iconst (-1), 1) := by decide +kernel
theorem dX3_shortest_20 : decode cX3_shortest 20 = .ok (.ixor, 1) := by decide +kernel
theorem dX3_shortest_21 : decode cX3_shortest 21 = .ok (.iand, 1) := by decide +kernel
theorem dX3_shortest_22 : decode cX3_shortest 22 = .ok (.istore 4, 2) := by decide +kernel
theorem dX3_shortest_24 : decode cX3_shortest 24 = .ok (.iconst (-1), 1) := by decide +kernel
theorem dX3_shortest_25 : decode cX3_shortest 25 = .ok (.istore 5, 2) := by decide +kernel
theorem dX3_shortest_27 : decode cX3_shortest 27 = .ok (.iconst 0, 1) := by decide +kernel
theorem dX3_shortest_28 : decode cX3_shortest 28 = .ok (.istore 6, 2) := by decide +kernel
theorem dX3_shortest_30 : decode cX3_shortest 30 = .ok (.iload 6, 2) := by decide +kernel
theorem dX3_shortest_32 : decode cX3_shortest 32 = .ok (.bipush 10, 2) := by decide +kernel
theorem dX3_shortest_34 : decode cX3_shortest 34 = .ok (.if_icmp .ge 63, 3) := by decide +kernel
theorem dX3_shortest_37 : decode cX3_shortest 37 = .ok (.iload 4, 2) := by decide +kernel
theorem dX3_shortest_39 : decode cX3_shortest 39 = .ok (.iconst 1, 1) := by decide +kernel
theorem dX3_shortest_40 : decode cX3_shortest 40 = .ok (.iload 6, 2) := by decide +kernel
theorem dX3_shortest_42 : decode cX3_shortest 42 = .ok (.ishl, 1) := by decide +kernel
theorem dX3_shortest_43 : decode cX3_shortest 43 = .ok (.iand, 1) := by decide +kernel
theorem dX3_shortest_44 : decode cX3_shortest 44 = .ok (.ifCond .eq 47, 3) := by decide +kernel
theorem dX3_shortest_47 : decode cX3_shortest 47 = .ok (.aload_n 0, 1) := by decide +kernel
theorem dX3_shortest_48 : decode cX3_shortest 48 = .ok (.iload_n 1, 1) := by decide +kernel
theorem dX3_shortest_49 : decode cX3_shortest 49 = .ok (.iconst 1, 1) := by decide +kernel
theorem dX3_shortest_50 : decode cX3_shortest 50 = .ok (.iload 6, 2) := by decide +kernel
theorem dX3_shortest_52 : decode cX3_shortest 52 = .ok (.ishl, 1) := by decide +kernel
theorem dX3_shortest_53 : decode cX3_shortest 53 = .ok (.ior, 1) := by decide +kernel
theorem dX3_shortest_54 : decode cX3_shortest 54 = .ok (.iload_n 2, 1) := by decide +kernel
theorem dX3_shortest_55 : decode cX3_shortest 55 = .ok (.iconst 0, 1) := by decide +kernel
theorem dX3_shortest_56 : decode cX3_shortest 56 = .ok (.iload_n 3, 1) := by decide +kernel
theorem dX3_shortest_57 : decode cX3_shortest 57 = .ok (.iconst 1, 1) := by decide +kernel
theorem dX3_shortest_58 : decode cX3_shortest 58 = .ok (.iadd, 1) := by decide +kernel
theorem dX3_shortest_59 : decode cX3_shortest 59 = .ok (.invokevirtual 52, 3) := by decide +kernel
theorem dX3_shortest_62 : decode cX3_shortest 62 = .ok (.istore 7, 2) := by decide +kernel
theorem dX3_shortest_64 : decode cX3_shortest 64 = .ok (.iload 7, 2) := by decide +kernel
theorem dX3_shortest_66 : decode cX3_shortest 66 = .ok (.iconst (-1), 1) := by decide +kernel
theorem dX3_shortest_67 : decode cX3_shortest 67 = .ok (.if_icmp .eq 24, 3) := by decide +kernel
theorem dX3_shortest_70 : decode cX3_shortest 70 = .ok (.iload 5, 2) := by decide +kernel
theorem dX3_shortest_72 : decode cX3_shortest 72 = .ok (.iconst (-1), 1) := by decide +kernel
theorem dX3_shortest_73 : decode cX3_shortest 73 = .ok (.if_icmp .eq 12, 3) := by decide +kernel
theorem dX3_shortest_76 : decode cX3_shortest 76 = .ok (.iload 7, 2) := by decide +kernel
theorem dX3_shortest_78 : decode cX3_shortest 78 = .ok (.iconst 1, 1) := by decide +kernel
theorem dX3_shortest_79 : decode cX3_shortest 79 = .ok (.iadd, 1) := by decide +kernel
theorem dX3_shortest_80 : decode cX3_shortest 80 = .ok (.iload 5, 2) := by decide +kernel
theorem dX3_shortest_82 : decode cX3_shortest 82 = .ok (.if_icmp .ge 9, 3) := by decide +kernel
theorem dX3_shortest_85 : decode cX3_shortest 85 = .ok (.iload 7, 2) := by decide +kernel
theorem dX3_shortest_87 : decode cX3_shortest 87 = .ok (.iconst 1, 1) := by decide +kernel
theorem dX3_shortest_88 : decode cX3_shortest 88 = .ok (.iadd, 1) := by decide +kernel
theorem dX3_shortest_89 : decode cX3_shortest 89 = .ok (.istore 5, 2) := by decide +kernel
theorem dX3_shortest_91 : decode cX3_shortest 91 = .ok (.iinc 6 1, 3) := by decide +kernel
theorem dX3_shortest_94 : decode cX3_shortest 94 = .ok (.goto (-64), 3) := by decide +kernel
theorem dX3_shortest_97 : decode cX3_shortest 97 = .ok (.iload 5, 2) := by decide +kernel
theorem dX3_shortest_99 : decode cX3_shortest 99 = .ok (.ireturn, 1) := by decide +kernel
set_option maxRecDepth 20000 in
theorem ggX3_longest_J6_bitCount_0f7a4 : GoodIn wsX3_longest wsJ6_bitCount_0f7a4 := goodIn_r _ [12, 13, 14, 15] (by decide +kernel) (by decide +kernel)
set_option maxRecDepth 20000 in
theorem gX3_longest_J6_bitCount_0f7a4 : GoodIn wsX3_longest (va_wsS RX3 64 yJ6_bitCount_0f7a4 wsJ6_bitCount_0f7a4) := goodIn_app (goodIn_of _ (by decide +kernel)) ggX3_longest_J6_bitCount_0f7a4
set_option maxRecDepth 20000 in
theorem ggX3_longest_X3_search : GoodIn wsX3_longest wsX3_search := goodIn_r _ [20, 1, 21, 22, 23, 24, 19, 25, 26, 27, 28, 29, 30, 31, 32, 33, 34, 35, 36, 37, 38, 39, 40, 41, 42, 43, 44, 10, 11, 12, 13, 14, 15, 45, 46, 47, 48, 49, 50, 51, 52, 53, 54, 0, 2, 3, 4, 5, 6, 7, 8, 9, 16, 17, 18, 55, 56, 57, 58, 59, 60, 61, 62, 63, 64, 65, 66, 67] (by decide +kernel) (by decide +kernel)
set_option maxRecDepth 20000 in
theorem gX3_longest_X3_search : GoodIn wsX3_longest (wsV RX3 52 RX3 yX3_search wsX3_search) := goodIn_app (goodIn_of _ (by decide +kernel)) ggX3_longest_X3_search
theorem dX3_longest_0 : decode cX3_longest 0 = .ok (.aload_n 0, 1) := by decide +kernel
theorem dX3_longest_1 : decode cX3_longest 1 = .ok (.getfield 12, 3) := by decide +kernel
theorem dX3_longest_4 : decode cX3_longest 4 = .ok (.getfield 108, 3) := by decide +kernel
theorem dX3_longest_7 : decode cX3_longest 7 = .ok (.sipush 1024, 3) := by decide +kernel
theorem dX3_longest_10 : decode cX3_longest 10 = .ok (.if_icmp .ge 5, 3) := by decide +kernel
theorem dX3_longest_13 : decode cX3_longest 13 = .ok (.iconst (-1), 1) := by decide +kernel
theorem dX3_longest_14 : decode cX3_longest 14 = .ok (.ireturn, 1) := by decide +kernel
theorem dX3_longest_15 : decode cX3_longest 15 = .ok (.aload_n 0, 1) := by decide +kernel
theorem dX3_longest_16 : decode cX3_longest 16 = .ok (.getfield 12, 3) := by decide +kernel
theorem dX3_longest_19 : decode cX3_longest 19 = .ok (.getfield 105, 3) := by decide +kernel
theorem dX3_longest_22 : decode cX3_longest 22 = .ok (.istore 4, 2) := by decide +kernel
theorem dX3_longest_24 : decode cX3_longest 24 = .ok (.iload 4, 2) := by decide +kernel
theorem dX3_longest_26 : decode cX3_longest 26 = .ok (.invokestatic 64, 3) := by decide +kernel
theorem dX3_longest_29 : decode cX3_longest 29 = .ok (.iconst 1, 1) := by decide +kernel
theorem dX3_longest_30 : decode cX3_longest 30 = .ok (.if_icmp .le 5, 3) := by decide +kernel
theorem dX3_longest_33 : decode cX3_longest 33 = .ok (.iconst 2, 1) := by decide +kernel
theorem dX3_longest_34 : decode cX3_longest 34 = .ok (.ireturn, 1) := by decide +kernel
theorem dX3_longest_35 : decode cX3_longest 35 = .ok (.iload 4, 2) := by decide +kernel
theorem dX3_longest_37 : decode cX3_longest 37 = .ok (.ifCond .eq 8, 3) := by decide +kernel
theorem dX3_longest_40 : decode cX3_longest 40 = .ok (.iload 4, 2) := by decide +kernel
theorem dX3_longest_42 : decode cX3_longest 42 = .ok (.goto 13, 3) := by decide +kernel
theorem dX3_longest_45 : decode cX3_longest 45 = .ok (.aload_n 0, 1) := by decide +kernel
theorem dX3_longest_46 : decode cX3_longest 46 = .ok (.getfield 18, 3) := by decide +kernel
theorem dX3_longest_49 : decode cX3_longest 49 = .ok (.iload_n 1, 1) := by decide +kernel
theorem dX3_longest_50 : decode cX3_longest 50 = .ok (.iload_n 2, 1) := by decide +kernel
theorem dX3_longest_51 : decode cX3_longest 51 = .ok (.ior, 1) := by decide +kernel
theorem dX3_longest_52 : decode cX3_longest 52 = .ok (.iconst (-1), 1) := by decide +kernel
theorem dX3_longest_53 : decode cX3_longest 53 = .ok (.ixor, 1) := by decide +kernel
theorem dX3_longest_54 : decode cX3_longest 54 = .ok (.iand, 1) := by decide +kernel
theorem dX3_longest_55 : decode cX3_longest 55 = .ok (.istore 5, 2) := by decide +kernel
theorem dX3_longest_57 : decode cX3_longest 57 = .ok (.iconst 0, 1) := by decide +kernel
theorem dX3_longest_58 : decode cX3_longest 58 = .ok (.istore 6, 2) := by decide +kernel
theorem dX3_longest_60 : decode cX3_longest 60 = .ok (.iconst 0, 1) := by decide +kernel
theorem dX3_longest_61 : decode cX3_longest 61 = .ok (.istore 7, 2) := by decide +kernel
theorem dX3_longest_63 : decode cX3_longest 63 = .ok (.iload 7, 2) := by decide +kernel
theorem dX3_longest_65 : decode cX3_longest 65 = .ok (.bipush 10, 2) := by decide +kernel
theorem dX3_longest_67 : decode cX3_longest 67 = .ok (.if_icmp .ge 55, 3) := by decide +kernel
theorem dX3_longest_70 : decode cX3_longest 70 = .ok (.iload 5, 2) := by decide +kernel
theorem dX3_longest_72 : decode cX3_longest 72 = .ok (.iconst 1, 1) := by decide +kernel
theorem dX3_longest_73 : decode cX3_longest 73 = .ok (.iload 7, 2) := by decide +kernel
theorem dX3_longest_75 : decode cX3_longest 75 = .ok (.ishl, 1) := by decide +kernel
theorem dX3_longest_76 : decode cX3_longest 76 = .ok (.iand, 1) := by decide +kernel
theorem dX3_longest_77 : decode cX3_longest 77 = .ok (.ifCond .eq 39, 3) := by decide +kernel
theorem dX3_longest_80 : decode cX3_longest 80 = .ok (.aload_n 0, 1) := by decide +kernel
theorem dX3_longest_81 : decode cX3_longest 81 = .ok (.iload_n 1, 1) := by decide +kernel
theorem dX3_longest_82 : decode cX3_longest 82 = .ok (.iload_n 2, 1) := by decide +kernel
theorem dX3_longest_83 : decode cX3_longest 83 = .ok (.iconst 1, 1) := by decide +kernel
theorem dX3_longest_84 : decode cX3_longest 84 = .ok (.iload 7, 2) := by decide +kernel
theorem dX3_longest_86 : decode cX3_longest 86 = .ok (.ishl, 1) := by decide +kernel
theorem dX3_longest_87 : decode cX3_longest 87 = .ok (.ior, 1) := by decide +kernel
theorem dX3_longest_88 : decode cX3_longest 88 = .ok (.iconst 1, 1) := by decide +kernel
theorem dX3_longest_89 : decode cX3_longest 89 = .ok (.iload_n 3, 1) := by decide +kernel
theorem dX3_longest_90 : decode cX3_longest 90 = .ok (.iconst 1, 1) := by decide +kernel
theorem dX3_longest_91 : decode cX3_longest 91 = .ok (.iadd, 1) := by decide +kernel
theorem dX3_longest_92 : decode cX3_longest 92 = .ok (.invokevirtual 52, 3) := by decide +kernel
theorem dX3_longest_95 : decode cX3_longest 95 = .ok (.istore 8, 2) := by decide +kernel
theorem dX3_longest_97 : decode cX3_longest 97 = .ok (.iload 8, 2) := by decide +kernel
theorem dX3_longest_99 : decode cX3_longest 99 = .ok (.iconst (-1), 1) := by decide +kernel
theorem dX3_longest_100 : decode cX3_longest 100 = .ok (.if_icmp .ne 5, 3) := by decide +kernel
theorem dX3_longest_103 : decode cX3_longest 103 = .ok (.iconst (-1), 1) := by decide +kernel
theorem dX3_longest_104 : decode cX3_longest 104 = .ok (.ireturn, 1) := by decide +kernel
theorem dX3_longest_105 : decode cX3_longest 105 = .ok (.iload 6, 2) := by decide +kernel
theorem dX3_longest_107 : decode cX3_longest 107 = .ok (.iload 8, 2) := by decide +kernel
theorem dX3_longest_109 : decode cX3_longest 109 = .ok (.iconst 1, 1) := by decide +kernel
theorem dX3_longest_110 : decode cX3_longest 110 = .ok (.iadd, 1) := by decide +kernel
theorem dX3_longest_111 : decode cX3_longest 111 = .ok (.invokestatic 111, 3) := by decide +kernel
theorem dX3_longest_114 : decode cX3_longest 114 = .ok (.istore 6, 2) := by decide +kernel
theorem dX3_longest_116 : decode cX3_longest 116 = .ok (.iinc 7 1, 3) := by decide +kernel
theorem dX3_longest_119 : decode cX3_longest 119 = .ok (.goto (-56), 3) := by decide +kernel
theorem dX3_longest_122 : decode cX3_longest 122 = .ok (.iload 6, 2) := by decide +kernel
theorem dX3_longest_124 : decode cX3_longest 124 = .ok (.ireturn, 1) := by decide +kernel
theorem dX3_placeOf_0 : decode cX3_placeOf 0 = .ok (.iload_n 1, 1) := by decide +kernel
theorem dX3_placeOf_1 : decode cX3_placeOf 1 = .ok (.ifCond .lt 29, 3) := by decide +kernel
theorem dX3_placeOf_4 : decode cX3_placeOf 4 = .ok (.iload_n 1, 1) := by decide +kernel
theorem dX3_placeOf_5 : decode cX3_placeOf 5 = .ok (.aload_n 0, 1) := by decide +kernel
theorem dX3_placeOf_6 : decode cX3_placeOf 6 = .ok (.getfield 34, 3) := by decide +kernel
theorem dX3_placeOf_9 : decode cX3_placeOf 9 = .ok (.arraylength, 1) := by decide +kernel
theorem dX3_placeOf_10 : decode cX3_placeOf 10 = .ok (.if_icmp .ge 20, 3) := by decide +kernel
theorem dX3_placeOf_13 : decode cX3_placeOf 13 = .ok (.iload_n 2, 1) := by decide +kernel
theorem dX3_placeOf_14 : decode cX3_placeOf 14 = .ok (.ifCond .lt 16, 3) := by decide +kernel
theorem dX3_placeOf_17 : decode cX3_placeOf 17 = .ok (.iload_n 2, 1) := by decide +kernel
theorem dX3_placeOf_18 : decode cX3_placeOf 18 = .ok (.aload_n 0, 1) := by decide +kernel
theorem dX3_placeOf_19 : decode cX3_placeOf 19 = .ok (.getfield 34, 3) := by decide +kernel
theorem dX3_placeOf_22 : decode cX3_placeOf 22 = .ok (.arraylength, 1) := by decide +kernel
theorem dX3_placeOf_23 : decode cX3_placeOf 23 = .ok (.if_icmp .ge 7, 3) := by decide +kernel
theorem dX3_placeOf_26 : decode cX3_placeOf 26 = .ok (.iconst 1, 1) := by decide +kernel
theorem dX3_placeOf_27 : decode cX3_placeOf 27 = .ok (.goto 4, 3) := by decide +kernel
theorem dX3_placeOf_30 : decode cX3_placeOf 30 = .ok (.iconst 0, 1) := by decide +kernel
theorem dX3_placeOf_31 : decode cX3_placeOf 31 = .ok (.istore_n 3, 1) := by decide +kernel
theorem dX3_placeOf_32 : decode cX3_placeOf 32 = .ok (.iload_n 3, 1) := by decide +kernel
theorem dX3_placeOf_33 : decode cX3_placeOf 33 = .ok (.ifCond .eq 21, 3) := by decide +kernel
theorem dX3_placeOf_36 : decode cX3_placeOf 36 = .ok (.aload_n 0, 1) := by decide +kernel
theorem dX3_placeOf_37 : decode cX3_placeOf 37 = .ok (.getfield 34, 3) := by decide +kernel
theorem dX3_placeOf_40 : decode cX3_placeOf 40 = .ok (.iload_n 1, 1) := by decide +kernel
theorem dX3_placeOf_41 : decode cX3_placeOf 41 = .ok (.iaload, 1) := by decide +kernel
theorem dX3_placeOf_42 : decode cX3_placeOf 42 = .ok (.iconst 2, 1) := by decide +kernel
theorem dX3_placeOf_43 : decode cX3_placeOf 43 = .ok (.aload_n 0, 1) := by decide +kernel
theorem dX3_placeOf_44 : decode cX3_placeOf 44 = .ok (.getfield 34, 3) := by decide +kernel
theorem dX3_placeOf_47 : decode cX3_placeOf 47 = .ok (.iload_n 2, 1) := by decide +kernel
theorem dX3_placeOf_48 : decode cX3_placeOf 48 = .ok (.iaload, 1) := by decide +kernel
theorem dX3_placeOf_49 : decode cX3_placeOf 49 = .ok (.imul, 1) := by decide +kernel
theorem dX3_placeOf_50 : decode cX3_placeOf 50 = .ok (.iadd, 1) := by decide +kernel
theorem dX3_placeOf_51 : decode cX3_placeOf 51 = .ok (.goto 4, 3) := by decide +kernel
theorem dX3_placeOf_54 : decode cX3_placeOf 54 = .ok (.iconst (-1), 1) := by decide +kernel
theorem dX3_placeOf_55 : decode cX3_placeOf 55 = .ok (.ireturn, 1) := by decide +kernel
theorem dX3_recall_0 : decode cX3_recall 0 = .ok (.iload_n 1, 1) := by decide +kernel
theorem dX3_recall_1 : decode cX3_recall 1 = .ok (.ifCond .lt 16, 3) := by decide +kernel
theorem dX3_recall_4 : decode cX3_recall 4 = .ok (.iload_n 1, 1) := by decide +kernel
theorem dX3_recall_5 : decode cX3_recall 5 = .ok (.aload_n 0, 1) := by decide +kernel
theorem dX3_recall_6 : decode cX3_recall 6 = .ok (.getfield 27, 3) := by decide +kernel
theorem dX3_recall_9 : decode cX3_recall 9 = .ok (.arraylength, 1) := by decide +kernel
theorem dX3_recall_10 : decode cX3_recall 10 = .ok (.if_icmp .ge 7, 3) := by decide +kernel
theorem dX3_recall_13 : decode cX3_recall 13 = .ok (.iconst 1, 1) := by decide +kernel
theorem dX3_recall_14 : decode cX3_recall 14 = .ok (.goto 4, 3) := by decide +kernel
theorem dX3_recall_17 : decode cX3_recall 17 = .ok (.iconst 0, 1) := by decide +kernel
theorem dX3_recall_18 : decode cX3_recall 18 = .ok (.istore_n 2, 1) := by decide +kernel
theorem dX3_recall_19 : decode cX3_recall 19 = .ok (.iload_n 2, 1) := by decide +kernel
theorem dX3_recall_20 : decode cX3_recall 20 = .ok (.ifCond .eq 30, 3) := by decide +kernel
theorem dX3_recall_23 : decode cX3_recall 23 = .ok (.aload_n 0, 1) := by decide +kernel
theorem dX3_recall_24 : decode cX3_recall 24 = .ok (.getfield 27, 3) := by decide +kernel
theorem dX3_recall_27 : decode cX3_recall 27 = .ok (.iload_n 1, 1) := by decide +kernel
theorem dX3_recall_28 : decode cX3_recall 28 = .ok (.iaload, 1) := by decide +kernel
theorem dX3_recall_29 : decode cX3_recall 29 = .ok (.iconst 4, 1) := by decide +kernel
theorem dX3_recall_30 : decode cX3_recall 30 = .ok (.ishr, 1) := by decide +kernel
theorem dX3_recall_31 : decode cX3_recall 31 = .ok (.aload_n 0, 1) := by decide +kernel
theorem dX3_recall_32 : decode cX3_recall 32 = .ok (.getfield 31, 3) := by decide +kernel
theorem dX3_recall_35 : decode cX3_recall 35 = .ok (.if_icmp .ne 15, 3) := by decide +kernel
theorem dX3_recall_38 : decode cX3_recall 38 = .ok (.aload_n 0, 1) := by decide +kernel
theorem dX3_recall_39 : decode cX3_recall 39 = .ok (.getfield 27, 3) := by decide +kernel
theorem dX3_recall_42 : decode cX3_recall 42 = .ok (.iload_n 1, 1) := by decide +kernel
theorem dX3_recall_43 : decode cX3_recall 43 = .ok (.iaload, 1) := by decide +kernel
theorem dX3_recall_44 : decode cX3_recall 44 = .ok (.bipush 15, 2) := by decide +kernel
theorem dX3_recall_46 : decode cX3_recall 46 = .ok (.iand, 1) := by decide +kernel
theorem dX3_recall_47 : decode cX3_recall 47 = .ok (.iconst 1, 1) := by decide +kernel
theorem dX3_recall_48 : decode cX3_recall 48 = .ok (.isub, 1) := by decide +kernel
theorem dX3_recall_49 : decode cX3_recall 49 = .ok (.ireturn, 1) := by decide +kernel
theorem dX3_recall_50 : decode cX3_recall 50 = .ok (.bipush (-2), 2) := by decide +kernel
theorem dX3_recall_52 : decode cX3_recall 52 = .ok (.ireturn, 1) := by decide +kernel
theorem dX3_keep_0 : decode cX3_keep 0 = .ok (.iload_n 1, 1) := by decide +kernel
theorem dX3_keep_1 : decode cX3_keep 1 = .ok (.ifCond .lt 31, 3) := by decide +kernel
theorem dX3_keep_4 : decode cX3_keep 4 = .ok (.iload_n 1, 1) := by decide +kernel
theorem dX3_keep_5 : decode cX3_keep 5 = .ok (.aload_n 0, 1) := by decide +kernel
