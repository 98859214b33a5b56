theorem dX0_init_0 : decode cX0_init 0 = .ok (.aload_n 0, 1) := by decide +kernel
theorem dX0_init_1 : decode cX0_init 1 = .ok (.invokespecial 3, 3) := by decide +kernel
theorem dX0_init_4 : decode cX0_init 4 = .ok (.aload_n 0, 1) := by decide +kernel
theorem dX0_init_5 : decode cX0_init 5 = .ok (.bipush 6, 2) := by decide +kernel
theorem dX0_init_7 : decode cX0_init 7 = .ok (.anewarray 9, 3) := by decide +kernel
theorem dX0_init_10 : decode cX0_init 10 = .ok (.putfield 11, 3) := by decide +kernel
theorem dX0_init_13 : decode cX0_init 13 = .ok (.aload_n 0, 1) := by decide +kernel
theorem dX0_init_14 : decode cX0_init 14 = .ok (.iconst 0, 1) := by decide +kernel
theorem dX0_init_15 : decode cX0_init 15 = .ok (.putfield 17, 3) := by decide +kernel
theorem dX0_init_18 : decode cX0_init 18 = .ok (.return_, 1) := by decide +kernel
set_option maxRecDepth 20000 in
theorem ggX0_save_X0_dropOldest : GoodIn wsX0_save wsX0_dropOldest := goodIn_r _ [10, 2, 1, 51, 52] (by decide +kernel) (by decide +kernel)
set_option maxRecDepth 20000 in
theorem gX0_save_X0_dropOldest : GoodIn wsX0_save (wsV RX0 21 RX0 yX0_dropOldest wsX0_dropOldest) := goodIn_app (goodIn_of _ (by decide +kernel)) ggX0_save_X0_dropOldest
set_option maxRecDepth 20000 in
theorem ggX0_save_X4_init : GoodIn wsX0_save wsX4_init := goodIn_r _ [12, 13, 14, 15, 16, 17, 18, 19, 20, 21, 22, 23, 24, 25, 26, 27, 28, 29, 30, 31, 32, 33, 34, 35, 36, 37, 38, 63, 64, 65, 66, 67, 68, 53, 54, 55, 56, 57, 58, 59, 60, 61, 62] (by decide +kernel) (by decide +kernel)
set_option maxRecDepth 20000 in
theorem gX0_save_X4_init_n24 : GoodIn wsX0_save (wsX4_init) := ggX0_save_X4_init
set_option maxRecDepth 20000 in
theorem ggX0_save_X4_copyAll : GoodIn wsX0_save wsX4_copyAll := goodIn_r _ [42, 26, 27, 28, 43, 44, 45, 5, 46, 19, 20, 21, 22, 23, 24, 25, 47, 48, 49, 18, 50, 34, 33, 53, 54, 55, 56, 57, 58, 59, 60, 61, 62, 63, 64, 65, 66, 67, 68] (by decide +kernel) (by decide +kernel)
set_option maxRecDepth 20000 in
theorem gX0_save_X4_copyAll : GoodIn wsX0_save (wsV RX0 25 RX4 yX4_copyAll wsX4_copyAll) := goodIn_app (goodIn_of _ (by decide +kernel)) ggX0_save_X4_copyAll
theorem dX0_save_0 : decode cX0_save 0 = .ok (.aload_n 0, 1) := by decide +kernel
theorem dX0_save_1 : decode cX0_save 1 = .ok (.getfield 17, 3) := by decide +kernel
theorem dX0_save_4 : decode cX0_save 4 = .ok (.aload_n 0, 1) := by decide +kernel
theorem dX0_save_5 : decode cX0_save 5 = .ok (.getfield 11, 3) := by decide +kernel
theorem dX0_save_8 : decode cX0_save 8 = .ok (.arraylength, 1) := by decide +kernel
theorem dX0_save_9 : decode cX0_save 9 = .ok (.if_icmp .lt 7, 3) := by decide +kernel
theorem dX0_save_12 : decode cX0_save 12 = .ok (.aload_n 0, 1) := by decide +kernel
theorem dX0_save_13 : decode cX0_save 13 = .ok (.invokevirtual 21, 3) := by decide +kernel
theorem dX0_save_16 : decode cX0_save 16 = .ok (.aload_n 0, 1) := by decide +kernel
theorem dX0_save_17 : decode cX0_save 17 = .ok (.getfield 17, 3) := by decide +kernel
theorem dX0_save_20 : decode cX0_save 20 = .ok (.ifCond .lt 62, 3) := by decide +kernel
theorem dX0_save_23 : decode cX0_save 23 = .ok (.aload_n 0, 1) := by decide +kernel
theorem dX0_save_24 : decode cX0_save 24 = .ok (.getfield 17, 3) := by decide +kernel
theorem dX0_save_27 : decode cX0_save 27 = .ok (.aload_n 0, 1) := by decide +kernel
theorem dX0_save_28 : decode cX0_save 28 = .ok (.getfield 11, 3) := by decide +kernel
theorem dX0_save_31 : decode cX0_save 31 = .ok (.arraylength, 1) := by decide +kernel
theorem dX0_save_32 : decode cX0_save 32 = .ok (.if_icmp .ge 50, 3) := by decide +kernel
theorem dX0_save_35 : decode cX0_save 35 = .ok (.aload_n 0, 1) := by decide +kernel
theorem dX0_save_36 : decode cX0_save 36 = .ok (.getfield 11, 3) := by decide +kernel
theorem dX0_save_39 : decode cX0_save 39 = .ok (.aload_n 0, 1) := by decide +kernel
theorem dX0_save_40 : decode cX0_save 40 = .ok (.getfield 17, 3) := by decide +kernel
theorem dX0_save_43 : decode cX0_save 43 = .ok (.aaload, 1) := by decide +kernel
theorem dX0_save_44 : decode cX0_save 44 = .ok (.astore_n 2, 1) := by decide +kernel
theorem dX0_save_45 : decode cX0_save 45 = .ok (.aload_n 2, 1) := by decide +kernel
theorem dX0_save_46 : decode cX0_save 46 = .ok (.ifnonnull 21, 3) := by decide +kernel
theorem dX0_save_49 : decode cX0_save 49 = .ok (.new 9, 3) := by decide +kernel
theorem dX0_save_52 : decode cX0_save 52 = .ok (.dup, 1) := by decide +kernel
theorem dX0_save_53 : decode cX0_save 53 = .ok (.invokespecial 24, 3) := by decide +kernel
theorem dX0_save_56 : decode cX0_save 56 = .ok (.astore_n 2, 1) := by decide +kernel
theorem dX0_save_57 : decode cX0_save 57 = .ok (.aload_n 0, 1) := by decide +kernel
theorem dX0_save_58 : decode cX0_save 58 = .ok (.getfield 11, 3) := by decide +kernel
theorem dX0_save_61 : decode cX0_save 61 = .ok (.aload_n 0, 1) := by decide +kernel
theorem dX0_save_62 : decode cX0_save 62 = .ok (.getfield 17, 3) := by decide +kernel
theorem dX0_save_65 : decode cX0_save 65 = .ok (.aload_n 2, 1) := by decide +kernel
theorem dX0_save_66 : decode cX0_save 66 = .ok (.aastore, 1) := by decide +kernel
theorem dX0_save_67 : decode cX0_save 67 = .ok (.aload_n 2, 1) := by decide +kernel
theorem dX0_save_68 : decode cX0_save 68 = .ok (.aload_n 1, 1) := by decide +kernel
theorem dX0_save_69 : decode cX0_save 69 = .ok (.invokevirtual 25, 3) := by decide +kernel
theorem dX0_save_72 : decode cX0_save 72 = .ok (.aload_n 0, 1) := by decide +kernel
theorem dX0_save_73 : decode cX0_save 73 = .ok (.dup, 1) := by decide +kernel
theorem dX0_save_74 : decode cX0_save 74 = .ok (.getfield 17, 3) := by decide +kernel
theorem dX0_save_77 : decode cX0_save 77 = .ok (.iconst 1, 1) := by decide +kernel
theorem dX0_save_78 : decode cX0_save 78 = .ok (.iadd, 1) := by decide +kernel
theorem dX0_save_79 : decode cX0_save 79 = .ok (.putfield 17, 3) := by decide +kernel
theorem dX0_save_82 : decode cX0_save 82 = .ok (.return_, 1) := by decide +kernel
theorem dX0_dropOldest_0 : decode cX0_dropOldest 0 = .ok (.aload_n 0, 1) := by decide +kernel
theorem dX0_dropOldest_1 : decode cX0_dropOldest 1 = .ok (.getfield 11, 3) := by decide +kernel
theorem dX0_dropOldest_4 : decode cX0_dropOldest 4 = .ok (.arraylength, 1) := by decide +kernel
theorem dX0_dropOldest_5 : decode cX0_dropOldest 5 = .ok (.ifCond .le 65, 3) := by decide +kernel
theorem dX0_dropOldest_8 : decode cX0_dropOldest 8 = .ok (.aload_n 0, 1) := by decide +kernel
theorem dX0_dropOldest_9 : decode cX0_dropOldest 9 = .ok (.getfield 11, 3) := by decide +kernel
theorem dX0_dropOldest_12 : decode cX0_dropOldest 12 = .ok (.iconst 0, 1) := by decide +kernel
theorem dX0_dropOldest_13 : decode cX0_dropOldest 13 = .ok (.aaload, 1) := by decide +kernel
theorem dX0_dropOldest_14 : decode cX0_dropOldest 14 = .ok (.astore_n 1, 1) := by decide +kernel
theorem dX0_dropOldest_15 : decode cX0_dropOldest 15 = .ok (.iconst 1, 1) := by decide +kernel
theorem dX0_dropOldest_16 : decode cX0_dropOldest 16 = .ok (.istore_n 2, 1) := by decide +kernel
theorem dX0_dropOldest_17 : decode cX0_dropOldest 17 = .ok (.iload_n 2, 1) := by decide +kernel
theorem dX0_dropOldest_18 : decode cX0_dropOldest 18 = .ok (.aload_n 0, 1) := by decide +kernel
theorem dX0_dropOldest_19 : decode cX0_dropOldest 19 = .ok (.getfield 11, 3) := by decide +kernel
theorem dX0_dropOldest_22 : decode cX0_dropOldest 22 = .ok (.arraylength, 1) := by decide +kernel
theorem dX0_dropOldest_23 : decode cX0_dropOldest 23 = .ok (.if_icmp .ge 23, 3) := by decide +kernel
theorem dX0_dropOldest_26 : decode cX0_dropOldest 26 = .ok (.aload_n 0, 1) := by decide +kernel
theorem dX0_dropOldest_27 : decode cX0_dropOldest 27 = .ok (.getfield 11, 3) := by decide +kernel
theorem dX0_dropOldest_30 : decode cX0_dropOldest 30 = .ok (.iload_n 2, 1) := by decide +kernel
theorem dX0_dropOldest_31 : decode cX0_dropOldest 31 = .ok (.iconst 1, 1) := by decide +kernel
theorem dX0_dropOldest_32 : decode cX0_dropOldest 32 = .ok (.isub, 1) := by decide +kernel
theorem dX0_dropOldest_33 : decode cX0_dropOldest 33 = .ok (.aload_n 0, 1) := by decide +kernel
theorem dX0_dropOldest_34 : decode cX0_dropOldest 34 = .ok (.getfield 11, 3) := by decide +kernel
theorem dX0_dropOldest_37 : decode cX0_dropOldest 37 = .ok (.iload_n 2, 1) := by decide +kernel
theorem dX0_dropOldest_38 : decode cX0_dropOldest 38 = .ok (.aaload, 1) := by decide +kernel
theorem dX0_dropOldest_39 : decode cX0_dropOldest 39 = .ok (.aastore, 1) := by decide +kernel
theorem dX0_dropOldest_40 : decode cX0_dropOldest 40 = .ok (.iinc 2 1, 3) := by decide +kernel
theorem dX0_dropOldest_43 : decode cX0_dropOldest 43 = .ok (.goto (-26), 3) := by decide +kernel
theorem dX0_dropOldest_46 : decode cX0_dropOldest 46 = .ok (.aload_n 0, 1) := by decide +kernel
theorem dX0_dropOldest_47 : decode cX0_dropOldest 47 = .ok (.getfield 11, 3) := by decide +kernel
theorem dX0_dropOldest_50 : decode cX0_dropOldest 50 = .ok (.aload_n 0, 1) := by decide +kernel
theorem dX0_dropOldest_51 : decode cX0_dropOldest 51 = .ok (.getfield 11, 3) := by decide +kernel
theorem dX0_dropOldest_54 : decode cX0_dropOldest 54 = .ok (.arraylength, 1) := by decide +kernel
theorem dX0_dropOldest_55 : decode cX0_dropOldest 55 = .ok (.iconst 1, 1) := by decide +kernel
theorem dX0_dropOldest_56 : decode cX0_dropOldest 56 = .ok (.isub, 1) := by decide +kernel
theorem dX0_dropOldest_57 : decode cX0_dropOldest 57 = .ok (.aload_n 1, 1) := by decide +kernel
theorem dX0_dropOldest_58 : decode cX0_dropOldest 58 = .ok (.aastore, 1) := by decide +kernel
theorem dX0_dropOldest_59 : decode cX0_dropOldest 59 = .ok (.aload_n 0, 1) := by decide +kernel
theorem dX0_dropOldest_60 : decode cX0_dropOldest 60 = .ok (.aload_n 0, 1) := by decide +kernel
theorem dX0_dropOldest_61 : decode cX0_dropOldest 61 = .ok (.getfield 11, 3) := by decide +kernel
theorem dX0_dropOldest_64 : decode cX0_dropOldest 64 = .ok (.arraylength, 1) := by decide +kernel
theorem dX0_dropOldest_65 : decode cX0_dropOldest 65 = .ok (.iconst 1, 1) := by decide +kernel
theorem dX0_dropOldest_66 : decode cX0_dropOldest 66 = .ok (.isub, 1) := by decide +kernel
theorem dX0_dropOldest_67 : decode cX0_dropOldest 67 = .ok (.putfield 17, 3) := by decide +kernel
theorem dX0_dropOldest_70 : decode cX0_dropOldest 70 = .ok (.return_, 1) := by decide +kernel
theorem dX1_init_0 : decode cX1_init 0 = .ok (.aload_n 0, 1) := by decide +kernel
theorem dX1_init_1 : decode cX1_init 1 = .ok (.invokespecial 3, 3) := by decide +kernel
theorem dX1_init_4 : decode cX1_init 4 = .ok (.aload_n 0, 1) := by decide +kernel
theorem dX1_init_5 : decode cX1_init 5 = .ok (.bipush 12, 2) := by decide +kernel
theorem dX1_init_7 : decode cX1_init 7 = .ok (.newarray .int, 2) := by decide +kernel
theorem dX1_init_9 : decode cX1_init 9 = .ok (.putfield 9, 3) := by decide +kernel
theorem dX1_init_12 : decode cX1_init 12 = .ok (.aload_n 0, 1) := by decide +kernel
theorem dX1_init_13 : decode cX1_init 13 = .ok (.iconst 0, 1) := by decide +kernel
theorem dX1_init_14 : decode cX1_init 14 = .ok (.putfield 15, 3) := by decide +kernel
theorem dX1_init_17 : decode cX1_init 17 = .ok (.aload_n 0, 1) := by decide +kernel
theorem dX1_init_18 : decode cX1_init 18 = .ok (.iconst 2, 1) := by decide +kernel
theorem dX1_init_19 : decode cX1_init 19 = .ok (.putfield 19, 3) := by decide +kernel
theorem dX1_init_22 : decode cX1_init 22 = .ok (.aload_n 0, 1) := by decide +kernel
theorem dX1_init_23 : decode cX1_init 23 = .ok (.iconst 0, 1) := by decide +kernel
theorem dX1_init_24 : decode cX1_init 24 = .ok (.putfield 22, 3) := by decide +kernel
theorem dX1_init_27 : decode cX1_init 27 = .ok (.aload_n 0, 1) := by decide +kernel
theorem dX1_init_28 : decode cX1_init 28 = .ok (.iconst 0, 1) := by decide +kernel
theorem dX1_init_29 : decode cX1_init 29 = .ok (.putfield 25, 3) := by decide +kernel
theorem dX1_init_32 : decode cX1_init 32 = .ok (.aload_n 0, 1) := by decide +kernel
theorem dX1_init_33 : decode cX1_init 33 = .ok (.iconst 0, 1) := by decide +kernel
theorem dX1_init_34 : decode cX1_init 34 = .ok (.putfield 28, 3) := by decide +kernel
theorem dX1_init_37 : decode cX1_init 37 = .ok (.return_, 1) := by decide +kernel
theorem dX1_has_0 : decode cX1_has 0 = .ok (.iload_n 1, 1) := by decide +kernel
theorem dX1_has_1 : decode cX1_has 1 = .ok (.ifCond .lt 24, 3) := by decide +kernel
theorem dX1_has_4 : decode cX1_has 4 = .ok (.iload_n 1, 1) := by decide +kernel
theorem dX1_has_5 : decode cX1_has 5 = .ok (.aload_n 0, 1) := by decide +kernel
theorem dX1_has_6 : decode cX1_has 6 = .ok (.getfield 15, 3) := by decide +kernel
theorem dX1_has_9 : decode cX1_has 9 = .ok (.if_icmp .ge 16, 3) := by decide +kernel
theorem dX1_has_12 : decode cX1_has 12 = .ok (.iload_n 1, 1) := by decide +kernel
theorem dX1_has_13 : decode cX1_has 13 = .ok (.aload_n 0, 1) := by decide +kernel
theorem dX1_has_14 : decode cX1_has 14 = .ok (.getfield 9, 3) := by decide +kernel
theorem dX1_has_17 : decode cX1_has 17 = .ok (.arraylength, 1) := by decide +kernel
theorem dX1_has_18 : decode cX1_has 18 = .ok (.if_icmp .ge 7, 3) := by decide +kernel
theorem dX1_has_21 : decode cX1_has 21 = .ok (.iconst 1, 1) := by decide +kernel
theorem dX1_has_22 : decode cX1_has 22 = .ok (.goto 4, 3) := by decide +kernel
theorem dX1_has_25 : decode cX1_has 25 = .ok (.iconst 0, 1) := by decide +kernel
theorem dX1_has_26 : decode cX1_has 26 = .ok (.ireturn, 1) := by decide +kernel
theorem dX1_maskOf_0 : decode cX1_maskOf 0 = .ok (.iload_n 1, 1) := by decide +kernel
theorem dX1_maskOf_1 : decode cX1_maskOf 1 = .ok (.ifCond .lt 29, 3) := by decide +kernel
theorem dX1_maskOf_4 : decode cX1_maskOf 4 = .ok (.iload_n 1, 1) := by decide +kernel
theorem dX1_maskOf_5 : decode cX1_maskOf 5 = .ok (.aload_n 0, 1) := by decide +kernel
theorem dX1_maskOf_6 : decode cX1_maskOf 6 = .ok (.getfield 15, 3) := by decide +kernel
theorem dX1_maskOf_9 : decode cX1_maskOf 9 = .ok (.if_icmp .ge 21, 3) := by decide +kernel
theorem dX1_maskOf_12 : decode cX1_maskOf 12 = .ok (.iload_n 1, 1) := by decide +kernel
theorem dX1_maskOf_13 : decode cX1_maskOf 13 = .ok (.aload_n 0, 1) := by decide +kernel
theorem dX1_maskOf_14 : decode cX1_maskOf 14 = .ok (.getfield 9, 3) := by decide +kernel
theorem dX1_maskOf_17 : decode cX1_maskOf 17 = .ok (.arraylength, 1) := by decide +kernel
theorem dX1_maskOf_18 : decode cX1_maskOf 18 = .ok (.if_icmp .ge 12, 3) := by decide +kernel
theorem dX1_maskOf_21 : decode cX1_maskOf 21 = .ok (.aload_n 0, 1) := by decide +kernel
theorem dX1_maskOf_22 : decode cX1_maskOf 22 = .ok (.getfield 9, 3) := by decide +kernel
theorem dX1_maskOf_25 : decode cX1_maskOf 25 = .ok (.iload_n 1, 1) := by decide +kernel
theorem dX1_maskOf_26 : decode cX1_maskOf 26 = .ok (.iaload, 1) := by decide +kernel
theorem dX1_maskOf_27 : decode cX1_maskOf 27 = .ok (.goto 4, 3) := by decide +kernel
theorem dX1_maskOf_30 : decode cX1_maskOf 30 = .ok (.iconst 0, 1) := by decide +kernel
theorem dX1_maskOf_31 : decode cX1_maskOf 31 = .ok (.ireturn, 1) := by decide +kernel
theorem dX1_put_0 : decode cX1_put 0 = .ok (.aload_n 0, 1) := by decide +kernel
theorem dX1_put_1 : decode cX1_put 1 = .ok (.getfield 15, 3) := by decide +kernel
theorem dX1_put_4 : decode cX1_put 4 = .ok (.ifCond .lt 35, 3) := by decide +kernel
theorem dX1_put_7 : decode cX1_put 7 = .ok (.aload_n 0, 1) := by decide +kernel
theorem dX1_put_8 : decode cX1_put 8 = .ok (.getfield 15, 3) := by decide +kernel
theorem dX1_put_11 : decode cX1_put 11 = .ok (.aload_n 0, 1) := by decide +kernel
theorem dX1_put_12 : decode cX1_put 12 = .ok (.getfield 9, 3) := by decide +kernel
theorem dX1_put_15 : decode cX1_put 15 = .ok (.arraylength, 1) := by decide +kernel
theorem dX1_put_16 : decode cX1_put 16 = .ok (.if_icmp .ge 23, 3) := by decide +kernel
theorem dX1_put_19 : decode cX1_put 19 = .ok (.aload_n 0, 1) := by decide +kernel
theorem dX1_put_20 : decode cX1_put 20 = .ok (.getfield 9, 3) := by decide +kernel
theorem dX1_put_23 : decode cX1_put 23 = .ok (.aload_n 0, 1) := by decide +kernel
theorem dX1_put_24 : decode cX1_put 24 = .ok (.getfield 15, 3) := by decide +kernel
theorem dX1_put_27 : decode cX1_put 27 = .ok (.iload_n 1, 1) := by decide +kernel
theorem dX1_put_28 : decode cX1_put 28 = .ok (.iastore, 1) := by decide +kernel
theorem dX1_put_29 : decode cX1_put 29 = .ok (.aload_n 0, 1) := by decide +kernel
theorem dX1_put_30 : decode cX1_put 30 = .ok (.dup, 1) := by decide +kernel
theorem dX1_put_31 : decode cX1_put 31 = .ok (.getfield 15, 3) := by decide +kernel
theorem dX1_put_34 : decode cX1_put 34 = .ok (.iconst 1, 1) := by decide +kernel
theorem dX1_put_35 : decode cX1_put 35 = .ok (.iadd, 1) := by decide +kernel
theorem dX1_put_36 : decode cX1_put 36 = .ok (.putfield 15, 3) := by decide +kernel
theorem dX1_put_39 : decode cX1_put 39 = .ok (.return_, 1) := by decide +kernel
set_option maxRecDepth 20000 in
theorem ggX1_drop_X1_has : GoodIn wsX1_drop wsX1_has := goodIn_r _ [7, 1, 2, 8, 9, 10, 11, 12, 13] (by decide +kernel) (by decide +kernel)
set_option maxRecDepth 20000 in
theorem gX1_drop_X1_has : GoodIn wsX1_drop (wsV RX1 31 RX1 yX1_has wsX1_has) := goodIn_app (goodIn_of _ (by decide +kernel)) ggX1_drop_X1_has
theorem dX1_drop_0 : decode cX1_drop 0 = .ok (.aload_n 0, 1) := by decide +kernel
theorem dX1_drop_1 : decode cX1_drop 1 = .ok (.iload_n 1, 1) := by decide +kernel
theorem dX1_drop_2 : decode cX1_drop 2 = .ok (.invokevirtual 31, 3) := by decide +kernel
theorem dX1_drop_5 : decode cX1_drop 5 = .ok (.ifCond .eq 54, 3) := by decide +kernel
theorem dX1_drop_8 : decode cX1_drop 8 = .ok (.iload_n 1, 1) := by decide +kernel
theorem dX1_drop_9 : decode cX1_drop 9 = .ok (.iconst 1, 1) := by decide +kernel
theorem dX1_drop_10 : decode cX1_drop 10 = .ok (.iadd, 1) := by decide +kernel
theorem dX1_drop_11 : decode cX1_drop 11 = .ok (.istore_n 2, 1) := by decide +kernel
theorem dX1_drop_12 : decode cX1_drop 12 = .ok (.iload_n 2, 1) := by decide +kernel
theorem dX1_drop_13 : decode cX1_drop 13 = .ok (.aload_n 0, 1) := by decide +kernel
theorem dX1_drop_14 : decode cX1_drop 14 = .ok (.getfield 15, 3) := by decide +kernel
theorem dX1_drop_17 : decode cX1_drop 17 = .ok (.if_icmp .ge 32, 3) := by decide +kernel
theorem dX1_drop_20 : decode cX1_drop 20 = .ok (.iload_n 2, 1) := by decide +kernel
theorem dX1_drop_21 : decode cX1_drop 21 = .ok (.aload_n 0, 1) := by decide +kernel
theorem dX1_drop_22 : decode cX1_drop 22 = .ok (.getfield 9, 3) := by decide +kernel
theorem dX1_drop_25 : decode cX1_drop 25 = .ok (.arraylength, 1) := by decide +kernel
theorem dX1_drop_26 : decode cX1_drop 26 = .ok (.if_icmp .ge 23, 3) := by decide +kernel
theorem dX1_drop_29 : decode cX1_drop 29 = .ok (.aload_n 0, 1) := by decide +kernel
theorem dX1_drop_30 : decode cX1_drop 30 = .ok (.getfield 9, 3) := by decide +kernel
theorem dX1_drop_33 : decode cX1_drop 33 = .ok (.iload_n 2, 1) := by decide +kernel
theorem dX1_drop_34 : decode cX1_drop 34 = .ok (.iconst 1, 1) := by decide +kernel
theorem dX1_drop_35 : decode cX1_drop 35 = .ok (.isub, 1) := by decide +kernel
theorem dX1_drop_36 : decode cX1_drop 36 = .ok (.aload_n 0, 1) := by decide +kernel
theorem dX1_drop_37 : decode cX1_drop 37 = .ok (.getfield 9, 3) := by decide +kernel
theorem dX1_drop_40 : decode cX1_drop 40 = .ok (.iload_n 2, 1) := by decide +kernel
theorem dX1_drop_41 : decode cX1_drop 41 = .ok (.iaload, 1) := by decide +kernel
theorem dX1_drop_42 : decode cX1_drop 42 = .ok (.iastore, 1) := by decide +kernel
theorem dX1_drop_43 : decode cX1_drop 43 = .ok (.iinc 2 1, 3) := by decide +kernel
theorem dX1_drop_46 : decode cX1_drop 46 = .ok (.goto (-34), 3) := by decide +kernel
theorem dX1_drop_49 : decode cX1_drop 49 = .ok (.aload_n 0, 1) := by decide +kernel
theorem dX1_drop_50 : decode cX1_drop 50 = .ok (.dup, 1) := by decide +kernel
theorem dX1_drop_51 : decode cX1_drop 51 = .ok (.getfield 15, 3) := by decide +kernel
theorem dX1_drop_54 : decode cX1_drop 54 = .ok (.iconst 1, 1) := by decide +kernel
theorem dX1_drop_55 : decode cX1_drop 55 = .ok (.isub, 1) := by decide +kernel
theorem dX1_drop_56 : decode cX1_drop 56 = .ok (.putfield 15, 3) := by decide +kernel
theorem dX1_drop_59 : decode cX1_drop 59 = .ok (.return_, 1) := by decide +kernel
theorem dX1_copy_0 : decode cX1_copy 0 = .ok (.iconst 0, 1) := by decide +kernel
theorem dX1_copy_1 : decode cX1_copy 1 = .ok (.istore_n 2, 1) := by decide +kernel
theorem dX1_copy_2 : decode cX1_copy 2 = .ok (.iload_n 2, 1) := by decide +kernel
theorem dX1_copy_3 : decode cX1_copy 3 = .ok (.aload_n 1, 1) := by decide +kernel
theorem dX1_copy_4 : decode cX1_copy 4 = .ok (.getfield 15, 3) := by decide +kernel
theorem dX1_copy_7 : decode cX1_copy 7 = .ok (.if_icmp .ge 39, 3) := by decide +kernel
theorem dX1_copy_10 : decode cX1_copy 10 = .ok (.iload_n 2, 1) := by decide +kernel
theorem dX1_copy_11 : decode cX1_copy 11 = .ok (.aload_n 1, 1) := by decide +kernel
theorem dX1_copy_12 : decode cX1_copy 12 = .ok (.getfield 9, 3) := by decide +kernel
theorem dX1_copy_15 : decode cX1_copy 15 = .ok (.arraylength, 1) := by decide +kernel
theorem dX1_copy_16 : decode cX1_copy 16 = .ok (.if_icmp .ge 30, 3) := by decide +kernel
theorem dX1_copy_19 : decode cX1_copy 19 = .ok (.iload_n 2, 1) := by decide +kernel
theorem dX1_copy_20 : decode cX1_copy 20 = .ok (.aload_n 0, 1) := by decide +kernel
theorem dX1_copy_21 : decode cX1_copy 21 = .ok (.getfield 9, 3) := by decide +kernel
theorem dX1_copy_24 : decode cX1_copy 24 = .ok (.arraylength, 1) := by decide +kernel
theorem dX1_copy_25 : decode cX1_copy 25 = .ok (.if_icmp .ge 21, 3) := by decide +kernel
theorem dX1_copy_28 : decode cX1_copy 28 = .ok (.aload_n 0, 1) := by decide +kernel
theorem dX1_copy_29 : decode cX1_copy 29 = .ok (.getfield 9, 3) := by decide +kernel
theorem dX1_copy_32 : decode cX1_copy 32 = .ok (.iload_n 2, 1) := by decide +kernel
theorem dX1_copy_33 : decode cX1_copy 33 = .ok (.aload_n 1, 1) := by decide +kernel
theorem dX1_copy_34 : decode cX1_copy 34 = .ok (.getfield 9, 3) := by decide +kernel
theorem dX1_copy_37 : decode cX1_copy 37 = .ok (.iload_n 2, 1) := by decide +kernel
theorem dX1_copy_38 : decode cX1_copy 38 = .ok (.iaload, 1) := by decide +kernel
theorem dX1_copy_39 : decode cX1_copy 39 = .ok (.iastore, 1) := by decide +kernel
theorem dX1_copy_40 : decode cX1_copy 40 = .ok (.iinc 2 1, 3) := by decide +kernel
theorem dX1_copy_43 : decode cX1_copy 43 = .ok (.goto (-41), 3) := by decide +kernel
theorem dX1_copy_46 : decode cX1_copy 46 = .ok (.aload_n 0, 1) := by decide +kernel
theorem dX1_copy_47 : decode cX1_copy 47 = .ok (.aload_n 1, 1) := by decide +kernel
theorem dX1_copy_48 : decode cX1_copy 48 = .ok (.getfield 15, 3) := by decide +kernel
theorem dX1_copy_51 : decode cX1_copy 51 = .ok (.putfield 15, 3) := by decide +kernel
theorem dX1_copy_54 : decode cX1_copy 54 = .ok (.return_, 1) := by decide +kernel
theorem dX1_areSame_0 : decode cX1_areSame 0 = .ok (.aload_n 0, 1) := by decide +kernel
theorem dX1_areSame_1 : decode cX1_areSame 1 = .ok (.getfield 15, 3) := by decide +kernel
theorem dX1_areSame_4 : decode cX1_areSame 4 = .ok (.aload_n 1, 1) := by decide +kernel
theorem dX1_areSame_5 : decode cX1_areSame 5 = .ok (.getfield 15, 3) := by decide +kernel
theorem dX1_areSame_8 : decode cX1_areSame 8 = .ok (.if_icmp .eq 5, 3) := by decide +kernel
theorem dX1_areSame_11 : decode cX1_areSame 11 = .ok (.iconst 0, 1) := by decide +kernel
theorem dX1_areSame_12 : decode cX1_areSame 12 = .ok (.ireturn, 1) := by decide +kernel
theorem dX1_areSame_13 : decode cX1_areSame 13 = .ok (.iconst 0, 1) := by decide +kernel
theorem dX1_areSame_14 : decode cX1_areSame 14 = .ok (.istore_n 2, 1) := by decide +kernel
theorem dX1_areSame_15 : decode cX1_areSame 15 = .ok (.iload_n 2, 1) := by decide +kernel
theorem dX1_areSame_16 : decode cX1_areSame 16 = .ok (.aload_n 0, 1) := by decide +kernel
theorem dX1_areSame_17 : decode cX1_areSame 17 = .ok (.getfield 15, 3) := by decide +kernel
theorem dX1_areSame_20 : decode cX1_areSame 20 = .ok (.if_icmp .ge 44, 3) := by decide +kernel
theorem dX1_areSame_23 : decode cX1_areSame 23 = .ok (.iload_n 2, 1) := by decide +kernel
theorem dX1_areSame_24 : decode cX1_areSame 24 = .ok (.aload_n 0, 1) := by decide +kernel
theorem dX1_areSame_25 : decode cX1_areSame 25 = .ok (.getfield 9, 3) := by decide +kernel
theorem dX1_areSame_28 : decode cX1_areSame 28 = .ok (.arraylength, 1) := by decide +kernel
theorem dX1_areSame_29 : decode cX1_areSame 29 = .ok (.if_icmp .ge 35, 3) := by decide +kernel
theorem dX1_areSame_32 : decode cX1_areSame 32 = .ok (.iload_n 2, 1) := by decide +kernel
theorem dX1_areSame_33 : decode cX1_areSame 33 = .ok (.aload_n 1, 1) := by decide +kernel
theorem dX1_areSame_34 : decode cX1_areSame 34 = .ok (.getfield 9, 3) := by decide +kernel
theorem dX1_areSame_37 : decode cX1_areSame 37 = .ok (.arraylength, 1) := by decide +kernel
theorem dX1_areSame_38 : decode cX1_areSame 38 = .ok (.if_icmp .ge 26, 3) := by decide +kernel
theorem dX1_areSame_41 : decode cX1_areSame 41 = .ok (.aload_n 0, 1) := by decide +kernel
theorem dX1_areSame_42 : decode cX1_areSame 42 = .ok (.getfield 9, 3) := by decide +kernel
theorem dX1_areSame_45 : decode cX1_areSame 45 = .ok (.iload_n 2, 1) := by decide +kernel
theorem dX1_areSame_46 : decode cX1_areSame 46 = .ok (.iaload, 1) := by decide +kernel
theorem dX1_areSame_47 : decode cX1_areSame 47 = .ok (.aload_n 1, 1) := by decide +kernel
theorem dX1_areSame_48 : decode cX1_areSame 48 = .ok (.getfield 9, 3) := by decide +kernel
theorem dX1_areSame_51 : decode cX1_areSame 51 = .ok (.iload_n 2, 1) := by decide +kernel
theorem dX1_areSame_52 : decode cX1_areSame 52 = .ok (.iaload, 1) := by decide +kernel
theorem dX1_areSame_53 : decode cX1_areSame 53 = .ok (.if_icmp .eq 5, 3) := by decide +kernel
theorem dX1_areSame_56 : decode cX1_areSame 56 = .ok (.iconst 0, 1) := by decide +kernel
theorem dX1_areSame_57 : decode cX1_areSame 57 = .ok (.ireturn, 1) := by decide +kernel
theorem dX1_areSame_58 : decode cX1_areSame 58 = .ok (.iinc 2 1, 3) := by decide +kernel
theorem dX1_areSame_61 : decode cX1_areSame 61 = .ok (.goto (-46), 3) := by decide +kernel
theorem dX1_areSame_64 : decode cX1_areSame 64 = .ok (.iconst 1, 1) := by decide +kernel
theorem dX1_areSame_65 : decode cX1_areSame 65 = .ok (.ireturn, 1) := by decide +kernel
set_option maxRecDepth 20000 in
theorem ggX1_survey_J6_bitCount_0f7a4 : GoodIn wsX1_survey wsJ6_bitCount_0f7a4 := goodIn_r _ [10, 11, 12, 13] (by decide +kernel) (by decide +kernel)
set_option maxRecDepth 20000 in
theorem gX1_survey_J6_bitCount_0f7a4 : GoodIn wsX1_survey (va_wsS RX1 35 yJ6_bitCount_0f7a4 wsJ6_bitCount_0f7a4) := goodIn_app (goodIn_of _ (by decide +kernel)) ggX1_survey_J6_bitCount_0f7a4
theorem dX1_survey_0 : decode cX1_survey 0 = .ok (.iconst 0, 1) := by decide +kernel
theorem dX1_survey_1 : decode cX1_survey 1 = .ok (.istore_n 3, 1) := by decide +kernel
theorem dX1_survey_2 : decode cX1_survey 2 = .ok (.aload_n 0, 1) := by decide +kernel
theorem dX1_survey_3 : decode cX1_survey 3 = .ok (.iconst 0, 1) := by decide +kernel
theorem dX1_survey_4 : decode cX1_survey 4 = .ok (.putfield 22, 3) := by decide +kernel
theorem dX1_survey_7 : decode cX1_survey 7 = .ok (.aload_n 0, 1) := by decide +kernel
theorem dX1_survey_8 : decode cX1_survey 8 = .ok (.iconst 0, 1) := by decide +kernel
theorem dX1_survey_9 : decode cX1_survey 9 = .ok (.putfield 25, 3) := by decide +kernel
theorem dX1_survey_12 : decode cX1_survey 12 = .ok (.aload_n 0, 1) := by decide +kernel
theorem dX1_survey_13 : decode cX1_survey 13 = .ok (.iconst 0, 1) := by decide +kernel
theorem dX1_survey_14 : decode cX1_survey 14 = .ok (.putfield 28, 3) := by decide +kernel
theorem dX1_survey_17 : decode cX1_survey 17 = .ok (.iconst 0, 1) := by decide +kernel
theorem dX1_survey_18 : decode cX1_survey 18 = .ok (.istore 4, 2) := by decide +kernel
theorem dX1_survey_20 : decode cX1_survey 20 = .ok (.iload 4, 2) := by decide +kernel
theorem dX1_survey_22 : decode cX1_survey 22 = .ok (.aload_n 0, 1) := by decide +kernel
theorem dX1_survey_23 : decode cX1_survey 23 = .ok (.getfield 15, 3) := by decide +kernel
theorem dX1_survey_26 : decode cX1_survey 26 = .ok (.if_icmp .ge 112, 3) := by decide +kernel
theorem dX1_survey_29 : decode cX1_survey 29 = .ok (.iload 4, 2) := by decide +kernel
theorem dX1_survey_31 : decode cX1_survey 31 = .ok (.aload_n 0, 1) := by decide +kernel
theorem dX1_survey_32 : decode cX1_survey 32 = .ok (.getfield 9, 3) := by decide +kernel
theorem dX1_survey_35 : decode cX1_survey 35 = .ok (.arraylength, 1) := by decide +kernel
theorem dX1_survey_36 : decode cX1_survey 36 = .ok (.if_icmp .ge 102, 3) := by decide +kernel
theorem dX1_survey_39 : decode cX1_survey 39 = .ok (.aload_n 0, 1) := by decide +kernel
theorem dX1_survey_40 : decode cX1_survey 40 = .ok (.getfield 9, 3) := by decide +kernel
theorem dX1_survey_43 : decode cX1_survey 43 = .ok (.iload 4, 2) := by decide +kernel
theorem dX1_survey_45 : decode cX1_survey 45 = .ok (.iaload, 1) := by decide +kernel
theorem dX1_survey_46 : decode cX1_survey 46 = .ok (.iload_n 2, 1) := by decide +kernel
theorem dX1_survey_47 : decode cX1_survey 47 = .ok (.iand, 1) := by decide +kernel
theorem dX1_survey_48 : decode cX1_survey 48 = .ok (.ifCond .ne 84, 3) := by decide +kernel
theorem dX1_survey_51 : decode cX1_survey 51 = .ok (.aload_n 0, 1) := by decide +kernel
theorem dX1_survey_52 : decode cX1_survey 52 = .ok (.getfield 9, 3) := by decide +kernel
theorem dX1_survey_55 : decode cX1_survey 55 = .ok (.iload 4, 2) := by decide +kernel
theorem dX1_survey_57 : decode cX1_survey 57 = .ok (.iaload, 1) := by decide +kernel
theorem dX1_survey_58 : decode cX1_survey 58 = .ok (.iload_n 1, 1) := by decide +kernel
theorem dX1_survey_59 : decode cX1_survey 59 = .ok (.iconst (-1), 1) := by decide +kernel
theorem dX1_survey_60 : decode cX1_survey 60 = .ok (.ixor, 1) := by decide +kernel
theorem dX1_survey_61 : decode cX1_survey 61 = .ok (.iand, 1) := by decide +kernel
theorem dX1_survey_62 : decode cX1_survey 62 = .ok (.istore 5, 2) := by decide +kernel
theorem dX1_survey_64 : decode cX1_survey 64 = .ok (.iload 5, 2) := by decide +kernel
theorem dX1_survey_66 : decode cX1_survey 66 = .ok (.invokestatic 35, 3) := by decide +kernel
theorem dX1_survey_69 : decode cX1_survey 69 = .ok (.istore 6, 2) := by decide +kernel
theorem dX1_survey_71 : decode cX1_survey 71 = .ok (.aload_n 0, 1) := by decide +kernel
theorem dX1_survey_72 : decode cX1_survey 72 = .ok (.dup, 1) := by decide +kernel
theorem dX1_survey_73 : decode cX1_survey 73 = .ok (.getfield 22, 3) := by decide +kernel
theorem dX1_survey_76 : decode cX1_survey 76 = .ok (.iconst 1, 1) := by decide +kernel
theorem dX1_survey_77 : decode cX1_survey 77 = .ok (.iadd, 1) := by decide +kernel
theorem dX1_survey_78 : decode cX1_survey 78 = .ok (.putfield 22, 3) := by decide +kernel
theorem dX1_survey_81 : decode cX1_survey 81 = .ok (.aload_n 0, 1) := by decide +kernel
theorem dX1_survey_82 : decode cX1_survey 82 = .ok (.dup, 1) := by decide +kernel
theorem dX1_survey_83 : decode cX1_survey 83 = .ok (.getfield 25, 3) := by decide +kernel
theorem dX1_survey_86 : decode cX1_survey 86 = .ok (.sipush 1024, 3) := by decide +kernel
theorem dX1_survey_89 : decode cX1_survey 89 = .ok (.iload 6, 2) := by decide +kernel
theorem dX1_survey_91 : decode cX1_survey 91 = .ok (.ishr, 1) := by decide +kernel
theorem dX1_survey_92 : decode cX1_survey 92 = .ok (.iadd, 1) := by decide +kernel
theorem dX1_survey_93 : decode cX1_survey 93 = .ok (.putfield 25, 3) := by decide +kernel
theorem dX1_survey_96 : decode cX1_survey 96 = .ok (.iload_n 3, 1) := by decide +kernel
theorem dX1_survey_97 : decode cX1_survey 97 = .ok (.ifCond .ne 8, 3) := by decide +kernel
theorem dX1_survey_100 : decode cX1_survey 100 = .ok (.iload 6, 2) := by decide +kernel
theorem dX1_survey_102 : decode cX1_survey 102 = .ok (.ifCond .ne 7, 3) := by decide +kernel
theorem dX1_survey_105 : decode cX1_survey 105 = .ok (.iconst 1, 1) := by decide +kernel
theorem dX1_survey_106 : decode cX1_survey 106 = .ok (.goto 4, 3) := by decide +kernel
theorem dX1_survey_109 : decode cX1_survey 109 = .ok (.iconst 0, 1) := by decide +kernel
theorem dX1_survey_110 : decode cX1_survey 110 = .ok (.istore_n 3, 1) := by decide +kernel
theorem dX1_survey_111 : decode cX1_survey 111 = .ok (.aload_n 0, 1) := by decide +kernel
theorem dX1_survey_112 : decode cX1_survey 112 = .ok (.dup, 1) := by decide +kernel
theorem dX1_survey_113 : decode cX1_survey 113 = .ok (.getfield 28, 3) := by decide +kernel
theorem dX1_survey_116 : decode cX1_survey 116 = .ok (.iload 6, 2) := by decide +kernel
theorem dX1_survey_118 : decode cX1_survey 118 = .ok (.iconst 1, 1) := by decide +kernel
theorem dX1_survey_119 : decode cX1_survey 119 = .ok (.if_icmp .ne 8, 3) := by decide +kernel
theorem dX1_survey_122 : decode cX1_survey 122 = .ok (.iload 5, 2) := by decide +kernel
theorem dX1_survey_124 : decode cX1_survey 124 = .ok (.goto 4, 3) := by decide +kernel
theorem dX1_survey_127 : decode cX1_survey 127 = .ok (.iconst 0, 1) := by decide +kernel
theorem dX1_survey_128 : decode cX1_survey 128 = .ok (.ior, 1) := by decide +kernel
theorem dX1_survey_129 : decode cX1_survey 129 = .ok (.putfield 28, 3) := by decide +kernel
theorem dX1_survey_132 : decode cX1_survey 132 = .ok (.iinc 4 1, 3) := by decide +kernel
theorem dX1_survey_135 : decode cX1_survey 135 = .ok (.goto (-115), 3) := by decide +kernel
theorem dX1_survey_138 : decode cX1_survey 138 = .ok (.aload_n 0, 1) := by decide +kernel
theorem dX1_survey_139 : decode cX1_survey 139 = .ok (.aload_n 0, 1) := by decide +kernel
theorem dX1_survey_140 : decode cX1_survey 140 = .ok (.getfield 22, 3) := by decide +kernel
theorem dX1_survey_143 : decode cX1_survey 143 = .ok (.ifCond .ne 7, 3) := by decide +kernel
theorem dX1_survey_146 : decode cX1_survey 146 = .ok (.iconst 2, 1) := by decide +kernel
theorem dX1_survey_147 : decode cX1_survey 147 = .ok (.goto 4, 3) := by decide +kernel
theorem dX1_survey_150 : decode cX1_survey 150 = .ok (.iconst 0, 1) := by decide +kernel
theorem dX1_survey_151 : decode cX1_survey 151 = .ok (.putfield 19, 3) := by decide +kernel
theorem dX1_survey_154 : decode cX1_survey 154 = .ok (.aload_n 0, 1) := by decide +kernel
theorem dX1_survey_155 : decode cX1_survey 155 = .ok (.iload_n 3, 1) := by decide +kernel
theorem dX1_survey_156 : decode cX1_survey 156 = .ok (.ifCond .eq 7, 3) := by decide +kernel
theorem dX1_survey_159 : decode cX1_survey 159 = .ok (.iconst 1, 1) := by decide +kernel
theorem dX1_survey_160 : decode cX1_survey 160 = .ok (.goto 7, 3) := by decide +kernel
theorem dX1_survey_163 : decode cX1_survey 163 = .ok (.aload_n 0, 1) := by decide +kernel
theorem dX1_survey_164 : decode cX1_survey 164 = .ok (.getfield 19, 3) := by decide +kernel
theorem dX1_survey_167 : decode cX1_survey 167 = .ok (.putfield 19, 3) := by decide +kernel
theorem dX1_survey_170 : decode cX1_survey 170 = .ok (.return_, 1) := by decide +kernel
set_option maxRecDepth 20000 in
theorem ggX1_weightWith_J6_bitCount_0f7a4 : GoodIn wsX1_weightWith wsJ6_bitCount_0f7a4 := goodIn_r _ [6, 7, 8, 9] (by decide +kernel) (by decide +kernel)
set_option maxRecDepth 20000 in
theorem gX1_weightWith_J6_bitCount_0f7a4 : GoodIn wsX1_weightWith (va_wsS RX1 35 yJ6_bitCount_0f7a4 wsJ6_bitCount_0f7a4) := goodIn_app (goodIn_of _ (by decide +kernel)) ggX1_weightWith_J6_bitCount_0f7a4
theorem dX1_weightWith_0 : decode cX1_weightWith 0 = .ok (.iconst 0, 1) := by decide +kernel
theorem dX1_weightWith_1 : decode cX1_weightWith 1 = .ok (.istore 4, 2) := by decide +kernel
theorem dX1_weightWith_3 : decode cX1_weightWith 3 = .ok (.iconst 0, 1) := by decide +kernel
theorem dX1_weightWith_4 : decode cX1_weightWith 4 = .ok (.istore 5, 2) := by decide +kernel
theorem dX1_weightWith_6 : decode cX1_weightWith 6 = .ok (.iload 5, 2) := by decide +kernel
theorem dX1_weightWith_8 : decode cX1_weightWith 8 = .ok (.aload_n 0, 1) := by decide +kernel
theorem dX1_weightWith_9 : decode cX1_weightWith 9 = .ok (.getfield 15, 3) := by decide +kernel
theorem dX1_weightWith_12 : decode cX1_weightWith 12 = .ok (.if_icmp .ge 68, 3) := by decide +kernel
theorem dX1_weightWith_15 : decode cX1_weightWith 15 = .ok (.iload 5, 2) := by decide +kernel
theorem dX1_weightWith_17 : decode cX1_weightWith 17 = .ok (.aload_n 0, 1) := by decide +kernel
theorem dX1_weightWith_18 : decode cX1_weightWith 18 = .ok (.getfield 9, 3) := by decide +kernel
theorem dX1_weightWith_21 : decode cX1_weightWith 21 = .ok (.arraylength, 1) := by decide +kernel
theorem dX1_weightWith_22 : decode cX1_weightWith 22 = .ok (.if_icmp .ge 58, 3) := by decide +kernel
theorem dX1_weightWith_25 : decode cX1_weightWith 25 = .ok (.aload_n 0, 1) := by decide +kernel
theorem dX1_weightWith_26 : decode cX1_weightWith 26 = .ok (.getfield 9, 3) := by decide +kernel
theorem dX1_weightWith_29 : decode cX1_weightWith 29 = .ok (.iload 5, 2) := by decide +kernel
theorem dX1_weightWith_31 : decode cX1_weightWith 31 = .ok (.iaload, 1) := by decide +kernel
theorem dX1_weightWith_32 : decode cX1_weightWith 32 = .ok (.iconst 1, 1) := by decide +kernel
theorem dX1_weightWith_33 : decode cX1_weightWith 33 = .ok (.iload_n 1, 1) := by decide +kernel
theorem dX1_weightWith_34 : decode cX1_weightWith 34 = .ok (.ishl, 1) := by decide +kernel
theorem dX1_weightWith_35 : decode cX1_weightWith 35 = .ok (.iand, 1) := by decide +kernel
theorem dX1_weightWith_36 : decode cX1_weightWith 36 = .ok (.ifCond .eq 38, 3) := by decide +kernel
theorem dX1_weightWith_39 : decode cX1_weightWith 39 = .ok (.aload_n 0, 1) := by decide +kernel
theorem dX1_weightWith_40 : decode cX1_weightWith 40 = .ok (.getfield 9, 3) := by decide +kernel
theorem dX1_weightWith_43 : decode cX1_weightWith 43 = .ok (.iload 5, 2) := by decide +kernel
theorem dX1_weightWith_45 : decode cX1_weightWith 45 = .ok (.iaload, 1) := by decide +kernel
theorem dX1_weightWith_46 : decode cX1_weightWith 46 = .ok (.iload_n 3, 1) := by decide +kernel
theorem dX1_weightWith_47 : decode cX1_weightWith 47 = .ok (.iand, 1) := by decide +kernel
theorem dX1_weightWith_48 : decode cX1_weightWith 48 = .ok (.ifCond .ne 26, 3) := by decide +kernel
theorem dX1_weightWith_51 : decode cX1_weightWith 51 = .ok (.iload 4, 2) := by decide +kernel
theorem dX1_weightWith_53 : decode cX1_weightWith 53 = .ok (.sipush 1024, 3) := by decide +kernel
theorem dX1_weightWith_56 : decode cX1_weightWith 56 = .ok (.aload_n 0, 1) := by decide +kernel
theorem dX1_weightWith_57 : decode cX1_weightWith 57 = .ok (.getfield 9, 3) := by decide +kernel
theorem dX1_weightWith_60 : decode cX1_weightWith 60 = .ok (.iload 5, 2) := by decide +kernel
theorem dX1_weightWith_62 : decode cX1_weightWith 62 = .ok (.iaload, 1) := by decide +kernel
theorem dX1_weightWith_63 : decode cX1_weightWith 63 = .ok (.iload_n 2, 1) := by decide +kernel
theorem dX1_weightWith_64 : decode cX1_weightWith 64 = .ok (.iconst (-1), 1) := by decide +kernel
theorem dX1_weightWith_65 : decode cX1_weightWith 65 = .ok (.ixor, 1) := by decide +kernel
theorem dX1_weightWith_66 : decode cX1_weightWith 66 = .ok (.iand, 1) := by decide +kernel
theorem dX1_weightWith_67 : decode cX1_weightWith 67 = .ok (.invokestatic 35, 3) := by decide +kernel
theorem dX1_weightWith_70 : decode cX1_weightWith 70 = .ok (.ishr, 1) := by decide +kernel
theorem dX1_weightWith_71 : decode cX1_weightWith 71 = .ok (.iadd, 1) := by decide +kernel
theorem dX1_weightWith_72 : decode cX1_weightWith 72 = .ok (.istore 4, 2) := by decide +kernel
theorem dX1_weightWith_74 : decode cX1_weightWith 74 = .ok (.iinc 5 1, 3) := by decide +kernel
theorem dX1_weightWith_77 : decode cX1_weightWith 77 = .ok (.goto (-71), 3) := by decide +kernel
theorem dX1_weightWith_80 : decode cX1_weightWith 80 = .ok (.iload 4, 2) := by decide +kernel
theorem dX1_weightWith_82 : decode cX1_weightWith 82 = .ok (.ireturn, 1) := by decide +kernel
theorem dX1_aliveWith_0 : decode cX1_aliveWith 0 = .ok (.iconst 0, 1) := by decide +kernel
theorem dX1_aliveWith_1 : decode cX1_aliveWith 1 = .ok (.istore_n 3, 1) := by decide +kernel
theorem dX1_aliveWith_2 : decode cX1_aliveWith 2 = .ok (.iconst 0, 1) := by decide +kernel
theorem dX1_aliveWith_3 : decode cX1_aliveWith 3 = .ok (.istore 4, 2) := by decide +kernel
theorem dX1_aliveWith_5 : decode cX1_aliveWith 5 = .ok (.iload 4, 2) := by decide +kernel
theorem dX1_aliveWith_7 : decode cX1_aliveWith 7 = .ok (.aload_n 0, 1) := by decide +kernel
theorem dX1_aliveWith_8 : decode cX1_aliveWith 8 = .ok (.getfield 15, 3) := by decide +kernel
theorem dX1_aliveWith_11 : decode cX1_aliveWith 11 = .ok (.if_icmp .ge 48, 3) := by decide +kernel
theorem dX1_aliveWith_14 : decode cX1_aliveWith 14 = .ok (.iload 4, 2) := by decide +kernel
theorem dX1_aliveWith_16 : decode cX1_aliveWith 16 = .ok (.aload_n 0, 1) := by decide +kernel
theorem dX1_aliveWith_17 : decode cX1_aliveWith 17 = .ok (.getfield 9, 3) := by decide +kernel
theorem dX1_aliveWith_20 : decode cX1_aliveWith 20 = .ok (.arraylength, 1) := by decide +kernel
theorem dX1_aliveWith_21 : decode cX1_aliveWith 21 = .ok (.if_icmp .ge 38, 3) := by decide +kernel
theorem dX1_aliveWith_24 : decode cX1_aliveWith 24 = .ok (.aload_n 0, 1) := by decide +kernel
theorem dX1_aliveWith_25 : decode cX1_aliveWith 25 = .ok (.getfield 9, 3) := by decide +kernel
theorem dX1_aliveWith_28 : decode cX1_aliveWith 28 = .ok (.iload 4, 2) := by decide +kernel
theorem dX1_aliveWith_30 : decode cX1_aliveWith 30 = .ok (.iaload, 1) := by decide +kernel
theorem dX1_aliveWith_31 : decode cX1_aliveWith 31 = .ok (.iconst 1, 1) := by decide +kernel
theorem dX1_aliveWith_32 : decode cX1_aliveWith 32 = .ok (.iload_n 1, 1) := by decide +kernel
theorem dX1_aliveWith_33 : decode cX1_aliveWith 33 = .ok (.ishl, 1) := by decide +kernel
theorem dX1_aliveWith_34 : decode cX1_aliveWith 34 = .ok (.iand, 1) := by decide +kernel
theorem dX1_aliveWith_35 : decode cX1_aliveWith 35 = .ok (.ifCond .eq 18, 3) := by decide +kernel
theorem dX1_aliveWith_38 : decode cX1_aliveWith 38 = .ok (.aload_n 0, 1) := by decide +kernel
theorem dX1_aliveWith_39 : decode cX1_aliveWith 39 = .ok (.getfield 9, 3) := by decide +kernel
theorem dX1_aliveWith_42 : decode cX1_aliveWith 42 = .ok (.iload 4, 2) := by decide +kernel
theorem dX1_aliveWith_44 : decode cX1_aliveWith 44 = .ok (.iaload, 1) := by decide +kernel
theorem dX1_aliveWith_45 : decode cX1_aliveWith 45 = .ok (.iload_n 2, 1) := by decide +kernel
theorem dX1_aliveWith_46 : decode cX1_aliveWith 46 = .ok (.iand, 1) := by decide +kernel
theorem dX1_aliveWith_47 : decode cX1_aliveWith 47 = .ok (.ifCond .ne 6, 3) := by decide +kernel
theorem dX1_aliveWith_50 : decode cX1_aliveWith 50 = .ok (.iinc 3 1, 3) := by decide +kernel
theorem dX1_aliveWith_53 : decode cX1_aliveWith 53 = .ok (.iinc 4 1, 3) := by decide +kernel
theorem dX1_aliveWith_56 : decode cX1_aliveWith 56 = .ok (.goto (-51), 3) := by decide +kernel
theorem dX1_aliveWith_59 : decode cX1_aliveWith 59 = .ok (.iload_n 3, 1) := by decide +kernel
theorem dX1_aliveWith_60 : decode cX1_aliveWith 60 = .ok (.ireturn, 1) := by decide +kernel
set_option maxRecDepth 20000 in
theorem ggX2_init_X1_init : GoodIn wsX2_init wsX1_init := goodIn_r _ [15, 16, 2, 3, 10, 17, 18, 19, 20, 21, 22, 23, 24, 25, 26, 27, 28] (by decide +kernel) (by decide +kernel)
set_option maxRecDepth 20000 in
theorem gX2_init_X1_init_n11 : GoodIn wsX2_init (wsX1_init) := ggX2_init_X1_init
theorem dX2_init_0 : decode cX2_init 0 = .ok (.aload_n 0, 1) := by decide +kernel
theorem dX2_init_1 : decode cX2_init 1 = .ok (.invokespecial 3, 3) := by decide +kernel
theorem dX2_init_4 : decode cX2_init 4 = .ok (.aload_n 0, 1) := by decide +kernel
theorem dX2_init_5 : decode cX2_init 5 = .ok (.new 9, 3) := by decide +kernel
theorem dX2_init_8 : decode cX2_init 8 = .ok (.dup, 1) := by decide +kernel
theorem dX2_init_9 : decode cX2_init 9 = .ok (.invokespecial 11, 3) := by decide +kernel
theorem dX2_init_12 : decode cX2_init 12 = .ok (.putfield 12, 3) := by decide +kernel
theorem dX2_init_15 : decode cX2_init 15 = .ok (.aload_n 0, 1) := by decide +kernel
theorem dX2_init_16 : decode cX2_init 16 = .ok (.iconst 0, 1) := by decide +kernel
theorem dX2_init_17 : decode cX2_init 17 = .ok (.putfield 18, 3) := by decide +kernel
theorem dX2_init_20 : decode cX2_init 20 = .ok (.aload_n 0, 1) := by decide +kernel
theorem dX2_init_21 : decode cX2_init 21 = .ok (.iconst 0, 1) := by decide +kernel
theorem dX2_init_22 : decode cX2_init 22 = .ok (.putfield 22, 3) := by decide +kernel
theorem dX2_init_25 : decode cX2_init 25 = .ok (.aload_n 0, 1) := by decide +kernel
theorem dX2_init_26 : decode cX2_init 26 = .ok (.iconst 5, 1) := by decide +kernel
theorem dX2_init_27 : decode cX2_init 27 = .ok (.newarray .int, 2) := by decide +kernel
theorem dX2_init_29 : decode cX2_init 29 = .ok (.putfield 25, 3) := by decide +kernel
theorem dX2_init_32 : decode cX2_init 32 = .ok (.aload_n 0, 1) := by decide +kernel
theorem dX2_init_33 : decode cX2_init 33 = .ok (.iconst 0, 1) := by decide +kernel
theorem dX2_init_34 : decode cX2_init 34 = .ok (.putfield 29, 3) := by decide +kernel
theorem dX2_init_37 : decode cX2_init 37 = .ok (.aload_n 0, 1) := by decide +kernel
theorem dX2_init_38 : decode cX2_init 38 = .ok (.iconst 1, 1) := by decide +kernel
theorem dX2_init_39 : decode cX2_init 39 = .ok (.putfield 32, 3) := by decide +kernel
theorem dX2_init_42 : decode cX2_init 42 = .ok (.return_, 1) := by decide +kernel
set_option maxRecDepth 20000 in
theorem ggX2_lookAt_X1_areSame : GoodIn wsX2_lookAt wsX1_areSame := goodIn_r _ [13, 14, 15, 69, 70, 71, 72, 73, 74] (by decide +kernel) (by decide +kernel)
set_option maxRecDepth 20000 in
theorem gX2_lookAt_X1_areSame : GoodIn wsX2_lookAt (wsV RX2 41 RX1 yX1_areSame wsX1_areSame) := goodIn_app (goodIn_of _ (by decide +kernel)) ggX2_lookAt_X1_areSame
set_option maxRecDepth 20000 in
theorem ggX2_lookAt_X1_copy : GoodIn wsX2_lookAt wsX1_copy := goodIn_r _ [19, 14, 15, 69, 70, 71, 72, 73, 74] (by decide +kernel) (by decide +kernel)
set_option maxRecDepth 20000 in
theorem gX2_lookAt_X1_copy : GoodIn wsX2_lookAt (wsV RX2 45 RX1 yX1_copy wsX1_copy) := goodIn_app (goodIn_of _ (by decide +kernel)) ggX2_lookAt_X1_copy
set_option maxRecDepth 20000 in
theorem ggX2_lookAt_X2_pairFrom : GoodIn wsX2_lookAt wsX2_pairFrom := goodIn_r _ [24, 5, 25, 26, 27, 12, 28, 14, 15, 29, 30, 31, 32, 33, 34, 35, 23, 36, 7, 37, 3, 20, 21, 22, 38, 39, 40, 41, 42, 43, 44, 45, 46, 47, 48, 49, 50, 51, 52, 53, 54, 55, 56, 57, 58, 69, 70, 71, 72, 73, 74] (by decide +kernel) (by decide +kernel)
set_option maxRecDepth 20000 in
theorem gX2_lookAt_X2_pairFrom : GoodIn wsX2_lookAt (wsV RX2 49 RX2 yX2_pairFrom wsX2_pairFrom) := goodIn_app (goodIn_of _ (by decide +kernel)) ggX2_lookAt_X2_pairFrom
theorem dX2_lookAt_0 : decode cX2_lookAt 0 = .ok (.aload_n 0, 1) := by decide +kernel
theorem dX2_lookAt_1 : decode cX2_lookAt 1 = .ok (.getfield 18, 3) := by decide +kernel
theorem dX2_lookAt_4 : decode cX2_lookAt 4 = .ok (.aload_n 1, 1) := by decide +kernel
theorem dX2_lookAt_5 : decode cX2_lookAt 5 = .ok (.getfield 36, 3) := by decide +kernel
theorem dX2_lookAt_8 : decode cX2_lookAt 8 = .ok (.if_icmp .ne 28, 3) := by decide +kernel
theorem dX2_lookAt_11 : decode cX2_lookAt 11 = .ok (.aload_n 0, 1) := by decide +kernel
theorem dX2_lookAt_12 : decode cX2_lookAt 12 = .ok (.getfield 22, 3) := by decide +kernel
theorem dX2_lookAt_15 : decode cX2_lookAt 15 = .ok (.aload_n 1, 1) := by decide +kernel
theorem dX2_lookAt_16 : decode cX2_lookAt 16 = .ok (.getfield 39, 3) := by decide +kernel
theorem dX2_lookAt_19 : decode cX2_lookAt 19 = .ok (.if_icmp .ne 17, 3) := by decide +kernel
theorem dX2_lookAt_22 : decode cX2_lookAt 22 = .ok (.aload_n 0, 1) := by decide +kernel
theorem dX2_lookAt_23 : decode cX2_lookAt 23 = .ok (.getfield 12, 3) := by decide +kernel
theorem dX2_lookAt_26 : decode cX2_lookAt 26 = .ok (.aload_n 1, 1) := by decide +kernel
theorem dX2_lookAt_27 : decode cX2_lookAt 27 = .ok (.getfield 40, 3) := by decide +kernel
theorem dX2_lookAt_30 : decode cX2_lookAt 30 = .ok (.invokevirtual 41, 3) := by decide +kernel
theorem dX2_lookAt_33 : decode cX2_lookAt 33 = .ok (.ifCond .ne 53, 3) := by decide +kernel
theorem dX2_lookAt_36 : decode cX2_lookAt 36 = .ok (.aload_n 0, 1) := by decide +kernel
theorem dX2_lookAt_37 : decode cX2_lookAt 37 = .ok (.getfield 12, 3) := by decide +kernel
theorem dX2_lookAt_40 : decode cX2_lookAt 40 = .ok (.aload_n 1, 1) := by decide +kernel
theorem dX2_lookAt_41 : decode cX2_lookAt 41 = .ok (.getfield 40, 3) := by decide +kernel
theorem dX2_lookAt_44 : decode cX2_lookAt 44 = .ok (.invokevirtual 45, 3) := by decide +kernel
theorem dX2_lookAt_47 : decode cX2_lookAt 47 = .ok (.aload_n 0, 1) := by decide +kernel
theorem dX2_lookAt_48 : decode cX2_lookAt 48 = .ok (.aload_n 1, 1) := by decide +kernel
theorem dX2_lookAt_49 : decode cX2_lookAt 49 = .ok (.getfield 36, 3) := by decide +kernel
theorem dX2_lookAt_52 : decode cX2_lookAt 52 = .ok (.putfield 18, 3) := by decide +kernel
theorem dX2_lookAt_55 : decode cX2_lookAt 55 = .ok (.aload_n 0, 1) := by decide +kernel
theorem dX2_lookAt_56 : decode cX2_lookAt 56 = .ok (.aload_n 1, 1) := by decide +kernel
theorem dX2_lookAt_57 : decode cX2_lookAt 57 = .ok (.getfield 39, 3) := by decide +kernel
theorem dX2_lookAt_60 : decode cX2_lookAt 60 = .ok (.putfield 22, 3) := by decide +kernel
theorem dX2_lookAt_63 : decode cX2_lookAt 63 = .ok (.aload_n 0, 1) := by decide +kernel
theorem dX2_lookAt_64 : decode cX2_lookAt 64 = .ok (.iconst 0, 1) := by decide +kernel
theorem dX2_lookAt_65 : decode cX2_lookAt 65 = .ok (.putfield 29, 3) := by decide +kernel
theorem dX2_lookAt_68 : decode cX2_lookAt 68 = .ok (.aload_n 0, 1) := by decide +kernel
theorem dX2_lookAt_69 : decode cX2_lookAt 69 = .ok (.aload_n 0, 1) := by decide +kernel
theorem dX2_lookAt_70 : decode cX2_lookAt 70 = .ok (.iconst 0, 1) := by decide +kernel
theorem dX2_lookAt_71 : decode cX2_lookAt 71 = .ok (.aload_n 0, 1) := by decide +kernel
theorem dX2_lookAt_72 : decode cX2_lookAt 72 = .ok (.getfield 18, 3) := by decide +kernel
theorem dX2_lookAt_75 : decode cX2_lookAt 75 = .ok (.aload_n 0, 1) := by decide +kernel
theorem dX2_lookAt_76 : decode cX2_lookAt 76 = .ok (.getfield 22, 3) := by decide +kernel
theorem dX2_lookAt_79 : decode cX2_lookAt 79 = .ok (.ior, 1) := by decide +kernel
theorem dX2_lookAt_80 : decode cX2_lookAt 80 = .ok (.invokevirtual 49, 3) := by decide +kernel
theorem dX2_lookAt_83 : decode cX2_lookAt 83 = .ok (.putfield 32, 3) := by decide +kernel
theorem dX2_lookAt_86 : decode cX2_lookAt 86 = .ok (.return_, 1) := by decide +kernel
set_option maxRecDepth 20000 in
theorem ggX2_otherOf_X6_lowestOf : GoodIn wsX2_otherOf wsX6_lowestOf := goodIn_r _ [5] (by decide +kernel) (by decide +kernel)
set_option maxRecDepth 20000 in
theorem gX2_otherOf_X6_lowestOf_n53 : GoodIn wsX2_otherOf (wsX6_lowestOf) := ggX2_otherOf_X6_lowestOf
theorem dX2_otherOf_0 : decode cX2_otherOf 0 = .ok (.iconst 0, 1) := by decide +kernel
theorem dX2_otherOf_1 : decode cX2_otherOf 1 = .ok (.istore_n 2, 1) := by decide +kernel
theorem dX2_otherOf_2 : decode cX2_otherOf 2 = .ok (.iload_n 2, 1) := by decide +kernel
theorem dX2_otherOf_3 : decode cX2_otherOf 3 = .ok (.aload_n 0, 1) := by decide +kernel
theorem dX2_otherOf_4 : decode cX2_otherOf 4 = .ok (.getfield 29, 3) := by decide +kernel
theorem dX2_otherOf_7 : decode cX2_otherOf 7 = .ok (.if_icmp .ge 47, 3) := by decide +kernel
theorem dX2_otherOf_10 : decode cX2_otherOf 10 = .ok (.iload_n 2, 1) := by decide +kernel
theorem dX2_otherOf_11 : decode cX2_otherOf 11 = .ok (.aload_n 0, 1) := by decide +kernel
theorem dX2_otherOf_12 : decode cX2_otherOf 12 = .ok (.getfield 25, 3) := by decide +kernel
theorem dX2_otherOf_15 : decode cX2_otherOf 15 = .ok (.arraylength, 1) := by decide +kernel
theorem dX2_otherOf_16 : decode cX2_otherOf 16 = .ok (.if_icmp .ge 38, 3) := by decide +kernel
theorem dX2_otherOf_19 : decode cX2_otherOf 19 = .ok (.aload_n 0, 1) := by decide +kernel
theorem dX2_otherOf_20 : decode cX2_otherOf 20 = .ok (.getfield 25, 3) := by decide +kernel
theorem dX2_otherOf_23 : decode cX2_otherOf 23 = .ok (.iload_n 2, 1) := by decide +kernel
theorem dX2_otherOf_24 : decode cX2_otherOf 24 = .ok (.iaload, 1) := by decide +kernel
theorem dX2_otherOf_25 : decode cX2_otherOf 25 = .ok (.iconst 1, 1) := by decide +kernel
theorem dX2_otherOf_26 : decode cX2_otherOf 26 = .ok (.iload_n 1, 1) := by decide +kernel
theorem dX2_otherOf_27 : decode cX2_otherOf 27 = .ok (.ishl, 1) := by decide +kernel
theorem dX2_otherOf_28 : decode cX2_otherOf 28 = .ok (.iand, 1) := by decide +kernel
theorem dX2_otherOf_29 : decode cX2_otherOf 29 = .ok (.ifCond .eq 19, 3) := by decide +kernel
theorem dX2_otherOf_32 : decode cX2_otherOf 32 = .ok (.aload_n 0, 1) := by decide +kernel
theorem dX2_otherOf_33 : decode cX2_otherOf 33 = .ok (.getfield 25, 3) := by decide +kernel
theorem dX2_otherOf_36 : decode cX2_otherOf 36 = .ok (.iload_n 2, 1) := by decide +kernel
theorem dX2_otherOf_37 : decode cX2_otherOf 37 = .ok (.iaload, 1) := by decide +kernel
theorem dX2_otherOf_38 : decode cX2_otherOf 38 = .ok (.iconst 1, 1) := by decide +kernel
theorem dX2_otherOf_39 : decode cX2_otherOf 39 = .ok (.iload_n 1, 1) := by decide +kernel
theorem dX2_otherOf_40 : decode cX2_otherOf 40 = .ok (.ishl, 1) := by decide +kernel
theorem dX2_otherOf_41 : decode cX2_otherOf 41 = .ok (.iconst (-1), 1) := by decide +kernel
theorem dX2_otherOf_42 : decode cX2_otherOf 42 = .ok (.ixor, 1) := by decide +kernel
theorem dX2_otherOf_43 : decode cX2_otherOf 43 = .ok (.iand, 1) := by decide +kernel
theorem dX2_otherOf_44 : decode cX2_otherOf 44 = .ok (.invokestatic 53, 3) := by decide +kernel
theorem dX2_otherOf_47 : decode cX2_otherOf 47 = .ok (.ireturn, 1) := by decide +kernel
theorem dX2_otherOf_48 : decode cX2_otherOf 48 = .ok (.iinc 2 1, 3) := by decide +kernel
theorem dX2_otherOf_51 : decode cX2_otherOf 51 = .ok (.goto (-49), 3) := by decide +kernel
theorem dX2_otherOf_54 : decode cX2_otherOf 54 = .ok (.iconst (-1), 1) := by decide +kernel
theorem dX2_otherOf_55 : decode cX2_otherOf 55 = .ok (.ireturn, 1) := by decide +kernel
set_option maxRecDepth 20000 in
theorem ggX2_pairFrom_X1_has : GoodIn wsX2_pairFrom wsX1_has := goodIn_r _ [6, 7, 8, 45, 46, 47, 48, 49, 50] (by decide +kernel) (by decide +kernel)
set_option maxRecDepth 20000 in
theorem gX2_pairFrom_X1_has : GoodIn wsX2_pairFrom (wsV RX2 57 RX1 yX1_has wsX1_has) := goodIn_app (goodIn_of _ (by decide +kernel)) ggX2_pairFrom_X1_has
set_option maxRecDepth 20000 in
theorem ggX2_pairFrom_X1_maskOf : GoodIn wsX2_pairFrom wsX1_maskOf := goodIn_r _ [12, 7, 8, 45, 46, 47, 48, 49, 50] (by decide +kernel) (by decide +kernel)
set_option maxRecDepth 20000 in
theorem gX2_pairFrom_X1_maskOf : GoodIn wsX2_pairFrom (wsV RX2 61 RX1 yX1_maskOf wsX1_maskOf) := goodIn_app (goodIn_of _ (by decide +kernel)) ggX2_pairFrom_X1_maskOf
set_option maxRecDepth 20000 in
theorem ggX2_pairFrom_X2_needsPair : GoodIn wsX2_pairFrom wsX2_needsPair := goodIn_r _ [17, 18, 19, 20, 39, 40, 41, 42, 43, 44] (by decide +kernel) (by decide +kernel)
set_option maxRecDepth 20000 in
theorem gX2_pairFrom_X2_needsPair : GoodIn wsX2_pairFrom (wsV RX2 64 RX2 yX2_needsPair wsX2_needsPair) := goodIn_app (goodIn_of _ (by decide +kernel)) ggX2_pairFrom_X2_needsPair
set_option maxRecDepth 20000 in
theorem ggX2_pairFrom_X2_pairFrom : GoodIn wsX2_pairFrom wsX2_pairFrom := goodIn_r _ [0, 1, 2, 3, 4, 5, 6, 7, 8, 9, 10, 11, 12, 13, 14, 15, 16, 17, 18, 19, 20, 21, 22, 23, 24, 25, 26, 27, 28, 29, 30, 31, 32, 33, 34, 35, 36, 37, 38, 39, 40, 41, 42, 43, 44, 45, 46, 47, 48, 49, 50] (by decide +kernel) (by decide +kernel)
set_option maxRecDepth 20000 in
theorem gX2_pairFrom_X2_pairFrom : GoodIn wsX2_pairFrom (wsV RX2 49 RX2 yX2_pairFrom wsX2_pairFrom) := goodIn_app (goodIn_of _ (by decide +kernel)) ggX2_pairFrom_X2_pairFrom
set_option maxRecDepth 20000 in
theorem ggX2_pairFrom_X2_isHopeless : GoodIn wsX2_pairFrom wsX2_isHopeless := goodIn_r _ [27, 1, 9, 10, 11, 5, 12, 7, 8, 28, 29, 30, 31, 32, 33, 34, 13, 14, 15, 16, 17, 18, 19, 20, 39, 40, 41, 42, 43, 44, 45, 46, 47, 48, 49, 50] (by decide +kernel) (by decide +kernel)
set_option maxRecDepth 20000 in
theorem gX2_pairFrom_X2_isHopeless : GoodIn wsX2_pairFrom (wsV RX2 67 RX2 yX2_isHopeless wsX2_isHopeless) := goodIn_app (goodIn_of _ (by decide +kernel)) ggX2_pairFrom_X2_isHopeless
set_option maxRecDepth 20000 in
theorem ggX2_pairFrom_X2_pairBy : GoodIn wsX2_pairFrom wsX2_pairBy := goodIn_r _ [38, 18, 19, 21, 22, 23, 16, 0, 1, 2, 3, 4, 5, 6, 7, 8, 9, 10, 11, 12, 13, 14, 15, 17, 20, 24, 25, 26, 27, 28, 29, 30, 31, 32, 33, 34, 35, 36, 37, 39, 40, 41, 42, 43, 44, 45, 46, 47, 48, 49, 50] (by decide +kernel) (by decide +kernel)
set_option maxRecDepth 20000 in
theorem gX2_pairFrom_X2_pairBy : GoodIn wsX2_pairFrom (wsV RX2 70 RX2 yX2_pairBy wsX2_pairBy) := goodIn_app (goodIn_of _ (by decide +kernel)) ggX2_pairFrom_X2_pairBy
theorem dX2_pairFrom_0 : decode cX2_pairFrom 0 = .ok (.aload_n 0, 1) := by decide +kernel
theorem dX2_pairFrom_1 : decode cX2_pairFrom 1 = .ok (.getfield 12, 3) := by decide +kernel
theorem dX2_pairFrom_4 : decode cX2_pairFrom 4 = .ok (.iload_n 1, 1) := by decide +kernel
theorem dX2_pairFrom_5 : decode cX2_pairFrom 5 = .ok (.invokevirtual 57, 3) := by decide +kernel
theorem dX2_pairFrom_8 : decode cX2_pairFrom 8 = .ok (.ifCond .ne 5, 3) := by decide +kernel
theorem dX2_pairFrom_11 : decode cX2_pairFrom 11 = .ok (.iconst 1, 1) := by decide +kernel
theorem dX2_pairFrom_12 : decode cX2_pairFrom 12 = .ok (.ireturn, 1) := by decide +kernel
theorem dX2_pairFrom_13 : decode cX2_pairFrom 13 = .ok (.aload_n 0, 1) := by decide +kernel
theorem dX2_pairFrom_14 : decode cX2_pairFrom 14 = .ok (.getfield 12, 3) := by decide +kernel
theorem dX2_pairFrom_17 : decode cX2_pairFrom 17 = .ok (.iload_n 1, 1) := by decide +kernel
theorem dX2_pairFrom_18 : decode cX2_pairFrom 18 = .ok (.invokevirtual 61, 3) := by decide +kernel
theorem dX2_pairFrom_21 : decode cX2_pairFrom 21 = .ok (.istore_n 3, 1) := by decide +kernel
theorem dX2_pairFrom_22 : decode cX2_pairFrom 22 = .ok (.aload_n 0, 1) := by decide +kernel
theorem dX2_pairFrom_23 : decode cX2_pairFrom 23 = .ok (.iload_n 3, 1) := by decide +kernel
theorem dX2_pairFrom_24 : decode cX2_pairFrom 24 = .ok (.invokevirtual 64, 3) := by decide +kernel
theorem dX2_pairFrom_27 : decode cX2_pairFrom 27 = .ok (.ifCond .ne 12, 3) := by decide +kernel
theorem dX2_pairFrom_30 : decode cX2_pairFrom 30 = .ok (.aload_n 0, 1) := by decide +kernel
theorem dX2_pairFrom_31 : decode cX2_pairFrom 31 = .ok (.iload_n 1, 1) := by decide +kernel
theorem dX2_pairFrom_32 : decode cX2_pairFrom 32 = .ok (.iconst 1, 1) := by decide +kernel
theorem dX2_pairFrom_33 : decode cX2_pairFrom 33 = .ok (.iadd, 1) := by decide +kernel
theorem dX2_pairFrom_34 : decode cX2_pairFrom 34 = .ok (.iload_n 2, 1) := by decide +kernel
theorem dX2_pairFrom_35 : decode cX2_pairFrom 35 = .ok (.invokevirtual 49, 3) := by decide +kernel
theorem dX2_pairFrom_38 : decode cX2_pairFrom 38 = .ok (.ireturn, 1) := by decide +kernel
theorem dX2_pairFrom_39 : decode cX2_pairFrom 39 = .ok (.aload_n 0, 1) := by decide +kernel
theorem dX2_pairFrom_40 : decode cX2_pairFrom 40 = .ok (.iload_n 1, 1) := by decide +kernel
theorem dX2_pairFrom_41 : decode cX2_pairFrom 41 = .ok (.iload_n 2, 1) := by decide +kernel
theorem dX2_pairFrom_42 : decode cX2_pairFrom 42 = .ok (.invokevirtual 67, 3) := by decide +kernel
theorem dX2_pairFrom_45 : decode cX2_pairFrom 45 = .ok (.ifCond .eq 5, 3) := by decide +kernel
theorem dX2_pairFrom_48 : decode cX2_pairFrom 48 = .ok (.iconst 0, 1) := by decide +kernel
theorem dX2_pairFrom_49 : decode cX2_pairFrom 49 = .ok (.ireturn, 1) := by decide +kernel
theorem dX2_pairFrom_50 : decode cX2_pairFrom 50 = .ok (.iload_n 3, 1) := by decide +kernel
theorem dX2_pairFrom_51 : decode cX2_pairFrom 51 = .ok (.iload_n 2, 1) := by decide +kernel
theorem dX2_pairFrom_52 : decode cX2_pairFrom 52 = .ok (.iconst (-1), 1) := by decide +kernel
theorem dX2_pairFrom_53 : decode cX2_pairFrom 53 = .ok (.ixor, 1) := by decide +kernel
theorem dX2_pairFrom_54 : decode cX2_pairFrom 54 = .ok (.iand, 1) := by decide +kernel
theorem dX2_pairFrom_55 : decode cX2_pairFrom 55 = .ok (.istore 4, 2) := by decide +kernel
theorem dX2_pairFrom_57 : decode cX2_pairFrom 57 = .ok (.iconst 0, 1) := by decide +kernel
theorem dX2_pairFrom_58 : decode cX2_pairFrom 58 = .ok (.istore 5, 2) := by decide +kernel
theorem dX2_pairFrom_60 : decode cX2_pairFrom 60 = .ok (.iload 5, 2) := by decide +kernel
theorem dX2_pairFrom_62 : decode cX2_pairFrom 62 = .ok (.bipush 10, 2) := by decide +kernel
theorem dX2_pairFrom_64 : decode cX2_pairFrom 64 = .ok (.if_icmp .ge 62, 3) := by decide +kernel
theorem dX2_pairFrom_67 : decode cX2_pairFrom 67 = .ok (.iload 5, 2) := by decide +kernel
theorem dX2_pairFrom_69 : decode cX2_pairFrom 69 = .ok (.iconst 1, 1) := by decide +kernel
theorem dX2_pairFrom_70 : decode cX2_pairFrom 70 = .ok (.iadd, 1) := by decide +kernel
theorem dX2_pairFrom_71 : decode cX2_pairFrom 71 = .ok (.istore 6, 2) := by decide +kernel
theorem dX2_pairFrom_73 : decode cX2_pairFrom 73 = .ok (.iload 6, 2) := by decide +kernel
theorem dX2_pairFrom_75 : decode cX2_pairFrom 75 = .ok (.bipush 10, 2) := by decide +kernel
theorem dX2_pairFrom_77 : decode cX2_pairFrom 77 = .ok (.if_icmp .ge 43, 3) := by decide +kernel
theorem dX2_pairFrom_80 : decode cX2_pairFrom 80 = .ok (.iconst 1, 1) := by decide +kernel
theorem dX2_pairFrom_81 : decode cX2_pairFrom 81 = .ok (.iload 5, 2) := by decide +kernel
theorem dX2_pairFrom_83 : decode cX2_pairFrom 83 = .ok (.ishl, 1) := by decide +kernel
theorem dX2_pairFrom_84 : decode cX2_pairFrom 84 = .ok (.iconst 1, 1) := by decide +kernel
theorem dX2_pairFrom_85 : decode cX2_pairFrom 85 = .ok (.iload 6, 2) := by decide +kernel
theorem dX2_pairFrom_87 : decode cX2_pairFrom 87 = .ok (.ishl, 1) := by decide +kernel
theorem dX2_pairFrom_88 : decode cX2_pairFrom 88 = .ok (.ior, 1) := by decide +kernel
theorem dX2_pairFrom_89 : decode cX2_pairFrom 89 = .ok (.istore 7, 2) := by decide +kernel
theorem dX2_pairFrom_91 : decode cX2_pairFrom 91 = .ok (.iload 4, 2) := by decide +kernel
theorem dX2_pairFrom_93 : decode cX2_pairFrom 93 = .ok (.iload 7, 2) := by decide +kernel
theorem dX2_pairFrom_95 : decode cX2_pairFrom 95 = .ok (.iand, 1) := by decide +kernel
theorem dX2_pairFrom_96 : decode cX2_pairFrom 96 = .ok (.iload 7, 2) := by decide +kernel
theorem dX2_pairFrom_98 : decode cX2_pairFrom 98 = .ok (.if_icmp .ne 16, 3) := by decide +kernel
theorem dX2_pairFrom_101 : decode cX2_pairFrom 101 = .ok (.aload_n 0, 1) := by decide +kernel
theorem dX2_pairFrom_102 : decode cX2_pairFrom 102 = .ok (.iload 7, 2) := by decide +kernel
theorem dX2_pairFrom_104 : decode cX2_pairFrom 104 = .ok (.iload_n 1, 1) := by decide +kernel
theorem dX2_pairFrom_105 : decode cX2_pairFrom 105 = .ok (.iload_n 2, 1) := by decide +kernel
theorem dX2_pairFrom_106 : decode cX2_pairFrom 106 = .ok (.invokevirtual 70, 3) := by decide +kernel
theorem dX2_pairFrom_109 : decode cX2_pairFrom 109 = .ok (.ifCond .eq 5, 3) := by decide +kernel
theorem dX2_pairFrom_112 : decode cX2_pairFrom 112 = .ok (.iconst 1, 1) := by decide +kernel
theorem dX2_pairFrom_113 : decode cX2_pairFrom 113 = .ok (.ireturn, 1) := by decide +kernel
theorem dX2_pairFrom_114 : decode cX2_pairFrom 114 = .ok (.iinc 6 1, 3) := by decide +kernel
theorem dX2_pairFrom_117 : decode cX2_pairFrom 117 = .ok (.goto (-44), 3) := by decide +kernel
theorem dX2_pairFrom_120 : decode cX2_pairFrom 120 = .ok (.iinc 5 1, 3) := by decide +kernel
theorem dX2_pairFrom_123 : decode cX2_pairFrom 123 = .ok (.goto (-63), 3) := by decide +kernel
theorem dX2_pairFrom_126 : decode cX2_pairFrom 126 = .ok (.iconst 0, 1) := by decide +kernel
theorem dX2_pairFrom_127 : decode cX2_pairFrom 127 = .ok (.ireturn, 1) := by decide +kernel
set_option maxRecDepth 20000 in
theorem ggX2_pairBy_X2_pairFrom : GoodIn wsX2_pairBy wsX2_pairFrom := goodIn_r _ [7, 8, 9, 10, 11, 12, 13, 14, 15, 16, 17, 18, 19, 20, 21, 22, 6, 23, 1, 2, 24, 3, 4, 5, 25, 26, 27, 28, 29, 30, 31, 32, 33, 34, 35, 36, 37, 38, 0, 39, 40, 41, 42, 43, 44, 45, 46, 47, 48, 49, 50] (by decide +kernel) (by decide +kernel)
set_option maxRecDepth 20000 in
theorem gX2_pairBy_X2_pairFrom : GoodIn wsX2_pairBy (wsV RX2 49 RX2 yX2_pairFrom wsX2_pairFrom) := goodIn_app (goodIn_of _ (by decide +kernel)) ggX2_pairBy_X2_pairFrom
theorem dX2_pairBy_0 : decode cX2_pairBy 0 = .ok (.aload_n 0, 1) := by decide +kernel
theorem dX2_pairBy_1 : decode cX2_pairBy 1 = .ok (.getfield 29, 3) := by decide +kernel
theorem dX2_pairBy_4 : decode cX2_pairBy 4 = .ok (.ifCond .lt 15, 3) := by decide +kernel
theorem dX2_pairBy_7 : decode cX2_pairBy 7 = .ok (.aload_n 0, 1) := by decide +kernel
theorem dX2_pairBy_8 : decode cX2_pairBy 8 = .ok (.getfield 29, 3) := by decide +kernel
theorem dX2_pairBy_11 : decode cX2_pairBy 11 = .ok (.aload_n 0, 1) := by decide +kernel
theorem dX2_pairBy_12 : decode cX2_pairBy 12 = .ok (.getfield 25, 3) := by decide +kernel
theorem dX2_pairBy_15 : decode cX2_pairBy 15 = .ok (.arraylength, 1) := by decide +kernel
theorem dX2_pairBy_16 : decode cX2_pairBy 16 = .ok (.if_icmp .lt 5, 3) := by decide +kernel
theorem dX2_pairBy_19 : decode cX2_pairBy 19 = .ok (.iconst 0, 1) := by decide +kernel
theorem dX2_pairBy_20 : decode cX2_pairBy 20 = .ok (.ireturn, 1) := by decide +kernel
theorem dX2_pairBy_21 : decode cX2_pairBy 21 = .ok (.aload_n 0, 1) := by decide +kernel
theorem dX2_pairBy_22 : decode cX2_pairBy 22 = .ok (.getfield 25, 3) := by decide +kernel
theorem dX2_pairBy_25 : decode cX2_pairBy 25 = .ok (.aload_n 0, 1) := by decide +kernel
theorem dX2_pairBy_26 : decode cX2_pairBy 26 = .ok (.getfield 29, 3) := by decide +kernel
theorem dX2_pairBy_29 : decode cX2_pairBy 29 = .ok (.iload_n 1, 1) := by decide +kernel
theorem dX2_pairBy_30 : decode cX2_pairBy 30 = .ok (.iastore, 1) := by decide +kernel
theorem dX2_pairBy_31 : decode cX2_pairBy 31 = .ok (.aload_n 0, 1) := by decide +kernel
theorem dX2_pairBy_32 : decode cX2_pairBy 32 = .ok (.dup, 1) := by decide +kernel
theorem dX2_pairBy_33 : decode cX2_pairBy 33 = .ok (.getfield 29, 3) := by decide +kernel
theorem dX2_pairBy_36 : decode cX2_pairBy 36 = .ok (.iconst 1, 1) := by decide +kernel
theorem dX2_pairBy_37 : decode cX2_pairBy 37 = .ok (.iadd, 1) := by decide +kernel
theorem dX2_pairBy_38 : decode cX2_pairBy 38 = .ok (.putfield 29, 3) := by decide +kernel
theorem dX2_pairBy_41 : decode cX2_pairBy 41 = .ok (.aload_n 0, 1) := by decide +kernel
theorem dX2_pairBy_42 : decode cX2_pairBy 42 = .ok (.iload_n 2, 1) := by decide +kernel
theorem dX2_pairBy_43 : decode cX2_pairBy 43 = .ok (.iconst 1, 1) := by decide +kernel
theorem dX2_pairBy_44 : decode cX2_pairBy 44 = .ok (.iadd, 1) := by decide +kernel
theorem dX2_pairBy_45 : decode cX2_pairBy 45 = .ok (.iload_n 3, 1) := by decide +kernel
theorem dX2_pairBy_46 : decode cX2_pairBy 46 = .ok (.iload_n 1, 1) := by decide +kernel
theorem dX2_pairBy_47 : decode cX2_pairBy 47 = .ok (.ior, 1) := by decide +kernel
theorem dX2_pairBy_48 : decode cX2_pairBy 48 = .ok (.invokevirtual 49, 3) := by decide +kernel
theorem dX2_pairBy_51 : decode cX2_pairBy 51 = .ok (.ifCond .eq 5, 3) := by decide +kernel
theorem dX2_pairBy_54 : decode cX2_pairBy 54 = .ok (.iconst 1, 1) := by decide +kernel
theorem dX2_pairBy_55 : decode cX2_pairBy 55 = .ok (.ireturn, 1) := by decide +kernel
theorem dX2_pairBy_56 : decode cX2_pairBy 56 = .ok (.aload_n 0, 1) := by decide +kernel
theorem dX2_pairBy_57 : decode cX2_pairBy 57 = .ok (.dup, 1) := by decide +kernel
theorem dX2_pairBy_58 : decode cX2_pairBy 58 = .ok (.getfield 29, 3) := by decide +kernel
theorem dX2_pairBy_61 : decode cX2_pairBy 61 = .ok (.iconst 1, 1) := by decide +kernel
theorem dX2_pairBy_62 : decode cX2_pairBy 62 = .ok (.isub, 1) := by decide +kernel
theorem dX2_pairBy_63 : decode cX2_pairBy 63 = .ok (.putfield 29, 3) := by decide +kernel
theorem dX2_pairBy_66 : decode cX2_pairBy 66 = .ok (.iconst 0, 1) := by decide +kernel
theorem dX2_pairBy_67 : decode cX2_pairBy 67 = .ok (.ireturn, 1) := by decide +kernel
theorem dX2_needsPair_0 : decode cX2_needsPair 0 = .ok (.iconst 0, 1) := by decide +kernel
theorem dX2_needsPair_1 : decode cX2_needsPair 1 = .ok (.istore_n 2, 1) := by decide +kernel
theorem dX2_needsPair_2 : decode cX2_needsPair 2 = .ok (.iload_n 2, 1) := by decide +kernel
theorem dX2_needsPair_3 : decode cX2_needsPair 3 = .ok (.aload_n 0, 1) := by decide +kernel
theorem dX2_needsPair_4 : decode cX2_needsPair 4 = .ok (.getfield 29, 3) := by decide +kernel
theorem dX2_needsPair_7 : decode cX2_needsPair 7 = .ok (.if_icmp .ge 33, 3) := by decide +kernel
theorem dX2_needsPair_10 : decode cX2_needsPair 10 = .ok (.iload_n 2, 1) := by decide +kernel
theorem dX2_needsPair_11 : decode cX2_needsPair 11 = .ok (.aload_n 0, 1) := by decide +kernel
theorem dX2_needsPair_12 : decode cX2_needsPair 12 = .ok (.getfield 25, 3) := by decide +kernel
theorem dX2_needsPair_15 : decode cX2_needsPair 15 = .ok (.arraylength, 1) := by decide +kernel
theorem dX2_needsPair_16 : decode cX2_needsPair 16 = .ok (.if_icmp .ge 24, 3) := by decide +kernel
theorem dX2_needsPair_19 : decode cX2_needsPair 19 = .ok (.aload_n 0, 1) := by decide +kernel
theorem dX2_needsPair_20 : decode cX2_needsPair 20 = .ok (.getfield 25, 3) := by decide +kernel
theorem dX2_needsPair_23 : decode cX2_needsPair 23 = .ok (.iload_n 2, 1) := by decide +kernel
theorem dX2_needsPair_24 : decode cX2_needsPair 24 = .ok (.iaload, 1) := by decide +kernel
theorem dX2_needsPair_25 : decode cX2_needsPair 25 = .ok (.iload_n 1, 1) := by decide +kernel
theorem dX2_needsPair_26 : decode cX2_needsPair 26 = .ok (.iconst (-1), 1) := by decide +kernel
theorem dX2_needsPair_27 : decode cX2_needsPair 27 = .ok (.ixor, 1) := by decide +kernel
theorem dX2_needsPair_28 : decode cX2_needsPair 28 = .ok (.iand, 1) := by decide +kernel
theorem dX2_needsPair_29 : decode cX2_needsPair 29 = .ok (.ifCond .ne 5, 3) := by decide +kernel
theorem dX2_needsPair_32 : decode cX2_needsPair 32 = .ok (.iconst 0, 1) := by decide +kernel
theorem dX2_needsPair_33 : decode cX2_needsPair 33 = .ok (.ireturn, 1) := by decide +kernel
theorem dX2_needsPair_34 : decode cX2_needsPair 34 = .ok (.iinc 2 1, 3) := by decide +kernel
theorem dX2_needsPair_37 : decode cX2_needsPair 37 = .ok (.goto (-35), 3) := by decide +kernel
theorem dX2_needsPair_40 : decode cX2_needsPair 40 = .ok (.iload_n 1, 1) := by decide +kernel
theorem dX2_needsPair_41 : decode cX2_needsPair 41 = .ok (.aload_n 0, 1) := by decide +kernel
theorem dX2_needsPair_42 : decode cX2_needsPair 42 = .ok (.getfield 22, 3) := by decide +kernel
theorem dX2_needsPair_45 : decode cX2_needsPair 45 = .ok (.iand, 1) := by decide +kernel
theorem dX2_needsPair_46 : decode cX2_needsPair 46 = .ok (.ifCond .ne 7, 3) := by decide +kernel
theorem dX2_needsPair_49 : decode cX2_needsPair 49 = .ok (.iconst 1, 1) := by decide +kernel
theorem dX2_needsPair_50 : decode cX2_needsPair 50 = .ok (.goto 4, 3) := by decide +kernel
theorem dX2_needsPair_53 : decode cX2_needsPair 53 = .ok (.iconst 0, 1) := by decide +kernel
theorem dX2_needsPair_54 : decode cX2_needsPair 54 = .ok (.ireturn, 1) := by decide +kernel
set_option maxRecDepth 20000 in
theorem ggX2_isHopeless_X1_maskOf : GoodIn wsX2_isHopeless wsX1_maskOf := goodIn_r _ [6, 7, 8, 30, 31, 32, 33, 34, 35] (by decide +kernel) (by decide +kernel)
set_option maxRecDepth 20000 in
theorem gX2_isHopeless_X1_maskOf : GoodIn wsX2_isHopeless (wsV RX2 61 RX1 yX1_maskOf wsX1_maskOf) := goodIn_app (goodIn_of _ (by decide +kernel)) ggX2_isHopeless_X1_maskOf
set_option maxRecDepth 20000 in
theorem ggX2_isHopeless_J6_bitCount_0f7a4 : GoodIn wsX2_isHopeless wsJ6_bitCount_0f7a4 := goodIn_r _ [12, 13, 14, 15] (by decide +kernel) (by decide +kernel)
set_option maxRecDepth 20000 in
theorem gX2_isHopeless_J6_bitCount_0f7a4 : GoodIn wsX2_isHopeless (va_wsS RX2 74 yJ6_bitCount_0f7a4 wsJ6_bitCount_0f7a4) := goodIn_app (goodIn_of _ (by decide +kernel)) ggX2_isHopeless_J6_bitCount_0f7a4
set_option maxRecDepth 20000 in
theorem ggX2_isHopeless_X2_needsPair : GoodIn wsX2_isHopeless wsX2_needsPair := goodIn_r _ [20, 21, 22, 23, 24, 25, 26, 27, 28, 29] (by decide +kernel) (by decide +kernel)
set_option maxRecDepth 20000 in
theorem gX2_isHopeless_X2_needsPair : GoodIn wsX2_isHopeless (wsV RX2 64 RX2 yX2_needsPair wsX2_needsPair) := goodIn_app (goodIn_of _ (by decide +kernel)) ggX2_isHopeless_X2_needsPair
theorem dX2_isHopeless_0 : decode cX2_isHopeless 0 = .ok (.iload_n 1, 1) := by decide +kernel
theorem dX2_isHopeless_1 : decode cX2_isHopeless 1 = .ok (.istore_n 3, 1) := by decide +kernel
theorem dX2_isHopeless_2 : decode cX2_isHopeless 2 = .ok (.iload_n 3, 1) := by decide +kernel
theorem dX2_isHopeless_3 : decode cX2_isHopeless 3 = .ok (.bipush 12, 2) := by decide +kernel
theorem dX2_isHopeless_5 : decode cX2_isHopeless 5 = .ok (.if_icmp .ge 48, 3) := by decide +kernel
theorem dX2_isHopeless_8 : decode cX2_isHopeless 8 = .ok (.aload_n 0, 1) := by decide +kernel
theorem dX2_isHopeless_9 : decode cX2_isHopeless 9 = .ok (.getfield 12, 3) := by decide +kernel
theorem dX2_isHopeless_12 : decode cX2_isHopeless 12 = .ok (.iload_n 3, 1) := by decide +kernel
theorem dX2_isHopeless_13 : decode cX2_isHopeless 13 = .ok (.invokevirtual 61, 3) := by decide +kernel
theorem dX2_isHopeless_16 : decode cX2_isHopeless 16 = .ok (.istore 4, 2) := by decide +kernel
theorem dX2_isHopeless_18 : decode cX2_isHopeless 18 = .ok (.iload 4, 2) := by decide +kernel
theorem dX2_isHopeless_20 : decode cX2_isHopeless 20 = .ok (.ifCond .eq 27, 3) := by decide +kernel
theorem dX2_isHopeless_23 : decode cX2_isHopeless 23 = .ok (.iload 4, 2) := by decide +kernel
