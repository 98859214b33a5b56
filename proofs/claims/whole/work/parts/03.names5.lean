theorem dX7_read_16 : decode cX7_read 16 = .ok (.getfield 194, 3) := by decide +kernel
theorem dX7_read_19 : decode cX7_read 19 = .ok (.iaload, 1) := by decide +kernel
theorem dX7_read_20 : decode cX7_read 20 = .ok (.ifCond .le 7, 3) := by decide +kernel
theorem dX7_read_23 : decode cX7_read 23 = .ok (.iconst 1, 1) := by decide +kernel
theorem dX7_read_24 : decode cX7_read 24 = .ok (.goto 4, 3) := by decide +kernel
theorem dX7_read_27 : decode cX7_read 27 = .ok (.iconst 0, 1) := by decide +kernel
theorem dX7_read_28 : decode cX7_read 28 = .ok (.istore_n 1, 1) := by decide +kernel
theorem dX7_read_29 : decode cX7_read 29 = .ok (.aload_n 0, 1) := by decide +kernel
theorem dX7_read_30 : decode cX7_read 30 = .ok (.iload_n 1, 1) := by decide +kernel
theorem dX7_read_31 : decode cX7_read 31 = .ok (.ifCond .ne 7, 3) := by decide +kernel
theorem dX7_read_34 : decode cX7_read 34 = .ok (.iconst 1, 1) := by decide +kernel
theorem dX7_read_35 : decode cX7_read 35 = .ok (.goto 26, 3) := by decide +kernel
theorem dX7_read_38 : decode cX7_read 38 = .ok (.aload_n 0, 1) := by decide +kernel
theorem dX7_read_39 : decode cX7_read 39 = .ok (.getfield 7, 3) := by decide +kernel
theorem dX7_read_42 : decode cX7_read 42 = .ok (.iconst 2, 1) := by decide +kernel
theorem dX7_read_43 : decode cX7_read 43 = .ok (.iaload, 1) := by decide +kernel
theorem dX7_read_44 : decode cX7_read 44 = .ok (.aload_n 0, 1) := by decide +kernel
theorem dX7_read_45 : decode cX7_read 45 = .ok (.getfield 194, 3) := by decide +kernel
theorem dX7_read_48 : decode cX7_read 48 = .ok (.iadd, 1) := by decide +kernel
theorem dX7_read_49 : decode cX7_read 49 = .ok (.iconst 1, 1) := by decide +kernel
theorem dX7_read_50 : decode cX7_read 50 = .ok (.iadd, 1) := by decide +kernel
theorem dX7_read_51 : decode cX7_read 51 = .ok (.bipush 12, 2) := by decide +kernel
theorem dX7_read_53 : decode cX7_read 53 = .ok (.if_icmp .le 7, 3) := by decide +kernel
theorem dX7_read_56 : decode cX7_read 56 = .ok (.iconst 2, 1) := by decide +kernel
theorem dX7_read_57 : decode cX7_read 57 = .ok (.goto 4, 3) := by decide +kernel
theorem dX7_read_60 : decode cX7_read 60 = .ok (.iconst 0, 1) := by decide +kernel
theorem dX7_read_61 : decode cX7_read 61 = .ok (.putfield 50, 3) := by decide +kernel
theorem dX7_read_64 : decode cX7_read 64 = .ok (.aload_n 0, 1) := by decide +kernel
theorem dX7_read_65 : decode cX7_read 65 = .ok (.getfield 50, 3) := by decide +kernel
theorem dX7_read_68 : decode cX7_read 68 = .ok (.ifCond .le 5, 3) := by decide +kernel
theorem dX7_read_71 : decode cX7_read 71 = .ok (.iconst 0, 1) := by decide +kernel
theorem dX7_read_72 : decode cX7_read 72 = .ok (.ireturn, 1) := by decide +kernel
theorem dX7_read_73 : decode cX7_read 73 = .ok (.aload_n 0, 1) := by decide +kernel
theorem dX7_read_74 : decode cX7_read 74 = .ok (.invokevirtual 164, 3) := by decide +kernel
theorem dX7_read_77 : decode cX7_read 77 = .ok (.aload_n 0, 1) := by decide +kernel
theorem dX7_read_78 : decode cX7_read 78 = .ok (.iconst 0, 1) := by decide +kernel
theorem dX7_read_79 : decode cX7_read 79 = .ok (.putfield 191, 3) := by decide +kernel
theorem dX7_read_82 : decode cX7_read 82 = .ok (.iconst 0, 1) := by decide +kernel
theorem dX7_read_83 : decode cX7_read 83 = .ok (.istore_n 2, 1) := by decide +kernel
theorem dX7_read_84 : decode cX7_read 84 = .ok (.iload_n 2, 1) := by decide +kernel
theorem dX7_read_85 : decode cX7_read 85 = .ok (.aload_n 0, 1) := by decide +kernel
theorem dX7_read_86 : decode cX7_read 86 = .ok (.getfield 194, 3) := by decide +kernel
theorem dX7_read_89 : decode cX7_read 89 = .ok (.if_icmp .gt 39, 3) := by decide +kernel
theorem dX7_read_92 : decode cX7_read 92 = .ok (.aload_n 0, 1) := by decide +kernel
theorem dX7_read_93 : decode cX7_read 93 = .ok (.getfield 7, 3) := by decide +kernel
theorem dX7_read_96 : decode cX7_read 96 = .ok (.bipush 10, 2) := by decide +kernel
theorem dX7_read_98 : decode cX7_read 98 = .ok (.aload_n 0, 1) := by decide +kernel
theorem dX7_read_99 : decode cX7_read 99 = .ok (.getfield 7, 3) := by decide +kernel
theorem dX7_read_102 : decode cX7_read 102 = .ok (.iconst 2, 1) := by decide +kernel
theorem dX7_read_103 : decode cX7_read 103 = .ok (.iaload, 1) := by decide +kernel
theorem dX7_read_104 : decode cX7_read 104 = .ok (.iadd, 1) := by decide +kernel
theorem dX7_read_105 : decode cX7_read 105 = .ok (.aload_n 0, 1) := by decide +kernel
theorem dX7_read_106 : decode cX7_read 106 = .ok (.getfield 44, 3) := by decide +kernel
theorem dX7_read_109 : decode cX7_read 109 = .ok (.iload_n 2, 1) := by decide +kernel
theorem dX7_read_110 : decode cX7_read 110 = .ok (.iaload, 1) := by decide +kernel
theorem dX7_read_111 : decode cX7_read 111 = .ok (.iastore, 1) := by decide +kernel
theorem dX7_read_112 : decode cX7_read 112 = .ok (.aload_n 0, 1) := by decide +kernel
theorem dX7_read_113 : decode cX7_read 113 = .ok (.getfield 7, 3) := by decide +kernel
theorem dX7_read_116 : decode cX7_read 116 = .ok (.iconst 2, 1) := by decide +kernel
theorem dX7_read_117 : decode cX7_read 117 = .ok (.dup2, 1) := by decide +kernel
theorem dX7_read_118 : decode cX7_read 118 = .ok (.iaload, 1) := by decide +kernel
theorem dX7_read_119 : decode cX7_read 119 = .ok (.iconst 1, 1) := by decide +kernel
theorem dX7_read_120 : decode cX7_read 120 = .ok (.iadd, 1) := by decide +kernel
theorem dX7_read_121 : decode cX7_read 121 = .ok (.iastore, 1) := by decide +kernel
theorem dX7_read_122 : decode cX7_read 122 = .ok (.iinc 2 1, 3) := by decide +kernel
theorem dX7_read_125 : decode cX7_read 125 = .ok (.goto (-41), 3) := by decide +kernel
theorem dX7_read_128 : decode cX7_read 128 = .ok (.aload_n 0, 1) := by decide +kernel
theorem dX7_read_129 : decode cX7_read 129 = .ok (.getfield 7, 3) := by decide +kernel
theorem dX7_read_132 : decode cX7_read 132 = .ok (.iconst 2, 1) := by decide +kernel
theorem dX7_read_133 : decode cX7_read 133 = .ok (.iaload, 1) := by decide +kernel
theorem dX7_read_134 : decode cX7_read 134 = .ok (.ireturn, 1) := by decide +kernel
set_option maxRecDepth 20000 in
theorem ggX7_isSnapshot_X7_within : GoodIn wsX7_isSnapshot wsX7_within := goodIn_r _ [4] (by decide +kernel) (by decide +kernel)
set_option maxRecDepth 20000 in
theorem gX7_isSnapshot_X7_within : GoodIn wsX7_isSnapshot (va_wsS RX7 57 yX7_within wsX7_within) := goodIn_app (goodIn_of _ (by decide +kernel)) ggX7_isSnapshot_X7_within
theorem dX7_isSnapshot_0 : decode cX7_isSnapshot 0 = .ok (.iload_n 0, 1) := by decide +kernel
theorem dX7_isSnapshot_1 : decode cX7_isSnapshot 1 = .ok (.iconst 0, 1) := by decide +kernel
theorem dX7_isSnapshot_2 : decode cX7_isSnapshot 2 = .ok (.iconst 1, 1) := by decide +kernel
theorem dX7_isSnapshot_3 : decode cX7_isSnapshot 3 = .ok (.invokestatic 57, 3) := by decide +kernel
theorem dX7_isSnapshot_6 : decode cX7_isSnapshot 6 = .ok (.ireturn, 1) := by decide +kernel
theorem dX7_isKept_0 : decode cX7_isKept 0 = .ok (.iload_n 0, 1) := by decide +kernel
theorem dX7_isKept_1 : decode cX7_isKept 1 = .ok (.bipush 7, 2) := by decide +kernel
theorem dX7_isKept_3 : decode cX7_isKept 3 = .ok (.if_icmp .lt 9, 3) := by decide +kernel
theorem dX7_isKept_6 : decode cX7_isKept 6 = .ok (.iload_n 0, 1) := by decide +kernel
theorem dX7_isKept_7 : decode cX7_isKept 7 = .ok (.bipush 10, 2) := by decide +kernel
theorem dX7_isKept_9 : decode cX7_isKept 9 = .ok (.if_icmp .lt 7, 3) := by decide +kernel
theorem dX7_isKept_12 : decode cX7_isKept 12 = .ok (.iconst 1, 1) := by decide +kernel
theorem dX7_isKept_13 : decode cX7_isKept 13 = .ok (.goto 4, 3) := by decide +kernel
theorem dX7_isKept_16 : decode cX7_isKept 16 = .ok (.iconst 0, 1) := by decide +kernel
theorem dX7_isKept_17 : decode cX7_isKept 17 = .ok (.ireturn, 1) := by decide +kernel
set_option maxRecDepth 20000 in
theorem ggX7_take_X7_isSnapshot : GoodIn wsX7_take wsX7_isSnapshot := goodIn_r _ [8, 9, 10, 7, 11] (by decide +kernel) (by decide +kernel)
set_option maxRecDepth 20000 in
theorem gX7_take_X7_isSnapshot : GoodIn wsX7_take (va_wsS RX7 203 yX7_isSnapshot wsX7_isSnapshot) := goodIn_app (goodIn_of _ (by decide +kernel)) ggX7_take_X7_isSnapshot
theorem dX7_take_0 : decode cX7_take 0 = .ok (.aload_n 0, 1) := by decide +kernel
theorem dX7_take_1 : decode cX7_take 1 = .ok (.iload_n 1, 1) := by decide +kernel
theorem dX7_take_2 : decode cX7_take 2 = .ok (.invokestatic 203, 3) := by decide +kernel
theorem dX7_take_5 : decode cX7_take 5 = .ok (.ifCond .eq 7, 3) := by decide +kernel
theorem dX7_take_8 : decode cX7_take 8 = .ok (.iconst 0, 1) := by decide +kernel
theorem dX7_take_9 : decode cX7_take 9 = .ok (.goto 4, 3) := by decide +kernel
theorem dX7_take_12 : decode cX7_take 12 = .ok (.iconst 1, 1) := by decide +kernel
theorem dX7_take_13 : decode cX7_take 13 = .ok (.putfield 50, 3) := by decide +kernel
theorem dX7_take_16 : decode cX7_take 16 = .ok (.aload_n 0, 1) := by decide +kernel
theorem dX7_take_17 : decode cX7_take 17 = .ok (.getfield 50, 3) := by decide +kernel
theorem dX7_take_20 : decode cX7_take 20 = .ok (.ifCond .le 5, 3) := by decide +kernel
theorem dX7_take_23 : decode cX7_take 23 = .ok (.iconst 0, 1) := by decide +kernel
theorem dX7_take_24 : decode cX7_take 24 = .ok (.ireturn, 1) := by decide +kernel
theorem dX7_take_25 : decode cX7_take 25 = .ok (.aload_n 0, 1) := by decide +kernel
theorem dX7_take_26 : decode cX7_take 26 = .ok (.getfield 19, 3) := by decide +kernel
theorem dX7_take_29 : decode cX7_take 29 = .ok (.iload_n 1, 1) := by decide +kernel
theorem dX7_take_30 : decode cX7_take 30 = .ok (.iconst 1, 1) := by decide +kernel
theorem dX7_take_31 : decode cX7_take 31 = .ok (.iastore, 1) := by decide +kernel
theorem dX7_take_32 : decode cX7_take 32 = .ok (.iconst 0, 1) := by decide +kernel
theorem dX7_take_33 : decode cX7_take 33 = .ok (.istore_n 2, 1) := by decide +kernel
theorem dX7_take_34 : decode cX7_take 34 = .ok (.iload_n 2, 1) := by decide +kernel
theorem dX7_take_35 : decode cX7_take 35 = .ok (.bipush 22, 2) := by decide +kernel
theorem dX7_take_37 : decode cX7_take 37 = .ok (.if_icmp .ge 26, 3) := by decide +kernel
theorem dX7_take_40 : decode cX7_take 40 = .ok (.aload_n 0, 1) := by decide +kernel
theorem dX7_take_41 : decode cX7_take 41 = .ok (.getfield 16, 3) := by decide +kernel
theorem dX7_take_44 : decode cX7_take 44 = .ok (.bipush 22, 2) := by decide +kernel
theorem dX7_take_46 : decode cX7_take 46 = .ok (.iload_n 1, 1) := by decide +kernel
theorem dX7_take_47 : decode cX7_take 47 = .ok (.imul, 1) := by decide +kernel
theorem dX7_take_48 : decode cX7_take 48 = .ok (.iload_n 2, 1) := by decide +kernel
theorem dX7_take_49 : decode cX7_take 49 = .ok (.iadd, 1) := by decide +kernel
theorem dX7_take_50 : decode cX7_take 50 = .ok (.aload_n 0, 1) := by decide +kernel
theorem dX7_take_51 : decode cX7_take 51 = .ok (.getfield 7, 3) := by decide +kernel
theorem dX7_take_54 : decode cX7_take 54 = .ok (.iload_n 2, 1) := by decide +kernel
theorem dX7_take_55 : decode cX7_take 55 = .ok (.iaload, 1) := by decide +kernel
theorem dX7_take_56 : decode cX7_take 56 = .ok (.iastore, 1) := by decide +kernel
theorem dX7_take_57 : decode cX7_take 57 = .ok (.iinc 2 1, 3) := by decide +kernel
theorem dX7_take_60 : decode cX7_take 60 = .ok (.goto (-26), 3) := by decide +kernel
theorem dX7_take_63 : decode cX7_take 63 = .ok (.aload_n 0, 1) := by decide +kernel
theorem dX7_take_64 : decode cX7_take 64 = .ok (.getfield 7, 3) := by decide +kernel
theorem dX7_take_67 : decode cX7_take 67 = .ok (.iconst 2, 1) := by decide +kernel
theorem dX7_take_68 : decode cX7_take 68 = .ok (.iaload, 1) := by decide +kernel
theorem dX7_take_69 : decode cX7_take 69 = .ok (.ireturn, 1) := by decide +kernel
set_option maxRecDepth 20000 in
theorem ggX7_restore_X7_isSnapshot : GoodIn wsX7_restore wsX7_isSnapshot := goodIn_r _ [8, 9, 10, 7, 11] (by decide +kernel) (by decide +kernel)
set_option maxRecDepth 20000 in
theorem gX7_restore_X7_isSnapshot : GoodIn wsX7_restore (va_wsS RX7 203 yX7_isSnapshot wsX7_isSnapshot) := goodIn_app (goodIn_of _ (by decide +kernel)) ggX7_restore_X7_isSnapshot
set_option maxRecDepth 20000 in
theorem ggX7_restore_X7_save : GoodIn wsX7_restore wsX7_save := goodIn_r _ [15, 16, 17, 3, 21, 22, 23, 24, 25, 26, 27, 28, 29, 30, 31, 32, 33, 34, 35, 36, 37, 38, 39, 40] (by decide +kernel) (by decide +kernel)
set_option maxRecDepth 20000 in
theorem gX7_restore_X7_save : GoodIn wsX7_restore (wsV RX7 164 RX7 yX7_save wsX7_save) := goodIn_app (goodIn_of _ (by decide +kernel)) ggX7_restore_X7_save
set_option maxRecDepth 20000 in
theorem ggX7_restore_X7_isKept : GoodIn wsX7_restore wsX7_isKept := goodIn_r _ [20] (by decide +kernel) (by decide +kernel)
set_option maxRecDepth 20000 in
theorem gX7_restore_X7_isKept : GoodIn wsX7_restore (va_wsS RX7 206 yX7_isKept wsX7_isKept) := goodIn_app (goodIn_of _ (by decide +kernel)) ggX7_restore_X7_isKept
theorem dX7_restore_0 : decode cX7_restore 0 = .ok (.aload_n 0, 1) := by decide +kernel
theorem dX7_restore_1 : decode cX7_restore 1 = .ok (.iload_n 1, 1) := by decide +kernel
theorem dX7_restore_2 : decode cX7_restore 2 = .ok (.invokestatic 203, 3) := by decide +kernel
theorem dX7_restore_5 : decode cX7_restore 5 = .ok (.ifCond .eq 7, 3) := by decide +kernel
theorem dX7_restore_8 : decode cX7_restore 8 = .ok (.iconst 0, 1) := by decide +kernel
theorem dX7_restore_9 : decode cX7_restore 9 = .ok (.goto 4, 3) := by decide +kernel
theorem dX7_restore_12 : decode cX7_restore 12 = .ok (.iconst 1, 1) := by decide +kernel
theorem dX7_restore_13 : decode cX7_restore 13 = .ok (.putfield 50, 3) := by decide +kernel
theorem dX7_restore_16 : decode cX7_restore 16 = .ok (.aload_n 0, 1) := by decide +kernel
theorem dX7_restore_17 : decode cX7_restore 17 = .ok (.getfield 50, 3) := by decide +kernel
theorem dX7_restore_20 : decode cX7_restore 20 = .ok (.ifCond .ne 22, 3) := by decide +kernel
theorem dX7_restore_23 : decode cX7_restore 23 = .ok (.aload_n 0, 1) := by decide +kernel
theorem dX7_restore_24 : decode cX7_restore 24 = .ok (.aload_n 0, 1) := by decide +kernel
theorem dX7_restore_25 : decode cX7_restore 25 = .ok (.getfield 19, 3) := by decide +kernel
theorem dX7_restore_28 : decode cX7_restore 28 = .ok (.iload_n 1, 1) := by decide +kernel
theorem dX7_restore_29 : decode cX7_restore 29 = .ok (.iaload, 1) := by decide +kernel
theorem dX7_restore_30 : decode cX7_restore 30 = .ok (.iconst 1, 1) := by decide +kernel
theorem dX7_restore_31 : decode cX7_restore 31 = .ok (.if_icmp .ne 7, 3) := by decide +kernel
theorem dX7_restore_34 : decode cX7_restore 34 = .ok (.iconst 0, 1) := by decide +kernel
theorem dX7_restore_35 : decode cX7_restore 35 = .ok (.goto 4, 3) := by decide +kernel
theorem dX7_restore_38 : decode cX7_restore 38 = .ok (.iconst 2, 1) := by decide +kernel
theorem dX7_restore_39 : decode cX7_restore 39 = .ok (.putfield 50, 3) := by decide +kernel
theorem dX7_restore_42 : decode cX7_restore 42 = .ok (.aload_n 0, 1) := by decide +kernel
theorem dX7_restore_43 : decode cX7_restore 43 = .ok (.getfield 50, 3) := by decide +kernel
theorem dX7_restore_46 : decode cX7_restore 46 = .ok (.ifCond .le 5, 3) := by decide +kernel
theorem dX7_restore_49 : decode cX7_restore 49 = .ok (.iconst 0, 1) := by decide +kernel
theorem dX7_restore_50 : decode cX7_restore 50 = .ok (.ireturn, 1) := by decide +kernel
theorem dX7_restore_51 : decode cX7_restore 51 = .ok (.aload_n 0, 1) := by decide +kernel
theorem dX7_restore_52 : decode cX7_restore 52 = .ok (.invokevirtual 164, 3) := by decide +kernel
theorem dX7_restore_55 : decode cX7_restore 55 = .ok (.iconst 0, 1) := by decide +kernel
theorem dX7_restore_56 : decode cX7_restore 56 = .ok (.istore_n 2, 1) := by decide +kernel
theorem dX7_restore_57 : decode cX7_restore 57 = .ok (.iload_n 2, 1) := by decide +kernel
theorem dX7_restore_58 : decode cX7_restore 58 = .ok (.bipush 22, 2) := by decide +kernel
theorem dX7_restore_60 : decode cX7_restore 60 = .ok (.if_icmp .ge 42, 3) := by decide +kernel
theorem dX7_restore_63 : decode cX7_restore 63 = .ok (.aload_n 0, 1) := by decide +kernel
theorem dX7_restore_64 : decode cX7_restore 64 = .ok (.getfield 7, 3) := by decide +kernel
theorem dX7_restore_67 : decode cX7_restore 67 = .ok (.iload_n 2, 1) := by decide +kernel
theorem dX7_restore_68 : decode cX7_restore 68 = .ok (.iload_n 2, 1) := by decide +kernel
theorem dX7_restore_69 : decode cX7_restore 69 = .ok (.invokestatic 206, 3) := by decide +kernel
theorem dX7_restore_72 : decode cX7_restore 72 = .ok (.ifCond .eq 17, 3) := by decide +kernel
theorem dX7_restore_75 : decode cX7_restore 75 = .ok (.aload_n 0, 1) := by decide +kernel
theorem dX7_restore_76 : decode cX7_restore 76 = .ok (.getfield 16, 3) := by decide +kernel
theorem dX7_restore_79 : decode cX7_restore 79 = .ok (.bipush 22, 2) := by decide +kernel
theorem dX7_restore_81 : decode cX7_restore 81 = .ok (.iload_n 1, 1) := by decide +kernel
theorem dX7_restore_82 : decode cX7_restore 82 = .ok (.imul, 1) := by decide +kernel
theorem dX7_restore_83 : decode cX7_restore 83 = .ok (.iload_n 2, 1) := by decide +kernel
theorem dX7_restore_84 : decode cX7_restore 84 = .ok (.iadd, 1) := by decide +kernel
theorem dX7_restore_85 : decode cX7_restore 85 = .ok (.iaload, 1) := by decide +kernel
theorem dX7_restore_86 : decode cX7_restore 86 = .ok (.goto 9, 3) := by decide +kernel
theorem dX7_restore_89 : decode cX7_restore 89 = .ok (.aload_n 0, 1) := by decide +kernel
theorem dX7_restore_90 : decode cX7_restore 90 = .ok (.getfield 7, 3) := by decide +kernel
theorem dX7_restore_93 : decode cX7_restore 93 = .ok (.iload_n 2, 1) := by decide +kernel
theorem dX7_restore_94 : decode cX7_restore 94 = .ok (.iaload, 1) := by decide +kernel
theorem dX7_restore_95 : decode cX7_restore 95 = .ok (.iastore, 1) := by decide +kernel
theorem dX7_restore_96 : decode cX7_restore 96 = .ok (.iinc 2 1, 3) := by decide +kernel
theorem dX7_restore_99 : decode cX7_restore 99 = .ok (.goto (-42), 3) := by decide +kernel
theorem dX7_restore_102 : decode cX7_restore 102 = .ok (.aload_n 0, 1) := by decide +kernel
theorem dX7_restore_103 : decode cX7_restore 103 = .ok (.getfield 7, 3) := by decide +kernel
theorem dX7_restore_106 : decode cX7_restore 106 = .ok (.iconst 2, 1) := by decide +kernel
theorem dX7_restore_107 : decode cX7_restore 107 = .ok (.iaload, 1) := by decide +kernel
theorem dX7_restore_108 : decode cX7_restore 108 = .ok (.ireturn, 1) := by decide +kernel
theorem dX7_undo_0 : decode cX7_undo 0 = .ok (.aload_n 0, 1) := by decide +kernel
theorem dX7_undo_1 : decode cX7_undo 1 = .ok (.aload_n 0, 1) := by decide +kernel
theorem dX7_undo_2 : decode cX7_undo 2 = .ok (.getfield 54, 3) := by decide +kernel
theorem dX7_undo_5 : decode cX7_undo 5 = .ok (.ifCond .le 7, 3) := by decide +kernel
theorem dX7_undo_8 : decode cX7_undo 8 = .ok (.iconst 0, 1) := by decide +kernel
theorem dX7_undo_9 : decode cX7_undo 9 = .ok (.goto 4, 3) := by decide +kernel
theorem dX7_undo_12 : decode cX7_undo 12 = .ok (.iconst 1, 1) := by decide +kernel
theorem dX7_undo_13 : decode cX7_undo 13 = .ok (.putfield 50, 3) := by decide +kernel
theorem dX7_undo_16 : decode cX7_undo 16 = .ok (.aload_n 0, 1) := by decide +kernel
theorem dX7_undo_17 : decode cX7_undo 17 = .ok (.getfield 50, 3) := by decide +kernel
theorem dX7_undo_20 : decode cX7_undo 20 = .ok (.ifCond .le 5, 3) := by decide +kernel
theorem dX7_undo_23 : decode cX7_undo 23 = .ok (.iconst 0, 1) := by decide +kernel
theorem dX7_undo_24 : decode cX7_undo 24 = .ok (.ireturn, 1) := by decide +kernel
theorem dX7_undo_25 : decode cX7_undo 25 = .ok (.aload_n 0, 1) := by decide +kernel
theorem dX7_undo_26 : decode cX7_undo 26 = .ok (.dup, 1) := by decide +kernel
theorem dX7_undo_27 : decode cX7_undo 27 = .ok (.getfield 54, 3) := by decide +kernel
theorem dX7_undo_30 : decode cX7_undo 30 = .ok (.iconst 1, 1) := by decide +kernel
theorem dX7_undo_31 : decode cX7_undo 31 = .ok (.isub, 1) := by decide +kernel
theorem dX7_undo_32 : decode cX7_undo 32 = .ok (.putfield 54, 3) := by decide +kernel
theorem dX7_undo_35 : decode cX7_undo 35 = .ok (.iconst 0, 1) := by decide +kernel
theorem dX7_undo_36 : decode cX7_undo 36 = .ok (.istore_n 1, 1) := by decide +kernel
theorem dX7_undo_37 : decode cX7_undo 37 = .ok (.iload_n 1, 1) := by decide +kernel
theorem dX7_undo_38 : decode cX7_undo 38 = .ok (.bipush 22, 2) := by decide +kernel
theorem dX7_undo_40 : decode cX7_undo 40 = .ok (.if_icmp .ge 29, 3) := by decide +kernel
theorem dX7_undo_43 : decode cX7_undo 43 = .ok (.aload_n 0, 1) := by decide +kernel
theorem dX7_undo_44 : decode cX7_undo 44 = .ok (.getfield 7, 3) := by decide +kernel
theorem dX7_undo_47 : decode cX7_undo 47 = .ok (.iload_n 1, 1) := by decide +kernel
theorem dX7_undo_48 : decode cX7_undo 48 = .ok (.aload_n 0, 1) := by decide +kernel
theorem dX7_undo_49 : decode cX7_undo 49 = .ok (.getfield 13, 3) := by decide +kernel
theorem dX7_undo_52 : decode cX7_undo 52 = .ok (.bipush 22, 2) := by decide +kernel
theorem dX7_undo_54 : decode cX7_undo 54 = .ok (.aload_n 0, 1) := by decide +kernel
theorem dX7_undo_55 : decode cX7_undo 55 = .ok (.getfield 54, 3) := by decide +kernel
theorem dX7_undo_58 : decode cX7_undo 58 = .ok (.imul, 1) := by decide +kernel
theorem dX7_undo_59 : decode cX7_undo 59 = .ok (.iload_n 1, 1) := by decide +kernel
theorem dX7_undo_60 : decode cX7_undo 60 = .ok (.iadd, 1) := by decide +kernel
theorem dX7_undo_61 : decode cX7_undo 61 = .ok (.iaload, 1) := by decide +kernel
theorem dX7_undo_62 : decode cX7_undo 62 = .ok (.iastore, 1) := by decide +kernel
theorem dX7_undo_63 : decode cX7_undo 63 = .ok (.iinc 1 1, 3) := by decide +kernel
theorem dX7_undo_66 : decode cX7_undo 66 = .ok (.goto (-29), 3) := by decide +kernel
theorem dX7_undo_69 : decode cX7_undo 69 = .ok (.aload_n 0, 1) := by decide +kernel
theorem dX7_undo_70 : decode cX7_undo 70 = .ok (.getfield 54, 3) := by decide +kernel
theorem dX7_undo_73 : decode cX7_undo 73 = .ok (.ireturn, 1) := by decide +kernel
set_option maxRecDepth 20000 in
theorem ggX7_lineNow_X7_isDead : GoodIn wsX7_lineNow wsX7_isDead := goodIn_r _ [6, 1, 7, 8, 9, 5, 10, 30, 31, 32, 33, 34, 35, 36, 37, 38, 39, 40, 41, 42, 43, 44, 45, 46, 47, 48, 49] (by decide +kernel) (by decide +kernel)
set_option maxRecDepth 20000 in
theorem gX7_lineNow_X7_isDead : GoodIn wsX7_lineNow (wsV RX7 71 RX7 yX7_isDead wsX7_isDead) := goodIn_app (goodIn_of _ (by decide +kernel)) ggX7_lineNow_X7_isDead
set_option maxRecDepth 20000 in
theorem ggX7_lineNow_X7_freeOf : GoodIn wsX7_lineNow wsX7_freeOf := goodIn_r _ [14, 1, 15, 16, 17, 5, 18, 19, 20, 21, 22, 7, 8, 9, 10, 30, 31, 32, 33, 34, 35, 36, 37, 38, 39, 40, 41, 42, 43, 44, 45, 46, 47, 48, 49] (by decide +kernel) (by decide +kernel)
set_option maxRecDepth 20000 in
theorem gX7_lineNow_X7_freeOf : GoodIn wsX7_lineNow (wsV RX7 75 RX7 yX7_freeOf wsX7_freeOf) := goodIn_app (goodIn_of _ (by decide +kernel)) ggX7_lineNow_X7_freeOf
set_option maxRecDepth 20000 in
theorem ggX7_lineNow_X7_ones : GoodIn wsX7_lineNow wsX7_ones := goodIn_r _ [25] (by decide +kernel) (by decide +kernel)
set_option maxRecDepth 20000 in
theorem gX7_lineNow_X7_ones : GoodIn wsX7_lineNow (va_wsS RX7 79 yX7_ones wsX7_ones) := goodIn_app (goodIn_of _ (by decide +kernel)) ggX7_lineNow_X7_ones
set_option maxRecDepth 20000 in
theorem ggX7_lineNow_X7_weightOf : GoodIn wsX7_lineNow wsX7_weightOf := goodIn_r _ [29, 2, 3, 4, 5, 6, 1, 7, 8, 9, 10, 11, 12, 13, 14, 15, 16, 17, 18, 19, 20, 21, 22, 23, 24, 25, 30, 31, 32, 33, 34, 35, 36, 37, 38, 39, 40, 41, 42, 43, 44, 45, 46, 47, 48, 49] (by decide +kernel) (by decide +kernel)
set_option maxRecDepth 20000 in
theorem gX7_lineNow_X7_weightOf : GoodIn wsX7_lineNow (wsV RX7 86 RX7 yX7_weightOf wsX7_weightOf) := goodIn_app (goodIn_of _ (by decide +kernel)) ggX7_lineNow_X7_weightOf
set_option maxRecDepth 20000 in
theorem ggX7_lineNow_X7_maker : GoodIn wsX7_lineNow wsX7_maker := goodIn_r _ [22, 1, 30, 31, 32, 33, 34, 35, 36, 37, 38, 39, 40, 41, 42, 43, 44, 45, 46, 47, 48, 49] (by decide +kernel) (by decide +kernel)
set_option maxRecDepth 20000 in
theorem gX7_lineNow_X7_maker : GoodIn wsX7_lineNow (wsV RX7 61 RX7 yX7_maker wsX7_maker) := goodIn_app (goodIn_of _ (by decide +kernel)) ggX7_lineNow_X7_maker
theorem dX7_lineNow_0 : decode cX7_lineNow 0 = .ok (.iload_n 2, 1) := by decide +kernel
theorem dX7_lineNow_1 : decode cX7_lineNow 1 = .ok (.tableswitch 70 0 3 #[31, 41, 55, 64], 31) := by decide +kernel
theorem dX7_lineNow_32 : decode cX7_lineNow 32 = .ok (.aload_n 0, 1) := by decide +kernel
theorem dX7_lineNow_33 : decode cX7_lineNow 33 = .ok (.getfield 7, 3) := by decide +kernel
theorem dX7_lineNow_36 : decode cX7_lineNow 36 = .ok (.bipush 10, 2) := by decide +kernel
theorem dX7_lineNow_38 : decode cX7_lineNow 38 = .ok (.iload_n 1, 1) := by decide +kernel
theorem dX7_lineNow_39 : decode cX7_lineNow 39 = .ok (.iadd, 1) := by decide +kernel
theorem dX7_lineNow_40 : decode cX7_lineNow 40 = .ok (.iaload, 1) := by decide +kernel
theorem dX7_lineNow_41 : decode cX7_lineNow 41 = .ok (.ireturn, 1) := by decide +kernel
theorem dX7_lineNow_42 : decode cX7_lineNow 42 = .ok (.aload_n 0, 1) := by decide +kernel
theorem dX7_lineNow_43 : decode cX7_lineNow 43 = .ok (.iload_n 1, 1) := by decide +kernel
theorem dX7_lineNow_44 : decode cX7_lineNow 44 = .ok (.invokevirtual 71, 3) := by decide +kernel
theorem dX7_lineNow_47 : decode cX7_lineNow 47 = .ok (.ifCond .eq 7, 3) := by decide +kernel
theorem dX7_lineNow_50 : decode cX7_lineNow 50 = .ok (.iconst 1, 1) := by decide +kernel
theorem dX7_lineNow_51 : decode cX7_lineNow 51 = .ok (.goto 4, 3) := by decide +kernel
theorem dX7_lineNow_54 : decode cX7_lineNow 54 = .ok (.iconst 0, 1) := by decide +kernel
theorem dX7_lineNow_55 : decode cX7_lineNow 55 = .ok (.ireturn, 1) := by decide +kernel
theorem dX7_lineNow_56 : decode cX7_lineNow 56 = .ok (.aload_n 0, 1) := by decide +kernel
theorem dX7_lineNow_57 : decode cX7_lineNow 57 = .ok (.iload_n 1, 1) := by decide +kernel
theorem dX7_lineNow_58 : decode cX7_lineNow 58 = .ok (.invokevirtual 75, 3) := by decide +kernel
theorem dX7_lineNow_61 : decode cX7_lineNow 61 = .ok (.invokestatic 79, 3) := by decide +kernel
theorem dX7_lineNow_64 : decode cX7_lineNow 64 = .ok (.ireturn, 1) := by decide +kernel
theorem dX7_lineNow_65 : decode cX7_lineNow 65 = .ok (.aload_n 0, 1) := by decide +kernel
theorem dX7_lineNow_66 : decode cX7_lineNow 66 = .ok (.iload_n 1, 1) := by decide +kernel
theorem dX7_lineNow_67 : decode cX7_lineNow 67 = .ok (.invokevirtual 86, 3) := by decide +kernel
theorem dX7_lineNow_70 : decode cX7_lineNow 70 = .ok (.ireturn, 1) := by decide +kernel
theorem dX7_lineNow_71 : decode cX7_lineNow 71 = .ok (.aload_n 0, 1) := by decide +kernel
theorem dX7_lineNow_72 : decode cX7_lineNow 72 = .ok (.getfield 7, 3) := by decide +kernel
theorem dX7_lineNow_75 : decode cX7_lineNow 75 = .ok (.bipush 10, 2) := by decide +kernel
theorem dX7_lineNow_77 : decode cX7_lineNow 77 = .ok (.iload_n 1, 1) := by decide +kernel
theorem dX7_lineNow_78 : decode cX7_lineNow 78 = .ok (.iadd, 1) := by decide +kernel
theorem dX7_lineNow_79 : decode cX7_lineNow 79 = .ok (.iaload, 1) := by decide +kernel
theorem dX7_lineNow_80 : decode cX7_lineNow 80 = .ok (.aload_n 0, 1) := by decide +kernel
theorem dX7_lineNow_81 : decode cX7_lineNow 81 = .ok (.invokevirtual 61, 3) := by decide +kernel
theorem dX7_lineNow_84 : decode cX7_lineNow 84 = .ok (.iand, 1) := by decide +kernel
theorem dX7_lineNow_85 : decode cX7_lineNow 85 = .ok (.invokestatic 79, 3) := by decide +kernel
theorem dX7_lineNow_88 : decode cX7_lineNow 88 = .ok (.ireturn, 1) := by decide +kernel
set_option maxRecDepth 20000 in
theorem ggX7_line_X7_isLine : GoodIn wsX7_line wsX7_isLine := goodIn_r _ [6, 7, 8, 9, 5, 10, 42, 43, 44, 45, 46, 47, 48, 49, 50, 51, 52, 53, 54, 55, 56, 57, 58, 59, 60, 61] (by decide +kernel) (by decide +kernel)
set_option maxRecDepth 20000 in
theorem gX7_line_X7_isLine : GoodIn wsX7_line (wsV RX7 170 RX7 yX7_isLine wsX7_isLine) := goodIn_app (goodIn_of _ (by decide +kernel)) ggX7_line_X7_isLine
set_option maxRecDepth 20000 in
theorem ggX7_line_X7_within : GoodIn wsX7_line wsX7_within := goodIn_r _ [10] (by decide +kernel) (by decide +kernel)
set_option maxRecDepth 20000 in
theorem gX7_line_X7_within : GoodIn wsX7_line (va_wsS RX7 57 yX7_within wsX7_within) := goodIn_app (goodIn_of _ (by decide +kernel)) ggX7_line_X7_within
set_option maxRecDepth 20000 in
theorem ggX7_line_X7_lineNow : GoodIn wsX7_line wsX7_lineNow := goodIn_r _ [14, 7, 15, 16, 17, 5, 18, 19, 20, 21, 22, 23, 24, 25, 26, 27, 28, 29, 30, 31, 32, 33, 34, 35, 36, 37, 38, 39, 40, 41, 42, 43, 44, 45, 46, 47, 48, 49, 50, 51, 52, 53, 54, 55, 56, 57, 58, 59, 60, 61] (by decide +kernel) (by decide +kernel)
set_option maxRecDepth 20000 in
theorem gX7_line_X7_lineNow : GoodIn wsX7_line (wsV RX7 209 RX7 yX7_lineNow wsX7_lineNow) := goodIn_app (goodIn_of _ (by decide +kernel)) ggX7_line_X7_lineNow
theorem dX7_line_0 : decode cX7_line 0 = .ok (.aload_n 0, 1) := by decide +kernel
theorem dX7_line_1 : decode cX7_line 1 = .ok (.aload_n 0, 1) := by decide +kernel
theorem dX7_line_2 : decode cX7_line 2 = .ok (.iload_n 1, 1) := by decide +kernel
theorem dX7_line_3 : decode cX7_line 3 = .ok (.invokevirtual 170, 3) := by decide +kernel
theorem dX7_line_6 : decode cX7_line 6 = .ok (.ifCond .ne 7, 3) := by decide +kernel
theorem dX7_line_9 : decode cX7_line 9 = .ok (.iconst 1, 1) := by decide +kernel
theorem dX7_line_10 : decode cX7_line 10 = .ok (.goto 17, 3) := by decide +kernel
theorem dX7_line_13 : decode cX7_line 13 = .ok (.iload_n 2, 1) := by decide +kernel
theorem dX7_line_14 : decode cX7_line 14 = .ok (.iconst 0, 1) := by decide +kernel
theorem dX7_line_15 : decode cX7_line 15 = .ok (.iconst 4, 1) := by decide +kernel
theorem dX7_line_16 : decode cX7_line 16 = .ok (.invokestatic 57, 3) := by decide +kernel
theorem dX7_line_19 : decode cX7_line 19 = .ok (.ifCond .eq 7, 3) := by decide +kernel
theorem dX7_line_22 : decode cX7_line 22 = .ok (.iconst 0, 1) := by decide +kernel
theorem dX7_line_23 : decode cX7_line 23 = .ok (.goto 4, 3) := by decide +kernel
theorem dX7_line_26 : decode cX7_line 26 = .ok (.iconst 2, 1) := by decide +kernel
theorem dX7_line_27 : decode cX7_line 27 = .ok (.putfield 50, 3) := by decide +kernel
theorem dX7_line_30 : decode cX7_line 30 = .ok (.aload_n 0, 1) := by decide +kernel
theorem dX7_line_31 : decode cX7_line 31 = .ok (.getfield 50, 3) := by decide +kernel
theorem dX7_line_34 : decode cX7_line 34 = .ok (.ifCond .le 7, 3) := by decide +kernel
theorem dX7_line_37 : decode cX7_line 37 = .ok (.iconst 0, 1) := by decide +kernel
theorem dX7_line_38 : decode cX7_line 38 = .ok (.goto 9, 3) := by decide +kernel
theorem dX7_line_41 : decode cX7_line 41 = .ok (.aload_n 0, 1) := by decide +kernel
theorem dX7_line_42 : decode cX7_line 42 = .ok (.iload_n 1, 1) := by decide +kernel
theorem dX7_line_43 : decode cX7_line 43 = .ok (.iload_n 2, 1) := by decide +kernel
theorem dX7_line_44 : decode cX7_line 44 = .ok (.invokevirtual 209, 3) := by decide +kernel
theorem dX7_line_47 : decode cX7_line 47 = .ok (.ireturn, 1) := by decide +kernel
set_option maxRecDepth 20000 in
theorem ggX7_livelyWith_X7_isDead : GoodIn wsX7_livelyWith wsX7_isDead := goodIn_r _ [6, 1, 7, 8, 9, 5, 10, 14, 15, 16, 17, 18, 19, 20, 21, 22, 23, 24, 25, 26, 27, 28, 29, 30, 31, 32, 33] (by decide +kernel) (by decide +kernel)
set_option maxRecDepth 20000 in
theorem gX7_livelyWith_X7_isDead : GoodIn wsX7_livelyWith (wsV RX7 71 RX7 yX7_isDead wsX7_isDead) := goodIn_app (goodIn_of _ (by decide +kernel)) ggX7_livelyWith_X7_isDead
set_option maxRecDepth 20000 in
theorem ggX7_livelyWith_X7_has : GoodIn wsX7_livelyWith wsX7_has := goodIn_r _ [13] (by decide +kernel) (by decide +kernel)
set_option maxRecDepth 20000 in
theorem gX7_livelyWith_X7_has : GoodIn wsX7_livelyWith (va_wsS RX7 89 yX7_has wsX7_has) := goodIn_app (goodIn_of _ (by decide +kernel)) ggX7_livelyWith_X7_has
theorem dX7_livelyWith_0 : decode cX7_livelyWith 0 = .ok (.iconst 0, 1) := by decide +kernel
theorem dX7_livelyWith_1 : decode cX7_livelyWith 1 = .ok (.istore_n 2, 1) := by decide +kernel
theorem dX7_livelyWith_2 : decode cX7_livelyWith 2 = .ok (.iconst 0, 1) := by decide +kernel
theorem dX7_livelyWith_3 : decode cX7_livelyWith 3 = .ok (.istore_n 3, 1) := by decide +kernel
theorem dX7_livelyWith_4 : decode cX7_livelyWith 4 = .ok (.iload_n 3, 1) := by decide +kernel
theorem dX7_livelyWith_5 : decode cX7_livelyWith 5 = .ok (.aload_n 0, 1) := by decide +kernel
theorem dX7_livelyWith_6 : decode cX7_livelyWith 6 = .ok (.getfield 7, 3) := by decide +kernel
theorem dX7_livelyWith_9 : decode cX7_livelyWith 9 = .ok (.iconst 2, 1) := by decide +kernel
theorem dX7_livelyWith_10 : decode cX7_livelyWith 10 = .ok (.iaload, 1) := by decide +kernel
theorem dX7_livelyWith_11 : decode cX7_livelyWith 11 = .ok (.if_icmp .ge 41, 3) := by decide +kernel
theorem dX7_livelyWith_14 : decode cX7_livelyWith 14 = .ok (.iload_n 2, 1) := by decide +kernel
theorem dX7_livelyWith_15 : decode cX7_livelyWith 15 = .ok (.aload_n 0, 1) := by decide +kernel
theorem dX7_livelyWith_16 : decode cX7_livelyWith 16 = .ok (.iload_n 3, 1) := by decide +kernel
theorem dX7_livelyWith_17 : decode cX7_livelyWith 17 = .ok (.invokevirtual 71, 3) := by decide +kernel
theorem dX7_livelyWith_20 : decode cX7_livelyWith 20 = .ok (.ifCond .ne 23, 3) := by decide +kernel
theorem dX7_livelyWith_23 : decode cX7_livelyWith 23 = .ok (.aload_n 0, 1) := by decide +kernel
theorem dX7_livelyWith_24 : decode cX7_livelyWith 24 = .ok (.getfield 7, 3) := by decide +kernel
theorem dX7_livelyWith_27 : decode cX7_livelyWith 27 = .ok (.bipush 10, 2) := by decide +kernel
theorem dX7_livelyWith_29 : decode cX7_livelyWith 29 = .ok (.iload_n 3, 1) := by decide +kernel
theorem dX7_livelyWith_30 : decode cX7_livelyWith 30 = .ok (.iadd, 1) := by decide +kernel
theorem dX7_livelyWith_31 : decode cX7_livelyWith 31 = .ok (.iaload, 1) := by decide +kernel
theorem dX7_livelyWith_32 : decode cX7_livelyWith 32 = .ok (.iload_n 1, 1) := by decide +kernel
theorem dX7_livelyWith_33 : decode cX7_livelyWith 33 = .ok (.invokestatic 89, 3) := by decide +kernel
theorem dX7_livelyWith_36 : decode cX7_livelyWith 36 = .ok (.ifCond .eq 7, 3) := by decide +kernel
theorem dX7_livelyWith_39 : decode cX7_livelyWith 39 = .ok (.iconst 1, 1) := by decide +kernel
theorem dX7_livelyWith_40 : decode cX7_livelyWith 40 = .ok (.goto 4, 3) := by decide +kernel
theorem dX7_livelyWith_43 : decode cX7_livelyWith 43 = .ok (.iconst 0, 1) := by decide +kernel
theorem dX7_livelyWith_44 : decode cX7_livelyWith 44 = .ok (.iadd, 1) := by decide +kernel
theorem dX7_livelyWith_45 : decode cX7_livelyWith 45 = .ok (.istore_n 2, 1) := by decide +kernel
theorem dX7_livelyWith_46 : decode cX7_livelyWith 46 = .ok (.iinc 3 1, 3) := by decide +kernel
theorem dX7_livelyWith_49 : decode cX7_livelyWith 49 = .ok (.goto (-45), 3) := by decide +kernel
theorem dX7_livelyWith_52 : decode cX7_livelyWith 52 = .ok (.iload_n 2, 1) := by decide +kernel
theorem dX7_livelyWith_53 : decode cX7_livelyWith 53 = .ok (.ireturn, 1) := by decide +kernel
set_option maxRecDepth 20000 in
theorem ggX7_cellNow_X7_maker : GoodIn wsX7_cellNow wsX7_maker := goodIn_r _ [5, 6, 72, 73, 74, 75, 76, 77, 78, 79, 80, 81, 82, 83, 84, 85, 86, 87, 88, 89, 90, 91] (by decide +kernel) (by decide +kernel)
set_option maxRecDepth 20000 in
theorem gX7_cellNow_X7_maker : GoodIn wsX7_cellNow (wsV RX7 61 RX7 yX7_maker wsX7_maker) := goodIn_app (goodIn_of _ (by decide +kernel)) ggX7_cellNow_X7_maker
set_option maxRecDepth 20000 in
theorem ggX7_cellNow_X7_has : GoodIn wsX7_cellNow wsX7_has := goodIn_r _ [9] (by decide +kernel) (by decide +kernel)
set_option maxRecDepth 20000 in
theorem gX7_cellNow_X7_has : GoodIn wsX7_cellNow (va_wsS RX7 89 yX7_has wsX7_has) := goodIn_app (goodIn_of _ (by decide +kernel)) ggX7_cellNow_X7_has
set_option maxRecDepth 20000 in
theorem ggX7_cellNow_X7_breaker : GoodIn wsX7_cellNow wsX7_breaker := goodIn_r _ [13, 6, 72, 73, 74, 75, 76, 77, 78, 79, 80, 81, 82, 83, 84, 85, 86, 87, 88, 89, 90, 91] (by decide +kernel) (by decide +kernel)
set_option maxRecDepth 20000 in
theorem gX7_cellNow_X7_breaker : GoodIn wsX7_cellNow (wsV RX7 65 RX7 yX7_breaker wsX7_breaker) := goodIn_app (goodIn_of _ (by decide +kernel)) ggX7_cellNow_X7_breaker
set_option maxRecDepth 20000 in
theorem ggX7_cellNow_X7_danger : GoodIn wsX7_cellNow wsX7_danger := goodIn_r _ [17, 6, 18, 19, 20, 4, 21, 22, 23, 24, 25, 1, 2, 3, 5, 10, 11, 12, 13, 7, 8, 9, 26, 27, 28, 29, 30, 31, 32, 33, 34, 35, 36, 72, 73, 74, 75, 76, 77, 78, 79, 80, 81, 82, 83, 84, 85, 86, 87, 88, 89, 90, 91] (by decide +kernel) (by decide +kernel)
set_option maxRecDepth 20000 in
theorem gX7_cellNow_X7_danger : GoodIn wsX7_cellNow (wsV RX7 152 RX7 yX7_danger wsX7_danger) := goodIn_app (goodIn_of _ (by decide +kernel)) ggX7_cellNow_X7_danger
set_option maxRecDepth 20000 in
theorem ggX7_cellNow_X7_partnerOf : GoodIn wsX7_cellNow wsX7_partnerOf := goodIn_r _ [40, 41, 42, 43, 44, 4, 45, 6, 46, 30, 31, 32, 33, 10, 11, 12, 13, 47, 48, 49, 50, 7, 8, 9, 51, 52, 53, 54, 55, 56, 57, 58, 59, 60, 61, 62, 63, 18, 19, 20, 21, 22, 23, 24, 25, 1, 2, 3, 5, 64, 65, 66, 67, 72, 73, 74, 75, 76, 77, 78, 79, 80, 81, 82, 83, 84, 85, 86, 87, 88, 89, 90, 91] (by decide +kernel) (by decide +kernel)
set_option maxRecDepth 20000 in
theorem gX7_cellNow_X7_partnerOf : GoodIn wsX7_cellNow (wsV RX7 173 RX7 yX7_partnerOf wsX7_partnerOf) := goodIn_app (goodIn_of _ (by decide +kernel)) ggX7_cellNow_X7_partnerOf
set_option maxRecDepth 20000 in
theorem ggX7_cellNow_X7_livelyWith : GoodIn wsX7_cellNow wsX7_livelyWith := goodIn_r _ [71, 6, 30, 31, 32, 4, 33, 10, 11, 12, 13, 7, 8, 9, 72, 73, 74, 75, 76, 77, 78, 79, 80, 81, 82, 83, 84, 85, 86, 87, 88, 89, 90, 91] (by decide +kernel) (by decide +kernel)
set_option maxRecDepth 20000 in
theorem gX7_cellNow_X7_livelyWith : GoodIn wsX7_cellNow (wsV RX7 212 RX7 yX7_livelyWith wsX7_livelyWith) := goodIn_app (goodIn_of _ (by decide +kernel)) ggX7_cellNow_X7_livelyWith
theorem dX7_cellNow_0 : decode cX7_cellNow 0 = .ok (.iload_n 2, 1) := by decide +kernel
theorem dX7_cellNow_1 : decode cX7_cellNow 1 = .ok (.tableswitch 71 0 2 #[27, 59, 65], 27) := by decide +kernel
theorem dX7_cellNow_28 : decode cX7_cellNow 28 = .ok (.aload_n 0, 1) := by decide +kernel
theorem dX7_cellNow_29 : decode cX7_cellNow 29 = .ok (.invokevirtual 61, 3) := by decide +kernel
theorem dX7_cellNow_32 : decode cX7_cellNow 32 = .ok (.iload_n 1, 1) := by decide +kernel
theorem dX7_cellNow_33 : decode cX7_cellNow 33 = .ok (.invokestatic 89, 3) := by decide +kernel
theorem dX7_cellNow_36 : decode cX7_cellNow 36 = .ok (.ifCond .eq 7, 3) := by decide +kernel
theorem dX7_cellNow_39 : decode cX7_cellNow 39 = .ok (.iconst 1, 1) := by decide +kernel
theorem dX7_cellNow_40 : decode cX7_cellNow 40 = .ok (.goto 19, 3) := by decide +kernel
theorem dX7_cellNow_43 : decode cX7_cellNow 43 = .ok (.aload_n 0, 1) := by decide +kernel
theorem dX7_cellNow_44 : decode cX7_cellNow 44 = .ok (.invokevirtual 65, 3) := by decide +kernel
theorem dX7_cellNow_47 : decode cX7_cellNow 47 = .ok (.iload_n 1, 1) := by decide +kernel
theorem dX7_cellNow_48 : decode cX7_cellNow 48 = .ok (.invokestatic 89, 3) := by decide +kernel
theorem dX7_cellNow_51 : decode cX7_cellNow 51 = .ok (.ifCond .eq 7, 3) := by decide +kernel
theorem dX7_cellNow_54 : decode cX7_cellNow 54 = .ok (.iconst 2, 1) := by decide +kernel
theorem dX7_cellNow_55 : decode cX7_cellNow 55 = .ok (.goto 4, 3) := by decide +kernel
theorem dX7_cellNow_58 : decode cX7_cellNow 58 = .ok (.iconst 0, 1) := by decide +kernel
theorem dX7_cellNow_59 : decode cX7_cellNow 59 = .ok (.ireturn, 1) := by decide +kernel
theorem dX7_cellNow_60 : decode cX7_cellNow 60 = .ok (.aload_n 0, 1) := by decide +kernel
theorem dX7_cellNow_61 : decode cX7_cellNow 61 = .ok (.iload_n 1, 1) := by decide +kernel
theorem dX7_cellNow_62 : decode cX7_cellNow 62 = .ok (.invokevirtual 152, 3) := by decide +kernel
theorem dX7_cellNow_65 : decode cX7_cellNow 65 = .ok (.ireturn, 1) := by decide +kernel
theorem dX7_cellNow_66 : decode cX7_cellNow 66 = .ok (.aload_n 0, 1) := by decide +kernel
theorem dX7_cellNow_67 : decode cX7_cellNow 67 = .ok (.iload_n 1, 1) := by decide +kernel
theorem dX7_cellNow_68 : decode cX7_cellNow 68 = .ok (.invokevirtual 173, 3) := by decide +kernel
theorem dX7_cellNow_71 : decode cX7_cellNow 71 = .ok (.ireturn, 1) := by decide +kernel
theorem dX7_cellNow_72 : decode cX7_cellNow 72 = .ok (.aload_n 0, 1) := by decide +kernel
theorem dX7_cellNow_73 : decode cX7_cellNow 73 = .ok (.iload_n 1, 1) := by decide +kernel
theorem dX7_cellNow_74 : decode cX7_cellNow 74 = .ok (.invokevirtual 212, 3) := by decide +kernel
theorem dX7_cellNow_77 : decode cX7_cellNow 77 = .ok (.ireturn, 1) := by decide +kernel
set_option maxRecDepth 20000 in
theorem ggX7_cell_X7_isCell : GoodIn wsX7_cell wsX7_isCell := goodIn_r _ [6, 7, 8, 9, 5, 10, 84, 85, 86, 87, 88, 89, 90, 91, 92, 93, 94, 95, 96, 97, 98, 99, 100, 101, 102, 103] (by decide +kernel) (by decide +kernel)
set_option maxRecDepth 20000 in
theorem gX7_cell_X7_isCell : GoodIn wsX7_cell (wsV RX7 176 RX7 yX7_isCell wsX7_isCell) := goodIn_app (goodIn_of _ (by decide +kernel)) ggX7_cell_X7_isCell
set_option maxRecDepth 20000 in
theorem ggX7_cell_X7_within : GoodIn wsX7_cell wsX7_within := goodIn_r _ [10] (by decide +kernel) (by decide +kernel)
set_option maxRecDepth 20000 in
theorem gX7_cell_X7_within : GoodIn wsX7_cell (va_wsS RX7 57 yX7_within wsX7_within) := goodIn_app (goodIn_of _ (by decide +kernel)) ggX7_cell_X7_within
set_option maxRecDepth 20000 in
theorem ggX7_cell_X7_cellNow : GoodIn wsX7_cell wsX7_cellNow := goodIn_r _ [14, 15, 16, 17, 5, 18, 7, 19, 20, 21, 22, 23, 24, 25, 26, 27, 28, 29, 30, 31, 32, 33, 34, 35, 36, 37, 38, 39, 40, 41, 42, 43, 44, 45, 46, 47, 48, 49, 50, 51, 52, 53, 54, 55, 56, 57, 58, 59, 60, 61, 62, 63, 64, 65, 66, 67, 68, 69, 70, 71, 72, 73, 74, 75, 76, 77, 78, 79, 80, 81, 82, 83, 84, 85, 86, 87, 88, 89, 90, 91, 92, 93, 94, 95, 96, 97, 98, 99, 100, 101, 102, 103] (by decide +kernel) (by decide +kernel)
set_option maxRecDepth 20000 in
theorem gX7_cell_X7_cellNow : GoodIn wsX7_cell (wsV RX7 215 RX7 yX7_cellNow wsX7_cellNow) := goodIn_app (goodIn_of _ (by decide +kernel)) ggX7_cell_X7_cellNow
theorem dX7_cell_0 : decode cX7_cell 0 = .ok (.aload_n 0, 1) := by decide +kernel
theorem dX7_cell_1 : decode cX7_cell 1 = .ok (.aload_n 0, 1) := by decide +kernel
theorem dX7_cell_2 : decode cX7_cell 2 = .ok (.iload_n 1, 1) := by decide +kernel
theorem dX7_cell_3 : decode cX7_cell 3 = .ok (.invokevirtual 176, 3) := by decide +kernel
theorem dX7_cell_6 : decode cX7_cell 6 = .ok (.ifCond .ne 7, 3) := by decide +kernel
theorem dX7_cell_9 : decode cX7_cell 9 = .ok (.iconst 1, 1) := by decide +kernel
theorem dX7_cell_10 : decode cX7_cell 10 = .ok (.goto 17, 3) := by decide +kernel
theorem dX7_cell_13 : decode cX7_cell 13 = .ok (.iload_n 2, 1) := by decide +kernel
theorem dX7_cell_14 : decode cX7_cell 14 = .ok (.iconst 0, 1) := by decide +kernel
theorem dX7_cell_15 : decode cX7_cell 15 = .ok (.iconst 3, 1) := by decide +kernel
theorem dX7_cell_16 : decode cX7_cell 16 = .ok (.invokestatic 57, 3) := by decide +kernel
theorem dX7_cell_19 : decode cX7_cell 19 = .ok (.ifCond .eq 7, 3) := by decide +kernel
theorem dX7_cell_22 : decode cX7_cell 22 = .ok (.iconst 0, 1) := by decide +kernel
theorem dX7_cell_23 : decode cX7_cell 23 = .ok (.goto 4, 3) := by decide +kernel
theorem dX7_cell_26 : decode cX7_cell 26 = .ok (.iconst 2, 1) := by decide +kernel
theorem dX7_cell_27 : decode cX7_cell 27 = .ok (.putfield 50, 3) := by decide +kernel
theorem dX7_cell_30 : decode cX7_cell 30 = .ok (.aload_n 0, 1) := by decide +kernel
theorem dX7_cell_31 : decode cX7_cell 31 = .ok (.getfield 50, 3) := by decide +kernel
theorem dX7_cell_34 : decode cX7_cell 34 = .ok (.ifCond .le 7, 3) := by decide +kernel
theorem dX7_cell_37 : decode cX7_cell 37 = .ok (.iconst 0, 1) := by decide +kernel
theorem dX7_cell_38 : decode cX7_cell 38 = .ok (.goto 9, 3) := by decide +kernel
theorem dX7_cell_41 : decode cX7_cell 41 = .ok (.aload_n 0, 1) := by decide +kernel
theorem dX7_cell_42 : decode cX7_cell 42 = .ok (.iload_n 1, 1) := by decide +kernel
theorem dX7_cell_43 : decode cX7_cell 43 = .ok (.iload_n 2, 1) := by decide +kernel
theorem dX7_cell_44 : decode cX7_cell 44 = .ok (.invokevirtual 215, 3) := by decide +kernel
theorem dX7_cell_47 : decode cX7_cell 47 = .ok (.ireturn, 1) := by decide +kernel
set_option maxRecDepth 20000 in
theorem ggX7_reply_X7_isRule : GoodIn wsX7_reply wsX7_isRule := goodIn_r _ [5, 6, 7, 4, 8] (by decide +kernel) (by decide +kernel)
set_option maxRecDepth 20000 in
theorem gX7_reply_X7_isRule : GoodIn wsX7_reply (va_wsS RX7 185 yX7_isRule wsX7_isRule) := goodIn_app (goodIn_of _ (by decide +kernel)) ggX7_reply_X7_isRule
set_option maxRecDepth 20000 in
theorem ggX7_reply_X7_replyBy : GoodIn wsX7_reply wsX7_replyBy := goodIn_r _ [12, 13, 14, 15, 16, 4, 17, 18, 19, 20, 21, 22, 23, 24, 25, 26, 27, 28, 29, 30, 31, 32, 33, 34, 35, 36, 37, 38, 39, 40, 41, 42, 43, 44, 45, 46, 47, 48, 49, 50, 51, 52, 53, 54, 55, 56, 57, 58, 59, 60, 61, 62, 63, 64, 65, 66, 67, 68, 69, 70, 71, 72, 73, 74, 75, 76, 77, 78, 79, 80, 81, 82, 83, 84, 85, 86, 87, 88, 89, 90, 91, 92, 93, 94, 95, 96, 97, 98, 99, 100, 101, 102, 103, 104, 105, 106, 107, 108, 109, 110, 111, 112, 113, 114, 115, 116, 117, 118, 119, 120, 121, 122, 123, 124, 125, 126, 127, 128] (by decide +kernel) (by decide +kernel)
set_option maxRecDepth 20000 in
theorem gX7_reply_X7_replyBy : GoodIn wsX7_reply (wsV RX7 182 RX7 yX7_replyBy wsX7_replyBy) := goodIn_app (goodIn_of _ (by decide +kernel)) ggX7_reply_X7_replyBy
theorem dX7_reply_0 : decode cX7_reply 0 = .ok (.aload_n 0, 1) := by decide +kernel
theorem dX7_reply_1 : decode cX7_reply 1 = .ok (.iload_n 1, 1) := by decide +kernel
theorem dX7_reply_2 : decode cX7_reply 2 = .ok (.invokestatic 185, 3) := by decide +kernel
theorem dX7_reply_5 : decode cX7_reply 5 = .ok (.ifCond .eq 7, 3) := by decide +kernel
theorem dX7_reply_8 : decode cX7_reply 8 = .ok (.iconst 0, 1) := by decide +kernel
theorem dX7_reply_9 : decode cX7_reply 9 = .ok (.goto 4, 3) := by decide +kernel
theorem dX7_reply_12 : decode cX7_reply 12 = .ok (.iconst 1, 1) := by decide +kernel
theorem dX7_reply_13 : decode cX7_reply 13 = .ok (.putfield 50, 3) := by decide +kernel
theorem dX7_reply_16 : decode cX7_reply 16 = .ok (.aload_n 0, 1) := by decide +kernel
theorem dX7_reply_17 : decode cX7_reply 17 = .ok (.getfield 50, 3) := by decide +kernel
theorem dX7_reply_20 : decode cX7_reply 20 = .ok (.ifCond .le 7, 3) := by decide +kernel
theorem dX7_reply_23 : decode cX7_reply 23 = .ok (.iconst 0, 1) := by decide +kernel
theorem dX7_reply_24 : decode cX7_reply 24 = .ok (.goto 8, 3) := by decide +kernel
theorem dX7_reply_27 : decode cX7_reply 27 = .ok (.aload_n 0, 1) := by decide +kernel
theorem dX7_reply_28 : decode cX7_reply 28 = .ok (.iload_n 1, 1) := by decide +kernel
theorem dX7_reply_29 : decode cX7_reply 29 = .ok (.invokevirtual 182, 3) := by decide +kernel
theorem dX7_reply_32 : decode cX7_reply 32 = .ok (.ireturn, 1) := by decide +kernel
set_option maxRecDepth 20000 in
theorem ggX7_solvedNow_X7_winnerNow : GoodIn wsX7_solvedNow wsX7_winnerNow := goodIn_r _ [8, 9, 10, 11, 7, 12, 1, 13, 14, 15, 16, 17, 18, 19, 20, 50, 51, 52, 53, 54, 55, 56, 57, 58, 59, 60, 61, 62, 63, 64, 65, 66, 67, 68, 69] (by decide +kernel) (by decide +kernel)
set_option maxRecDepth 20000 in
theorem gX7_solvedNow_X7_winnerNow : GoodIn wsX7_solvedNow (wsV RX7 93 RX7 yX7_winnerNow wsX7_winnerNow) := goodIn_app (goodIn_of _ (by decide +kernel)) ggX7_solvedNow_X7_winnerNow
set_option maxRecDepth 20000 in
theorem ggX7_solvedNow_X7_solveAll : GoodIn wsX7_solvedNow wsX7_solveAll := goodIn_r _ [24, 1, 25, 26, 27, 2, 28, 3, 29, 30, 31, 7, 32, 33, 34, 35, 17, 18, 19, 20, 36, 37, 38, 39, 40, 41, 42, 43, 44, 45, 50, 51, 52, 53, 54, 55, 56, 57, 58, 59, 60, 61, 62, 63, 64, 65, 66, 67, 68, 69] (by decide +kernel) (by decide +kernel)
set_option maxRecDepth 20000 in
theorem gX7_solvedNow_X7_solveAll : GoodIn wsX7_solvedNow (wsV RX7 143 RX7 yX7_solveAll wsX7_solveAll) := goodIn_app (goodIn_of _ (by decide +kernel)) ggX7_solvedNow_X7_solveAll
set_option maxRecDepth 20000 in
theorem ggX7_solvedNow_X7_maker : GoodIn wsX7_solvedNow wsX7_maker := goodIn_r _ [12, 1, 50, 51, 52, 53, 54, 55, 56, 57, 58, 59, 60, 61, 62, 63, 64, 65, 66, 67, 68, 69] (by decide +kernel) (by decide +kernel)
set_option maxRecDepth 20000 in
theorem gX7_solvedNow_X7_maker : GoodIn wsX7_solvedNow (wsV RX7 61 RX7 yX7_maker wsX7_maker) := goodIn_app (goodIn_of _ (by decide +kernel)) ggX7_solvedNow_X7_maker
set_option maxRecDepth 20000 in
theorem ggX7_solvedNow_X7_breaker : GoodIn wsX7_solvedNow wsX7_breaker := goodIn_r _ [16, 1, 50, 51, 52, 53, 54, 55, 56, 57, 58, 59, 60, 61, 62, 63, 64, 65, 66, 67, 68, 69] (by decide +kernel) (by decide +kernel)
set_option maxRecDepth 20000 in
theorem gX7_solvedNow_X7_breaker : GoodIn wsX7_solvedNow (wsV RX7 65 RX7 yX7_breaker wsX7_breaker) := goodIn_app (goodIn_of _ (by decide +kernel)) ggX7_solvedNow_X7_breaker
set_option maxRecDepth 20000 in
theorem ggX7_solvedNow_X7_placeOf : GoodIn wsX7_solvedNow wsX7_placeOf := goodIn_r _ [49, 1, 28, 43, 44, 7, 45, 50, 51, 52, 53, 54, 55, 56, 57, 58, 59, 60, 61, 62, 63, 64, 65, 66, 67, 68, 69] (by decide +kernel) (by decide +kernel)
set_option maxRecDepth 20000 in
theorem gX7_solvedNow_X7_placeOf : GoodIn wsX7_solvedNow (wsV RX7 139 RX7 yX7_placeOf wsX7_placeOf) := goodIn_app (goodIn_of _ (by decide +kernel)) ggX7_solvedNow_X7_placeOf
theorem dX7_solvedNow_0 : decode cX7_solvedNow 0 = .ok (.aload_n 0, 1) := by decide +kernel
theorem dX7_solvedNow_1 : decode cX7_solvedNow 1 = .ok (.invokevirtual 93, 3) := by decide +kernel
theorem dX7_solvedNow_4 : decode cX7_solvedNow 4 = .ok (.ifCond .le 16, 3) := by decide +kernel
theorem dX7_solvedNow_7 : decode cX7_solvedNow 7 = .ok (.iload_n 1, 1) := by decide +kernel
theorem dX7_solvedNow_8 : decode cX7_solvedNow 8 = .ok (.ifCond .ne 10, 3) := by decide +kernel
theorem dX7_solvedNow_11 : decode cX7_solvedNow 11 = .ok (.aload_n 0, 1) := by decide +kernel
theorem dX7_solvedNow_12 : decode cX7_solvedNow 12 = .ok (.invokevirtual 93, 3) := by decide +kernel
theorem dX7_solvedNow_15 : decode cX7_solvedNow 15 = .ok (.goto 4, 3) := by decide +kernel
theorem dX7_solvedNow_18 : decode cX7_solvedNow 18 = .ok (.iconst 0, 1) := by decide +kernel
theorem dX7_solvedNow_19 : decode cX7_solvedNow 19 = .ok (.ireturn, 1) := by decide +kernel
theorem dX7_solvedNow_20 : decode cX7_solvedNow 20 = .ok (.aload_n 0, 1) := by decide +kernel
theorem dX7_solvedNow_21 : decode cX7_solvedNow 21 = .ok (.invokevirtual 143, 3) := by decide +kernel
theorem dX7_solvedNow_24 : decode cX7_solvedNow 24 = .ok (.aload_n 0, 1) := by decide +kernel
theorem dX7_solvedNow_25 : decode cX7_solvedNow 25 = .ok (.aload_n 0, 1) := by decide +kernel
theorem dX7_solvedNow_26 : decode cX7_solvedNow 26 = .ok (.invokevirtual 61, 3) := by decide +kernel
theorem dX7_solvedNow_29 : decode cX7_solvedNow 29 = .ok (.aload_n 0, 1) := by decide +kernel
theorem dX7_solvedNow_30 : decode cX7_solvedNow 30 = .ok (.invokevirtual 65, 3) := by decide +kernel
theorem dX7_solvedNow_33 : decode cX7_solvedNow 33 = .ok (.aload_n 0, 1) := by decide +kernel
theorem dX7_solvedNow_34 : decode cX7_solvedNow 34 = .ok (.getfield 7, 3) := by decide +kernel
theorem dX7_solvedNow_37 : decode cX7_solvedNow 37 = .ok (.iconst 1, 1) := by decide +kernel
theorem dX7_solvedNow_38 : decode cX7_solvedNow 38 = .ok (.iaload, 1) := by decide +kernel
theorem dX7_solvedNow_39 : decode cX7_solvedNow 39 = .ok (.invokevirtual 139, 3) := by decide +kernel
theorem dX7_solvedNow_42 : decode cX7_solvedNow 42 = .ok (.istore_n 2, 1) := by decide +kernel
theorem dX7_solvedNow_43 : decode cX7_solvedNow 43 = .ok (.iload_n 1, 1) := by decide +kernel
theorem dX7_solvedNow_44 : decode cX7_solvedNow 44 = .ok (.ifCond .ne 12, 3) := by decide +kernel
theorem dX7_solvedNow_47 : decode cX7_solvedNow 47 = .ok (.aload_n 0, 1) := by decide +kernel
theorem dX7_solvedNow_48 : decode cX7_solvedNow 48 = .ok (.getfield 38, 3) := by decide +kernel
theorem dX7_solvedNow_51 : decode cX7_solvedNow 51 = .ok (.iload_n 2, 1) := by decide +kernel
theorem dX7_solvedNow_52 : decode cX7_solvedNow 52 = .ok (.iaload, 1) := by decide +kernel
theorem dX7_solvedNow_53 : decode cX7_solvedNow 53 = .ok (.goto 9, 3) := by decide +kernel
theorem dX7_solvedNow_56 : decode cX7_solvedNow 56 = .ok (.aload_n 0, 1) := by decide +kernel
theorem dX7_solvedNow_57 : decode cX7_solvedNow 57 = .ok (.getfield 41, 3) := by decide +kernel
theorem dX7_solvedNow_60 : decode cX7_solvedNow 60 = .ok (.iload_n 2, 1) := by decide +kernel
theorem dX7_solvedNow_61 : decode cX7_solvedNow 61 = .ok (.iaload, 1) := by decide +kernel
theorem dX7_solvedNow_62 : decode cX7_solvedNow 62 = .ok (.ireturn, 1) := by decide +kernel
set_option maxRecDepth 20000 in
theorem ggX7_solved_X7_within : GoodIn wsX7_solved wsX7_within := goodIn_r _ [5] (by decide +kernel) (by decide +kernel)
set_option maxRecDepth 20000 in
theorem gX7_solved_X7_within : GoodIn wsX7_solved (va_wsS RX7 57 yX7_within wsX7_within) := goodIn_app (goodIn_of _ (by decide +kernel)) ggX7_solved_X7_within
set_option maxRecDepth 20000 in
theorem ggX7_solved_X7_solvedNow : GoodIn wsX7_solved wsX7_solvedNow := goodIn_r _ [9, 10, 11, 12, 13, 14, 15, 4, 16, 17, 18, 19, 20, 21, 22, 23, 24, 25, 26, 27, 28, 29, 30, 31, 32, 33, 34, 35, 36, 37, 38, 39, 40, 41, 42, 43, 44, 45, 46, 47, 48, 49, 50, 51, 52, 53, 54, 55, 56, 57, 58, 59, 60, 61, 62, 63, 64, 65, 66, 67, 68, 69, 70, 71, 72, 73, 74, 75, 76, 77] (by decide +kernel) (by decide +kernel)
set_option maxRecDepth 20000 in
theorem gX7_solved_X7_solvedNow : GoodIn wsX7_solved (wsV RX7 218 RX7 yX7_solvedNow wsX7_solvedNow) := goodIn_app (goodIn_of _ (by decide +kernel)) ggX7_solved_X7_solvedNow
theorem dX7_solved_0 : decode cX7_solved 0 = .ok (.aload_n 0, 1) := by decide +kernel
theorem dX7_solved_1 : decode cX7_solved 1 = .ok (.iload_n 1, 1) := by decide +kernel
theorem dX7_solved_2 : decode cX7_solved 2 = .ok (.iconst 0, 1) := by decide +kernel
theorem dX7_solved_3 : decode cX7_solved 3 = .ok (.iconst 1, 1) := by decide +kernel
theorem dX7_solved_4 : decode cX7_solved 4 = .ok (.invokestatic 57, 3) := by decide +kernel
theorem dX7_solved_7 : decode cX7_solved 7 = .ok (.ifCond .eq 7, 3) := by decide +kernel
theorem dX7_solved_10 : decode cX7_solved 10 = .ok (.iconst 0, 1) := by decide +kernel
theorem dX7_solved_11 : decode cX7_solved 11 = .ok (.goto 4, 3) := by decide +kernel
theorem dX7_solved_14 : decode cX7_solved 14 = .ok (.iconst 1, 1) := by decide +kernel
theorem dX7_solved_15 : decode cX7_solved 15 = .ok (.putfield 50, 3) := by decide +kernel
theorem dX7_solved_18 : decode cX7_solved 18 = .ok (.aload_n 0, 1) := by decide +kernel
theorem dX7_solved_19 : decode cX7_solved 19 = .ok (.getfield 50, 3) := by decide +kernel
theorem dX7_solved_22 : decode cX7_solved 22 = .ok (.ifCond .le 7, 3) := by decide +kernel
theorem dX7_solved_25 : decode cX7_solved 25 = .ok (.iconst 0, 1) := by decide +kernel
theorem dX7_solved_26 : decode cX7_solved 26 = .ok (.goto 8, 3) := by decide +kernel
theorem dX7_solved_29 : decode cX7_solved 29 = .ok (.aload_n 0, 1) := by decide +kernel
theorem dX7_solved_30 : decode cX7_solved 30 = .ok (.iload_n 1, 1) := by decide +kernel
theorem dX7_solved_31 : decode cX7_solved 31 = .ok (.invokevirtual 218, 3) := by decide +kernel
theorem dX7_solved_34 : decode cX7_solved 34 = .ok (.ireturn, 1) := by decide +kernel
set_option maxRecDepth 20000 in
theorem ggX7_movedThen_X7_winnerNow : GoodIn wsX7_movedThen wsX7_winnerNow := goodIn_r _ [6, 7, 8, 9, 5, 10, 11, 12, 13, 14, 15, 16, 17, 18, 19, 58, 59, 60, 61, 62, 63, 64, 65, 66, 67, 68, 69, 70, 71, 72, 73, 74, 75, 76, 77] (by decide +kernel) (by decide +kernel)
set_option maxRecDepth 20000 in
theorem gX7_movedThen_X7_winnerNow : GoodIn wsX7_movedThen (wsV RX7 93 RX7 yX7_winnerNow wsX7_winnerNow) := goodIn_app (goodIn_of _ (by decide +kernel)) ggX7_movedThen_X7_winnerNow
set_option maxRecDepth 20000 in
theorem ggX7_movedThen_X7_free : GoodIn wsX7_movedThen wsX7_free := goodIn_r _ [23, 11, 7, 8, 9, 5, 10, 12, 13, 14, 15, 58, 59, 60, 61, 62, 63, 64, 65, 66, 67, 68, 69, 70, 71, 72, 73, 74, 75, 76, 77] (by decide +kernel) (by decide +kernel)
set_option maxRecDepth 20000 in
theorem gX7_movedThen_X7_free : GoodIn wsX7_movedThen (wsV RX7 68 RX7 yX7_free wsX7_free) := goodIn_app (goodIn_of _ (by decide +kernel)) ggX7_movedThen_X7_free
set_option maxRecDepth 20000 in
theorem ggX7_movedThen_X7_has : GoodIn wsX7_movedThen wsX7_has := goodIn_r _ [26] (by decide +kernel) (by decide +kernel)
set_option maxRecDepth 20000 in
theorem gX7_movedThen_X7_has : GoodIn wsX7_movedThen (va_wsS RX7 89 yX7_has wsX7_has) := goodIn_app (goodIn_of _ (by decide +kernel)) ggX7_movedThen_X7_has
set_option maxRecDepth 20000 in
theorem ggX7_movedThen_X7_solveAll : GoodIn wsX7_movedThen wsX7_solveAll := goodIn_r _ [30, 11, 31, 32, 33, 1, 34, 35, 36, 37, 38, 5, 39, 40, 41, 42, 16, 17, 18, 19, 43, 44, 45, 46, 47, 48, 49, 24, 25, 26, 58, 59, 60, 61, 62, 63, 64, 65, 66, 67, 68, 69, 70, 71, 72, 73, 74, 75, 76, 77] (by decide +kernel) (by decide +kernel)
set_option maxRecDepth 20000 in
theorem gX7_movedThen_X7_solveAll : GoodIn wsX7_movedThen (wsV RX7 143 RX7 yX7_solveAll wsX7_solveAll) := goodIn_app (goodIn_of _ (by decide +kernel)) ggX7_movedThen_X7_solveAll
set_option maxRecDepth 20000 in
theorem ggX7_movedThen_X7_placeBehind : GoodIn wsX7_movedThen wsX7_placeBehind := goodIn_r _ [53, 11, 7, 8, 9, 5, 10, 12, 13, 14, 15, 54, 55, 56, 57, 34, 24, 25, 26, 58, 59, 60, 61, 62, 63, 64, 65, 66, 67, 68, 69, 70, 71, 72, 73, 74, 75, 76, 77] (by decide +kernel) (by decide +kernel)
set_option maxRecDepth 20000 in
theorem gX7_movedThen_X7_placeBehind : GoodIn wsX7_movedThen (wsV RX7 149 RX7 yX7_placeBehind wsX7_placeBehind) := goodIn_app (goodIn_of _ (by decide +kernel)) ggX7_movedThen_X7_placeBehind
theorem dX7_movedThen_0 : decode cX7_movedThen 0 = .ok (.aload_n 0, 1) := by decide +kernel
theorem dX7_movedThen_1 : decode cX7_movedThen 1 = .ok (.invokevirtual 93, 3) := by decide +kernel
theorem dX7_movedThen_4 : decode cX7_movedThen 4 = .ok (.ifCond .gt 14, 3) := by decide +kernel
theorem dX7_movedThen_7 : decode cX7_movedThen 7 = .ok (.aload_n 0, 1) := by decide +kernel
theorem dX7_movedThen_8 : decode cX7_movedThen 8 = .ok (.invokevirtual 68, 3) := by decide +kernel
theorem dX7_movedThen_11 : decode cX7_movedThen 11 = .ok (.iload_n 1, 1) := by decide +kernel
theorem dX7_movedThen_12 : decode cX7_movedThen 12 = .ok (.invokestatic 89, 3) := by decide +kernel
theorem dX7_movedThen_15 : decode cX7_movedThen 15 = .ok (.ifCond .ne 5, 3) := by decide +kernel
theorem dX7_movedThen_18 : decode cX7_movedThen 18 = .ok (.iconst (-1), 1) := by decide +kernel
theorem dX7_movedThen_19 : decode cX7_movedThen 19 = .ok (.ireturn, 1) := by decide +kernel
theorem dX7_movedThen_20 : decode cX7_movedThen 20 = .ok (.aload_n 0, 1) := by decide +kernel
theorem dX7_movedThen_21 : decode cX7_movedThen 21 = .ok (.invokevirtual 143, 3) := by decide +kernel
theorem dX7_movedThen_24 : decode cX7_movedThen 24 = .ok (.aload_n 0, 1) := by decide +kernel
theorem dX7_movedThen_25 : decode cX7_movedThen 25 = .ok (.getfield 38, 3) := by decide +kernel
theorem dX7_movedThen_28 : decode cX7_movedThen 28 = .ok (.aload_n 0, 1) := by decide +kernel
theorem dX7_movedThen_29 : decode cX7_movedThen 29 = .ok (.iload_n 1, 1) := by decide +kernel
theorem dX7_movedThen_30 : decode cX7_movedThen 30 = .ok (.invokevirtual 149, 3) := by decide +kernel
theorem dX7_movedThen_33 : decode cX7_movedThen 33 = .ok (.iaload, 1) := by decide +kernel
theorem dX7_movedThen_34 : decode cX7_movedThen 34 = .ok (.ireturn, 1) := by decide +kernel
set_option maxRecDepth 20000 in
theorem ggX7_ifMoved_X7_isCell : GoodIn wsX7_ifMoved wsX7_isCell := goodIn_r _ [6, 7, 8, 9, 5, 10, 70, 71, 72, 73, 74, 75, 76, 77, 78, 79, 80, 81, 82, 83, 84, 85, 86, 87, 88, 89] (by decide +kernel) (by decide +kernel)
set_option maxRecDepth 20000 in
theorem gX7_ifMoved_X7_isCell : GoodIn wsX7_ifMoved (wsV RX7 176 RX7 yX7_isCell wsX7_isCell) := goodIn_app (goodIn_of _ (by decide +kernel)) ggX7_ifMoved_X7_isCell
set_option maxRecDepth 20000 in
theorem ggX7_ifMoved_X7_movedThen : GoodIn wsX7_ifMoved wsX7_movedThen := goodIn_r _ [14, 15, 16, 17, 18, 5, 19, 20, 21, 22, 23, 7, 24, 25, 26, 27, 28, 29, 30, 31, 32, 33, 34, 35, 36, 37, 38, 39, 40, 41, 42, 43, 44, 45, 46, 47, 48, 49, 50, 51, 52, 53, 54, 55, 56, 57, 58, 59, 60, 61, 62, 63, 64, 65, 66, 67, 68, 69, 70, 71, 72, 73, 74, 75, 76, 77, 78, 79, 80, 81, 82, 83, 84, 85, 86, 87, 88, 89] (by decide +kernel) (by decide +kernel)
set_option maxRecDepth 20000 in
theorem gX7_ifMoved_X7_movedThen : GoodIn wsX7_ifMoved (wsV RX7 221 RX7 yX7_movedThen wsX7_movedThen) := goodIn_app (goodIn_of _ (by decide +kernel)) ggX7_ifMoved_X7_movedThen
theorem dX7_ifMoved_0 : decode cX7_ifMoved 0 = .ok (.aload_n 0, 1) := by decide +kernel
theorem dX7_ifMoved_1 : decode cX7_ifMoved 1 = .ok (.aload_n 0, 1) := by decide +kernel
theorem dX7_ifMoved_2 : decode cX7_ifMoved 2 = .ok (.iload_n 1, 1) := by decide +kernel
theorem dX7_ifMoved_3 : decode cX7_ifMoved 3 = .ok (.invokevirtual 176, 3) := by decide +kernel
theorem dX7_ifMoved_6 : decode cX7_ifMoved 6 = .ok (.ifCond .eq 7, 3) := by decide +kernel
theorem dX7_ifMoved_9 : decode cX7_ifMoved 9 = .ok (.iconst 0, 1) := by decide +kernel
theorem dX7_ifMoved_10 : decode cX7_ifMoved 10 = .ok (.goto 4, 3) := by decide +kernel
theorem dX7_ifMoved_13 : decode cX7_ifMoved 13 = .ok (.iconst 1, 1) := by decide +kernel
theorem dX7_ifMoved_14 : decode cX7_ifMoved 14 = .ok (.putfield 50, 3) := by decide +kernel
theorem dX7_ifMoved_17 : decode cX7_ifMoved 17 = .ok (.aload_n 0, 1) := by decide +kernel
theorem dX7_ifMoved_18 : decode cX7_ifMoved 18 = .ok (.getfield 50, 3) := by decide +kernel
theorem dX7_ifMoved_21 : decode cX7_ifMoved 21 = .ok (.ifCond .le 7, 3) := by decide +kernel
theorem dX7_ifMoved_24 : decode cX7_ifMoved 24 = .ok (.iconst 0, 1) := by decide +kernel
theorem dX7_ifMoved_25 : decode cX7_ifMoved 25 = .ok (.goto 8, 3) := by decide +kernel
theorem dX7_ifMoved_28 : decode cX7_ifMoved 28 = .ok (.aload_n 0, 1) := by decide +kernel
theorem dX7_ifMoved_29 : decode cX7_ifMoved 29 = .ok (.iload_n 1, 1) := by decide +kernel
theorem dX7_ifMoved_30 : decode cX7_ifMoved 30 = .ok (.invokevirtual 221, 3) := by decide +kernel
theorem dX7_ifMoved_33 : decode cX7_ifMoved 33 = .ok (.ireturn, 1) := by decide +kernel
set_option maxRecDepth 20000 in
theorem ggX7_playedThen_X7_plays : GoodIn wsX7_playedThen wsX7_plays := goodIn_r _ [7, 2, 8, 9, 10, 6, 11, 12, 13, 14, 15, 16, 17, 18, 19, 20, 21, 22, 23, 24, 25, 26, 27, 28, 29, 30, 31, 32, 33, 34, 35, 36, 37, 38, 39, 40, 41, 42, 43, 44, 45, 46, 47, 48, 49, 50, 51, 52, 53, 54, 55, 56, 57, 58, 59, 60, 61, 62, 63, 64, 65, 66, 67, 68, 69, 70, 71, 72, 73, 74, 75, 76, 77, 78, 79, 80, 81, 82, 83, 84, 85, 86, 87, 88, 89, 90, 91, 92, 93, 94, 95, 96, 97, 98, 99, 100, 101, 102, 103, 104, 105, 106, 107, 108, 109, 110, 111, 112, 113, 114, 115, 116, 117, 118, 119, 120, 121, 122, 123, 124, 125, 126, 127, 128, 129, 130, 131, 132, 133, 134, 135, 136, 137, 138, 139, 140, 141, 142, 143, 144, 145, 146, 147, 148, 149, 150, 151, 152, 153, 154, 155, 156, 157, 158, 159, 160, 161] (by decide +kernel) (by decide +kernel)
set_option maxRecDepth 20000 in
theorem gX7_playedThen_X7_plays : GoodIn wsX7_playedThen (wsV RX7 188 RX7 yX7_plays wsX7_plays) := goodIn_app (goodIn_of _ (by decide +kernel)) ggX7_playedThen_X7_plays
set_option maxRecDepth 20000 in
theorem ggX7_playedThen_X7_winnerNow : GoodIn wsX7_playedThen wsX7_winnerNow := goodIn_r _ [11, 12, 13, 14, 6, 15, 2, 16, 17, 18, 19, 20, 21, 22, 23, 142, 143, 144, 145, 146, 147, 148, 149, 150, 151, 152, 153, 154, 155, 156, 157, 158, 159, 160, 161] (by decide +kernel) (by decide +kernel)
set_option maxRecDepth 20000 in
theorem gX7_playedThen_X7_winnerNow : GoodIn wsX7_playedThen (wsV RX7 93 RX7 yX7_winnerNow wsX7_winnerNow) := goodIn_app (goodIn_of _ (by decide +kernel)) ggX7_playedThen_X7_winnerNow
theorem dX7_playedThen_0 : decode cX7_playedThen 0 = .ok (.iconst 0, 1) := by decide +kernel
theorem dX7_playedThen_1 : decode cX7_playedThen 1 = .ok (.istore_n 3, 1) := by decide +kernel
theorem dX7_playedThen_2 : decode cX7_playedThen 2 = .ok (.iload_n 3, 1) := by decide +kernel
theorem dX7_playedThen_3 : decode cX7_playedThen 3 = .ok (.bipush 22, 2) := by decide +kernel
theorem dX7_playedThen_5 : decode cX7_playedThen 5 = .ok (.if_icmp .ge 21, 3) := by decide +kernel
theorem dX7_playedThen_8 : decode cX7_playedThen 8 = .ok (.aload_n 0, 1) := by decide +kernel
theorem dX7_playedThen_9 : decode cX7_playedThen 9 = .ok (.getfield 47, 3) := by decide +kernel
theorem dX7_playedThen_12 : decode cX7_playedThen 12 = .ok (.iload_n 3, 1) := by decide +kernel
theorem dX7_playedThen_13 : decode cX7_playedThen 13 = .ok (.aload_n 0, 1) := by decide +kernel
theorem dX7_playedThen_14 : decode cX7_playedThen 14 = .ok (.getfield 7, 3) := by decide +kernel
theorem dX7_playedThen_17 : decode cX7_playedThen 17 = .ok (.iload_n 3, 1) := by decide +kernel
theorem dX7_playedThen_18 : decode cX7_playedThen 18 = .ok (.iaload, 1) := by decide +kernel
theorem dX7_playedThen_19 : decode cX7_playedThen 19 = .ok (.iastore, 1) := by decide +kernel
theorem dX7_playedThen_20 : decode cX7_playedThen 20 = .ok (.iinc 3 1, 3) := by decide +kernel
theorem dX7_playedThen_23 : decode cX7_playedThen 23 = .ok (.goto (-21), 3) := by decide +kernel
theorem dX7_playedThen_26 : decode cX7_playedThen 26 = .ok (.aload_n 0, 1) := by decide +kernel
theorem dX7_playedThen_27 : decode cX7_playedThen 27 = .ok (.iload_n 1, 1) := by decide +kernel
theorem dX7_playedThen_28 : decode cX7_playedThen 28 = .ok (.iload_n 2, 1) := by decide +kernel
theorem dX7_playedThen_29 : decode cX7_playedThen 29 = .ok (.bipush 10, 2) := by decide +kernel
theorem dX7_playedThen_31 : decode cX7_playedThen 31 = .ok (.invokevirtual 188, 3) := by decide +kernel
theorem dX7_playedThen_34 : decode cX7_playedThen 34 = .ok (.istore_n 3, 1) := by decide +kernel
theorem dX7_playedThen_35 : decode cX7_playedThen 35 = .ok (.aload_n 0, 1) := by decide +kernel
theorem dX7_playedThen_36 : decode cX7_playedThen 36 = .ok (.invokevirtual 93, 3) := by decide +kernel
theorem dX7_playedThen_39 : decode cX7_playedThen 39 = .ok (.istore 4, 2) := by decide +kernel
theorem dX7_playedThen_41 : decode cX7_playedThen 41 = .ok (.iconst 0, 1) := by decide +kernel
theorem dX7_playedThen_42 : decode cX7_playedThen 42 = .ok (.istore 5, 2) := by decide +kernel
theorem dX7_playedThen_44 : decode cX7_playedThen 44 = .ok (.iload 5, 2) := by decide +kernel
theorem dX7_playedThen_46 : decode cX7_playedThen 46 = .ok (.bipush 22, 2) := by decide +kernel
theorem dX7_playedThen_48 : decode cX7_playedThen 48 = .ok (.if_icmp .ge 23, 3) := by decide +kernel
theorem dX7_playedThen_51 : decode cX7_playedThen 51 = .ok (.aload_n 0, 1) := by decide +kernel
theorem dX7_playedThen_52 : decode cX7_playedThen 52 = .ok (.getfield 7, 3) := by decide +kernel
theorem dX7_playedThen_55 : decode cX7_playedThen 55 = .ok (.iload 5, 2) := by decide +kernel
theorem dX7_playedThen_57 : decode cX7_playedThen 57 = .ok (.aload_n 0, 1) := by decide +kernel
theorem dX7_playedThen_58 : decode cX7_playedThen 58 = .ok (.getfield 47, 3) := by decide +kernel
theorem dX7_playedThen_61 : decode cX7_playedThen 61 = .ok (.iload 5, 2) := by decide +kernel
theorem dX7_playedThen_63 : decode cX7_playedThen 63 = .ok (.iaload, 1) := by decide +kernel
theorem dX7_playedThen_64 : decode cX7_playedThen 64 = .ok (.iastore, 1) := by decide +kernel
theorem dX7_playedThen_65 : decode cX7_playedThen 65 = .ok (.iinc 5 1, 3) := by decide +kernel
theorem dX7_playedThen_68 : decode cX7_playedThen 68 = .ok (.goto (-24), 3) := by decide +kernel
theorem dX7_playedThen_71 : decode cX7_playedThen 71 = .ok (.iload 4, 2) := by decide +kernel
theorem dX7_playedThen_73 : decode cX7_playedThen 73 = .ok (.ireturn, 1) := by decide +kernel
set_option maxRecDepth 20000 in
theorem ggX7_ifPlayed_X7_isRule : GoodIn wsX7_ifPlayed wsX7_isRule := goodIn_r _ [5, 6, 7, 4, 8] (by decide +kernel) (by decide +kernel)
set_option maxRecDepth 20000 in
theorem gX7_ifPlayed_X7_isRule : GoodIn wsX7_ifPlayed (va_wsS RX7 185 yX7_isRule wsX7_isRule) := goodIn_app (goodIn_of _ (by decide +kernel)) ggX7_ifPlayed_X7_isRule
set_option maxRecDepth 20000 in
theorem ggX7_ifPlayed_X7_playedThen : GoodIn wsX7_ifPlayed wsX7_playedThen := goodIn_r _ [12, 13, 14, 15, 16, 17, 4, 18, 19, 20, 21, 22, 23, 24, 25, 26, 27, 28, 29, 30, 31, 32, 33, 34, 35, 36, 37, 38, 39, 40, 41, 42, 43, 44, 45, 46, 47, 48, 49, 50, 51, 52, 53, 54, 55, 56, 57, 58, 59, 60, 61, 62, 63, 64, 65, 66, 67, 68, 69, 70, 71, 72, 73, 74, 75, 76, 77, 78, 79, 80, 81, 82, 83, 84, 85, 86, 87, 88, 89, 90, 91, 92, 93, 94, 95, 96, 97, 98, 99, 100, 101, 102, 103, 104, 105, 106, 107, 108, 109, 110, 111, 112, 113, 114, 115, 116, 117, 118, 119, 120, 121, 122, 123, 124, 125, 126, 127, 128, 129, 130, 131, 132, 133, 134, 135, 136, 137, 138, 139, 140, 141, 142, 143, 144, 145, 146, 147, 148, 149, 150, 151, 152, 153, 154, 155, 156, 157, 158, 159, 160, 161, 162, 163, 164, 165, 166, 167, 168, 169, 170, 171, 172] (by decide +kernel) (by decide +kernel)
set_option maxRecDepth 20000 in
theorem gX7_ifPlayed_X7_playedThen : GoodIn wsX7_ifPlayed (wsV RX7 224 RX7 yX7_playedThen wsX7_playedThen) := goodIn_app (goodIn_of _ (by decide +kernel)) ggX7_ifPlayed_X7_playedThen
theorem dX7_ifPlayed_0 : decode cX7_ifPlayed 0 = .ok (.aload_n 0, 1) := by decide +kernel
theorem dX7_ifPlayed_1 : decode cX7_ifPlayed 1 = .ok (.iload_n 1, 1) := by decide +kernel
theorem dX7_ifPlayed_2 : decode cX7_ifPlayed 2 = .ok (.invokestatic 185, 3) := by decide +kernel
theorem dX7_ifPlayed_5 : decode cX7_ifPlayed 5 = .ok (.ifCond .eq 14, 3) := by decide +kernel
theorem dX7_ifPlayed_8 : decode cX7_ifPlayed 8 = .ok (.iload_n 2, 1) := by decide +kernel
theorem dX7_ifPlayed_9 : decode cX7_ifPlayed 9 = .ok (.invokestatic 185, 3) := by decide +kernel
theorem dX7_ifPlayed_12 : decode cX7_ifPlayed 12 = .ok (.ifCond .eq 7, 3) := by decide +kernel
theorem dX7_ifPlayed_15 : decode cX7_ifPlayed 15 = .ok (.iconst 0, 1) := by decide +kernel
theorem dX7_ifPlayed_16 : decode cX7_ifPlayed 16 = .ok (.goto 4, 3) := by decide +kernel
theorem dX7_ifPlayed_19 : decode cX7_ifPlayed 19 = .ok (.iconst 1, 1) := by decide +kernel
theorem dX7_ifPlayed_20 : decode cX7_ifPlayed 20 = .ok (.putfield 50, 3) := by decide +kernel
theorem dX7_ifPlayed_23 : decode cX7_ifPlayed 23 = .ok (.aload_n 0, 1) := by decide +kernel
theorem dX7_ifPlayed_24 : decode cX7_ifPlayed 24 = .ok (.getfield 50, 3) := by decide +kernel
theorem dX7_ifPlayed_27 : decode cX7_ifPlayed 27 = .ok (.ifCond .le 7, 3) := by decide +kernel
theorem dX7_ifPlayed_30 : decode cX7_ifPlayed 30 = .ok (.iconst 0, 1) := by decide +kernel
theorem dX7_ifPlayed_31 : decode cX7_ifPlayed 31 = .ok (.goto 9, 3) := by decide +kernel
theorem dX7_ifPlayed_34 : decode cX7_ifPlayed 34 = .ok (.aload_n 0, 1) := by decide +kernel
theorem dX7_ifPlayed_35 : decode cX7_ifPlayed 35 = .ok (.iload_n 1, 1) := by decide +kernel
theorem dX7_ifPlayed_36 : decode cX7_ifPlayed 36 = .ok (.iload_n 2, 1) := by decide +kernel
theorem dX7_ifPlayed_37 : decode cX7_ifPlayed 37 = .ok (.invokevirtual 224, 3) := by decide +kernel
theorem dX7_ifPlayed_40 : decode cX7_ifPlayed 40 = .ok (.ireturn, 1) := by decide +kernel
set_option maxRecDepth 20000 in
theorem ggX7_lively_X7_isDead : GoodIn wsX7_lively wsX7_isDead := goodIn_r _ [6, 1, 7, 8, 9, 5, 10, 11, 12, 13, 14, 15, 16, 17, 18, 19, 20, 21, 22, 23, 24, 25, 26, 27, 28, 29, 30] (by decide +kernel) (by decide +kernel)
set_option maxRecDepth 20000 in
theorem gX7_lively_X7_isDead : GoodIn wsX7_lively (wsV RX7 71 RX7 yX7_isDead wsX7_isDead) := goodIn_app (goodIn_of _ (by decide +kernel)) ggX7_lively_X7_isDead
theorem dX7_lively_0 : decode cX7_lively 0 = .ok (.iconst 0, 1) := by decide +kernel
theorem dX7_lively_1 : decode cX7_lively 1 = .ok (.istore_n 1, 1) := by decide +kernel
theorem dX7_lively_2 : decode cX7_lively 2 = .ok (.iconst 0, 1) := by decide +kernel
theorem dX7_lively_3 : decode cX7_lively 3 = .ok (.istore_n 2, 1) := by decide +kernel
theorem dX7_lively_4 : decode cX7_lively 4 = .ok (.iload_n 2, 1) := by decide +kernel
theorem dX7_lively_5 : decode cX7_lively 5 = .ok (.aload_n 0, 1) := by decide +kernel
theorem dX7_lively_6 : decode cX7_lively 6 = .ok (.getfield 7, 3) := by decide +kernel
theorem dX7_lively_9 : decode cX7_lively 9 = .ok (.iconst 2, 1) := by decide +kernel
theorem dX7_lively_10 : decode cX7_lively 10 = .ok (.iaload, 1) := by decide +kernel
theorem dX7_lively_11 : decode cX7_lively 11 = .ok (.if_icmp .ge 25, 3) := by decide +kernel
theorem dX7_lively_14 : decode cX7_lively 14 = .ok (.iload_n 1, 1) := by decide +kernel
theorem dX7_lively_15 : decode cX7_lively 15 = .ok (.aload_n 0, 1) := by decide +kernel
theorem dX7_lively_16 : decode cX7_lively 16 = .ok (.iload_n 2, 1) := by decide +kernel
theorem dX7_lively_17 : decode cX7_lively 17 = .ok (.invokevirtual 71, 3) := by decide +kernel
theorem dX7_lively_20 : decode cX7_lively 20 = .ok (.ifCond .eq 7, 3) := by decide +kernel
theorem dX7_lively_23 : decode cX7_lively 23 = .ok (.iconst 0, 1) := by decide +kernel
theorem dX7_lively_24 : decode cX7_lively 24 = .ok (.goto 4, 3) := by decide +kernel
theorem dX7_lively_27 : decode cX7_lively 27 = .ok (.iconst 1, 1) := by decide +kernel
theorem dX7_lively_28 : decode cX7_lively 28 = .ok (.iadd, 1) := by decide +kernel
theorem dX7_lively_29 : decode cX7_lively 29 = .ok (.istore_n 1, 1) := by decide +kernel
theorem dX7_lively_30 : decode cX7_lively 30 = .ok (.iinc 2 1, 3) := by decide +kernel
theorem dX7_lively_33 : decode cX7_lively 33 = .ok (.goto (-29), 3) := by decide +kernel
theorem dX7_lively_36 : decode cX7_lively 36 = .ok (.iload_n 1, 1) := by decide +kernel
theorem dX7_lively_37 : decode cX7_lively 37 = .ok (.ireturn, 1) := by decide +kernel
set_option maxRecDepth 20000 in
theorem ggX7_counted_X7_lively : GoodIn wsX7_counted wsX7_lively := goodIn_r _ [8, 1, 9, 10, 11, 7, 12, 13, 14, 15, 16, 94, 95, 96, 97, 98, 99, 100, 101, 102, 103, 104, 105, 106, 107, 108, 109, 110, 111, 112, 113] (by decide +kernel) (by decide +kernel)
set_option maxRecDepth 20000 in
theorem gX7_counted_X7_lively : GoodIn wsX7_counted (wsV RX7 227 RX7 yX7_lively wsX7_lively) := goodIn_app (goodIn_of _ (by decide +kernel)) ggX7_counted_X7_lively
set_option maxRecDepth 20000 in
theorem ggX7_counted_X7_weight : GoodIn wsX7_counted wsX7_weight := goodIn_r _ [20, 1, 21, 22, 23, 7, 24, 9, 10, 11, 12, 13, 14, 15, 16, 25, 26, 27, 28, 29, 30, 31, 32, 33, 34, 35, 36, 37, 38, 39, 94, 95, 96, 97, 98, 99, 100, 101, 102, 103, 104, 105, 106, 107, 108, 109, 110, 111, 112, 113] (by decide +kernel) (by decide +kernel)
set_option maxRecDepth 20000 in
theorem gX7_counted_X7_weight : GoodIn wsX7_counted (wsV RX7 230 RX7 yX7_weight wsX7_weight) := goodIn_app (goodIn_of _ (by decide +kernel)) ggX7_counted_X7_weight
set_option maxRecDepth 20000 in
theorem ggX7_counted_X7_winnerNow : GoodIn wsX7_counted wsX7_winnerNow := goodIn_r _ [43, 33, 34, 35, 7, 36, 1, 13, 14, 15, 16, 44, 45, 46, 47, 94, 95, 96, 97, 98, 99, 100, 101, 102, 103, 104, 105, 106, 107, 108, 109, 110, 111, 112, 113] (by decide +kernel) (by decide +kernel)
set_option maxRecDepth 20000 in
theorem gX7_counted_X7_winnerNow : GoodIn wsX7_counted (wsV RX7 93 RX7 yX7_winnerNow wsX7_winnerNow) := goodIn_app (goodIn_of _ (by decide +kernel)) ggX7_counted_X7_winnerNow
set_option maxRecDepth 20000 in
theorem ggX7_counted_X7_threats : GoodIn wsX7_counted wsX7_threats := goodIn_r _ [51, 1, 9, 10, 11, 7, 12, 13, 14, 15, 16, 25, 26, 27, 28, 29, 30, 31, 32, 33, 34, 35, 36, 37, 38, 39, 94, 95, 96, 97, 98, 99, 100, 101, 102, 103, 104, 105, 106, 107, 108, 109, 110, 111, 112, 113] (by decide +kernel) (by decide +kernel)
set_option maxRecDepth 20000 in
theorem gX7_counted_X7_threats : GoodIn wsX7_counted (wsV RX7 96 RX7 yX7_threats wsX7_threats) := goodIn_app (goodIn_of _ (by decide +kernel)) ggX7_counted_X7_threats
set_option maxRecDepth 20000 in
theorem ggX7_counted_X7_forced : GoodIn wsX7_counted wsX7_forced := goodIn_r _ [55, 40, 41, 42, 7, 43, 33, 34, 35, 36, 1, 13, 14, 15, 16, 44, 45, 46, 47, 48, 49, 50, 51, 9, 10, 11, 12, 25, 26, 27, 28, 29, 30, 31, 32, 37, 38, 39, 56, 57, 58, 59, 60, 61, 62, 94, 95, 96, 97, 98, 99, 100, 101, 102, 103, 104, 105, 106, 107, 108, 109, 110, 111, 112, 113] (by decide +kernel) (by decide +kernel)
set_option maxRecDepth 20000 in
theorem gX7_counted_X7_forced : GoodIn wsX7_counted (wsV RX7 158 RX7 yX7_forced wsX7_forced) := goodIn_app (goodIn_of _ (by decide +kernel)) ggX7_counted_X7_forced
set_option maxRecDepth 20000 in
theorem ggX7_counted_X7_pairs : GoodIn wsX7_counted wsX7_pairs := goodIn_r _ [66, 67, 68, 69, 70, 7, 71, 1, 72, 9, 10, 11, 12, 13, 14, 15, 16, 73, 74, 75, 76, 60, 61, 62, 77, 78, 79, 80, 81, 82, 83, 84, 85, 86, 87, 88, 89, 25, 26, 27, 28, 29, 30, 31, 32, 33, 34, 35, 36, 90, 91, 92, 93, 94, 95, 96, 97, 98, 99, 100, 101, 102, 103, 104, 105, 106, 107, 108, 109, 110, 111, 112, 113] (by decide +kernel) (by decide +kernel)
set_option maxRecDepth 20000 in
theorem gX7_counted_X7_pairs : GoodIn wsX7_counted (wsV RX7 233 RX7 yX7_pairs wsX7_pairs) := goodIn_app (goodIn_of _ (by decide +kernel)) ggX7_counted_X7_pairs
set_option maxRecDepth 20000 in
theorem ggX7_counted_X7_free : GoodIn wsX7_counted wsX7_free := goodIn_r _ [32, 1, 33, 34, 35, 7, 36, 13, 14, 15, 16, 94, 95, 96, 97, 98, 99, 100, 101, 102, 103, 104, 105, 106, 107, 108, 109, 110, 111, 112, 113] (by decide +kernel) (by decide +kernel)
set_option maxRecDepth 20000 in
theorem gX7_counted_X7_free : GoodIn wsX7_counted (wsV RX7 68 RX7 yX7_free wsX7_free) := goodIn_app (goodIn_of _ (by decide +kernel)) ggX7_counted_X7_free
theorem dX7_counted_0 : decode cX7_counted 0 = .ok (.iload_n 1, 1) := by decide +kernel
theorem dX7_counted_1 : decode cX7_counted 1 = .ok (.tableswitch 176 0 14 #[75, 82, 89, 94, 99, 117, 122, 127, 132, 137, 142, 142, 142, 155, 162], 75) := by decide +kernel
theorem dX7_counted_76 : decode cX7_counted 76 = .ok (.aload_n 0, 1) := by decide +kernel
theorem dX7_counted_77 : decode cX7_counted 77 = .ok (.getfield 7, 3) := by decide +kernel
theorem dX7_counted_80 : decode cX7_counted 80 = .ok (.iconst 0, 1) := by decide +kernel
theorem dX7_counted_81 : decode cX7_counted 81 = .ok (.iaload, 1) := by decide +kernel
theorem dX7_counted_82 : decode cX7_counted 82 = .ok (.ireturn, 1) := by decide +kernel
theorem dX7_counted_83 : decode cX7_counted 83 = .ok (.aload_n 0, 1) := by decide +kernel
theorem dX7_counted_84 : decode cX7_counted 84 = .ok (.getfield 7, 3) := by decide +kernel
theorem dX7_counted_87 : decode cX7_counted 87 = .ok (.iconst 2, 1) := by decide +kernel
theorem dX7_counted_88 : decode cX7_counted 88 = .ok (.iaload, 1) := by decide +kernel
theorem dX7_counted_89 : decode cX7_counted 89 = .ok (.ireturn, 1) := by decide +kernel
theorem dX7_counted_90 : decode cX7_counted 90 = .ok (.aload_n 0, 1) := by decide +kernel
theorem dX7_counted_91 : decode cX7_counted 91 = .ok (.invokevirtual 227, 3) := by decide +kernel
theorem dX7_counted_94 : decode cX7_counted 94 = .ok (.ireturn, 1) := by decide +kernel
theorem dX7_counted_95 : decode cX7_counted 95 = .ok (.aload_n 0, 1) := by decide +kernel
theorem dX7_counted_96 : decode cX7_counted 96 = .ok (.invokevirtual 230, 3) := by decide +kernel
theorem dX7_counted_99 : decode cX7_counted 99 = .ok (.ireturn, 1) := by decide +kernel
theorem dX7_counted_100 : decode cX7_counted 100 = .ok (.aload_n 0, 1) := by decide +kernel
theorem dX7_counted_101 : decode cX7_counted 101 = .ok (.invokevirtual 93, 3) := by decide +kernel
theorem dX7_counted_104 : decode cX7_counted 104 = .ok (.ifCond .ne 12, 3) := by decide +kernel
theorem dX7_counted_107 : decode cX7_counted 107 = .ok (.aload_n 0, 1) := by decide +kernel
theorem dX7_counted_108 : decode cX7_counted 108 = .ok (.getfield 7, 3) := by decide +kernel
theorem dX7_counted_111 : decode cX7_counted 111 = .ok (.iconst 1, 1) := by decide +kernel
theorem dX7_counted_112 : decode cX7_counted 112 = .ok (.iaload, 1) := by decide +kernel
theorem dX7_counted_113 : decode cX7_counted 113 = .ok (.goto 4, 3) := by decide +kernel
theorem dX7_counted_116 : decode cX7_counted 116 = .ok (.iconst 0, 1) := by decide +kernel
theorem dX7_counted_117 : decode cX7_counted 117 = .ok (.ireturn, 1) := by decide +kernel
theorem dX7_counted_118 : decode cX7_counted 118 = .ok (.aload_n 0, 1) := by decide +kernel
theorem dX7_counted_119 : decode cX7_counted 119 = .ok (.invokevirtual 93, 3) := by decide +kernel
theorem dX7_counted_122 : decode cX7_counted 122 = .ok (.ireturn, 1) := by decide +kernel
theorem dX7_counted_123 : decode cX7_counted 123 = .ok (.aload_n 0, 1) := by decide +kernel
theorem dX7_counted_124 : decode cX7_counted 124 = .ok (.invokevirtual 96, 3) := by decide +kernel
theorem dX7_counted_127 : decode cX7_counted 127 = .ok (.ireturn, 1) := by decide +kernel
theorem dX7_counted_128 : decode cX7_counted 128 = .ok (.aload_n 0, 1) := by decide +kernel
theorem dX7_counted_129 : decode cX7_counted 129 = .ok (.invokevirtual 158, 3) := by decide +kernel
theorem dX7_counted_132 : decode cX7_counted 132 = .ok (.ireturn, 1) := by decide +kernel
theorem dX7_counted_133 : decode cX7_counted 133 = .ok (.aload_n 0, 1) := by decide +kernel
theorem dX7_counted_134 : decode cX7_counted 134 = .ok (.invokevirtual 233, 3) := by decide +kernel
theorem dX7_counted_137 : decode cX7_counted 137 = .ok (.ireturn, 1) := by decide +kernel
theorem dX7_counted_138 : decode cX7_counted 138 = .ok (.aload_n 0, 1) := by decide +kernel
theorem dX7_counted_139 : decode cX7_counted 139 = .ok (.invokevirtual 68, 3) := by decide +kernel
theorem dX7_counted_142 : decode cX7_counted 142 = .ok (.ireturn, 1) := by decide +kernel
theorem dX7_counted_143 : decode cX7_counted 143 = .ok (.aload_n 0, 1) := by decide +kernel
theorem dX7_counted_144 : decode cX7_counted 144 = .ok (.getfield 7, 3) := by decide +kernel
theorem dX7_counted_147 : decode cX7_counted 147 = .ok (.bipush 7, 2) := by decide +kernel
theorem dX7_counted_149 : decode cX7_counted 149 = .ok (.iload_n 1, 1) := by decide +kernel
theorem dX7_counted_150 : decode cX7_counted 150 = .ok (.iadd, 1) := by decide +kernel
theorem dX7_counted_151 : decode cX7_counted 151 = .ok (.bipush 10, 2) := by decide +kernel
theorem dX7_counted_153 : decode cX7_counted 153 = .ok (.isub, 1) := by decide +kernel
theorem dX7_counted_154 : decode cX7_counted 154 = .ok (.iaload, 1) := by decide +kernel
theorem dX7_counted_155 : decode cX7_counted 155 = .ok (.ireturn, 1) := by decide +kernel
theorem dX7_counted_156 : decode cX7_counted 156 = .ok (.aload_n 0, 1) := by decide +kernel
theorem dX7_counted_157 : decode cX7_counted 157 = .ok (.getfield 7, 3) := by decide +kernel
theorem dX7_counted_160 : decode cX7_counted 160 = .ok (.iconst 5, 1) := by decide +kernel
theorem dX7_counted_161 : decode cX7_counted 161 = .ok (.iaload, 1) := by decide +kernel
theorem dX7_counted_162 : decode cX7_counted 162 = .ok (.ireturn, 1) := by decide +kernel
theorem dX7_counted_163 : decode cX7_counted 163 = .ok (.aload_n 0, 1) := by decide +kernel
theorem dX7_counted_164 : decode cX7_counted 164 = .ok (.getfield 19, 3) := by decide +kernel
theorem dX7_counted_167 : decode cX7_counted 167 = .ok (.iconst 0, 1) := by decide +kernel
theorem dX7_counted_168 : decode cX7_counted 168 = .ok (.iaload, 1) := by decide +kernel
theorem dX7_counted_169 : decode cX7_counted 169 = .ok (.aload_n 0, 1) := by decide +kernel
theorem dX7_counted_170 : decode cX7_counted 170 = .ok (.getfield 19, 3) := by decide +kernel
theorem dX7_counted_173 : decode cX7_counted 173 = .ok (.iconst 1, 1) := by decide +kernel
theorem dX7_counted_174 : decode cX7_counted 174 = .ok (.iaload, 1) := by decide +kernel
theorem dX7_counted_175 : decode cX7_counted 175 = .ok (.iadd, 1) := by decide +kernel
theorem dX7_counted_176 : decode cX7_counted 176 = .ok (.ireturn, 1) := by decide +kernel
theorem dX7_counted_177 : decode cX7_counted 177 = .ok (.aload_n 0, 1) := by decide +kernel
theorem dX7_counted_178 : decode cX7_counted 178 = .ok (.getfield 54, 3) := by decide +kernel
theorem dX7_counted_181 : decode cX7_counted 181 = .ok (.ireturn, 1) := by decide +kernel
set_option maxRecDepth 20000 in
theorem ggX7_count_X7_within : GoodIn wsX7_count wsX7_within := goodIn_r _ [5] (by decide +kernel) (by decide +kernel)
set_option maxRecDepth 20000 in
theorem gX7_count_X7_within : GoodIn wsX7_count (va_wsS RX7 57 yX7_within wsX7_within) := goodIn_app (goodIn_of _ (by decide +kernel)) ggX7_count_X7_within
set_option maxRecDepth 20000 in
theorem ggX7_count_X7_counted : GoodIn wsX7_count wsX7_counted := goodIn_r _ [9, 10, 11, 12, 13, 14, 15, 4, 16, 17, 18, 19, 20, 21, 22, 23, 24, 25, 26, 27, 28, 29, 30, 31, 32, 33, 34, 35, 36, 37, 38, 39, 40, 41, 42, 43, 44, 45, 46, 47, 48, 49, 50, 51, 52, 53, 54, 55, 56, 57, 58, 59, 60, 61, 62, 63, 64, 65, 66, 67, 68, 69, 70, 71, 72, 73, 74, 75, 76, 77, 78, 79, 80, 81, 82, 83, 84, 85, 86, 87, 88, 89, 90, 91, 92, 93, 94, 95, 96, 97, 98, 99, 100, 101, 102, 103, 104, 105, 106, 107, 108, 109, 110, 111, 112, 113, 114, 115, 116, 117, 118, 119, 120, 121] (by decide +kernel) (by decide +kernel)
set_option maxRecDepth 20000 in
theorem gX7_count_X7_counted : GoodIn wsX7_count (wsV RX7 236 RX7 yX7_counted wsX7_counted) := goodIn_app (goodIn_of _ (by decide +kernel)) ggX7_count_X7_counted
theorem dX7_count_0 : decode cX7_count 0 = .ok (.aload_n 0, 1) := by decide +kernel
theorem dX7_count_1 : decode cX7_count 1 = .ok (.iload_n 1, 1) := by decide +kernel
theorem dX7_count_2 : decode cX7_count 2 = .ok (.iconst 0, 1) := by decide +kernel
theorem dX7_count_3 : decode cX7_count 3 = .ok (.bipush 15, 2) := by decide +kernel
theorem dX7_count_5 : decode cX7_count 5 = .ok (.invokestatic 57, 3) := by decide +kernel
theorem dX7_count_8 : decode cX7_count 8 = .ok (.ifCond .eq 7, 3) := by decide +kernel
theorem dX7_count_11 : decode cX7_count 11 = .ok (.iconst 0, 1) := by decide +kernel
theorem dX7_count_12 : decode cX7_count 12 = .ok (.goto 4, 3) := by decide +kernel
theorem dX7_count_15 : decode cX7_count 15 = .ok (.iconst 1, 1) := by decide +kernel
theorem dX7_count_16 : decode cX7_count 16 = .ok (.putfield 50, 3) := by decide +kernel
theorem dX7_count_19 : decode cX7_count 19 = .ok (.aload_n 0, 1) := by decide +kernel
theorem dX7_count_20 : decode cX7_count 20 = .ok (.getfield 50, 3) := by decide +kernel
theorem dX7_count_23 : decode cX7_count 23 = .ok (.ifCond .le 7, 3) := by decide +kernel
theorem dX7_count_26 : decode cX7_count 26 = .ok (.iconst 0, 1) := by decide +kernel
theorem dX7_count_27 : decode cX7_count 27 = .ok (.goto 8, 3) := by decide +kernel
theorem dX7_count_30 : decode cX7_count 30 = .ok (.aload_n 0, 1) := by decide +kernel
theorem dX7_count_31 : decode cX7_count 31 = .ok (.iload_n 1, 1) := by decide +kernel
theorem dX7_count_32 : decode cX7_count 32 = .ok (.invokevirtual 236, 3) := by decide +kernel
theorem dX7_count_35 : decode cX7_count 35 = .ok (.ireturn, 1) := by decide +kernel
set_option maxRecDepth 20000 in
theorem ggX7_share_X7_weight : GoodIn wsX7_share wsX7_weight := goodIn_r _ [6, 7, 8, 9, 10, 5, 11, 12, 13, 14, 15, 16, 17, 18, 19, 20, 21, 22, 23, 24, 25, 26, 27, 28, 29, 30, 31, 32, 33, 34, 35, 36, 37, 38, 39, 40, 41, 42, 43, 44, 45, 46, 47, 48, 49, 50, 51, 52, 53, 54] (by decide +kernel) (by decide +kernel)
set_option maxRecDepth 20000 in
theorem gX7_share_X7_weight : GoodIn wsX7_share (wsV RX7 230 RX7 yX7_weight wsX7_weight) := goodIn_app (goodIn_of _ (by decide +kernel)) ggX7_share_X7_weight
theorem dX7_share_0 : decode cX7_share 0 = .ok (.aload_n 0, 1) := by decide +kernel
theorem dX7_share_1 : decode cX7_share 1 = .ok (.invokevirtual 230, 3) := by decide +kernel
theorem dX7_share_4 : decode cX7_share 4 = .ok (.i2d, 1) := by decide +kernel
theorem dX7_share_5 : decode cX7_share 5 = .ok (.ldc2_w 239, 3) := by decide +kernel
theorem dX7_share_8 : decode cX7_share 8 = .ok (.ddiv, 1) := by decide +kernel
theorem dX7_share_9 : decode cX7_share 9 = .ok (.dreturn, 1) := by decide +kernel
set_option maxRecDepth 20000 in
theorem ggX7_weightShare_X7_share : GoodIn wsX7_weightShare wsX7_share := goodIn_r _ [6, 7, 8, 9, 10, 5, 11, 12, 13, 14, 15, 16, 17, 18, 19, 20, 21, 22, 23, 24, 25, 26, 27, 28, 29, 30, 31, 32, 33, 34, 35, 36, 37, 38, 39, 40, 41, 42, 43, 44, 45, 46, 47, 48, 49, 50, 51, 52, 53, 54, 55, 56, 57, 58, 59] (by decide +kernel) (by decide +kernel)
set_option maxRecDepth 20000 in
theorem gX7_weightShare_X7_share : GoodIn wsX7_weightShare (wsV RX7 241 RX7 yX7_share wsX7_share) := goodIn_app (goodIn_of _ (by decide +kernel)) ggX7_weightShare_X7_share
theorem dX7_weightShare_0 : decode cX7_weightShare 0 = .ok (.aload_n 0, 1) := by decide +kernel
theorem dX7_weightShare_1 : decode cX7_weightShare 1 = .ok (.iconst 0, 1) := by decide +kernel
theorem dX7_weightShare_2 : decode cX7_weightShare 2 = .ok (.putfield 50, 3) := by decide +kernel
theorem dX7_weightShare_5 : decode cX7_weightShare 5 = .ok (.aload_n 0, 1) := by decide +kernel
theorem dX7_weightShare_6 : decode cX7_weightShare 6 = .ok (.invokevirtual 241, 3) := by decide +kernel
theorem dX7_weightShare_9 : decode cX7_weightShare 9 = .ok (.dreturn, 1) := by decide +kernel
theorem dX7_mix_0 : decode cX7_mix 0 = .ok (.aload_n 0, 1) := by decide +kernel
theorem dX7_mix_1 : decode cX7_mix 1 = .ok (.ldc2_w 245, 3) := by decide +kernel
theorem dX7_mix_4 : decode cX7_mix 4 = .ok (.aload_n 0, 1) := by decide +kernel
theorem dX7_mix_5 : decode cX7_mix 5 = .ok (.getfield 247, 3) := by decide +kernel
theorem dX7_mix_8 : decode cX7_mix 8 = .ok (.lmul, 1) := by decide +kernel
theorem dX7_mix_9 : decode cX7_mix 9 = .ok (.lload_n 1, 1) := by decide +kernel
theorem dX7_mix_10 : decode cX7_mix 10 = .ok (.ladd, 1) := by decide +kernel
theorem dX7_mix_11 : decode cX7_mix 11 = .ok (.putfield 247, 3) := by decide +kernel
theorem dX7_mix_14 : decode cX7_mix 14 = .ok (.return_, 1) := by decide +kernel
set_option maxRecDepth 20000 in
theorem ggX7_digest_X7_counted : GoodIn wsX7_digest wsX7_counted := goodIn_r _ [11, 4, 12, 13, 14, 15, 16, 10, 17, 18, 19, 20, 21, 22, 23, 24, 25, 26, 27, 28, 29, 30, 31, 32, 33, 34, 35, 36, 37, 38, 39, 40, 41, 42, 43, 44, 45, 46, 47, 48, 49, 50, 51, 52, 53, 54, 55, 56, 57, 58, 59, 60, 61, 62, 63, 64, 65, 66, 67, 68, 69, 70, 71, 72, 73, 74, 75, 76, 77, 78, 79, 80, 81, 82, 83, 84, 85, 86, 87, 88, 89, 90, 91, 92, 93, 94, 95, 96, 97, 98, 99, 100, 101, 102, 211, 212, 213, 214, 215, 216, 217, 218, 219, 220, 221, 222, 223, 224, 225, 226, 227, 228, 229, 230] (by decide +kernel) (by decide +kernel)
set_option maxRecDepth 20000 in
theorem gX7_digest_X7_counted : GoodIn wsX7_digest (wsV RX7 236 RX7 yX7_counted wsX7_counted) := goodIn_app (goodIn_of _ (by decide +kernel)) ggX7_digest_X7_counted
set_option maxRecDepth 20000 in
theorem ggX7_digest_X7_mix : GoodIn wsX7_digest wsX7_mix := goodIn_r _ [106, 107, 3, 211, 212, 213, 214, 215, 216, 217, 218, 219, 220, 221, 222, 223, 224, 225, 226, 227, 228, 229, 230] (by decide +kernel) (by decide +kernel)
set_option maxRecDepth 20000 in
theorem gX7_digest_X7_mix : GoodIn wsX7_digest (wsV RX7 253 RX7 yX7_mix wsX7_mix) := goodIn_app (goodIn_of _ (by decide +kernel)) ggX7_digest_X7_mix
set_option maxRecDepth 20000 in
theorem ggX7_digest_X7_lineNow : GoodIn wsX7_digest wsX7_lineNow := goodIn_r _ [111, 4, 18, 19, 20, 10, 21, 22, 23, 24, 25, 34, 35, 36, 37, 38, 39, 40, 41, 42, 43, 44, 45, 46, 47, 48, 30, 31, 32, 33, 211, 212, 213, 214, 215, 216, 217, 218, 219, 220, 221, 222, 223, 224, 225, 226, 227, 228, 229, 230] (by decide +kernel) (by decide +kernel)
set_option maxRecDepth 20000 in
theorem gX7_digest_X7_lineNow : GoodIn wsX7_digest (wsV RX7 209 RX7 yX7_lineNow wsX7_lineNow) := goodIn_app (goodIn_of _ (by decide +kernel)) ggX7_digest_X7_lineNow
set_option maxRecDepth 20000 in
theorem ggX7_digest_X7_cellNow : GoodIn wsX7_digest wsX7_cellNow := goodIn_r _ [115, 42, 43, 44, 10, 45, 4, 69, 70, 71, 22, 23, 24, 25, 116, 117, 118, 119, 34, 35, 36, 37, 38, 39, 40, 41, 30, 31, 32, 33, 18, 19, 20, 21, 46, 47, 48, 120, 121, 122, 123, 76, 77, 78, 79, 80, 81, 82, 83, 84, 85, 86, 87, 88, 89, 90, 91, 92, 93, 94, 95, 96, 97, 98, 99, 100, 101, 102, 124, 125, 126, 127, 211, 212, 213, 214, 215, 216, 217, 218, 219, 220, 221, 222, 223, 224, 225, 226, 227, 228, 229, 230] (by decide +kernel) (by decide +kernel)
set_option maxRecDepth 20000 in
theorem gX7_digest_X7_cellNow : GoodIn wsX7_digest (wsV RX7 215 RX7 yX7_cellNow wsX7_cellNow) := goodIn_app (goodIn_of _ (by decide +kernel)) ggX7_digest_X7_cellNow
set_option maxRecDepth 20000 in
theorem ggX7_digest_X7_movedThen : GoodIn wsX7_digest wsX7_movedThen := goodIn_r _ [131, 132, 49, 50, 51, 10, 52, 42, 43, 44, 45, 4, 22, 23, 24, 25, 53, 54, 55, 56, 38, 39, 40, 41, 69, 70, 71, 133, 134, 135, 136, 137, 138, 139, 140, 141, 142, 143, 144, 145, 146, 147, 148, 46, 47, 48, 149, 150, 151, 152, 153, 154, 155, 156, 157, 158, 159, 160, 211, 212, 213, 214, 215, 216, 217, 218, 219, 220, 221, 222, 223, 224, 225, 226, 227, 228, 229, 230] (by decide +kernel) (by decide +kernel)
set_option maxRecDepth 20000 in
theorem gX7_digest_X7_movedThen : GoodIn wsX7_digest (wsV RX7 221 RX7 yX7_movedThen wsX7_movedThen) := goodIn_app (goodIn_of _ (by decide +kernel)) ggX7_digest_X7_movedThen
set_option maxRecDepth 20000 in
theorem ggX7_digest_X7_replyBy : GoodIn wsX7_digest wsX7_replyBy := goodIn_r _ [164, 4, 49, 50, 51, 10, 52, 42, 43, 44, 45, 22, 23, 24, 25, 53, 54, 55, 56, 38, 39, 40, 41, 65, 66, 67, 68, 69, 70, 71, 165, 166, 167, 168, 133, 134, 135, 136, 137, 138, 139, 132, 140, 141, 142, 143, 144, 145, 146, 147, 148, 46, 47, 48, 149, 150, 151, 152, 169, 170, 171, 172, 153, 154, 155, 156, 157, 158, 159, 160, 61, 62, 63, 64, 57, 58, 59, 60, 18, 19, 20, 21, 34, 35, 36, 37, 173, 174, 175, 176, 116, 117, 118, 119, 30, 31, 32, 33, 211, 212, 213, 214, 215, 216, 217, 218, 219, 220, 221, 222, 223, 224, 225, 226, 227, 228, 229, 230] (by decide +kernel) (by decide +kernel)
set_option maxRecDepth 20000 in
theorem gX7_digest_X7_replyBy : GoodIn wsX7_digest (wsV RX7 182 RX7 yX7_replyBy wsX7_replyBy) := goodIn_app (goodIn_of _ (by decide +kernel)) ggX7_digest_X7_replyBy
set_option maxRecDepth 20000 in
theorem ggX7_digest_X7_solvedNow : GoodIn wsX7_digest wsX7_solvedNow := goodIn_r _ [180, 4, 132, 141, 49, 50, 51, 10, 52, 42, 43, 44, 45, 22, 23, 24, 25, 53, 54, 55, 56, 133, 134, 135, 136, 137, 138, 139, 140, 142, 143, 144, 145, 146, 147, 148, 46, 47, 48, 149, 150, 151, 152, 69, 70, 71, 157, 158, 159, 160, 211, 212, 213, 214, 215, 216, 217, 218, 219, 220, 221, 222, 223, 224, 225, 226, 227, 228, 229, 230] (by decide +kernel) (by decide +kernel)
set_option maxRecDepth 20000 in
theorem gX7_digest_X7_solvedNow : GoodIn wsX7_digest (wsV RX7 218 RX7 yX7_solvedNow wsX7_solvedNow) := goodIn_app (goodIn_of _ (by decide +kernel)) ggX7_digest_X7_solvedNow
set_option maxRecDepth 20000 in
theorem ggX7_digest_X7_playedThen : GoodIn wsX7_digest wsX7_playedThen := goodIn_r _ [184, 185, 4, 186, 187, 188, 10, 189, 49, 50, 51, 52, 42, 43, 44, 45, 22, 23, 24, 25, 53, 54, 55, 56, 161, 162, 163, 164, 38, 39, 40, 41, 65, 66, 67, 68, 69, 70, 71, 165, 166, 167, 168, 133, 134, 135, 136, 137, 138, 139, 132, 140, 141, 142, 143, 144, 145, 146, 147, 148, 46, 47, 48, 149, 150, 151, 152, 169, 170, 171, 172, 153, 154, 155, 156, 157, 158, 159, 160, 61, 62, 63, 64, 57, 58, 59, 60, 18, 19, 20, 21, 34, 35, 36, 37, 173, 174, 175, 176, 116, 117, 118, 119, 30, 31, 32, 33, 190, 191, 192, 193, 120, 121, 122, 123, 76, 77, 78, 79, 80, 81, 82, 83, 84, 85, 86, 87, 88, 89, 90, 91, 92, 93, 94, 95, 96, 97, 98, 99, 100, 101, 102, 211, 212, 213, 214, 215, 216, 217, 218, 219, 220, 221, 222, 223, 224, 225, 226, 227, 228, 229, 230] (by decide +kernel) (by decide +kernel)
set_option maxRecDepth 20000 in
theorem gX7_digest_X7_playedThen : GoodIn wsX7_digest (wsV RX7 224 RX7 yX7_playedThen wsX7_playedThen) := goodIn_app (goodIn_of _ (by decide +kernel)) ggX7_digest_X7_playedThen
set_option maxRecDepth 20000 in
theorem ggX7_digest_X7_share : GoodIn wsX7_digest wsX7_share := goodIn_r _ [197, 198, 26, 27, 28, 10, 29, 4, 30, 31, 32, 33, 18, 19, 20, 21, 22, 23, 24, 25, 34, 35, 36, 37, 38, 39, 40, 41, 42, 43, 44, 45, 46, 47, 48, 211, 212, 213, 214, 215, 216, 217, 218, 219, 220, 221, 222, 223, 224, 225, 226, 227, 228, 229, 230] (by decide +kernel) (by decide +kernel)
set_option maxRecDepth 20000 in
theorem gX7_digest_X7_share : GoodIn wsX7_digest (wsV RX7 241 RX7 yX7_share wsX7_share) := goodIn_app (goodIn_of _ (by decide +kernel)) ggX7_digest_X7_share
set_option maxRecDepth 20000 in
theorem ggX7_digest_Jxe99ae_doubleToLongBits_ccdee : GoodIn wsX7_digest wsJxe99ae_doubleToLongBits_ccdee := goodIn_r _ [202, 203, 204, 205, 206, 207, 208, 209, 201, 210] (by decide +kernel) (by decide +kernel)
set_option maxRecDepth 20000 in
theorem gX7_digest_Jxe99ae_doubleToLongBits_ccdee : GoodIn wsX7_digest (va_wsS RX7 257 yJxe99ae_doubleToLongBits_ccdee wsJxe99ae_doubleToLongBits_ccdee) := goodIn_app (goodIn_of _ (by decide +kernel)) ggX7_digest_Jxe99ae_doubleToLongBits_ccdee
theorem dX7_digest_0 : decode cX7_digest 0 = .ok (.aload_n 0, 1) := by decide +kernel
theorem dX7_digest_1 : decode cX7_digest 1 = .ok (.iconst 0, 1) := by decide +kernel
theorem dX7_digest_2 : decode cX7_digest 2 = .ok (.putfield 50, 3) := by decide +kernel
theorem dX7_digest_5 : decode cX7_digest 5 = .ok (.aload_n 0, 1) := by decide +kernel
theorem dX7_digest_6 : decode cX7_digest 6 = .ok (.ldc2_w 251, 3) := by decide +kernel
theorem dX7_digest_9 : decode cX7_digest 9 = .ok (.putfield 247, 3) := by decide +kernel
theorem dX7_digest_12 : decode cX7_digest 12 = .ok (.iconst 0, 1) := by decide +kernel
theorem dX7_digest_13 : decode cX7_digest 13 = .ok (.istore_n 1, 1) := by decide +kernel
theorem dX7_digest_14 : decode cX7_digest 14 = .ok (.iload_n 1, 1) := by decide +kernel
theorem dX7_digest_15 : decode cX7_digest 15 = .ok (.bipush 16, 2) := by decide +kernel
theorem dX7_digest_17 : decode cX7_digest 17 = .ok (.if_icmp .ge 19, 3) := by decide +kernel
theorem dX7_digest_20 : decode cX7_digest 20 = .ok (.aload_n 0, 1) := by decide +kernel
theorem dX7_digest_21 : decode cX7_digest 21 = .ok (.aload_n 0, 1) := by decide +kernel
theorem dX7_digest_22 : decode cX7_digest 22 = .ok (.iload_n 1, 1) := by decide +kernel
theorem dX7_digest_23 : decode cX7_digest 23 = .ok (.invokevirtual 236, 3) := by decide +kernel
theorem dX7_digest_26 : decode cX7_digest 26 = .ok (.i2l, 1) := by decide +kernel
theorem dX7_digest_27 : decode cX7_digest 27 = .ok (.invokevirtual 253, 3) := by decide +kernel
theorem dX7_digest_30 : decode cX7_digest 30 = .ok (.iinc 1 1, 3) := by decide +kernel
theorem dX7_digest_33 : decode cX7_digest 33 = .ok (.goto (-19), 3) := by decide +kernel
theorem dX7_digest_36 : decode cX7_digest 36 = .ok (.iconst 0, 1) := by decide +kernel
theorem dX7_digest_37 : decode cX7_digest 37 = .ok (.istore_n 1, 1) := by decide +kernel
theorem dX7_digest_38 : decode cX7_digest 38 = .ok (.iload_n 1, 1) := by decide +kernel
theorem dX7_digest_39 : decode cX7_digest 39 = .ok (.iconst 5, 1) := by decide +kernel
theorem dX7_digest_40 : decode cX7_digest 40 = .ok (.aload_n 0, 1) := by decide +kernel
theorem dX7_digest_41 : decode cX7_digest 41 = .ok (.getfield 7, 3) := by decide +kernel
theorem dX7_digest_44 : decode cX7_digest 44 = .ok (.iconst 2, 1) := by decide +kernel
theorem dX7_digest_45 : decode cX7_digest 45 = .ok (.iaload, 1) := by decide +kernel
theorem dX7_digest_46 : decode cX7_digest 46 = .ok (.imul, 1) := by decide +kernel
theorem dX7_digest_47 : decode cX7_digest 47 = .ok (.if_icmp .ge 24, 3) := by decide +kernel
theorem dX7_digest_50 : decode cX7_digest 50 = .ok (.aload_n 0, 1) := by decide +kernel
theorem dX7_digest_51 : decode cX7_digest 51 = .ok (.aload_n 0, 1) := by decide +kernel
theorem dX7_digest_52 : decode cX7_digest 52 = .ok (.iload_n 1, 1) := by decide +kernel
theorem dX7_digest_53 : decode cX7_digest 53 = .ok (.iconst 5, 1) := by decide +kernel
theorem dX7_digest_54 : decode cX7_digest 54 = .ok (.idiv, 1) := by decide +kernel
theorem dX7_digest_55 : decode cX7_digest 55 = .ok (.iload_n 1, 1) := by decide +kernel
theorem dX7_digest_56 : decode cX7_digest 56 = .ok (.iconst 5, 1) := by decide +kernel
theorem dX7_digest_57 : decode cX7_digest 57 = .ok (.irem, 1) := by decide +kernel
theorem dX7_digest_58 : decode cX7_digest 58 = .ok (.invokevirtual 209, 3) := by decide +kernel
theorem dX7_digest_61 : decode cX7_digest 61 = .ok (.i2l, 1) := by decide +kernel
theorem dX7_digest_62 : decode cX7_digest 62 = .ok (.invokevirtual 253, 3) := by decide +kernel
theorem dX7_digest_65 : decode cX7_digest 65 = .ok (.iinc 1 1, 3) := by decide +kernel
theorem dX7_digest_68 : decode cX7_digest 68 = .ok (.goto (-30), 3) := by decide +kernel
theorem dX7_digest_71 : decode cX7_digest 71 = .ok (.iconst 0, 1) := by decide +kernel
theorem dX7_digest_72 : decode cX7_digest 72 = .ok (.istore_n 1, 1) := by decide +kernel
theorem dX7_digest_73 : decode cX7_digest 73 = .ok (.iload_n 1, 1) := by decide +kernel
theorem dX7_digest_74 : decode cX7_digest 74 = .ok (.aload_n 0, 1) := by decide +kernel
theorem dX7_digest_75 : decode cX7_digest 75 = .ok (.getfield 7, 3) := by decide +kernel
theorem dX7_digest_78 : decode cX7_digest 78 = .ok (.iconst 0, 1) := by decide +kernel
theorem dX7_digest_79 : decode cX7_digest 79 = .ok (.iaload, 1) := by decide +kernel
theorem dX7_digest_80 : decode cX7_digest 80 = .ok (.if_icmp .ge 43, 3) := by decide +kernel
theorem dX7_digest_83 : decode cX7_digest 83 = .ok (.iconst 0, 1) := by decide +kernel
theorem dX7_digest_84 : decode cX7_digest 84 = .ok (.istore_n 2, 1) := by decide +kernel
theorem dX7_digest_85 : decode cX7_digest 85 = .ok (.iload_n 2, 1) := by decide +kernel
theorem dX7_digest_86 : decode cX7_digest 86 = .ok (.iconst 4, 1) := by decide +kernel
theorem dX7_digest_87 : decode cX7_digest 87 = .ok (.if_icmp .ge 20, 3) := by decide +kernel
theorem dX7_digest_90 : decode cX7_digest 90 = .ok (.aload_n 0, 1) := by decide +kernel
theorem dX7_digest_91 : decode cX7_digest 91 = .ok (.aload_n 0, 1) := by decide +kernel
theorem dX7_digest_92 : decode cX7_digest 92 = .ok (.iload_n 1, 1) := by decide +kernel
theorem dX7_digest_93 : decode cX7_digest 93 = .ok (.iload_n 2, 1) := by decide +kernel
theorem dX7_digest_94 : decode cX7_digest 94 = .ok (.invokevirtual 215, 3) := by decide +kernel
theorem dX7_digest_97 : decode cX7_digest 97 = .ok (.i2l, 1) := by decide +kernel
theorem dX7_digest_98 : decode cX7_digest 98 = .ok (.invokevirtual 253, 3) := by decide +kernel
theorem dX7_digest_101 : decode cX7_digest 101 = .ok (.iinc 2 1, 3) := by decide +kernel
theorem dX7_digest_104 : decode cX7_digest 104 = .ok (.goto (-19), 3) := by decide +kernel
theorem dX7_digest_107 : decode cX7_digest 107 = .ok (.aload_n 0, 1) := by decide +kernel
theorem dX7_digest_108 : decode cX7_digest 108 = .ok (.aload_n 0, 1) := by decide +kernel
theorem dX7_digest_109 : decode cX7_digest 109 = .ok (.iload_n 1, 1) := by decide +kernel
theorem dX7_digest_110 : decode cX7_digest 110 = .ok (.invokevirtual 221, 3) := by decide +kernel
theorem dX7_digest_113 : decode cX7_digest 113 = .ok (.i2l, 1) := by decide +kernel
theorem dX7_digest_114 : decode cX7_digest 114 = .ok (.invokevirtual 253, 3) := by decide +kernel
theorem dX7_digest_117 : decode cX7_digest 117 = .ok (.iinc 1 1, 3) := by decide +kernel
theorem dX7_digest_120 : decode cX7_digest 120 = .ok (.goto (-47), 3) := by decide +kernel
theorem dX7_digest_123 : decode cX7_digest 123 = .ok (.iconst 0, 1) := by decide +kernel
theorem dX7_digest_124 : decode cX7_digest 124 = .ok (.istore_n 1, 1) := by decide +kernel
theorem dX7_digest_125 : decode cX7_digest 125 = .ok (.iload_n 1, 1) := by decide +kernel
theorem dX7_digest_126 : decode cX7_digest 126 = .ok (.iconst 4, 1) := by decide +kernel
theorem dX7_digest_127 : decode cX7_digest 127 = .ok (.if_icmp .ge 19, 3) := by decide +kernel
theorem dX7_digest_130 : decode cX7_digest 130 = .ok (.aload_n 0, 1) := by decide +kernel
theorem dX7_digest_131 : decode cX7_digest 131 = .ok (.aload_n 0, 1) := by decide +kernel
theorem dX7_digest_132 : decode cX7_digest 132 = .ok (.iload_n 1, 1) := by decide +kernel
theorem dX7_digest_133 : decode cX7_digest 133 = .ok (.invokevirtual 182, 3) := by decide +kernel
theorem dX7_digest_136 : decode cX7_digest 136 = .ok (.i2l, 1) := by decide +kernel
theorem dX7_digest_137 : decode cX7_digest 137 = .ok (.invokevirtual 253, 3) := by decide +kernel
theorem dX7_digest_140 : decode cX7_digest 140 = .ok (.iinc 1 1, 3) := by decide +kernel
theorem dX7_digest_143 : decode cX7_digest 143 = .ok (.goto (-18), 3) := by decide +kernel
theorem dX7_digest_146 : decode cX7_digest 146 = .ok (.aload_n 0, 1) := by decide +kernel
theorem dX7_digest_147 : decode cX7_digest 147 = .ok (.aload_n 0, 1) := by decide +kernel
theorem dX7_digest_148 : decode cX7_digest 148 = .ok (.iconst 0, 1) := by decide +kernel
theorem dX7_digest_149 : decode cX7_digest 149 = .ok (.invokevirtual 218, 3) := by decide +kernel
theorem dX7_digest_152 : decode cX7_digest 152 = .ok (.i2l, 1) := by decide +kernel
theorem dX7_digest_153 : decode cX7_digest 153 = .ok (.invokevirtual 253, 3) := by decide +kernel
theorem dX7_digest_156 : decode cX7_digest 156 = .ok (.aload_n 0, 1) := by decide +kernel
theorem dX7_digest_157 : decode cX7_digest 157 = .ok (.aload_n 0, 1) := by decide +kernel
theorem dX7_digest_158 : decode cX7_digest 158 = .ok (.iconst 1, 1) := by decide +kernel
theorem dX7_digest_159 : decode cX7_digest 159 = .ok (.invokevirtual 218, 3) := by decide +kernel
theorem dX7_digest_162 : decode cX7_digest 162 = .ok (.i2l, 1) := by decide +kernel
theorem dX7_digest_163 : decode cX7_digest 163 = .ok (.invokevirtual 253, 3) := by decide +kernel
theorem dX7_digest_166 : decode cX7_digest 166 = .ok (.aload_n 0, 1) := by decide +kernel
theorem dX7_digest_167 : decode cX7_digest 167 = .ok (.aload_n 0, 1) := by decide +kernel
theorem dX7_digest_168 : decode cX7_digest 168 = .ok (.iconst 1, 1) := by decide +kernel
theorem dX7_digest_169 : decode cX7_digest 169 = .ok (.iconst 1, 1) := by decide +kernel
theorem dX7_digest_170 : decode cX7_digest 170 = .ok (.invokevirtual 224, 3) := by decide +kernel
theorem dX7_digest_173 : decode cX7_digest 173 = .ok (.i2l, 1) := by decide +kernel
theorem dX7_digest_174 : decode cX7_digest 174 = .ok (.invokevirtual 253, 3) := by decide +kernel
theorem dX7_digest_177 : decode cX7_digest 177 = .ok (.aload_n 0, 1) := by decide +kernel
theorem dX7_digest_178 : decode cX7_digest 178 = .ok (.aload_n 0, 1) := by decide +kernel
theorem dX7_digest_179 : decode cX7_digest 179 = .ok (.iconst 1, 1) := by decide +kernel
theorem dX7_digest_180 : decode cX7_digest 180 = .ok (.iconst 2, 1) := by decide +kernel
theorem dX7_digest_181 : decode cX7_digest 181 = .ok (.invokevirtual 224, 3) := by decide +kernel
theorem dX7_digest_184 : decode cX7_digest 184 = .ok (.i2l, 1) := by decide +kernel
theorem dX7_digest_185 : decode cX7_digest 185 = .ok (.invokevirtual 253, 3) := by decide +kernel
theorem dX7_digest_188 : decode cX7_digest 188 = .ok (.aload_n 0, 1) := by decide +kernel
theorem dX7_digest_189 : decode cX7_digest 189 = .ok (.aload_n 0, 1) := by decide +kernel
theorem dX7_digest_190 : decode cX7_digest 190 = .ok (.iconst 2, 1) := by decide +kernel
theorem dX7_digest_191 : decode cX7_digest 191 = .ok (.iconst 3, 1) := by decide +kernel
theorem dX7_digest_192 : decode cX7_digest 192 = .ok (.invokevirtual 224, 3) := by decide +kernel
theorem dX7_digest_195 : decode cX7_digest 195 = .ok (.i2l, 1) := by decide +kernel
theorem dX7_digest_196 : decode cX7_digest 196 = .ok (.invokevirtual 253, 3) := by decide +kernel
theorem dX7_digest_199 : decode cX7_digest 199 = .ok (.aload_n 0, 1) := by decide +kernel
theorem dX7_digest_200 : decode cX7_digest 200 = .ok (.aload_n 0, 1) := by decide +kernel
theorem dX7_digest_201 : decode cX7_digest 201 = .ok (.iconst 3, 1) := by decide +kernel
theorem dX7_digest_202 : decode cX7_digest 202 = .ok (.iconst 1, 1) := by decide +kernel
theorem dX7_digest_203 : decode cX7_digest 203 = .ok (.invokevirtual 224, 3) := by decide +kernel
theorem dX7_digest_206 : decode cX7_digest 206 = .ok (.i2l, 1) := by decide +kernel
theorem dX7_digest_207 : decode cX7_digest 207 = .ok (.invokevirtual 253, 3) := by decide +kernel
theorem dX7_digest_210 : decode cX7_digest 210 = .ok (.aload_n 0, 1) := by decide +kernel
theorem dX7_digest_211 : decode cX7_digest 211 = .ok (.aload_n 0, 1) := by decide +kernel
theorem dX7_digest_212 : decode cX7_digest 212 = .ok (.invokevirtual 241, 3) := by decide +kernel
theorem dX7_digest_215 : decode cX7_digest 215 = .ok (.invokestatic 257, 3) := by decide +kernel
theorem dX7_digest_218 : decode cX7_digest 218 = .ok (.invokevirtual 253, 3) := by decide +kernel
theorem dX7_digest_221 : decode cX7_digest 221 = .ok (.aload_n 0, 1) := by decide +kernel
theorem dX7_digest_222 : decode cX7_digest 222 = .ok (.aload_n 0, 1) := by decide +kernel
theorem dX7_digest_223 : decode cX7_digest 223 = .ok (.getfield 191, 3) := by decide +kernel
theorem dX7_digest_226 : decode cX7_digest 226 = .ok (.i2l, 1) := by decide +kernel
theorem dX7_digest_227 : decode cX7_digest 227 = .ok (.invokevirtual 253, 3) := by decide +kernel
theorem dX7_digest_230 : decode cX7_digest 230 = .ok (.iconst 0, 1) := by decide +kernel
theorem dX7_digest_231 : decode cX7_digest 231 = .ok (.istore_n 1, 1) := by decide +kernel
theorem dX7_digest_232 : decode cX7_digest 232 = .ok (.iload_n 1, 1) := by decide +kernel
theorem dX7_digest_233 : decode cX7_digest 233 = .ok (.aload_n 0, 1) := by decide +kernel
theorem dX7_digest_234 : decode cX7_digest 234 = .ok (.getfield 191, 3) := by decide +kernel
theorem dX7_digest_237 : decode cX7_digest 237 = .ok (.if_icmp .ge 20, 3) := by decide +kernel
theorem dX7_digest_240 : decode cX7_digest 240 = .ok (.aload_n 0, 1) := by decide +kernel
theorem dX7_digest_241 : decode cX7_digest 241 = .ok (.aload_n 0, 1) := by decide +kernel
theorem dX7_digest_242 : decode cX7_digest 242 = .ok (.getfield 22, 3) := by decide +kernel
theorem dX7_digest_245 : decode cX7_digest 245 = .ok (.iload_n 1, 1) := by decide +kernel
theorem dX7_digest_246 : decode cX7_digest 246 = .ok (.iaload, 1) := by decide +kernel
theorem dX7_digest_247 : decode cX7_digest 247 = .ok (.i2l, 1) := by decide +kernel
theorem dX7_digest_248 : decode cX7_digest 248 = .ok (.invokevirtual 253, 3) := by decide +kernel
theorem dX7_digest_251 : decode cX7_digest 251 = .ok (.iinc 1 1, 3) := by decide +kernel
theorem dX7_digest_254 : decode cX7_digest 254 = .ok (.goto (-22), 3) := by decide +kernel
theorem dX7_digest_257 : decode cX7_digest 257 = .ok (.aload_n 0, 1) := by decide +kernel
theorem dX7_digest_258 : decode cX7_digest 258 = .ok (.getfield 247, 3) := by decide +kernel
theorem dX7_digest_261 : decode cX7_digest 261 = .ok (.lreturn, 1) := by decide +kernel
theorem dJxe99ae_isNaN_b9ae7_0 : decode cJxe99ae_isNaN_b9ae7 0 = .ok (.dload_n 0, 1) := by decide +kernel
theorem dJxe99ae_isNaN_b9ae7_1 : decode cJxe99ae_isNaN_b9ae7 1 = .ok (.dload_n 0, 1) := by decide +kernel
theorem dJxe99ae_isNaN_b9ae7_2 : decode cJxe99ae_isNaN_b9ae7 2 = .ok (.dcmp .l, 1) := by decide +kernel
theorem dJxe99ae_isNaN_b9ae7_3 : decode cJxe99ae_isNaN_b9ae7 3 = .ok (.ifCond .eq 7, 3) := by decide +kernel
theorem dJxe99ae_isNaN_b9ae7_6 : decode cJxe99ae_isNaN_b9ae7 6 = .ok (.iconst 1, 1) := by decide +kernel
theorem dJxe99ae_isNaN_b9ae7_7 : decode cJxe99ae_isNaN_b9ae7 7 = .ok (.goto 4, 3) := by decide +kernel
theorem dJxe99ae_isNaN_b9ae7_10 : decode cJxe99ae_isNaN_b9ae7 10 = .ok (.iconst 0, 1) := by decide +kernel
theorem dJxe99ae_isNaN_b9ae7_11 : decode cJxe99ae_isNaN_b9ae7 11 = .ok (.ireturn, 1) := by decide +kernel
set_option maxRecDepth 20000 in
theorem ggJxe99ae_doubleToLongBits_ccdee_Jxe99ae_isNaN_b9ae7 : GoodIn wsJxe99ae_doubleToLongBits_ccdee wsJxe99ae_isNaN_b9ae7 := goodIn_r _ [9] (by decide +kernel) (by decide +kernel)
set_option maxRecDepth 20000 in
theorem gJxe99ae_doubleToLongBits_ccdee_Jxe99ae_isNaN_b9ae7 : GoodIn wsJxe99ae_doubleToLongBits_ccdee (va_wsS RJxe99ae 122 yJxe99ae_isNaN_b9ae7 wsJxe99ae_isNaN_b9ae7) := goodIn_app (goodIn_of _ (by decide +kernel)) ggJxe99ae_doubleToLongBits_ccdee_Jxe99ae_isNaN_b9ae7
theorem dJxe99ae_doubleToLongBits_ccdee_0 : decode cJxe99ae_doubleToLongBits_ccdee 0 = .ok (.dload_n 0, 1) := by decide +kernel
theorem dJxe99ae_doubleToLongBits_ccdee_1 : decode cJxe99ae_doubleToLongBits_ccdee 1 = .ok (.invokestatic 122, 3) := by decide +kernel
theorem dJxe99ae_doubleToLongBits_ccdee_4 : decode cJxe99ae_doubleToLongBits_ccdee 4 = .ok (.ifCond .ne 8, 3) := by decide +kernel
theorem dJxe99ae_doubleToLongBits_ccdee_7 : decode cJxe99ae_doubleToLongBits_ccdee 7 = .ok (.dload_n 0, 1) := by decide +kernel
theorem dJxe99ae_doubleToLongBits_ccdee_8 : decode cJxe99ae_doubleToLongBits_ccdee 8 = .ok (.invokestatic 134, 3) := by decide +kernel
theorem dJxe99ae_doubleToLongBits_ccdee_11 : decode cJxe99ae_doubleToLongBits_ccdee 11 = .ok (.lreturn, 1) := by decide +kernel
theorem dJxe99ae_doubleToLongBits_ccdee_12 : decode cJxe99ae_doubleToLongBits_ccdee 12 = .ok (.ldc2_w 137, 3) := by decide +kernel
theorem dJxe99ae_doubleToLongBits_ccdee_15 : decode cJxe99ae_doubleToLongBits_ccdee 15 = .ok (.lreturn, 1) := by decide +kernel
theorem dJ6_bitCount_0f7a4_0 : decode cJ6_bitCount_0f7a4 0 = .ok (.iload_n 0, 1) := by decide +kernel
theorem dJ6_bitCount_0f7a4_1 : decode cJ6_bitCount_0f7a4 1 = .ok (.iload_n 0, 1) := by decide +kernel
theorem dJ6_bitCount_0f7a4_2 : decode cJ6_bitCount_0f7a4 2 = .ok (.iconst 1, 1) := by decide +kernel
theorem dJ6_bitCount_0f7a4_3 : decode cJ6_bitCount_0f7a4 3 = .ok (.iushr, 1) := by decide +kernel
theorem dJ6_bitCount_0f7a4_4 : decode cJ6_bitCount_0f7a4 4 = .ok (.ldc_w 265, 3) := by decide +kernel
theorem dJ6_bitCount_0f7a4_7 : decode cJ6_bitCount_0f7a4 7 = .ok (.iand, 1) := by decide +kernel
theorem dJ6_bitCount_0f7a4_8 : decode cJ6_bitCount_0f7a4 8 = .ok (.isub, 1) := by decide +kernel
theorem dJ6_bitCount_0f7a4_9 : decode cJ6_bitCount_0f7a4 9 = .ok (.istore_n 0, 1) := by decide +kernel
theorem dJ6_bitCount_0f7a4_10 : decode cJ6_bitCount_0f7a4 10 = .ok (.iload_n 0, 1) := by decide +kernel
theorem dJ6_bitCount_0f7a4_11 : decode cJ6_bitCount_0f7a4 11 = .ok (.ldc_w 266, 3) := by decide +kernel
theorem dJ6_bitCount_0f7a4_14 : decode cJ6_bitCount_0f7a4 14 = .ok (.iand, 1) := by decide +kernel
theorem dJ6_bitCount_0f7a4_15 : decode cJ6_bitCount_0f7a4 15 = .ok (.iload_n 0, 1) := by decide +kernel
theorem dJ6_bitCount_0f7a4_16 : decode cJ6_bitCount_0f7a4 16 = .ok (.iconst 2, 1) := by decide +kernel
theorem dJ6_bitCount_0f7a4_17 : decode cJ6_bitCount_0f7a4 17 = .ok (.iushr, 1) := by decide +kernel
theorem dJ6_bitCount_0f7a4_18 : decode cJ6_bitCount_0f7a4 18 = .ok (.ldc_w 266, 3) := by decide +kernel
theorem dJ6_bitCount_0f7a4_21 : decode cJ6_bitCount_0f7a4 21 = .ok (.iand, 1) := by decide +kernel
theorem dJ6_bitCount_0f7a4_22 : decode cJ6_bitCount_0f7a4 22 = .ok (.iadd, 1) := by decide +kernel
theorem dJ6_bitCount_0f7a4_23 : decode cJ6_bitCount_0f7a4 23 = .ok (.istore_n 0, 1) := by decide +kernel
theorem dJ6_bitCount_0f7a4_24 : decode cJ6_bitCount_0f7a4 24 = .ok (.iload_n 0, 1) := by decide +kernel
theorem dJ6_bitCount_0f7a4_25 : decode cJ6_bitCount_0f7a4 25 = .ok (.iload_n 0, 1) := by decide +kernel
theorem dJ6_bitCount_0f7a4_26 : decode cJ6_bitCount_0f7a4 26 = .ok (.iconst 4, 1) := by decide +kernel
theorem dJ6_bitCount_0f7a4_27 : decode cJ6_bitCount_0f7a4 27 = .ok (.iushr, 1) := by decide +kernel
theorem dJ6_bitCount_0f7a4_28 : decode cJ6_bitCount_0f7a4 28 = .ok (.iadd, 1) := by decide +kernel
theorem dJ6_bitCount_0f7a4_29 : decode cJ6_bitCount_0f7a4 29 = .ok (.ldc_w 267, 3) := by decide +kernel
theorem dJ6_bitCount_0f7a4_32 : decode cJ6_bitCount_0f7a4 32 = .ok (.iand, 1) := by decide +kernel
theorem dJ6_bitCount_0f7a4_33 : decode cJ6_bitCount_0f7a4 33 = .ok (.istore_n 0, 1) := by decide +kernel
theorem dJ6_bitCount_0f7a4_34 : decode cJ6_bitCount_0f7a4 34 = .ok (.iload_n 0, 1) := by decide +kernel
theorem dJ6_bitCount_0f7a4_35 : decode cJ6_bitCount_0f7a4 35 = .ok (.iload_n 0, 1) := by decide +kernel
theorem dJ6_bitCount_0f7a4_36 : decode cJ6_bitCount_0f7a4 36 = .ok (.bipush 8, 2) := by decide +kernel
theorem dJ6_bitCount_0f7a4_38 : decode cJ6_bitCount_0f7a4 38 = .ok (.iushr, 1) := by decide +kernel
theorem dJ6_bitCount_0f7a4_39 : decode cJ6_bitCount_0f7a4 39 = .ok (.iadd, 1) := by decide +kernel
theorem dJ6_bitCount_0f7a4_40 : decode cJ6_bitCount_0f7a4 40 = .ok (.istore_n 0, 1) := by decide +kernel
theorem dJ6_bitCount_0f7a4_41 : decode cJ6_bitCount_0f7a4 41 = .ok (.iload_n 0, 1) := by decide +kernel
theorem dJ6_bitCount_0f7a4_42 : decode cJ6_bitCount_0f7a4 42 = .ok (.iload_n 0, 1) := by decide +kernel
theorem dJ6_bitCount_0f7a4_43 : decode cJ6_bitCount_0f7a4 43 = .ok (.bipush 16, 2) := by decide +kernel
theorem dJ6_bitCount_0f7a4_45 : decode cJ6_bitCount_0f7a4 45 = .ok (.iushr, 1) := by decide +kernel
theorem dJ6_bitCount_0f7a4_46 : decode cJ6_bitCount_0f7a4 46 = .ok (.iadd, 1) := by decide +kernel
theorem dJ6_bitCount_0f7a4_47 : decode cJ6_bitCount_0f7a4 47 = .ok (.istore_n 0, 1) := by decide +kernel
theorem dJ6_bitCount_0f7a4_48 : decode cJ6_bitCount_0f7a4 48 = .ok (.iload_n 0, 1) := by decide +kernel
theorem dJ6_bitCount_0f7a4_49 : decode cJ6_bitCount_0f7a4 49 = .ok (.bipush 63, 2) := by decide +kernel
theorem dJ6_bitCount_0f7a4_51 : decode cJ6_bitCount_0f7a4 51 = .ok (.iand, 1) := by decide +kernel
theorem dJ6_bitCount_0f7a4_52 : decode cJ6_bitCount_0f7a4 52 = .ok (.ireturn, 1) := by decide +kernel
theorem dJ9_max_7cf53_0 : decode cJ9_max_7cf53 0 = .ok (.iload_n 0, 1) := by decide +kernel
theorem dJ9_max_7cf53_1 : decode cJ9_max_7cf53 1 = .ok (.iload_n 1, 1) := by decide +kernel
theorem dJ9_max_7cf53_2 : decode cJ9_max_7cf53 2 = .ok (.if_icmp .lt 7, 3) := by decide +kernel
theorem dJ9_max_7cf53_5 : decode cJ9_max_7cf53 5 = .ok (.iload_n 0, 1) := by decide +kernel
theorem dJ9_max_7cf53_6 : decode cJ9_max_7cf53 6 = .ok (.goto 4, 3) := by decide +kernel
theorem dJ9_max_7cf53_9 : decode cJ9_max_7cf53 9 = .ok (.iload_n 1, 1) := by decide +kernel
theorem dJ9_max_7cf53_10 : decode cJ9_max_7cf53 10 = .ok (.ireturn, 1) := by decide +kernel
set_option maxRecDepth 20000 in
theorem ggL_begin_X6_begin : GoodIn wsL_begin wsX6_begin := goodIn_ca (goodIn_r _ [6, 7, 8, 9, 10, 11, 12, 13, 14, 15, 16, 17, 18, 19, 20, 21, 22, 23, 24, 25, 26, 27, 28, 29, 30, 31, 32, 33, 34, 35, 36, 37, 38, 39, 40, 41, 42, 43, 44, 45, 46, 47, 48, 49, 50, 51, 52, 53, 54, 55, 56, 57, 58, 59, 60, 61, 62, 63, 64, 65, 66, 67, 68, 69, 70, 71, 72, 73, 74, 75, 76, 77, 78, 79, 80, 81, 82, 83, 84, 85, 86, 87, 88, 89, 90, 91, 92, 93, 94, 95, 96, 97, 98, 99, 100] (by decide +kernel) (by decide +kernel)) (goodIn_sub (fun _ h => List.mem_cons_of_mem _ (List.mem_append_right _ h)) (by decide +kernel))
set_option maxRecDepth 20000 in
theorem gL_begin_X6_begin : GoodIn wsL_begin (wsV RL 7 RX6 yX6_begin wsX6_begin) := goodIn_app (goodIn_of _ (by decide +kernel)) ggL_begin_X6_begin
theorem dL_begin_0 : decode cL_begin 0 = .ok (.aload_n 2, 1) := by decide +kernel
theorem dL_begin_1 : decode cL_begin 1 = .ok (.iconst 0, 1) := by decide +kernel
theorem dL_begin_2 : decode cL_begin 2 = .ok (.aload_n 0, 1) := by decide +kernel
theorem dL_begin_3 : decode cL_begin 3 = .ok (.iload_n 1, 1) := by decide +kernel
theorem dL_begin_4 : decode cL_begin 4 = .ok (.invokevirtual 7, 3) := by decide +kernel
theorem dL_begin_7 : decode cL_begin 7 = .ok (.i2l, 1) := by decide +kernel
theorem dL_begin_8 : decode cL_begin 8 = .ok (.lastore, 1) := by decide +kernel
theorem dL_begin_9 : decode cL_begin 9 = .ok (.goto 6, 3) := by decide +kernel
theorem dL_begin_12 : decode cL_begin 12 = .ok (.astore_n 3, 1) := by decide +kernel
theorem dL_begin_13 : decode cL_begin 13 = .ok (.iconst 1, 1) := by decide +kernel
theorem dL_begin_14 : decode cL_begin 14 = .ok (.ireturn, 1) := by decide +kernel
theorem dL_begin_15 : decode cL_begin 15 = .ok (.iconst 0, 1) := by decide +kernel
theorem dL_begin_16 : decode cL_begin 16 = .ok (.ireturn, 1) := by decide +kernel
set_option maxRecDepth 20000 in
theorem ggL_addLine_X6_addLine : GoodIn wsL_addLine wsX6_addLine := goodIn_ca (goodIn_ca (goodIn_r _ [7, 8, 9, 10, 11, 12, 13, 14, 15, 16, 17, 18, 19, 20, 21, 22, 23, 24, 25, 26, 27, 28, 29, 30, 31, 32, 33, 34, 35, 36, 37, 38, 39, 40, 41, 42, 43, 44, 45, 46, 47, 48, 49, 50, 51, 52, 53, 54, 55, 56, 57, 58, 59, 60, 61, 62, 63, 64, 65, 66, 67, 68, 69, 70, 71, 72, 73, 74, 75, 76, 77, 78, 79, 80, 81, 82, 83, 84, 85, 86, 87, 88, 89, 90, 91, 92, 93, 94, 95, 96, 97, 98, 99, 100, 101, 102] (by decide +kernel) (by decide +kernel)) (goodIn_sub (fun _ h => List.mem_cons_of_mem _ (List.mem_append_left _ (List.mem_append_right _ h))) (by decide +kernel))) (goodIn_sub (fun _ h => List.mem_cons_of_mem _ (List.mem_append_right _ h)) (by decide +kernel))
set_option maxRecDepth 20000 in
theorem gL_addLine_X6_addLine : GoodIn wsL_addLine (wsV RL 15 RX6 yX6_addLine wsX6_addLine) := goodIn_app (goodIn_of _ (by decide +kernel)) ggL_addLine_X6_addLine
theorem dL_addLine_0 : decode cL_addLine 0 = .ok (.aload_n 2, 1) := by decide +kernel
theorem dL_addLine_1 : decode cL_addLine 1 = .ok (.iconst 0, 1) := by decide +kernel
theorem dL_addLine_2 : decode cL_addLine 2 = .ok (.aload_n 0, 1) := by decide +kernel
theorem dL_addLine_3 : decode cL_addLine 3 = .ok (.iload_n 1, 1) := by decide +kernel
theorem dL_addLine_4 : decode cL_addLine 4 = .ok (.invokevirtual 15, 3) := by decide +kernel
theorem dL_addLine_7 : decode cL_addLine 7 = .ok (.i2l, 1) := by decide +kernel
theorem dL_addLine_8 : decode cL_addLine 8 = .ok (.lastore, 1) := by decide +kernel
theorem dL_addLine_9 : decode cL_addLine 9 = .ok (.goto 9, 3) := by decide +kernel
theorem dL_addLine_12 : decode cL_addLine 12 = .ok (.astore_n 3, 1) := by decide +kernel
theorem dL_addLine_13 : decode cL_addLine 13 = .ok (.iconst 1, 1) := by decide +kernel
theorem dL_addLine_14 : decode cL_addLine 14 = .ok (.ireturn, 1) := by decide +kernel
theorem dL_addLine_15 : decode cL_addLine 15 = .ok (.astore_n 3, 1) := by decide +kernel
theorem dL_addLine_16 : decode cL_addLine 16 = .ok (.iconst 2, 1) := by decide +kernel
theorem dL_addLine_17 : decode cL_addLine 17 = .ok (.ireturn, 1) := by decide +kernel
theorem dL_addLine_18 : decode cL_addLine 18 = .ok (.iconst 0, 1) := by decide +kernel
theorem dL_addLine_19 : decode cL_addLine 19 = .ok (.ireturn, 1) := by decide +kernel
set_option maxRecDepth 20000 in
theorem ggL_removeLine_X6_removeLine : GoodIn wsL_removeLine wsX6_removeLine := goodIn_ca (goodIn_r _ [6, 7, 8, 9, 10, 11, 12, 13, 14, 15, 16, 17, 18, 19, 20, 21, 22, 23, 24, 25, 26, 27, 28, 29, 30, 31, 32, 33, 34, 35, 36, 37, 38, 39, 40, 41, 42, 43, 44, 45, 46, 47, 48, 49, 50, 51, 52, 53, 54, 55, 56, 57, 58, 59, 60, 61, 62, 63, 64, 65, 66, 67, 68, 69, 70, 71, 72, 73, 74, 75, 76, 77, 78, 79, 80, 81, 82, 83, 84, 85, 86, 87, 88, 89, 90, 91, 92, 93, 94, 95, 96, 97, 98, 99, 100, 101, 102, 103] (by decide +kernel) (by decide +kernel)) (goodIn_sub (fun _ h => List.mem_cons_of_mem _ (List.mem_append_right _ h)) (by decide +kernel))
set_option maxRecDepth 20000 in
theorem gL_removeLine_X6_removeLine : GoodIn wsL_removeLine (wsV RL 20 RX6 yX6_removeLine wsX6_removeLine) := goodIn_app (goodIn_of _ (by decide +kernel)) ggL_removeLine_X6_removeLine
theorem dL_removeLine_0 : decode cL_removeLine 0 = .ok (.aload_n 2, 1) := by decide +kernel
theorem dL_removeLine_1 : decode cL_removeLine 1 = .ok (.iconst 0, 1) := by decide +kernel
theorem dL_removeLine_2 : decode cL_removeLine 2 = .ok (.aload_n 0, 1) := by decide +kernel
theorem dL_removeLine_3 : decode cL_removeLine 3 = .ok (.iload_n 1, 1) := by decide +kernel
theorem dL_removeLine_4 : decode cL_removeLine 4 = .ok (.invokevirtual 20, 3) := by decide +kernel
theorem dL_removeLine_7 : decode cL_removeLine 7 = .ok (.i2l, 1) := by decide +kernel
theorem dL_removeLine_8 : decode cL_removeLine 8 = .ok (.lastore, 1) := by decide +kernel
theorem dL_removeLine_9 : decode cL_removeLine 9 = .ok (.goto 6, 3) := by decide +kernel
theorem dL_removeLine_12 : decode cL_removeLine 12 = .ok (.astore_n 3, 1) := by decide +kernel
theorem dL_removeLine_13 : decode cL_removeLine 13 = .ok (.iconst 1, 1) := by decide +kernel
theorem dL_removeLine_14 : decode cL_removeLine 14 = .ok (.ireturn, 1) := by decide +kernel
theorem dL_removeLine_15 : decode cL_removeLine 15 = .ok (.iconst 0, 1) := by decide +kernel
theorem dL_removeLine_16 : decode cL_removeLine 16 = .ok (.ireturn, 1) := by decide +kernel
set_option maxRecDepth 20000 in
theorem ggL_move_X6_move : GoodIn wsL_move wsX6_move := goodIn_ca (goodIn_ca (goodIn_r _ [7, 8, 9, 10, 11, 12, 13, 14, 15, 16, 17, 18, 19, 20, 21, 22, 23, 24, 25, 26, 27, 28, 29, 30, 31, 32, 33, 34, 35, 36, 37, 38, 39, 40, 41, 42, 43, 44, 45, 46, 47, 48, 49, 50, 51, 52, 53, 54, 55, 56, 57, 58, 59, 60, 61, 62, 63, 64, 65, 66, 67, 68, 69, 70, 71, 72, 73, 74, 75, 76, 77, 78, 79, 80, 81, 82, 83, 84, 85, 86, 87, 88, 89, 90, 91, 92, 93, 94, 95, 96, 97, 98, 99, 100, 101, 102, 6, 103, 104, 105, 106, 107, 108, 109, 110, 111, 112, 113, 114, 115, 116, 117, 118, 119, 120, 121, 122, 123, 124, 125, 126, 127, 128, 129, 130, 131, 132, 133, 134, 135, 136, 137, 138, 139, 140, 141, 142, 143, 144, 145, 146, 147, 148, 149, 150, 151, 152, 153, 154, 155, 156, 157, 158, 159, 160, 161, 162, 163, 164, 165, 166, 167, 168, 169, 170, 171, 172, 173, 174, 175, 176, 177, 178, 179, 180, 181, 182, 183, 184, 185, 186, 187, 188, 189, 190] (by decide +kernel) (by decide +kernel)) (goodIn_sub (fun _ h => List.mem_cons_of_mem _ (List.mem_append_left _ (List.mem_append_right _ h))) (by decide +kernel))) (goodIn_sub (fun _ h => List.mem_cons_of_mem _ (List.mem_append_right _ h)) (by decide +kernel))
set_option maxRecDepth 20000 in
theorem gL_move_X6_move : GoodIn wsL_move (wsV RL 25 RX6 yX6_move wsX6_move) := goodIn_app (goodIn_of _ (by decide +kernel)) ggL_move_X6_move
theorem dL_move_0 : decode cL_move 0 = .ok (.aload_n 2, 1) := by decide +kernel
theorem dL_move_1 : decode cL_move 1 = .ok (.iconst 0, 1) := by decide +kernel
theorem dL_move_2 : decode cL_move 2 = .ok (.aload_n 0, 1) := by decide +kernel
theorem dL_move_3 : decode cL_move 3 = .ok (.iload_n 1, 1) := by decide +kernel
theorem dL_move_4 : decode cL_move 4 = .ok (.invokevirtual 25, 3) := by decide +kernel
theorem dL_move_7 : decode cL_move 7 = .ok (.i2l, 1) := by decide +kernel
theorem dL_move_8 : decode cL_move 8 = .ok (.lastore, 1) := by decide +kernel
theorem dL_move_9 : decode cL_move 9 = .ok (.goto 9, 3) := by decide +kernel
theorem dL_move_12 : decode cL_move 12 = .ok (.astore_n 3, 1) := by decide +kernel
theorem dL_move_13 : decode cL_move 13 = .ok (.iconst 1, 1) := by decide +kernel
theorem dL_move_14 : decode cL_move 14 = .ok (.ireturn, 1) := by decide +kernel
theorem dL_move_15 : decode cL_move 15 = .ok (.astore_n 3, 1) := by decide +kernel
theorem dL_move_16 : decode cL_move 16 = .ok (.iconst 2, 1) := by decide +kernel
theorem dL_move_17 : decode cL_move 17 = .ok (.ireturn, 1) := by decide +kernel
theorem dL_move_18 : decode cL_move 18 = .ok (.iconst 0, 1) := by decide +kernel
theorem dL_move_19 : decode cL_move 19 = .ok (.ireturn, 1) := by decide +kernel
set_option maxRecDepth 20000 in
theorem ggL_skip_X6_skip : GoodIn wsL_skip wsX6_skip := goodIn_ca (goodIn_r _ [6, 7, 8, 9, 10, 11, 12, 13, 14, 15, 16, 17, 18, 19, 20, 21, 22, 23, 24, 25, 26, 27, 28, 29, 30, 31, 32, 33, 34, 35, 36, 37, 38, 39, 40, 41, 42, 43, 44, 45, 46, 47, 48, 49, 50, 51, 52, 53, 54, 55, 56, 57, 58, 59, 60, 61, 62, 63, 64, 65, 66, 67, 68, 69, 70, 71, 72, 73, 74, 75, 76, 77, 78, 79, 80, 81, 82, 83, 84, 85, 86, 87, 88, 89, 90, 91, 92, 93, 94, 95, 96, 97, 98, 99, 100, 101, 102, 103, 104, 105, 106, 107, 108, 109, 110, 111, 112, 113, 114] (by decide +kernel) (by decide +kernel)) (goodIn_sub (fun _ h => List.mem_cons_of_mem _ (List.mem_append_right _ h)) (by decide +kernel))
set_option maxRecDepth 20000 in
theorem gL_skip_X6_skip : GoodIn wsL_skip (wsV RL 28 RX6 yX6_skip wsX6_skip) := goodIn_app (goodIn_of _ (by decide +kernel)) ggL_skip_X6_skip
theorem dL_skip_0 : decode cL_skip 0 = .ok (.aload_n 1, 1) := by decide +kernel
theorem dL_skip_1 : decode cL_skip 1 = .ok (.iconst 0, 1) := by decide +kernel
theorem dL_skip_2 : decode cL_skip 2 = .ok (.aload_n 0, 1) := by decide +kernel
theorem dL_skip_3 : decode cL_skip 3 = .ok (.invokevirtual 28, 3) := by decide +kernel
theorem dL_skip_6 : decode cL_skip 6 = .ok (.i2l, 1) := by decide +kernel
theorem dL_skip_7 : decode cL_skip 7 = .ok (.lastore, 1) := by decide +kernel
theorem dL_skip_8 : decode cL_skip 8 = .ok (.goto 6, 3) := by decide +kernel
theorem dL_skip_11 : decode cL_skip 11 = .ok (.astore_n 2, 1) := by decide +kernel
theorem dL_skip_12 : decode cL_skip 12 = .ok (.iconst 1, 1) := by decide +kernel
theorem dL_skip_13 : decode cL_skip 13 = .ok (.ireturn, 1) := by decide +kernel
theorem dL_skip_14 : decode cL_skip 14 = .ok (.iconst 0, 1) := by decide +kernel
theorem dL_skip_15 : decode cL_skip 15 = .ok (.ireturn, 1) := by decide +kernel
set_option maxRecDepth 20000 in
theorem ggL_play_X6_play : GoodIn wsL_play wsX6_play := goodIn_ca (goodIn_ca (goodIn_r _ [7, 8, 9, 10, 11, 12, 13, 14, 15, 6, 16, 17, 18, 19, 20, 21, 22, 23, 24, 25, 26, 27, 28, 29, 30, 31, 32, 33, 34, 35, 36, 37, 38, 39, 40, 41, 42, 43, 44, 45, 46, 47, 48, 49, 50, 51, 52, 53, 54, 55, 56, 57, 58, 59, 60, 61, 62, 63, 64, 65, 66, 67, 68, 69, 70, 71, 72, 73, 74, 75, 76, 77, 78, 79, 80, 81, 82, 83, 84, 85, 86, 87, 88, 89, 90, 91, 92, 93, 94, 95, 96, 97, 98, 99, 100, 101, 102, 103, 104, 105, 106, 107, 108, 109, 110, 111, 112, 113, 114, 115, 116, 117, 118, 119, 120, 121, 122, 123, 124, 125, 126, 127, 128, 129, 130, 131, 132, 133, 134, 135, 136, 137, 138, 139, 140, 141, 142, 143, 144, 145, 146, 147, 148, 149, 150, 151, 152, 153, 154, 155, 156, 157, 158, 159, 160, 161, 162, 163, 164, 165, 166, 167, 168, 169, 170, 171, 172, 173, 174, 175, 176, 177, 178, 179, 180, 181, 182, 183, 184, 185, 186, 187, 188, 189, 190, 191, 192, 193, 194, 195, 196, 197, 198, 199, 200, 201, 202, 203, 204, 205, 206, 207, 208, 209, 210, 211, 212, 213, 214, 215, 216, 217, 218, 219, 220, 221, 222, 223, 224, 225, 226, 227, 228, 229, 230, 231, 232, 233, 234, 235, 236, 237, 238, 239, 240, 241, 242, 243, 244, 245, 246, 247, 248, 249, 250, 251, 252, 253, 254, 255, 256, 257, 258, 259, 260, 261, 262, 263, 264, 265, 266, 267, 268, 269, 270, 271, 272] (by decide +kernel) (by decide +kernel)) (goodIn_sub (fun _ h => List.mem_cons_of_mem _ (List.mem_append_left _ (List.mem_append_right _ h))) (by decide +kernel))) (goodIn_sub (fun _ h => List.mem_cons_of_mem _ (List.mem_append_right _ h)) (by decide +kernel))
set_option maxRecDepth 20000 in
theorem gL_play_X6_play : GoodIn wsL_play (wsV RL 32 RX6 yX6_play wsX6_play) := goodIn_app (goodIn_of _ (by decide +kernel)) ggL_play_X6_play
theorem dL_play_0 : decode cL_play 0 = .ok (.aload 4, 2) := by decide +kernel
theorem dL_play_2 : decode cL_play 2 = .ok (.iconst 0, 1) := by decide +kernel
theorem dL_play_3 : decode cL_play 3 = .ok (.aload_n 0, 1) := by decide +kernel
theorem dL_play_4 : decode cL_play 4 = .ok (.iload_n 1, 1) := by decide +kernel
theorem dL_play_5 : decode cL_play 5 = .ok (.iload_n 2, 1) := by decide +kernel
theorem dL_play_6 : decode cL_play 6 = .ok (.iload_n 3, 1) := by decide +kernel
theorem dL_play_7 : decode cL_play 7 = .ok (.invokevirtual 32, 3) := by decide +kernel
theorem dL_play_10 : decode cL_play 10 = .ok (.i2l, 1) := by decide +kernel
theorem dL_play_11 : decode cL_play 11 = .ok (.lastore, 1) := by decide +kernel
theorem dL_play_12 : decode cL_play 12 = .ok (.goto 11, 3) := by decide +kernel
theorem dL_play_15 : decode cL_play 15 = .ok (.astore 5, 2) := by decide +kernel
theorem dL_play_17 : decode cL_play 17 = .ok (.iconst 1, 1) := by decide +kernel
theorem dL_play_18 : decode cL_play 18 = .ok (.ireturn, 1) := by decide +kernel
theorem dL_play_19 : decode cL_play 19 = .ok (.astore 5, 2) := by decide +kernel
theorem dL_play_21 : decode cL_play 21 = .ok (.iconst 2, 1) := by decide +kernel
theorem dL_play_22 : decode cL_play 22 = .ok (.ireturn, 1) := by decide +kernel
theorem dL_play_23 : decode cL_play 23 = .ok (.iconst 0, 1) := by decide +kernel
theorem dL_play_24 : decode cL_play 24 = .ok (.ireturn, 1) := by decide +kernel
set_option maxRecDepth 20000 in
theorem ggL_append_X6_append : GoodIn wsL_append wsX6_append := goodIn_ca (goodIn_ca (goodIn_r _ [7, 8, 9, 10, 11, 12, 13, 14, 15, 16, 17, 18, 19, 20, 21, 22, 23, 24, 25, 26, 27, 28, 29] (by decide +kernel) (by decide +kernel)) (goodIn_sub (fun _ h => List.mem_cons_of_mem _ (List.mem_append_left _ (List.mem_append_right _ h))) (by decide +kernel))) (goodIn_sub (fun _ h => List.mem_cons_of_mem _ (List.mem_append_right _ h)) (by decide +kernel))
set_option maxRecDepth 20000 in
theorem gL_append_X6_append : GoodIn wsL_append (wsV RL 36 RX6 yX6_append wsX6_append) := goodIn_app (goodIn_of _ (by decide +kernel)) ggL_append_X6_append
theorem dL_append_0 : decode cL_append 0 = .ok (.aload_n 2, 1) := by decide +kernel
theorem dL_append_1 : decode cL_append 1 = .ok (.iconst 0, 1) := by decide +kernel
theorem dL_append_2 : decode cL_append 2 = .ok (.aload_n 0, 1) := by decide +kernel
theorem dL_append_3 : decode cL_append 3 = .ok (.iload_n 1, 1) := by decide +kernel
theorem dL_append_4 : decode cL_append 4 = .ok (.invokevirtual 36, 3) := by decide +kernel
theorem dL_append_7 : decode cL_append 7 = .ok (.i2l, 1) := by decide +kernel
theorem dL_append_8 : decode cL_append 8 = .ok (.lastore, 1) := by decide +kernel
theorem dL_append_9 : decode cL_append 9 = .ok (.goto 9, 3) := by decide +kernel
theorem dL_append_12 : decode cL_append 12 = .ok (.astore_n 3, 1) := by decide +kernel
theorem dL_append_13 : decode cL_append 13 = .ok (.iconst 1, 1) := by decide +kernel
theorem dL_append_14 : decode cL_append 14 = .ok (.ireturn, 1) := by decide +kernel
theorem dL_append_15 : decode cL_append 15 = .ok (.astore_n 3, 1) := by decide +kernel
theorem dL_append_16 : decode cL_append 16 = .ok (.iconst 2, 1) := by decide +kernel
theorem dL_append_17 : decode cL_append 17 = .ok (.ireturn, 1) := by decide +kernel
theorem dL_append_18 : decode cL_append 18 = .ok (.iconst 0, 1) := by decide +kernel
theorem dL_append_19 : decode cL_append 19 = .ok (.ireturn, 1) := by decide +kernel
set_option maxRecDepth 20000 in
theorem ggL_read_X6_read : GoodIn wsL_read wsX6_read := goodIn_ca (goodIn_ca (goodIn_r _ [7, 8, 9, 10, 11, 12, 13, 14, 15, 16, 17, 18, 19, 20, 21, 22, 23, 24, 25, 26, 27, 28, 29, 30, 31, 32, 33, 34, 35, 36, 37, 38, 39, 40, 41, 42, 43, 44, 45, 46, 47, 48, 49, 50, 51, 52, 53, 54, 55, 56, 57, 58, 59, 60, 61, 62, 63, 64, 65, 66, 67, 68, 69, 70, 71, 72, 73, 74, 75, 76, 77, 78, 79, 80, 81, 82, 83, 84, 85, 86, 87, 88, 89, 90, 91, 92, 93, 94, 95, 96, 97, 98, 99, 100, 101, 102, 103, 104, 105, 106, 107, 108, 109, 110, 111, 112, 113, 114, 115, 116, 117, 118, 119, 120, 121, 122] (by decide +kernel) (by decide +kernel)) (goodIn_sub (fun _ h => List.mem_cons_of_mem _ (List.mem_append_left _ (List.mem_append_right _ h))) (by decide +kernel))) (goodIn_sub (fun _ h => List.mem_cons_of_mem _ (List.mem_append_right _ h)) (by decide +kernel))
set_option maxRecDepth 20000 in
theorem gL_read_X6_read : GoodIn wsL_read (wsV RL 39 RX6 yX6_read wsX6_read) := goodIn_app (goodIn_of _ (by decide +kernel)) ggL_read_X6_read
theorem dL_read_0 : decode cL_read 0 = .ok (.aload_n 1, 1) := by decide +kernel
theorem dL_read_1 : decode cL_read 1 = .ok (.iconst 0, 1) := by decide +kernel
theorem dL_read_2 : decode cL_read 2 = .ok (.aload_n 0, 1) := by decide +kernel
theorem dL_read_3 : decode cL_read 3 = .ok (.invokevirtual 39, 3) := by decide +kernel
theorem dL_read_6 : decode cL_read 6 = .ok (.i2l, 1) := by decide +kernel
theorem dL_read_7 : decode cL_read 7 = .ok (.lastore, 1) := by decide +kernel
theorem dL_read_8 : decode cL_read 8 = .ok (.goto 9, 3) := by decide +kernel
theorem dL_read_11 : decode cL_read 11 = .ok (.astore_n 2, 1) := by decide +kernel
theorem dL_read_12 : decode cL_read 12 = .ok (.iconst 1, 1) := by decide +kernel
theorem dL_read_13 : decode cL_read 13 = .ok (.ireturn, 1) := by decide +kernel
theorem dL_read_14 : decode cL_read 14 = .ok (.astore_n 2, 1) := by decide +kernel
theorem dL_read_15 : decode cL_read 15 = .ok (.iconst 2, 1) := by decide +kernel
theorem dL_read_16 : decode cL_read 16 = .ok (.ireturn, 1) := by decide +kernel
theorem dL_read_17 : decode cL_read 17 = .ok (.iconst 0, 1) := by decide +kernel
theorem dL_read_18 : decode cL_read 18 = .ok (.ireturn, 1) := by decide +kernel
set_option maxRecDepth 20000 in
theorem ggL_take_X6_take : GoodIn wsL_take wsX6_take := goodIn_ca (goodIn_r _ [6, 7, 8, 9, 10, 11, 12, 13, 14, 15, 16, 17, 18, 5, 19, 20, 21, 22, 23, 24, 25, 26, 27, 28, 29, 30, 31, 32, 33, 34, 35, 36, 37, 38, 39, 40, 41, 42, 43, 44, 45, 46, 47, 48, 49, 50, 51, 52, 53, 54, 55, 56, 57, 58, 59, 60, 61, 62, 63, 64, 65, 66, 67, 68, 69, 70, 71, 72, 73, 74, 75, 76, 77, 78] (by decide +kernel) (by decide +kernel)) (goodIn_sub (fun _ h => List.mem_cons_of_mem _ (List.mem_append_right _ h)) (by decide +kernel))
set_option maxRecDepth 20000 in
theorem gL_take_X6_take : GoodIn wsL_take (wsV RL 42 RX6 yX6_take wsX6_take) := goodIn_app (goodIn_of _ (by decide +kernel)) ggL_take_X6_take
theorem dL_take_0 : decode cL_take 0 = .ok (.aload_n 2, 1) := by decide +kernel
theorem dL_take_1 : decode cL_take 1 = .ok (.iconst 0, 1) := by decide +kernel
theorem dL_take_2 : decode cL_take 2 = .ok (.aload_n 0, 1) := by decide +kernel
theorem dL_take_3 : decode cL_take 3 = .ok (.iload_n 1, 1) := by decide +kernel
theorem dL_take_4 : decode cL_take 4 = .ok (.invokevirtual 42, 3) := by decide +kernel
theorem dL_take_7 : decode cL_take 7 = .ok (.i2l, 1) := by decide +kernel
theorem dL_take_8 : decode cL_take 8 = .ok (.lastore, 1) := by decide +kernel
theorem dL_take_9 : decode cL_take 9 = .ok (.goto 6, 3) := by decide +kernel
theorem dL_take_12 : decode cL_take 12 = .ok (.astore_n 3, 1) := by decide +kernel
theorem dL_take_13 : decode cL_take 13 = .ok (.iconst 1, 1) := by decide +kernel
theorem dL_take_14 : decode cL_take 14 = .ok (.ireturn, 1) := by decide +kernel
theorem dL_take_15 : decode cL_take 15 = .ok (.iconst 0, 1) := by decide +kernel
theorem dL_take_16 : decode cL_take 16 = .ok (.ireturn, 1) := by decide +kernel
set_option maxRecDepth 20000 in
theorem ggL_restore_X6_restore : GoodIn wsL_restore wsX6_restore := goodIn_ca (goodIn_ca (goodIn_r _ [7, 8, 9, 10, 11, 12, 13, 14, 15, 16, 17, 18, 19, 6, 20, 21, 22, 23, 24, 25, 26, 27, 28, 29, 30, 31, 32, 33, 34, 35, 36, 37, 38, 39, 40, 41, 42, 43, 44, 45, 46, 47, 48, 49, 50, 51, 52, 53, 54, 55, 56, 57, 58, 59, 60, 61, 62, 63, 64, 65, 66, 67, 68, 69, 70, 71, 72, 73, 74, 75, 76, 77, 78, 79, 80, 81, 82, 83, 84, 85, 86, 87, 88, 89, 90, 91, 92, 93, 94, 95, 96, 97, 98, 99, 100] (by decide +kernel) (by decide +kernel)) (goodIn_sub (fun _ h => List.mem_cons_of_mem _ (List.mem_append_left _ (List.mem_append_right _ h))) (by decide +kernel))) (goodIn_sub (fun _ h => List.mem_cons_of_mem _ (List.mem_append_right _ h)) (by decide +kernel))
set_option maxRecDepth 20000 in
theorem gL_restore_X6_restore : GoodIn wsL_restore (wsV RL 45 RX6 yX6_restore wsX6_restore) := goodIn_app (goodIn_of _ (by decide +kernel)) ggL_restore_X6_restore
theorem dL_restore_0 : decode cL_restore 0 = .ok (.aload_n 2, 1) := by decide +kernel
theorem dL_restore_1 : decode cL_restore 1 = .ok (.iconst 0, 1) := by decide +kernel
theorem dL_restore_2 : decode cL_restore 2 = .ok (.aload_n 0, 1) := by decide +kernel
theorem dL_restore_3 : decode cL_restore 3 = .ok (.iload_n 1, 1) := by decide +kernel
theorem dL_restore_4 : decode cL_restore 4 = .ok (.invokevirtual 45, 3) := by decide +kernel
theorem dL_restore_7 : decode cL_restore 7 = .ok (.i2l, 1) := by decide +kernel
theorem dL_restore_8 : decode cL_restore 8 = .ok (.lastore, 1) := by decide +kernel
theorem dL_restore_9 : decode cL_restore 9 = .ok (.goto 9, 3) := by decide +kernel
theorem dL_restore_12 : decode cL_restore 12 = .ok (.astore_n 3, 1) := by decide +kernel
theorem dL_restore_13 : decode cL_restore 13 = .ok (.iconst 1, 1) := by decide +kernel
theorem dL_restore_14 : decode cL_restore 14 = .ok (.ireturn, 1) := by decide +kernel
theorem dL_restore_15 : decode cL_restore 15 = .ok (.astore_n 3, 1) := by decide +kernel
theorem dL_restore_16 : decode cL_restore 16 = .ok (.iconst 2, 1) := by decide +kernel
theorem dL_restore_17 : decode cL_restore 17 = .ok (.ireturn, 1) := by decide +kernel
theorem dL_restore_18 : decode cL_restore 18 = .ok (.iconst 0, 1) := by decide +kernel
theorem dL_restore_19 : decode cL_restore 19 = .ok (.ireturn, 1) := by decide +kernel
set_option maxRecDepth 20000 in
theorem ggL_undo_X6_undo : GoodIn wsL_undo wsX6_undo := goodIn_ca (goodIn_r _ [6, 7, 8, 9, 10, 11, 12, 13, 14, 15, 16, 17, 18, 19, 20, 21, 22, 23, 24, 25, 26, 27, 28, 29, 30, 31, 32, 33, 34, 35, 36, 37, 38, 39, 40, 41, 42, 43, 44, 45, 46, 47, 48, 49, 50, 51, 52, 53, 54, 55, 56, 57, 58, 59, 60, 61, 62, 63, 64, 65, 66, 67, 68, 69] (by decide +kernel) (by decide +kernel)) (goodIn_sub (fun _ h => List.mem_cons_of_mem _ (List.mem_append_right _ h)) (by decide +kernel))
set_option maxRecDepth 20000 in
theorem gL_undo_X6_undo : GoodIn wsL_undo (wsV RL 48 RX6 yX6_undo wsX6_undo) := goodIn_app (goodIn_of _ (by decide +kernel)) ggL_undo_X6_undo
theorem dL_undo_0 : decode cL_undo 0 = .ok (.aload_n 1, 1) := by decide +kernel
theorem dL_undo_1 : decode cL_undo 1 = .ok (.iconst 0, 1) := by decide +kernel
theorem dL_undo_2 : decode cL_undo 2 = .ok (.aload_n 0, 1) := by decide +kernel
theorem dL_undo_3 : decode cL_undo 3 = .ok (.invokevirtual 48, 3) := by decide +kernel
theorem dL_undo_6 : decode cL_undo 6 = .ok (.i2l, 1) := by decide +kernel
theorem dL_undo_7 : decode cL_undo 7 = .ok (.lastore, 1) := by decide +kernel
theorem dL_undo_8 : decode cL_undo 8 = .ok (.goto 6, 3) := by decide +kernel
theorem dL_undo_11 : decode cL_undo 11 = .ok (.astore_n 2, 1) := by decide +kernel
theorem dL_undo_12 : decode cL_undo 12 = .ok (.iconst 1, 1) := by decide +kernel
theorem dL_undo_13 : decode cL_undo 13 = .ok (.ireturn, 1) := by decide +kernel
theorem dL_undo_14 : decode cL_undo 14 = .ok (.iconst 0, 1) := by decide +kernel
theorem dL_undo_15 : decode cL_undo 15 = .ok (.ireturn, 1) := by decide +kernel
set_option maxRecDepth 20000 in
theorem ggL_line_X6_line : GoodIn wsL_line wsX6_line := goodIn_ca (goodIn_ca (goodIn_r _ [7, 8, 9, 10, 11, 12, 13, 14, 15, 16, 17, 18, 19, 20, 21, 22, 23, 24, 25, 26, 27, 28, 29, 30, 31, 32, 33, 34, 35, 36, 37, 38, 39, 40, 41, 42, 43, 44, 45, 46, 47, 48, 49, 50, 51, 52, 53, 54, 55, 56, 57, 58, 59, 60, 61, 62, 63, 64, 65, 66, 67, 68] (by decide +kernel) (by decide +kernel)) (goodIn_sub (fun _ h => List.mem_cons_of_mem _ (List.mem_append_left _ (List.mem_append_right _ h))) (by decide +kernel))) (goodIn_sub (fun _ h => List.mem_cons_of_mem _ (List.mem_append_right _ h)) (by decide +kernel))
set_option maxRecDepth 20000 in
theorem gL_line_X6_line : GoodIn wsL_line (wsV RL 51 RX6 yX6_line wsX6_line) := goodIn_app (goodIn_of _ (by decide +kernel)) ggL_line_X6_line
theorem dL_line_0 : decode cL_line 0 = .ok (.aload_n 3, 1) := by decide +kernel
theorem dL_line_1 : decode cL_line 1 = .ok (.iconst 0, 1) := by decide +kernel
theorem dL_line_2 : decode cL_line 2 = .ok (.aload_n 0, 1) := by decide +kernel
theorem dL_line_3 : decode cL_line 3 = .ok (.iload_n 1, 1) := by decide +kernel
theorem dL_line_4 : decode cL_line 4 = .ok (.iload_n 2, 1) := by decide +kernel
theorem dL_line_5 : decode cL_line 5 = .ok (.invokevirtual 51, 3) := by decide +kernel
theorem dL_line_8 : decode cL_line 8 = .ok (.i2l, 1) := by decide +kernel
theorem dL_line_9 : decode cL_line 9 = .ok (.lastore, 1) := by decide +kernel
theorem dL_line_10 : decode cL_line 10 = .ok (.goto 11, 3) := by decide +kernel
theorem dL_line_13 : decode cL_line 13 = .ok (.astore 4, 2) := by decide +kernel
theorem dL_line_15 : decode cL_line 15 = .ok (.iconst 1, 1) := by decide +kernel
theorem dL_line_16 : decode cL_line 16 = .ok (.ireturn, 1) := by decide +kernel
theorem dL_line_17 : decode cL_line 17 = .ok (.astore 4, 2) := by decide +kernel
theorem dL_line_19 : decode cL_line 19 = .ok (.iconst 2, 1) := by decide +kernel
theorem dL_line_20 : decode cL_line 20 = .ok (.ireturn, 1) := by decide +kernel
theorem dL_line_21 : decode cL_line 21 = .ok (.iconst 0, 1) := by decide +kernel
theorem dL_line_22 : decode cL_line 22 = .ok (.ireturn, 1) := by decide +kernel
set_option maxRecDepth 20000 in
theorem ggL_cell_X6_cell : GoodIn wsL_cell wsX6_cell := goodIn_ca (goodIn_ca (goodIn_r _ [7, 8, 9, 10, 11, 12, 13, 14, 15, 16, 17, 18, 19, 20, 21, 22, 23, 24, 25, 26, 27, 28, 29, 30, 31, 32, 33, 34, 35, 36, 37, 38, 39, 40, 41, 42, 43, 44, 45, 46, 47, 48, 49, 50, 51, 52, 53, 54, 55, 56, 57, 58, 59, 60, 6, 61, 62, 63, 64, 65, 66, 67, 68, 69, 70, 71, 72, 73, 74, 75, 76, 77, 78, 79, 80, 81, 82, 83, 84, 85, 86, 87, 88, 89, 90, 91, 92, 93, 94, 95, 96, 97, 98, 99, 100, 101, 102, 103, 104, 105, 106, 107, 108, 109, 110, 111, 112, 113, 114, 115, 116, 117, 118, 119, 120, 121, 122, 123, 124, 125, 126, 127, 128, 129, 130, 131, 132, 133, 134, 135, 136, 137, 138, 139, 140, 141, 142, 143, 144, 145, 146, 147, 148] (by decide +kernel) (by decide +kernel)) (goodIn_sub (fun _ h => List.mem_cons_of_mem _ (List.mem_append_left _ (List.mem_append_right _ h))) (by decide +kernel))) (goodIn_sub (fun _ h => List.mem_cons_of_mem _ (List.mem_append_right _ h)) (by decide +kernel))
set_option maxRecDepth 20000 in
theorem gL_cell_X6_cell : GoodIn wsL_cell (wsV RL 55 RX6 yX6_cell wsX6_cell) := goodIn_app (goodIn_of _ (by decide +kernel)) ggL_cell_X6_cell
theorem dL_cell_0 : decode cL_cell 0 = .ok (.aload_n 3, 1) := by decide +kernel
theorem dL_cell_1 : decode cL_cell 1 = .ok (.iconst 0, 1) := by decide +kernel
theorem dL_cell_2 : decode cL_cell 2 = .ok (.aload_n 0, 1) := by decide +kernel
theorem dL_cell_3 : decode cL_cell 3 = .ok (.iload_n 1, 1) := by decide +kernel
theorem dL_cell_4 : decode cL_cell 4 = .ok (.iload_n 2, 1) := by decide +kernel
theorem dL_cell_5 : decode cL_cell 5 = .ok (.invokevirtual 55, 3) := by decide +kernel
theorem dL_cell_8 : decode cL_cell 8 = .ok (.i2l, 1) := by decide +kernel
theorem dL_cell_9 : decode cL_cell 9 = .ok (.lastore, 1) := by decide +kernel
theorem dL_cell_10 : decode cL_cell 10 = .ok (.goto 11, 3) := by decide +kernel
theorem dL_cell_13 : decode cL_cell 13 = .ok (.astore 4, 2) := by decide +kernel
theorem dL_cell_15 : decode cL_cell 15 = .ok (.iconst 1, 1) := by decide +kernel
theorem dL_cell_16 : decode cL_cell 16 = .ok (.ireturn, 1) := by decide +kernel
theorem dL_cell_17 : decode cL_cell 17 = .ok (.astore 4, 2) := by decide +kernel
theorem dL_cell_19 : decode cL_cell 19 = .ok (.iconst 2, 1) := by decide +kernel
theorem dL_cell_20 : decode cL_cell 20 = .ok (.ireturn, 1) := by decide +kernel
theorem dL_cell_21 : decode cL_cell 21 = .ok (.iconst 0, 1) := by decide +kernel
theorem dL_cell_22 : decode cL_cell 22 = .ok (.ireturn, 1) := by decide +kernel
set_option maxRecDepth 20000 in
theorem ggL_reply_X6_reply : GoodIn wsL_reply wsX6_reply := goodIn_ca (goodIn_r _ [6, 7, 8, 9, 10, 11, 5, 12, 13, 14, 15, 16, 17, 18, 19, 20, 21, 22, 23, 24, 25, 26, 27, 28, 29, 30, 31, 32, 33, 34, 35, 36, 37, 38, 39, 40, 41, 42, 43, 44, 45, 46, 47, 48, 49, 50, 51, 52, 53, 54, 55, 56, 57, 58, 59, 60, 61, 62, 63, 64, 65, 66, 67, 68, 69, 70, 71, 72, 73, 74, 75, 76, 77, 78, 79, 80, 81, 82, 83, 84, 85, 86, 87, 88, 89, 90, 91, 92, 93, 94, 95, 96, 97, 98, 99, 100, 101, 102, 103, 104, 105, 106, 107, 108, 109, 110, 111, 112, 113, 114, 115, 116, 117, 118, 119, 120, 121, 122, 123, 124, 125, 126, 127, 128, 129, 130, 131, 132, 133, 134, 135, 136, 137, 138, 139, 140, 141, 142, 143, 144, 145, 146, 147, 148, 149, 150, 151, 152, 153, 154, 155, 156, 157, 158, 159, 160, 161, 162, 163, 164, 165] (by decide +kernel) (by decide +kernel)) (goodIn_sub (fun _ h => List.mem_cons_of_mem _ (List.mem_append_right _ h)) (by decide +kernel))
set_option maxRecDepth 20000 in
theorem gL_reply_X6_reply : GoodIn wsL_reply (wsV RL 58 RX6 yX6_reply wsX6_reply) := goodIn_app (goodIn_of _ (by decide +kernel)) ggL_reply_X6_reply
theorem dL_reply_0 : decode cL_reply 0 = .ok (.aload_n 2, 1) := by decide +kernel
theorem dL_reply_1 : decode cL_reply 1 = .ok (.iconst 0, 1) := by decide +kernel
theorem dL_reply_2 : decode cL_reply 2 = .ok (.aload_n 0, 1) := by decide +kernel
theorem dL_reply_3 : decode cL_reply 3 = .ok (.iload_n 1, 1) := by decide +kernel
theorem dL_reply_4 : decode cL_reply 4 = .ok (.invokevirtual 58, 3) := by decide +kernel
theorem dL_reply_7 : decode cL_reply 7 = .ok (.i2l, 1) := by decide +kernel
theorem dL_reply_8 : decode cL_reply 8 = .ok (.lastore, 1) := by decide +kernel
theorem dL_reply_9 : decode cL_reply 9 = .ok (.goto 6, 3) := by decide +kernel
theorem dL_reply_12 : decode cL_reply 12 = .ok (.astore_n 3, 1) := by decide +kernel
theorem dL_reply_13 : decode cL_reply 13 = .ok (.iconst 1, 1) := by decide +kernel
theorem dL_reply_14 : decode cL_reply 14 = .ok (.ireturn, 1) := by decide +kernel
theorem dL_reply_15 : decode cL_reply 15 = .ok (.iconst 0, 1) := by decide +kernel
theorem dL_reply_16 : decode cL_reply 16 = .ok (.ireturn, 1) := by decide +kernel
set_option maxRecDepth 20000 in
theorem ggL_solved_X6_solved : GoodIn wsL_solved wsX6_solved := goodIn_ca (goodIn_r _ [6, 7, 8, 9, 10, 11, 12, 13, 14, 15, 16, 17, 18, 19, 20, 21, 22, 23, 24, 25, 26, 27, 28, 29, 30, 31, 32, 33, 34, 35, 36, 37, 38, 39, 40, 41, 42, 43, 44, 45, 46, 47, 48, 49, 50, 51, 52, 53, 54, 55, 56, 57, 58, 59, 60, 61, 62, 63, 64, 65, 66, 67, 68, 69, 70, 71, 72, 73, 74, 75, 76, 77, 78, 79, 80, 81, 82, 83, 84, 85, 86, 87, 88, 89, 90, 91, 92, 93, 94, 95, 96, 97, 98, 99, 100, 101, 102, 103, 104, 105, 106, 107, 108, 109, 110, 111, 112, 113, 114, 115, 116, 117, 118, 119, 120, 121, 122, 123, 124, 125, 126, 127, 128, 129, 130, 131, 132, 133, 134, 135, 136, 137] (by decide +kernel) (by decide +kernel)) (goodIn_sub (fun _ h => List.mem_cons_of_mem _ (List.mem_append_right _ h)) (by decide +kernel))
set_option maxRecDepth 20000 in
theorem gL_solved_X6_solved : GoodIn wsL_solved (wsV RL 61 RX6 yX6_solved wsX6_solved) := goodIn_app (goodIn_of _ (by decide +kernel)) ggL_solved_X6_solved
theorem dL_solved_0 : decode cL_solved 0 = .ok (.aload_n 2, 1) := by decide +kernel
theorem dL_solved_1 : decode cL_solved 1 = .ok (.iconst 0, 1) := by decide +kernel
theorem dL_solved_2 : decode cL_solved 2 = .ok (.aload_n 0, 1) := by decide +kernel
theorem dL_solved_3 : decode cL_solved 3 = .ok (.iload_n 1, 1) := by decide +kernel
theorem dL_solved_4 : decode cL_solved 4 = .ok (.invokevirtual 61, 3) := by decide +kernel
theorem dL_solved_7 : decode cL_solved 7 = .ok (.i2l, 1) := by decide +kernel
theorem dL_solved_8 : decode cL_solved 8 = .ok (.lastore, 1) := by decide +kernel
theorem dL_solved_9 : decode cL_solved 9 = .ok (.goto 6, 3) := by decide +kernel
theorem dL_solved_12 : decode cL_solved 12 = .ok (.astore_n 3, 1) := by decide +kernel
theorem dL_solved_13 : decode cL_solved 13 = .ok (.iconst 1, 1) := by decide +kernel
theorem dL_solved_14 : decode cL_solved 14 = .ok (.ireturn, 1) := by decide +kernel
theorem dL_solved_15 : decode cL_solved 15 = .ok (.iconst 0, 1) := by decide +kernel
theorem dL_solved_16 : decode cL_solved 16 = .ok (.ireturn, 1) := by decide +kernel
set_option maxRecDepth 20000 in
theorem ggL_ifMoved_X6_ifMoved : GoodIn wsL_ifMoved wsX6_ifMoved := goodIn_ca (goodIn_r _ [6, 7, 8, 9, 10, 11, 12, 13, 14, 15, 16, 17, 18, 19, 20, 21, 22, 23, 24, 25, 26, 27, 28, 29, 30, 31, 32, 33, 34, 35, 36, 37, 38, 39, 40, 41, 42, 43, 44, 45, 46, 47, 48, 49, 50, 51, 52, 53, 54, 55, 56, 57, 58, 59, 60, 61, 62, 63, 64, 65, 66, 67, 68, 69, 70, 71, 72, 73, 74, 75, 76, 77, 78, 79, 80, 81, 82, 83, 84, 85, 86, 87, 88, 89, 90, 91, 92, 93, 94, 95, 96, 97, 98, 99, 100, 101, 102, 103, 104, 105, 106, 107, 108, 109, 110, 111, 112, 113, 114, 115, 116, 117, 118, 119, 120, 121, 122, 123, 124, 125, 126, 127, 128, 129, 130, 131, 132, 133, 134, 135, 136, 137, 138, 139, 140, 141, 142, 143, 144, 145, 146, 147, 148, 149, 150, 151, 152, 153, 154, 155, 156, 157, 158, 159, 160, 161] (by decide +kernel) (by decide +kernel)) (goodIn_sub (fun _ h => List.mem_cons_of_mem _ (List.mem_append_right _ h)) (by decide +kernel))
set_option maxRecDepth 20000 in
theorem gL_ifMoved_X6_ifMoved : GoodIn wsL_ifMoved (wsV RL 64 RX6 yX6_ifMoved wsX6_ifMoved) := goodIn_app (goodIn_of _ (by decide +kernel)) ggL_ifMoved_X6_ifMoved
theorem dL_ifMoved_0 : decode cL_ifMoved 0 = .ok (.aload_n 2, 1) := by decide +kernel
theorem dL_ifMoved_1 : decode cL_ifMoved 1 = .ok (.iconst 0, 1) := by decide +kernel
theorem dL_ifMoved_2 : decode cL_ifMoved 2 = .ok (.aload_n 0, 1) := by decide +kernel
theorem dL_ifMoved_3 : decode cL_ifMoved 3 = .ok (.iload_n 1, 1) := by decide +kernel
theorem dL_ifMoved_4 : decode cL_ifMoved 4 = .ok (.invokevirtual 64, 3) := by decide +kernel
theorem dL_ifMoved_7 : decode cL_ifMoved 7 = .ok (.i2l, 1) := by decide +kernel
theorem dL_ifMoved_8 : decode cL_ifMoved 8 = .ok (.lastore, 1) := by decide +kernel
theorem dL_ifMoved_9 : decode cL_ifMoved 9 = .ok (.goto 6, 3) := by decide +kernel
theorem dL_ifMoved_12 : decode cL_ifMoved 12 = .ok (.astore_n 3, 1) := by decide +kernel
theorem dL_ifMoved_13 : decode cL_ifMoved 13 = .ok (.iconst 1, 1) := by decide +kernel
theorem dL_ifMoved_14 : decode cL_ifMoved 14 = .ok (.ireturn, 1) := by decide +kernel
theorem dL_ifMoved_15 : decode cL_ifMoved 15 = .ok (.iconst 0, 1) := by decide +kernel
theorem dL_ifMoved_16 : decode cL_ifMoved 16 = .ok (.ireturn, 1) := by decide +kernel
set_option maxRecDepth 20000 in
theorem ggL_ifPlayed_X6_ifPlayed : GoodIn wsL_ifPlayed wsX6_ifPlayed := goodIn_ca (goodIn_r _ [6, 7, 8, 9, 10, 11, 12, 5, 13, 14, 15, 16, 17, 18, 19, 20, 21, 22, 23, 24, 25, 26, 27, 28, 29, 30, 31, 32, 33, 34, 35, 36, 37, 38, 39, 40, 41, 42, 43, 44, 45, 46, 47, 48, 49, 50, 51, 52, 53, 54, 55, 56, 57, 58, 59, 60, 61, 62, 63, 64, 65, 66, 67, 68, 69, 70, 71, 72, 73, 74, 75, 76, 77, 78, 79, 80, 81, 82, 83, 84, 85, 86, 87, 88, 89, 90, 91, 92, 93, 94, 95, 96, 97, 98, 99, 100, 101, 102, 103, 104, 105, 106, 107, 108, 109, 110, 111, 112, 113, 114, 115, 116, 117, 118, 119, 120, 121, 122, 123, 124, 125, 126, 127, 128, 129, 130, 131, 132, 133, 134, 135, 136, 137, 138, 139, 140, 141, 142, 143, 144, 145, 146, 147, 148, 149, 150, 151, 152, 153, 154, 155, 156, 157, 158, 159, 160, 161, 162, 163, 164, 165, 166, 167, 168, 169, 170, 171, 172, 173, 174, 175, 176, 177, 178, 179, 180, 181, 182, 183, 184, 185, 186, 187, 188, 189, 190, 191, 192, 193, 194, 195, 196, 197, 198, 199, 200, 201, 202, 203, 204, 205, 206, 207, 208, 209, 210, 211, 212, 213, 214, 215, 216, 217, 218, 219, 220, 221, 222, 223, 224, 225, 226, 227, 228, 229, 230, 231, 232, 233, 234, 235, 236, 237, 238, 239] (by decide +kernel) (by decide +kernel)) (goodIn_sub (fun _ h => List.mem_cons_of_mem _ (List.mem_append_right _ h)) (by decide +kernel))
set_option maxRecDepth 20000 in
theorem gL_ifPlayed_X6_ifPlayed : GoodIn wsL_ifPlayed (wsV RL 67 RX6 yX6_ifPlayed wsX6_ifPlayed) := goodIn_app (goodIn_of _ (by decide +kernel)) ggL_ifPlayed_X6_ifPlayed
theorem dL_ifPlayed_0 : decode cL_ifPlayed 0 = .ok (.aload_n 3, 1) := by decide +kernel
theorem dL_ifPlayed_1 : decode cL_ifPlayed 1 = .ok (.iconst 0, 1) := by decide +kernel
theorem dL_ifPlayed_2 : decode cL_ifPlayed 2 = .ok (.aload_n 0, 1) := by decide +kernel
theorem dL_ifPlayed_3 : decode cL_ifPlayed 3 = .ok (.iload_n 1, 1) := by decide +kernel
theorem dL_ifPlayed_4 : decode cL_ifPlayed 4 = .ok (.iload_n 2, 1) := by decide +kernel
theorem dL_ifPlayed_5 : decode cL_ifPlayed 5 = .ok (.invokevirtual 67, 3) := by decide +kernel
theorem dL_ifPlayed_8 : decode cL_ifPlayed 8 = .ok (.i2l, 1) := by decide +kernel
theorem dL_ifPlayed_9 : decode cL_ifPlayed 9 = .ok (.lastore, 1) := by decide +kernel
theorem dL_ifPlayed_10 : decode cL_ifPlayed 10 = .ok (.goto 7, 3) := by decide +kernel
theorem dL_ifPlayed_13 : decode cL_ifPlayed 13 = .ok (.astore 4, 2) := by decide +kernel
theorem dL_ifPlayed_15 : decode cL_ifPlayed 15 = .ok (.iconst 1, 1) := by decide +kernel
theorem dL_ifPlayed_16 : decode cL_ifPlayed 16 = .ok (.ireturn, 1) := by decide +kernel
theorem dL_ifPlayed_17 : decode cL_ifPlayed 17 = .ok (.iconst 0, 1) := by decide +kernel
theorem dL_ifPlayed_18 : decode cL_ifPlayed 18 = .ok (.ireturn, 1) := by decide +kernel
set_option maxRecDepth 20000 in
theorem ggL_count_X6_count : GoodIn wsL_count wsX6_count := goodIn_ca (goodIn_r _ [6, 7, 8, 9, 10, 11, 12, 13, 14, 15, 16, 17, 18, 19, 20, 21, 22, 23, 24, 25, 26, 27, 28, 29, 30, 31, 32, 33, 34, 35, 36, 37, 38, 39, 40, 41, 42, 43, 44, 45, 46, 47, 48, 49, 50, 51, 52, 53, 54, 55, 56, 57, 58, 59, 5, 60, 61, 62, 63, 64, 65, 66, 67, 68, 69, 70, 71, 72, 73, 74, 75, 76, 77, 78, 79, 80, 81, 82, 83, 84, 85, 86, 87, 88, 89, 90, 91, 92, 93, 94, 95, 96, 97, 98, 99, 100, 101, 102, 103, 104, 105, 106, 107, 108, 109, 110, 111, 112, 113, 114, 115, 116, 117, 118, 119, 120, 121, 122, 123, 124, 125, 126, 127, 128, 129, 130, 131, 132, 133, 134, 135, 136, 137, 138, 139, 140, 141, 142, 143, 144, 145, 146, 147, 148, 149, 150, 151, 152, 153, 154, 155, 156, 157, 158, 159] (by decide +kernel) (by decide +kernel)) (goodIn_sub (fun _ h => List.mem_cons_of_mem _ (List.mem_append_right _ h)) (by decide +kernel))
set_option maxRecDepth 20000 in
theorem gL_count_X6_count : GoodIn wsL_count (wsV RL 70 RX6 yX6_count wsX6_count) := goodIn_app (goodIn_of _ (by decide +kernel)) ggL_count_X6_count
theorem dL_count_0 : decode cL_count 0 = .ok (.aload_n 2, 1) := by decide +kernel
theorem dL_count_1 : decode cL_count 1 = .ok (.iconst 0, 1) := by decide +kernel
theorem dL_count_2 : decode cL_count 2 = .ok (.aload_n 0, 1) := by decide +kernel
theorem dL_count_3 : decode cL_count 3 = .ok (.iload_n 1, 1) := by decide +kernel
theorem dL_count_4 : decode cL_count 4 = .ok (.invokevirtual 70, 3) := by decide +kernel
theorem dL_count_7 : decode cL_count 7 = .ok (.i2l, 1) := by decide +kernel
theorem dL_count_8 : decode cL_count 8 = .ok (.lastore, 1) := by decide +kernel
theorem dL_count_9 : decode cL_count 9 = .ok (.goto 6, 3) := by decide +kernel
theorem dL_count_12 : decode cL_count 12 = .ok (.astore_n 3, 1) := by decide +kernel
theorem dL_count_13 : decode cL_count 13 = .ok (.iconst 1, 1) := by decide +kernel
theorem dL_count_14 : decode cL_count 14 = .ok (.ireturn, 1) := by decide +kernel
theorem dL_count_15 : decode cL_count 15 = .ok (.iconst 0, 1) := by decide +kernel
theorem dL_count_16 : decode cL_count 16 = .ok (.ireturn, 1) := by decide +kernel
