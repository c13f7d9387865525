theorem dX9_ofFrame_112 : decode cX9_ofFrame 112 = .ok (.ireturn, 1) := by decide +kernel
theorem dX9_ofFrame_113 : decode cX9_ofFrame 113 = .ok (.bipush (-2), 2) := by decide +kernel
theorem dX9_ofFrame_115 : decode cX9_ofFrame 115 = .ok (.ireturn, 1) := by decide +kernel
set_option maxRecDepth 20000 in
theorem ggX9_counts_X9_isPlayed : GoodIn wsX9_counts wsX9_isPlayed := goodIn_r _ [12, 13, 6, 14, 15, 16, 11, 17, 18, 7, 19, 20, 21, 22, 23, 24, 25, 26, 27, 28, 29, 30, 31, 32, 33, 34, 35, 36, 37, 38, 39, 40, 41, 42, 43, 44, 45, 46] (by decide +kernel) (by decide +kernel)
set_option maxRecDepth 20000 in
theorem gX9_counts_X9_isPlayed : GoodIn wsX9_counts (wsV RX9 147 RX9 yX9_isPlayed wsX9_isPlayed) := goodIn_app (goodIn_of _ (by decide +kernel)) ggX9_counts_X9_isPlayed
theorem dX9_counts_0 : decode cX9_counts 0 = .ok (.aload_n 0, 1) := by decide +kernel
theorem dX9_counts_1 : decode cX9_counts 1 = .ok (.iconst 0, 1) := by decide +kernel
theorem dX9_counts_2 : decode cX9_counts 2 = .ok (.putfield 154, 3) := by decide +kernel
theorem dX9_counts_5 : decode cX9_counts 5 = .ok (.aload_n 0, 1) := by decide +kernel
theorem dX9_counts_6 : decode cX9_counts 6 = .ok (.iconst 0, 1) := by decide +kernel
theorem dX9_counts_7 : decode cX9_counts 7 = .ok (.putfield 157, 3) := by decide +kernel
theorem dX9_counts_10 : decode cX9_counts 10 = .ok (.aload_n 0, 1) := by decide +kernel
theorem dX9_counts_11 : decode cX9_counts 11 = .ok (.aload_n 0, 1) := by decide +kernel
theorem dX9_counts_12 : decode cX9_counts 12 = .ok (.getfield 35, 3) := by decide +kernel
theorem dX9_counts_15 : decode cX9_counts 15 = .ok (.iload_n 1, 1) := by decide +kernel
theorem dX9_counts_16 : decode cX9_counts 16 = .ok (.iaload, 1) := by decide +kernel
theorem dX9_counts_17 : decode cX9_counts 17 = .ok (.putfield 160, 3) := by decide +kernel
theorem dX9_counts_20 : decode cX9_counts 20 = .ok (.iconst 0, 1) := by decide +kernel
theorem dX9_counts_21 : decode cX9_counts 21 = .ok (.istore_n 2, 1) := by decide +kernel
theorem dX9_counts_22 : decode cX9_counts 22 = .ok (.iload_n 2, 1) := by decide +kernel
theorem dX9_counts_23 : decode cX9_counts 23 = .ok (.aload_n 0, 1) := by decide +kernel
theorem dX9_counts_24 : decode cX9_counts 24 = .ok (.getfield 78, 3) := by decide +kernel
theorem dX9_counts_27 : decode cX9_counts 27 = .ok (.if_icmp .ge 81, 3) := by decide +kernel
theorem dX9_counts_30 : decode cX9_counts 30 = .ok (.aload_n 0, 1) := by decide +kernel
theorem dX9_counts_31 : decode cX9_counts 31 = .ok (.getfield 29, 3) := by decide +kernel
theorem dX9_counts_34 : decode cX9_counts 34 = .ok (.iload_n 2, 1) := by decide +kernel
theorem dX9_counts_35 : decode cX9_counts 35 = .ok (.iaload, 1) := by decide +kernel
theorem dX9_counts_36 : decode cX9_counts 36 = .ok (.iload_n 1, 1) := by decide +kernel
theorem dX9_counts_37 : decode cX9_counts 37 = .ok (.if_icmp .ne 65, 3) := by decide +kernel
theorem dX9_counts_40 : decode cX9_counts 40 = .ok (.aload_n 0, 1) := by decide +kernel
theorem dX9_counts_41 : decode cX9_counts 41 = .ok (.dup, 1) := by decide +kernel
theorem dX9_counts_42 : decode cX9_counts 42 = .ok (.getfield 154, 3) := by decide +kernel
theorem dX9_counts_45 : decode cX9_counts 45 = .ok (.iconst 1, 1) := by decide +kernel
theorem dX9_counts_46 : decode cX9_counts 46 = .ok (.iadd, 1) := by decide +kernel
theorem dX9_counts_47 : decode cX9_counts 47 = .ok (.putfield 154, 3) := by decide +kernel
theorem dX9_counts_50 : decode cX9_counts 50 = .ok (.aload_n 0, 1) := by decide +kernel
theorem dX9_counts_51 : decode cX9_counts 51 = .ok (.dup, 1) := by decide +kernel
theorem dX9_counts_52 : decode cX9_counts 52 = .ok (.getfield 157, 3) := by decide +kernel
theorem dX9_counts_55 : decode cX9_counts 55 = .ok (.aload_n 0, 1) := by decide +kernel
theorem dX9_counts_56 : decode cX9_counts 56 = .ok (.iload_n 2, 1) := by decide +kernel
theorem dX9_counts_57 : decode cX9_counts 57 = .ok (.invokevirtual 147, 3) := by decide +kernel
theorem dX9_counts_60 : decode cX9_counts 60 = .ok (.ifCond .eq 7, 3) := by decide +kernel
theorem dX9_counts_63 : decode cX9_counts 63 = .ok (.iconst 1, 1) := by decide +kernel
theorem dX9_counts_64 : decode cX9_counts 64 = .ok (.goto 4, 3) := by decide +kernel
theorem dX9_counts_67 : decode cX9_counts 67 = .ok (.iconst 0, 1) := by decide +kernel
theorem dX9_counts_68 : decode cX9_counts 68 = .ok (.iadd, 1) := by decide +kernel
theorem dX9_counts_69 : decode cX9_counts 69 = .ok (.putfield 157, 3) := by decide +kernel
theorem dX9_counts_72 : decode cX9_counts 72 = .ok (.aload_n 0, 1) := by decide +kernel
theorem dX9_counts_73 : decode cX9_counts 73 = .ok (.aload_n 0, 1) := by decide +kernel
theorem dX9_counts_74 : decode cX9_counts 74 = .ok (.getfield 23, 3) := by decide +kernel
theorem dX9_counts_77 : decode cX9_counts 77 = .ok (.iload_n 2, 1) := by decide +kernel
theorem dX9_counts_78 : decode cX9_counts 78 = .ok (.iaload, 1) := by decide +kernel
theorem dX9_counts_79 : decode cX9_counts 79 = .ok (.aload_n 0, 1) := by decide +kernel
theorem dX9_counts_80 : decode cX9_counts 80 = .ok (.getfield 160, 3) := by decide +kernel
theorem dX9_counts_83 : decode cX9_counts 83 = .ok (.if_icmp .le 12, 3) := by decide +kernel
theorem dX9_counts_86 : decode cX9_counts 86 = .ok (.aload_n 0, 1) := by decide +kernel
theorem dX9_counts_87 : decode cX9_counts 87 = .ok (.getfield 23, 3) := by decide +kernel
theorem dX9_counts_90 : decode cX9_counts 90 = .ok (.iload_n 2, 1) := by decide +kernel
theorem dX9_counts_91 : decode cX9_counts 91 = .ok (.iaload, 1) := by decide +kernel
theorem dX9_counts_92 : decode cX9_counts 92 = .ok (.goto 7, 3) := by decide +kernel
theorem dX9_counts_95 : decode cX9_counts 95 = .ok (.aload_n 0, 1) := by decide +kernel
theorem dX9_counts_96 : decode cX9_counts 96 = .ok (.getfield 160, 3) := by decide +kernel
theorem dX9_counts_99 : decode cX9_counts 99 = .ok (.putfield 160, 3) := by decide +kernel
theorem dX9_counts_102 : decode cX9_counts 102 = .ok (.iinc 2 1, 3) := by decide +kernel
theorem dX9_counts_105 : decode cX9_counts 105 = .ok (.goto (-83), 3) := by decide +kernel
theorem dX9_counts_108 : decode cX9_counts 108 = .ok (.return_, 1) := by decide +kernel
set_option maxRecDepth 20000 in
theorem ggX9_missing_X9_counts : GoodIn wsX9_missing wsX9_counts := goodIn_r _ [8, 3, 9, 2, 1, 10, 11, 12, 13, 14, 15, 7, 16, 17, 18, 19, 20, 21, 22, 23, 24, 25, 26, 27, 28, 29, 30, 31, 32, 33, 34, 35, 36, 37, 38, 39, 40, 41, 42, 43, 44, 45, 46, 47, 48, 49, 50] (by decide +kernel) (by decide +kernel)
set_option maxRecDepth 20000 in
theorem gX9_missing_X9_counts : GoodIn wsX9_missing (wsV RX9 163 RX9 yX9_counts wsX9_counts) := goodIn_app (goodIn_of _ (by decide +kernel)) ggX9_missing_X9_counts
theorem dX9_missing_0 : decode cX9_missing 0 = .ok (.aload_n 0, 1) := by decide +kernel
theorem dX9_missing_1 : decode cX9_missing 1 = .ok (.iload_n 1, 1) := by decide +kernel
theorem dX9_missing_2 : decode cX9_missing 2 = .ok (.invokevirtual 163, 3) := by decide +kernel
theorem dX9_missing_5 : decode cX9_missing 5 = .ok (.aload_n 0, 1) := by decide +kernel
theorem dX9_missing_6 : decode cX9_missing 6 = .ok (.getfield 160, 3) := by decide +kernel
theorem dX9_missing_9 : decode cX9_missing 9 = .ok (.aload_n 0, 1) := by decide +kernel
theorem dX9_missing_10 : decode cX9_missing 10 = .ok (.getfield 35, 3) := by decide +kernel
theorem dX9_missing_13 : decode cX9_missing 13 = .ok (.iload_n 1, 1) := by decide +kernel
theorem dX9_missing_14 : decode cX9_missing 14 = .ok (.iaload, 1) := by decide +kernel
theorem dX9_missing_15 : decode cX9_missing 15 = .ok (.isub, 1) := by decide +kernel
theorem dX9_missing_16 : decode cX9_missing 16 = .ok (.iconst 1, 1) := by decide +kernel
theorem dX9_missing_17 : decode cX9_missing 17 = .ok (.iadd, 1) := by decide +kernel
theorem dX9_missing_18 : decode cX9_missing 18 = .ok (.aload_n 0, 1) := by decide +kernel
theorem dX9_missing_19 : decode cX9_missing 19 = .ok (.getfield 154, 3) := by decide +kernel
theorem dX9_missing_22 : decode cX9_missing 22 = .ok (.isub, 1) := by decide +kernel
theorem dX9_missing_23 : decode cX9_missing 23 = .ok (.ireturn, 1) := by decide +kernel
set_option maxRecDepth 20000 in
theorem ggX9_isSpurt_X9_within : GoodIn wsX9_isSpurt wsX9_within := goodIn_r _ [5] (by decide +kernel) (by decide +kernel)
set_option maxRecDepth 20000 in
theorem gX9_isSpurt_X9_within : GoodIn wsX9_isSpurt (va_wsS RX9 54 yX9_within wsX9_within) := goodIn_app (goodIn_of _ (by decide +kernel)) ggX9_isSpurt_X9_within
theorem dX9_isSpurt_0 : decode cX9_isSpurt 0 = .ok (.iload_n 1, 1) := by decide +kernel
theorem dX9_isSpurt_1 : decode cX9_isSpurt 1 = .ok (.iconst 0, 1) := by decide +kernel
theorem dX9_isSpurt_2 : decode cX9_isSpurt 2 = .ok (.aload_n 0, 1) := by decide +kernel
theorem dX9_isSpurt_3 : decode cX9_isSpurt 3 = .ok (.getfield 75, 3) := by decide +kernel
theorem dX9_isSpurt_6 : decode cX9_isSpurt 6 = .ok (.iconst 1, 1) := by decide +kernel
theorem dX9_isSpurt_7 : decode cX9_isSpurt 7 = .ok (.isub, 1) := by decide +kernel
theorem dX9_isSpurt_8 : decode cX9_isSpurt 8 = .ok (.invokestatic 54, 3) := by decide +kernel
theorem dX9_isSpurt_11 : decode cX9_isSpurt 11 = .ok (.ireturn, 1) := by decide +kernel
set_option maxRecDepth 20000 in
theorem ggX9_ofSpurt_X9_isSpurt : GoodIn wsX9_ofSpurt wsX9_isSpurt := goodIn_r _ [12, 13, 14, 15, 11, 16, 37, 38, 39, 40, 41, 42, 43, 44, 45, 46, 47, 48, 49, 50, 51, 52, 53, 54, 55, 56, 57, 58, 59, 60, 61, 62, 63, 64] (by decide +kernel) (by decide +kernel)
set_option maxRecDepth 20000 in
theorem gX9_ofSpurt_X9_isSpurt : GoodIn wsX9_ofSpurt (wsV RX9 166 RX9 yX9_isSpurt wsX9_isSpurt) := goodIn_app (goodIn_of _ (by decide +kernel)) ggX9_ofSpurt_X9_isSpurt
set_option maxRecDepth 20000 in
theorem ggX9_ofSpurt_X9_counts : GoodIn wsX9_ofSpurt wsX9_counts := goodIn_r _ [20, 4, 5, 1, 6, 21, 22, 23, 24, 25, 26, 11, 27, 3, 28, 29, 30, 31, 32, 37, 38, 39, 40, 41, 42, 43, 44, 45, 46, 47, 48, 49, 50, 51, 52, 53, 54, 55, 56, 57, 58, 59, 60, 61, 62, 63, 64] (by decide +kernel) (by decide +kernel)
set_option maxRecDepth 20000 in
theorem gX9_ofSpurt_X9_counts : GoodIn wsX9_ofSpurt (wsV RX9 163 RX9 yX9_counts wsX9_counts) := goodIn_app (goodIn_of _ (by decide +kernel)) ggX9_ofSpurt_X9_counts
set_option maxRecDepth 20000 in
theorem ggX9_ofSpurt_X9_missing : GoodIn wsX9_ofSpurt wsX9_missing := goodIn_r _ [36, 6, 1, 4, 17, 18, 19, 11, 20, 5, 21, 22, 23, 24, 25, 26, 27, 3, 28, 29, 30, 31, 32, 37, 38, 39, 40, 41, 42, 43, 44, 45, 46, 47, 48, 49, 50, 51, 52, 53, 54, 55, 56, 57, 58, 59, 60, 61, 62, 63, 64] (by decide +kernel) (by decide +kernel)
set_option maxRecDepth 20000 in
theorem gX9_ofSpurt_X9_missing : GoodIn wsX9_ofSpurt (wsV RX9 169 RX9 yX9_missing wsX9_missing) := goodIn_app (goodIn_of _ (by decide +kernel)) ggX9_ofSpurt_X9_missing
theorem dX9_ofSpurt_0 : decode cX9_ofSpurt 0 = .ok (.aload_n 0, 1) := by decide +kernel
theorem dX9_ofSpurt_1 : decode cX9_ofSpurt 1 = .ok (.iload_n 1, 1) := by decide +kernel
theorem dX9_ofSpurt_2 : decode cX9_ofSpurt 2 = .ok (.invokevirtual 166, 3) := by decide +kernel
theorem dX9_ofSpurt_5 : decode cX9_ofSpurt 5 = .ok (.ifCond .ne 5, 3) := by decide +kernel
theorem dX9_ofSpurt_8 : decode cX9_ofSpurt 8 = .ok (.iconst (-1), 1) := by decide +kernel
theorem dX9_ofSpurt_9 : decode cX9_ofSpurt 9 = .ok (.ireturn, 1) := by decide +kernel
theorem dX9_ofSpurt_10 : decode cX9_ofSpurt 10 = .ok (.aload_n 0, 1) := by decide +kernel
theorem dX9_ofSpurt_11 : decode cX9_ofSpurt 11 = .ok (.iload_n 1, 1) := by decide +kernel
theorem dX9_ofSpurt_12 : decode cX9_ofSpurt 12 = .ok (.invokevirtual 163, 3) := by decide +kernel
theorem dX9_ofSpurt_15 : decode cX9_ofSpurt 15 = .ok (.iload_n 2, 1) := by decide +kernel
theorem dX9_ofSpurt_16 : decode cX9_ofSpurt 16 = .ok (.tableswitch 115 0 8 #[52, 59, 66, 77, 82, 87, 97, 103, 108], 52) := by decide +kernel
theorem dX9_ofSpurt_68 : decode cX9_ofSpurt 68 = .ok (.aload_n 0, 1) := by decide +kernel
theorem dX9_ofSpurt_69 : decode cX9_ofSpurt 69 = .ok (.getfield 35, 3) := by decide +kernel
theorem dX9_ofSpurt_72 : decode cX9_ofSpurt 72 = .ok (.iload_n 1, 1) := by decide +kernel
theorem dX9_ofSpurt_73 : decode cX9_ofSpurt 73 = .ok (.iaload, 1) := by decide +kernel
theorem dX9_ofSpurt_74 : decode cX9_ofSpurt 74 = .ok (.ireturn, 1) := by decide +kernel
theorem dX9_ofSpurt_75 : decode cX9_ofSpurt 75 = .ok (.aload_n 0, 1) := by decide +kernel
theorem dX9_ofSpurt_76 : decode cX9_ofSpurt 76 = .ok (.getfield 38, 3) := by decide +kernel
theorem dX9_ofSpurt_79 : decode cX9_ofSpurt 79 = .ok (.iload_n 1, 1) := by decide +kernel
theorem dX9_ofSpurt_80 : decode cX9_ofSpurt 80 = .ok (.iaload, 1) := by decide +kernel
theorem dX9_ofSpurt_81 : decode cX9_ofSpurt 81 = .ok (.ireturn, 1) := by decide +kernel
theorem dX9_ofSpurt_82 : decode cX9_ofSpurt 82 = .ok (.aload_n 0, 1) := by decide +kernel
theorem dX9_ofSpurt_83 : decode cX9_ofSpurt 83 = .ok (.getfield 41, 3) := by decide +kernel
theorem dX9_ofSpurt_86 : decode cX9_ofSpurt 86 = .ok (.iload_n 1, 1) := by decide +kernel
theorem dX9_ofSpurt_87 : decode cX9_ofSpurt 87 = .ok (.iaload, 1) := by decide +kernel
theorem dX9_ofSpurt_88 : decode cX9_ofSpurt 88 = .ok (.sipush 10000, 3) := by decide +kernel
theorem dX9_ofSpurt_91 : decode cX9_ofSpurt 91 = .ok (.iadd, 1) := by decide +kernel
theorem dX9_ofSpurt_92 : decode cX9_ofSpurt 92 = .ok (.ireturn, 1) := by decide +kernel
theorem dX9_ofSpurt_93 : decode cX9_ofSpurt 93 = .ok (.aload_n 0, 1) := by decide +kernel
theorem dX9_ofSpurt_94 : decode cX9_ofSpurt 94 = .ok (.getfield 154, 3) := by decide +kernel
theorem dX9_ofSpurt_97 : decode cX9_ofSpurt 97 = .ok (.ireturn, 1) := by decide +kernel
theorem dX9_ofSpurt_98 : decode cX9_ofSpurt 98 = .ok (.aload_n 0, 1) := by decide +kernel
theorem dX9_ofSpurt_99 : decode cX9_ofSpurt 99 = .ok (.getfield 157, 3) := by decide +kernel
theorem dX9_ofSpurt_102 : decode cX9_ofSpurt 102 = .ok (.ireturn, 1) := by decide +kernel
theorem dX9_ofSpurt_103 : decode cX9_ofSpurt 103 = .ok (.aload_n 0, 1) := by decide +kernel
theorem dX9_ofSpurt_104 : decode cX9_ofSpurt 104 = .ok (.getfield 154, 3) := by decide +kernel
theorem dX9_ofSpurt_107 : decode cX9_ofSpurt 107 = .ok (.aload_n 0, 1) := by decide +kernel
theorem dX9_ofSpurt_108 : decode cX9_ofSpurt 108 = .ok (.getfield 157, 3) := by decide +kernel
theorem dX9_ofSpurt_111 : decode cX9_ofSpurt 111 = .ok (.isub, 1) := by decide +kernel
theorem dX9_ofSpurt_112 : decode cX9_ofSpurt 112 = .ok (.ireturn, 1) := by decide +kernel
theorem dX9_ofSpurt_113 : decode cX9_ofSpurt 113 = .ok (.aload_n 0, 1) := by decide +kernel
theorem dX9_ofSpurt_114 : decode cX9_ofSpurt 114 = .ok (.iload_n 1, 1) := by decide +kernel
theorem dX9_ofSpurt_115 : decode cX9_ofSpurt 115 = .ok (.invokevirtual 169, 3) := by decide +kernel
theorem dX9_ofSpurt_118 : decode cX9_ofSpurt 118 = .ok (.ireturn, 1) := by decide +kernel
theorem dX9_ofSpurt_119 : decode cX9_ofSpurt 119 = .ok (.aload_n 0, 1) := by decide +kernel
theorem dX9_ofSpurt_120 : decode cX9_ofSpurt 120 = .ok (.getfield 160, 3) := by decide +kernel
theorem dX9_ofSpurt_123 : decode cX9_ofSpurt 123 = .ok (.ireturn, 1) := by decide +kernel
theorem dX9_ofSpurt_124 : decode cX9_ofSpurt 124 = .ok (.aload_n 0, 1) := by decide +kernel
theorem dX9_ofSpurt_125 : decode cX9_ofSpurt 125 = .ok (.getfield 44, 3) := by decide +kernel
theorem dX9_ofSpurt_128 : decode cX9_ofSpurt 128 = .ok (.iload_n 1, 1) := by decide +kernel
theorem dX9_ofSpurt_129 : decode cX9_ofSpurt 129 = .ok (.iaload, 1) := by decide +kernel
theorem dX9_ofSpurt_130 : decode cX9_ofSpurt 130 = .ok (.ireturn, 1) := by decide +kernel
theorem dX9_ofSpurt_131 : decode cX9_ofSpurt 131 = .ok (.bipush (-2), 2) := by decide +kernel
theorem dX9_ofSpurt_133 : decode cX9_ofSpurt 133 = .ok (.ireturn, 1) := by decide +kernel
theorem dX9_inOrder_0 : decode cX9_inOrder 0 = .ok (.iconst 0, 1) := by decide +kernel
theorem dX9_inOrder_1 : decode cX9_inOrder 1 = .ok (.istore_n 2, 1) := by decide +kernel
theorem dX9_inOrder_2 : decode cX9_inOrder 2 = .ok (.iload_n 2, 1) := by decide +kernel
theorem dX9_inOrder_3 : decode cX9_inOrder 3 = .ok (.aload_n 0, 1) := by decide +kernel
theorem dX9_inOrder_4 : decode cX9_inOrder 4 = .ok (.getfield 75, 3) := by decide +kernel
theorem dX9_inOrder_7 : decode cX9_inOrder 7 = .ok (.if_icmp .ge 60, 3) := by decide +kernel
theorem dX9_inOrder_10 : decode cX9_inOrder 10 = .ok (.iconst 0, 1) := by decide +kernel
theorem dX9_inOrder_11 : decode cX9_inOrder 11 = .ok (.istore_n 3, 1) := by decide +kernel
theorem dX9_inOrder_12 : decode cX9_inOrder 12 = .ok (.iconst 0, 1) := by decide +kernel
theorem dX9_inOrder_13 : decode cX9_inOrder 13 = .ok (.istore 4, 2) := by decide +kernel
theorem dX9_inOrder_15 : decode cX9_inOrder 15 = .ok (.iload 4, 2) := by decide +kernel
theorem dX9_inOrder_17 : decode cX9_inOrder 17 = .ok (.aload_n 0, 1) := by decide +kernel
theorem dX9_inOrder_18 : decode cX9_inOrder 18 = .ok (.getfield 75, 3) := by decide +kernel
theorem dX9_inOrder_21 : decode cX9_inOrder 21 = .ok (.if_icmp .ge 33, 3) := by decide +kernel
theorem dX9_inOrder_24 : decode cX9_inOrder 24 = .ok (.iload_n 3, 1) := by decide +kernel
theorem dX9_inOrder_25 : decode cX9_inOrder 25 = .ok (.aload_n 0, 1) := by decide +kernel
theorem dX9_inOrder_26 : decode cX9_inOrder 26 = .ok (.getfield 35, 3) := by decide +kernel
theorem dX9_inOrder_29 : decode cX9_inOrder 29 = .ok (.iload 4, 2) := by decide +kernel
theorem dX9_inOrder_31 : decode cX9_inOrder 31 = .ok (.iaload, 1) := by decide +kernel
theorem dX9_inOrder_32 : decode cX9_inOrder 32 = .ok (.aload_n 0, 1) := by decide +kernel
theorem dX9_inOrder_33 : decode cX9_inOrder 33 = .ok (.getfield 35, 3) := by decide +kernel
theorem dX9_inOrder_36 : decode cX9_inOrder 36 = .ok (.iload_n 2, 1) := by decide +kernel
theorem dX9_inOrder_37 : decode cX9_inOrder 37 = .ok (.iaload, 1) := by decide +kernel
theorem dX9_inOrder_38 : decode cX9_inOrder 38 = .ok (.if_icmp .ge 7, 3) := by decide +kernel
theorem dX9_inOrder_41 : decode cX9_inOrder 41 = .ok (.iconst 1, 1) := by decide +kernel
theorem dX9_inOrder_42 : decode cX9_inOrder 42 = .ok (.goto 4, 3) := by decide +kernel
theorem dX9_inOrder_45 : decode cX9_inOrder 45 = .ok (.iconst 0, 1) := by decide +kernel
theorem dX9_inOrder_46 : decode cX9_inOrder 46 = .ok (.iadd, 1) := by decide +kernel
theorem dX9_inOrder_47 : decode cX9_inOrder 47 = .ok (.istore_n 3, 1) := by decide +kernel
theorem dX9_inOrder_48 : decode cX9_inOrder 48 = .ok (.iinc 4 1, 3) := by decide +kernel
theorem dX9_inOrder_51 : decode cX9_inOrder 51 = .ok (.goto (-36), 3) := by decide +kernel
theorem dX9_inOrder_54 : decode cX9_inOrder 54 = .ok (.iload_n 3, 1) := by decide +kernel
theorem dX9_inOrder_55 : decode cX9_inOrder 55 = .ok (.iload_n 1, 1) := by decide +kernel
theorem dX9_inOrder_56 : decode cX9_inOrder 56 = .ok (.if_icmp .ne 5, 3) := by decide +kernel
theorem dX9_inOrder_59 : decode cX9_inOrder 59 = .ok (.iload_n 2, 1) := by decide +kernel
theorem dX9_inOrder_60 : decode cX9_inOrder 60 = .ok (.ireturn, 1) := by decide +kernel
theorem dX9_inOrder_61 : decode cX9_inOrder 61 = .ok (.iinc 2 1, 3) := by decide +kernel
theorem dX9_inOrder_64 : decode cX9_inOrder 64 = .ok (.goto (-62), 3) := by decide +kernel
theorem dX9_inOrder_67 : decode cX9_inOrder 67 = .ok (.iconst (-1), 1) := by decide +kernel
theorem dX9_inOrder_68 : decode cX9_inOrder 68 = .ok (.ireturn, 1) := by decide +kernel
set_option maxRecDepth 20000 in
theorem ggX9_wish_X9_within : GoodIn wsX9_wish wsX9_within := goodIn_r _ [5] (by decide +kernel) (by decide +kernel)
set_option maxRecDepth 20000 in
theorem gX9_wish_X9_within : GoodIn wsX9_wish (va_wsS RX9 54 yX9_within wsX9_within) := goodIn_app (goodIn_of _ (by decide +kernel)) ggX9_wish_X9_within
set_option maxRecDepth 20000 in
theorem ggX9_wish_X9_wishFor : GoodIn wsX9_wish wsX9_wishFor := goodIn_r _ [9, 10, 1, 11, 12, 13, 14, 15, 16, 17, 18, 19, 4, 20, 21, 22, 23, 24, 25, 26, 27, 28, 29, 30, 31, 32, 33, 34, 35, 36, 37, 38, 39, 40, 41, 42, 43, 44, 45, 46, 47, 48, 49, 50, 51, 52, 53, 54, 55, 56, 57, 58, 59, 60, 61, 62, 63, 64, 65, 66, 67, 68, 69, 70, 71, 72, 73, 74, 75, 76] (by decide +kernel) (by decide +kernel)
set_option maxRecDepth 20000 in
theorem gX9_wish_X9_wishFor : GoodIn wsX9_wish (wsV RX9 140 RX9 yX9_wishFor wsX9_wishFor) := goodIn_app (goodIn_of _ (by decide +kernel)) ggX9_wish_X9_wishFor
theorem dX9_wish_0 : decode cX9_wish 0 = .ok (.iload_n 1, 1) := by decide +kernel
theorem dX9_wish_1 : decode cX9_wish 1 = .ok (.iconst 0, 1) := by decide +kernel
theorem dX9_wish_2 : decode cX9_wish 2 = .ok (.sipush 299, 3) := by decide +kernel
theorem dX9_wish_5 : decode cX9_wish 5 = .ok (.invokestatic 54, 3) := by decide +kernel
theorem dX9_wish_8 : decode cX9_wish 8 = .ok (.ifCond .ne 6, 3) := by decide +kernel
theorem dX9_wish_11 : decode cX9_wish 11 = .ok (.bipush (-2), 2) := by decide +kernel
theorem dX9_wish_13 : decode cX9_wish 13 = .ok (.ireturn, 1) := by decide +kernel
theorem dX9_wish_14 : decode cX9_wish 14 = .ok (.aload_n 0, 1) := by decide +kernel
theorem dX9_wish_15 : decode cX9_wish 15 = .ok (.getfield 78, 3) := by decide +kernel
theorem dX9_wish_18 : decode cX9_wish 18 = .ok (.ifCond .ne 8, 3) := by decide +kernel
theorem dX9_wish_21 : decode cX9_wish 21 = .ok (.bipush (-3), 2) := by decide +kernel
theorem dX9_wish_23 : decode cX9_wish 23 = .ok (.goto 12, 3) := by decide +kernel
theorem dX9_wish_26 : decode cX9_wish 26 = .ok (.aload_n 0, 1) := by decide +kernel
theorem dX9_wish_27 : decode cX9_wish 27 = .ok (.iload_n 1, 1) := by decide +kernel
theorem dX9_wish_28 : decode cX9_wish 28 = .ok (.invokevirtual 140, 3) := by decide +kernel
theorem dX9_wish_31 : decode cX9_wish 31 = .ok (.sipush 10000, 3) := by decide +kernel
theorem dX9_wish_34 : decode cX9_wish 34 = .ok (.iadd, 1) := by decide +kernel
theorem dX9_wish_35 : decode cX9_wish 35 = .ok (.ireturn, 1) := by decide +kernel
set_option maxRecDepth 20000 in
theorem ggX9_spike_X9_within : GoodIn wsX9_spike wsX9_within := goodIn_r _ [6] (by decide +kernel) (by decide +kernel)
set_option maxRecDepth 20000 in
theorem gX9_spike_X9_within : GoodIn wsX9_spike (va_wsS RX9 54 yX9_within wsX9_within) := goodIn_app (goodIn_of _ (by decide +kernel)) ggX9_spike_X9_within
theorem dX9_spike_0 : decode cX9_spike 0 = .ok (.iload_n 1, 1) := by decide +kernel
theorem dX9_spike_1 : decode cX9_spike 1 = .ok (.iconst 0, 1) := by decide +kernel
theorem dX9_spike_2 : decode cX9_spike 2 = .ok (.iconst 1, 1) := by decide +kernel
theorem dX9_spike_3 : decode cX9_spike 3 = .ok (.invokestatic 54, 3) := by decide +kernel
theorem dX9_spike_6 : decode cX9_spike 6 = .ok (.ifCond .ne 6, 3) := by decide +kernel
theorem dX9_spike_9 : decode cX9_spike 9 = .ok (.bipush (-2), 2) := by decide +kernel
theorem dX9_spike_11 : decode cX9_spike 11 = .ok (.ireturn, 1) := by decide +kernel
theorem dX9_spike_12 : decode cX9_spike 12 = .ok (.iload_n 1, 1) := by decide +kernel
theorem dX9_spike_13 : decode cX9_spike 13 = .ok (.ifCond .ne 18, 3) := by decide +kernel
theorem dX9_spike_16 : decode cX9_spike 16 = .ok (.aload_n 0, 1) := by decide +kernel
theorem dX9_spike_17 : decode cX9_spike 17 = .ok (.getfield 99, 3) := by decide +kernel
theorem dX9_spike_20 : decode cX9_spike 20 = .ok (.ifCond .eq 7, 3) := by decide +kernel
theorem dX9_spike_23 : decode cX9_spike 23 = .ok (.iconst 1, 1) := by decide +kernel
theorem dX9_spike_24 : decode cX9_spike 24 = .ok (.goto 27, 3) := by decide +kernel
theorem dX9_spike_27 : decode cX9_spike 27 = .ok (.iconst 0, 1) := by decide +kernel
theorem dX9_spike_28 : decode cX9_spike 28 = .ok (.goto 23, 3) := by decide +kernel
theorem dX9_spike_31 : decode cX9_spike 31 = .ok (.aload_n 0, 1) := by decide +kernel
theorem dX9_spike_32 : decode cX9_spike 32 = .ok (.getfield 99, 3) := by decide +kernel
theorem dX9_spike_35 : decode cX9_spike 35 = .ok (.ifCond .eq 14, 3) := by decide +kernel
theorem dX9_spike_38 : decode cX9_spike 38 = .ok (.aload_n 0, 1) := by decide +kernel
theorem dX9_spike_39 : decode cX9_spike 39 = .ok (.getfield 106, 3) := by decide +kernel
theorem dX9_spike_42 : decode cX9_spike 42 = .ok (.sipush 10000, 3) := by decide +kernel
theorem dX9_spike_45 : decode cX9_spike 45 = .ok (.iadd, 1) := by decide +kernel
theorem dX9_spike_46 : decode cX9_spike 46 = .ok (.goto 5, 3) := by decide +kernel
theorem dX9_spike_49 : decode cX9_spike 49 = .ok (.bipush (-9), 2) := by decide +kernel
theorem dX9_spike_51 : decode cX9_spike 51 = .ok (.ireturn, 1) := by decide +kernel
set_option maxRecDepth 20000 in
theorem ggX9_late_X9_within : GoodIn wsX9_late wsX9_within := goodIn_r _ [6] (by decide +kernel) (by decide +kernel)
set_option maxRecDepth 20000 in
theorem gX9_late_X9_within : GoodIn wsX9_late (va_wsS RX9 54 yX9_within wsX9_within) := goodIn_app (goodIn_of _ (by decide +kernel)) ggX9_late_X9_within
set_option maxRecDepth 20000 in
theorem ggX9_late_X9_oldest : GoodIn wsX9_late wsX9_oldest := goodIn_r _ [10, 2, 17, 18, 19, 20, 21, 22, 23, 24, 25, 26, 27, 28, 29, 30, 31, 32, 33, 34, 35, 36, 37, 38, 39, 40, 41, 42, 43, 44] (by decide +kernel) (by decide +kernel)
set_option maxRecDepth 20000 in
theorem gX9_late_X9_oldest : GoodIn wsX9_late (wsV RX9 112 RX9 yX9_oldest wsX9_oldest) := goodIn_app (goodIn_of _ (by decide +kernel)) ggX9_late_X9_oldest
set_option maxRecDepth 20000 in
theorem ggX9_late_X9_delay : GoodIn wsX9_late wsX9_delay := goodIn_r _ [14, 15, 16, 17, 18, 19, 20, 21, 22, 23, 24, 25, 26, 27, 28, 29, 30, 31, 32, 33, 34, 35, 36, 37, 38, 39, 40, 41, 42, 43, 44] (by decide +kernel) (by decide +kernel)
set_option maxRecDepth 20000 in
theorem gX9_late_X9_delay : GoodIn wsX9_late (wsV RX9 103 RX9 yX9_delay wsX9_delay) := goodIn_app (goodIn_of _ (by decide +kernel)) ggX9_late_X9_delay
theorem dX9_late_0 : decode cX9_late 0 = .ok (.iload_n 1, 1) := by decide +kernel
theorem dX9_late_1 : decode cX9_late 1 = .ok (.sipush (-10000), 3) := by decide +kernel
theorem dX9_late_4 : decode cX9_late 4 = .ok (.ldc 172, 2) := by decide +kernel
theorem dX9_late_6 : decode cX9_late 6 = .ok (.invokestatic 54, 3) := by decide +kernel
theorem dX9_late_9 : decode cX9_late 9 = .ok (.ifCond .ne 6, 3) := by decide +kernel
theorem dX9_late_12 : decode cX9_late 12 = .ok (.bipush (-2), 2) := by decide +kernel
theorem dX9_late_14 : decode cX9_late 14 = .ok (.ireturn, 1) := by decide +kernel
theorem dX9_late_15 : decode cX9_late 15 = .ok (.iconst 0, 1) := by decide +kernel
theorem dX9_late_16 : decode cX9_late 16 = .ok (.istore_n 2, 1) := by decide +kernel
theorem dX9_late_17 : decode cX9_late 17 = .ok (.aload_n 0, 1) := by decide +kernel
theorem dX9_late_18 : decode cX9_late 18 = .ok (.invokevirtual 112, 3) := by decide +kernel
theorem dX9_late_21 : decode cX9_late 21 = .ok (.istore_n 3, 1) := by decide +kernel
theorem dX9_late_22 : decode cX9_late 22 = .ok (.iload_n 3, 1) := by decide +kernel
theorem dX9_late_23 : decode cX9_late 23 = .ok (.aload_n 0, 1) := by decide +kernel
theorem dX9_late_24 : decode cX9_late 24 = .ok (.getfield 78, 3) := by decide +kernel
theorem dX9_late_27 : decode cX9_late 27 = .ok (.if_icmp .ge 26, 3) := by decide +kernel
theorem dX9_late_30 : decode cX9_late 30 = .ok (.iload_n 2, 1) := by decide +kernel
theorem dX9_late_31 : decode cX9_late 31 = .ok (.aload_n 0, 1) := by decide +kernel
theorem dX9_late_32 : decode cX9_late 32 = .ok (.iload_n 3, 1) := by decide +kernel
theorem dX9_late_33 : decode cX9_late 33 = .ok (.invokevirtual 103, 3) := by decide +kernel
theorem dX9_late_36 : decode cX9_late 36 = .ok (.iload_n 1, 1) := by decide +kernel
theorem dX9_late_37 : decode cX9_late 37 = .ok (.if_icmp .le 7, 3) := by decide +kernel
theorem dX9_late_40 : decode cX9_late 40 = .ok (.iconst 1, 1) := by decide +kernel
theorem dX9_late_41 : decode cX9_late 41 = .ok (.goto 4, 3) := by decide +kernel
theorem dX9_late_44 : decode cX9_late 44 = .ok (.iconst 0, 1) := by decide +kernel
theorem dX9_late_45 : decode cX9_late 45 = .ok (.iadd, 1) := by decide +kernel
theorem dX9_late_46 : decode cX9_late 46 = .ok (.istore_n 2, 1) := by decide +kernel
theorem dX9_late_47 : decode cX9_late 47 = .ok (.iinc 3 1, 3) := by decide +kernel
theorem dX9_late_50 : decode cX9_late 50 = .ok (.goto (-28), 3) := by decide +kernel
theorem dX9_late_53 : decode cX9_late 53 = .ok (.iload_n 2, 1) := by decide +kernel
theorem dX9_late_54 : decode cX9_late 54 = .ok (.ireturn, 1) := by decide +kernel
set_option maxRecDepth 20000 in
theorem ggX9_history_X9_within : GoodIn wsX9_history wsX9_within := goodIn_r _ [5] (by decide +kernel) (by decide +kernel)
set_option maxRecDepth 20000 in
theorem gX9_history_X9_within : GoodIn wsX9_history (va_wsS RX9 54 yX9_within wsX9_within) := goodIn_app (goodIn_of _ (by decide +kernel)) ggX9_history_X9_within
set_option maxRecDepth 20000 in
theorem ggX9_history_X9_delay : GoodIn wsX9_history wsX9_delay := goodIn_r _ [9, 10, 11, 12, 13, 14, 15, 16, 17, 18, 19, 20, 21, 22, 23, 24, 25, 26, 27, 28, 29, 30, 31, 32, 33, 34, 35, 36, 37, 38, 39] (by decide +kernel) (by decide +kernel)
set_option maxRecDepth 20000 in
theorem gX9_history_X9_delay : GoodIn wsX9_history (wsV RX9 103 RX9 yX9_delay wsX9_delay) := goodIn_app (goodIn_of _ (by decide +kernel)) ggX9_history_X9_delay
theorem dX9_history_0 : decode cX9_history 0 = .ok (.iload_n 1, 1) := by decide +kernel
theorem dX9_history_1 : decode cX9_history 1 = .ok (.iconst 0, 1) := by decide +kernel
theorem dX9_history_2 : decode cX9_history 2 = .ok (.bipush 31, 2) := by decide +kernel
theorem dX9_history_4 : decode cX9_history 4 = .ok (.invokestatic 54, 3) := by decide +kernel
theorem dX9_history_7 : decode cX9_history 7 = .ok (.ifCond .ne 6, 3) := by decide +kernel
theorem dX9_history_10 : decode cX9_history 10 = .ok (.bipush (-2), 2) := by decide +kernel
theorem dX9_history_12 : decode cX9_history 12 = .ok (.ireturn, 1) := by decide +kernel
theorem dX9_history_13 : decode cX9_history 13 = .ok (.iload_n 1, 1) := by decide +kernel
theorem dX9_history_14 : decode cX9_history 14 = .ok (.aload_n 0, 1) := by decide +kernel
theorem dX9_history_15 : decode cX9_history 15 = .ok (.getfield 78, 3) := by decide +kernel
theorem dX9_history_18 : decode cX9_history 18 = .ok (.if_icmp .ge 22, 3) := by decide +kernel
theorem dX9_history_21 : decode cX9_history 21 = .ok (.aload_n 0, 1) := by decide +kernel
theorem dX9_history_22 : decode cX9_history 22 = .ok (.aload_n 0, 1) := by decide +kernel
theorem dX9_history_23 : decode cX9_history 23 = .ok (.getfield 78, 3) := by decide +kernel
theorem dX9_history_26 : decode cX9_history 26 = .ok (.iconst 1, 1) := by decide +kernel
theorem dX9_history_27 : decode cX9_history 27 = .ok (.isub, 1) := by decide +kernel
theorem dX9_history_28 : decode cX9_history 28 = .ok (.iload_n 1, 1) := by decide +kernel
theorem dX9_history_29 : decode cX9_history 29 = .ok (.isub, 1) := by decide +kernel
theorem dX9_history_30 : decode cX9_history 30 = .ok (.invokevirtual 103, 3) := by decide +kernel
theorem dX9_history_33 : decode cX9_history 33 = .ok (.sipush 10000, 3) := by decide +kernel
theorem dX9_history_36 : decode cX9_history 36 = .ok (.iadd, 1) := by decide +kernel
theorem dX9_history_37 : decode cX9_history 37 = .ok (.goto 5, 3) := by decide +kernel
theorem dX9_history_40 : decode cX9_history 40 = .ok (.bipush (-9), 2) := by decide +kernel
theorem dX9_history_42 : decode cX9_history 42 = .ok (.ireturn, 1) := by decide +kernel
set_option maxRecDepth 20000 in
theorem ggX9_loss_X9_within : GoodIn wsX9_loss wsX9_within := goodIn_r _ [6] (by decide +kernel) (by decide +kernel)
set_option maxRecDepth 20000 in
theorem gX9_loss_X9_within : GoodIn wsX9_loss (va_wsS RX9 54 yX9_within wsX9_within) := goodIn_app (goodIn_of _ (by decide +kernel)) ggX9_loss_X9_within
set_option maxRecDepth 20000 in
theorem ggX9_loss_X9_delay : GoodIn wsX9_loss wsX9_delay := goodIn_r _ [10, 11, 12, 13, 14, 15, 16, 17, 18, 19, 20, 21, 22, 23, 24, 25, 26, 27, 28, 29, 30, 31, 32, 33, 34, 35, 36, 37, 38, 39, 40] (by decide +kernel) (by decide +kernel)
set_option maxRecDepth 20000 in
theorem gX9_loss_X9_delay : GoodIn wsX9_loss (wsV RX9 103 RX9 yX9_delay wsX9_delay) := goodIn_app (goodIn_of _ (by decide +kernel)) ggX9_loss_X9_delay
theorem dX9_loss_0 : decode cX9_loss 0 = .ok (.iload_n 1, 1) := by decide +kernel
theorem dX9_loss_1 : decode cX9_loss 1 = .ok (.sipush (-10000), 3) := by decide +kernel
theorem dX9_loss_4 : decode cX9_loss 4 = .ok (.ldc 172, 2) := by decide +kernel
theorem dX9_loss_6 : decode cX9_loss 6 = .ok (.invokestatic 54, 3) := by decide +kernel
theorem dX9_loss_9 : decode cX9_loss 9 = .ok (.ifCond .ne 6, 3) := by decide +kernel
theorem dX9_loss_12 : decode cX9_loss 12 = .ok (.bipush (-2), 2) := by decide +kernel
theorem dX9_loss_14 : decode cX9_loss 14 = .ok (.ireturn, 1) := by decide +kernel
theorem dX9_loss_15 : decode cX9_loss 15 = .ok (.iconst 0, 1) := by decide +kernel
theorem dX9_loss_16 : decode cX9_loss 16 = .ok (.istore_n 2, 1) := by decide +kernel
theorem dX9_loss_17 : decode cX9_loss 17 = .ok (.iconst 0, 1) := by decide +kernel
theorem dX9_loss_18 : decode cX9_loss 18 = .ok (.istore_n 3, 1) := by decide +kernel
theorem dX9_loss_19 : decode cX9_loss 19 = .ok (.iload_n 3, 1) := by decide +kernel
theorem dX9_loss_20 : decode cX9_loss 20 = .ok (.aload_n 0, 1) := by decide +kernel
theorem dX9_loss_21 : decode cX9_loss 21 = .ok (.getfield 78, 3) := by decide +kernel
theorem dX9_loss_24 : decode cX9_loss 24 = .ok (.if_icmp .ge 26, 3) := by decide +kernel
theorem dX9_loss_27 : decode cX9_loss 27 = .ok (.iload_n 2, 1) := by decide +kernel
theorem dX9_loss_28 : decode cX9_loss 28 = .ok (.aload_n 0, 1) := by decide +kernel
theorem dX9_loss_29 : decode cX9_loss 29 = .ok (.iload_n 3, 1) := by decide +kernel
theorem dX9_loss_30 : decode cX9_loss 30 = .ok (.invokevirtual 103, 3) := by decide +kernel
theorem dX9_loss_33 : decode cX9_loss 33 = .ok (.iload_n 1, 1) := by decide +kernel
theorem dX9_loss_34 : decode cX9_loss 34 = .ok (.if_icmp .le 7, 3) := by decide +kernel
theorem dX9_loss_37 : decode cX9_loss 37 = .ok (.iconst 1, 1) := by decide +kernel
theorem dX9_loss_38 : decode cX9_loss 38 = .ok (.goto 4, 3) := by decide +kernel
theorem dX9_loss_41 : decode cX9_loss 41 = .ok (.iconst 0, 1) := by decide +kernel
theorem dX9_loss_42 : decode cX9_loss 42 = .ok (.iadd, 1) := by decide +kernel
theorem dX9_loss_43 : decode cX9_loss 43 = .ok (.istore_n 2, 1) := by decide +kernel
theorem dX9_loss_44 : decode cX9_loss 44 = .ok (.iinc 3 1, 3) := by decide +kernel
theorem dX9_loss_47 : decode cX9_loss 47 = .ok (.goto (-28), 3) := by decide +kernel
theorem dX9_loss_50 : decode cX9_loss 50 = .ok (.iload_n 2, 1) := by decide +kernel
theorem dX9_loss_51 : decode cX9_loss 51 = .ok (.ireturn, 1) := by decide +kernel
set_option maxRecDepth 20000 in
theorem ggX9_isUnder_X9_delay : GoodIn wsX9_isUnder wsX9_delay := goodIn_r _ [7, 8, 1, 9, 10, 11, 12, 13, 14, 15, 16, 17, 18, 19, 20, 21, 22, 23, 24, 25, 26, 27, 28, 29, 30, 31, 32, 33, 34, 35, 36] (by decide +kernel) (by decide +kernel)
set_option maxRecDepth 20000 in
theorem gX9_isUnder_X9_delay : GoodIn wsX9_isUnder (wsV RX9 103 RX9 yX9_delay wsX9_delay) := goodIn_app (goodIn_of _ (by decide +kernel)) ggX9_isUnder_X9_delay
theorem dX9_isUnder_0 : decode cX9_isUnder 0 = .ok (.aload_n 0, 1) := by decide +kernel
theorem dX9_isUnder_1 : decode cX9_isUnder 1 = .ok (.iload_n 2, 1) := by decide +kernel
theorem dX9_isUnder_2 : decode cX9_isUnder 2 = .ok (.invokevirtual 103, 3) := by decide +kernel
theorem dX9_isUnder_5 : decode cX9_isUnder 5 = .ok (.aload_n 0, 1) := by decide +kernel
theorem dX9_isUnder_6 : decode cX9_isUnder 6 = .ok (.iload_n 1, 1) := by decide +kernel
theorem dX9_isUnder_7 : decode cX9_isUnder 7 = .ok (.invokevirtual 103, 3) := by decide +kernel
theorem dX9_isUnder_10 : decode cX9_isUnder 10 = .ok (.isub, 1) := by decide +kernel
theorem dX9_isUnder_11 : decode cX9_isUnder 11 = .ok (.i2l, 1) := by decide +kernel
theorem dX9_isUnder_12 : decode cX9_isUnder 12 = .ok (.lstore_n 3, 1) := by decide +kernel
theorem dX9_isUnder_13 : decode cX9_isUnder 13 = .ok (.aload_n 0, 1) := by decide +kernel
theorem dX9_isUnder_14 : decode cX9_isUnder 14 = .ok (.getfield 23, 3) := by decide +kernel
theorem dX9_isUnder_17 : decode cX9_isUnder 17 = .ok (.iload_n 2, 1) := by decide +kernel
theorem dX9_isUnder_18 : decode cX9_isUnder 18 = .ok (.iaload, 1) := by decide +kernel
theorem dX9_isUnder_19 : decode cX9_isUnder 19 = .ok (.aload_n 0, 1) := by decide +kernel
theorem dX9_isUnder_20 : decode cX9_isUnder 20 = .ok (.getfield 23, 3) := by decide +kernel
theorem dX9_isUnder_23 : decode cX9_isUnder 23 = .ok (.iload_n 1, 1) := by decide +kernel
theorem dX9_isUnder_24 : decode cX9_isUnder 24 = .ok (.iaload, 1) := by decide +kernel
theorem dX9_isUnder_25 : decode cX9_isUnder 25 = .ok (.isub, 1) := by decide +kernel
theorem dX9_isUnder_26 : decode cX9_isUnder 26 = .ok (.i2l, 1) := by decide +kernel
theorem dX9_isUnder_27 : decode cX9_isUnder 27 = .ok (.lstore 5, 2) := by decide +kernel
theorem dX9_isUnder_29 : decode cX9_isUnder 29 = .ok (.iconst 0, 1) := by decide +kernel
theorem dX9_isUnder_30 : decode cX9_isUnder 30 = .ok (.istore 7, 2) := by decide +kernel
theorem dX9_isUnder_32 : decode cX9_isUnder 32 = .ok (.iload 7, 2) := by decide +kernel
theorem dX9_isUnder_34 : decode cX9_isUnder 34 = .ok (.aload_n 0, 1) := by decide +kernel
theorem dX9_isUnder_35 : decode cX9_isUnder 35 = .ok (.getfield 78, 3) := by decide +kernel
theorem dX9_isUnder_38 : decode cX9_isUnder 38 = .ok (.if_icmp .ge 48, 3) := by decide +kernel
theorem dX9_isUnder_41 : decode cX9_isUnder 41 = .ok (.aload_n 0, 1) := by decide +kernel
theorem dX9_isUnder_42 : decode cX9_isUnder 42 = .ok (.iload 7, 2) := by decide +kernel
theorem dX9_isUnder_44 : decode cX9_isUnder 44 = .ok (.invokevirtual 103, 3) := by decide +kernel
theorem dX9_isUnder_47 : decode cX9_isUnder 47 = .ok (.aload_n 0, 1) := by decide +kernel
theorem dX9_isUnder_48 : decode cX9_isUnder 48 = .ok (.iload_n 1, 1) := by decide +kernel
theorem dX9_isUnder_49 : decode cX9_isUnder 49 = .ok (.invokevirtual 103, 3) := by decide +kernel
theorem dX9_isUnder_52 : decode cX9_isUnder 52 = .ok (.isub, 1) := by decide +kernel
theorem dX9_isUnder_53 : decode cX9_isUnder 53 = .ok (.i2l, 1) := by decide +kernel
theorem dX9_isUnder_54 : decode cX9_isUnder 54 = .ok (.lload 5, 2) := by decide +kernel
theorem dX9_isUnder_56 : decode cX9_isUnder 56 = .ok (.lmul, 1) := by decide +kernel
theorem dX9_isUnder_57 : decode cX9_isUnder 57 = .ok (.lload_n 3, 1) := by decide +kernel
theorem dX9_isUnder_58 : decode cX9_isUnder 58 = .ok (.aload_n 0, 1) := by decide +kernel
theorem dX9_isUnder_59 : decode cX9_isUnder 59 = .ok (.getfield 23, 3) := by decide +kernel
theorem dX9_isUnder_62 : decode cX9_isUnder 62 = .ok (.iload 7, 2) := by decide +kernel
theorem dX9_isUnder_64 : decode cX9_isUnder 64 = .ok (.iaload, 1) := by decide +kernel
theorem dX9_isUnder_65 : decode cX9_isUnder 65 = .ok (.aload_n 0, 1) := by decide +kernel
theorem dX9_isUnder_66 : decode cX9_isUnder 66 = .ok (.getfield 23, 3) := by decide +kernel
theorem dX9_isUnder_69 : decode cX9_isUnder 69 = .ok (.iload_n 1, 1) := by decide +kernel
theorem dX9_isUnder_70 : decode cX9_isUnder 70 = .ok (.iaload, 1) := by decide +kernel
theorem dX9_isUnder_71 : decode cX9_isUnder 71 = .ok (.isub, 1) := by decide +kernel
theorem dX9_isUnder_72 : decode cX9_isUnder 72 = .ok (.i2l, 1) := by decide +kernel
theorem dX9_isUnder_73 : decode cX9_isUnder 73 = .ok (.lmul, 1) := by decide +kernel
theorem dX9_isUnder_74 : decode cX9_isUnder 74 = .ok (.lcmp, 1) := by decide +kernel
theorem dX9_isUnder_75 : decode cX9_isUnder 75 = .ok (.ifCond .ge 5, 3) := by decide +kernel
theorem dX9_isUnder_78 : decode cX9_isUnder 78 = .ok (.iconst 0, 1) := by decide +kernel
theorem dX9_isUnder_79 : decode cX9_isUnder 79 = .ok (.ireturn, 1) := by decide +kernel
theorem dX9_isUnder_80 : decode cX9_isUnder 80 = .ok (.iinc 7 1, 3) := by decide +kernel
theorem dX9_isUnder_83 : decode cX9_isUnder 83 = .ok (.goto (-51), 3) := by decide +kernel
theorem dX9_isUnder_86 : decode cX9_isUnder 86 = .ok (.iconst 1, 1) := by decide +kernel
theorem dX9_isUnder_87 : decode cX9_isUnder 87 = .ok (.ireturn, 1) := by decide +kernel
set_option maxRecDepth 20000 in
theorem ggX9_findDrift_X9_isUnder : GoodIn wsX9_findDrift wsX9_isUnder := goodIn_r _ [9, 4, 3, 10, 11, 12, 8, 13, 14, 15, 16, 17, 18, 19, 20, 21, 22, 23, 24, 25, 26, 27, 28, 29, 30, 31, 32, 33, 34, 35, 36, 37, 38, 39, 40, 41, 42] (by decide +kernel) (by decide +kernel)
set_option maxRecDepth 20000 in
theorem gX9_findDrift_X9_isUnder : GoodIn wsX9_findDrift (wsV RX9 173 RX9 yX9_isUnder wsX9_isUnder) := goodIn_app (goodIn_of _ (by decide +kernel)) ggX9_findDrift_X9_isUnder
set_option maxRecDepth 20000 in
theorem ggX9_findDrift_X9_delay : GoodIn wsX9_findDrift wsX9_delay := goodIn_r _ [13, 14, 4, 15, 16, 17, 18, 19, 20, 21, 22, 23, 24, 25, 26, 27, 28, 29, 30, 31, 32, 33, 34, 35, 36, 37, 38, 39, 40, 41, 42] (by decide +kernel) (by decide +kernel)
set_option maxRecDepth 20000 in
theorem gX9_findDrift_X9_delay : GoodIn wsX9_findDrift (wsV RX9 103 RX9 yX9_delay wsX9_delay) := goodIn_app (goodIn_of _ (by decide +kernel)) ggX9_findDrift_X9_delay
theorem dX9_findDrift_0 : decode cX9_findDrift 0 = .ok (.aload_n 0, 1) := by decide +kernel
theorem dX9_findDrift_1 : decode cX9_findDrift 1 = .ok (.lconst 0, 1) := by decide +kernel
theorem dX9_findDrift_2 : decode cX9_findDrift 2 = .ok (.putfield 122, 3) := by decide +kernel
theorem dX9_findDrift_5 : decode cX9_findDrift 5 = .ok (.aload_n 0, 1) := by decide +kernel
theorem dX9_findDrift_6 : decode cX9_findDrift 6 = .ok (.lconst 1, 1) := by decide +kernel
theorem dX9_findDrift_7 : decode cX9_findDrift 7 = .ok (.putfield 126, 3) := by decide +kernel
theorem dX9_findDrift_10 : decode cX9_findDrift 10 = .ok (.iconst 0, 1) := by decide +kernel
theorem dX9_findDrift_11 : decode cX9_findDrift 11 = .ok (.istore_n 1, 1) := by decide +kernel
theorem dX9_findDrift_12 : decode cX9_findDrift 12 = .ok (.sipush 300, 3) := by decide +kernel
theorem dX9_findDrift_15 : decode cX9_findDrift 15 = .ok (.istore_n 2, 1) := by decide +kernel
theorem dX9_findDrift_16 : decode cX9_findDrift 16 = .ok (.iconst 0, 1) := by decide +kernel
theorem dX9_findDrift_17 : decode cX9_findDrift 17 = .ok (.istore_n 3, 1) := by decide +kernel
theorem dX9_findDrift_18 : decode cX9_findDrift 18 = .ok (.iconst 0, 1) := by decide +kernel
theorem dX9_findDrift_19 : decode cX9_findDrift 19 = .ok (.istore 4, 2) := by decide +kernel
theorem dX9_findDrift_21 : decode cX9_findDrift 21 = .ok (.iload 4, 2) := by decide +kernel
theorem dX9_findDrift_23 : decode cX9_findDrift 23 = .ok (.aload_n 0, 1) := by decide +kernel
theorem dX9_findDrift_24 : decode cX9_findDrift 24 = .ok (.getfield 78, 3) := by decide +kernel
theorem dX9_findDrift_27 : decode cX9_findDrift 27 = .ok (.if_icmp .ge 55, 3) := by decide +kernel
theorem dX9_findDrift_30 : decode cX9_findDrift 30 = .ok (.aload_n 0, 1) := by decide +kernel
theorem dX9_findDrift_31 : decode cX9_findDrift 31 = .ok (.getfield 23, 3) := by decide +kernel
theorem dX9_findDrift_34 : decode cX9_findDrift 34 = .ok (.iload 4, 2) := by decide +kernel
theorem dX9_findDrift_36 : decode cX9_findDrift 36 = .ok (.iaload, 1) := by decide +kernel
theorem dX9_findDrift_37 : decode cX9_findDrift 37 = .ok (.iload_n 2, 1) := by decide +kernel
theorem dX9_findDrift_38 : decode cX9_findDrift 38 = .ok (.if_icmp .ge 13, 3) := by decide +kernel
theorem dX9_findDrift_41 : decode cX9_findDrift 41 = .ok (.aload_n 0, 1) := by decide +kernel
theorem dX9_findDrift_42 : decode cX9_findDrift 42 = .ok (.getfield 23, 3) := by decide +kernel
theorem dX9_findDrift_45 : decode cX9_findDrift 45 = .ok (.iload 4, 2) := by decide +kernel
theorem dX9_findDrift_47 : decode cX9_findDrift 47 = .ok (.iaload, 1) := by decide +kernel
theorem dX9_findDrift_48 : decode cX9_findDrift 48 = .ok (.goto 4, 3) := by decide +kernel
theorem dX9_findDrift_51 : decode cX9_findDrift 51 = .ok (.iload_n 2, 1) := by decide +kernel
theorem dX9_findDrift_52 : decode cX9_findDrift 52 = .ok (.istore_n 2, 1) := by decide +kernel
theorem dX9_findDrift_53 : decode cX9_findDrift 53 = .ok (.aload_n 0, 1) := by decide +kernel
theorem dX9_findDrift_54 : decode cX9_findDrift 54 = .ok (.getfield 23, 3) := by decide +kernel
theorem dX9_findDrift_57 : decode cX9_findDrift 57 = .ok (.iload 4, 2) := by decide +kernel
theorem dX9_findDrift_59 : decode cX9_findDrift 59 = .ok (.iaload, 1) := by decide +kernel
theorem dX9_findDrift_60 : decode cX9_findDrift 60 = .ok (.iload_n 3, 1) := by decide +kernel
theorem dX9_findDrift_61 : decode cX9_findDrift 61 = .ok (.if_icmp .le 13, 3) := by decide +kernel
theorem dX9_findDrift_64 : decode cX9_findDrift 64 = .ok (.aload_n 0, 1) := by decide +kernel
theorem dX9_findDrift_65 : decode cX9_findDrift 65 = .ok (.getfield 23, 3) := by decide +kernel
theorem dX9_findDrift_68 : decode cX9_findDrift 68 = .ok (.iload 4, 2) := by decide +kernel
theorem dX9_findDrift_70 : decode cX9_findDrift 70 = .ok (.iaload, 1) := by decide +kernel
theorem dX9_findDrift_71 : decode cX9_findDrift 71 = .ok (.goto 4, 3) := by decide +kernel
theorem dX9_findDrift_74 : decode cX9_findDrift 74 = .ok (.iload_n 3, 1) := by decide +kernel
theorem dX9_findDrift_75 : decode cX9_findDrift 75 = .ok (.istore_n 3, 1) := by decide +kernel
theorem dX9_findDrift_76 : decode cX9_findDrift 76 = .ok (.iinc 4 1, 3) := by decide +kernel
theorem dX9_findDrift_79 : decode cX9_findDrift 79 = .ok (.goto (-58), 3) := by decide +kernel
theorem dX9_findDrift_82 : decode cX9_findDrift 82 = .ok (.iconst 0, 1) := by decide +kernel
theorem dX9_findDrift_83 : decode cX9_findDrift 83 = .ok (.istore 4, 2) := by decide +kernel
theorem dX9_findDrift_85 : decode cX9_findDrift 85 = .ok (.iload 4, 2) := by decide +kernel
theorem dX9_findDrift_87 : decode cX9_findDrift 87 = .ok (.aload_n 0, 1) := by decide +kernel
theorem dX9_findDrift_88 : decode cX9_findDrift 88 = .ok (.getfield 78, 3) := by decide +kernel
theorem dX9_findDrift_91 : decode cX9_findDrift 91 = .ok (.if_icmp .ge 198, 3) := by decide +kernel
theorem dX9_findDrift_94 : decode cX9_findDrift 94 = .ok (.iconst 0, 1) := by decide +kernel
theorem dX9_findDrift_95 : decode cX9_findDrift 95 = .ok (.istore 5, 2) := by decide +kernel
theorem dX9_findDrift_97 : decode cX9_findDrift 97 = .ok (.iload 5, 2) := by decide +kernel
theorem dX9_findDrift_99 : decode cX9_findDrift 99 = .ok (.aload_n 0, 1) := by decide +kernel
theorem dX9_findDrift_100 : decode cX9_findDrift 100 = .ok (.getfield 78, 3) := by decide +kernel
theorem dX9_findDrift_103 : decode cX9_findDrift 103 = .ok (.if_icmp .ge 180, 3) := by decide +kernel
theorem dX9_findDrift_106 : decode cX9_findDrift 106 = .ok (.aload_n 0, 1) := by decide +kernel
theorem dX9_findDrift_107 : decode cX9_findDrift 107 = .ok (.getfield 23, 3) := by decide +kernel
theorem dX9_findDrift_110 : decode cX9_findDrift 110 = .ok (.iload 4, 2) := by decide +kernel
theorem dX9_findDrift_112 : decode cX9_findDrift 112 = .ok (.iaload, 1) := by decide +kernel
theorem dX9_findDrift_113 : decode cX9_findDrift 113 = .ok (.aload_n 0, 1) := by decide +kernel
theorem dX9_findDrift_114 : decode cX9_findDrift 114 = .ok (.getfield 23, 3) := by decide +kernel
theorem dX9_findDrift_117 : decode cX9_findDrift 117 = .ok (.iload 5, 2) := by decide +kernel
theorem dX9_findDrift_119 : decode cX9_findDrift 119 = .ok (.iaload, 1) := by decide +kernel
theorem dX9_findDrift_120 : decode cX9_findDrift 120 = .ok (.if_icmp .ge 37, 3) := by decide +kernel
theorem dX9_findDrift_123 : decode cX9_findDrift 123 = .ok (.iconst 2, 1) := by decide +kernel
theorem dX9_findDrift_124 : decode cX9_findDrift 124 = .ok (.aload_n 0, 1) := by decide +kernel
theorem dX9_findDrift_125 : decode cX9_findDrift 125 = .ok (.getfield 23, 3) := by decide +kernel
theorem dX9_findDrift_128 : decode cX9_findDrift 128 = .ok (.iload 4, 2) := by decide +kernel
theorem dX9_findDrift_130 : decode cX9_findDrift 130 = .ok (.iaload, 1) := by decide +kernel
theorem dX9_findDrift_131 : decode cX9_findDrift 131 = .ok (.imul, 1) := by decide +kernel
theorem dX9_findDrift_132 : decode cX9_findDrift 132 = .ok (.iload_n 2, 1) := by decide +kernel
theorem dX9_findDrift_133 : decode cX9_findDrift 133 = .ok (.iload_n 3, 1) := by decide +kernel
theorem dX9_findDrift_134 : decode cX9_findDrift 134 = .ok (.iadd, 1) := by decide +kernel
theorem dX9_findDrift_135 : decode cX9_findDrift 135 = .ok (.if_icmp .gt 22, 3) := by decide +kernel
theorem dX9_findDrift_138 : decode cX9_findDrift 138 = .ok (.iconst 2, 1) := by decide +kernel
theorem dX9_findDrift_139 : decode cX9_findDrift 139 = .ok (.aload_n 0, 1) := by decide +kernel
theorem dX9_findDrift_140 : decode cX9_findDrift 140 = .ok (.getfield 23, 3) := by decide +kernel
theorem dX9_findDrift_143 : decode cX9_findDrift 143 = .ok (.iload 5, 2) := by decide +kernel
theorem dX9_findDrift_145 : decode cX9_findDrift 145 = .ok (.iaload, 1) := by decide +kernel
theorem dX9_findDrift_146 : decode cX9_findDrift 146 = .ok (.imul, 1) := by decide +kernel
theorem dX9_findDrift_147 : decode cX9_findDrift 147 = .ok (.iload_n 2, 1) := by decide +kernel
theorem dX9_findDrift_148 : decode cX9_findDrift 148 = .ok (.iload_n 3, 1) := by decide +kernel
theorem dX9_findDrift_149 : decode cX9_findDrift 149 = .ok (.iadd, 1) := by decide +kernel
theorem dX9_findDrift_150 : decode cX9_findDrift 150 = .ok (.if_icmp .lt 7, 3) := by decide +kernel
theorem dX9_findDrift_153 : decode cX9_findDrift 153 = .ok (.iconst 1, 1) := by decide +kernel
theorem dX9_findDrift_154 : decode cX9_findDrift 154 = .ok (.goto 4, 3) := by decide +kernel
theorem dX9_findDrift_157 : decode cX9_findDrift 157 = .ok (.iconst 0, 1) := by decide +kernel
theorem dX9_findDrift_158 : decode cX9_findDrift 158 = .ok (.istore 6, 2) := by decide +kernel
theorem dX9_findDrift_160 : decode cX9_findDrift 160 = .ok (.iload 6, 2) := by decide +kernel
theorem dX9_findDrift_162 : decode cX9_findDrift 162 = .ok (.ifCond .eq 115, 3) := by decide +kernel
theorem dX9_findDrift_165 : decode cX9_findDrift 165 = .ok (.aload_n 0, 1) := by decide +kernel
theorem dX9_findDrift_166 : decode cX9_findDrift 166 = .ok (.iload 4, 2) := by decide +kernel
theorem dX9_findDrift_168 : decode cX9_findDrift 168 = .ok (.iload 5, 2) := by decide +kernel
theorem dX9_findDrift_170 : decode cX9_findDrift 170 = .ok (.invokevirtual 173, 3) := by decide +kernel
theorem dX9_findDrift_173 : decode cX9_findDrift 173 = .ok (.ifCond .eq 104, 3) := by decide +kernel
theorem dX9_findDrift_176 : decode cX9_findDrift 176 = .ok (.aload_n 0, 1) := by decide +kernel
theorem dX9_findDrift_177 : decode cX9_findDrift 177 = .ok (.iload 5, 2) := by decide +kernel
theorem dX9_findDrift_179 : decode cX9_findDrift 179 = .ok (.invokevirtual 103, 3) := by decide +kernel
theorem dX9_findDrift_182 : decode cX9_findDrift 182 = .ok (.aload_n 0, 1) := by decide +kernel
theorem dX9_findDrift_183 : decode cX9_findDrift 183 = .ok (.iload 4, 2) := by decide +kernel
theorem dX9_findDrift_185 : decode cX9_findDrift 185 = .ok (.invokevirtual 103, 3) := by decide +kernel
theorem dX9_findDrift_188 : decode cX9_findDrift 188 = .ok (.isub, 1) := by decide +kernel
theorem dX9_findDrift_189 : decode cX9_findDrift 189 = .ok (.i2l, 1) := by decide +kernel
theorem dX9_findDrift_190 : decode cX9_findDrift 190 = .ok (.lstore 7, 2) := by decide +kernel
theorem dX9_findDrift_192 : decode cX9_findDrift 192 = .ok (.aload_n 0, 1) := by decide +kernel
theorem dX9_findDrift_193 : decode cX9_findDrift 193 = .ok (.getfield 23, 3) := by decide +kernel
theorem dX9_findDrift_196 : decode cX9_findDrift 196 = .ok (.iload 5, 2) := by decide +kernel
theorem dX9_findDrift_198 : decode cX9_findDrift 198 = .ok (.iaload, 1) := by decide +kernel
theorem dX9_findDrift_199 : decode cX9_findDrift 199 = .ok (.aload_n 0, 1) := by decide +kernel
theorem dX9_findDrift_200 : decode cX9_findDrift 200 = .ok (.getfield 23, 3) := by decide +kernel
theorem dX9_findDrift_203 : decode cX9_findDrift 203 = .ok (.iload 4, 2) := by decide +kernel
theorem dX9_findDrift_205 : decode cX9_findDrift 205 = .ok (.iaload, 1) := by decide +kernel
theorem dX9_findDrift_206 : decode cX9_findDrift 206 = .ok (.isub, 1) := by decide +kernel
theorem dX9_findDrift_207 : decode cX9_findDrift 207 = .ok (.i2l, 1) := by decide +kernel
theorem dX9_findDrift_208 : decode cX9_findDrift 208 = .ok (.lstore 9, 2) := by decide +kernel
theorem dX9_findDrift_210 : decode cX9_findDrift 210 = .ok (.iload_n 1, 1) := by decide +kernel
theorem dX9_findDrift_211 : decode cX9_findDrift 211 = .ok (.ifCond .eq 21, 3) := by decide +kernel
theorem dX9_findDrift_214 : decode cX9_findDrift 214 = .ok (.lload 7, 2) := by decide +kernel
theorem dX9_findDrift_216 : decode cX9_findDrift 216 = .ok (.aload_n 0, 1) := by decide +kernel
theorem dX9_findDrift_217 : decode cX9_findDrift 217 = .ok (.getfield 126, 3) := by decide +kernel
theorem dX9_findDrift_220 : decode cX9_findDrift 220 = .ok (.lmul, 1) := by decide +kernel
theorem dX9_findDrift_221 : decode cX9_findDrift 221 = .ok (.aload_n 0, 1) := by decide +kernel
theorem dX9_findDrift_222 : decode cX9_findDrift 222 = .ok (.getfield 122, 3) := by decide +kernel
theorem dX9_findDrift_225 : decode cX9_findDrift 225 = .ok (.lload 9, 2) := by decide +kernel
theorem dX9_findDrift_227 : decode cX9_findDrift 227 = .ok (.lmul, 1) := by decide +kernel
theorem dX9_findDrift_228 : decode cX9_findDrift 228 = .ok (.lcmp, 1) := by decide +kernel
theorem dX9_findDrift_229 : decode cX9_findDrift 229 = .ok (.ifCond .ge 7, 3) := by decide +kernel
theorem dX9_findDrift_232 : decode cX9_findDrift 232 = .ok (.iconst 1, 1) := by decide +kernel
theorem dX9_findDrift_233 : decode cX9_findDrift 233 = .ok (.goto 4, 3) := by decide +kernel
theorem dX9_findDrift_236 : decode cX9_findDrift 236 = .ok (.iconst 0, 1) := by decide +kernel
theorem dX9_findDrift_237 : decode cX9_findDrift 237 = .ok (.istore 11, 2) := by decide +kernel
theorem dX9_findDrift_239 : decode cX9_findDrift 239 = .ok (.aload_n 0, 1) := by decide +kernel
theorem dX9_findDrift_240 : decode cX9_findDrift 240 = .ok (.iload 11, 2) := by decide +kernel
theorem dX9_findDrift_242 : decode cX9_findDrift 242 = .ok (.ifCond .eq 8, 3) := by decide +kernel
theorem dX9_findDrift_245 : decode cX9_findDrift 245 = .ok (.lload 7, 2) := by decide +kernel
theorem dX9_findDrift_247 : decode cX9_findDrift 247 = .ok (.goto 7, 3) := by decide +kernel
theorem dX9_findDrift_250 : decode cX9_findDrift 250 = .ok (.aload_n 0, 1) := by decide +kernel
theorem dX9_findDrift_251 : decode cX9_findDrift 251 = .ok (.getfield 122, 3) := by decide +kernel
theorem dX9_findDrift_254 : decode cX9_findDrift 254 = .ok (.putfield 122, 3) := by decide +kernel
theorem dX9_findDrift_257 : decode cX9_findDrift 257 = .ok (.aload_n 0, 1) := by decide +kernel
theorem dX9_findDrift_258 : decode cX9_findDrift 258 = .ok (.iload 11, 2) := by decide +kernel
theorem dX9_findDrift_260 : decode cX9_findDrift 260 = .ok (.ifCond .eq 8, 3) := by decide +kernel
theorem dX9_findDrift_263 : decode cX9_findDrift 263 = .ok (.lload 9, 2) := by decide +kernel
theorem dX9_findDrift_265 : decode cX9_findDrift 265 = .ok (.goto 7, 3) := by decide +kernel
theorem dX9_findDrift_268 : decode cX9_findDrift 268 = .ok (.aload_n 0, 1) := by decide +kernel
theorem dX9_findDrift_269 : decode cX9_findDrift 269 = .ok (.getfield 126, 3) := by decide +kernel
theorem dX9_findDrift_272 : decode cX9_findDrift 272 = .ok (.putfield 126, 3) := by decide +kernel
theorem dX9_findDrift_275 : decode cX9_findDrift 275 = .ok (.iconst 1, 1) := by decide +kernel
theorem dX9_findDrift_276 : decode cX9_findDrift 276 = .ok (.istore_n 1, 1) := by decide +kernel
theorem dX9_findDrift_277 : decode cX9_findDrift 277 = .ok (.iinc 5 1, 3) := by decide +kernel
theorem dX9_findDrift_280 : decode cX9_findDrift 280 = .ok (.goto (-183), 3) := by decide +kernel
theorem dX9_findDrift_283 : decode cX9_findDrift 283 = .ok (.iinc 4 1, 3) := by decide +kernel
theorem dX9_findDrift_286 : decode cX9_findDrift 286 = .ok (.goto (-201), 3) := by decide +kernel
theorem dX9_findDrift_289 : decode cX9_findDrift 289 = .ok (.aload_n 0, 1) := by decide +kernel
theorem dX9_findDrift_290 : decode cX9_findDrift 290 = .ok (.getfield 122, 3) := by decide +kernel
theorem dX9_findDrift_293 : decode cX9_findDrift 293 = .ok (.lconst 0, 1) := by decide +kernel
theorem dX9_findDrift_294 : decode cX9_findDrift 294 = .ok (.lcmp, 1) := by decide +kernel
theorem dX9_findDrift_295 : decode cX9_findDrift 295 = .ok (.ifCond .ge 11, 3) := by decide +kernel
theorem dX9_findDrift_298 : decode cX9_findDrift 298 = .ok (.aload_n 0, 1) := by decide +kernel
theorem dX9_findDrift_299 : decode cX9_findDrift 299 = .ok (.getfield 122, 3) := by decide +kernel
theorem dX9_findDrift_302 : decode cX9_findDrift 302 = .ok (.lneg, 1) := by decide +kernel
theorem dX9_findDrift_303 : decode cX9_findDrift 303 = .ok (.goto 7, 3) := by decide +kernel
theorem dX9_findDrift_306 : decode cX9_findDrift 306 = .ok (.aload_n 0, 1) := by decide +kernel
theorem dX9_findDrift_307 : decode cX9_findDrift 307 = .ok (.getfield 122, 3) := by decide +kernel
theorem dX9_findDrift_310 : decode cX9_findDrift 310 = .ok (.lstore 4, 2) := by decide +kernel
theorem dX9_findDrift_312 : decode cX9_findDrift 312 = .ok (.aload_n 0, 1) := by decide +kernel
theorem dX9_findDrift_313 : decode cX9_findDrift 313 = .ok (.getfield 126, 3) := by decide +kernel
theorem dX9_findDrift_316 : decode cX9_findDrift 316 = .ok (.lstore 6, 2) := by decide +kernel
theorem dX9_findDrift_318 : decode cX9_findDrift 318 = .ok (.lload 6, 2) := by decide +kernel
theorem dX9_findDrift_320 : decode cX9_findDrift 320 = .ok (.lconst 0, 1) := by decide +kernel
theorem dX9_findDrift_321 : decode cX9_findDrift 321 = .ok (.lcmp, 1) := by decide +kernel
theorem dX9_findDrift_322 : decode cX9_findDrift 322 = .ok (.ifCond .eq 21, 3) := by decide +kernel
theorem dX9_findDrift_325 : decode cX9_findDrift 325 = .ok (.lload 4, 2) := by decide +kernel
theorem dX9_findDrift_327 : decode cX9_findDrift 327 = .ok (.lload 6, 2) := by decide +kernel
theorem dX9_findDrift_329 : decode cX9_findDrift 329 = .ok (.lrem, 1) := by decide +kernel
theorem dX9_findDrift_330 : decode cX9_findDrift 330 = .ok (.lstore 8, 2) := by decide +kernel
theorem dX9_findDrift_332 : decode cX9_findDrift 332 = .ok (.lload 6, 2) := by decide +kernel
theorem dX9_findDrift_334 : decode cX9_findDrift 334 = .ok (.lstore 4, 2) := by decide +kernel
theorem dX9_findDrift_336 : decode cX9_findDrift 336 = .ok (.lload 8, 2) := by decide +kernel
theorem dX9_findDrift_338 : decode cX9_findDrift 338 = .ok (.lstore 6, 2) := by decide +kernel
theorem dX9_findDrift_340 : decode cX9_findDrift 340 = .ok (.goto (-22), 3) := by decide +kernel
theorem dX9_findDrift_343 : decode cX9_findDrift 343 = .ok (.aload_n 0, 1) := by decide +kernel
theorem dX9_findDrift_344 : decode cX9_findDrift 344 = .ok (.dup, 1) := by decide +kernel
theorem dX9_findDrift_345 : decode cX9_findDrift 345 = .ok (.getfield 122, 3) := by decide +kernel
theorem dX9_findDrift_348 : decode cX9_findDrift 348 = .ok (.lload 4, 2) := by decide +kernel
theorem dX9_findDrift_350 : decode cX9_findDrift 350 = .ok (.ldiv, 1) := by decide +kernel
theorem dX9_findDrift_351 : decode cX9_findDrift 351 = .ok (.putfield 122, 3) := by decide +kernel
theorem dX9_findDrift_354 : decode cX9_findDrift 354 = .ok (.aload_n 0, 1) := by decide +kernel
theorem dX9_findDrift_355 : decode cX9_findDrift 355 = .ok (.dup, 1) := by decide +kernel
theorem dX9_findDrift_356 : decode cX9_findDrift 356 = .ok (.getfield 126, 3) := by decide +kernel
theorem dX9_findDrift_359 : decode cX9_findDrift 359 = .ok (.lload 4, 2) := by decide +kernel
theorem dX9_findDrift_361 : decode cX9_findDrift 361 = .ok (.ldiv, 1) := by decide +kernel
theorem dX9_findDrift_362 : decode cX9_findDrift 362 = .ok (.putfield 126, 3) := by decide +kernel
theorem dX9_findDrift_365 : decode cX9_findDrift 365 = .ok (.return_, 1) := by decide +kernel
set_option maxRecDepth 20000 in
theorem ggX9_drift_X9_within : GoodIn wsX9_drift wsX9_within := goodIn_r _ [7] (by decide +kernel) (by decide +kernel)
set_option maxRecDepth 20000 in
theorem gX9_drift_X9_within : GoodIn wsX9_drift (va_wsS RX9 54 yX9_within wsX9_within) := goodIn_app (goodIn_of _ (by decide +kernel)) ggX9_drift_X9_within
set_option maxRecDepth 20000 in
theorem ggX9_drift_X9_findDrift : GoodIn wsX9_drift wsX9_findDrift := goodIn_r _ [11, 2, 3, 12, 13, 14, 15, 16, 6, 17, 18, 19, 20, 21, 22, 23, 24, 25, 26, 27, 28, 29, 30, 31, 32, 33, 34, 35, 36, 37, 38, 39, 40, 41, 42, 43, 44, 45, 46, 47, 48, 49, 50] (by decide +kernel) (by decide +kernel)
set_option maxRecDepth 20000 in
theorem gX9_drift_X9_findDrift : GoodIn wsX9_drift (wsV RX9 119 RX9 yX9_findDrift wsX9_findDrift) := goodIn_app (goodIn_of _ (by decide +kernel)) ggX9_drift_X9_findDrift
theorem dX9_drift_0 : decode cX9_drift 0 = .ok (.iload_n 1, 1) := by decide +kernel
theorem dX9_drift_1 : decode cX9_drift 1 = .ok (.iconst 0, 1) := by decide +kernel
theorem dX9_drift_2 : decode cX9_drift 2 = .ok (.iconst 1, 1) := by decide +kernel
theorem dX9_drift_3 : decode cX9_drift 3 = .ok (.invokestatic 54, 3) := by decide +kernel
theorem dX9_drift_6 : decode cX9_drift 6 = .ok (.ifCond .ne 7, 3) := by decide +kernel
theorem dX9_drift_9 : decode cX9_drift 9 = .ok (.ldc2_w 177, 3) := by decide +kernel
theorem dX9_drift_12 : decode cX9_drift 12 = .ok (.lreturn, 1) := by decide +kernel
theorem dX9_drift_13 : decode cX9_drift 13 = .ok (.aload_n 0, 1) := by decide +kernel
theorem dX9_drift_14 : decode cX9_drift 14 = .ok (.invokevirtual 119, 3) := by decide +kernel
theorem dX9_drift_17 : decode cX9_drift 17 = .ok (.iload_n 1, 1) := by decide +kernel
theorem dX9_drift_18 : decode cX9_drift 18 = .ok (.ifCond .ne 10, 3) := by decide +kernel
theorem dX9_drift_21 : decode cX9_drift 21 = .ok (.aload_n 0, 1) := by decide +kernel
theorem dX9_drift_22 : decode cX9_drift 22 = .ok (.getfield 122, 3) := by decide +kernel
theorem dX9_drift_25 : decode cX9_drift 25 = .ok (.goto 7, 3) := by decide +kernel
theorem dX9_drift_28 : decode cX9_drift 28 = .ok (.aload_n 0, 1) := by decide +kernel
theorem dX9_drift_29 : decode cX9_drift 29 = .ok (.getfield 126, 3) := by decide +kernel
theorem dX9_drift_32 : decode cX9_drift 32 = .ok (.lreturn, 1) := by decide +kernel
set_option maxRecDepth 20000 in
theorem ggX9_waiting_X9_within : GoodIn wsX9_waiting wsX9_within := goodIn_r _ [7] (by decide +kernel) (by decide +kernel)
set_option maxRecDepth 20000 in
theorem gX9_waiting_X9_within : GoodIn wsX9_waiting (va_wsS RX9 54 yX9_within wsX9_within) := goodIn_app (goodIn_of _ (by decide +kernel)) ggX9_waiting_X9_within
set_option maxRecDepth 20000 in
theorem ggX9_waiting_X9_isPlayed : GoodIn wsX9_waiting wsX9_isPlayed := goodIn_r _ [11, 12, 13, 14, 15, 16, 6, 17, 3, 18, 23, 24, 25, 26, 27, 28, 29, 30, 31, 32, 33, 34, 35, 36, 37, 38, 39, 40, 41, 42, 43, 44, 45, 46, 47, 48, 49, 50] (by decide +kernel) (by decide +kernel)
set_option maxRecDepth 20000 in
theorem gX9_waiting_X9_isPlayed : GoodIn wsX9_waiting (wsV RX9 147 RX9 yX9_isPlayed wsX9_isPlayed) := goodIn_app (goodIn_of _ (by decide +kernel)) ggX9_waiting_X9_isPlayed
set_option maxRecDepth 20000 in
theorem ggX9_waiting_X9_playedAt : GoodIn wsX9_waiting wsX9_playedAt := goodIn_r _ [22, 18, 12, 13, 23, 24, 25, 26, 27, 28, 29, 30, 31, 32, 33, 34, 35, 36, 37, 38, 39, 40, 41, 42, 43, 44, 45, 46, 47, 48, 49, 50] (by decide +kernel) (by decide +kernel)
set_option maxRecDepth 20000 in
theorem gX9_waiting_X9_playedAt : GoodIn wsX9_waiting (wsV RX9 151 RX9 yX9_playedAt wsX9_playedAt) := goodIn_app (goodIn_of _ (by decide +kernel)) ggX9_waiting_X9_playedAt
theorem dX9_waiting_0 : decode cX9_waiting 0 = .ok (.iload_n 1, 1) := by decide +kernel
theorem dX9_waiting_1 : decode cX9_waiting 1 = .ok (.iconst 0, 1) := by decide +kernel
theorem dX9_waiting_2 : decode cX9_waiting 2 = .ok (.ldc 179, 2) := by decide +kernel
theorem dX9_waiting_4 : decode cX9_waiting 4 = .ok (.invokestatic 54, 3) := by decide +kernel
theorem dX9_waiting_7 : decode cX9_waiting 7 = .ok (.ifCond .ne 6, 3) := by decide +kernel
theorem dX9_waiting_10 : decode cX9_waiting 10 = .ok (.bipush (-2), 2) := by decide +kernel
theorem dX9_waiting_12 : decode cX9_waiting 12 = .ok (.ireturn, 1) := by decide +kernel
theorem dX9_waiting_13 : decode cX9_waiting 13 = .ok (.iconst 0, 1) := by decide +kernel
theorem dX9_waiting_14 : decode cX9_waiting 14 = .ok (.istore_n 2, 1) := by decide +kernel
theorem dX9_waiting_15 : decode cX9_waiting 15 = .ok (.iconst 0, 1) := by decide +kernel
theorem dX9_waiting_16 : decode cX9_waiting 16 = .ok (.istore_n 3, 1) := by decide +kernel
theorem dX9_waiting_17 : decode cX9_waiting 17 = .ok (.iload_n 3, 1) := by decide +kernel
theorem dX9_waiting_18 : decode cX9_waiting 18 = .ok (.aload_n 0, 1) := by decide +kernel
theorem dX9_waiting_19 : decode cX9_waiting 19 = .ok (.getfield 78, 3) := by decide +kernel
theorem dX9_waiting_22 : decode cX9_waiting 22 = .ok (.if_icmp .ge 44, 3) := by decide +kernel
theorem dX9_waiting_25 : decode cX9_waiting 25 = .ok (.iload_n 2, 1) := by decide +kernel
theorem dX9_waiting_26 : decode cX9_waiting 26 = .ok (.aload_n 0, 1) := by decide +kernel
theorem dX9_waiting_27 : decode cX9_waiting 27 = .ok (.getfield 26, 3) := by decide +kernel
theorem dX9_waiting_30 : decode cX9_waiting 30 = .ok (.iload_n 3, 1) := by decide +kernel
theorem dX9_waiting_31 : decode cX9_waiting 31 = .ok (.iaload, 1) := by decide +kernel
theorem dX9_waiting_32 : decode cX9_waiting 32 = .ok (.iload_n 1, 1) := by decide +kernel
theorem dX9_waiting_33 : decode cX9_waiting 33 = .ok (.if_icmp .gt 24, 3) := by decide +kernel
theorem dX9_waiting_36 : decode cX9_waiting 36 = .ok (.aload_n 0, 1) := by decide +kernel
theorem dX9_waiting_37 : decode cX9_waiting 37 = .ok (.iload_n 3, 1) := by decide +kernel
theorem dX9_waiting_38 : decode cX9_waiting 38 = .ok (.invokevirtual 147, 3) := by decide +kernel
theorem dX9_waiting_41 : decode cX9_waiting 41 = .ok (.ifCond .eq 16, 3) := by decide +kernel
theorem dX9_waiting_44 : decode cX9_waiting 44 = .ok (.aload_n 0, 1) := by decide +kernel
theorem dX9_waiting_45 : decode cX9_waiting 45 = .ok (.iload_n 3, 1) := by decide +kernel
theorem dX9_waiting_46 : decode cX9_waiting 46 = .ok (.invokevirtual 151, 3) := by decide +kernel
theorem dX9_waiting_49 : decode cX9_waiting 49 = .ok (.iload_n 1, 1) := by decide +kernel
theorem dX9_waiting_50 : decode cX9_waiting 50 = .ok (.if_icmp .le 7, 3) := by decide +kernel
theorem dX9_waiting_53 : decode cX9_waiting 53 = .ok (.iconst 1, 1) := by decide +kernel
theorem dX9_waiting_54 : decode cX9_waiting 54 = .ok (.goto 4, 3) := by decide +kernel
theorem dX9_waiting_57 : decode cX9_waiting 57 = .ok (.iconst 0, 1) := by decide +kernel
theorem dX9_waiting_58 : decode cX9_waiting 58 = .ok (.iadd, 1) := by decide +kernel
theorem dX9_waiting_59 : decode cX9_waiting 59 = .ok (.istore_n 2, 1) := by decide +kernel
theorem dX9_waiting_60 : decode cX9_waiting 60 = .ok (.iinc 3 1, 3) := by decide +kernel
theorem dX9_waiting_63 : decode cX9_waiting 63 = .ok (.goto (-46), 3) := by decide +kernel
theorem dX9_waiting_66 : decode cX9_waiting 66 = .ok (.iload_n 2, 1) := by decide +kernel
theorem dX9_waiting_67 : decode cX9_waiting 67 = .ok (.ireturn, 1) := by decide +kernel
set_option maxRecDepth 20000 in
theorem ggX9_playing_X9_within : GoodIn wsX9_playing wsX9_within := goodIn_r _ [7] (by decide +kernel) (by decide +kernel)
set_option maxRecDepth 20000 in
theorem gX9_playing_X9_within : GoodIn wsX9_playing (va_wsS RX9 54 yX9_within wsX9_within) := goodIn_app (goodIn_of _ (by decide +kernel)) ggX9_playing_X9_within
set_option maxRecDepth 20000 in
theorem ggX9_playing_X9_isPlayed : GoodIn wsX9_playing wsX9_isPlayed := goodIn_r _ [11, 12, 13, 14, 15, 16, 6, 17, 18, 3, 23, 24, 25, 26, 27, 28, 29, 30, 31, 32, 33, 34, 35, 36, 37, 38, 39, 40, 41, 42, 43, 44, 45, 46, 47, 48, 49, 50] (by decide +kernel) (by decide +kernel)
set_option maxRecDepth 20000 in
theorem gX9_playing_X9_isPlayed : GoodIn wsX9_playing (wsV RX9 147 RX9 yX9_isPlayed wsX9_isPlayed) := goodIn_app (goodIn_of _ (by decide +kernel)) ggX9_playing_X9_isPlayed
set_option maxRecDepth 20000 in
theorem ggX9_playing_X9_playedAt : GoodIn wsX9_playing wsX9_playedAt := goodIn_r _ [22, 3, 12, 13, 23, 24, 25, 26, 27, 28, 29, 30, 31, 32, 33, 34, 35, 36, 37, 38, 39, 40, 41, 42, 43, 44, 45, 46, 47, 48, 49, 50] (by decide +kernel) (by decide +kernel)
set_option maxRecDepth 20000 in
theorem gX9_playing_X9_playedAt : GoodIn wsX9_playing (wsV RX9 151 RX9 yX9_playedAt wsX9_playedAt) := goodIn_app (goodIn_of _ (by decide +kernel)) ggX9_playing_X9_playedAt
theorem dX9_playing_0 : decode cX9_playing 0 = .ok (.iload_n 1, 1) := by decide +kernel
theorem dX9_playing_1 : decode cX9_playing 1 = .ok (.iconst 0, 1) := by decide +kernel
theorem dX9_playing_2 : decode cX9_playing 2 = .ok (.ldc 179, 2) := by decide +kernel
theorem dX9_playing_4 : decode cX9_playing 4 = .ok (.invokestatic 54, 3) := by decide +kernel
theorem dX9_playing_7 : decode cX9_playing 7 = .ok (.ifCond .ne 6, 3) := by decide +kernel
theorem dX9_playing_10 : decode cX9_playing 10 = .ok (.bipush (-2), 2) := by decide +kernel
theorem dX9_playing_12 : decode cX9_playing 12 = .ok (.ireturn, 1) := by decide +kernel
theorem dX9_playing_13 : decode cX9_playing 13 = .ok (.iconst 0, 1) := by decide +kernel
theorem dX9_playing_14 : decode cX9_playing 14 = .ok (.istore_n 2, 1) := by decide +kernel
theorem dX9_playing_15 : decode cX9_playing 15 = .ok (.iload_n 2, 1) := by decide +kernel
theorem dX9_playing_16 : decode cX9_playing 16 = .ok (.aload_n 0, 1) := by decide +kernel
theorem dX9_playing_17 : decode cX9_playing 17 = .ok (.getfield 78, 3) := by decide +kernel
theorem dX9_playing_20 : decode cX9_playing 20 = .ok (.if_icmp .ge 45, 3) := by decide +kernel
theorem dX9_playing_23 : decode cX9_playing 23 = .ok (.aload_n 0, 1) := by decide +kernel
theorem dX9_playing_24 : decode cX9_playing 24 = .ok (.iload_n 2, 1) := by decide +kernel
theorem dX9_playing_25 : decode cX9_playing 25 = .ok (.invokevirtual 147, 3) := by decide +kernel
theorem dX9_playing_28 : decode cX9_playing 28 = .ok (.ifCond .eq 31, 3) := by decide +kernel
theorem dX9_playing_31 : decode cX9_playing 31 = .ok (.aload_n 0, 1) := by decide +kernel
theorem dX9_playing_32 : decode cX9_playing 32 = .ok (.iload_n 2, 1) := by decide +kernel
theorem dX9_playing_33 : decode cX9_playing 33 = .ok (.invokevirtual 151, 3) := by decide +kernel
theorem dX9_playing_36 : decode cX9_playing 36 = .ok (.iload_n 1, 1) := by decide +kernel
theorem dX9_playing_37 : decode cX9_playing 37 = .ok (.if_icmp .gt 22, 3) := by decide +kernel
theorem dX9_playing_40 : decode cX9_playing 40 = .ok (.aload_n 0, 1) := by decide +kernel
theorem dX9_playing_41 : decode cX9_playing 41 = .ok (.iload_n 2, 1) := by decide +kernel
theorem dX9_playing_42 : decode cX9_playing 42 = .ok (.invokevirtual 151, 3) := by decide +kernel
theorem dX9_playing_45 : decode cX9_playing 45 = .ok (.iload_n 1, 1) := by decide +kernel
theorem dX9_playing_46 : decode cX9_playing 46 = .ok (.bipush 20, 2) := by decide +kernel
theorem dX9_playing_48 : decode cX9_playing 48 = .ok (.isub, 1) := by decide +kernel
theorem dX9_playing_49 : decode cX9_playing 49 = .ok (.if_icmp .le 10, 3) := by decide +kernel
theorem dX9_playing_52 : decode cX9_playing 52 = .ok (.aload_n 0, 1) := by decide +kernel
theorem dX9_playing_53 : decode cX9_playing 53 = .ok (.getfield 23, 3) := by decide +kernel
theorem dX9_playing_56 : decode cX9_playing 56 = .ok (.iload_n 2, 1) := by decide +kernel
theorem dX9_playing_57 : decode cX9_playing 57 = .ok (.iaload, 1) := by decide +kernel
theorem dX9_playing_58 : decode cX9_playing 58 = .ok (.ireturn, 1) := by decide +kernel
theorem dX9_playing_59 : decode cX9_playing 59 = .ok (.iinc 2 1, 3) := by decide +kernel
theorem dX9_playing_62 : decode cX9_playing 62 = .ok (.goto (-47), 3) := by decide +kernel
theorem dX9_playing_65 : decode cX9_playing 65 = .ok (.bipush (-9), 2) := by decide +kernel
theorem dX9_playing_67 : decode cX9_playing 67 = .ok (.ireturn, 1) := by decide +kernel
theorem dX9_writes_0 : decode cX9_writes 0 = .ok (.aload_n 0, 1) := by decide +kernel
theorem dX9_writes_1 : decode cX9_writes 1 = .ok (.getfield 51, 3) := by decide +kernel
theorem dX9_writes_4 : decode cX9_writes 4 = .ok (.aload_n 0, 1) := by decide +kernel
theorem dX9_writes_5 : decode cX9_writes 5 = .ok (.getfield 180, 3) := by decide +kernel
theorem dX9_writes_8 : decode cX9_writes 8 = .ok (.iload_n 1, 1) := by decide +kernel
theorem dX9_writes_9 : decode cX9_writes 9 = .ok (.iastore, 1) := by decide +kernel
theorem dX9_writes_10 : decode cX9_writes 10 = .ok (.aload_n 0, 1) := by decide +kernel
theorem dX9_writes_11 : decode cX9_writes 11 = .ok (.dup, 1) := by decide +kernel
theorem dX9_writes_12 : decode cX9_writes 12 = .ok (.getfield 180, 3) := by decide +kernel
theorem dX9_writes_15 : decode cX9_writes 15 = .ok (.iconst 1, 1) := by decide +kernel
theorem dX9_writes_16 : decode cX9_writes 16 = .ok (.iadd, 1) := by decide +kernel
theorem dX9_writes_17 : decode cX9_writes 17 = .ok (.putfield 180, 3) := by decide +kernel
theorem dX9_writes_20 : decode cX9_writes 20 = .ok (.return_, 1) := by decide +kernel
set_option maxRecDepth 20000 in
theorem ggX9_writesNumber_X9_writes : GoodIn wsX9_writesNumber wsX9_writes := goodIn_r _ [5, 6, 7, 8, 9, 10, 11, 12, 13, 14, 15, 16, 17, 18, 19, 20, 21, 22, 23, 24, 25, 26, 27, 28, 29, 30, 31, 32, 33, 34, 35] (by decide +kernel) (by decide +kernel)
set_option maxRecDepth 20000 in
theorem gX9_writesNumber_X9_writes : GoodIn wsX9_writesNumber (wsV RX9 183 RX9 yX9_writes wsX9_writes) := goodIn_app (goodIn_of _ (by decide +kernel)) ggX9_writesNumber_X9_writes
theorem dX9_writesNumber_0 : decode cX9_writesNumber 0 = .ok (.iload_n 1, 1) := by decide +kernel
theorem dX9_writesNumber_1 : decode cX9_writesNumber 1 = .ok (.ifCond .ge 9, 3) := by decide +kernel
theorem dX9_writesNumber_4 : decode cX9_writesNumber 4 = .ok (.aload_n 0, 1) := by decide +kernel
theorem dX9_writesNumber_5 : decode cX9_writesNumber 5 = .ok (.bipush 45, 2) := by decide +kernel
theorem dX9_writesNumber_7 : decode cX9_writesNumber 7 = .ok (.invokevirtual 183, 3) := by decide +kernel
theorem dX9_writesNumber_10 : decode cX9_writesNumber 10 = .ok (.iload_n 1, 1) := by decide +kernel
theorem dX9_writesNumber_11 : decode cX9_writesNumber 11 = .ok (.ifCond .ge 8, 3) := by decide +kernel
theorem dX9_writesNumber_14 : decode cX9_writesNumber 14 = .ok (.iload_n 1, 1) := by decide +kernel
theorem dX9_writesNumber_15 : decode cX9_writesNumber 15 = .ok (.ineg, 1) := by decide +kernel
theorem dX9_writesNumber_16 : decode cX9_writesNumber 16 = .ok (.goto 4, 3) := by decide +kernel
theorem dX9_writesNumber_19 : decode cX9_writesNumber 19 = .ok (.iload_n 1, 1) := by decide +kernel
theorem dX9_writesNumber_20 : decode cX9_writesNumber 20 = .ok (.istore_n 2, 1) := by decide +kernel
theorem dX9_writesNumber_21 : decode cX9_writesNumber 21 = .ok (.iconst 1, 1) := by decide +kernel
theorem dX9_writesNumber_22 : decode cX9_writesNumber 22 = .ok (.istore_n 3, 1) := by decide +kernel
theorem dX9_writesNumber_23 : decode cX9_writesNumber 23 = .ok (.iload_n 2, 1) := by decide +kernel
theorem dX9_writesNumber_24 : decode cX9_writesNumber 24 = .ok (.iload_n 3, 1) := by decide +kernel
theorem dX9_writesNumber_25 : decode cX9_writesNumber 25 = .ok (.idiv, 1) := by decide +kernel
theorem dX9_writesNumber_26 : decode cX9_writesNumber 26 = .ok (.bipush 10, 2) := by decide +kernel
theorem dX9_writesNumber_28 : decode cX9_writesNumber 28 = .ok (.if_icmp .lt 11, 3) := by decide +kernel
theorem dX9_writesNumber_31 : decode cX9_writesNumber 31 = .ok (.iload_n 3, 1) := by decide +kernel
theorem dX9_writesNumber_32 : decode cX9_writesNumber 32 = .ok (.bipush 10, 2) := by decide +kernel
theorem dX9_writesNumber_34 : decode cX9_writesNumber 34 = .ok (.imul, 1) := by decide +kernel
theorem dX9_writesNumber_35 : decode cX9_writesNumber 35 = .ok (.istore_n 3, 1) := by decide +kernel
theorem dX9_writesNumber_36 : decode cX9_writesNumber 36 = .ok (.goto (-13), 3) := by decide +kernel
theorem dX9_writesNumber_39 : decode cX9_writesNumber 39 = .ok (.iload_n 3, 1) := by decide +kernel
theorem dX9_writesNumber_40 : decode cX9_writesNumber 40 = .ok (.ifCond .le 24, 3) := by decide +kernel
theorem dX9_writesNumber_43 : decode cX9_writesNumber 43 = .ok (.aload_n 0, 1) := by decide +kernel
theorem dX9_writesNumber_44 : decode cX9_writesNumber 44 = .ok (.bipush 48, 2) := by decide +kernel
theorem dX9_writesNumber_46 : decode cX9_writesNumber 46 = .ok (.iload_n 2, 1) := by decide +kernel
theorem dX9_writesNumber_47 : decode cX9_writesNumber 47 = .ok (.iload_n 3, 1) := by decide +kernel
theorem dX9_writesNumber_48 : decode cX9_writesNumber 48 = .ok (.idiv, 1) := by decide +kernel
theorem dX9_writesNumber_49 : decode cX9_writesNumber 49 = .ok (.bipush 10, 2) := by decide +kernel
theorem dX9_writesNumber_51 : decode cX9_writesNumber 51 = .ok (.irem, 1) := by decide +kernel
theorem dX9_writesNumber_52 : decode cX9_writesNumber 52 = .ok (.iadd, 1) := by decide +kernel
theorem dX9_writesNumber_53 : decode cX9_writesNumber 53 = .ok (.invokevirtual 183, 3) := by decide +kernel
theorem dX9_writesNumber_56 : decode cX9_writesNumber 56 = .ok (.iload_n 3, 1) := by decide +kernel
theorem dX9_writesNumber_57 : decode cX9_writesNumber 57 = .ok (.bipush 10, 2) := by decide +kernel
theorem dX9_writesNumber_59 : decode cX9_writesNumber 59 = .ok (.idiv, 1) := by decide +kernel
theorem dX9_writesNumber_60 : decode cX9_writesNumber 60 = .ok (.istore_n 3, 1) := by decide +kernel
theorem dX9_writesNumber_61 : decode cX9_writesNumber 61 = .ok (.goto (-22), 3) := by decide +kernel
theorem dX9_writesNumber_64 : decode cX9_writesNumber 64 = .ok (.return_, 1) := by decide +kernel
set_option maxRecDepth 20000 in
theorem ggX9_writesSpurt_X9_writes : GoodIn wsX9_writesSpurt wsX9_writes := goodIn_r _ [12, 13, 1, 40, 41, 42, 43, 44, 45, 46, 47, 48, 49, 50, 51, 52, 53, 54, 55, 56, 57, 58, 59, 60, 61, 62, 63, 64, 65, 66, 67] (by decide +kernel) (by decide +kernel)
set_option maxRecDepth 20000 in
theorem gX9_writesSpurt_X9_writes : GoodIn wsX9_writesSpurt (wsV RX9 183 RX9 yX9_writes wsX9_writes) := goodIn_app (goodIn_of _ (by decide +kernel)) ggX9_writesSpurt_X9_writes
set_option maxRecDepth 20000 in
theorem ggX9_writesSpurt_X9_writesNumber : GoodIn wsX9_writesSpurt wsX9_writesNumber := goodIn_r _ [17, 8, 9, 10, 11, 12, 13, 1, 40, 41, 42, 43, 44, 45, 46, 47, 48, 49, 50, 51, 52, 53, 54, 55, 56, 57, 58, 59, 60, 61, 62, 63, 64, 65, 66, 67] (by decide +kernel) (by decide +kernel)
set_option maxRecDepth 20000 in
theorem gX9_writesSpurt_X9_writesNumber : GoodIn wsX9_writesSpurt (wsV RX9 186 RX9 yX9_writesNumber wsX9_writesNumber) := goodIn_app (goodIn_of _ (by decide +kernel)) ggX9_writesSpurt_X9_writesNumber
set_option maxRecDepth 20000 in
theorem ggX9_writesSpurt_X9_wordLong : GoodIn wsX9_writesSpurt wsX9_wordLong := goodIn_r _ [21] (by decide +kernel) (by decide +kernel)
set_option maxRecDepth 20000 in
theorem gX9_writesSpurt_X9_wordLong : GoodIn wsX9_writesSpurt (wsV RX9 61 RX9 yX9_wordLong wsX9_wordLong) := goodIn_app (goodIn_of _ (by decide +kernel)) ggX9_writesSpurt_X9_wordLong
set_option maxRecDepth 20000 in
theorem ggX9_writesSpurt_X9_counts : GoodIn wsX9_writesSpurt wsX9_counts := goodIn_r _ [25, 26, 27, 2, 6, 28, 29, 30, 31, 32, 33, 11, 34, 5, 35, 36, 37, 38, 39, 40, 41, 42, 43, 44, 45, 46, 47, 48, 49, 50, 51, 52, 53, 54, 55, 56, 57, 58, 59, 60, 61, 62, 63, 64, 65, 66, 67] (by decide +kernel) (by decide +kernel)
set_option maxRecDepth 20000 in
theorem gX9_writesSpurt_X9_counts : GoodIn wsX9_writesSpurt (wsV RX9 163 RX9 yX9_counts wsX9_counts) := goodIn_app (goodIn_of _ (by decide +kernel)) ggX9_writesSpurt_X9_counts
set_option maxRecDepth 20000 in
theorem ggX9_writesSpurt_X9_isPlayed : GoodIn wsX9_writesSpurt wsX9_isPlayed := goodIn_r _ [34, 5, 29, 35, 36, 37, 11, 38, 39, 30, 40, 41, 42, 43, 44, 45, 46, 47, 48, 49, 50, 51, 52, 53, 54, 55, 56, 57, 58, 59, 60, 61, 62, 63, 64, 65, 66, 67] (by decide +kernel) (by decide +kernel)
set_option maxRecDepth 20000 in
theorem gX9_writesSpurt_X9_isPlayed : GoodIn wsX9_writesSpurt (wsV RX9 147 RX9 yX9_isPlayed wsX9_isPlayed) := goodIn_app (goodIn_of _ (by decide +kernel)) ggX9_writesSpurt_X9_isPlayed
theorem dX9_writesSpurt_0 : decode cX9_writesSpurt 0 = .ok (.aload_n 0, 1) := by decide +kernel
theorem dX9_writesSpurt_1 : decode cX9_writesSpurt 1 = .ok (.iconst 0, 1) := by decide +kernel
theorem dX9_writesSpurt_2 : decode cX9_writesSpurt 2 = .ok (.putfield 180, 3) := by decide +kernel
theorem dX9_writesSpurt_5 : decode cX9_writesSpurt 5 = .ok (.aload_n 0, 1) := by decide +kernel
theorem dX9_writesSpurt_6 : decode cX9_writesSpurt 6 = .ok (.bipush 83, 2) := by decide +kernel
theorem dX9_writesSpurt_8 : decode cX9_writesSpurt 8 = .ok (.invokevirtual 183, 3) := by decide +kernel
theorem dX9_writesSpurt_11 : decode cX9_writesSpurt 11 = .ok (.aload_n 0, 1) := by decide +kernel
theorem dX9_writesSpurt_12 : decode cX9_writesSpurt 12 = .ok (.aload_n 0, 1) := by decide +kernel
theorem dX9_writesSpurt_13 : decode cX9_writesSpurt 13 = .ok (.getfield 35, 3) := by decide +kernel
theorem dX9_writesSpurt_16 : decode cX9_writesSpurt 16 = .ok (.iload_n 1, 1) := by decide +kernel
theorem dX9_writesSpurt_17 : decode cX9_writesSpurt 17 = .ok (.iaload, 1) := by decide +kernel
theorem dX9_writesSpurt_18 : decode cX9_writesSpurt 18 = .ok (.invokevirtual 186, 3) := by decide +kernel
theorem dX9_writesSpurt_21 : decode cX9_writesSpurt 21 = .ok (.aload_n 0, 1) := by decide +kernel
theorem dX9_writesSpurt_22 : decode cX9_writesSpurt 22 = .ok (.bipush 32, 2) := by decide +kernel
theorem dX9_writesSpurt_24 : decode cX9_writesSpurt 24 = .ok (.invokevirtual 183, 3) := by decide +kernel
theorem dX9_writesSpurt_27 : decode cX9_writesSpurt 27 = .ok (.iconst 0, 1) := by decide +kernel
theorem dX9_writesSpurt_28 : decode cX9_writesSpurt 28 = .ok (.istore_n 2, 1) := by decide +kernel
theorem dX9_writesSpurt_29 : decode cX9_writesSpurt 29 = .ok (.iload_n 2, 1) := by decide +kernel
theorem dX9_writesSpurt_30 : decode cX9_writesSpurt 30 = .ok (.aload_n 0, 1) := by decide +kernel
theorem dX9_writesSpurt_31 : decode cX9_writesSpurt 31 = .ok (.aload_n 0, 1) := by decide +kernel
theorem dX9_writesSpurt_32 : decode cX9_writesSpurt 32 = .ok (.getfield 44, 3) := by decide +kernel
theorem dX9_writesSpurt_35 : decode cX9_writesSpurt 35 = .ok (.iload_n 1, 1) := by decide +kernel
theorem dX9_writesSpurt_36 : decode cX9_writesSpurt 36 = .ok (.iaload, 1) := by decide +kernel
theorem dX9_writesSpurt_37 : decode cX9_writesSpurt 37 = .ok (.invokevirtual 61, 3) := by decide +kernel
theorem dX9_writesSpurt_40 : decode cX9_writesSpurt 40 = .ok (.if_icmp .ge 28, 3) := by decide +kernel
theorem dX9_writesSpurt_43 : decode cX9_writesSpurt 43 = .ok (.aload_n 0, 1) := by decide +kernel
theorem dX9_writesSpurt_44 : decode cX9_writesSpurt 44 = .ok (.aload_n 0, 1) := by decide +kernel
theorem dX9_writesSpurt_45 : decode cX9_writesSpurt 45 = .ok (.getfield 7, 3) := by decide +kernel
theorem dX9_writesSpurt_48 : decode cX9_writesSpurt 48 = .ok (.iconst 5, 1) := by decide +kernel
theorem dX9_writesSpurt_49 : decode cX9_writesSpurt 49 = .ok (.aload_n 0, 1) := by decide +kernel
theorem dX9_writesSpurt_50 : decode cX9_writesSpurt 50 = .ok (.getfield 44, 3) := by decide +kernel
theorem dX9_writesSpurt_53 : decode cX9_writesSpurt 53 = .ok (.iload_n 1, 1) := by decide +kernel
theorem dX9_writesSpurt_54 : decode cX9_writesSpurt 54 = .ok (.iaload, 1) := by decide +kernel
theorem dX9_writesSpurt_55 : decode cX9_writesSpurt 55 = .ok (.imul, 1) := by decide +kernel
theorem dX9_writesSpurt_56 : decode cX9_writesSpurt 56 = .ok (.iload_n 2, 1) := by decide +kernel
theorem dX9_writesSpurt_57 : decode cX9_writesSpurt 57 = .ok (.iadd, 1) := by decide +kernel
theorem dX9_writesSpurt_58 : decode cX9_writesSpurt 58 = .ok (.iaload, 1) := by decide +kernel
theorem dX9_writesSpurt_59 : decode cX9_writesSpurt 59 = .ok (.invokevirtual 183, 3) := by decide +kernel
theorem dX9_writesSpurt_62 : decode cX9_writesSpurt 62 = .ok (.iinc 2 1, 3) := by decide +kernel
theorem dX9_writesSpurt_65 : decode cX9_writesSpurt 65 = .ok (.goto (-36), 3) := by decide +kernel
theorem dX9_writesSpurt_68 : decode cX9_writesSpurt 68 = .ok (.aload_n 0, 1) := by decide +kernel
theorem dX9_writesSpurt_69 : decode cX9_writesSpurt 69 = .ok (.bipush 32, 2) := by decide +kernel
theorem dX9_writesSpurt_71 : decode cX9_writesSpurt 71 = .ok (.invokevirtual 183, 3) := by decide +kernel
theorem dX9_writesSpurt_74 : decode cX9_writesSpurt 74 = .ok (.aload_n 0, 1) := by decide +kernel
theorem dX9_writesSpurt_75 : decode cX9_writesSpurt 75 = .ok (.bipush 80, 2) := by decide +kernel
theorem dX9_writesSpurt_77 : decode cX9_writesSpurt 77 = .ok (.invokevirtual 183, 3) := by decide +kernel
theorem dX9_writesSpurt_80 : decode cX9_writesSpurt 80 = .ok (.aload_n 0, 1) := by decide +kernel
theorem dX9_writesSpurt_81 : decode cX9_writesSpurt 81 = .ok (.aload_n 0, 1) := by decide +kernel
theorem dX9_writesSpurt_82 : decode cX9_writesSpurt 82 = .ok (.getfield 41, 3) := by decide +kernel
theorem dX9_writesSpurt_85 : decode cX9_writesSpurt 85 = .ok (.iload_n 1, 1) := by decide +kernel
theorem dX9_writesSpurt_86 : decode cX9_writesSpurt 86 = .ok (.iaload, 1) := by decide +kernel
theorem dX9_writesSpurt_87 : decode cX9_writesSpurt 87 = .ok (.invokevirtual 186, 3) := by decide +kernel
theorem dX9_writesSpurt_90 : decode cX9_writesSpurt 90 = .ok (.aload_n 0, 1) := by decide +kernel
theorem dX9_writesSpurt_91 : decode cX9_writesSpurt 91 = .ok (.bipush 32, 2) := by decide +kernel
theorem dX9_writesSpurt_93 : decode cX9_writesSpurt 93 = .ok (.invokevirtual 183, 3) := by decide +kernel
theorem dX9_writesSpurt_96 : decode cX9_writesSpurt 96 = .ok (.aload_n 0, 1) := by decide +kernel
theorem dX9_writesSpurt_97 : decode cX9_writesSpurt 97 = .ok (.iload_n 1, 1) := by decide +kernel
theorem dX9_writesSpurt_98 : decode cX9_writesSpurt 98 = .ok (.invokevirtual 163, 3) := by decide +kernel
theorem dX9_writesSpurt_101 : decode cX9_writesSpurt 101 = .ok (.aload_n 0, 1) := by decide +kernel
theorem dX9_writesSpurt_102 : decode cX9_writesSpurt 102 = .ok (.getfield 35, 3) := by decide +kernel
theorem dX9_writesSpurt_105 : decode cX9_writesSpurt 105 = .ok (.iload_n 1, 1) := by decide +kernel
theorem dX9_writesSpurt_106 : decode cX9_writesSpurt 106 = .ok (.iaload, 1) := by decide +kernel
theorem dX9_writesSpurt_107 : decode cX9_writesSpurt 107 = .ok (.istore_n 2, 1) := by decide +kernel
theorem dX9_writesSpurt_108 : decode cX9_writesSpurt 108 = .ok (.iload_n 2, 1) := by decide +kernel
theorem dX9_writesSpurt_109 : decode cX9_writesSpurt 109 = .ok (.aload_n 0, 1) := by decide +kernel
theorem dX9_writesSpurt_110 : decode cX9_writesSpurt 110 = .ok (.getfield 160, 3) := by decide +kernel
theorem dX9_writesSpurt_113 : decode cX9_writesSpurt 113 = .ok (.if_icmp .gt 49, 3) := by decide +kernel
theorem dX9_writesSpurt_116 : decode cX9_writesSpurt 116 = .ok (.aload_n 0, 1) := by decide +kernel
theorem dX9_writesSpurt_117 : decode cX9_writesSpurt 117 = .ok (.aload_n 0, 1) := by decide +kernel
theorem dX9_writesSpurt_118 : decode cX9_writesSpurt 118 = .ok (.getfield 32, 3) := by decide +kernel
theorem dX9_writesSpurt_121 : decode cX9_writesSpurt 121 = .ok (.iload_n 2, 1) := by decide +kernel
theorem dX9_writesSpurt_122 : decode cX9_writesSpurt 122 = .ok (.iaload, 1) := by decide +kernel
theorem dX9_writesSpurt_123 : decode cX9_writesSpurt 123 = .ok (.bipush (-9), 2) := by decide +kernel
theorem dX9_writesSpurt_125 : decode cX9_writesSpurt 125 = .ok (.if_icmp .ne 8, 3) := by decide +kernel
theorem dX9_writesSpurt_128 : decode cX9_writesSpurt 128 = .ok (.bipush 46, 2) := by decide +kernel
theorem dX9_writesSpurt_130 : decode cX9_writesSpurt 130 = .ok (.goto 23, 3) := by decide +kernel
theorem dX9_writesSpurt_133 : decode cX9_writesSpurt 133 = .ok (.aload_n 0, 1) := by decide +kernel
theorem dX9_writesSpurt_134 : decode cX9_writesSpurt 134 = .ok (.aload_n 0, 1) := by decide +kernel
theorem dX9_writesSpurt_135 : decode cX9_writesSpurt 135 = .ok (.getfield 32, 3) := by decide +kernel
theorem dX9_writesSpurt_138 : decode cX9_writesSpurt 138 = .ok (.iload_n 2, 1) := by decide +kernel
theorem dX9_writesSpurt_139 : decode cX9_writesSpurt 139 = .ok (.iaload, 1) := by decide +kernel
theorem dX9_writesSpurt_140 : decode cX9_writesSpurt 140 = .ok (.invokevirtual 147, 3) := by decide +kernel
theorem dX9_writesSpurt_143 : decode cX9_writesSpurt 143 = .ok (.ifCond .eq 8, 3) := by decide +kernel
theorem dX9_writesSpurt_146 : decode cX9_writesSpurt 146 = .ok (.bipush 43, 2) := by decide +kernel
theorem dX9_writesSpurt_148 : decode cX9_writesSpurt 148 = .ok (.goto 5, 3) := by decide +kernel
theorem dX9_writesSpurt_151 : decode cX9_writesSpurt 151 = .ok (.bipush 45, 2) := by decide +kernel
theorem dX9_writesSpurt_153 : decode cX9_writesSpurt 153 = .ok (.invokevirtual 183, 3) := by decide +kernel
theorem dX9_writesSpurt_156 : decode cX9_writesSpurt 156 = .ok (.iinc 2 1, 3) := by decide +kernel
theorem dX9_writesSpurt_159 : decode cX9_writesSpurt 159 = .ok (.goto (-51), 3) := by decide +kernel
theorem dX9_writesSpurt_162 : decode cX9_writesSpurt 162 = .ok (.return_, 1) := by decide +kernel
set_option maxRecDepth 20000 in
theorem ggX9_text_X9_isSpurt : GoodIn wsX9_text wsX9_isSpurt := goodIn_r _ [7, 8, 9, 10, 6, 11, 52, 53, 54, 55, 56, 57, 58, 59, 60, 61, 62, 63, 64, 65, 66, 67, 68, 69, 70, 71, 72, 73, 74, 75, 76, 77, 78, 79] (by decide +kernel) (by decide +kernel)
set_option maxRecDepth 20000 in
theorem gX9_text_X9_isSpurt : GoodIn wsX9_text (wsV RX9 166 RX9 yX9_isSpurt wsX9_isSpurt) := goodIn_app (goodIn_of _ (by decide +kernel)) ggX9_text_X9_isSpurt
set_option maxRecDepth 20000 in
theorem ggX9_text_X9_within : GoodIn wsX9_text wsX9_within := goodIn_r _ [11] (by decide +kernel) (by decide +kernel)
set_option maxRecDepth 20000 in
theorem gX9_text_X9_within : GoodIn wsX9_text (va_wsS RX9 54 yX9_within wsX9_within) := goodIn_app (goodIn_of _ (by decide +kernel)) ggX9_text_X9_within
set_option maxRecDepth 20000 in
theorem ggX9_text_X9_writesSpurt : GoodIn wsX9_text wsX9_writesSpurt := goodIn_r _ [15, 1, 16, 17, 18, 19, 20, 21, 22, 23, 24, 6, 25, 2, 26, 27, 28, 29, 30, 31, 32, 33, 34, 35, 36, 37, 38, 39, 40, 41, 42, 43, 44, 45, 46, 47, 48, 49, 50, 51, 52, 53, 54, 55, 56, 57, 58, 59, 60, 61, 62, 63, 64, 65, 66, 67, 68, 69, 70, 71, 72, 73, 74, 75, 76, 77, 78, 79] (by decide +kernel) (by decide +kernel)
set_option maxRecDepth 20000 in
theorem gX9_text_X9_writesSpurt : GoodIn wsX9_text (wsV RX9 189 RX9 yX9_writesSpurt wsX9_writesSpurt) := goodIn_app (goodIn_of _ (by decide +kernel)) ggX9_text_X9_writesSpurt
theorem dX9_text_0 : decode cX9_text 0 = .ok (.aload_n 0, 1) := by decide +kernel
theorem dX9_text_1 : decode cX9_text 1 = .ok (.iload_n 1, 1) := by decide +kernel
theorem dX9_text_2 : decode cX9_text 2 = .ok (.invokevirtual 166, 3) := by decide +kernel
theorem dX9_text_5 : decode cX9_text 5 = .ok (.ifCond .ne 5, 3) := by decide +kernel
theorem dX9_text_8 : decode cX9_text 8 = .ok (.iconst (-1), 1) := by decide +kernel
theorem dX9_text_9 : decode cX9_text 9 = .ok (.ireturn, 1) := by decide +kernel
theorem dX9_text_10 : decode cX9_text 10 = .ok (.iload_n 2, 1) := by decide +kernel
theorem dX9_text_11 : decode cX9_text 11 = .ok (.iconst (-1), 1) := by decide +kernel
theorem dX9_text_12 : decode cX9_text 12 = .ok (.sipush 399, 3) := by decide +kernel
theorem dX9_text_15 : decode cX9_text 15 = .ok (.invokestatic 54, 3) := by decide +kernel
theorem dX9_text_18 : decode cX9_text 18 = .ok (.ifCond .ne 6, 3) := by decide +kernel
theorem dX9_text_21 : decode cX9_text 21 = .ok (.bipush (-2), 2) := by decide +kernel
theorem dX9_text_23 : decode cX9_text 23 = .ok (.ireturn, 1) := by decide +kernel
theorem dX9_text_24 : decode cX9_text 24 = .ok (.aload_n 0, 1) := by decide +kernel
theorem dX9_text_25 : decode cX9_text 25 = .ok (.iload_n 1, 1) := by decide +kernel
theorem dX9_text_26 : decode cX9_text 26 = .ok (.invokevirtual 189, 3) := by decide +kernel
theorem dX9_text_29 : decode cX9_text 29 = .ok (.iload_n 2, 1) := by decide +kernel
theorem dX9_text_30 : decode cX9_text 30 = .ok (.ifCond .ge 10, 3) := by decide +kernel
theorem dX9_text_33 : decode cX9_text 33 = .ok (.aload_n 0, 1) := by decide +kernel
theorem dX9_text_34 : decode cX9_text 34 = .ok (.getfield 180, 3) := by decide +kernel
theorem dX9_text_37 : decode cX9_text 37 = .ok (.goto 22, 3) := by decide +kernel
theorem dX9_text_40 : decode cX9_text 40 = .ok (.iload_n 2, 1) := by decide +kernel
theorem dX9_text_41 : decode cX9_text 41 = .ok (.aload_n 0, 1) := by decide +kernel
theorem dX9_text_42 : decode cX9_text 42 = .ok (.getfield 180, 3) := by decide +kernel
theorem dX9_text_45 : decode cX9_text 45 = .ok (.if_icmp .ge 12, 3) := by decide +kernel
theorem dX9_text_48 : decode cX9_text 48 = .ok (.aload_n 0, 1) := by decide +kernel
theorem dX9_text_49 : decode cX9_text 49 = .ok (.getfield 51, 3) := by decide +kernel
theorem dX9_text_52 : decode cX9_text 52 = .ok (.iload_n 2, 1) := by decide +kernel
theorem dX9_text_53 : decode cX9_text 53 = .ok (.iaload, 1) := by decide +kernel
theorem dX9_text_54 : decode cX9_text 54 = .ok (.goto 5, 3) := by decide +kernel
theorem dX9_text_57 : decode cX9_text 57 = .ok (.bipush (-9), 2) := by decide +kernel
theorem dX9_text_59 : decode cX9_text 59 = .ok (.ireturn, 1) := by decide +kernel
set_option maxRecDepth 20000 in
theorem ggX9_word_X9_within : GoodIn wsX9_word wsX9_within := goodIn_r _ [6] (by decide +kernel) (by decide +kernel)
set_option maxRecDepth 20000 in
theorem gX9_word_X9_within : GoodIn wsX9_word (va_wsS RX9 54 yX9_within wsX9_within) := goodIn_app (goodIn_of _ (by decide +kernel)) ggX9_word_X9_within
set_option maxRecDepth 20000 in
theorem ggX9_word_X9_wordLong : GoodIn wsX9_word wsX9_wordLong := goodIn_r _ [10] (by decide +kernel) (by decide +kernel)
set_option maxRecDepth 20000 in
theorem gX9_word_X9_wordLong : GoodIn wsX9_word (wsV RX9 61 RX9 yX9_wordLong wsX9_wordLong) := goodIn_app (goodIn_of _ (by decide +kernel)) ggX9_word_X9_wordLong
theorem dX9_word_0 : decode cX9_word 0 = .ok (.iload_n 1, 1) := by decide +kernel
theorem dX9_word_1 : decode cX9_word 1 = .ok (.iconst 0, 1) := by decide +kernel
theorem dX9_word_2 : decode cX9_word 2 = .ok (.iconst 4, 1) := by decide +kernel
theorem dX9_word_3 : decode cX9_word 3 = .ok (.invokestatic 54, 3) := by decide +kernel
theorem dX9_word_6 : decode cX9_word 6 = .ok (.ifCond .ne 6, 3) := by decide +kernel
theorem dX9_word_9 : decode cX9_word 9 = .ok (.bipush (-2), 2) := by decide +kernel
theorem dX9_word_11 : decode cX9_word 11 = .ok (.ireturn, 1) := by decide +kernel
theorem dX9_word_12 : decode cX9_word 12 = .ok (.iload_n 1, 1) := by decide +kernel
theorem dX9_word_13 : decode cX9_word 13 = .ok (.aload_n 0, 1) := by decide +kernel
theorem dX9_word_14 : decode cX9_word 14 = .ok (.aload_n 0, 1) := by decide +kernel
theorem dX9_word_15 : decode cX9_word 15 = .ok (.getfield 69, 3) := by decide +kernel
theorem dX9_word_18 : decode cX9_word 18 = .ok (.invokevirtual 61, 3) := by decide +kernel
theorem dX9_word_21 : decode cX9_word 21 = .ok (.if_icmp .ge 19, 3) := by decide +kernel
theorem dX9_word_24 : decode cX9_word 24 = .ok (.aload_n 0, 1) := by decide +kernel
theorem dX9_word_25 : decode cX9_word 25 = .ok (.getfield 7, 3) := by decide +kernel
theorem dX9_word_28 : decode cX9_word 28 = .ok (.iconst 5, 1) := by decide +kernel
theorem dX9_word_29 : decode cX9_word 29 = .ok (.aload_n 0, 1) := by decide +kernel
theorem dX9_word_30 : decode cX9_word 30 = .ok (.getfield 69, 3) := by decide +kernel
theorem dX9_word_33 : decode cX9_word 33 = .ok (.imul, 1) := by decide +kernel
theorem dX9_word_34 : decode cX9_word 34 = .ok (.iload_n 1, 1) := by decide +kernel
theorem dX9_word_35 : decode cX9_word 35 = .ok (.iadd, 1) := by decide +kernel
theorem dX9_word_36 : decode cX9_word 36 = .ok (.iaload, 1) := by decide +kernel
theorem dX9_word_37 : decode cX9_word 37 = .ok (.goto 5, 3) := by decide +kernel
theorem dX9_word_40 : decode cX9_word 40 = .ok (.bipush (-9), 2) := by decide +kernel
theorem dX9_word_42 : decode cX9_word 42 = .ok (.ireturn, 1) := by decide +kernel
set_option maxRecDepth 20000 in
theorem ggX9_many_X9_missing : GoodIn wsX9_many wsX9_missing := goodIn_r _ [10, 11, 12, 13, 14, 15, 16, 9, 17, 2, 3, 18, 19, 20, 21, 22, 23, 24, 25, 26, 27, 28, 29, 34, 35, 36, 37, 38, 39, 40, 41, 42, 43, 44, 45, 46, 47, 48, 49, 50, 51, 52, 53, 54, 55, 56, 57, 58, 59, 60, 61] (by decide +kernel) (by decide +kernel)
set_option maxRecDepth 20000 in
theorem gX9_many_X9_missing : GoodIn wsX9_many (wsV RX9 169 RX9 yX9_missing wsX9_missing) := goodIn_app (goodIn_of _ (by decide +kernel)) ggX9_many_X9_missing
set_option maxRecDepth 20000 in
theorem ggX9_many_X9_oldest : GoodIn wsX9_many wsX9_oldest := goodIn_r _ [33, 3, 34, 35, 36, 37, 38, 39, 40, 41, 42, 43, 44, 45, 46, 47, 48, 49, 50, 51, 52, 53, 54, 55, 56, 57, 58, 59, 60, 61] (by decide +kernel) (by decide +kernel)
set_option maxRecDepth 20000 in
theorem gX9_many_X9_oldest : GoodIn wsX9_many (wsV RX9 112 RX9 yX9_oldest wsX9_oldest) := goodIn_app (goodIn_of _ (by decide +kernel)) ggX9_many_X9_oldest
theorem dX9_many_0 : decode cX9_many 0 = .ok (.iconst 0, 1) := by decide +kernel
theorem dX9_many_1 : decode cX9_many 1 = .ok (.istore_n 2, 1) := by decide +kernel
theorem dX9_many_2 : decode cX9_many 2 = .ok (.iconst 0, 1) := by decide +kernel
theorem dX9_many_3 : decode cX9_many 3 = .ok (.istore_n 3, 1) := by decide +kernel
theorem dX9_many_4 : decode cX9_many 4 = .ok (.iconst 0, 1) := by decide +kernel
theorem dX9_many_5 : decode cX9_many 5 = .ok (.istore 4, 2) := by decide +kernel
theorem dX9_many_7 : decode cX9_many 7 = .ok (.iload 4, 2) := by decide +kernel
theorem dX9_many_9 : decode cX9_many 9 = .ok (.aload_n 0, 1) := by decide +kernel
theorem dX9_many_10 : decode cX9_many 10 = .ok (.getfield 75, 3) := by decide +kernel
theorem dX9_many_13 : decode cX9_many 13 = .ok (.if_icmp .ge 25, 3) := by decide +kernel
theorem dX9_many_16 : decode cX9_many 16 = .ok (.iload_n 3, 1) := by decide +kernel
theorem dX9_many_17 : decode cX9_many 17 = .ok (.aload_n 0, 1) := by decide +kernel
theorem dX9_many_18 : decode cX9_many 18 = .ok (.iload 4, 2) := by decide +kernel
theorem dX9_many_20 : decode cX9_many 20 = .ok (.invokevirtual 169, 3) := by decide +kernel
theorem dX9_many_23 : decode cX9_many 23 = .ok (.iadd, 1) := by decide +kernel
theorem dX9_many_24 : decode cX9_many 24 = .ok (.istore_n 3, 1) := by decide +kernel
theorem dX9_many_25 : decode cX9_many 25 = .ok (.iload_n 2, 1) := by decide +kernel
theorem dX9_many_26 : decode cX9_many 26 = .ok (.aload_n 0, 1) := by decide +kernel
theorem dX9_many_27 : decode cX9_many 27 = .ok (.getfield 157, 3) := by decide +kernel
theorem dX9_many_30 : decode cX9_many 30 = .ok (.iadd, 1) := by decide +kernel
theorem dX9_many_31 : decode cX9_many 31 = .ok (.istore_n 2, 1) := by decide +kernel
theorem dX9_many_32 : decode cX9_many 32 = .ok (.iinc 4 1, 3) := by decide +kernel
theorem dX9_many_35 : decode cX9_many 35 = .ok (.goto (-28), 3) := by decide +kernel
theorem dX9_many_38 : decode cX9_many 38 = .ok (.iload_n 1, 1) := by decide +kernel
theorem dX9_many_39 : decode cX9_many 39 = .ok (.tableswitch 86 0 7 #[45, 50, 55, 57, 64, 66, 76, 81], 45) := by decide +kernel
theorem dX9_many_84 : decode cX9_many 84 = .ok (.aload_n 0, 1) := by decide +kernel
theorem dX9_many_85 : decode cX9_many 85 = .ok (.getfield 78, 3) := by decide +kernel
theorem dX9_many_88 : decode cX9_many 88 = .ok (.ireturn, 1) := by decide +kernel
theorem dX9_many_89 : decode cX9_many 89 = .ok (.aload_n 0, 1) := by decide +kernel
theorem dX9_many_90 : decode cX9_many 90 = .ok (.getfield 75, 3) := by decide +kernel
theorem dX9_many_93 : decode cX9_many 93 = .ok (.ireturn, 1) := by decide +kernel
theorem dX9_many_94 : decode cX9_many 94 = .ok (.iload_n 2, 1) := by decide +kernel
theorem dX9_many_95 : decode cX9_many 95 = .ok (.ireturn, 1) := by decide +kernel
theorem dX9_many_96 : decode cX9_many 96 = .ok (.aload_n 0, 1) := by decide +kernel
theorem dX9_many_97 : decode cX9_many 97 = .ok (.getfield 78, 3) := by decide +kernel
theorem dX9_many_100 : decode cX9_many 100 = .ok (.iload_n 2, 1) := by decide +kernel
theorem dX9_many_101 : decode cX9_many 101 = .ok (.isub, 1) := by decide +kernel
theorem dX9_many_102 : decode cX9_many 102 = .ok (.ireturn, 1) := by decide +kernel
theorem dX9_many_103 : decode cX9_many 103 = .ok (.iload_n 3, 1) := by decide +kernel
theorem dX9_many_104 : decode cX9_many 104 = .ok (.ireturn, 1) := by decide +kernel
theorem dX9_many_105 : decode cX9_many 105 = .ok (.aload_n 0, 1) := by decide +kernel
theorem dX9_many_106 : decode cX9_many 106 = .ok (.getfield 78, 3) := by decide +kernel
theorem dX9_many_109 : decode cX9_many 109 = .ok (.aload_n 0, 1) := by decide +kernel
theorem dX9_many_110 : decode cX9_many 110 = .ok (.invokevirtual 112, 3) := by decide +kernel
theorem dX9_many_113 : decode cX9_many 113 = .ok (.isub, 1) := by decide +kernel
theorem dX9_many_114 : decode cX9_many 114 = .ok (.ireturn, 1) := by decide +kernel
theorem dX9_many_115 : decode cX9_many 115 = .ok (.aload_n 0, 1) := by decide +kernel
theorem dX9_many_116 : decode cX9_many 116 = .ok (.getfield 58, 3) := by decide +kernel
theorem dX9_many_119 : decode cX9_many 119 = .ok (.ireturn, 1) := by decide +kernel
theorem dX9_many_120 : decode cX9_many 120 = .ok (.aload_n 0, 1) := by decide +kernel
theorem dX9_many_121 : decode cX9_many 121 = .ok (.getfield 109, 3) := by decide +kernel
theorem dX9_many_124 : decode cX9_many 124 = .ok (.ireturn, 1) := by decide +kernel
theorem dX9_many_125 : decode cX9_many 125 = .ok (.bipush (-2), 2) := by decide +kernel
theorem dX9_many_127 : decode cX9_many 127 = .ok (.ireturn, 1) := by decide +kernel
theorem dJ9_floorDiv_7cf53_0 : decode cJ9_floorDiv_7cf53 0 = .ok (.iload_n 0, 1) := by decide +kernel
theorem dJ9_floorDiv_7cf53_1 : decode cJ9_floorDiv_7cf53 1 = .ok (.iload_n 1, 1) := by decide +kernel
theorem dJ9_floorDiv_7cf53_2 : decode cJ9_floorDiv_7cf53 2 = .ok (.idiv, 1) := by decide +kernel
theorem dJ9_floorDiv_7cf53_3 : decode cJ9_floorDiv_7cf53 3 = .ok (.istore_n 2, 1) := by decide +kernel
theorem dJ9_floorDiv_7cf53_4 : decode cJ9_floorDiv_7cf53 4 = .ok (.iload_n 0, 1) := by decide +kernel
theorem dJ9_floorDiv_7cf53_5 : decode cJ9_floorDiv_7cf53 5 = .ok (.iload_n 1, 1) := by decide +kernel
theorem dJ9_floorDiv_7cf53_6 : decode cJ9_floorDiv_7cf53 6 = .ok (.ixor, 1) := by decide +kernel
theorem dJ9_floorDiv_7cf53_7 : decode cJ9_floorDiv_7cf53 7 = .ok (.ifCond .ge 14, 3) := by decide +kernel
theorem dJ9_floorDiv_7cf53_10 : decode cJ9_floorDiv_7cf53 10 = .ok (.iload_n 2, 1) := by decide +kernel
theorem dJ9_floorDiv_7cf53_11 : decode cJ9_floorDiv_7cf53 11 = .ok (.iload_n 1, 1) := by decide +kernel
theorem dJ9_floorDiv_7cf53_12 : decode cJ9_floorDiv_7cf53 12 = .ok (.imul, 1) := by decide +kernel
theorem dJ9_floorDiv_7cf53_13 : decode cJ9_floorDiv_7cf53 13 = .ok (.iload_n 0, 1) := by decide +kernel
theorem dJ9_floorDiv_7cf53_14 : decode cJ9_floorDiv_7cf53 14 = .ok (.if_icmp .eq 7, 3) := by decide +kernel
theorem dJ9_floorDiv_7cf53_17 : decode cJ9_floorDiv_7cf53 17 = .ok (.iload_n 2, 1) := by decide +kernel
theorem dJ9_floorDiv_7cf53_18 : decode cJ9_floorDiv_7cf53 18 = .ok (.iconst 1, 1) := by decide +kernel
theorem dJ9_floorDiv_7cf53_19 : decode cJ9_floorDiv_7cf53 19 = .ok (.isub, 1) := by decide +kernel
theorem dJ9_floorDiv_7cf53_20 : decode cJ9_floorDiv_7cf53 20 = .ok (.ireturn, 1) := by decide +kernel
theorem dJ9_floorDiv_7cf53_21 : decode cJ9_floorDiv_7cf53 21 = .ok (.iload_n 2, 1) := by decide +kernel
theorem dJ9_floorDiv_7cf53_22 : decode cJ9_floorDiv_7cf53 22 = .ok (.ireturn, 1) := by decide +kernel
theorem dJ9_abs_0f7a4_0 : decode cJ9_abs_0f7a4 0 = .ok (.iload_n 0, 1) := by decide +kernel
theorem dJ9_abs_0f7a4_1 : decode cJ9_abs_0f7a4 1 = .ok (.ifCond .ge 8, 3) := by decide +kernel
theorem dJ9_abs_0f7a4_4 : decode cJ9_abs_0f7a4 4 = .ok (.iload_n 0, 1) := by decide +kernel
theorem dJ9_abs_0f7a4_5 : decode cJ9_abs_0f7a4 5 = .ok (.ineg, 1) := by decide +kernel
theorem dJ9_abs_0f7a4_6 : decode cJ9_abs_0f7a4 6 = .ok (.goto 4, 3) := by decide +kernel
theorem dJ9_abs_0f7a4_9 : decode cJ9_abs_0f7a4 9 = .ok (.iload_n 0, 1) := by decide +kernel
theorem dJ9_abs_0f7a4_10 : decode cJ9_abs_0f7a4 10 = .ok (.ireturn, 1) := by decide +kernel
theorem dJ9_max_7cf53_0 : decode cJ9_max_7cf53 0 = .ok (.iload_n 0, 1) := by decide +kernel
theorem dJ9_max_7cf53_1 : decode cJ9_max_7cf53 1 = .ok (.iload_n 1, 1) := by decide +kernel
theorem dJ9_max_7cf53_2 : decode cJ9_max_7cf53 2 = .ok (.if_icmp .lt 7, 3) := by decide +kernel
theorem dJ9_max_7cf53_5 : decode cJ9_max_7cf53 5 = .ok (.iload_n 0, 1) := by decide +kernel
theorem dJ9_max_7cf53_6 : decode cJ9_max_7cf53 6 = .ok (.goto 4, 3) := by decide +kernel
theorem dJ9_max_7cf53_9 : decode cJ9_max_7cf53 9 = .ok (.iload_n 1, 1) := by decide +kernel
theorem dJ9_max_7cf53_10 : decode cJ9_max_7cf53 10 = .ok (.ireturn, 1) := by decide +kernel
theorem dJ9_min_7cf53_0 : decode cJ9_min_7cf53 0 = .ok (.iload_n 0, 1) := by decide +kernel
theorem dJ9_min_7cf53_1 : decode cJ9_min_7cf53 1 = .ok (.iload_n 1, 1) := by decide +kernel
theorem dJ9_min_7cf53_2 : decode cJ9_min_7cf53 2 = .ok (.if_icmp .gt 7, 3) := by decide +kernel
theorem dJ9_min_7cf53_5 : decode cJ9_min_7cf53 5 = .ok (.iload_n 0, 1) := by decide +kernel
theorem dJ9_min_7cf53_6 : decode cJ9_min_7cf53 6 = .ok (.goto 4, 3) := by decide +kernel
theorem dJ9_min_7cf53_9 : decode cJ9_min_7cf53 9 = .ok (.iload_n 1, 1) := by decide +kernel
theorem dJ9_min_7cf53_10 : decode cJ9_min_7cf53 10 = .ok (.ireturn, 1) := by decide +kernel
set_option maxRecDepth 20000 in
theorem ggJ0_length_8abf5_J0_coder_7d493 : GoodIn wsJ0_length_8abf5 wsJ0_coder_7d493 := goodIn_r _ [6, 7, 8] (by decide +kernel) (by decide +kernel)
set_option maxRecDepth 20000 in
theorem gJ0_length_8abf5_J0_coder_7d493 : GoodIn wsJ0_length_8abf5 (wsV RJ0 335 RJ0 yJ0_coder_7d493 wsJ0_coder_7d493) := goodIn_app (goodIn_of _ (by decide +kernel)) ggJ0_length_8abf5_J0_coder_7d493
theorem dJ0_length_8abf5_0 : decode cJ0_length_8abf5 0 = .ok (.aload_n 0, 1) := by decide +kernel
theorem dJ0_length_8abf5_1 : decode cJ0_length_8abf5 1 = .ok (.getfield 9, 3) := by decide +kernel
theorem dJ0_length_8abf5_4 : decode cJ0_length_8abf5 4 = .ok (.arraylength, 1) := by decide +kernel
theorem dJ0_length_8abf5_5 : decode cJ0_length_8abf5 5 = .ok (.aload_n 0, 1) := by decide +kernel
theorem dJ0_length_8abf5_6 : decode cJ0_length_8abf5 6 = .ok (.invokevirtual 335, 3) := by decide +kernel
theorem dJ0_length_8abf5_9 : decode cJ0_length_8abf5 9 = .ok (.ishr, 1) := by decide +kernel
theorem dJ0_length_8abf5_10 : decode cJ0_length_8abf5 10 = .ok (.ireturn, 1) := by decide +kernel
set_option maxRecDepth 20000 in
theorem ggJ0_charAt_5068e_J0_isLatin1_aae02 : GoodIn wsJ0_charAt_5068e wsJ0_isLatin1_aae02 := goodIn_r _ [6, 7, 8] (by decide +kernel) (by decide +kernel)
set_option maxRecDepth 20000 in
theorem gJ0_charAt_5068e_J0_isLatin1_aae02 : GoodIn wsJ0_charAt_5068e (wsV RJ0 492 RJ0 yJ0_isLatin1_aae02 wsJ0_isLatin1_aae02) := goodIn_app (goodIn_of _ (by decide +kernel)) ggJ0_charAt_5068e_J0_isLatin1_aae02
set_option maxRecDepth 20000 in
theorem ggJ0_charAt_5068e_J1_charAt_3b067 : GoodIn wsJ0_charAt_5068e wsJ1_charAt_3b067 := goodIn_r _ [12, 13, 14, 5, 15, 16, 17, 18, 19, 20] (by decide +kernel) (by decide +kernel)
set_option maxRecDepth 20000 in
theorem gJ0_charAt_5068e_J1_charAt_3b067 : GoodIn wsJ0_charAt_5068e (va_wsS RJ0 495 yJ1_charAt_3b067 wsJ1_charAt_3b067) := goodIn_app (goodIn_of _ (by decide +kernel)) ggJ0_charAt_5068e_J1_charAt_3b067
set_option maxRecDepth 20000 in
theorem ggJ0_charAt_5068e_J2_charAt_3b067 : GoodIn wsJ0_charAt_5068e wsJ2_charAt_3b067 := goodIn_r _ [24, 25, 26, 23, 27, 28, 29, 30, 31, 14, 5, 15, 16, 17, 18, 19, 20, 32, 33, 34, 35, 36, 37] (by decide +kernel) (by decide +kernel)
set_option maxRecDepth 20000 in
theorem gJ0_charAt_5068e_J2_charAt_3b067 : GoodIn wsJ0_charAt_5068e (va_wsS RJ0 498 yJ2_charAt_3b067 wsJ2_charAt_3b067) := goodIn_app (goodIn_of _ (by decide +kernel)) ggJ0_charAt_5068e_J2_charAt_3b067
theorem dJ0_charAt_5068e_0 : decode cJ0_charAt_5068e 0 = .ok (.aload_n 0, 1) := by decide +kernel
theorem dJ0_charAt_5068e_1 : decode cJ0_charAt_5068e 1 = .ok (.invokevirtual 492, 3) := by decide +kernel
theorem dJ0_charAt_5068e_4 : decode cJ0_charAt_5068e 4 = .ok (.ifCond .eq 12, 3) := by decide +kernel
theorem dJ0_charAt_5068e_7 : decode cJ0_charAt_5068e 7 = .ok (.aload_n 0, 1) := by decide +kernel
theorem dJ0_charAt_5068e_8 : decode cJ0_charAt_5068e 8 = .ok (.getfield 9, 3) := by decide +kernel
theorem dJ0_charAt_5068e_11 : decode cJ0_charAt_5068e 11 = .ok (.iload_n 1, 1) := by decide +kernel
theorem dJ0_charAt_5068e_12 : decode cJ0_charAt_5068e 12 = .ok (.invokestatic 495, 3) := by decide +kernel
theorem dJ0_charAt_5068e_15 : decode cJ0_charAt_5068e 15 = .ok (.ireturn, 1) := by decide +kernel
theorem dJ0_charAt_5068e_16 : decode cJ0_charAt_5068e 16 = .ok (.aload_n 0, 1) := by decide +kernel
theorem dJ0_charAt_5068e_17 : decode cJ0_charAt_5068e 17 = .ok (.getfield 9, 3) := by decide +kernel
theorem dJ0_charAt_5068e_20 : decode cJ0_charAt_5068e 20 = .ok (.iload_n 1, 1) := by decide +kernel
theorem dJ0_charAt_5068e_21 : decode cJ0_charAt_5068e 21 = .ok (.invokestatic 498, 3) := by decide +kernel
theorem dJ0_charAt_5068e_24 : decode cJ0_charAt_5068e 24 = .ok (.ireturn, 1) := by decide +kernel
theorem dJ0_coder_7d493_0 : decode cJ0_coder_7d493 0 = .ok (.getstatic 38, 3) := by decide +kernel
theorem dJ0_coder_7d493_3 : decode cJ0_coder_7d493 3 = .ok (.ifCond .eq 10, 3) := by decide +kernel
theorem dJ0_coder_7d493_6 : decode cJ0_coder_7d493 6 = .ok (.aload_n 0, 1) := by decide +kernel
theorem dJ0_coder_7d493_7 : decode cJ0_coder_7d493 7 = .ok (.getfield 15, 3) := by decide +kernel
theorem dJ0_coder_7d493_10 : decode cJ0_coder_7d493 10 = .ok (.goto 4, 3) := by decide +kernel
theorem dJ0_coder_7d493_13 : decode cJ0_coder_7d493 13 = .ok (.iconst 1, 1) := by decide +kernel
theorem dJ0_coder_7d493_14 : decode cJ0_coder_7d493 14 = .ok (.ireturn, 1) := by decide +kernel
theorem dJ0_isLatin1_aae02_0 : decode cJ0_isLatin1_aae02 0 = .ok (.getstatic 38, 3) := by decide +kernel
theorem dJ0_isLatin1_aae02_3 : decode cJ0_isLatin1_aae02 3 = .ok (.ifCond .eq 14, 3) := by decide +kernel
theorem dJ0_isLatin1_aae02_6 : decode cJ0_isLatin1_aae02 6 = .ok (.aload_n 0, 1) := by decide +kernel
theorem dJ0_isLatin1_aae02_7 : decode cJ0_isLatin1_aae02 7 = .ok (.getfield 15, 3) := by decide +kernel
theorem dJ0_isLatin1_aae02_10 : decode cJ0_isLatin1_aae02 10 = .ok (.ifCond .ne 7, 3) := by decide +kernel
theorem dJ0_isLatin1_aae02_13 : decode cJ0_isLatin1_aae02 13 = .ok (.iconst 1, 1) := by decide +kernel
theorem dJ0_isLatin1_aae02_14 : decode cJ0_isLatin1_aae02 14 = .ok (.goto 4, 3) := by decide +kernel
theorem dJ0_isLatin1_aae02_17 : decode cJ0_isLatin1_aae02 17 = .ok (.iconst 0, 1) := by decide +kernel
theorem dJ0_isLatin1_aae02_18 : decode cJ0_isLatin1_aae02 18 = .ok (.ireturn, 1) := by decide +kernel
set_option maxRecDepth 20000 in
theorem ggJ0_checkIndex_df160_J3_checkIndex_8e157 : GoodIn wsJ0_checkIndex_df160 wsJ3_checkIndex_8e157 := goodIn_r _ [5] (by decide +kernel) (by decide +kernel)
set_option maxRecDepth 20000 in
theorem gJ0_checkIndex_df160_J3_checkIndex_8e157 : GoodIn wsJ0_checkIndex_df160 (va_wsS RJ0 1059 yJ3_checkIndex_8e157 wsJ3_checkIndex_8e157) := goodIn_app (goodIn_of _ (by decide +kernel)) ggJ0_checkIndex_df160_J3_checkIndex_8e157
theorem dJ0_checkIndex_df160_0 : decode cJ0_checkIndex_df160 0 = .ok (.iload_n 0, 1) := by decide +kernel
theorem dJ0_checkIndex_df160_1 : decode cJ0_checkIndex_df160 1 = .ok (.iload_n 1, 1) := by decide +kernel
theorem dJ0_checkIndex_df160_2 : decode cJ0_checkIndex_df160 2 = .ok (.getstatic 1053, 3) := by decide +kernel
theorem dJ0_checkIndex_df160_5 : decode cJ0_checkIndex_df160 5 = .ok (.invokestatic 1059, 3) := by decide +kernel
theorem dJ0_checkIndex_df160_8 : decode cJ0_checkIndex_df160 8 = .ok (.pop, 1) := by decide +kernel
theorem dJ0_checkIndex_df160_9 : decode cJ0_checkIndex_df160 9 = .ok (.return_, 1) := by decide +kernel
set_option maxRecDepth 20000 in
theorem ggJ1_charAt_3b067_J0_checkIndex_df160 : GoodIn wsJ1_charAt_3b067 wsJ0_checkIndex_df160 := goodIn_r _ [4, 5, 6, 7, 8, 9] (by decide +kernel) (by decide +kernel)
set_option maxRecDepth 20000 in
theorem gJ1_charAt_3b067_J0_checkIndex_df160 : GoodIn wsJ1_charAt_3b067 (va_wsS RJ1 9 yJ0_checkIndex_df160 wsJ0_checkIndex_df160) := goodIn_app (goodIn_of _ (by decide +kernel)) ggJ1_charAt_3b067_J0_checkIndex_df160
theorem dJ1_charAt_3b067_0 : decode cJ1_charAt_3b067 0 = .ok (.iload_n 1, 1) := by decide +kernel
theorem dJ1_charAt_3b067_1 : decode cJ1_charAt_3b067 1 = .ok (.aload_n 0, 1) := by decide +kernel
theorem dJ1_charAt_3b067_2 : decode cJ1_charAt_3b067 2 = .ok (.arraylength, 1) := by decide +kernel
theorem dJ1_charAt_3b067_3 : decode cJ1_charAt_3b067 3 = .ok (.invokestatic 9, 3) := by decide +kernel
theorem dJ1_charAt_3b067_6 : decode cJ1_charAt_3b067 6 = .ok (.aload_n 0, 1) := by decide +kernel
theorem dJ1_charAt_3b067_7 : decode cJ1_charAt_3b067 7 = .ok (.iload_n 1, 1) := by decide +kernel
theorem dJ1_charAt_3b067_8 : decode cJ1_charAt_3b067 8 = .ok (.baload, 1) := by decide +kernel
theorem dJ1_charAt_3b067_9 : decode cJ1_charAt_3b067 9 = .ok (.sipush 255, 3) := by decide +kernel
theorem dJ1_charAt_3b067_12 : decode cJ1_charAt_3b067 12 = .ok (.iand, 1) := by decide +kernel
theorem dJ1_charAt_3b067_13 : decode cJ1_charAt_3b067 13 = .ok (.i2c, 1) := by decide +kernel
theorem dJ1_charAt_3b067_14 : decode cJ1_charAt_3b067 14 = .ok (.ireturn, 1) := by decide +kernel
set_option maxRecDepth 20000 in
theorem ggJ2_getChar_3b067_J2_length_9d52b : GoodIn wsJ2_getChar_3b067 wsJ2_length_9d52b := goodIn_r _ [7] (by decide +kernel) (by decide +kernel)
set_option maxRecDepth 20000 in
theorem gJ2_getChar_3b067_J2_length_9d52b : GoodIn wsJ2_getChar_3b067 (va_wsS RJ2 48 yJ2_length_9d52b wsJ2_length_9d52b) := goodIn_app (goodIn_of _ (by decide +kernel)) ggJ2_getChar_3b067_J2_length_9d52b
theorem dJ2_getChar_3b067_0 : decode cJ2_getChar_3b067 0 = .ok (.getstatic 44, 3) := by decide +kernel
theorem dJ2_getChar_3b067_3 : decode cJ2_getChar_3b067 3 = .ok (.ifCond .ne 25, 3) := by decide +kernel
theorem dJ2_getChar_3b067_6 : decode cJ2_getChar_3b067 6 = .ok (.iload_n 1, 1) := by decide +kernel
theorem dJ2_getChar_3b067_7 : decode cJ2_getChar_3b067 7 = .ok (.ifCond .lt 11, 3) := by decide +kernel
theorem dJ2_getChar_3b067_10 : decode cJ2_getChar_3b067 10 = .ok (.iload_n 1, 1) := by decide +kernel
theorem dJ2_getChar_3b067_11 : decode cJ2_getChar_3b067 11 = .ok (.aload_n 0, 1) := by decide +kernel
theorem dJ2_getChar_3b067_12 : decode cJ2_getChar_3b067 12 = .ok (.invokestatic 48, 3) := by decide +kernel
theorem dJ2_getChar_3b067_15 : decode cJ2_getChar_3b067 15 = .ok (.if_icmp .lt 13, 3) := by decide +kernel
theorem dJ2_getChar_3b067_18 : decode cJ2_getChar_3b067 18 = .ok (.new 52, 3) := by decide +kernel
theorem dJ2_getChar_3b067_21 : decode cJ2_getChar_3b067 21 = .ok (.dup, 1) := by decide +kernel
theorem dJ2_getChar_3b067_22 : decode cJ2_getChar_3b067 22 = .ok (.ldc 54, 2) := by decide +kernel
theorem dJ2_getChar_3b067_24 : decode cJ2_getChar_3b067 24 = .ok (.invokespecial 56, 3) := by decide +kernel
theorem dJ2_getChar_3b067_27 : decode cJ2_getChar_3b067 27 = .ok (.athrow, 1) := by decide +kernel
theorem dJ2_getChar_3b067_28 : decode cJ2_getChar_3b067 28 = .ok (.iload_n 1, 1) := by decide +kernel
theorem dJ2_getChar_3b067_29 : decode cJ2_getChar_3b067 29 = .ok (.iconst 1, 1) := by decide +kernel
theorem dJ2_getChar_3b067_30 : decode cJ2_getChar_3b067 30 = .ok (.ishl, 1) := by decide +kernel
theorem dJ2_getChar_3b067_31 : decode cJ2_getChar_3b067 31 = .ok (.istore_n 1, 1) := by decide +kernel
theorem dJ2_getChar_3b067_32 : decode cJ2_getChar_3b067 32 = .ok (.aload_n 0, 1) := by decide +kernel
theorem dJ2_getChar_3b067_33 : decode cJ2_getChar_3b067 33 = .ok (.iload_n 1, 1) := by decide +kernel
theorem dJ2_getChar_3b067_34 : decode cJ2_getChar_3b067 34 = .ok (.iinc 1 1, 3) := by decide +kernel
theorem dJ2_getChar_3b067_37 : decode cJ2_getChar_3b067 37 = .ok (.baload, 1) := by decide +kernel
theorem dJ2_getChar_3b067_38 : decode cJ2_getChar_3b067 38 = .ok (.sipush 255, 3) := by decide +kernel
theorem dJ2_getChar_3b067_41 : decode cJ2_getChar_3b067 41 = .ok (.iand, 1) := by decide +kernel
theorem dJ2_getChar_3b067_42 : decode cJ2_getChar_3b067 42 = .ok (.getstatic 59, 3) := by decide +kernel
theorem dJ2_getChar_3b067_45 : decode cJ2_getChar_3b067 45 = .ok (.ishl, 1) := by decide +kernel
theorem dJ2_getChar_3b067_46 : decode cJ2_getChar_3b067 46 = .ok (.aload_n 0, 1) := by decide +kernel
theorem dJ2_getChar_3b067_47 : decode cJ2_getChar_3b067 47 = .ok (.iload_n 1, 1) := by decide +kernel
theorem dJ2_getChar_3b067_48 : decode cJ2_getChar_3b067 48 = .ok (.baload, 1) := by decide +kernel
theorem dJ2_getChar_3b067_49 : decode cJ2_getChar_3b067 49 = .ok (.sipush 255, 3) := by decide +kernel
theorem dJ2_getChar_3b067_52 : decode cJ2_getChar_3b067 52 = .ok (.iand, 1) := by decide +kernel
theorem dJ2_getChar_3b067_53 : decode cJ2_getChar_3b067 53 = .ok (.getstatic 63, 3) := by decide +kernel
theorem dJ2_getChar_3b067_56 : decode cJ2_getChar_3b067 56 = .ok (.ishl, 1) := by decide +kernel
theorem dJ2_getChar_3b067_57 : decode cJ2_getChar_3b067 57 = .ok (.ior, 1) := by decide +kernel
theorem dJ2_getChar_3b067_58 : decode cJ2_getChar_3b067 58 = .ok (.i2c, 1) := by decide +kernel
theorem dJ2_getChar_3b067_59 : decode cJ2_getChar_3b067 59 = .ok (.ireturn, 1) := by decide +kernel
theorem dJ2_length_9d52b_0 : decode cJ2_length_9d52b 0 = .ok (.aload_n 0, 1) := by decide +kernel
theorem dJ2_length_9d52b_1 : decode cJ2_length_9d52b 1 = .ok (.arraylength, 1) := by decide +kernel
theorem dJ2_length_9d52b_2 : decode cJ2_length_9d52b 2 = .ok (.iconst 1, 1) := by decide +kernel
theorem dJ2_length_9d52b_3 : decode cJ2_length_9d52b 3 = .ok (.ishr, 1) := by decide +kernel
theorem dJ2_length_9d52b_4 : decode cJ2_length_9d52b 4 = .ok (.ireturn, 1) := by decide +kernel
set_option maxRecDepth 20000 in
theorem ggJ2_charAt_3b067_J2_checkIndex_2214a : GoodIn wsJ2_charAt_3b067 wsJ2_checkIndex_2214a := goodIn_r _ [4, 5, 6, 3, 7, 8, 9, 10, 11, 12, 13, 14, 15, 16] (by decide +kernel) (by decide +kernel)
set_option maxRecDepth 20000 in
theorem gJ2_charAt_3b067_J2_checkIndex_2214a : GoodIn wsJ2_charAt_3b067 (va_wsS RJ2 67 yJ2_checkIndex_2214a wsJ2_checkIndex_2214a) := goodIn_app (goodIn_of _ (by decide +kernel)) ggJ2_charAt_3b067_J2_checkIndex_2214a
set_option maxRecDepth 20000 in
theorem ggJ2_charAt_3b067_J2_getChar_3b067 : GoodIn wsJ2_charAt_3b067 wsJ2_getChar_3b067 := goodIn_r _ [19, 20, 21, 22, 5, 6, 3, 7] (by decide +kernel) (by decide +kernel)
set_option maxRecDepth 20000 in
theorem gJ2_charAt_3b067_J2_getChar_3b067 : GoodIn wsJ2_charAt_3b067 (va_wsS RJ2 71 yJ2_getChar_3b067 wsJ2_getChar_3b067) := goodIn_app (goodIn_of _ (by decide +kernel)) ggJ2_charAt_3b067_J2_getChar_3b067
theorem dJ2_charAt_3b067_0 : decode cJ2_charAt_3b067 0 = .ok (.iload_n 1, 1) := by decide +kernel
theorem dJ2_charAt_3b067_1 : decode cJ2_charAt_3b067 1 = .ok (.aload_n 0, 1) := by decide +kernel
theorem dJ2_charAt_3b067_2 : decode cJ2_charAt_3b067 2 = .ok (.invokestatic 67, 3) := by decide +kernel
theorem dJ2_charAt_3b067_5 : decode cJ2_charAt_3b067 5 = .ok (.aload_n 0, 1) := by decide +kernel
theorem dJ2_charAt_3b067_6 : decode cJ2_charAt_3b067 6 = .ok (.iload_n 1, 1) := by decide +kernel
theorem dJ2_charAt_3b067_7 : decode cJ2_charAt_3b067 7 = .ok (.invokestatic 71, 3) := by decide +kernel
theorem dJ2_charAt_3b067_10 : decode cJ2_charAt_3b067 10 = .ok (.ireturn, 1) := by decide +kernel
set_option maxRecDepth 20000 in
theorem ggJ2_checkIndex_2214a_J2_length_9d52b : GoodIn wsJ2_checkIndex_2214a wsJ2_length_9d52b := goodIn_r _ [4] (by decide +kernel) (by decide +kernel)
set_option maxRecDepth 20000 in
theorem gJ2_checkIndex_2214a_J2_length_9d52b : GoodIn wsJ2_checkIndex_2214a (va_wsS RJ2 48 yJ2_length_9d52b wsJ2_length_9d52b) := goodIn_app (goodIn_of _ (by decide +kernel)) ggJ2_checkIndex_2214a_J2_length_9d52b
set_option maxRecDepth 20000 in
theorem ggJ2_checkIndex_2214a_J0_checkIndex_df160 : GoodIn wsJ2_checkIndex_2214a wsJ0_checkIndex_df160 := goodIn_r _ [8, 9, 10, 11, 12, 13] (by decide +kernel) (by decide +kernel)
set_option maxRecDepth 20000 in
theorem gJ2_checkIndex_2214a_J0_checkIndex_df160 : GoodIn wsJ2_checkIndex_2214a (va_wsS RJ2 414 yJ0_checkIndex_df160 wsJ0_checkIndex_df160) := goodIn_app (goodIn_of _ (by decide +kernel)) ggJ2_checkIndex_2214a_J0_checkIndex_df160
theorem dJ2_checkIndex_2214a_0 : decode cJ2_checkIndex_2214a 0 = .ok (.iload_n 0, 1) := by decide +kernel
theorem dJ2_checkIndex_2214a_1 : decode cJ2_checkIndex_2214a 1 = .ok (.aload_n 1, 1) := by decide +kernel
theorem dJ2_checkIndex_2214a_2 : decode cJ2_checkIndex_2214a 2 = .ok (.invokestatic 48, 3) := by decide +kernel
theorem dJ2_checkIndex_2214a_5 : decode cJ2_checkIndex_2214a 5 = .ok (.invokestatic 414, 3) := by decide +kernel
theorem dJ2_checkIndex_2214a_8 : decode cJ2_checkIndex_2214a 8 = .ok (.return_, 1) := by decide +kernel
theorem dJ3_checkIndex_8e157_0 : decode cJ3_checkIndex_8e157 0 = .ok (.iload_n 0, 1) := by decide +kernel
theorem dJ3_checkIndex_8e157_1 : decode cJ3_checkIndex_8e157 1 = .ok (.ifCond .lt 8, 3) := by decide +kernel
theorem dJ3_checkIndex_8e157_4 : decode cJ3_checkIndex_8e157 4 = .ok (.iload_n 0, 1) := by decide +kernel
theorem dJ3_checkIndex_8e157_5 : decode cJ3_checkIndex_8e157 5 = .ok (.iload_n 1, 1) := by decide +kernel
theorem dJ3_checkIndex_8e157_6 : decode cJ3_checkIndex_8e157 6 = .ok (.if_icmp .lt 10, 3) := by decide +kernel
theorem dJ3_checkIndex_8e157_9 : decode cJ3_checkIndex_8e157 9 = .ok (.aload_n 2, 1) := by decide +kernel
theorem dJ3_checkIndex_8e157_10 : decode cJ3_checkIndex_8e157 10 = .ok (.iload_n 0, 1) := by decide +kernel
theorem dJ3_checkIndex_8e157_11 : decode cJ3_checkIndex_8e157 11 = .ok (.iload_n 1, 1) := by decide +kernel
theorem dJ3_checkIndex_8e157_12 : decode cJ3_checkIndex_8e157 12 = .ok (.invokestatic 95, 3) := by decide +kernel
theorem dJ3_checkIndex_8e157_15 : decode cJ3_checkIndex_8e157 15 = .ok (.athrow, 1) := by decide +kernel
theorem dJ3_checkIndex_8e157_16 : decode cJ3_checkIndex_8e157 16 = .ok (.iload_n 0, 1) := by decide +kernel
theorem dJ3_checkIndex_8e157_17 : decode cJ3_checkIndex_8e157 17 = .ok (.ireturn, 1) := by decide +kernel
set_option maxRecDepth 20000 in
theorem ggL_law_X8_init : GoodIn wsL_law wsX8_init := goodIn_r _ [8, 9, 10, 11, 12, 13, 14, 15, 16, 17, 18, 19, 20, 21, 22, 23, 24, 25, 26, 27, 28, 29, 30, 31, 32, 33, 34, 35, 36, 37, 38, 39, 40, 41, 42, 43, 44, 45, 46, 47, 48, 49, 50, 51, 52, 53, 54, 55, 56, 57, 58, 59, 60, 61, 62, 63, 64, 65, 66, 67, 68, 69, 70, 71, 72, 73, 74, 75, 76, 77, 78, 79, 80, 81, 82, 83, 84, 85, 86, 87, 88, 89, 90, 91, 92, 93, 94, 95, 96, 97, 98, 99, 100, 101, 102, 103, 104, 105, 106, 869, 870, 830, 831, 832, 833, 834, 835, 836, 837, 838, 839, 840, 871, 872, 873, 874, 875, 876, 877, 878, 879, 880, 881, 882, 883, 884, 885, 886, 887, 888, 889, 890, 891, 892, 893, 894, 895, 896, 897, 898] (by decide +kernel) (by decide +kernel)
set_option maxRecDepth 20000 in
theorem gL_law_X8_init : GoodIn wsL_law (wsX8_init) := ggL_law_X8_init
set_option maxRecDepth 20000 in
theorem ggL_law_X9_init : GoodIn wsL_law wsX9_init := goodIn_r _ [109, 110, 10, 11, 59, 111, 112, 113, 114, 115, 116, 117, 118, 119, 120, 121, 122, 123, 124, 125, 841, 842, 843, 844, 845, 846, 847, 848, 849, 850, 851, 852, 853, 854, 855, 856, 857, 858, 859, 860, 861, 862, 863, 864, 865, 866, 867, 868] (by decide +kernel) (by decide +kernel)
set_option maxRecDepth 20000 in
theorem gL_law_X9_init : GoodIn wsL_law (wsX9_init) := ggL_law_X9_init
set_option maxRecDepth 20000 in
theorem ggL_law_X8_key : GoodIn wsL_law wsX8_key := goodIn_r _ [129, 15, 130, 131, 2, 132, 133, 134, 135, 14, 136, 137, 138, 139, 140, 141, 50, 142, 143, 144, 49, 145, 60, 830, 831, 832, 833, 834, 835, 836, 837, 838, 839, 840, 869, 870, 898] (by decide +kernel) (by decide +kernel)
set_option maxRecDepth 20000 in
theorem gL_law_X8_key : GoodIn wsL_law (wsV RL 13 RX8 yX8_key wsX8_key) := goodIn_app (goodIn_of _ (by decide +kernel)) ggL_law_X8_key
set_option maxRecDepth 20000 in
theorem ggL_law_X9_key : GoodIn wsL_law wsX9_key := goodIn_r _ [149, 150, 112, 151, 152, 5, 153, 841, 842, 843, 844, 845, 846, 847, 848, 849, 850, 851, 852, 853, 854, 855, 856, 857, 858, 859, 860, 861, 862, 863, 864, 865, 866, 867, 868] (by decide +kernel) (by decide +kernel)
set_option maxRecDepth 20000 in
theorem gL_law_X9_key : GoodIn wsL_law (wsV RL 17 RX9 yX9_key wsX9_key) := goodIn_app (goodIn_of _ (by decide +kernel)) ggL_law_X9_key
set_option maxRecDepth 20000 in
theorem ggL_law_X8_wipe : GoodIn wsL_law wsX8_wipe := goodIn_r _ [157, 15, 133, 134, 135, 14, 136, 137, 158, 159, 160, 161, 830, 831, 832, 833, 834, 835, 836, 837, 838, 839, 840, 869, 870] (by decide +kernel) (by decide +kernel)
set_option maxRecDepth 20000 in
theorem gL_law_X8_wipe : GoodIn wsL_law (wsV RL 18 RX8 yX8_wipe wsX8_wipe) := goodIn_app (goodIn_of _ (by decide +kernel)) ggL_law_X8_wipe
set_option maxRecDepth 20000 in
theorem ggL_law_X9_wipe : GoodIn wsL_law wsX9_wipe := goodIn_r _ [165, 150, 841, 842, 843, 844, 845, 846, 847, 848, 849, 850, 851, 852, 853, 854, 855, 856, 857, 858, 859, 860, 861, 862, 863, 864, 865, 866, 867, 868] (by decide +kernel) (by decide +kernel)
set_option maxRecDepth 20000 in
theorem gL_law_X9_wipe : GoodIn wsL_law (wsV RL 22 RX9 yX9_wipe wsX9_wipe) := goodIn_app (goodIn_of _ (by decide +kernel)) ggL_law_X9_wipe
set_option maxRecDepth 20000 in
theorem ggL_law_X8_manner : GoodIn wsL_law wsX8_manner := goodIn_r _ [169, 40, 41, 15, 170, 171, 172, 2, 173, 174, 175, 176, 177, 178, 179, 14, 180, 137, 50, 181, 182, 183, 184, 185, 186, 187, 188, 189, 190, 191, 192, 193, 194, 195, 196, 197, 198, 199, 200, 201, 202, 203, 204, 205, 206, 207, 208, 209, 210, 211, 212, 213, 214, 215, 216, 217, 218, 219, 220, 221, 222, 223, 224, 225, 226, 227, 228, 229, 230, 231, 232, 49, 233, 60, 234, 235, 236, 237, 238, 239, 130, 131, 132, 158, 159, 160, 161, 830, 831, 832, 833, 834, 835, 836, 837, 838, 839, 840, 869, 870, 898] (by decide +kernel) (by decide +kernel)
set_option maxRecDepth 20000 in
theorem gL_law_X8_manner : GoodIn wsL_law (wsV RL 23 RX8 yX8_manner wsX8_manner) := goodIn_app (goodIn_of _ (by decide +kernel)) ggL_law_X8_manner
set_option maxRecDepth 20000 in
theorem ggL_law_X9_manner : GoodIn wsL_law wsX9_manner := goodIn_r _ [243, 244, 113, 150, 245, 246, 247, 5, 248, 112, 111, 249, 250, 251, 252, 151, 152, 153, 841, 842, 843, 844, 845, 846, 847, 848, 849, 850, 851, 852, 853, 854, 855, 856, 857, 858, 859, 860, 861, 862, 863, 864, 865, 866, 867, 868] (by decide +kernel) (by decide +kernel)
set_option maxRecDepth 20000 in
theorem gL_law_X9_manner : GoodIn wsL_law (wsV RL 26 RX9 yX9_manner wsX9_manner) := goodIn_app (goodIn_of _ (by decide +kernel)) ggL_law_X9_manner
set_option maxRecDepth 20000 in
theorem ggL_law_X8_margin : GoodIn wsL_law wsX8_margin := goodIn_r _ [256, 42, 130, 131, 2, 132, 830, 831, 832, 833, 834, 835, 836, 837, 838, 839, 840] (by decide +kernel) (by decide +kernel)
set_option maxRecDepth 20000 in
theorem gL_law_X8_margin : GoodIn wsL_law (wsV RL 27 RX8 yX8_margin wsX8_margin) := goodIn_app (goodIn_of _ (by decide +kernel)) ggL_law_X8_margin
set_option maxRecDepth 20000 in
theorem ggL_law_X9_margin : GoodIn wsL_law wsX9_margin := goodIn_r _ [260, 261, 151, 152, 5, 153, 841, 842, 843, 844, 845, 846, 847, 848, 849, 850, 851, 852, 853, 854, 855, 856, 857, 858, 859, 860, 861, 862, 863, 864, 865, 866, 867, 868] (by decide +kernel) (by decide +kernel)
set_option maxRecDepth 20000 in
theorem gL_law_X9_margin : GoodIn wsL_law (wsV RL 30 RX9 yX9_margin wsX9_margin) := goodIn_app (goodIn_of _ (by decide +kernel)) ggL_law_X9_margin
set_option maxRecDepth 20000 in
theorem ggL_law_X8_jump : GoodIn wsL_law wsX8_jump := goodIn_r _ [265, 43, 130, 131, 2, 132, 830, 831, 832, 833, 834, 835, 836, 837, 838, 839, 840] (by decide +kernel) (by decide +kernel)
set_option maxRecDepth 20000 in
theorem gL_law_X8_jump : GoodIn wsL_law (wsV RL 31 RX8 yX8_jump wsX8_jump) := goodIn_app (goodIn_of _ (by decide +kernel)) ggL_law_X8_jump
set_option maxRecDepth 20000 in
theorem ggL_law_X9_jump : GoodIn wsL_law wsX9_jump := goodIn_r _ [269, 114, 151, 152, 5, 153, 841, 842, 843, 844, 845, 846, 847, 848, 849, 850, 851, 852, 853, 854, 855, 856, 857, 858, 859, 860, 861, 862, 863, 864, 865, 866, 867, 868] (by decide +kernel) (by decide +kernel)
set_option maxRecDepth 20000 in
theorem gL_law_X9_jump : GoodIn wsL_law (wsV RL 34 RX9 yX9_jump wsX9_jump) := goodIn_app (goodIn_of _ (by decide +kernel)) ggL_law_X9_jump
set_option maxRecDepth 20000 in
theorem ggL_law_X8_arrive : GoodIn wsL_law wsX8_arrive := goodIn_r _ [273, 19, 27, 43, 23, 274, 275, 276, 2, 277, 130, 131, 132, 278, 279, 280, 18, 281, 282, 67, 283, 231, 232, 49, 233, 60, 284, 285, 286, 287, 65, 288, 289, 290, 22, 291, 292, 75, 76, 293, 294, 295, 296, 297, 81, 298, 299, 300, 301, 302, 303, 304, 305, 66, 306, 143, 144, 145, 307, 308, 309, 310, 311, 312, 313, 26, 314, 315, 316, 317, 318, 319, 320, 321, 322, 323, 324, 325, 42, 40, 326, 327, 328, 329, 35, 31, 41, 330, 331, 332, 34, 333, 334, 99, 335, 336, 337, 338, 339, 340, 57, 341, 342, 343, 344, 345, 346, 347, 348, 349, 350, 30, 351, 352, 353, 93, 354, 355, 356, 357, 358, 359, 91, 92, 360, 361, 362, 363, 364, 365, 366, 367, 368, 369, 370, 371, 372, 373, 374, 375, 376, 377, 378, 379, 380, 381, 382, 383, 384, 385, 386, 387, 388, 389, 390, 391, 392, 393, 394, 395, 396, 397, 398, 399, 400, 401, 402, 403, 404, 405, 406, 407, 408, 409, 410, 411, 412, 413, 414, 415, 56, 58, 416, 417, 418, 419, 420, 421, 422, 423, 424, 425, 426, 427, 428, 429, 430, 431, 432, 433, 434, 82, 77, 435, 436, 437, 438, 439, 440, 441, 442, 443, 444, 78, 79, 80, 445, 446, 447, 448, 449, 450, 451, 452, 453, 454, 455, 456, 457, 68, 69, 458, 459, 460, 461, 462, 830, 831, 832, 833, 834, 835, 836, 837, 838, 839, 840, 871, 872, 873, 874, 875, 876, 898, 877, 878, 879, 880, 881, 882, 883, 884, 885, 886, 887, 888, 894, 895, 889, 890, 891, 892, 893] (by decide +kernel) (by decide +kernel)
set_option maxRecDepth 20000 in
theorem gL_law_X8_arrive : GoodIn wsL_law (wsV RL 35 RX8 yX8_arrive wsX8_arrive) := goodIn_app (goodIn_of _ (by decide +kernel)) ggL_law_X8_arrive
set_option maxRecDepth 20000 in
theorem ggL_law_X9_arrive : GoodIn wsL_law wsX9_arrive := goodIn_r _ [466, 467, 115, 116, 118, 468, 119, 120, 122, 244, 121, 117, 151, 152, 5, 153, 469, 470, 471, 472, 473, 474, 475, 476, 477, 478, 479, 480, 481, 482, 483, 484, 485, 486, 114, 487, 488, 489, 490, 491, 492, 493, 494, 495, 261, 496, 497, 498, 499, 500, 501, 124, 113, 502, 503, 504, 505, 506, 507, 508, 509, 510, 511, 512, 513, 514, 515, 516, 517, 518, 519, 520, 521, 522, 523, 524, 525, 526, 527, 528, 529, 530, 531, 532, 841, 842, 843, 844, 845, 846, 847, 848, 849, 850, 851, 852, 853, 854, 855, 856, 857, 858, 859, 860, 861, 862, 863, 864, 865, 866, 867, 868] (by decide +kernel) (by decide +kernel)
set_option maxRecDepth 20000 in
theorem gL_law_X9_arrive : GoodIn wsL_law (wsV RL 39 RX9 yX9_arrive wsX9_arrive) := goodIn_app (goodIn_of _ (by decide +kernel)) ggL_law_X9_arrive
set_option maxRecDepth 20000 in
theorem ggL_law_X8_anew : GoodIn wsL_law wsX8_anew := goodIn_r _ [536, 19, 23, 27, 298, 299, 300, 18, 301, 282, 537, 538, 539, 540, 65, 66, 283, 231, 232, 49, 233, 60, 306, 143, 144, 145, 541, 542, 543, 22, 544, 292, 545, 546, 547, 26, 548, 315, 317, 830, 831, 832, 833, 834, 835, 836, 837, 838, 839, 840, 871, 872, 873, 874, 875, 876, 898, 877, 878, 879, 880, 881, 882, 883, 884, 885, 886, 887, 888] (by decide +kernel) (by decide +kernel)
set_option maxRecDepth 20000 in
theorem gL_law_X8_anew : GoodIn wsL_law (wsV RL 40 RX8 yX8_anew wsX8_anew) := goodIn_app (goodIn_of _ (by decide +kernel)) ggL_law_X8_anew
set_option maxRecDepth 20000 in
theorem ggL_law_X9_anew : GoodIn wsL_law wsX9_anew := goodIn_r _ [552, 467, 118, 468, 485, 487, 841, 842, 843, 844, 845, 846, 847, 848, 849, 850, 851, 852, 853, 854, 855, 856, 857, 858, 859, 860, 861, 862, 863, 864, 865, 866, 867, 868] (by decide +kernel) (by decide +kernel)
set_option maxRecDepth 20000 in
theorem gL_law_X9_anew : GoodIn wsL_law (wsV RL 43 RX9 yX9_anew wsX9_anew) := goodIn_app (goodIn_of _ (by decide +kernel)) ggL_law_X9_anew
set_option maxRecDepth 20000 in
theorem ggL_law_X8_ofFrame : GoodIn wsL_law wsX8_ofFrame := goodIn_r _ [556, 19, 284, 285, 286, 18, 287, 65, 283, 231, 232, 49, 233, 60, 557, 558, 559, 560, 67, 307, 308, 309, 310, 66, 561, 562, 563, 564, 68, 565, 566, 567, 568, 69, 830, 831, 832, 833, 834, 835, 836, 837, 838, 839, 840, 871, 872, 873, 874, 875, 876, 898] (by decide +kernel) (by decide +kernel)
set_option maxRecDepth 20000 in
theorem gL_law_X8_ofFrame : GoodIn wsL_law (wsV RL 44 RX8 yX8_ofFrame wsX8_ofFrame) := goodIn_app (goodIn_of _ (by decide +kernel)) ggL_law_X8_ofFrame
set_option maxRecDepth 20000 in
theorem ggL_law_X9_ofFrame : GoodIn wsL_law wsX9_ofFrame := goodIn_r _ [572, 118, 116, 117, 151, 152, 5, 153, 488, 489, 490, 491, 115, 573, 574, 575, 576, 121, 577, 578, 579, 580, 841, 842, 843, 844, 845, 846, 847, 848, 849, 850, 851, 852, 853, 854, 855, 856, 857, 858, 859, 860, 861, 862, 863, 864, 865, 866, 867, 868] (by decide +kernel) (by decide +kernel)
set_option maxRecDepth 20000 in
theorem gL_law_X9_ofFrame : GoodIn wsL_law (wsV RL 48 RX9 yX9_ofFrame wsX9_ofFrame) := goodIn_app (goodIn_of _ (by decide +kernel)) ggL_law_X9_ofFrame
set_option maxRecDepth 20000 in
theorem ggL_law_X8_ofSpurt : GoodIn wsL_law wsX8_ofSpurt := goodIn_r _ [584, 23, 585, 586, 587, 22, 588, 292, 130, 131, 2, 132, 589, 590, 591, 592, 75, 293, 231, 232, 49, 233, 60, 593, 594, 595, 596, 76, 450, 451, 452, 453, 77, 597, 598, 599, 600, 79, 601, 602, 603, 604, 80, 605, 606, 607, 608, 81, 609, 610, 611, 612, 613, 614, 615, 616, 78, 830, 831, 832, 833, 834, 835, 836, 837, 838, 839, 840, 877, 878, 879, 880, 881, 882, 883, 884, 885, 898] (by decide +kernel) (by decide +kernel)
set_option maxRecDepth 20000 in
theorem gL_law_X8_ofSpurt : GoodIn wsL_law (wsV RL 49 RX8 yX8_ofSpurt wsX8_ofSpurt) := goodIn_app (goodIn_of _ (by decide +kernel)) ggL_law_X8_ofSpurt
set_option maxRecDepth 20000 in
theorem ggL_law_X9_ofSpurt : GoodIn wsL_law wsX9_ofSpurt := goodIn_r _ [620, 119, 120, 121, 621, 622, 623, 122, 624, 625, 626, 5, 627, 468, 151, 152, 153, 628, 629, 630, 631, 467, 117, 115, 573, 574, 575, 576, 488, 489, 490, 491, 116, 632, 633, 634, 635, 841, 842, 843, 844, 845, 846, 847, 848, 849, 850, 851, 852, 853, 854, 855, 856, 857, 858, 859, 860, 861, 862, 863, 864, 865, 866, 867, 868] (by decide +kernel) (by decide +kernel)
set_option maxRecDepth 20000 in
theorem gL_law_X9_ofSpurt : GoodIn wsL_law (wsV RL 52 RX9 yX9_ofSpurt wsX9_ofSpurt) := goodIn_app (goodIn_of _ (by decide +kernel)) ggL_law_X9_ofSpurt
set_option maxRecDepth 20000 in
theorem ggL_law_X8_inOrder : GoodIn wsL_law wsX8_inOrder := goodIn_r _ [639, 23, 585, 586, 587, 22, 588, 292, 130, 131, 2, 132, 640, 641, 642, 643, 82, 293, 231, 232, 49, 233, 60, 830, 831, 832, 833, 834, 835, 836, 837, 838, 839, 840, 877, 878, 879, 880, 881, 882, 883, 884, 885, 898] (by decide +kernel) (by decide +kernel)
set_option maxRecDepth 20000 in
theorem gL_law_X8_inOrder : GoodIn wsL_law (wsV RL 53 RX8 yX8_inOrder wsX8_inOrder) := goodIn_app (goodIn_of _ (by decide +kernel)) ggL_law_X8_inOrder
set_option maxRecDepth 20000 in
theorem ggL_law_X9_inOrder : GoodIn wsL_law wsX9_inOrder := goodIn_r _ [647, 468, 119, 841, 842, 843, 844, 845, 846, 847, 848, 849, 850, 851, 852, 853, 854, 855, 856, 857, 858, 859, 860, 861, 862, 863, 864, 865, 866, 867, 868] (by decide +kernel) (by decide +kernel)
set_option maxRecDepth 20000 in
theorem gL_law_X9_inOrder : GoodIn wsL_law (wsV RL 56 RX9 yX9_inOrder wsX9_inOrder) := goodIn_app (goodIn_of _ (by decide +kernel)) ggL_law_X9_inOrder
set_option maxRecDepth 20000 in
theorem ggL_law_X8_wish : GoodIn wsL_law wsX8_wish := goodIn_r _ [651, 19, 130, 131, 2, 132, 298, 299, 300, 18, 301, 282, 326, 327, 328, 329, 35, 40, 31, 41, 27, 330, 331, 332, 34, 333, 334, 99, 335, 336, 337, 338, 339, 340, 57, 341, 342, 343, 344, 345, 346, 308, 309, 310, 67, 66, 283, 231, 232, 49, 233, 60, 347, 143, 144, 145, 348, 349, 350, 30, 351, 352, 353, 93, 354, 285, 286, 287, 65, 355, 356, 357, 358, 359, 91, 92, 360, 361, 362, 363, 364, 365, 366, 367, 368, 369, 370, 371, 372, 373, 374, 375, 376, 377, 378, 379, 380, 381, 382, 383, 384, 385, 386, 387, 388, 389, 390, 391, 392, 393, 394, 395, 396, 397, 398, 399, 400, 401, 402, 403, 404, 26, 405, 315, 406, 407, 408, 409, 410, 411, 412, 413, 414, 415, 56, 58, 416, 417, 418, 419, 420, 421, 422, 423, 424, 425, 426, 427, 428, 429, 430, 830, 831, 832, 833, 834, 835, 836, 837, 838, 839, 840, 871, 872, 873, 874, 875, 876, 894, 895, 898, 889, 890, 891, 892, 893, 886, 887, 888] (by decide +kernel) (by decide +kernel)
set_option maxRecDepth 20000 in
theorem gL_law_X8_wish : GoodIn wsL_law (wsV RL 57 RX8 yX8_wish wsX8_wish) := goodIn_app (goodIn_of _ (by decide +kernel)) ggL_law_X8_wish
set_option maxRecDepth 20000 in
theorem ggL_law_X9_wish : GoodIn wsL_law wsX9_wish := goodIn_r _ [655, 467, 151, 152, 5, 153, 496, 497, 498, 499, 244, 500, 115, 501, 124, 113, 485, 502, 503, 504, 505, 506, 507, 508, 509, 488, 489, 490, 491, 116, 510, 511, 512, 513, 514, 515, 516, 517, 518, 519, 520, 521, 522, 523, 524, 525, 526, 527, 528, 841, 842, 843, 844, 845, 846, 847, 848, 849, 850, 851, 852, 853, 854, 855, 856, 857, 858, 859, 860, 861, 862, 863, 864, 865, 866, 867, 868] (by decide +kernel) (by decide +kernel)
set_option maxRecDepth 20000 in
theorem gL_law_X9_wish : GoodIn wsL_law (wsV RL 60 RX9 yX9_wish wsX9_wish) := goodIn_app (goodIn_of _ (by decide +kernel)) ggL_law_X9_wish
set_option maxRecDepth 20000 in
theorem ggL_law_X8_spike : GoodIn wsL_law wsX8_spike := goodIn_r _ [659, 27, 402, 403, 404, 26, 405, 315, 660, 661, 662, 663, 316, 830, 831, 832, 833, 834, 835, 836, 837, 838, 839, 840, 886, 887, 888] (by decide +kernel) (by decide +kernel)
set_option maxRecDepth 20000 in
theorem gL_law_X8_spike : GoodIn wsL_law (wsV RL 61 RX8 yX8_spike wsX8_spike) := goodIn_app (goodIn_of _ (by decide +kernel)) ggL_law_X8_spike
set_option maxRecDepth 20000 in
theorem ggL_law_X9_spike : GoodIn wsL_law wsX9_spike := goodIn_r _ [667, 485, 486, 151, 152, 5, 153, 841, 842, 843, 844, 845, 846, 847, 848, 849, 850, 851, 852, 853, 854, 855, 856, 857, 858, 859, 860, 861, 862, 863, 864, 865, 866, 867, 868] (by decide +kernel) (by decide +kernel)
set_option maxRecDepth 20000 in
theorem gL_law_X9_spike : GoodIn wsL_law (wsV RL 64 RX9 yX9_spike wsX9_spike) := goodIn_app (goodIn_of _ (by decide +kernel)) ggL_law_X9_spike
set_option maxRecDepth 20000 in
theorem ggL_law_X8_late : GoodIn wsL_law wsX8_late := goodIn_r _ [671, 672, 19, 130, 131, 2, 132, 673, 336, 337, 18, 338, 282, 339, 340, 57, 341, 674, 675, 676, 677, 678, 308, 309, 310, 67, 66, 283, 231, 232, 49, 233, 60, 830, 831, 832, 833, 834, 835, 836, 837, 838, 839, 840, 871, 872, 873, 874, 875, 876, 898] (by decide +kernel) (by decide +kernel)
set_option maxRecDepth 20000 in
theorem gL_law_X8_late : GoodIn wsL_law (wsV RL 65 RX8 yX8_late wsX8_late) := goodIn_app (goodIn_of _ (by decide +kernel)) ggL_law_X8_late
set_option maxRecDepth 20000 in
theorem ggL_law_X9_late : GoodIn wsL_law wsX9_late := goodIn_r _ [682, 683, 467, 151, 152, 5, 153, 510, 511, 512, 513, 488, 489, 490, 491, 116, 115, 841, 842, 843, 844, 845, 846, 847, 848, 849, 850, 851, 852, 853, 854, 855, 856, 857, 858, 859, 860, 861, 862, 863, 864, 865, 866, 867, 868] (by decide +kernel) (by decide +kernel)
set_option maxRecDepth 20000 in
theorem gL_law_X9_late : GoodIn wsL_law (wsV RL 68 RX9 yX9_late wsX9_late) := goodIn_app (goodIn_of _ (by decide +kernel)) ggL_law_X9_late
set_option maxRecDepth 20000 in
theorem ggL_law_X8_history : GoodIn wsL_law wsX8_history := goodIn_r _ [687, 19, 130, 131, 2, 132, 673, 336, 337, 18, 338, 282, 339, 340, 57, 341, 688, 343, 344, 345, 307, 308, 309, 310, 67, 66, 283, 231, 232, 49, 233, 60, 830, 831, 832, 833, 834, 835, 836, 837, 838, 839, 840, 871, 872, 873, 874, 875, 876, 898] (by decide +kernel) (by decide +kernel)
set_option maxRecDepth 20000 in
theorem gL_law_X8_history : GoodIn wsL_law (wsV RL 69 RX8 yX8_history wsX8_history) := goodIn_app (goodIn_of _ (by decide +kernel)) ggL_law_X8_history
set_option maxRecDepth 20000 in
theorem ggL_law_X9_history : GoodIn wsL_law wsX9_history := goodIn_r _ [692, 467, 151, 152, 5, 153, 488, 489, 490, 491, 116, 115, 841, 842, 843, 844, 845, 846, 847, 848, 849, 850, 851, 852, 853, 854, 855, 856, 857, 858, 859, 860, 861, 862, 863, 864, 865, 866, 867, 868] (by decide +kernel) (by decide +kernel)
set_option maxRecDepth 20000 in
theorem gL_law_X9_history : GoodIn wsL_law (wsV RL 72 RX9 yX9_history wsX9_history) := goodIn_app (goodIn_of _ (by decide +kernel)) ggL_law_X9_history
set_option maxRecDepth 20000 in
theorem ggL_law_X8_loss : GoodIn wsL_law wsX8_loss := goodIn_r _ [696, 672, 19, 130, 131, 2, 132, 298, 299, 300, 18, 301, 282, 674, 675, 676, 677, 678, 308, 309, 310, 67, 66, 283, 231, 232, 49, 233, 60, 830, 831, 832, 833, 834, 835, 836, 837, 838, 839, 840, 871, 872, 873, 874, 875, 876, 898] (by decide +kernel) (by decide +kernel)
set_option maxRecDepth 20000 in
theorem gL_law_X8_loss : GoodIn wsL_law (wsV RL 73 RX8 yX8_loss wsX8_loss) := goodIn_app (goodIn_of _ (by decide +kernel)) ggL_law_X8_loss
set_option maxRecDepth 20000 in
theorem ggL_law_X9_loss : GoodIn wsL_law wsX9_loss := goodIn_r _ [700, 683, 467, 151, 152, 5, 153, 488, 489, 490, 491, 116, 115, 841, 842, 843, 844, 845, 846, 847, 848, 849, 850, 851, 852, 853, 854, 855, 856, 857, 858, 859, 860, 861, 862, 863, 864, 865, 866, 867, 868] (by decide +kernel) (by decide +kernel)
set_option maxRecDepth 20000 in
theorem gL_law_X9_loss : GoodIn wsL_law (wsV RL 76 RX9 yX9_loss wsX9_loss) := goodIn_app (goodIn_of _ (by decide +kernel)) ggL_law_X9_loss
set_option maxRecDepth 20000 in
theorem ggL_law_X8_drift : GoodIn wsL_law wsX8_drift := goodIn_r _ [704, 31, 19, 705, 348, 349, 350, 30, 351, 352, 353, 93, 354, 285, 286, 18, 287, 65, 283, 231, 232, 49, 233, 60, 355, 308, 309, 310, 67, 66, 356, 357, 358, 359, 91, 92, 360, 361, 362, 363, 364, 365, 143, 144, 145, 366, 367, 368, 369, 370, 371, 372, 373, 374, 375, 57, 376, 377, 378, 379, 706, 707, 708, 709, 710, 711, 712, 713, 830, 831, 832, 833, 834, 835, 836, 837, 838, 839, 840, 889, 890, 891, 892, 893, 871, 872, 873, 874, 875, 876, 898] (by decide +kernel) (by decide +kernel)
set_option maxRecDepth 20000 in
theorem gL_law_X8_drift : GoodIn wsL_law (wsV RL 77 RX8 yX8_drift wsX8_drift) := goodIn_app (goodIn_of _ (by decide +kernel)) ggL_law_X8_drift
set_option maxRecDepth 20000 in
theorem ggL_law_X9_drift : GoodIn wsL_law wsX9_drift := goodIn_r _ [717, 718, 500, 501, 151, 152, 5, 153, 502, 503, 504, 505, 467, 115, 506, 507, 508, 509, 488, 489, 490, 491, 116, 841, 842, 843, 844, 845, 846, 847, 848, 849, 850, 851, 852, 853, 854, 855, 856, 857, 858, 859, 860, 861, 862, 863, 864, 865, 866, 867, 868] (by decide +kernel) (by decide +kernel)
set_option maxRecDepth 20000 in
theorem gL_law_X9_drift : GoodIn wsL_law (wsV RL 81 RX9 yX9_drift wsX9_drift) := goodIn_app (goodIn_of _ (by decide +kernel)) ggL_law_X9_drift
set_option maxRecDepth 20000 in
theorem ggL_law_X8_waiting : GoodIn wsL_law wsX8_waiting := goodIn_r _ [722, 723, 19, 130, 131, 2, 132, 298, 299, 300, 18, 301, 282, 557, 558, 559, 560, 67, 283, 231, 232, 49, 233, 60, 565, 566, 567, 568, 69, 830, 831, 832, 833, 834, 835, 836, 837, 838, 839, 840, 871, 872, 873, 874, 875, 876, 898] (by decide +kernel) (by decide +kernel)
set_option maxRecDepth 20000 in
theorem gL_law_X8_waiting : GoodIn wsL_law (wsV RL 82 RX8 yX8_waiting wsX8_waiting) := goodIn_app (goodIn_of _ (by decide +kernel)) ggL_law_X8_waiting
set_option maxRecDepth 20000 in
theorem ggL_law_X9_waiting : GoodIn wsL_law wsX9_waiting := goodIn_r _ [727, 728, 467, 116, 151, 152, 5, 153, 573, 574, 575, 576, 121, 117, 488, 489, 490, 491, 115, 577, 578, 579, 580, 841, 842, 843, 844, 845, 846, 847, 848, 849, 850, 851, 852, 853, 854, 855, 856, 857, 858, 859, 860, 861, 862, 863, 864, 865, 866, 867, 868] (by decide +kernel) (by decide +kernel)
set_option maxRecDepth 20000 in
theorem gL_law_X9_waiting : GoodIn wsL_law (wsV RL 85 RX9 yX9_waiting wsX9_waiting) := goodIn_app (goodIn_of _ (by decide +kernel)) ggL_law_X9_waiting
set_option maxRecDepth 20000 in
theorem ggL_law_X8_playing : GoodIn wsL_law wsX8_playing := goodIn_r _ [732, 723, 19, 130, 131, 2, 132, 298, 299, 300, 18, 301, 282, 565, 566, 567, 568, 69, 283, 231, 232, 49, 233, 60, 733, 385, 386, 387, 66, 830, 831, 832, 833, 834, 835, 836, 837, 838, 839, 840, 871, 872, 873, 874, 875, 876, 898] (by decide +kernel) (by decide +kernel)
set_option maxRecDepth 20000 in
theorem gL_law_X8_playing : GoodIn wsL_law (wsV RL 86 RX8 yX8_playing wsX8_playing) := goodIn_app (goodIn_of _ (by decide +kernel)) ggL_law_X8_playing
set_option maxRecDepth 20000 in
theorem ggL_law_X9_playing : GoodIn wsL_law wsX9_playing := goodIn_r _ [737, 728, 467, 115, 151, 152, 5, 153, 573, 574, 575, 576, 121, 117, 488, 489, 490, 491, 116, 577, 578, 579, 580, 841, 842, 843, 844, 845, 846, 847, 848, 849, 850, 851, 852, 853, 854, 855, 856, 857, 858, 859, 860, 861, 862, 863, 864, 865, 866, 867, 868] (by decide +kernel) (by decide +kernel)
set_option maxRecDepth 20000 in
theorem gL_law_X9_playing : GoodIn wsL_law (wsV RL 89 RX9 yX9_playing wsX9_playing) := goodIn_app (goodIn_of _ (by decide +kernel)) ggL_law_X9_playing
set_option maxRecDepth 20000 in
theorem ggL_law_X8_text : GoodIn wsL_law wsX8_text := goodIn_r _ [741, 23, 39, 585, 586, 587, 22, 588, 292, 130, 131, 2, 132, 742, 743, 744, 745, 746, 747, 748, 38, 749, 750, 751, 752, 753, 754, 105, 755, 143, 144, 49, 145, 60, 589, 590, 591, 592, 75, 293, 231, 232, 233, 756, 757, 758, 759, 760, 761, 613, 614, 615, 616, 78, 174, 175, 176, 762, 763, 764, 765, 766, 182, 183, 184, 185, 186, 187, 188, 189, 190, 191, 192, 767, 194, 195, 196, 197, 198, 199, 200, 201, 202, 203, 204, 205, 206, 207, 208, 209, 210, 211, 212, 213, 214, 215, 216, 217, 218, 219, 220, 221, 222, 223, 224, 225, 226, 227, 228, 229, 450, 451, 452, 453, 77, 609, 610, 611, 612, 81, 768, 769, 770, 771, 772, 773, 774, 775, 776, 777, 778, 779, 780, 19, 284, 285, 286, 18, 287, 65, 283, 565, 566, 567, 568, 69, 830, 831, 832, 833, 834, 835, 836, 837, 838, 839, 840, 877, 878, 879, 880, 881, 882, 883, 884, 885, 896, 897, 898, 871, 872, 873, 874, 875, 876] (by decide +kernel) (by decide +kernel)
set_option maxRecDepth 20000 in
theorem gL_law_X8_text : GoodIn wsL_law (wsV RL 90 RX8 yX8_text wsX8_text) := goodIn_app (goodIn_of _ (by decide +kernel)) ggL_law_X8_text
set_option maxRecDepth 20000 in
theorem ggL_law_X9_text : GoodIn wsL_law wsX9_text := goodIn_r _ [784, 785, 125, 624, 625, 626, 5, 627, 468, 151, 152, 153, 786, 787, 788, 789, 119, 122, 111, 121, 623, 118, 790, 791, 792, 793, 794, 795, 796, 797, 249, 250, 251, 252, 628, 629, 630, 631, 621, 622, 467, 117, 115, 573, 574, 575, 576, 488, 489, 490, 491, 116, 841, 842, 843, 844, 845, 846, 847, 848, 849, 850, 851, 852, 853, 854, 855, 856, 857, 858, 859, 860, 861, 862, 863, 864, 865, 866, 867, 868] (by decide +kernel) (by decide +kernel)
set_option maxRecDepth 20000 in
theorem gL_law_X9_text : GoodIn wsL_law (wsV RL 93 RX9 yX9_text wsX9_text) := goodIn_app (goodIn_of _ (by decide +kernel)) ggL_law_X9_text
set_option maxRecDepth 20000 in
theorem ggL_law_X8_word : GoodIn wsL_law wsX8_word := goodIn_r _ [801, 40, 130, 131, 2, 132, 174, 175, 176, 802, 182, 183, 184, 185, 186, 187, 188, 189, 190, 191, 192, 803, 194, 195, 196, 197, 198, 199, 200, 201, 202, 203, 204, 205, 206, 207, 208, 209, 210, 211, 212, 213, 214, 215, 216, 217, 218, 219, 220, 221, 222, 223, 224, 225, 226, 227, 228, 229, 830, 831, 832, 833, 834, 835, 836, 837, 838, 839, 840] (by decide +kernel) (by decide +kernel)
set_option maxRecDepth 20000 in
theorem gL_law_X8_word : GoodIn wsL_law (wsV RL 94 RX8 yX8_word wsX8_word) := goodIn_app (goodIn_of _ (by decide +kernel)) ggL_law_X8_word
set_option maxRecDepth 20000 in
theorem ggL_law_X9_word : GoodIn wsL_law wsX9_word := goodIn_r _ [807, 244, 111, 151, 152, 5, 153, 249, 250, 251, 252, 841, 842, 843, 844, 845, 846, 847, 848, 849, 850, 851, 852, 853, 854, 855, 856, 857, 858, 859, 860, 861, 862, 863, 864, 865, 866, 867, 868] (by decide +kernel) (by decide +kernel)
set_option maxRecDepth 20000 in
theorem gL_law_X9_word : GoodIn wsL_law (wsV RL 97 RX9 yX9_word wsX9_word) := goodIn_app (goodIn_of _ (by decide +kernel)) ggL_law_X9_word
set_option maxRecDepth 20000 in
theorem ggL_law_X8_many : GoodIn wsL_law wsX8_many := goodIn_r _ [811, 19, 23, 15, 27, 298, 299, 300, 18, 301, 282, 585, 586, 587, 22, 588, 292, 812, 813, 814, 815, 816, 602, 603, 604, 80, 293, 231, 232, 49, 233, 60, 817, 818, 819, 820, 821, 606, 607, 608, 81, 75, 79, 673, 336, 337, 338, 339, 340, 57, 341, 133, 134, 135, 14, 136, 137, 822, 823, 824, 26, 825, 317, 830, 831, 832, 833, 834, 835, 836, 837, 838, 839, 840, 871, 872, 873, 874, 875, 876, 877, 878, 879, 880, 881, 882, 883, 884, 885, 898, 869, 870, 886, 887, 888] (by decide +kernel) (by decide +kernel)
set_option maxRecDepth 20000 in
theorem gL_law_X8_many : GoodIn wsL_law (wsV RL 98 RX8 yX8_many wsX8_many) := goodIn_app (goodIn_of _ (by decide +kernel)) ggL_law_X8_many
set_option maxRecDepth 20000 in
theorem ggL_law_X9_many : GoodIn wsL_law wsX9_many := goodIn_r _ [829, 468, 622, 467, 150, 487, 632, 633, 634, 5, 635, 623, 119, 621, 628, 629, 630, 631, 117, 115, 573, 574, 575, 576, 121, 488, 489, 490, 491, 116, 510, 511, 512, 513, 841, 842, 843, 844, 845, 846, 847, 848, 849, 850, 851, 852, 853, 854, 855, 856, 857, 858, 859, 860, 861, 862, 863, 864, 865, 866, 867, 868] (by decide +kernel) (by decide +kernel)
set_option maxRecDepth 20000 in
theorem gL_law_X9_many : GoodIn wsL_law (wsV RL 101 RX9 yX9_many wsX9_many) := goodIn_app (goodIn_of _ (by decide +kernel)) ggL_law_X9_many
theorem dL_law_0 : decode cL_law 0 = .ok (.new 7, 3) := by decide +kernel
theorem dL_law_3 : decode cL_law 3 = .ok (.dup, 1) := by decide +kernel
theorem dL_law_4 : decode cL_law 4 = .ok (.invokespecial 9, 3) := by decide +kernel
theorem dL_law_7 : decode cL_law 7 = .ok (.astore_n 1, 1) := by decide +kernel
theorem dL_law_8 : decode cL_law 8 = .ok (.new 10, 3) := by decide +kernel
theorem dL_law_11 : decode cL_law 11 = .ok (.dup, 1) := by decide +kernel
theorem dL_law_12 : decode cL_law 12 = .ok (.invokespecial 12, 3) := by decide +kernel
theorem dL_law_15 : decode cL_law 15 = .ok (.astore_n 2, 1) := by decide +kernel
theorem dL_law_16 : decode cL_law 16 = .ok (.iconst 0, 1) := by decide +kernel
theorem dL_law_17 : decode cL_law 17 = .ok (.istore_n 3, 1) := by decide +kernel
theorem dL_law_18 : decode cL_law 18 = .ok (.iload_n 3, 1) := by decide +kernel
theorem dL_law_19 : decode cL_law 19 = .ok (.aload_n 0, 1) := by decide +kernel
theorem dL_law_20 : decode cL_law 20 = .ok (.arraylength, 1) := by decide +kernel
theorem dL_law_21 : decode cL_law 21 = .ok (.iconst 5, 1) := by decide +kernel
theorem dL_law_22 : decode cL_law 22 = .ok (.isub, 1) := by decide +kernel
theorem dL_law_23 : decode cL_law 23 = .ok (.if_icmp .gt 639, 3) := by decide +kernel
theorem dL_law_26 : decode cL_law 26 = .ok (.aload_n 0, 1) := by decide +kernel
theorem dL_law_27 : decode cL_law 27 = .ok (.iload_n 3, 1) := by decide +kernel
theorem dL_law_28 : decode cL_law 28 = .ok (.iaload, 1) := by decide +kernel
theorem dL_law_29 : decode cL_law 29 = .ok (.bipush 31, 2) := by decide +kernel
theorem dL_law_31 : decode cL_law 31 = .ok (.iand, 1) := by decide +kernel
theorem dL_law_32 : decode cL_law 32 = .ok (.tableswitch 624 0 20 #[100, 123, 136, 159, 182, 205, 258, 271, 304, 337, 360, 383, 406, 429, 452, 475, 499, 522, 545, 578, 601], 100) := by decide +kernel
theorem dL_law_132 : decode cL_law 132 = .ok (.aload_n 1, 1) := by decide +kernel
theorem dL_law_133 : decode cL_law 133 = .ok (.aload_n 0, 1) := by decide +kernel
theorem dL_law_134 : decode cL_law 134 = .ok (.iload_n 3, 1) := by decide +kernel
theorem dL_law_135 : decode cL_law 135 = .ok (.iconst 1, 1) := by decide +kernel
theorem dL_law_136 : decode cL_law 136 = .ok (.iadd, 1) := by decide +kernel
theorem dL_law_137 : decode cL_law 137 = .ok (.iaload, 1) := by decide +kernel
theorem dL_law_138 : decode cL_law 138 = .ok (.invokevirtual 13, 3) := by decide +kernel
theorem dL_law_141 : decode cL_law 141 = .ok (.aload_n 2, 1) := by decide +kernel
theorem dL_law_142 : decode cL_law 142 = .ok (.aload_n 0, 1) := by decide +kernel
theorem dL_law_143 : decode cL_law 143 = .ok (.iload_n 3, 1) := by decide +kernel
theorem dL_law_144 : decode cL_law 144 = .ok (.iconst 1, 1) := by decide +kernel
theorem dL_law_145 : decode cL_law 145 = .ok (.iadd, 1) := by decide +kernel
theorem dL_law_146 : decode cL_law 146 = .ok (.iaload, 1) := by decide +kernel
theorem dL_law_147 : decode cL_law 147 = .ok (.invokevirtual 17, 3) := by decide +kernel
theorem dL_law_150 : decode cL_law 150 = .ok (.if_icmp .eq 506, 3) := by decide +kernel
theorem dL_law_153 : decode cL_law 153 = .ok (.iconst 0, 1) := by decide +kernel
theorem dL_law_154 : decode cL_law 154 = .ok (.ireturn, 1) := by decide +kernel
