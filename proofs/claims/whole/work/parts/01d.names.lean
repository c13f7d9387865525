set_option maxRecDepth 20000 in
theorem gX7_byShare_X7_greatestOfLast : GoodIn wsX7_byShare (wsV RX7 52 RX7 yX7_greatestOfLast wsX7_greatestOfLast) := goodIn_app (goodIn_of _ (by decide +kernel)) ggX7_byShare_X7_greatestOfLast
set_option maxRecDepth 20000 in
theorem ggX7_byShare_X2_get : GoodIn wsX7_byShare wsX2_get := goodIn_r _ [16, 17, 24] (by decide +kernel) (by decide +kernel)
set_option maxRecDepth 20000 in
theorem gX7_byShare_X2_get : GoodIn wsX7_byShare (wsV RX7 55 RX2 yX2_get wsX2_get) := goodIn_app (goodIn_of _ (by decide +kernel)) ggX7_byShare_X2_get
set_option maxRecDepth 20000 in
theorem ggX7_byShare_X7_countAbove : GoodIn wsX7_byShare wsX7_countAbove := goodIn_r _ [21, 1, 2, 12, 13, 14, 15, 16, 17, 22, 23, 24] (by decide +kernel) (by decide +kernel)
set_option maxRecDepth 20000 in
theorem gX7_byShare_X7_countAbove : GoodIn wsX7_byShare (wsV RX7 58 RX7 yX7_countAbove wsX7_countAbove) := goodIn_app (goodIn_of _ (by decide +kernel)) ggX7_byShare_X7_countAbove
theorem dX7_byShare_0 : decode cX7_byShare 0 = .ok (.aload_n 0, 1) := by decide +kernel
theorem dX7_byShare_1 : decode cX7_byShare 1 = .ok (.aload_n 0, 1) := by decide +kernel
theorem dX7_byShare_2 : decode cX7_byShare 2 = .ok (.getfield 26, 3) := by decide +kernel
theorem dX7_byShare_5 : decode cX7_byShare 5 = .ok (.invokevirtual 52, 3) := by decide +kernel
theorem dX7_byShare_8 : decode cX7_byShare 8 = .ok (.istore_n 2, 1) := by decide +kernel
theorem dX7_byShare_9 : decode cX7_byShare 9 = .ok (.iconst 0, 1) := by decide +kernel
theorem dX7_byShare_10 : decode cX7_byShare 10 = .ok (.istore_n 3, 1) := by decide +kernel
theorem dX7_byShare_11 : decode cX7_byShare 11 = .ok (.iload_n 3, 1) := by decide +kernel
theorem dX7_byShare_12 : decode cX7_byShare 12 = .ok (.aload_n 0, 1) := by decide +kernel
theorem dX7_byShare_13 : decode cX7_byShare 13 = .ok (.getfield 26, 3) := by decide +kernel
theorem dX7_byShare_16 : decode cX7_byShare 16 = .ok (.if_icmp .ge 47, 3) := by decide +kernel
theorem dX7_byShare_19 : decode cX7_byShare 19 = .ok (.aload_n 0, 1) := by decide +kernel
theorem dX7_byShare_20 : decode cX7_byShare 20 = .ok (.getfield 14, 3) := by decide +kernel
theorem dX7_byShare_23 : decode cX7_byShare 23 = .ok (.iload_n 3, 1) := by decide +kernel
theorem dX7_byShare_24 : decode cX7_byShare 24 = .ok (.invokevirtual 55, 3) := by decide +kernel
theorem dX7_byShare_27 : decode cX7_byShare 27 = .ok (.istore 4, 2) := by decide +kernel
theorem dX7_byShare_29 : decode cX7_byShare 29 = .ok (.iload 4, 2) := by decide +kernel
theorem dX7_byShare_31 : decode cX7_byShare 31 = .ok (.iload_n 2, 1) := by decide +kernel
theorem dX7_byShare_32 : decode cX7_byShare 32 = .ok (.if_icmp .ge 25, 3) := by decide +kernel
theorem dX7_byShare_35 : decode cX7_byShare 35 = .ok (.sipush 256, 3) := by decide +kernel
theorem dX7_byShare_38 : decode cX7_byShare 38 = .ok (.aload_n 0, 1) := by decide +kernel
theorem dX7_byShare_39 : decode cX7_byShare 39 = .ok (.iload 4, 2) := by decide +kernel
theorem dX7_byShare_41 : decode cX7_byShare 41 = .ok (.invokevirtual 58, 3) := by decide +kernel
theorem dX7_byShare_44 : decode cX7_byShare 44 = .ok (.imul, 1) := by decide +kernel
theorem dX7_byShare_45 : decode cX7_byShare 45 = .ok (.iload_n 1, 1) := by decide +kernel
theorem dX7_byShare_46 : decode cX7_byShare 46 = .ok (.aload_n 0, 1) := by decide +kernel
theorem dX7_byShare_47 : decode cX7_byShare 47 = .ok (.getfield 26, 3) := by decide +kernel
theorem dX7_byShare_50 : decode cX7_byShare 50 = .ok (.imul, 1) := by decide +kernel
theorem dX7_byShare_51 : decode cX7_byShare 51 = .ok (.if_icmp .gt 6, 3) := by decide +kernel
theorem dX7_byShare_54 : decode cX7_byShare 54 = .ok (.iload 4, 2) := by decide +kernel
theorem dX7_byShare_56 : decode cX7_byShare 56 = .ok (.istore_n 2, 1) := by decide +kernel
theorem dX7_byShare_57 : decode cX7_byShare 57 = .ok (.iinc 3 1, 3) := by decide +kernel
theorem dX7_byShare_60 : decode cX7_byShare 60 = .ok (.goto (-49), 3) := by decide +kernel
theorem dX7_byShare_63 : decode cX7_byShare 63 = .ok (.iload_n 2, 1) := by decide +kernel
theorem dX7_byShare_64 : decode cX7_byShare 64 = .ok (.ireturn, 1) := by decide +kernel
set_option maxRecDepth 20000 in
theorem ggX7_greatestOfLastThree_X7_greatestOfLast : GoodIn wsX7_greatestOfLastThree wsX7_greatestOfLast := goodIn_r _ [10, 11, 12, 13, 4, 14, 15, 16, 17, 18, 19, 20, 21, 22, 23] (by decide +kernel) (by decide +kernel)
set_option maxRecDepth 20000 in
theorem gX7_greatestOfLastThree_X7_greatestOfLast : GoodIn wsX7_greatestOfLastThree (wsV RX7 52 RX7 yX7_greatestOfLast wsX7_greatestOfLast) := goodIn_app (goodIn_of _ (by decide +kernel)) ggX7_greatestOfLastThree_X7_greatestOfLast
theorem dX7_greatestOfLastThree_0 : decode cX7_greatestOfLastThree 0 = .ok (.aload_n 0, 1) := by decide +kernel
theorem dX7_greatestOfLastThree_1 : decode cX7_greatestOfLastThree 1 = .ok (.aload_n 0, 1) := by decide +kernel
theorem dX7_greatestOfLastThree_2 : decode cX7_greatestOfLastThree 2 = .ok (.getfield 26, 3) := by decide +kernel
theorem dX7_greatestOfLastThree_5 : decode cX7_greatestOfLastThree 5 = .ok (.iconst 3, 1) := by decide +kernel
theorem dX7_greatestOfLastThree_6 : decode cX7_greatestOfLastThree 6 = .ok (.invokestatic 61, 3) := by decide +kernel
theorem dX7_greatestOfLastThree_9 : decode cX7_greatestOfLastThree 9 = .ok (.invokevirtual 52, 3) := by decide +kernel
theorem dX7_greatestOfLastThree_12 : decode cX7_greatestOfLastThree 12 = .ok (.ireturn, 1) := by decide +kernel
set_option maxRecDepth 20000 in
theorem ggX7_byMean_X2_get : GoodIn wsX7_byMean wsX2_get := goodIn_r _ [11, 12, 19] (by decide +kernel) (by decide +kernel)
set_option maxRecDepth 20000 in
theorem gX7_byMean_X2_get : GoodIn wsX7_byMean (wsV RX7 55 RX2 yX2_get wsX2_get) := goodIn_app (goodIn_of _ (by decide +kernel)) ggX7_byMean_X2_get
set_option maxRecDepth 20000 in
theorem ggX7_byMean_J9_floorDiv_7cf53 : GoodIn wsX7_byMean wsJ9_floorDiv_7cf53 := goodIn_r _ [16] (by decide +kernel) (by decide +kernel)
set_option maxRecDepth 20000 in
theorem gX7_byMean_J9_floorDiv_7cf53 : GoodIn wsX7_byMean (va_wsS RX7 67 yJ9_floorDiv_7cf53 wsJ9_floorDiv_7cf53) := goodIn_app (goodIn_of _ (by decide +kernel)) ggX7_byMean_J9_floorDiv_7cf53
theorem dX7_byMean_0 : decode cX7_byMean 0 = .ok (.aload_n 0, 1) := by decide +kernel
theorem dX7_byMean_1 : decode cX7_byMean 1 = .ok (.getfield 26, 3) := by decide +kernel
theorem dX7_byMean_4 : decode cX7_byMean 4 = .ok (.ifCond .gt 5, 3) := by decide +kernel
theorem dX7_byMean_7 : decode cX7_byMean 7 = .ok (.iconst 0, 1) := by decide +kernel
theorem dX7_byMean_8 : decode cX7_byMean 8 = .ok (.ireturn, 1) := by decide +kernel
theorem dX7_byMean_9 : decode cX7_byMean 9 = .ok (.iconst 0, 1) := by decide +kernel
theorem dX7_byMean_10 : decode cX7_byMean 10 = .ok (.istore_n 2, 1) := by decide +kernel
theorem dX7_byMean_11 : decode cX7_byMean 11 = .ok (.iconst 0, 1) := by decide +kernel
theorem dX7_byMean_12 : decode cX7_byMean 12 = .ok (.istore_n 3, 1) := by decide +kernel
theorem dX7_byMean_13 : decode cX7_byMean 13 = .ok (.iload_n 3, 1) := by decide +kernel
theorem dX7_byMean_14 : decode cX7_byMean 14 = .ok (.aload_n 0, 1) := by decide +kernel
theorem dX7_byMean_15 : decode cX7_byMean 15 = .ok (.getfield 26, 3) := by decide +kernel
theorem dX7_byMean_18 : decode cX7_byMean 18 = .ok (.if_icmp .ge 20, 3) := by decide +kernel
theorem dX7_byMean_21 : decode cX7_byMean 21 = .ok (.iload_n 2, 1) := by decide +kernel
theorem dX7_byMean_22 : decode cX7_byMean 22 = .ok (.aload_n 0, 1) := by decide +kernel
theorem dX7_byMean_23 : decode cX7_byMean 23 = .ok (.getfield 14, 3) := by decide +kernel
theorem dX7_byMean_26 : decode cX7_byMean 26 = .ok (.iload_n 3, 1) := by decide +kernel
theorem dX7_byMean_27 : decode cX7_byMean 27 = .ok (.invokevirtual 55, 3) := by decide +kernel
theorem dX7_byMean_30 : decode cX7_byMean 30 = .ok (.iadd, 1) := by decide +kernel
theorem dX7_byMean_31 : decode cX7_byMean 31 = .ok (.istore_n 2, 1) := by decide +kernel
theorem dX7_byMean_32 : decode cX7_byMean 32 = .ok (.iinc 3 1, 3) := by decide +kernel
theorem dX7_byMean_35 : decode cX7_byMean 35 = .ok (.goto (-22), 3) := by decide +kernel
theorem dX7_byMean_38 : decode cX7_byMean 38 = .ok (.iload_n 2, 1) := by decide +kernel
theorem dX7_byMean_39 : decode cX7_byMean 39 = .ok (.aload_n 0, 1) := by decide +kernel
theorem dX7_byMean_40 : decode cX7_byMean 40 = .ok (.getfield 26, 3) := by decide +kernel
theorem dX7_byMean_43 : decode cX7_byMean 43 = .ok (.invokestatic 67, 3) := by decide +kernel
theorem dX7_byMean_46 : decode cX7_byMean 46 = .ok (.istore_n 3, 1) := by decide +kernel
theorem dX7_byMean_47 : decode cX7_byMean 47 = .ok (.iconst 0, 1) := by decide +kernel
theorem dX7_byMean_48 : decode cX7_byMean 48 = .ok (.istore 4, 2) := by decide +kernel
theorem dX7_byMean_50 : decode cX7_byMean 50 = .ok (.iconst 0, 1) := by decide +kernel
theorem dX7_byMean_51 : decode cX7_byMean 51 = .ok (.istore 5, 2) := by decide +kernel
theorem dX7_byMean_53 : decode cX7_byMean 53 = .ok (.iload 5, 2) := by decide +kernel
theorem dX7_byMean_55 : decode cX7_byMean 55 = .ok (.aload_n 0, 1) := by decide +kernel
theorem dX7_byMean_56 : decode cX7_byMean 56 = .ok (.getfield 26, 3) := by decide +kernel
theorem dX7_byMean_59 : decode cX7_byMean 59 = .ok (.if_icmp .ge 28, 3) := by decide +kernel
theorem dX7_byMean_62 : decode cX7_byMean 62 = .ok (.iload 4, 2) := by decide +kernel
theorem dX7_byMean_64 : decode cX7_byMean 64 = .ok (.aload_n 0, 1) := by decide +kernel
theorem dX7_byMean_65 : decode cX7_byMean 65 = .ok (.getfield 14, 3) := by decide +kernel
theorem dX7_byMean_68 : decode cX7_byMean 68 = .ok (.iload 5, 2) := by decide +kernel
theorem dX7_byMean_70 : decode cX7_byMean 70 = .ok (.invokevirtual 55, 3) := by decide +kernel
theorem dX7_byMean_73 : decode cX7_byMean 73 = .ok (.iload_n 3, 1) := by decide +kernel
theorem dX7_byMean_74 : decode cX7_byMean 74 = .ok (.isub, 1) := by decide +kernel
theorem dX7_byMean_75 : decode cX7_byMean 75 = .ok (.invokestatic 70, 3) := by decide +kernel
theorem dX7_byMean_78 : decode cX7_byMean 78 = .ok (.iadd, 1) := by decide +kernel
theorem dX7_byMean_79 : decode cX7_byMean 79 = .ok (.istore 4, 2) := by decide +kernel
theorem dX7_byMean_81 : decode cX7_byMean 81 = .ok (.iinc 5 1, 3) := by decide +kernel
theorem dX7_byMean_84 : decode cX7_byMean 84 = .ok (.goto (-31), 3) := by decide +kernel
theorem dX7_byMean_87 : decode cX7_byMean 87 = .ok (.iload_n 3, 1) := by decide +kernel
theorem dX7_byMean_88 : decode cX7_byMean 88 = .ok (.iload_n 1, 1) := by decide +kernel
theorem dX7_byMean_89 : decode cX7_byMean 89 = .ok (.iload 4, 2) := by decide +kernel
theorem dX7_byMean_91 : decode cX7_byMean 91 = .ok (.aload_n 0, 1) := by decide +kernel
theorem dX7_byMean_92 : decode cX7_byMean 92 = .ok (.getfield 26, 3) := by decide +kernel
theorem dX7_byMean_95 : decode cX7_byMean 95 = .ok (.invokestatic 67, 3) := by decide +kernel
theorem dX7_byMean_98 : decode cX7_byMean 98 = .ok (.imul, 1) := by decide +kernel
theorem dX7_byMean_99 : decode cX7_byMean 99 = .ok (.iadd, 1) := by decide +kernel
theorem dX7_byMean_100 : decode cX7_byMean 100 = .ok (.ireturn, 1) := by decide +kernel
set_option maxRecDepth 20000 in
theorem ggX7_countAbove_X2_get : GoodIn wsX7_countAbove wsX2_get := goodIn_r _ [7, 8, 11] (by decide +kernel) (by decide +kernel)
set_option maxRecDepth 20000 in
theorem gX7_countAbove_X2_get : GoodIn wsX7_countAbove (wsV RX7 55 RX2 yX2_get wsX2_get) := goodIn_app (goodIn_of _ (by decide +kernel)) ggX7_countAbove_X2_get
theorem dX7_countAbove_0 : decode cX7_countAbove 0 = .ok (.iconst 0, 1) := by decide +kernel
theorem dX7_countAbove_1 : decode cX7_countAbove 1 = .ok (.istore_n 2, 1) := by decide +kernel
theorem dX7_countAbove_2 : decode cX7_countAbove 2 = .ok (.iconst 0, 1) := by decide +kernel
theorem dX7_countAbove_3 : decode cX7_countAbove 3 = .ok (.istore_n 3, 1) := by decide +kernel
theorem dX7_countAbove_4 : decode cX7_countAbove 4 = .ok (.iload_n 3, 1) := by decide +kernel
theorem dX7_countAbove_5 : decode cX7_countAbove 5 = .ok (.aload_n 0, 1) := by decide +kernel
theorem dX7_countAbove_6 : decode cX7_countAbove 6 = .ok (.getfield 26, 3) := by decide +kernel
theorem dX7_countAbove_9 : decode cX7_countAbove 9 = .ok (.if_icmp .ge 24, 3) := by decide +kernel
theorem dX7_countAbove_12 : decode cX7_countAbove 12 = .ok (.aload_n 0, 1) := by decide +kernel
theorem dX7_countAbove_13 : decode cX7_countAbove 13 = .ok (.getfield 14, 3) := by decide +kernel
theorem dX7_countAbove_16 : decode cX7_countAbove 16 = .ok (.iload_n 3, 1) := by decide +kernel
theorem dX7_countAbove_17 : decode cX7_countAbove 17 = .ok (.invokevirtual 55, 3) := by decide +kernel
theorem dX7_countAbove_20 : decode cX7_countAbove 20 = .ok (.iload_n 1, 1) := by decide +kernel
theorem dX7_countAbove_21 : decode cX7_countAbove 21 = .ok (.if_icmp .le 6, 3) := by decide +kernel
theorem dX7_countAbove_24 : decode cX7_countAbove 24 = .ok (.iinc 2 1, 3) := by decide +kernel
theorem dX7_countAbove_27 : decode cX7_countAbove 27 = .ok (.iinc 3 1, 3) := by decide +kernel
theorem dX7_countAbove_30 : decode cX7_countAbove 30 = .ok (.goto (-26), 3) := by decide +kernel
theorem dX7_countAbove_33 : decode cX7_countAbove 33 = .ok (.iload_n 2, 1) := by decide +kernel
theorem dX7_countAbove_34 : decode cX7_countAbove 34 = .ok (.ireturn, 1) := by decide +kernel
set_option maxRecDepth 20000 in
theorem ggX7_greatestOfLast_X2_get : GoodIn wsX7_greatestOfLast wsX2_get := goodIn_r _ [10, 11, 14] (by decide +kernel) (by decide +kernel)
set_option maxRecDepth 20000 in
theorem gX7_greatestOfLast_X2_get : GoodIn wsX7_greatestOfLast (wsV RX7 55 RX2 yX2_get wsX2_get) := goodIn_app (goodIn_of _ (by decide +kernel)) ggX7_greatestOfLast_X2_get
theorem dX7_greatestOfLast_0 : decode cX7_greatestOfLast 0 = .ok (.aload_n 0, 1) := by decide +kernel
theorem dX7_greatestOfLast_1 : decode cX7_greatestOfLast 1 = .ok (.getfield 14, 3) := by decide +kernel
theorem dX7_greatestOfLast_4 : decode cX7_greatestOfLast 4 = .ok (.iconst 0, 1) := by decide +kernel
theorem dX7_greatestOfLast_5 : decode cX7_greatestOfLast 5 = .ok (.invokevirtual 55, 3) := by decide +kernel
theorem dX7_greatestOfLast_8 : decode cX7_greatestOfLast 8 = .ok (.istore_n 2, 1) := by decide +kernel
theorem dX7_greatestOfLast_9 : decode cX7_greatestOfLast 9 = .ok (.iconst 1, 1) := by decide +kernel
theorem dX7_greatestOfLast_10 : decode cX7_greatestOfLast 10 = .ok (.istore_n 3, 1) := by decide +kernel
theorem dX7_greatestOfLast_11 : decode cX7_greatestOfLast 11 = .ok (.iload_n 3, 1) := by decide +kernel
theorem dX7_greatestOfLast_12 : decode cX7_greatestOfLast 12 = .ok (.iload_n 1, 1) := by decide +kernel
theorem dX7_greatestOfLast_13 : decode cX7_greatestOfLast 13 = .ok (.if_icmp .ge 22, 3) := by decide +kernel
theorem dX7_greatestOfLast_16 : decode cX7_greatestOfLast 16 = .ok (.iload_n 2, 1) := by decide +kernel
theorem dX7_greatestOfLast_17 : decode cX7_greatestOfLast 17 = .ok (.aload_n 0, 1) := by decide +kernel
theorem dX7_greatestOfLast_18 : decode cX7_greatestOfLast 18 = .ok (.getfield 14, 3) := by decide +kernel
theorem dX7_greatestOfLast_21 : decode cX7_greatestOfLast 21 = .ok (.iload_n 3, 1) := by decide +kernel
theorem dX7_greatestOfLast_22 : decode cX7_greatestOfLast 22 = .ok (.invokevirtual 55, 3) := by decide +kernel
theorem dX7_greatestOfLast_25 : decode cX7_greatestOfLast 25 = .ok (.invokestatic 73, 3) := by decide +kernel
theorem dX7_greatestOfLast_28 : decode cX7_greatestOfLast 28 = .ok (.istore_n 2, 1) := by decide +kernel
theorem dX7_greatestOfLast_29 : decode cX7_greatestOfLast 29 = .ok (.iinc 3 1, 3) := by decide +kernel
theorem dX7_greatestOfLast_32 : decode cX7_greatestOfLast 32 = .ok (.goto (-21), 3) := by decide +kernel
theorem dX7_greatestOfLast_35 : decode cX7_greatestOfLast 35 = .ok (.iload_n 2, 1) := by decide +kernel
theorem dX7_greatestOfLast_36 : decode cX7_greatestOfLast 36 = .ok (.ireturn, 1) := by decide +kernel
set_option maxRecDepth 20000 in
theorem ggX8_init_X6_init : GoodIn wsX8_init wsX6_init := goodIn_r _ [37, 38, 2, 3, 39, 40, 41, 42, 43, 44, 45, 46, 47, 48, 49, 50, 51, 52, 139, 99, 100] (by decide +kernel) (by decide +kernel)
set_option maxRecDepth 20000 in
theorem gX8_init_X6_init_n11 : GoodIn wsX8_init (wsX6_init) := ggX8_init_X6_init
set_option maxRecDepth 20000 in
theorem ggX8_init_X0_init : GoodIn wsX8_init wsX0_init := goodIn_r _ [54, 55, 2, 3, 56, 40, 41, 57, 58, 59, 60, 61, 62, 44, 45, 46, 47, 48, 49, 50, 51, 52, 139, 112, 113, 114, 115, 116, 117] (by decide +kernel) (by decide +kernel)
set_option maxRecDepth 20000 in
theorem gX8_init_X0_init_n20 : GoodIn wsX8_init (wsX0_init) := ggX8_init_X0_init
set_option maxRecDepth 20000 in
theorem ggX8_init_X4_init : GoodIn wsX8_init wsX4_init := goodIn_r _ [64, 65, 2, 3, 66, 40, 41, 67, 68, 69, 70, 71, 72, 73, 74, 75, 44, 45, 46, 47, 48, 49, 50, 51, 52, 139, 118, 119, 120, 121, 122, 123, 124, 125, 126] (by decide +kernel) (by decide +kernel)
set_option maxRecDepth 20000 in
theorem gX8_init_X4_init_n27 : GoodIn wsX8_init (wsX4_init) := ggX8_init_X4_init
set_option maxRecDepth 20000 in
theorem ggX8_init_X5_init : GoodIn wsX8_init wsX5_init := goodIn_r _ [77, 78, 2, 3] (by decide +kernel) (by decide +kernel)
set_option maxRecDepth 20000 in
theorem gX8_init_X5_init_n34 : GoodIn wsX8_init (wsX5_init) := ggX8_init_X5_init
set_option maxRecDepth 20000 in
theorem ggX8_init_X1_init : GoodIn wsX8_init wsX1_init := goodIn_r _ [80, 81, 2, 3, 82, 40, 41, 83, 84, 85, 86, 44, 45, 46, 47, 48, 49, 50, 51, 52, 139, 130, 131, 132, 133, 134] (by decide +kernel) (by decide +kernel)
set_option maxRecDepth 20000 in
theorem gX8_init_X1_init_n41 : GoodIn wsX8_init (wsX1_init) := ggX8_init_X1_init
set_option maxRecDepth 20000 in
theorem ggX8_init_X7_init : GoodIn wsX8_init wsX7_init := goodIn_r _ [88, 89, 2, 3, 90, 40, 41, 91, 92, 44, 45, 46, 47, 48, 49, 50, 51, 52, 139, 135, 136] (by decide +kernel) (by decide +kernel)
set_option maxRecDepth 20000 in
theorem gX8_init_X7_init_n48 : GoodIn wsX8_init (wsX7_init) := ggX8_init_X7_init
set_option maxRecDepth 20000 in
theorem ggX8_init_X3_init : GoodIn wsX8_init wsX3_init := goodIn_r _ [94, 95, 2, 3, 96, 40, 41, 97, 98, 44, 45, 46, 47, 48, 49, 50, 51, 52, 139, 137, 138] (by decide +kernel) (by decide +kernel)
set_option maxRecDepth 20000 in
theorem gX8_init_X3_init_n55 : GoodIn wsX8_init (wsX3_init) := ggX8_init_X3_init
theorem dX8_init_0 : decode cX8_init 0 = .ok (.aload_n 0, 1) := by decide +kernel
theorem dX8_init_1 : decode cX8_init 1 = .ok (.invokespecial 3, 3) := by decide +kernel
theorem dX8_init_4 : decode cX8_init 4 = .ok (.aload_n 0, 1) := by decide +kernel
theorem dX8_init_5 : decode cX8_init 5 = .ok (.new 9, 3) := by decide +kernel
theorem dX8_init_8 : decode cX8_init 8 = .ok (.dup, 1) := by decide +kernel
theorem dX8_init_9 : decode cX8_init 9 = .ok (.invokespecial 11, 3) := by decide +kernel
theorem dX8_init_12 : decode cX8_init 12 = .ok (.putfield 12, 3) := by decide +kernel
theorem dX8_init_15 : decode cX8_init 15 = .ok (.aload_n 0, 1) := by decide +kernel
theorem dX8_init_16 : decode cX8_init 16 = .ok (.new 18, 3) := by decide +kernel
theorem dX8_init_19 : decode cX8_init 19 = .ok (.dup, 1) := by decide +kernel
theorem dX8_init_20 : decode cX8_init 20 = .ok (.invokespecial 20, 3) := by decide +kernel
theorem dX8_init_23 : decode cX8_init 23 = .ok (.putfield 21, 3) := by decide +kernel
theorem dX8_init_26 : decode cX8_init 26 = .ok (.aload_n 0, 1) := by decide +kernel
theorem dX8_init_27 : decode cX8_init 27 = .ok (.new 25, 3) := by decide +kernel
theorem dX8_init_30 : decode cX8_init 30 = .ok (.dup, 1) := by decide +kernel
theorem dX8_init_31 : decode cX8_init 31 = .ok (.invokespecial 27, 3) := by decide +kernel
theorem dX8_init_34 : decode cX8_init 34 = .ok (.putfield 28, 3) := by decide +kernel
theorem dX8_init_37 : decode cX8_init 37 = .ok (.aload_n 0, 1) := by decide +kernel
theorem dX8_init_38 : decode cX8_init 38 = .ok (.new 32, 3) := by decide +kernel
theorem dX8_init_41 : decode cX8_init 41 = .ok (.dup, 1) := by decide +kernel
theorem dX8_init_42 : decode cX8_init 42 = .ok (.invokespecial 34, 3) := by decide +kernel
theorem dX8_init_45 : decode cX8_init 45 = .ok (.putfield 35, 3) := by decide +kernel
theorem dX8_init_48 : decode cX8_init 48 = .ok (.aload_n 0, 1) := by decide +kernel
theorem dX8_init_49 : decode cX8_init 49 = .ok (.new 39, 3) := by decide +kernel
theorem dX8_init_52 : decode cX8_init 52 = .ok (.dup, 1) := by decide +kernel
theorem dX8_init_53 : decode cX8_init 53 = .ok (.invokespecial 41, 3) := by decide +kernel
theorem dX8_init_56 : decode cX8_init 56 = .ok (.putfield 42, 3) := by decide +kernel
theorem dX8_init_59 : decode cX8_init 59 = .ok (.aload_n 0, 1) := by decide +kernel
theorem dX8_init_60 : decode cX8_init 60 = .ok (.new 46, 3) := by decide +kernel
theorem dX8_init_63 : decode cX8_init 63 = .ok (.dup, 1) := by decide +kernel
theorem dX8_init_64 : decode cX8_init 64 = .ok (.invokespecial 48, 3) := by decide +kernel
theorem dX8_init_67 : decode cX8_init 67 = .ok (.putfield 49, 3) := by decide +kernel
theorem dX8_init_70 : decode cX8_init 70 = .ok (.aload_n 0, 1) := by decide +kernel
theorem dX8_init_71 : decode cX8_init 71 = .ok (.new 53, 3) := by decide +kernel
theorem dX8_init_74 : decode cX8_init 74 = .ok (.dup, 1) := by decide +kernel
theorem dX8_init_75 : decode cX8_init 75 = .ok (.invokespecial 55, 3) := by decide +kernel
theorem dX8_init_78 : decode cX8_init 78 = .ok (.putfield 56, 3) := by decide +kernel
theorem dX8_init_81 : decode cX8_init 81 = .ok (.aload_n 0, 1) := by decide +kernel
theorem dX8_init_82 : decode cX8_init 82 = .ok (.iconst 0, 1) := by decide +kernel
theorem dX8_init_83 : decode cX8_init 83 = .ok (.putfield 60, 3) := by decide +kernel
theorem dX8_init_86 : decode cX8_init 86 = .ok (.aload_n 0, 1) := by decide +kernel
theorem dX8_init_87 : decode cX8_init 87 = .ok (.bipush 60, 2) := by decide +kernel
theorem dX8_init_89 : decode cX8_init 89 = .ok (.putfield 64, 3) := by decide +kernel
theorem dX8_init_92 : decode cX8_init 92 = .ok (.aload_n 0, 1) := by decide +kernel
theorem dX8_init_93 : decode cX8_init 93 = .ok (.iconst 0, 1) := by decide +kernel
theorem dX8_init_94 : decode cX8_init 94 = .ok (.putfield 67, 3) := by decide +kernel
theorem dX8_init_97 : decode cX8_init 97 = .ok (.aload_n 0, 1) := by decide +kernel
theorem dX8_init_98 : decode cX8_init 98 = .ok (.bipush 80, 2) := by decide +kernel
theorem dX8_init_100 : decode cX8_init 100 = .ok (.putfield 70, 3) := by decide +kernel
theorem dX8_init_103 : decode cX8_init 103 = .ok (.return_, 1) := by decide +kernel
set_option maxRecDepth 20000 in
theorem ggX8_key_X8_isOutside : GoodIn wsX8_key wsX8_isOutside := goodIn_r _ [5] (by decide +kernel) (by decide +kernel)
set_option maxRecDepth 20000 in
theorem gX8_key_X8_isOutside : GoodIn wsX8_key (va_wsS RX8 73 yX8_isOutside wsX8_isOutside) := goodIn_app (goodIn_of _ (by decide +kernel)) ggX8_key_X8_isOutside
set_option maxRecDepth 20000 in
theorem ggX8_key_X6_size : GoodIn wsX8_key wsX6_size := goodIn_r _ [10, 11, 34, 35] (by decide +kernel) (by decide +kernel)
set_option maxRecDepth 20000 in
theorem gX8_key_X6_size : GoodIn wsX8_key (wsV RX8 77 RX6 yX6_size wsX6_size) := goodIn_app (goodIn_of _ (by decide +kernel)) ggX8_key_X6_size
set_option maxRecDepth 20000 in
theorem ggX8_key_X6_add : GoodIn wsX8_key wsX6_add := goodIn_r _ [15, 11, 16, 17, 18, 19, 20, 21, 22, 34, 35, 36] (by decide +kernel) (by decide +kernel)
set_option maxRecDepth 20000 in
theorem gX8_key_X6_add : GoodIn wsX8_key (wsV RX8 81 RX6 yX6_add wsX6_add) := goodIn_app (goodIn_of _ (by decide +kernel)) ggX8_key_X6_add
theorem dX8_key_0 : decode cX8_key 0 = .ok (.iload_n 1, 1) := by decide +kernel
theorem dX8_key_1 : decode cX8_key 1 = .ok (.iconst 0, 1) := by decide +kernel
theorem dX8_key_2 : decode cX8_key 2 = .ok (.bipush 127, 2) := by decide +kernel
theorem dX8_key_4 : decode cX8_key 4 = .ok (.invokestatic 73, 3) := by decide +kernel
theorem dX8_key_7 : decode cX8_key 7 = .ok (.ifCond .eq 6, 3) := by decide +kernel
theorem dX8_key_10 : decode cX8_key 10 = .ok (.bipush (-2), 2) := by decide +kernel
theorem dX8_key_12 : decode cX8_key 12 = .ok (.ireturn, 1) := by decide +kernel
theorem dX8_key_13 : decode cX8_key 13 = .ok (.aload_n 0, 1) := by decide +kernel
theorem dX8_key_14 : decode cX8_key 14 = .ok (.getfield 12, 3) := by decide +kernel
theorem dX8_key_17 : decode cX8_key 17 = .ok (.invokevirtual 77, 3) := by decide +kernel
theorem dX8_key_20 : decode cX8_key 20 = .ok (.bipush 8, 2) := by decide +kernel
theorem dX8_key_22 : decode cX8_key 22 = .ok (.if_icmp .lt 6, 3) := by decide +kernel
theorem dX8_key_25 : decode cX8_key 25 = .ok (.bipush (-4), 2) := by decide +kernel
theorem dX8_key_27 : decode cX8_key 27 = .ok (.ireturn, 1) := by decide +kernel
theorem dX8_key_28 : decode cX8_key 28 = .ok (.aload_n 0, 1) := by decide +kernel
theorem dX8_key_29 : decode cX8_key 29 = .ok (.getfield 12, 3) := by decide +kernel
theorem dX8_key_32 : decode cX8_key 32 = .ok (.iload_n 1, 1) := by decide +kernel
theorem dX8_key_33 : decode cX8_key 33 = .ok (.invokevirtual 81, 3) := by decide +kernel
theorem dX8_key_36 : decode cX8_key 36 = .ok (.aload_n 0, 1) := by decide +kernel
theorem dX8_key_37 : decode cX8_key 37 = .ok (.getfield 12, 3) := by decide +kernel
theorem dX8_key_40 : decode cX8_key 40 = .ok (.invokevirtual 77, 3) := by decide +kernel
theorem dX8_key_43 : decode cX8_key 43 = .ok (.ireturn, 1) := by decide +kernel
set_option maxRecDepth 20000 in
theorem ggX8_wipe_X6_size : GoodIn wsX8_wipe wsX6_size := goodIn_r _ [6, 7, 23, 24] (by decide +kernel) (by decide +kernel)
set_option maxRecDepth 20000 in
theorem gX8_wipe_X6_size : GoodIn wsX8_wipe (wsV RX8 77 RX6 yX6_size wsX6_size) := goodIn_app (goodIn_of _ (by decide +kernel)) ggX8_wipe_X6_size
set_option maxRecDepth 20000 in
theorem ggX8_wipe_X6_clear : GoodIn wsX8_wipe wsX6_clear := goodIn_r _ [11, 7, 23, 24] (by decide +kernel) (by decide +kernel)
set_option maxRecDepth 20000 in
theorem gX8_wipe_X6_clear : GoodIn wsX8_wipe (wsV RX8 85 RX6 yX6_clear wsX6_clear) := goodIn_app (goodIn_of _ (by decide +kernel)) ggX8_wipe_X6_clear
theorem dX8_wipe_0 : decode cX8_wipe 0 = .ok (.aload_n 0, 1) := by decide +kernel
theorem dX8_wipe_1 : decode cX8_wipe 1 = .ok (.getfield 12, 3) := by decide +kernel
theorem dX8_wipe_4 : decode cX8_wipe 4 = .ok (.invokevirtual 77, 3) := by decide +kernel
theorem dX8_wipe_7 : decode cX8_wipe 7 = .ok (.istore_n 1, 1) := by decide +kernel
theorem dX8_wipe_8 : decode cX8_wipe 8 = .ok (.aload_n 0, 1) := by decide +kernel
theorem dX8_wipe_9 : decode cX8_wipe 9 = .ok (.getfield 12, 3) := by decide +kernel
theorem dX8_wipe_12 : decode cX8_wipe 12 = .ok (.invokevirtual 85, 3) := by decide +kernel
theorem dX8_wipe_15 : decode cX8_wipe 15 = .ok (.iload_n 1, 1) := by decide +kernel
theorem dX8_wipe_16 : decode cX8_wipe 16 = .ok (.ireturn, 1) := by decide +kernel
set_option maxRecDepth 20000 in
theorem ggX8_manner_X8_mannerOnTape : GoodIn wsX8_manner wsX8_mannerOnTape := goodIn_r _ [8, 3, 9, 10, 7, 11, 12, 13, 14, 15, 16, 17, 18, 19, 20, 21, 22, 23, 24, 25, 26, 27, 28, 29, 30, 31, 32, 33, 34, 35, 36, 37, 38, 39, 40, 41, 42, 43, 44, 45, 46, 47, 48, 49, 50, 51, 52, 53, 54, 55, 56, 57, 58, 59, 60, 61, 62, 63, 64, 65, 66, 67, 68, 69, 70, 71, 72, 73, 87, 88, 89, 90, 91, 92, 93, 94, 95, 96, 97, 98, 99, 100] (by decide +kernel) (by decide +kernel)
set_option maxRecDepth 20000 in
theorem gX8_manner_X8_mannerOnTape : GoodIn wsX8_manner (wsV RX8 88 RX8 yX8_mannerOnTape wsX8_mannerOnTape) := goodIn_app (goodIn_of _ (by decide +kernel)) ggX8_manner_X8_mannerOnTape
set_option maxRecDepth 20000 in
theorem ggX8_manner_X8_leastNumber : GoodIn wsX8_manner wsX8_leastNumber := goodIn_r _ [76] (by decide +kernel) (by decide +kernel)
set_option maxRecDepth 20000 in
theorem gX8_manner_X8_leastNumber : GoodIn wsX8_manner (va_wsS RX8 91 yX8_leastNumber wsX8_leastNumber) := goodIn_app (goodIn_of _ (by decide +kernel)) ggX8_manner_X8_leastNumber
set_option maxRecDepth 20000 in
theorem ggX8_manner_X8_greatestNumber : GoodIn wsX8_manner wsX8_greatestNumber := goodIn_r _ [79] (by decide +kernel) (by decide +kernel)
set_option maxRecDepth 20000 in
theorem gX8_manner_X8_greatestNumber : GoodIn wsX8_manner (va_wsS RX8 95 yX8_greatestNumber wsX8_greatestNumber) := goodIn_app (goodIn_of _ (by decide +kernel)) ggX8_manner_X8_greatestNumber
set_option maxRecDepth 20000 in
theorem ggX8_manner_X8_isOutside : GoodIn wsX8_manner wsX8_isOutside := goodIn_r _ [82] (by decide +kernel) (by decide +kernel)
set_option maxRecDepth 20000 in
theorem gX8_manner_X8_isOutside : GoodIn wsX8_manner (va_wsS RX8 73 yX8_isOutside wsX8_isOutside) := goodIn_app (goodIn_of _ (by decide +kernel)) ggX8_manner_X8_isOutside
set_option maxRecDepth 20000 in
theorem ggX8_manner_X6_clear : GoodIn wsX8_manner wsX6_clear := goodIn_r _ [86, 17, 98, 99] (by decide +kernel) (by decide +kernel)
set_option maxRecDepth 20000 in
theorem gX8_manner_X6_clear : GoodIn wsX8_manner (wsV RX8 85 RX6 yX6_clear wsX6_clear) := goodIn_app (goodIn_of _ (by decide +kernel)) ggX8_manner_X6_clear
theorem dX8_manner_0 : decode cX8_manner 0 = .ok (.aload_n 0, 1) := by decide +kernel
theorem dX8_manner_1 : decode cX8_manner 1 = .ok (.invokevirtual 88, 3) := by decide +kernel
theorem dX8_manner_4 : decode cX8_manner 4 = .ok (.istore_n 2, 1) := by decide +kernel
theorem dX8_manner_5 : decode cX8_manner 5 = .ok (.iload_n 2, 1) := by decide +kernel
theorem dX8_manner_6 : decode cX8_manner 6 = .ok (.iconst (-1), 1) := by decide +kernel
theorem dX8_manner_7 : decode cX8_manner 7 = .ok (.if_icmp .ne 5, 3) := by decide +kernel
theorem dX8_manner_10 : decode cX8_manner 10 = .ok (.iconst (-1), 1) := by decide +kernel
theorem dX8_manner_11 : decode cX8_manner 11 = .ok (.ireturn, 1) := by decide +kernel
theorem dX8_manner_12 : decode cX8_manner 12 = .ok (.iload_n 1, 1) := by decide +kernel
theorem dX8_manner_13 : decode cX8_manner 13 = .ok (.iload_n 2, 1) := by decide +kernel
theorem dX8_manner_14 : decode cX8_manner 14 = .ok (.invokestatic 91, 3) := by decide +kernel
theorem dX8_manner_17 : decode cX8_manner 17 = .ok (.iload_n 2, 1) := by decide +kernel
theorem dX8_manner_18 : decode cX8_manner 18 = .ok (.invokestatic 95, 3) := by decide +kernel
theorem dX8_manner_21 : decode cX8_manner 21 = .ok (.invokestatic 73, 3) := by decide +kernel
theorem dX8_manner_24 : decode cX8_manner 24 = .ok (.ifCond .eq 6, 3) := by decide +kernel
theorem dX8_manner_27 : decode cX8_manner 27 = .ok (.bipush (-2), 2) := by decide +kernel
theorem dX8_manner_29 : decode cX8_manner 29 = .ok (.ireturn, 1) := by decide +kernel
theorem dX8_manner_30 : decode cX8_manner 30 = .ok (.aload_n 0, 1) := by decide +kernel
theorem dX8_manner_31 : decode cX8_manner 31 = .ok (.iload_n 2, 1) := by decide +kernel
theorem dX8_manner_32 : decode cX8_manner 32 = .ok (.putfield 60, 3) := by decide +kernel
theorem dX8_manner_35 : decode cX8_manner 35 = .ok (.aload_n 0, 1) := by decide +kernel
theorem dX8_manner_36 : decode cX8_manner 36 = .ok (.iload_n 1, 1) := by decide +kernel
theorem dX8_manner_37 : decode cX8_manner 37 = .ok (.putfield 64, 3) := by decide +kernel
theorem dX8_manner_40 : decode cX8_manner 40 = .ok (.aload_n 0, 1) := by decide +kernel
theorem dX8_manner_41 : decode cX8_manner 41 = .ok (.getfield 12, 3) := by decide +kernel
theorem dX8_manner_44 : decode cX8_manner 44 = .ok (.invokevirtual 85, 3) := by decide +kernel
theorem dX8_manner_47 : decode cX8_manner 47 = .ok (.iload_n 2, 1) := by decide +kernel
theorem dX8_manner_48 : decode cX8_manner 48 = .ok (.ireturn, 1) := by decide +kernel
set_option maxRecDepth 20000 in
theorem ggX8_margin_X8_isOutside : GoodIn wsX8_margin wsX8_isOutside := goodIn_r _ [5] (by decide +kernel) (by decide +kernel)
set_option maxRecDepth 20000 in
theorem gX8_margin_X8_isOutside : GoodIn wsX8_margin (va_wsS RX8 73 yX8_isOutside wsX8_isOutside) := goodIn_app (goodIn_of _ (by decide +kernel)) ggX8_margin_X8_isOutside
theorem dX8_margin_0 : decode cX8_margin 0 = .ok (.iload_n 1, 1) := by decide +kernel
theorem dX8_margin_1 : decode cX8_margin 1 = .ok (.iconst 0, 1) := by decide +kernel
theorem dX8_margin_2 : decode cX8_margin 2 = .ok (.sipush 200, 3) := by decide +kernel
theorem dX8_margin_5 : decode cX8_margin 5 = .ok (.invokestatic 73, 3) := by decide +kernel
theorem dX8_margin_8 : decode cX8_margin 8 = .ok (.ifCond .eq 6, 3) := by decide +kernel
theorem dX8_margin_11 : decode cX8_margin 11 = .ok (.bipush (-2), 2) := by decide +kernel
theorem dX8_margin_13 : decode cX8_margin 13 = .ok (.ireturn, 1) := by decide +kernel
theorem dX8_margin_14 : decode cX8_margin 14 = .ok (.aload_n 0, 1) := by decide +kernel
theorem dX8_margin_15 : decode cX8_margin 15 = .ok (.getfield 67, 3) := by decide +kernel
theorem dX8_margin_18 : decode cX8_margin 18 = .ok (.istore_n 2, 1) := by decide +kernel
theorem dX8_margin_19 : decode cX8_margin 19 = .ok (.aload_n 0, 1) := by decide +kernel
theorem dX8_margin_20 : decode cX8_margin 20 = .ok (.iload_n 1, 1) := by decide +kernel
theorem dX8_margin_21 : decode cX8_margin 21 = .ok (.putfield 67, 3) := by decide +kernel
theorem dX8_margin_24 : decode cX8_margin 24 = .ok (.iload_n 2, 1) := by decide +kernel
theorem dX8_margin_25 : decode cX8_margin 25 = .ok (.ireturn, 1) := by decide +kernel
set_option maxRecDepth 20000 in
theorem ggX8_jump_X8_isOutside : GoodIn wsX8_jump wsX8_isOutside := goodIn_r _ [5] (by decide +kernel) (by decide +kernel)
set_option maxRecDepth 20000 in
theorem gX8_jump_X8_isOutside : GoodIn wsX8_jump (va_wsS RX8 73 yX8_isOutside wsX8_isOutside) := goodIn_app (goodIn_of _ (by decide +kernel)) ggX8_jump_X8_isOutside
theorem dX8_jump_0 : decode cX8_jump 0 = .ok (.iload_n 1, 1) := by decide +kernel
theorem dX8_jump_1 : decode cX8_jump 1 = .ok (.bipush 10, 2) := by decide +kernel
theorem dX8_jump_3 : decode cX8_jump 3 = .ok (.sipush 1000, 3) := by decide +kernel
theorem dX8_jump_6 : decode cX8_jump 6 = .ok (.invokestatic 73, 3) := by decide +kernel
theorem dX8_jump_9 : decode cX8_jump 9 = .ok (.ifCond .eq 6, 3) := by decide +kernel
theorem dX8_jump_12 : decode cX8_jump 12 = .ok (.bipush (-2), 2) := by decide +kernel
theorem dX8_jump_14 : decode cX8_jump 14 = .ok (.ireturn, 1) := by decide +kernel
theorem dX8_jump_15 : decode cX8_jump 15 = .ok (.aload_n 0, 1) := by decide +kernel
theorem dX8_jump_16 : decode cX8_jump 16 = .ok (.getfield 70, 3) := by decide +kernel
theorem dX8_jump_19 : decode cX8_jump 19 = .ok (.istore_n 2, 1) := by decide +kernel
theorem dX8_jump_20 : decode cX8_jump 20 = .ok (.aload_n 0, 1) := by decide +kernel
theorem dX8_jump_21 : decode cX8_jump 21 = .ok (.iload_n 1, 1) := by decide +kernel
theorem dX8_jump_22 : decode cX8_jump 22 = .ok (.putfield 70, 3) := by decide +kernel
theorem dX8_jump_25 : decode cX8_jump 25 = .ok (.iload_n 2, 1) := by decide +kernel
theorem dX8_jump_26 : decode cX8_jump 26 = .ok (.ireturn, 1) := by decide +kernel
set_option maxRecDepth 20000 in
theorem ggX8_arrive_X8_refusalOf : GoodIn wsX8_arrive wsX8_refusalOf := goodIn_r _ [9, 1, 4, 10, 11, 8, 12, 13, 14, 15, 16, 17, 18, 19, 20, 21, 22, 23, 24, 25, 26, 27, 28, 29, 30, 31, 32, 33, 34, 35, 36, 37, 38, 39, 40, 41, 42, 43, 44, 45, 46, 47, 48, 236, 237, 238, 239, 240, 241, 242, 243, 244, 245, 246, 247, 248, 249, 250, 251, 252, 253, 254, 255, 256, 257, 258, 259, 260, 261, 262] (by decide +kernel) (by decide +kernel)
set_option maxRecDepth 20000 in
theorem gX8_arrive_X8_refusalOf : GoodIn wsX8_arrive (wsV RX8 98 RX8 yX8_refusalOf wsX8_refusalOf) := goodIn_app (goodIn_of _ (by decide +kernel)) ggX8_arrive_X8_refusalOf
set_option maxRecDepth 20000 in
theorem ggX8_arrive_X0_add : GoodIn wsX8_arrive wsX0_add := goodIn_r _ [52, 18, 53, 19, 30, 54, 55, 56, 23, 57, 25, 247, 248, 249, 250, 251, 252, 253] (by decide +kernel) (by decide +kernel)
set_option maxRecDepth 20000 in
theorem gX8_arrive_X0_add : GoodIn wsX8_arrive (wsV RX8 102 RX0 yX0_add wsX0_add) := goodIn_app (goodIn_of _ (by decide +kernel)) ggX8_arrive_X0_add
set_option maxRecDepth 20000 in
theorem ggX8_arrive_X0_delayAt : GoodIn wsX8_arrive wsX0_delayAt := goodIn_r _ [61, 19, 53, 20, 21, 22, 23, 24, 25, 247, 248, 249, 250, 251, 252, 253] (by decide +kernel) (by decide +kernel)
set_option maxRecDepth 20000 in
theorem gX8_arrive_X0_delayAt : GoodIn wsX8_arrive (wsV RX8 105 RX0 yX0_delayAt wsX0_delayAt) := goodIn_app (goodIn_of _ (by decide +kernel)) ggX8_arrive_X0_delayAt
set_option maxRecDepth 20000 in
theorem ggX8_arrive_X5_follow : GoodIn wsX8_arrive wsX5_follow := goodIn_r _ [66, 67, 68, 69, 263, 264, 265] (by decide +kernel) (by decide +kernel)
set_option maxRecDepth 20000 in
theorem gX8_arrive_X5_follow : GoodIn wsX8_arrive (wsV RX8 108 RX5 yX5_follow wsX5_follow) := goodIn_app (goodIn_of _ (by decide +kernel)) ggX8_arrive_X5_follow
set_option maxRecDepth 20000 in
theorem ggX8_arrive_X4_withHead : GoodIn wsX8_arrive wsX4_withHead := goodIn_r _ [73, 36, 37, 39, 21, 22, 23, 24, 25, 254, 255, 256, 257, 258, 259, 260, 261, 262, 253] (by decide +kernel) (by decide +kernel)
set_option maxRecDepth 20000 in
theorem gX8_arrive_X4_withHead : GoodIn wsX8_arrive (wsV RX8 112 RX4 yX4_withHead wsX4_withHead) := goodIn_app (goodIn_of _ (by decide +kernel)) ggX8_arrive_X4_withHead
set_option maxRecDepth 20000 in
theorem ggX8_arrive_X8_openSpurt : GoodIn wsX8_arrive wsX8_openSpurt := goodIn_r _ [77, 4, 78, 79, 80, 81, 82, 8, 83, 84, 1, 85, 86, 2, 87, 88, 89, 90, 91, 92, 93, 94, 95, 96, 16, 97, 18, 98, 99, 100, 101, 102, 103, 104, 105, 106, 59, 60, 61, 19, 53, 20, 21, 22, 23, 24, 25, 107, 55, 56, 57, 108, 109, 110, 111, 112, 113, 114, 115, 116, 27, 28, 29, 30, 117, 118, 119, 120, 121, 122, 123, 124, 125, 126, 127, 128, 129, 130, 131, 132, 133, 134, 135, 136, 137, 138, 139, 140, 141, 142, 143, 144, 145, 146, 147, 148, 149, 150, 151, 152, 153, 154, 155, 156, 157, 158, 159, 160, 161, 162, 163, 164, 165, 166, 167, 168, 65, 169, 67, 170, 171, 172, 173, 174, 175, 176, 177, 178, 179, 180, 181, 182, 183, 184, 185, 186, 187, 188, 189, 190, 191, 192, 193, 194, 195, 196, 197, 198, 199, 34, 200, 201, 202, 203, 36, 38, 204, 205, 206, 207, 208, 37, 39, 209, 210, 211, 212, 213, 214, 215, 44, 216, 236, 237, 238, 239, 240, 241, 242, 243, 244, 245, 246, 266, 267, 247, 248, 249, 250, 251, 252, 253, 268, 269, 270, 271, 272, 263, 264, 265, 254, 255, 256, 257, 258, 259, 260, 261, 262] (by decide +kernel) (by decide +kernel)
set_option maxRecDepth 20000 in
theorem gX8_arrive_X8_openSpurt : GoodIn wsX8_arrive (wsV RX8 115 RX8 yX8_openSpurt wsX8_openSpurt) := goodIn_app (goodIn_of _ (by decide +kernel)) ggX8_arrive_X8_openSpurt
set_option maxRecDepth 20000 in
theorem ggX8_arrive_X8_settle : GoodIn wsX8_arrive wsX8_settle := goodIn_r _ [220, 4, 1, 221, 222, 223, 34, 224, 202, 39, 21, 22, 23, 24, 25, 225, 226, 227, 16, 228, 229, 230, 54, 55, 56, 57, 231, 232, 233, 234, 214, 215, 44, 203, 180, 100, 181, 235, 161, 162, 163, 164, 165, 216, 236, 237, 238, 239, 240, 241, 242, 243, 244, 245, 246, 254, 255, 256, 257, 258, 259, 260, 261, 262, 253, 247, 248, 249, 250, 251, 252] (by decide +kernel) (by decide +kernel)
set_option maxRecDepth 20000 in
theorem gX8_arrive_X8_settle : GoodIn wsX8_arrive (wsV RX8 118 RX8 yX8_settle wsX8_settle) := goodIn_app (goodIn_of _ (by decide +kernel)) ggX8_arrive_X8_settle
theorem dX8_arrive_0 : decode cX8_arrive 0 = .ok (.aload_n 0, 1) := by decide +kernel
theorem dX8_arrive_1 : decode cX8_arrive 1 = .ok (.iload_n 1, 1) := by decide +kernel
theorem dX8_arrive_2 : decode cX8_arrive 2 = .ok (.iload_n 2, 1) := by decide +kernel
theorem dX8_arrive_3 : decode cX8_arrive 3 = .ok (.iload_n 3, 1) := by decide +kernel
theorem dX8_arrive_4 : decode cX8_arrive 4 = .ok (.iload 4, 2) := by decide +kernel
theorem dX8_arrive_6 : decode cX8_arrive 6 = .ok (.invokevirtual 98, 3) := by decide +kernel
theorem dX8_arrive_9 : decode cX8_arrive 9 = .ok (.istore 5, 2) := by decide +kernel
theorem dX8_arrive_11 : decode cX8_arrive 11 = .ok (.iload 5, 2) := by decide +kernel
theorem dX8_arrive_13 : decode cX8_arrive 13 = .ok (.ifCond .eq 6, 3) := by decide +kernel
theorem dX8_arrive_16 : decode cX8_arrive 16 = .ok (.iload 5, 2) := by decide +kernel
theorem dX8_arrive_18 : decode cX8_arrive 18 = .ok (.ireturn, 1) := by decide +kernel
theorem dX8_arrive_19 : decode cX8_arrive 19 = .ok (.aload_n 0, 1) := by decide +kernel
theorem dX8_arrive_20 : decode cX8_arrive 20 = .ok (.getfield 21, 3) := by decide +kernel
theorem dX8_arrive_23 : decode cX8_arrive 23 = .ok (.iload_n 1, 1) := by decide +kernel
theorem dX8_arrive_24 : decode cX8_arrive 24 = .ok (.iload 4, 2) := by decide +kernel
theorem dX8_arrive_26 : decode cX8_arrive 26 = .ok (.invokevirtual 102, 3) := by decide +kernel
theorem dX8_arrive_29 : decode cX8_arrive 29 = .ok (.istore 6, 2) := by decide +kernel
theorem dX8_arrive_31 : decode cX8_arrive 31 = .ok (.iload 6, 2) := by decide +kernel
theorem dX8_arrive_33 : decode cX8_arrive 33 = .ok (.ifCond .le 34, 3) := by decide +kernel
theorem dX8_arrive_36 : decode cX8_arrive 36 = .ok (.aload_n 0, 1) := by decide +kernel
theorem dX8_arrive_37 : decode cX8_arrive 37 = .ok (.getfield 35, 3) := by decide +kernel
theorem dX8_arrive_40 : decode cX8_arrive 40 = .ok (.aload_n 0, 1) := by decide +kernel
theorem dX8_arrive_41 : decode cX8_arrive 41 = .ok (.getfield 21, 3) := by decide +kernel
theorem dX8_arrive_44 : decode cX8_arrive 44 = .ok (.iload 6, 2) := by decide +kernel
theorem dX8_arrive_46 : decode cX8_arrive 46 = .ok (.iconst 1, 1) := by decide +kernel
theorem dX8_arrive_47 : decode cX8_arrive 47 = .ok (.isub, 1) := by decide +kernel
theorem dX8_arrive_48 : decode cX8_arrive 48 = .ok (.invokevirtual 105, 3) := by decide +kernel
theorem dX8_arrive_51 : decode cX8_arrive 51 = .ok (.aload_n 0, 1) := by decide +kernel
theorem dX8_arrive_52 : decode cX8_arrive 52 = .ok (.getfield 21, 3) := by decide +kernel
theorem dX8_arrive_55 : decode cX8_arrive 55 = .ok (.iload 6, 2) := by decide +kernel
theorem dX8_arrive_57 : decode cX8_arrive 57 = .ok (.invokevirtual 105, 3) := by decide +kernel
theorem dX8_arrive_60 : decode cX8_arrive 60 = .ok (.aload_n 0, 1) := by decide +kernel
theorem dX8_arrive_61 : decode cX8_arrive 61 = .ok (.getfield 70, 3) := by decide +kernel
theorem dX8_arrive_64 : decode cX8_arrive 64 = .ok (.invokevirtual 108, 3) := by decide +kernel
theorem dX8_arrive_67 : decode cX8_arrive 67 = .ok (.aload_n 0, 1) := by decide +kernel
theorem dX8_arrive_68 : decode cX8_arrive 68 = .ok (.getfield 28, 3) := by decide +kernel
theorem dX8_arrive_71 : decode cX8_arrive 71 = .ok (.iload_n 2, 1) := by decide +kernel
theorem dX8_arrive_72 : decode cX8_arrive 72 = .ok (.invokevirtual 112, 3) := by decide +kernel
theorem dX8_arrive_75 : decode cX8_arrive 75 = .ok (.istore 7, 2) := by decide +kernel
theorem dX8_arrive_77 : decode cX8_arrive 77 = .ok (.iload 7, 2) := by decide +kernel
theorem dX8_arrive_79 : decode cX8_arrive 79 = .ok (.iconst (-1), 1) := by decide +kernel
theorem dX8_arrive_80 : decode cX8_arrive 80 = .ok (.if_icmp .ne 11, 3) := by decide +kernel
theorem dX8_arrive_83 : decode cX8_arrive 83 = .ok (.aload_n 0, 1) := by decide +kernel
theorem dX8_arrive_84 : decode cX8_arrive 84 = .ok (.iload_n 2, 1) := by decide +kernel
theorem dX8_arrive_85 : decode cX8_arrive 85 = .ok (.iload_n 3, 1) := by decide +kernel
theorem dX8_arrive_86 : decode cX8_arrive 86 = .ok (.invokevirtual 115, 3) := by decide +kernel
theorem dX8_arrive_89 : decode cX8_arrive 89 = .ok (.istore 7, 2) := by decide +kernel
theorem dX8_arrive_91 : decode cX8_arrive 91 = .ok (.aload_n 0, 1) := by decide +kernel
theorem dX8_arrive_92 : decode cX8_arrive 92 = .ok (.iload 6, 2) := by decide +kernel
theorem dX8_arrive_94 : decode cX8_arrive 94 = .ok (.iload_n 1, 1) := by decide +kernel
theorem dX8_arrive_95 : decode cX8_arrive 95 = .ok (.iload 4, 2) := by decide +kernel
theorem dX8_arrive_97 : decode cX8_arrive 97 = .ok (.iload 7, 2) := by decide +kernel
theorem dX8_arrive_99 : decode cX8_arrive 99 = .ok (.invokevirtual 118, 3) := by decide +kernel
theorem dX8_arrive_102 : decode cX8_arrive 102 = .ok (.iload 7, 2) := by decide +kernel
theorem dX8_arrive_104 : decode cX8_arrive 104 = .ok (.ireturn, 1) := by decide +kernel
set_option maxRecDepth 20000 in
theorem ggX8_anew_X0_count : GoodIn wsX8_anew wsX0_count := goodIn_r _ [8, 9, 50, 51, 52, 53, 54, 55] (by decide +kernel) (by decide +kernel)
set_option maxRecDepth 20000 in
theorem gX8_anew_X0_count : GoodIn wsX8_anew (wsV RX8 122 RX0 yX0_count wsX0_count) := goodIn_app (goodIn_of _ (by decide +kernel)) ggX8_anew_X0_count
set_option maxRecDepth 20000 in
theorem ggX8_anew_X0_clear : GoodIn wsX8_anew wsX0_clear := goodIn_r _ [13, 9, 14, 15, 16, 17, 18, 19, 20, 21, 22, 23, 24, 25, 50, 51, 52, 53, 54, 55, 56] (by decide +kernel) (by decide +kernel)
set_option maxRecDepth 20000 in
theorem gX8_anew_X0_clear : GoodIn wsX8_anew (wsV RX8 125 RX0 yX0_clear wsX0_clear) := goodIn_app (goodIn_of _ (by decide +kernel)) ggX8_anew_X0_clear
set_option maxRecDepth 20000 in
theorem ggX8_anew_X4_clear : GoodIn wsX8_anew wsX4_clear := goodIn_r _ [30, 31, 57, 58, 59, 60, 61, 62, 63, 64, 65] (by decide +kernel) (by decide +kernel)
set_option maxRecDepth 20000 in
theorem gX8_anew_X4_clear : GoodIn wsX8_anew (wsV RX8 126 RX4 yX4_clear wsX4_clear) := goodIn_app (goodIn_of _ (by decide +kernel)) ggX8_anew_X4_clear
set_option maxRecDepth 20000 in
theorem ggX8_anew_X5_clear : GoodIn wsX8_anew wsX5_clear := goodIn_r _ [36, 37, 38, 66, 67, 68] (by decide +kernel) (by decide +kernel)
set_option maxRecDepth 20000 in
theorem gX8_anew_X5_clear : GoodIn wsX8_anew (wsV RX8 127 RX5 yX5_clear wsX5_clear) := goodIn_app (goodIn_of _ (by decide +kernel)) ggX8_anew_X5_clear
theorem dX8_anew_0 : decode cX8_anew 0 = .ok (.aload_n 0, 1) := by decide +kernel
theorem dX8_anew_1 : decode cX8_anew 1 = .ok (.getfield 21, 3) := by decide +kernel
theorem dX8_anew_4 : decode cX8_anew 4 = .ok (.invokevirtual 122, 3) := by decide +kernel
theorem dX8_anew_7 : decode cX8_anew 7 = .ok (.istore_n 1, 1) := by decide +kernel
theorem dX8_anew_8 : decode cX8_anew 8 = .ok (.aload_n 0, 1) := by decide +kernel
theorem dX8_anew_9 : decode cX8_anew 9 = .ok (.getfield 21, 3) := by decide +kernel
theorem dX8_anew_12 : decode cX8_anew 12 = .ok (.invokevirtual 125, 3) := by decide +kernel
theorem dX8_anew_15 : decode cX8_anew 15 = .ok (.aload_n 0, 1) := by decide +kernel
theorem dX8_anew_16 : decode cX8_anew 16 = .ok (.getfield 28, 3) := by decide +kernel
theorem dX8_anew_19 : decode cX8_anew 19 = .ok (.invokevirtual 126, 3) := by decide +kernel
theorem dX8_anew_22 : decode cX8_anew 22 = .ok (.aload_n 0, 1) := by decide +kernel
theorem dX8_anew_23 : decode cX8_anew 23 = .ok (.getfield 35, 3) := by decide +kernel
theorem dX8_anew_26 : decode cX8_anew 26 = .ok (.invokevirtual 127, 3) := by decide +kernel
theorem dX8_anew_29 : decode cX8_anew 29 = .ok (.iload_n 1, 1) := by decide +kernel
theorem dX8_anew_30 : decode cX8_anew 30 = .ok (.ireturn, 1) := by decide +kernel
set_option maxRecDepth 20000 in
theorem ggX8_ofFrame_X0_placeOf : GoodIn wsX8_ofFrame wsX0_placeOf := goodIn_r _ [6, 7, 8, 9, 10, 11, 12, 13, 45, 46, 47, 48, 49, 50, 51] (by decide +kernel) (by decide +kernel)
set_option maxRecDepth 20000 in
theorem gX8_ofFrame_X0_placeOf : GoodIn wsX8_ofFrame (wsV RX8 128 RX0 yX0_placeOf wsX0_placeOf) := goodIn_app (goodIn_of _ (by decide +kernel)) ggX8_ofFrame_X0_placeOf
set_option maxRecDepth 20000 in
theorem ggX8_ofFrame_X0_whenAt : GoodIn wsX8_ofFrame wsX0_whenAt := goodIn_r _ [17, 18, 8, 9, 10, 11, 12, 13, 45, 46, 47, 48, 49, 50, 51] (by decide +kernel) (by decide +kernel)
set_option maxRecDepth 20000 in
theorem gX8_ofFrame_X0_whenAt : GoodIn wsX8_ofFrame (wsV RX8 131 RX0 yX0_whenAt wsX0_whenAt) := goodIn_app (goodIn_of _ (by decide +kernel)) ggX8_ofFrame_X0_whenAt
set_option maxRecDepth 20000 in
theorem ggX8_ofFrame_X0_delayAt : GoodIn wsX8_ofFrame wsX0_delayAt := goodIn_r _ [22, 18, 23, 8, 9, 10, 11, 12, 13, 45, 46, 47, 48, 49, 50, 51] (by decide +kernel) (by decide +kernel)
set_option maxRecDepth 20000 in
theorem gX8_ofFrame_X0_delayAt : GoodIn wsX8_ofFrame (wsV RX8 105 RX0 yX0_delayAt wsX0_delayAt) := goodIn_app (goodIn_of _ (by decide +kernel)) ggX8_ofFrame_X0_delayAt
set_option maxRecDepth 20000 in
theorem ggX8_ofFrame_X0_spurtAt : GoodIn wsX8_ofFrame wsX0_spurtAt := goodIn_r _ [27, 28, 8, 9, 10, 11, 12, 13, 45, 46, 47, 48, 49, 50, 51] (by decide +kernel) (by decide +kernel)
set_option maxRecDepth 20000 in
theorem gX8_ofFrame_X0_spurtAt : GoodIn wsX8_ofFrame (wsV RX8 134 RX0 yX0_spurtAt wsX0_spurtAt) := goodIn_app (goodIn_of _ (by decide +kernel)) ggX8_ofFrame_X0_spurtAt
set_option maxRecDepth 20000 in
theorem ggX8_ofFrame_X0_playedAt : GoodIn wsX8_ofFrame wsX0_playedAt := goodIn_r _ [32, 33, 8, 9, 10, 11, 12, 13, 45, 46, 47, 48, 49, 50, 51] (by decide +kernel) (by decide +kernel)
set_option maxRecDepth 20000 in
theorem gX8_ofFrame_X0_playedAt : GoodIn wsX8_ofFrame (wsV RX8 137 RX0 yX0_playedAt wsX0_playedAt) := goodIn_app (goodIn_of _ (by decide +kernel)) ggX8_ofFrame_X0_playedAt
theorem dX8_ofFrame_0 : decode cX8_ofFrame 0 = .ok (.aload_n 0, 1) := by decide +kernel
theorem dX8_ofFrame_1 : decode cX8_ofFrame 1 = .ok (.getfield 21, 3) := by decide +kernel
theorem dX8_ofFrame_4 : decode cX8_ofFrame 4 = .ok (.iload_n 1, 1) := by decide +kernel
theorem dX8_ofFrame_5 : decode cX8_ofFrame 5 = .ok (.invokevirtual 128, 3) := by decide +kernel
theorem dX8_ofFrame_8 : decode cX8_ofFrame 8 = .ok (.istore_n 3, 1) := by decide +kernel
theorem dX8_ofFrame_9 : decode cX8_ofFrame 9 = .ok (.iload_n 3, 1) := by decide +kernel
theorem dX8_ofFrame_10 : decode cX8_ofFrame 10 = .ok (.iconst (-1), 1) := by decide +kernel
theorem dX8_ofFrame_11 : decode cX8_ofFrame 11 = .ok (.if_icmp .ne 5, 3) := by decide +kernel
theorem dX8_ofFrame_14 : decode cX8_ofFrame 14 = .ok (.iconst (-1), 1) := by decide +kernel
theorem dX8_ofFrame_15 : decode cX8_ofFrame 15 = .ok (.ireturn, 1) := by decide +kernel
theorem dX8_ofFrame_16 : decode cX8_ofFrame 16 = .ok (.iload_n 2, 1) := by decide +kernel
theorem dX8_ofFrame_17 : decode cX8_ofFrame 17 = .ok (.tableswitch 77 0 4 #[35, 44, 57, 66, 75], 35) := by decide +kernel
theorem dX8_ofFrame_52 : decode cX8_ofFrame 52 = .ok (.aload_n 0, 1) := by decide +kernel
theorem dX8_ofFrame_53 : decode cX8_ofFrame 53 = .ok (.getfield 21, 3) := by decide +kernel
theorem dX8_ofFrame_56 : decode cX8_ofFrame 56 = .ok (.iload_n 3, 1) := by decide +kernel
theorem dX8_ofFrame_57 : decode cX8_ofFrame 57 = .ok (.invokevirtual 131, 3) := by decide +kernel
theorem dX8_ofFrame_60 : decode cX8_ofFrame 60 = .ok (.ireturn, 1) := by decide +kernel
theorem dX8_ofFrame_61 : decode cX8_ofFrame 61 = .ok (.aload_n 0, 1) := by decide +kernel
theorem dX8_ofFrame_62 : decode cX8_ofFrame 62 = .ok (.getfield 21, 3) := by decide +kernel
theorem dX8_ofFrame_65 : decode cX8_ofFrame 65 = .ok (.iload_n 3, 1) := by decide +kernel
theorem dX8_ofFrame_66 : decode cX8_ofFrame 66 = .ok (.invokevirtual 105, 3) := by decide +kernel
theorem dX8_ofFrame_69 : decode cX8_ofFrame 69 = .ok (.sipush 10000, 3) := by decide +kernel
theorem dX8_ofFrame_72 : decode cX8_ofFrame 72 = .ok (.iadd, 1) := by decide +kernel
theorem dX8_ofFrame_73 : decode cX8_ofFrame 73 = .ok (.ireturn, 1) := by decide +kernel
theorem dX8_ofFrame_74 : decode cX8_ofFrame 74 = .ok (.aload_n 0, 1) := by decide +kernel
theorem dX8_ofFrame_75 : decode cX8_ofFrame 75 = .ok (.getfield 21, 3) := by decide +kernel
theorem dX8_ofFrame_78 : decode cX8_ofFrame 78 = .ok (.iload_n 3, 1) := by decide +kernel
theorem dX8_ofFrame_79 : decode cX8_ofFrame 79 = .ok (.invokevirtual 134, 3) := by decide +kernel
theorem dX8_ofFrame_82 : decode cX8_ofFrame 82 = .ok (.ireturn, 1) := by decide +kernel
theorem dX8_ofFrame_83 : decode cX8_ofFrame 83 = .ok (.aload_n 0, 1) := by decide +kernel
theorem dX8_ofFrame_84 : decode cX8_ofFrame 84 = .ok (.getfield 21, 3) := by decide +kernel
theorem dX8_ofFrame_87 : decode cX8_ofFrame 87 = .ok (.iload_n 3, 1) := by decide +kernel
theorem dX8_ofFrame_88 : decode cX8_ofFrame 88 = .ok (.invokevirtual 137, 3) := by decide +kernel
theorem dX8_ofFrame_91 : decode cX8_ofFrame 91 = .ok (.ireturn, 1) := by decide +kernel
theorem dX8_ofFrame_92 : decode cX8_ofFrame 92 = .ok (.iload_n 3, 1) := by decide +kernel
theorem dX8_ofFrame_93 : decode cX8_ofFrame 93 = .ok (.ireturn, 1) := by decide +kernel
theorem dX8_ofFrame_94 : decode cX8_ofFrame 94 = .ok (.bipush (-2), 2) := by decide +kernel
theorem dX8_ofFrame_96 : decode cX8_ofFrame 96 = .ok (.ireturn, 1) := by decide +kernel
set_option maxRecDepth 20000 in
theorem ggX8_ofSpurt_X4_count : GoodIn wsX8_ofSpurt wsX4_count := goodIn_r _ [6, 7, 68, 69, 70, 71, 72, 73, 74, 75, 76] (by decide +kernel) (by decide +kernel)
set_option maxRecDepth 20000 in
theorem gX8_ofSpurt_X4_count : GoodIn wsX8_ofSpurt (wsV RX8 140 RX4 yX4_count wsX4_count) := goodIn_app (goodIn_of _ (by decide +kernel)) ggX8_ofSpurt_X4_count
set_option maxRecDepth 20000 in
theorem ggX8_ofSpurt_X8_isOutside : GoodIn wsX8_ofSpurt wsX8_isOutside := goodIn_r _ [11] (by decide +kernel) (by decide +kernel)
set_option maxRecDepth 20000 in
theorem gX8_ofSpurt_X8_isOutside : GoodIn wsX8_ofSpurt (va_wsS RX8 73 yX8_isOutside wsX8_isOutside) := goodIn_app (goodIn_of _ (by decide +kernel)) ggX8_ofSpurt_X8_isOutside
set_option maxRecDepth 20000 in
theorem ggX8_ofSpurt_X4_headOf : GoodIn wsX8_ofSpurt wsX4_headOf := goodIn_r _ [15, 16, 17, 18, 19, 20, 21, 22, 68, 69, 70, 71, 72, 73, 74, 75, 76, 77] (by decide +kernel) (by decide +kernel)
set_option maxRecDepth 20000 in
theorem gX8_ofSpurt_X4_headOf : GoodIn wsX8_ofSpurt (wsV RX8 141 RX4 yX4_headOf wsX4_headOf) := goodIn_app (goodIn_of _ (by decide +kernel)) ggX8_ofSpurt_X4_headOf
set_option maxRecDepth 20000 in
theorem ggX8_ofSpurt_X4_pauseOf : GoodIn wsX8_ofSpurt wsX4_pauseOf := goodIn_r _ [26, 27, 17, 18, 19, 20, 21, 22, 68, 69, 70, 71, 72, 73, 74, 75, 76, 77] (by decide +kernel) (by decide +kernel)
set_option maxRecDepth 20000 in
theorem gX8_ofSpurt_X4_pauseOf : GoodIn wsX8_ofSpurt (wsV RX8 144 RX4 yX4_pauseOf wsX4_pauseOf) := goodIn_app (goodIn_of _ (by decide +kernel)) ggX8_ofSpurt_X4_pauseOf
set_option maxRecDepth 20000 in
theorem ggX8_ofSpurt_X4_timeOf : GoodIn wsX8_ofSpurt wsX4_timeOf := goodIn_r _ [31, 32, 17, 18, 19, 20, 21, 22, 68, 69, 70, 71, 72, 73, 74, 75, 76, 77] (by decide +kernel) (by decide +kernel)
set_option maxRecDepth 20000 in
theorem gX8_ofSpurt_X4_timeOf : GoodIn wsX8_ofSpurt (wsV RX8 147 RX4 yX4_timeOf wsX4_timeOf) := goodIn_app (goodIn_of _ (by decide +kernel)) ggX8_ofSpurt_X4_timeOf
set_option maxRecDepth 20000 in
theorem ggX8_ofSpurt_X4_cameOf : GoodIn wsX8_ofSpurt wsX4_cameOf := goodIn_r _ [36, 37, 17, 18, 19, 20, 21, 22, 68, 69, 70, 71, 72, 73, 74, 75, 76, 77] (by decide +kernel) (by decide +kernel)
set_option maxRecDepth 20000 in
theorem gX8_ofSpurt_X4_cameOf : GoodIn wsX8_ofSpurt (wsV RX8 150 RX4 yX4_cameOf wsX4_cameOf) := goodIn_app (goodIn_of _ (by decide +kernel)) ggX8_ofSpurt_X4_cameOf
set_option maxRecDepth 20000 in
theorem ggX8_ofSpurt_X4_playedOf : GoodIn wsX8_ofSpurt wsX4_playedOf := goodIn_r _ [41, 42, 17, 18, 19, 20, 21, 22, 68, 69, 70, 71, 72, 73, 74, 75, 76, 77] (by decide +kernel) (by decide +kernel)
set_option maxRecDepth 20000 in
theorem gX8_ofSpurt_X4_playedOf : GoodIn wsX8_ofSpurt (wsV RX8 153 RX4 yX4_playedOf wsX4_playedOf) := goodIn_app (goodIn_of _ (by decide +kernel)) ggX8_ofSpurt_X4_playedOf
set_option maxRecDepth 20000 in
theorem ggX8_ofSpurt_X4_missingOf : GoodIn wsX8_ofSpurt wsX4_missingOf := goodIn_r _ [46, 47, 16, 37, 17, 18, 19, 20, 21, 22, 68, 69, 70, 71, 72, 73, 74, 75, 76, 77] (by decide +kernel) (by decide +kernel)
set_option maxRecDepth 20000 in
theorem gX8_ofSpurt_X4_missingOf : GoodIn wsX8_ofSpurt (wsV RX8 156 RX4 yX4_missingOf wsX4_missingOf) := goodIn_app (goodIn_of _ (by decide +kernel)) ggX8_ofSpurt_X4_missingOf
set_option maxRecDepth 20000 in
theorem ggX8_ofSpurt_X4_greatestOf : GoodIn wsX8_ofSpurt wsX4_greatestOf := goodIn_r _ [51, 47, 17, 18, 19, 20, 21, 22, 68, 69, 70, 71, 72, 73, 74, 75, 76, 77] (by decide +kernel) (by decide +kernel)
set_option maxRecDepth 20000 in
theorem gX8_ofSpurt_X4_greatestOf : GoodIn wsX8_ofSpurt (wsV RX8 159 RX4 yX4_greatestOf wsX4_greatestOf) := goodIn_app (goodIn_of _ (by decide +kernel)) ggX8_ofSpurt_X4_greatestOf
set_option maxRecDepth 20000 in
theorem ggX8_ofSpurt_X4_mannerOf : GoodIn wsX8_ofSpurt wsX4_mannerOf := goodIn_r _ [55, 56, 17, 18, 19, 20, 21, 22, 68, 69, 70, 71, 72, 73, 74, 75, 76, 77] (by decide +kernel) (by decide +kernel)
set_option maxRecDepth 20000 in
theorem gX8_ofSpurt_X4_mannerOf : GoodIn wsX8_ofSpurt (wsV RX8 162 RX4 yX4_mannerOf wsX4_mannerOf) := goodIn_app (goodIn_of _ (by decide +kernel)) ggX8_ofSpurt_X4_mannerOf
theorem dX8_ofSpurt_0 : decode cX8_ofSpurt 0 = .ok (.iload_n 1, 1) := by decide +kernel
theorem dX8_ofSpurt_1 : decode cX8_ofSpurt 1 = .ok (.iconst 0, 1) := by decide +kernel
theorem dX8_ofSpurt_2 : decode cX8_ofSpurt 2 = .ok (.aload_n 0, 1) := by decide +kernel
theorem dX8_ofSpurt_3 : decode cX8_ofSpurt 3 = .ok (.getfield 28, 3) := by decide +kernel
theorem dX8_ofSpurt_6 : decode cX8_ofSpurt 6 = .ok (.invokevirtual 140, 3) := by decide +kernel
theorem dX8_ofSpurt_9 : decode cX8_ofSpurt 9 = .ok (.iconst 1, 1) := by decide +kernel
theorem dX8_ofSpurt_10 : decode cX8_ofSpurt 10 = .ok (.isub, 1) := by decide +kernel
theorem dX8_ofSpurt_11 : decode cX8_ofSpurt 11 = .ok (.invokestatic 73, 3) := by decide +kernel
theorem dX8_ofSpurt_14 : decode cX8_ofSpurt 14 = .ok (.ifCond .eq 5, 3) := by decide +kernel
theorem dX8_ofSpurt_17 : decode cX8_ofSpurt 17 = .ok (.iconst (-1), 1) := by decide +kernel
theorem dX8_ofSpurt_18 : decode cX8_ofSpurt 18 = .ok (.ireturn, 1) := by decide +kernel
theorem dX8_ofSpurt_19 : decode cX8_ofSpurt 19 = .ok (.iload_n 2, 1) := by decide +kernel
theorem dX8_ofSpurt_20 : decode cX8_ofSpurt 20 = .ok (.tableswitch 146 0 8 #[52, 61, 70, 83, 92, 101, 119, 128, 137], 52) := by decide +kernel
theorem dX8_ofSpurt_72 : decode cX8_ofSpurt 72 = .ok (.aload_n 0, 1) := by decide +kernel
theorem dX8_ofSpurt_73 : decode cX8_ofSpurt 73 = .ok (.getfield 28, 3) := by decide +kernel
theorem dX8_ofSpurt_76 : decode cX8_ofSpurt 76 = .ok (.iload_n 1, 1) := by decide +kernel
theorem dX8_ofSpurt_77 : decode cX8_ofSpurt 77 = .ok (.invokevirtual 141, 3) := by decide +kernel
theorem dX8_ofSpurt_80 : decode cX8_ofSpurt 80 = .ok (.ireturn, 1) := by decide +kernel
theorem dX8_ofSpurt_81 : decode cX8_ofSpurt 81 = .ok (.aload_n 0, 1) := by decide +kernel
theorem dX8_ofSpurt_82 : decode cX8_ofSpurt 82 = .ok (.getfield 28, 3) := by decide +kernel
theorem dX8_ofSpurt_85 : decode cX8_ofSpurt 85 = .ok (.iload_n 1, 1) := by decide +kernel
theorem dX8_ofSpurt_86 : decode cX8_ofSpurt 86 = .ok (.invokevirtual 144, 3) := by decide +kernel
theorem dX8_ofSpurt_89 : decode cX8_ofSpurt 89 = .ok (.ireturn, 1) := by decide +kernel
theorem dX8_ofSpurt_90 : decode cX8_ofSpurt 90 = .ok (.aload_n 0, 1) := by decide +kernel
theorem dX8_ofSpurt_91 : decode cX8_ofSpurt 91 = .ok (.getfield 28, 3) := by decide +kernel
theorem dX8_ofSpurt_94 : decode cX8_ofSpurt 94 = .ok (.iload_n 1, 1) := by decide +kernel
theorem dX8_ofSpurt_95 : decode cX8_ofSpurt 95 = .ok (.invokevirtual 147, 3) := by decide +kernel
theorem dX8_ofSpurt_98 : decode cX8_ofSpurt 98 = .ok (.sipush 10000, 3) := by decide +kernel
theorem dX8_ofSpurt_101 : decode cX8_ofSpurt 101 = .ok (.iadd, 1) := by decide +kernel
theorem dX8_ofSpurt_102 : decode cX8_ofSpurt 102 = .ok (.ireturn, 1) := by decide +kernel
theorem dX8_ofSpurt_103 : decode cX8_ofSpurt 103 = .ok (.aload_n 0, 1) := by decide +kernel
theorem dX8_ofSpurt_104 : decode cX8_ofSpurt 104 = .ok (.getfield 28, 3) := by decide +kernel
theorem dX8_ofSpurt_107 : decode cX8_ofSpurt 107 = .ok (.iload_n 1, 1) := by decide +kernel
theorem dX8_ofSpurt_108 : decode cX8_ofSpurt 108 = .ok (.invokevirtual 150, 3) := by decide +kernel
theorem dX8_ofSpurt_111 : decode cX8_ofSpurt 111 = .ok (.ireturn, 1) := by decide +kernel
theorem dX8_ofSpurt_112 : decode cX8_ofSpurt 112 = .ok (.aload_n 0, 1) := by decide +kernel
theorem dX8_ofSpurt_113 : decode cX8_ofSpurt 113 = .ok (.getfield 28, 3) := by decide +kernel
theorem dX8_ofSpurt_116 : decode cX8_ofSpurt 116 = .ok (.iload_n 1, 1) := by decide +kernel
theorem dX8_ofSpurt_117 : decode cX8_ofSpurt 117 = .ok (.invokevirtual 153, 3) := by decide +kernel
theorem dX8_ofSpurt_120 : decode cX8_ofSpurt 120 = .ok (.ireturn, 1) := by decide +kernel
theorem dX8_ofSpurt_121 : decode cX8_ofSpurt 121 = .ok (.aload_n 0, 1) := by decide +kernel
theorem dX8_ofSpurt_122 : decode cX8_ofSpurt 122 = .ok (.getfield 28, 3) := by decide +kernel
theorem dX8_ofSpurt_125 : decode cX8_ofSpurt 125 = .ok (.iload_n 1, 1) := by decide +kernel
theorem dX8_ofSpurt_126 : decode cX8_ofSpurt 126 = .ok (.invokevirtual 150, 3) := by decide +kernel
theorem dX8_ofSpurt_129 : decode cX8_ofSpurt 129 = .ok (.aload_n 0, 1) := by decide +kernel
theorem dX8_ofSpurt_130 : decode cX8_ofSpurt 130 = .ok (.getfield 28, 3) := by decide +kernel
theorem dX8_ofSpurt_133 : decode cX8_ofSpurt 133 = .ok (.iload_n 1, 1) := by decide +kernel
theorem dX8_ofSpurt_134 : decode cX8_ofSpurt 134 = .ok (.invokevirtual 153, 3) := by decide +kernel
theorem dX8_ofSpurt_137 : decode cX8_ofSpurt 137 = .ok (.isub, 1) := by decide +kernel
theorem dX8_ofSpurt_138 : decode cX8_ofSpurt 138 = .ok (.ireturn, 1) := by decide +kernel
theorem dX8_ofSpurt_139 : decode cX8_ofSpurt 139 = .ok (.aload_n 0, 1) := by decide +kernel
theorem dX8_ofSpurt_140 : decode cX8_ofSpurt 140 = .ok (.getfield 28, 3) := by decide +kernel
theorem dX8_ofSpurt_143 : decode cX8_ofSpurt 143 = .ok (.iload_n 1, 1) := by decide +kernel
theorem dX8_ofSpurt_144 : decode cX8_ofSpurt 144 = .ok (.invokevirtual 156, 3) := by decide +kernel
theorem dX8_ofSpurt_147 : decode cX8_ofSpurt 147 = .ok (.ireturn, 1) := by decide +kernel
theorem dX8_ofSpurt_148 : decode cX8_ofSpurt 148 = .ok (.aload_n 0, 1) := by decide +kernel
theorem dX8_ofSpurt_149 : decode cX8_ofSpurt 149 = .ok (.getfield 28, 3) := by decide +kernel
theorem dX8_ofSpurt_152 : decode cX8_ofSpurt 152 = .ok (.iload_n 1, 1) := by decide +kernel
theorem dX8_ofSpurt_153 : decode cX8_ofSpurt 153 = .ok (.invokevirtual 159, 3) := by decide +kernel
theorem dX8_ofSpurt_156 : decode cX8_ofSpurt 156 = .ok (.ireturn, 1) := by decide +kernel
theorem dX8_ofSpurt_157 : decode cX8_ofSpurt 157 = .ok (.aload_n 0, 1) := by decide +kernel
theorem dX8_ofSpurt_158 : decode cX8_ofSpurt 158 = .ok (.getfield 28, 3) := by decide +kernel
theorem dX8_ofSpurt_161 : decode cX8_ofSpurt 161 = .ok (.iload_n 1, 1) := by decide +kernel
theorem dX8_ofSpurt_162 : decode cX8_ofSpurt 162 = .ok (.invokevirtual 162, 3) := by decide +kernel
theorem dX8_ofSpurt_165 : decode cX8_ofSpurt 165 = .ok (.ireturn, 1) := by decide +kernel
theorem dX8_ofSpurt_166 : decode cX8_ofSpurt 166 = .ok (.bipush (-2), 2) := by decide +kernel
theorem dX8_ofSpurt_168 : decode cX8_ofSpurt 168 = .ok (.ireturn, 1) := by decide +kernel
set_option maxRecDepth 20000 in
theorem ggX8_inOrder_X4_count : GoodIn wsX8_inOrder wsX4_count := goodIn_r _ [6, 7, 34, 35, 36, 37, 38, 39, 40, 41, 42] (by decide +kernel) (by decide +kernel)
set_option maxRecDepth 20000 in
theorem gX8_inOrder_X4_count : GoodIn wsX8_inOrder (wsV RX8 140 RX4 yX4_count wsX4_count) := goodIn_app (goodIn_of _ (by decide +kernel)) ggX8_inOrder_X4_count
set_option maxRecDepth 20000 in
theorem ggX8_inOrder_X8_isOutside : GoodIn wsX8_inOrder wsX8_isOutside := goodIn_r _ [11] (by decide +kernel) (by decide +kernel)
set_option maxRecDepth 20000 in
theorem gX8_inOrder_X8_isOutside : GoodIn wsX8_inOrder (va_wsS RX8 73 yX8_isOutside wsX8_isOutside) := goodIn_app (goodIn_of _ (by decide +kernel)) ggX8_inOrder_X8_isOutside
set_option maxRecDepth 20000 in
theorem ggX8_inOrder_X4_atRank : GoodIn wsX8_inOrder wsX4_atRank := goodIn_r _ [15, 16, 17, 18, 19, 20, 21, 22, 34, 35, 36, 37, 38, 39, 40, 41, 42, 43] (by decide +kernel) (by decide +kernel)
set_option maxRecDepth 20000 in
theorem gX8_inOrder_X4_atRank : GoodIn wsX8_inOrder (wsV RX8 165 RX4 yX4_atRank wsX4_atRank) := goodIn_app (goodIn_of _ (by decide +kernel)) ggX8_inOrder_X4_atRank
theorem dX8_inOrder_0 : decode cX8_inOrder 0 = .ok (.iload_n 1, 1) := by decide +kernel
theorem dX8_inOrder_1 : decode cX8_inOrder 1 = .ok (.iconst 0, 1) := by decide +kernel
theorem dX8_inOrder_2 : decode cX8_inOrder 2 = .ok (.aload_n 0, 1) := by decide +kernel
theorem dX8_inOrder_3 : decode cX8_inOrder 3 = .ok (.getfield 28, 3) := by decide +kernel
theorem dX8_inOrder_6 : decode cX8_inOrder 6 = .ok (.invokevirtual 140, 3) := by decide +kernel
theorem dX8_inOrder_9 : decode cX8_inOrder 9 = .ok (.iconst 1, 1) := by decide +kernel
theorem dX8_inOrder_10 : decode cX8_inOrder 10 = .ok (.isub, 1) := by decide +kernel
theorem dX8_inOrder_11 : decode cX8_inOrder 11 = .ok (.invokestatic 73, 3) := by decide +kernel
theorem dX8_inOrder_14 : decode cX8_inOrder 14 = .ok (.ifCond .eq 7, 3) := by decide +kernel
theorem dX8_inOrder_17 : decode cX8_inOrder 17 = .ok (.iconst (-1), 1) := by decide +kernel
theorem dX8_inOrder_18 : decode cX8_inOrder 18 = .ok (.goto 11, 3) := by decide +kernel
theorem dX8_inOrder_21 : decode cX8_inOrder 21 = .ok (.aload_n 0, 1) := by decide +kernel
theorem dX8_inOrder_22 : decode cX8_inOrder 22 = .ok (.getfield 28, 3) := by decide +kernel
theorem dX8_inOrder_25 : decode cX8_inOrder 25 = .ok (.iload_n 1, 1) := by decide +kernel
theorem dX8_inOrder_26 : decode cX8_inOrder 26 = .ok (.invokevirtual 165, 3) := by decide +kernel
theorem dX8_inOrder_29 : decode cX8_inOrder 29 = .ok (.ireturn, 1) := by decide +kernel
set_option maxRecDepth 20000 in
theorem ggX8_wish_X8_isOutside : GoodIn wsX8_wish wsX8_isOutside := goodIn_r _ [5] (by decide +kernel) (by decide +kernel)
set_option maxRecDepth 20000 in
theorem gX8_wish_X8_isOutside : GoodIn wsX8_wish (va_wsS RX8 73 yX8_isOutside wsX8_isOutside) := goodIn_app (goodIn_of _ (by decide +kernel)) ggX8_wish_X8_isOutside
set_option maxRecDepth 20000 in
theorem ggX8_wish_X0_count : GoodIn wsX8_wish wsX0_count := goodIn_r _ [10, 11, 162, 163, 164, 165, 166, 167] (by decide +kernel) (by decide +kernel)
set_option maxRecDepth 20000 in
theorem gX8_wish_X0_count : GoodIn wsX8_wish (wsV RX8 122 RX0 yX0_count wsX0_count) := goodIn_app (goodIn_of _ (by decide +kernel)) ggX8_wish_X0_count
set_option maxRecDepth 20000 in
theorem ggX8_wish_X8_wishFor : GoodIn wsX8_wish wsX8_wishFor := goodIn_r _ [15, 16, 1, 17, 18, 19, 20, 21, 22, 23, 24, 25, 26, 27, 28, 29, 30, 9, 31, 11, 32, 33, 34, 35, 36, 37, 38, 39, 40, 41, 42, 43, 44, 45, 46, 47, 48, 49, 50, 51, 52, 53, 54, 55, 56, 57, 58, 59, 60, 61, 62, 63, 64, 65, 66, 67, 68, 69, 70, 71, 72, 73, 74, 75, 76, 77, 78, 79, 80, 81, 82, 83, 84, 85, 86, 87, 88, 89, 90, 91, 92, 93, 94, 95, 96, 97, 98, 99, 100, 101, 102, 103, 104, 105, 106, 107, 108, 109, 110, 111, 112, 113, 114, 115, 116, 117, 118, 119, 120, 121, 122, 123, 124, 125, 126, 127, 128, 129, 130, 131, 132, 133, 134, 135, 136, 137, 138, 139, 140, 141, 142, 143, 144, 145, 146, 147, 148, 149, 150, 151, 152, 153, 154, 155, 156, 157, 158, 159, 160, 161, 168, 169, 162, 163, 164, 165, 166, 167, 170, 171, 172, 173, 174, 175, 176, 177, 178] (by decide +kernel) (by decide +kernel)
set_option maxRecDepth 20000 in
theorem gX8_wish_X8_wishFor : GoodIn wsX8_wish (wsV RX8 168 RX8 yX8_wishFor wsX8_wishFor) := goodIn_app (goodIn_of _ (by decide +kernel)) ggX8_wish_X8_wishFor
theorem dX8_wish_0 : decode cX8_wish 0 = .ok (.iload_n 1, 1) := by decide +kernel
theorem dX8_wish_1 : decode cX8_wish 1 = .ok (.iconst 0, 1) := by decide +kernel
theorem dX8_wish_2 : decode cX8_wish 2 = .ok (.sipush 299, 3) := by decide +kernel
theorem dX8_wish_5 : decode cX8_wish 5 = .ok (.invokestatic 73, 3) := by decide +kernel
theorem dX8_wish_8 : decode cX8_wish 8 = .ok (.ifCond .eq 6, 3) := by decide +kernel
theorem dX8_wish_11 : decode cX8_wish 11 = .ok (.bipush (-2), 2) := by decide +kernel
theorem dX8_wish_13 : decode cX8_wish 13 = .ok (.ireturn, 1) := by decide +kernel
theorem dX8_wish_14 : decode cX8_wish 14 = .ok (.aload_n 0, 1) := by decide +kernel
theorem dX8_wish_15 : decode cX8_wish 15 = .ok (.getfield 21, 3) := by decide +kernel
theorem dX8_wish_18 : decode cX8_wish 18 = .ok (.invokevirtual 122, 3) := by decide +kernel
theorem dX8_wish_21 : decode cX8_wish 21 = .ok (.ifCond .ne 8, 3) := by decide +kernel
theorem dX8_wish_24 : decode cX8_wish 24 = .ok (.bipush (-3), 2) := by decide +kernel
theorem dX8_wish_26 : decode cX8_wish 26 = .ok (.goto 12, 3) := by decide +kernel
theorem dX8_wish_29 : decode cX8_wish 29 = .ok (.aload_n 0, 1) := by decide +kernel
theorem dX8_wish_30 : decode cX8_wish 30 = .ok (.iload_n 1, 1) := by decide +kernel
theorem dX8_wish_31 : decode cX8_wish 31 = .ok (.invokevirtual 168, 3) := by decide +kernel
theorem dX8_wish_34 : decode cX8_wish 34 = .ok (.sipush 10000, 3) := by decide +kernel
theorem dX8_wish_37 : decode cX8_wish 37 = .ok (.iadd, 1) := by decide +kernel
theorem dX8_wish_38 : decode cX8_wish 38 = .ok (.ireturn, 1) := by decide +kernel
set_option maxRecDepth 20000 in
theorem ggX8_spike_X5_isOn : GoodIn wsX8_spike wsX5_isOn := goodIn_r _ [6, 7, 24, 25, 26] (by decide +kernel) (by decide +kernel)
set_option maxRecDepth 20000 in
theorem gX8_spike_X5_isOn : GoodIn wsX8_spike (wsV RX8 171 RX5 yX5_isOn wsX5_isOn) := goodIn_app (goodIn_of _ (by decide +kernel)) ggX8_spike_X5_isOn
set_option maxRecDepth 20000 in
theorem ggX8_spike_X5_base : GoodIn wsX8_spike wsX5_base := goodIn_r _ [11, 12, 24, 25, 26] (by decide +kernel) (by decide +kernel)
set_option maxRecDepth 20000 in
theorem gX8_spike_X5_base : GoodIn wsX8_spike (wsV RX8 175 RX5 yX5_base wsX5_base) := goodIn_app (goodIn_of _ (by decide +kernel)) ggX8_spike_X5_base
theorem dX8_spike_0 : decode cX8_spike 0 = .ok (.iload_n 1, 1) := by decide +kernel
theorem dX8_spike_1 : decode cX8_spike 1 = .ok (.lookupswitch 70 #[(0, 27), (1, 43)], 27) := by decide +kernel
theorem dX8_spike_28 : decode cX8_spike 28 = .ok (.aload_n 0, 1) := by decide +kernel
theorem dX8_spike_29 : decode cX8_spike 29 = .ok (.getfield 35, 3) := by decide +kernel
theorem dX8_spike_32 : decode cX8_spike 32 = .ok (.invokevirtual 171, 3) := by decide +kernel
theorem dX8_spike_35 : decode cX8_spike 35 = .ok (.ifCond .eq 7, 3) := by decide +kernel
theorem dX8_spike_38 : decode cX8_spike 38 = .ok (.iconst 1, 1) := by decide +kernel
theorem dX8_spike_39 : decode cX8_spike 39 = .ok (.goto 4, 3) := by decide +kernel
theorem dX8_spike_42 : decode cX8_spike 42 = .ok (.iconst 0, 1) := by decide +kernel
theorem dX8_spike_43 : decode cX8_spike 43 = .ok (.ireturn, 1) := by decide +kernel
theorem dX8_spike_44 : decode cX8_spike 44 = .ok (.aload_n 0, 1) := by decide +kernel
theorem dX8_spike_45 : decode cX8_spike 45 = .ok (.getfield 35, 3) := by decide +kernel
theorem dX8_spike_48 : decode cX8_spike 48 = .ok (.invokevirtual 171, 3) := by decide +kernel
theorem dX8_spike_51 : decode cX8_spike 51 = .ok (.ifCond .eq 17, 3) := by decide +kernel
theorem dX8_spike_54 : decode cX8_spike 54 = .ok (.aload_n 0, 1) := by decide +kernel
theorem dX8_spike_55 : decode cX8_spike 55 = .ok (.getfield 35, 3) := by decide +kernel
theorem dX8_spike_58 : decode cX8_spike 58 = .ok (.invokevirtual 175, 3) := by decide +kernel
theorem dX8_spike_61 : decode cX8_spike 61 = .ok (.sipush 10000, 3) := by decide +kernel
theorem dX8_spike_64 : decode cX8_spike 64 = .ok (.iadd, 1) := by decide +kernel
theorem dX8_spike_65 : decode cX8_spike 65 = .ok (.goto 5, 3) := by decide +kernel
theorem dX8_spike_68 : decode cX8_spike 68 = .ok (.bipush (-9), 2) := by decide +kernel
theorem dX8_spike_70 : decode cX8_spike 70 = .ok (.ireturn, 1) := by decide +kernel
theorem dX8_spike_71 : decode cX8_spike 71 = .ok (.bipush (-2), 2) := by decide +kernel
theorem dX8_spike_73 : decode cX8_spike 73 = .ok (.ireturn, 1) := by decide +kernel
set_option maxRecDepth 20000 in
theorem ggX8_late_X8_isOutside : GoodIn wsX8_late wsX8_isOutside := goodIn_r _ [6] (by decide +kernel) (by decide +kernel)
set_option maxRecDepth 20000 in
theorem gX8_late_X8_isOutside : GoodIn wsX8_late (va_wsS RX8 73 yX8_isOutside wsX8_isOutside) := goodIn_app (goodIn_of _ (by decide +kernel)) ggX8_late_X8_isOutside
set_option maxRecDepth 20000 in
theorem ggX8_late_X0_historySize : GoodIn wsX8_late wsX0_historySize := goodIn_r _ [11, 12, 13, 14, 15, 16, 44, 45, 46, 47, 48, 49] (by decide +kernel) (by decide +kernel)
set_option maxRecDepth 20000 in
theorem gX8_late_X0_historySize : GoodIn wsX8_late (wsV RX8 179 RX0 yX0_historySize wsX0_historySize) := goodIn_app (goodIn_of _ (by decide +kernel)) ggX8_late_X0_historySize
set_option maxRecDepth 20000 in
theorem ggX8_late_X0_delaysAbove : GoodIn wsX8_late wsX0_delaysAbove := goodIn_r _ [20, 12, 21, 22, 23, 10, 24, 25, 26, 27, 28, 29, 30, 31, 32, 44, 45, 46, 47, 48, 49, 50] (by decide +kernel) (by decide +kernel)
set_option maxRecDepth 20000 in
theorem gX8_late_X0_delaysAbove : GoodIn wsX8_late (wsV RX8 182 RX0 yX0_delaysAbove wsX0_delaysAbove) := goodIn_app (goodIn_of _ (by decide +kernel)) ggX8_late_X0_delaysAbove
theorem dX8_late_0 : decode cX8_late 0 = .ok (.iload_n 1, 1) := by decide +kernel
theorem dX8_late_1 : decode cX8_late 1 = .ok (.sipush (-10000), 3) := by decide +kernel
theorem dX8_late_4 : decode cX8_late 4 = .ok (.ldc 178, 2) := by decide +kernel
theorem dX8_late_6 : decode cX8_late 6 = .ok (.invokestatic 73, 3) := by decide +kernel
theorem dX8_late_9 : decode cX8_late 9 = .ok (.ifCond .eq 6, 3) := by decide +kernel
theorem dX8_late_12 : decode cX8_late 12 = .ok (.bipush (-2), 2) := by decide +kernel
theorem dX8_late_14 : decode cX8_late 14 = .ok (.ireturn, 1) := by decide +kernel
theorem dX8_late_15 : decode cX8_late 15 = .ok (.aload_n 0, 1) := by decide +kernel
theorem dX8_late_16 : decode cX8_late 16 = .ok (.getfield 21, 3) := by decide +kernel
theorem dX8_late_19 : decode cX8_late 19 = .ok (.iload_n 1, 1) := by decide +kernel
theorem dX8_late_20 : decode cX8_late 20 = .ok (.aload_n 0, 1) := by decide +kernel
theorem dX8_late_21 : decode cX8_late 21 = .ok (.getfield 21, 3) := by decide +kernel
theorem dX8_late_24 : decode cX8_late 24 = .ok (.invokevirtual 179, 3) := by decide +kernel
theorem dX8_late_27 : decode cX8_late 27 = .ok (.invokevirtual 182, 3) := by decide +kernel
theorem dX8_late_30 : decode cX8_late 30 = .ok (.ireturn, 1) := by decide +kernel
set_option maxRecDepth 20000 in
theorem ggX8_history_X8_isOutside : GoodIn wsX8_history wsX8_isOutside := goodIn_r _ [5] (by decide +kernel) (by decide +kernel)
set_option maxRecDepth 20000 in
theorem gX8_history_X8_isOutside : GoodIn wsX8_history (va_wsS RX8 73 yX8_isOutside wsX8_isOutside) := goodIn_app (goodIn_of _ (by decide +kernel)) ggX8_history_X8_isOutside
set_option maxRecDepth 20000 in
theorem ggX8_history_X0_historySize : GoodIn wsX8_history wsX0_historySize := goodIn_r _ [10, 11, 12, 13, 14, 15, 43, 44, 45, 46, 47, 48] (by decide +kernel) (by decide +kernel)
set_option maxRecDepth 20000 in
theorem gX8_history_X0_historySize : GoodIn wsX8_history (wsV RX8 179 RX0 yX0_historySize wsX0_historySize) := goodIn_app (goodIn_of _ (by decide +kernel)) ggX8_history_X0_historySize
set_option maxRecDepth 20000 in
theorem ggX8_history_X0_lastPlace : GoodIn wsX8_history wsX0_lastPlace := goodIn_r _ [19, 11, 43, 44, 45, 46, 47, 48] (by decide +kernel) (by decide +kernel)
set_option maxRecDepth 20000 in
theorem gX8_history_X0_lastPlace : GoodIn wsX8_history (wsV RX8 185 RX0 yX0_lastPlace wsX0_lastPlace) := goodIn_app (goodIn_of _ (by decide +kernel)) ggX8_history_X0_lastPlace
set_option maxRecDepth 20000 in
theorem ggX8_history_X0_delayAt : GoodIn wsX8_history wsX0_delayAt := goodIn_r _ [23, 24, 25, 26, 27, 28, 29, 30, 31, 43, 44, 45, 46, 47, 48, 49] (by decide +kernel) (by decide +kernel)
set_option maxRecDepth 20000 in
theorem gX8_history_X0_delayAt : GoodIn wsX8_history (wsV RX8 105 RX0 yX0_delayAt wsX0_delayAt) := goodIn_app (goodIn_of _ (by decide +kernel)) ggX8_history_X0_delayAt
theorem dX8_history_0 : decode cX8_history 0 = .ok (.iload_n 1, 1) := by decide +kernel
theorem dX8_history_1 : decode cX8_history 1 = .ok (.iconst 0, 1) := by decide +kernel
theorem dX8_history_2 : decode cX8_history 2 = .ok (.bipush 31, 2) := by decide +kernel
theorem dX8_history_4 : decode cX8_history 4 = .ok (.invokestatic 73, 3) := by decide +kernel
theorem dX8_history_7 : decode cX8_history 7 = .ok (.ifCond .eq 6, 3) := by decide +kernel
theorem dX8_history_10 : decode cX8_history 10 = .ok (.bipush (-2), 2) := by decide +kernel
theorem dX8_history_12 : decode cX8_history 12 = .ok (.ireturn, 1) := by decide +kernel
theorem dX8_history_13 : decode cX8_history 13 = .ok (.iload_n 1, 1) := by decide +kernel
theorem dX8_history_14 : decode cX8_history 14 = .ok (.aload_n 0, 1) := by decide +kernel
theorem dX8_history_15 : decode cX8_history 15 = .ok (.getfield 21, 3) := by decide +kernel
theorem dX8_history_18 : decode cX8_history 18 = .ok (.invokevirtual 179, 3) := by decide +kernel
theorem dX8_history_21 : decode cX8_history 21 = .ok (.if_icmp .ge 26, 3) := by decide +kernel
theorem dX8_history_24 : decode cX8_history 24 = .ok (.aload_n 0, 1) := by decide +kernel
theorem dX8_history_25 : decode cX8_history 25 = .ok (.getfield 21, 3) := by decide +kernel
theorem dX8_history_28 : decode cX8_history 28 = .ok (.aload_n 0, 1) := by decide +kernel
theorem dX8_history_29 : decode cX8_history 29 = .ok (.getfield 21, 3) := by decide +kernel
theorem dX8_history_32 : decode cX8_history 32 = .ok (.invokevirtual 185, 3) := by decide +kernel
theorem dX8_history_35 : decode cX8_history 35 = .ok (.iload_n 1, 1) := by decide +kernel
theorem dX8_history_36 : decode cX8_history 36 = .ok (.isub, 1) := by decide +kernel
theorem dX8_history_37 : decode cX8_history 37 = .ok (.invokevirtual 105, 3) := by decide +kernel
theorem dX8_history_40 : decode cX8_history 40 = .ok (.sipush 10000, 3) := by decide +kernel
theorem dX8_history_43 : decode cX8_history 43 = .ok (.iadd, 1) := by decide +kernel
theorem dX8_history_44 : decode cX8_history 44 = .ok (.goto 5, 3) := by decide +kernel
theorem dX8_history_47 : decode cX8_history 47 = .ok (.bipush (-9), 2) := by decide +kernel
theorem dX8_history_49 : decode cX8_history 49 = .ok (.ireturn, 1) := by decide +kernel
set_option maxRecDepth 20000 in
theorem ggX8_loss_X8_isOutside : GoodIn wsX8_loss wsX8_isOutside := goodIn_r _ [6] (by decide +kernel) (by decide +kernel)
set_option maxRecDepth 20000 in
theorem gX8_loss_X8_isOutside : GoodIn wsX8_loss (va_wsS RX8 73 yX8_isOutside wsX8_isOutside) := goodIn_app (goodIn_of _ (by decide +kernel)) ggX8_loss_X8_isOutside
set_option maxRecDepth 20000 in
theorem ggX8_loss_X0_count : GoodIn wsX8_loss wsX0_count := goodIn_r _ [11, 12, 40, 41, 42, 43, 44, 45] (by decide +kernel) (by decide +kernel)
set_option maxRecDepth 20000 in
theorem gX8_loss_X0_count : GoodIn wsX8_loss (wsV RX8 122 RX0 yX0_count wsX0_count) := goodIn_app (goodIn_of _ (by decide +kernel)) ggX8_loss_X0_count
set_option maxRecDepth 20000 in
theorem ggX8_loss_X0_delaysAbove : GoodIn wsX8_loss wsX0_delaysAbove := goodIn_r _ [16, 12, 17, 18, 19, 10, 20, 21, 22, 23, 24, 25, 26, 27, 28, 40, 41, 42, 43, 44, 45, 46] (by decide +kernel) (by decide +kernel)
set_option maxRecDepth 20000 in
theorem gX8_loss_X0_delaysAbove : GoodIn wsX8_loss (wsV RX8 182 RX0 yX0_delaysAbove wsX0_delaysAbove) := goodIn_app (goodIn_of _ (by decide +kernel)) ggX8_loss_X0_delaysAbove
theorem dX8_loss_0 : decode cX8_loss 0 = .ok (.iload_n 1, 1) := by decide +kernel
theorem dX8_loss_1 : decode cX8_loss 1 = .ok (.sipush (-10000), 3) := by decide +kernel
theorem dX8_loss_4 : decode cX8_loss 4 = .ok (.ldc 178, 2) := by decide +kernel
theorem dX8_loss_6 : decode cX8_loss 6 = .ok (.invokestatic 73, 3) := by decide +kernel
theorem dX8_loss_9 : decode cX8_loss 9 = .ok (.ifCond .eq 6, 3) := by decide +kernel
theorem dX8_loss_12 : decode cX8_loss 12 = .ok (.bipush (-2), 2) := by decide +kernel
theorem dX8_loss_14 : decode cX8_loss 14 = .ok (.ireturn, 1) := by decide +kernel
theorem dX8_loss_15 : decode cX8_loss 15 = .ok (.aload_n 0, 1) := by decide +kernel
theorem dX8_loss_16 : decode cX8_loss 16 = .ok (.getfield 21, 3) := by decide +kernel
theorem dX8_loss_19 : decode cX8_loss 19 = .ok (.iload_n 1, 1) := by decide +kernel
theorem dX8_loss_20 : decode cX8_loss 20 = .ok (.aload_n 0, 1) := by decide +kernel
theorem dX8_loss_21 : decode cX8_loss 21 = .ok (.getfield 21, 3) := by decide +kernel
theorem dX8_loss_24 : decode cX8_loss 24 = .ok (.invokevirtual 122, 3) := by decide +kernel
theorem dX8_loss_27 : decode cX8_loss 27 = .ok (.invokevirtual 182, 3) := by decide +kernel
theorem dX8_loss_30 : decode cX8_loss 30 = .ok (.ireturn, 1) := by decide +kernel
set_option maxRecDepth 20000 in
theorem ggX8_drift_X1_fitUnder : GoodIn wsX8_drift wsX1_fitUnder := goodIn_r _ [8, 9, 10, 11, 12, 13, 14, 15, 16, 17, 18, 19, 20, 21, 22, 23, 24, 25, 26, 27, 28, 29, 30, 31, 32, 7, 33, 34, 35, 36, 37, 38, 39, 40, 41, 42, 43, 44, 45, 46, 47, 48, 49, 50, 51, 52, 53, 54, 55, 56, 57, 58, 59, 79, 80, 81, 82, 83, 84, 85, 86, 87, 88, 89, 90] (by decide +kernel) (by decide +kernel)
set_option maxRecDepth 20000 in
theorem gX8_drift_X1_fitUnder : GoodIn wsX8_drift (wsV RX8 188 RX1 yX1_fitUnder wsX1_fitUnder) := goodIn_app (goodIn_of _ (by decide +kernel)) ggX8_drift_X1_fitUnder
set_option maxRecDepth 20000 in
theorem ggX8_drift_X1_upper : GoodIn wsX8_drift wsX1_upper := goodIn_r _ [63, 10, 79, 80, 81, 82, 83] (by decide +kernel) (by decide +kernel)
set_option maxRecDepth 20000 in
theorem gX8_drift_X1_upper : GoodIn wsX8_drift (wsV RX8 192 RX1 yX1_upper wsX1_upper) := goodIn_app (goodIn_of _ (by decide +kernel)) ggX8_drift_X1_upper
set_option maxRecDepth 20000 in
theorem ggX8_drift_X1_lower : GoodIn wsX8_drift wsX1_lower := goodIn_r _ [67, 11, 79, 80, 81, 82, 83] (by decide +kernel) (by decide +kernel)
set_option maxRecDepth 20000 in
theorem gX8_drift_X1_lower : GoodIn wsX8_drift (wsV RX8 195 RX1 yX1_lower wsX1_lower) := goodIn_app (goodIn_of _ (by decide +kernel)) ggX8_drift_X1_lower
theorem dX8_drift_0 : decode cX8_drift 0 = .ok (.aload_n 0, 1) := by decide +kernel
theorem dX8_drift_1 : decode cX8_drift 1 = .ok (.getfield 42, 3) := by decide +kernel
theorem dX8_drift_4 : decode cX8_drift 4 = .ok (.aload_n 0, 1) := by decide +kernel
theorem dX8_drift_5 : decode cX8_drift 5 = .ok (.getfield 21, 3) := by decide +kernel
theorem dX8_drift_8 : decode cX8_drift 8 = .ok (.invokevirtual 188, 3) := by decide +kernel
theorem dX8_drift_11 : decode cX8_drift 11 = .ok (.iload_n 1, 1) := by decide +kernel
theorem dX8_drift_12 : decode cX8_drift 12 = .ok (.lookupswitch 46 #[(0, 28), (1, 37)], 28) := by decide +kernel
theorem dX8_drift_40 : decode cX8_drift 40 = .ok (.aload_n 0, 1) := by decide +kernel
theorem dX8_drift_41 : decode cX8_drift 41 = .ok (.getfield 42, 3) := by decide +kernel
theorem dX8_drift_44 : decode cX8_drift 44 = .ok (.invokevirtual 192, 3) := by decide +kernel
theorem dX8_drift_47 : decode cX8_drift 47 = .ok (.i2l, 1) := by decide +kernel
theorem dX8_drift_48 : decode cX8_drift 48 = .ok (.lreturn, 1) := by decide +kernel
theorem dX8_drift_49 : decode cX8_drift 49 = .ok (.aload_n 0, 1) := by decide +kernel
theorem dX8_drift_50 : decode cX8_drift 50 = .ok (.getfield 42, 3) := by decide +kernel
theorem dX8_drift_53 : decode cX8_drift 53 = .ok (.invokevirtual 195, 3) := by decide +kernel
theorem dX8_drift_56 : decode cX8_drift 56 = .ok (.i2l, 1) := by decide +kernel
theorem dX8_drift_57 : decode cX8_drift 57 = .ok (.lreturn, 1) := by decide +kernel
theorem dX8_drift_58 : decode cX8_drift 58 = .ok (.ldc2_w 198, 3) := by decide +kernel
theorem dX8_drift_61 : decode cX8_drift 61 = .ok (.lreturn, 1) := by decide +kernel
set_option maxRecDepth 20000 in
theorem ggX8_waiting_X8_isOutside : GoodIn wsX8_waiting wsX8_isOutside := goodIn_r _ [6] (by decide +kernel) (by decide +kernel)
set_option maxRecDepth 20000 in
theorem gX8_waiting_X8_isOutside : GoodIn wsX8_waiting (va_wsS RX8 73 yX8_isOutside wsX8_isOutside) := goodIn_app (goodIn_of _ (by decide +kernel)) ggX8_waiting_X8_isOutside
set_option maxRecDepth 20000 in
theorem ggX8_waiting_X0_count : GoodIn wsX8_waiting wsX0_count := goodIn_r _ [11, 12, 40, 41, 42, 43, 44, 45] (by decide +kernel) (by decide +kernel)
set_option maxRecDepth 20000 in
theorem gX8_waiting_X0_count : GoodIn wsX8_waiting (wsV RX8 122 RX0 yX0_count wsX0_count) := goodIn_app (goodIn_of _ (by decide +kernel)) ggX8_waiting_X0_count
set_option maxRecDepth 20000 in
theorem ggX8_waiting_X0_whenAt : GoodIn wsX8_waiting wsX0_whenAt := goodIn_r _ [16, 17, 18, 19, 20, 21, 22, 23, 40, 41, 42, 43, 44, 45, 46] (by decide +kernel) (by decide +kernel)
set_option maxRecDepth 20000 in
theorem gX8_waiting_X0_whenAt : GoodIn wsX8_waiting (wsV RX8 131 RX0 yX0_whenAt wsX0_whenAt) := goodIn_app (goodIn_of _ (by decide +kernel)) ggX8_waiting_X0_whenAt
set_option maxRecDepth 20000 in
theorem ggX8_waiting_X0_playedAt : GoodIn wsX8_waiting wsX0_playedAt := goodIn_r _ [27, 28, 18, 19, 20, 21, 22, 23, 40, 41, 42, 43, 44, 45, 46] (by decide +kernel) (by decide +kernel)
set_option maxRecDepth 20000 in
theorem gX8_waiting_X0_playedAt : GoodIn wsX8_waiting (wsV RX8 137 RX0 yX0_playedAt wsX0_playedAt) := goodIn_app (goodIn_of _ (by decide +kernel)) ggX8_waiting_X0_playedAt
theorem dX8_waiting_0 : decode cX8_waiting 0 = .ok (.iload_n 1, 1) := by decide +kernel
theorem dX8_waiting_1 : decode cX8_waiting 1 = .ok (.iconst 0, 1) := by decide +kernel
theorem dX8_waiting_2 : decode cX8_waiting 2 = .ok (.ldc 200, 2) := by decide +kernel
theorem dX8_waiting_4 : decode cX8_waiting 4 = .ok (.invokestatic 73, 3) := by decide +kernel
theorem dX8_waiting_7 : decode cX8_waiting 7 = .ok (.ifCond .eq 6, 3) := by decide +kernel
theorem dX8_waiting_10 : decode cX8_waiting 10 = .ok (.bipush (-2), 2) := by decide +kernel
theorem dX8_waiting_12 : decode cX8_waiting 12 = .ok (.ireturn, 1) := by decide +kernel
theorem dX8_waiting_13 : decode cX8_waiting 13 = .ok (.iconst 0, 1) := by decide +kernel
theorem dX8_waiting_14 : decode cX8_waiting 14 = .ok (.istore_n 2, 1) := by decide +kernel
theorem dX8_waiting_15 : decode cX8_waiting 15 = .ok (.iconst 0, 1) := by decide +kernel
theorem dX8_waiting_16 : decode cX8_waiting 16 = .ok (.istore_n 3, 1) := by decide +kernel
theorem dX8_waiting_17 : decode cX8_waiting 17 = .ok (.iload_n 3, 1) := by decide +kernel
theorem dX8_waiting_18 : decode cX8_waiting 18 = .ok (.aload_n 0, 1) := by decide +kernel
theorem dX8_waiting_19 : decode cX8_waiting 19 = .ok (.getfield 21, 3) := by decide +kernel
theorem dX8_waiting_22 : decode cX8_waiting 22 = .ok (.invokevirtual 122, 3) := by decide +kernel
theorem dX8_waiting_25 : decode cX8_waiting 25 = .ok (.if_icmp .ge 36, 3) := by decide +kernel
theorem dX8_waiting_28 : decode cX8_waiting 28 = .ok (.aload_n 0, 1) := by decide +kernel
theorem dX8_waiting_29 : decode cX8_waiting 29 = .ok (.getfield 21, 3) := by decide +kernel
theorem dX8_waiting_32 : decode cX8_waiting 32 = .ok (.iload_n 3, 1) := by decide +kernel
theorem dX8_waiting_33 : decode cX8_waiting 33 = .ok (.invokevirtual 131, 3) := by decide +kernel
theorem dX8_waiting_36 : decode cX8_waiting 36 = .ok (.iload_n 1, 1) := by decide +kernel
theorem dX8_waiting_37 : decode cX8_waiting 37 = .ok (.if_icmp .gt 18, 3) := by decide +kernel
theorem dX8_waiting_40 : decode cX8_waiting 40 = .ok (.aload_n 0, 1) := by decide +kernel
theorem dX8_waiting_41 : decode cX8_waiting 41 = .ok (.getfield 21, 3) := by decide +kernel
theorem dX8_waiting_44 : decode cX8_waiting 44 = .ok (.iload_n 3, 1) := by decide +kernel
theorem dX8_waiting_45 : decode cX8_waiting 45 = .ok (.invokevirtual 137, 3) := by decide +kernel
theorem dX8_waiting_48 : decode cX8_waiting 48 = .ok (.iload_n 1, 1) := by decide +kernel
theorem dX8_waiting_49 : decode cX8_waiting 49 = .ok (.if_icmp .le 6, 3) := by decide +kernel
theorem dX8_waiting_52 : decode cX8_waiting 52 = .ok (.iinc 2 1, 3) := by decide +kernel
theorem dX8_waiting_55 : decode cX8_waiting 55 = .ok (.iinc 3 1, 3) := by decide +kernel
theorem dX8_waiting_58 : decode cX8_waiting 58 = .ok (.goto (-41), 3) := by decide +kernel
theorem dX8_waiting_61 : decode cX8_waiting 61 = .ok (.iload_n 2, 1) := by decide +kernel
theorem dX8_waiting_62 : decode cX8_waiting 62 = .ok (.ireturn, 1) := by decide +kernel
set_option maxRecDepth 20000 in
theorem ggX8_playing_X8_isOutside : GoodIn wsX8_playing wsX8_isOutside := goodIn_r _ [6] (by decide +kernel) (by decide +kernel)
set_option maxRecDepth 20000 in
theorem gX8_playing_X8_isOutside : GoodIn wsX8_playing (va_wsS RX8 73 yX8_isOutside wsX8_isOutside) := goodIn_app (goodIn_of _ (by decide +kernel)) ggX8_playing_X8_isOutside
set_option maxRecDepth 20000 in
theorem ggX8_playing_X0_count : GoodIn wsX8_playing wsX0_count := goodIn_r _ [11, 12, 40, 41, 42, 43, 44, 45] (by decide +kernel) (by decide +kernel)
set_option maxRecDepth 20000 in
theorem gX8_playing_X0_count : GoodIn wsX8_playing (wsV RX8 122 RX0 yX0_count wsX0_count) := goodIn_app (goodIn_of _ (by decide +kernel)) ggX8_playing_X0_count
set_option maxRecDepth 20000 in
theorem ggX8_playing_X0_playedAt : GoodIn wsX8_playing wsX0_playedAt := goodIn_r _ [16, 17, 18, 19, 20, 21, 22, 23, 40, 41, 42, 43, 44, 45, 46] (by decide +kernel) (by decide +kernel)
set_option maxRecDepth 20000 in
theorem gX8_playing_X0_playedAt : GoodIn wsX8_playing (wsV RX8 137 RX0 yX0_playedAt wsX0_playedAt) := goodIn_app (goodIn_of _ (by decide +kernel)) ggX8_playing_X0_playedAt
set_option maxRecDepth 20000 in
theorem ggX8_playing_X0_frameAt : GoodIn wsX8_playing wsX0_frameAt := goodIn_r _ [27, 28, 18, 19, 20, 21, 22, 23, 40, 41, 42, 43, 44, 45, 46] (by decide +kernel) (by decide +kernel)
set_option maxRecDepth 20000 in
theorem gX8_playing_X0_frameAt : GoodIn wsX8_playing (wsV RX8 201 RX0 yX0_frameAt wsX0_frameAt) := goodIn_app (goodIn_of _ (by decide +kernel)) ggX8_playing_X0_frameAt
theorem dX8_playing_0 : decode cX8_playing 0 = .ok (.iload_n 1, 1) := by decide +kernel
theorem dX8_playing_1 : decode cX8_playing 1 = .ok (.iconst 0, 1) := by decide +kernel
theorem dX8_playing_2 : decode cX8_playing 2 = .ok (.ldc 200, 2) := by decide +kernel
theorem dX8_playing_4 : decode cX8_playing 4 = .ok (.invokestatic 73, 3) := by decide +kernel
theorem dX8_playing_7 : decode cX8_playing 7 = .ok (.ifCond .eq 6, 3) := by decide +kernel
theorem dX8_playing_10 : decode cX8_playing 10 = .ok (.bipush (-2), 2) := by decide +kernel
theorem dX8_playing_12 : decode cX8_playing 12 = .ok (.ireturn, 1) := by decide +kernel
theorem dX8_playing_13 : decode cX8_playing 13 = .ok (.iconst 0, 1) := by decide +kernel
theorem dX8_playing_14 : decode cX8_playing 14 = .ok (.istore_n 2, 1) := by decide +kernel
theorem dX8_playing_15 : decode cX8_playing 15 = .ok (.iload_n 2, 1) := by decide +kernel
theorem dX8_playing_16 : decode cX8_playing 16 = .ok (.aload_n 0, 1) := by decide +kernel
theorem dX8_playing_17 : decode cX8_playing 17 = .ok (.getfield 21, 3) := by decide +kernel
theorem dX8_playing_20 : decode cX8_playing 20 = .ok (.invokevirtual 122, 3) := by decide +kernel
theorem dX8_playing_23 : decode cX8_playing 23 = .ok (.if_icmp .ge 46, 3) := by decide +kernel
theorem dX8_playing_26 : decode cX8_playing 26 = .ok (.aload_n 0, 1) := by decide +kernel
theorem dX8_playing_27 : decode cX8_playing 27 = .ok (.getfield 21, 3) := by decide +kernel
theorem dX8_playing_30 : decode cX8_playing 30 = .ok (.iload_n 2, 1) := by decide +kernel
theorem dX8_playing_31 : decode cX8_playing 31 = .ok (.invokevirtual 137, 3) := by decide +kernel
theorem dX8_playing_34 : decode cX8_playing 34 = .ok (.istore_n 3, 1) := by decide +kernel
theorem dX8_playing_35 : decode cX8_playing 35 = .ok (.iload_n 3, 1) := by decide +kernel
theorem dX8_playing_36 : decode cX8_playing 36 = .ok (.bipush (-9), 2) := by decide +kernel
theorem dX8_playing_38 : decode cX8_playing 38 = .ok (.if_icmp .eq 25, 3) := by decide +kernel
theorem dX8_playing_41 : decode cX8_playing 41 = .ok (.iload_n 3, 1) := by decide +kernel
theorem dX8_playing_42 : decode cX8_playing 42 = .ok (.iload_n 1, 1) := by decide +kernel
theorem dX8_playing_43 : decode cX8_playing 43 = .ok (.if_icmp .gt 20, 3) := by decide +kernel
theorem dX8_playing_46 : decode cX8_playing 46 = .ok (.iload_n 1, 1) := by decide +kernel
theorem dX8_playing_47 : decode cX8_playing 47 = .ok (.iload_n 3, 1) := by decide +kernel
theorem dX8_playing_48 : decode cX8_playing 48 = .ok (.isub, 1) := by decide +kernel
theorem dX8_playing_49 : decode cX8_playing 49 = .ok (.bipush 20, 2) := by decide +kernel
theorem dX8_playing_51 : decode cX8_playing 51 = .ok (.if_icmp .ge 12, 3) := by decide +kernel
theorem dX8_playing_54 : decode cX8_playing 54 = .ok (.aload_n 0, 1) := by decide +kernel
theorem dX8_playing_55 : decode cX8_playing 55 = .ok (.getfield 21, 3) := by decide +kernel
theorem dX8_playing_58 : decode cX8_playing 58 = .ok (.iload_n 2, 1) := by decide +kernel
theorem dX8_playing_59 : decode cX8_playing 59 = .ok (.invokevirtual 201, 3) := by decide +kernel
theorem dX8_playing_62 : decode cX8_playing 62 = .ok (.ireturn, 1) := by decide +kernel
theorem dX8_playing_63 : decode cX8_playing 63 = .ok (.iinc 2 1, 3) := by decide +kernel
theorem dX8_playing_66 : decode cX8_playing 66 = .ok (.goto (-51), 3) := by decide +kernel
theorem dX8_playing_69 : decode cX8_playing 69 = .ok (.bipush (-9), 2) := by decide +kernel
theorem dX8_playing_71 : decode cX8_playing 71 = .ok (.ireturn, 1) := by decide +kernel
set_option maxRecDepth 20000 in
theorem ggX8_text_X4_count : GoodIn wsX8_text wsX4_count := goodIn_r _ [7, 8, 157, 158, 159, 160, 161, 162, 163, 164, 165] (by decide +kernel) (by decide +kernel)
set_option maxRecDepth 20000 in
theorem gX8_text_X4_count : GoodIn wsX8_text (wsV RX8 140 RX4 yX4_count wsX4_count) := goodIn_app (goodIn_of _ (by decide +kernel)) ggX8_text_X4_count
set_option maxRecDepth 20000 in
theorem ggX8_text_X8_isOutside : GoodIn wsX8_text wsX8_isOutside := goodIn_r _ [12] (by decide +kernel) (by decide +kernel)
set_option maxRecDepth 20000 in
theorem gX8_text_X8_isOutside : GoodIn wsX8_text (va_wsS RX8 73 yX8_isOutside wsX8_isOutside) := goodIn_app (goodIn_of _ (by decide +kernel)) ggX8_text_X8_isOutside
set_option maxRecDepth 20000 in
theorem ggX8_text_X8_writeOpening : GoodIn wsX8_text wsX8_writeOpening := goodIn_r _ [16, 2, 1, 17, 18, 19, 20, 21, 22, 23, 24, 25, 26, 27, 28, 29, 30, 31, 32, 33, 34, 35, 36, 6, 37, 38, 39, 40, 41, 42, 43, 44, 45, 46, 47, 48, 49, 50, 51, 52, 53, 54, 55, 11, 56, 57, 58, 59, 60, 61, 62, 63, 64, 65, 66, 67, 68, 69, 70, 71, 72, 73, 74, 75, 76, 77, 78, 79, 80, 81, 82, 83, 84, 85, 86, 87, 88, 89, 90, 91, 92, 93, 94, 95, 96, 97, 98, 99, 100, 101, 102, 103, 104, 105, 106, 107, 108, 109, 110, 111, 112, 113, 114, 146, 147, 148, 149, 150, 151, 152, 153, 154, 155, 156, 166, 167, 168, 157, 158, 159, 160, 161, 162, 163, 164, 165] (by decide +kernel) (by decide +kernel)
set_option maxRecDepth 20000 in
theorem gX8_text_X8_writeOpening : GoodIn wsX8_text (wsV RX8 204 RX8 yX8_writeOpening wsX8_writeOpening) := goodIn_app (goodIn_of _ (by decide +kernel)) ggX8_text_X8_writeOpening
set_option maxRecDepth 20000 in
theorem ggX8_text_X4_greatestOf : GoodIn wsX8_text wsX4_greatestOf := goodIn_r _ [118, 119, 39, 40, 41, 31, 42, 33, 157, 158, 159, 160, 161, 162, 163, 164, 165, 168] (by decide +kernel) (by decide +kernel)
set_option maxRecDepth 20000 in
theorem gX8_text_X4_greatestOf : GoodIn wsX8_text (wsV RX8 159 RX4 yX4_greatestOf wsX4_greatestOf) := goodIn_app (goodIn_of _ (by decide +kernel)) ggX8_text_X4_greatestOf
set_option maxRecDepth 20000 in
theorem ggX8_text_X4_headOf : GoodIn wsX8_text wsX4_headOf := goodIn_r _ [37, 38, 39, 40, 41, 31, 42, 33, 157, 158, 159, 160, 161, 162, 163, 164, 165, 168] (by decide +kernel) (by decide +kernel)
set_option maxRecDepth 20000 in
theorem gX8_text_X4_headOf : GoodIn wsX8_text (wsV RX8 141 RX4 yX4_headOf wsX4_headOf) := goodIn_app (goodIn_of _ (by decide +kernel)) ggX8_text_X4_headOf
set_option maxRecDepth 20000 in
theorem ggX8_text_X3_size : GoodIn wsX8_text wsX3_size := goodIn_r _ [123, 22, 166, 167] (by decide +kernel) (by decide +kernel)
set_option maxRecDepth 20000 in
theorem gX8_text_X3_size : GoodIn wsX8_text (wsV RX8 207 RX3 yX3_size wsX3_size) := goodIn_app (goodIn_of _ (by decide +kernel)) ggX8_text_X3_size
set_option maxRecDepth 20000 in
theorem ggX8_text_X3_codeAt : GoodIn wsX8_text wsX3_codeAt := goodIn_r _ [127, 27, 128, 40, 41, 31, 42, 33, 166, 167, 168] (by decide +kernel) (by decide +kernel)
set_option maxRecDepth 20000 in
theorem gX8_text_X3_codeAt : GoodIn wsX8_text (wsV RX8 208 RX3 yX3_codeAt wsX3_codeAt) := goodIn_app (goodIn_of _ (by decide +kernel)) ggX8_text_X3_codeAt
set_option maxRecDepth 20000 in
theorem ggX8_text_X8_signOfFrame : GoodIn wsX8_text wsX8_signOfFrame := goodIn_r _ [132, 133, 134, 135, 136, 137, 138, 139, 140, 40, 41, 31, 42, 33, 141, 142, 143, 144, 145, 146, 147, 148, 149, 150, 151, 152, 153, 154, 155, 156, 169, 170, 171, 172, 173, 174, 168] (by decide +kernel) (by decide +kernel)
set_option maxRecDepth 20000 in
theorem gX8_text_X8_signOfFrame : GoodIn wsX8_text (wsV RX8 211 RX8 yX8_signOfFrame wsX8_signOfFrame) := goodIn_app (goodIn_of _ (by decide +kernel)) ggX8_text_X8_signOfFrame
theorem dX8_text_0 : decode cX8_text 0 = .ok (.iload_n 1, 1) := by decide +kernel
theorem dX8_text_1 : decode cX8_text 1 = .ok (.iconst 0, 1) := by decide +kernel
theorem dX8_text_2 : decode cX8_text 2 = .ok (.aload_n 0, 1) := by decide +kernel
theorem dX8_text_3 : decode cX8_text 3 = .ok (.getfield 28, 3) := by decide +kernel
theorem dX8_text_6 : decode cX8_text 6 = .ok (.invokevirtual 140, 3) := by decide +kernel
theorem dX8_text_9 : decode cX8_text 9 = .ok (.iconst 1, 1) := by decide +kernel
theorem dX8_text_10 : decode cX8_text 10 = .ok (.isub, 1) := by decide +kernel
theorem dX8_text_11 : decode cX8_text 11 = .ok (.invokestatic 73, 3) := by decide +kernel
theorem dX8_text_14 : decode cX8_text 14 = .ok (.ifCond .eq 5, 3) := by decide +kernel
theorem dX8_text_17 : decode cX8_text 17 = .ok (.iconst (-1), 1) := by decide +kernel
theorem dX8_text_18 : decode cX8_text 18 = .ok (.ireturn, 1) := by decide +kernel
theorem dX8_text_19 : decode cX8_text 19 = .ok (.iload_n 2, 1) := by decide +kernel
theorem dX8_text_20 : decode cX8_text 20 = .ok (.iconst (-1), 1) := by decide +kernel
theorem dX8_text_21 : decode cX8_text 21 = .ok (.sipush 399, 3) := by decide +kernel
theorem dX8_text_24 : decode cX8_text 24 = .ok (.invokestatic 73, 3) := by decide +kernel
theorem dX8_text_27 : decode cX8_text 27 = .ok (.ifCond .eq 6, 3) := by decide +kernel
theorem dX8_text_30 : decode cX8_text 30 = .ok (.bipush (-2), 2) := by decide +kernel
theorem dX8_text_32 : decode cX8_text 32 = .ok (.ireturn, 1) := by decide +kernel
theorem dX8_text_33 : decode cX8_text 33 = .ok (.aload_n 0, 1) := by decide +kernel
theorem dX8_text_34 : decode cX8_text 34 = .ok (.iload_n 1, 1) := by decide +kernel
theorem dX8_text_35 : decode cX8_text 35 = .ok (.invokevirtual 204, 3) := by decide +kernel
theorem dX8_text_38 : decode cX8_text 38 = .ok (.aload_n 0, 1) := by decide +kernel
theorem dX8_text_39 : decode cX8_text 39 = .ok (.getfield 28, 3) := by decide +kernel
theorem dX8_text_42 : decode cX8_text 42 = .ok (.iload_n 1, 1) := by decide +kernel
theorem dX8_text_43 : decode cX8_text 43 = .ok (.invokevirtual 159, 3) := by decide +kernel
theorem dX8_text_46 : decode cX8_text 46 = .ok (.aload_n 0, 1) := by decide +kernel
theorem dX8_text_47 : decode cX8_text 47 = .ok (.getfield 28, 3) := by decide +kernel
theorem dX8_text_50 : decode cX8_text 50 = .ok (.iload_n 1, 1) := by decide +kernel
theorem dX8_text_51 : decode cX8_text 51 = .ok (.invokevirtual 141, 3) := by decide +kernel
theorem dX8_text_54 : decode cX8_text 54 = .ok (.isub, 1) := by decide +kernel
theorem dX8_text_55 : decode cX8_text 55 = .ok (.iconst 1, 1) := by decide +kernel
theorem dX8_text_56 : decode cX8_text 56 = .ok (.iadd, 1) := by decide +kernel
theorem dX8_text_57 : decode cX8_text 57 = .ok (.istore_n 3, 1) := by decide +kernel
theorem dX8_text_58 : decode cX8_text 58 = .ok (.iload_n 2, 1) := by decide +kernel
theorem dX8_text_59 : decode cX8_text 59 = .ok (.iconst (-1), 1) := by decide +kernel
theorem dX8_text_60 : decode cX8_text 60 = .ok (.if_icmp .ne 13, 3) := by decide +kernel
theorem dX8_text_63 : decode cX8_text 63 = .ok (.aload_n 0, 1) := by decide +kernel
theorem dX8_text_64 : decode cX8_text 64 = .ok (.getfield 56, 3) := by decide +kernel
theorem dX8_text_67 : decode cX8_text 67 = .ok (.invokevirtual 207, 3) := by decide +kernel
theorem dX8_text_70 : decode cX8_text 70 = .ok (.iload_n 3, 1) := by decide +kernel
theorem dX8_text_71 : decode cX8_text 71 = .ok (.iadd, 1) := by decide +kernel
theorem dX8_text_72 : decode cX8_text 72 = .ok (.ireturn, 1) := by decide +kernel
theorem dX8_text_73 : decode cX8_text 73 = .ok (.iload_n 2, 1) := by decide +kernel
theorem dX8_text_74 : decode cX8_text 74 = .ok (.aload_n 0, 1) := by decide +kernel
theorem dX8_text_75 : decode cX8_text 75 = .ok (.getfield 56, 3) := by decide +kernel
theorem dX8_text_78 : decode cX8_text 78 = .ok (.invokevirtual 207, 3) := by decide +kernel
theorem dX8_text_81 : decode cX8_text 81 = .ok (.if_icmp .ge 12, 3) := by decide +kernel
theorem dX8_text_84 : decode cX8_text 84 = .ok (.aload_n 0, 1) := by decide +kernel
theorem dX8_text_85 : decode cX8_text 85 = .ok (.getfield 56, 3) := by decide +kernel
theorem dX8_text_88 : decode cX8_text 88 = .ok (.iload_n 2, 1) := by decide +kernel
theorem dX8_text_89 : decode cX8_text 89 = .ok (.invokevirtual 208, 3) := by decide +kernel
theorem dX8_text_92 : decode cX8_text 92 = .ok (.ireturn, 1) := by decide +kernel
theorem dX8_text_93 : decode cX8_text 93 = .ok (.iload_n 2, 1) := by decide +kernel
theorem dX8_text_94 : decode cX8_text 94 = .ok (.aload_n 0, 1) := by decide +kernel
theorem dX8_text_95 : decode cX8_text 95 = .ok (.getfield 56, 3) := by decide +kernel
theorem dX8_text_98 : decode cX8_text 98 = .ok (.invokevirtual 207, 3) := by decide +kernel
theorem dX8_text_101 : decode cX8_text 101 = .ok (.isub, 1) := by decide +kernel
theorem dX8_text_102 : decode cX8_text 102 = .ok (.istore 4, 2) := by decide +kernel
theorem dX8_text_104 : decode cX8_text 104 = .ok (.iload 4, 2) := by decide +kernel
theorem dX8_text_106 : decode cX8_text 106 = .ok (.iload_n 3, 1) := by decide +kernel
theorem dX8_text_107 : decode cX8_text 107 = .ok (.if_icmp .ge 21, 3) := by decide +kernel
theorem dX8_text_110 : decode cX8_text 110 = .ok (.aload_n 0, 1) := by decide +kernel
theorem dX8_text_111 : decode cX8_text 111 = .ok (.aload_n 0, 1) := by decide +kernel
theorem dX8_text_112 : decode cX8_text 112 = .ok (.getfield 28, 3) := by decide +kernel
theorem dX8_text_115 : decode cX8_text 115 = .ok (.iload_n 1, 1) := by decide +kernel
theorem dX8_text_116 : decode cX8_text 116 = .ok (.invokevirtual 141, 3) := by decide +kernel
theorem dX8_text_119 : decode cX8_text 119 = .ok (.iload 4, 2) := by decide +kernel
theorem dX8_text_121 : decode cX8_text 121 = .ok (.iadd, 1) := by decide +kernel
theorem dX8_text_122 : decode cX8_text 122 = .ok (.invokevirtual 211, 3) := by decide +kernel
theorem dX8_text_125 : decode cX8_text 125 = .ok (.goto 5, 3) := by decide +kernel
theorem dX8_text_128 : decode cX8_text 128 = .ok (.bipush (-9), 2) := by decide +kernel
theorem dX8_text_130 : decode cX8_text 130 = .ok (.ireturn, 1) := by decide +kernel
set_option maxRecDepth 20000 in
theorem ggX8_word_X8_isOutside : GoodIn wsX8_word wsX8_isOutside := goodIn_r _ [5] (by decide +kernel) (by decide +kernel)
set_option maxRecDepth 20000 in
theorem gX8_word_X8_isOutside : GoodIn wsX8_word (va_wsS RX8 73 yX8_isOutside wsX8_isOutside) := goodIn_app (goodIn_of _ (by decide +kernel)) ggX8_word_X8_isOutside
set_option maxRecDepth 20000 in
theorem ggX8_word_X8_wordOf : GoodIn wsX8_word wsX8_wordOf := goodIn_r _ [8] (by decide +kernel) (by decide +kernel)
set_option maxRecDepth 20000 in
theorem gX8_word_X8_wordOf : GoodIn wsX8_word (va_wsS RX8 214 yX8_wordOf wsX8_wordOf) := goodIn_app (goodIn_of _ (by decide +kernel)) ggX8_word_X8_wordOf
set_option maxRecDepth 20000 in
theorem ggX8_word_J0_length_8abf5 : GoodIn wsX8_word wsJ0_length_8abf5 := goodIn_r _ [13, 14, 15, 16, 17, 12, 18, 19, 20] (by decide +kernel) (by decide +kernel)
set_option maxRecDepth 20000 in
theorem gX8_word_J0_length_8abf5 : GoodIn wsX8_word (wsV RX8 218 RJ0 yJ0_length_8abf5 wsJ0_length_8abf5) := goodIn_app (goodIn_of _ (by decide +kernel)) ggX8_word_J0_length_8abf5
set_option maxRecDepth 20000 in
theorem ggX8_word_J0_charAt_5068e : GoodIn wsX8_word wsJ0_charAt_5068e := goodIn_r _ [24, 14, 25, 26, 27, 12, 28, 19, 20, 29, 30, 31, 32, 33, 34, 35, 36, 37, 38, 39, 40, 41, 42, 43, 44, 45, 46, 47, 48, 49, 50, 51, 52, 53, 54, 55, 56, 57] (by decide +kernel) (by decide +kernel)
set_option maxRecDepth 20000 in
theorem gX8_word_J0_charAt_5068e : GoodIn wsX8_word (wsV RX8 223 RJ0 yJ0_charAt_5068e wsJ0_charAt_5068e) := goodIn_app (goodIn_of _ (by decide +kernel)) ggX8_word_J0_charAt_5068e
theorem dX8_word_0 : decode cX8_word 0 = .ok (.iload_n 1, 1) := by decide +kernel
theorem dX8_word_1 : decode cX8_word 1 = .ok (.iconst 0, 1) := by decide +kernel
theorem dX8_word_2 : decode cX8_word 2 = .ok (.iconst 4, 1) := by decide +kernel
theorem dX8_word_3 : decode cX8_word 3 = .ok (.invokestatic 73, 3) := by decide +kernel
theorem dX8_word_6 : decode cX8_word 6 = .ok (.ifCond .eq 6, 3) := by decide +kernel
theorem dX8_word_9 : decode cX8_word 9 = .ok (.bipush (-2), 2) := by decide +kernel
theorem dX8_word_11 : decode cX8_word 11 = .ok (.ireturn, 1) := by decide +kernel
theorem dX8_word_12 : decode cX8_word 12 = .ok (.aload_n 0, 1) := by decide +kernel
theorem dX8_word_13 : decode cX8_word 13 = .ok (.getfield 60, 3) := by decide +kernel
theorem dX8_word_16 : decode cX8_word 16 = .ok (.invokestatic 214, 3) := by decide +kernel
theorem dX8_word_19 : decode cX8_word 19 = .ok (.astore_n 2, 1) := by decide +kernel
theorem dX8_word_20 : decode cX8_word 20 = .ok (.iload_n 1, 1) := by decide +kernel
theorem dX8_word_21 : decode cX8_word 21 = .ok (.aload_n 2, 1) := by decide +kernel
theorem dX8_word_22 : decode cX8_word 22 = .ok (.invokevirtual 218, 3) := by decide +kernel
theorem dX8_word_25 : decode cX8_word 25 = .ok (.if_icmp .lt 6, 3) := by decide +kernel
theorem dX8_word_28 : decode cX8_word 28 = .ok (.bipush (-9), 2) := by decide +kernel
theorem dX8_word_30 : decode cX8_word 30 = .ok (.ireturn, 1) := by decide +kernel
theorem dX8_word_31 : decode cX8_word 31 = .ok (.aload_n 2, 1) := by decide +kernel
theorem dX8_word_32 : decode cX8_word 32 = .ok (.iload_n 1, 1) := by decide +kernel
theorem dX8_word_33 : decode cX8_word 33 = .ok (.invokevirtual 223, 3) := by decide +kernel
theorem dX8_word_36 : decode cX8_word 36 = .ok (.ireturn, 1) := by decide +kernel
set_option maxRecDepth 20000 in
theorem ggX8_many_X0_count : GoodIn wsX8_many wsX0_count := goodIn_r _ [9, 10, 74, 75, 76, 77, 78, 79] (by decide +kernel) (by decide +kernel)
set_option maxRecDepth 20000 in
theorem gX8_many_X0_count : GoodIn wsX8_many (wsV RX8 122 RX0 yX0_count wsX0_count) := goodIn_app (goodIn_of _ (by decide +kernel)) ggX8_many_X0_count
set_option maxRecDepth 20000 in
theorem ggX8_many_X4_count : GoodIn wsX8_many wsX4_count := goodIn_r _ [15, 16, 80, 81, 82, 83, 84, 85, 86, 87, 88] (by decide +kernel) (by decide +kernel)
set_option maxRecDepth 20000 in
theorem gX8_many_X4_count : GoodIn wsX8_many (wsV RX8 140 RX4 yX4_count wsX4_count) := goodIn_app (goodIn_of _ (by decide +kernel)) ggX8_many_X4_count
set_option maxRecDepth 20000 in
theorem ggX8_many_X4_playedOfAll : GoodIn wsX8_many wsX4_playedOfAll := goodIn_r _ [20, 16, 21, 22, 23, 14, 24, 25, 26, 27, 28, 29, 30, 31, 80, 81, 82, 83, 84, 85, 86, 87, 88, 89] (by decide +kernel) (by decide +kernel)
set_option maxRecDepth 20000 in
theorem gX8_many_X4_playedOfAll : GoodIn wsX8_many (wsV RX8 227 RX4 yX4_playedOfAll wsX4_playedOfAll) := goodIn_app (goodIn_of _ (by decide +kernel)) ggX8_many_X4_playedOfAll
set_option maxRecDepth 20000 in
theorem ggX8_many_X4_missingOfAll : GoodIn wsX8_many wsX4_missingOfAll := goodIn_r _ [35, 16, 36, 37, 38, 14, 39, 40, 41, 42, 26, 27, 28, 29, 30, 31, 80, 81, 82, 83, 84, 85, 86, 87, 88, 89] (by decide +kernel) (by decide +kernel)
set_option maxRecDepth 20000 in
theorem gX8_many_X4_missingOfAll : GoodIn wsX8_many (wsV RX8 230 RX4 yX4_missingOfAll wsX4_missingOfAll) := goodIn_app (goodIn_of _ (by decide +kernel)) ggX8_many_X4_missingOfAll
set_option maxRecDepth 20000 in
theorem ggX8_many_X0_historySize : GoodIn wsX8_many wsX0_historySize := goodIn_r _ [46, 10, 47, 48, 49, 50, 74, 75, 76, 77, 78, 79] (by decide +kernel) (by decide +kernel)
set_option maxRecDepth 20000 in
theorem gX8_many_X0_historySize : GoodIn wsX8_many (wsV RX8 179 RX0 yX0_historySize wsX0_historySize) := goodIn_app (goodIn_of _ (by decide +kernel)) ggX8_many_X0_historySize
set_option maxRecDepth 20000 in
theorem ggX8_many_X6_size : GoodIn wsX8_many wsX6_size := goodIn_r _ [55, 56, 90, 91] (by decide +kernel) (by decide +kernel)
set_option maxRecDepth 20000 in
theorem gX8_many_X6_size : GoodIn wsX8_many (wsV RX8 77 RX6 yX6_size wsX6_size) := goodIn_app (goodIn_of _ (by decide +kernel)) ggX8_many_X6_size
set_option maxRecDepth 20000 in
theorem ggX8_many_X5_begun : GoodIn wsX8_many wsX5_begun := goodIn_r _ [61, 62, 92, 93, 94] (by decide +kernel) (by decide +kernel)
set_option maxRecDepth 20000 in
theorem gX8_many_X5_begun : GoodIn wsX8_many (wsV RX8 233 RX5 yX5_begun wsX5_begun) := goodIn_app (goodIn_of _ (by decide +kernel)) ggX8_many_X5_begun
theorem dX8_many_0 : decode cX8_many 0 = .ok (.iload_n 1, 1) := by decide +kernel
theorem dX8_many_1 : decode cX8_many 1 = .ok (.tableswitch 119 0 7 #[47, 55, 63, 71, 87, 95, 103, 111], 47) := by decide +kernel
theorem dX8_many_48 : decode cX8_many 48 = .ok (.aload_n 0, 1) := by decide +kernel
theorem dX8_many_49 : decode cX8_many 49 = .ok (.getfield 21, 3) := by decide +kernel
theorem dX8_many_52 : decode cX8_many 52 = .ok (.invokevirtual 122, 3) := by decide +kernel
theorem dX8_many_55 : decode cX8_many 55 = .ok (.ireturn, 1) := by decide +kernel
theorem dX8_many_56 : decode cX8_many 56 = .ok (.aload_n 0, 1) := by decide +kernel
theorem dX8_many_57 : decode cX8_many 57 = .ok (.getfield 28, 3) := by decide +kernel
theorem dX8_many_60 : decode cX8_many 60 = .ok (.invokevirtual 140, 3) := by decide +kernel
theorem dX8_many_63 : decode cX8_many 63 = .ok (.ireturn, 1) := by decide +kernel
theorem dX8_many_64 : decode cX8_many 64 = .ok (.aload_n 0, 1) := by decide +kernel
theorem dX8_many_65 : decode cX8_many 65 = .ok (.getfield 28, 3) := by decide +kernel
theorem dX8_many_68 : decode cX8_many 68 = .ok (.invokevirtual 227, 3) := by decide +kernel
theorem dX8_many_71 : decode cX8_many 71 = .ok (.ireturn, 1) := by decide +kernel
theorem dX8_many_72 : decode cX8_many 72 = .ok (.aload_n 0, 1) := by decide +kernel
theorem dX8_many_73 : decode cX8_many 73 = .ok (.getfield 21, 3) := by decide +kernel
theorem dX8_many_76 : decode cX8_many 76 = .ok (.invokevirtual 122, 3) := by decide +kernel
theorem dX8_many_79 : decode cX8_many 79 = .ok (.aload_n 0, 1) := by decide +kernel
theorem dX8_many_80 : decode cX8_many 80 = .ok (.getfield 28, 3) := by decide +kernel
theorem dX8_many_83 : decode cX8_many 83 = .ok (.invokevirtual 227, 3) := by decide +kernel
theorem dX8_many_86 : decode cX8_many 86 = .ok (.isub, 1) := by decide +kernel
theorem dX8_many_87 : decode cX8_many 87 = .ok (.ireturn, 1) := by decide +kernel
theorem dX8_many_88 : decode cX8_many 88 = .ok (.aload_n 0, 1) := by decide +kernel
theorem dX8_many_89 : decode cX8_many 89 = .ok (.getfield 28, 3) := by decide +kernel
theorem dX8_many_92 : decode cX8_many 92 = .ok (.invokevirtual 230, 3) := by decide +kernel
theorem dX8_many_95 : decode cX8_many 95 = .ok (.ireturn, 1) := by decide +kernel
theorem dX8_many_96 : decode cX8_many 96 = .ok (.aload_n 0, 1) := by decide +kernel
theorem dX8_many_97 : decode cX8_many 97 = .ok (.getfield 21, 3) := by decide +kernel
theorem dX8_many_100 : decode cX8_many 100 = .ok (.invokevirtual 179, 3) := by decide +kernel
theorem dX8_many_103 : decode cX8_many 103 = .ok (.ireturn, 1) := by decide +kernel
theorem dX8_many_104 : decode cX8_many 104 = .ok (.aload_n 0, 1) := by decide +kernel
theorem dX8_many_105 : decode cX8_many 105 = .ok (.getfield 12, 3) := by decide +kernel
theorem dX8_many_108 : decode cX8_many 108 = .ok (.invokevirtual 77, 3) := by decide +kernel
theorem dX8_many_111 : decode cX8_many 111 = .ok (.ireturn, 1) := by decide +kernel
theorem dX8_many_112 : decode cX8_many 112 = .ok (.aload_n 0, 1) := by decide +kernel
theorem dX8_many_113 : decode cX8_many 113 = .ok (.getfield 35, 3) := by decide +kernel
theorem dX8_many_116 : decode cX8_many 116 = .ok (.invokevirtual 233, 3) := by decide +kernel
theorem dX8_many_119 : decode cX8_many 119 = .ok (.ireturn, 1) := by decide +kernel
theorem dX8_many_120 : decode cX8_many 120 = .ok (.bipush (-2), 2) := by decide +kernel
theorem dX8_many_122 : decode cX8_many 122 = .ok (.ireturn, 1) := by decide +kernel
theorem dX8_isOutside_0 : decode cX8_isOutside 0 = .ok (.iload_n 0, 1) := by decide +kernel
theorem dX8_isOutside_1 : decode cX8_isOutside 1 = .ok (.iload_n 1, 1) := by decide +kernel
theorem dX8_isOutside_2 : decode cX8_isOutside 2 = .ok (.if_icmp .lt 8, 3) := by decide +kernel
theorem dX8_isOutside_5 : decode cX8_isOutside 5 = .ok (.iload_n 0, 1) := by decide +kernel
theorem dX8_isOutside_6 : decode cX8_isOutside 6 = .ok (.iload_n 2, 1) := by decide +kernel
theorem dX8_isOutside_7 : decode cX8_isOutside 7 = .ok (.if_icmp .le 7, 3) := by decide +kernel
theorem dX8_isOutside_10 : decode cX8_isOutside 10 = .ok (.iconst 1, 1) := by decide +kernel
theorem dX8_isOutside_11 : decode cX8_isOutside 11 = .ok (.goto 4, 3) := by decide +kernel
theorem dX8_isOutside_14 : decode cX8_isOutside 14 = .ok (.iconst 0, 1) := by decide +kernel
theorem dX8_isOutside_15 : decode cX8_isOutside 15 = .ok (.ireturn, 1) := by decide +kernel
theorem dX8_wordOf_0 : decode cX8_wordOf 0 = .ok (.iload_n 0, 1) := by decide +kernel
theorem dX8_wordOf_1 : decode cX8_wordOf 1 = .ok (.tableswitch 43 1 4 #[31, 34, 37, 40], 31) := by decide +kernel
theorem dX8_wordOf_32 : decode cX8_wordOf 32 = .ok (.ldc 236, 2) := by decide +kernel
theorem dX8_wordOf_34 : decode cX8_wordOf 34 = .ok (.areturn, 1) := by decide +kernel
theorem dX8_wordOf_35 : decode cX8_wordOf 35 = .ok (.ldc 238, 2) := by decide +kernel
theorem dX8_wordOf_37 : decode cX8_wordOf 37 = .ok (.areturn, 1) := by decide +kernel
theorem dX8_wordOf_38 : decode cX8_wordOf 38 = .ok (.ldc 240, 2) := by decide +kernel
theorem dX8_wordOf_40 : decode cX8_wordOf 40 = .ok (.areturn, 1) := by decide +kernel
theorem dX8_wordOf_41 : decode cX8_wordOf 41 = .ok (.ldc 242, 2) := by decide +kernel
theorem dX8_wordOf_43 : decode cX8_wordOf 43 = .ok (.areturn, 1) := by decide +kernel
theorem dX8_wordOf_44 : decode cX8_wordOf 44 = .ok (.ldc 244, 2) := by decide +kernel
theorem dX8_wordOf_46 : decode cX8_wordOf 46 = .ok (.areturn, 1) := by decide +kernel
theorem dX8_leastNumber_0 : decode cX8_leastNumber 0 = .ok (.iload_n 0, 1) := by decide +kernel
theorem dX8_leastNumber_1 : decode cX8_leastNumber 1 = .ok (.ifCond .ne 9, 3) := by decide +kernel
theorem dX8_leastNumber_4 : decode cX8_leastNumber 4 = .ok (.sipush (-500), 3) := by decide +kernel
theorem dX8_leastNumber_7 : decode cX8_leastNumber 7 = .ok (.goto 4, 3) := by decide +kernel
theorem dX8_leastNumber_10 : decode cX8_leastNumber 10 = .ok (.iconst 0, 1) := by decide +kernel
theorem dX8_leastNumber_11 : decode cX8_leastNumber 11 = .ok (.ireturn, 1) := by decide +kernel
theorem dX8_greatestNumber_0 : decode cX8_greatestNumber 0 = .ok (.iload_n 0, 1) := by decide +kernel
theorem dX8_greatestNumber_1 : decode cX8_greatestNumber 1 = .ok (.lookupswitch 34 #[(0, 27), (4, 31)], 27) := by decide +kernel
theorem dX8_greatestNumber_28 : decode cX8_greatestNumber 28 = .ok (.sipush 2000, 3) := by decide +kernel
theorem dX8_greatestNumber_31 : decode cX8_greatestNumber 31 = .ok (.ireturn, 1) := by decide +kernel
theorem dX8_greatestNumber_32 : decode cX8_greatestNumber 32 = .ok (.bipush 8, 2) := by decide +kernel
theorem dX8_greatestNumber_34 : decode cX8_greatestNumber 34 = .ok (.ireturn, 1) := by decide +kernel
theorem dX8_greatestNumber_35 : decode cX8_greatestNumber 35 = .ok (.sipush 256, 3) := by decide +kernel
theorem dX8_greatestNumber_38 : decode cX8_greatestNumber 38 = .ok (.ireturn, 1) := by decide +kernel
set_option maxRecDepth 20000 in
theorem ggX8_mannerOnTape_X8_wordOf : GoodIn wsX8_mannerOnTape wsX8_wordOf := goodIn_r _ [5] (by decide +kernel) (by decide +kernel)
set_option maxRecDepth 20000 in
theorem gX8_mannerOnTape_X8_wordOf : GoodIn wsX8_mannerOnTape (va_wsS RX8 214 yX8_wordOf wsX8_wordOf) := goodIn_app (goodIn_of _ (by decide +kernel)) ggX8_mannerOnTape_X8_wordOf
set_option maxRecDepth 20000 in
theorem ggX8_mannerOnTape_X6_spells : GoodIn wsX8_mannerOnTape wsX6_spells := goodIn_r _ [10, 11, 12, 13, 14, 15, 16, 17, 18, 19, 20, 21, 22, 23, 24, 25, 26, 27, 28, 29, 30, 31, 32, 33, 34, 35, 36, 37, 38, 39, 40, 41, 42, 43, 44, 45, 46, 47, 48, 49, 50, 51, 52, 53, 54, 55, 56, 57, 58, 59, 60, 61, 62, 63, 64, 65, 66, 67, 79, 80, 81] (by decide +kernel) (by decide +kernel)
set_option maxRecDepth 20000 in
theorem gX8_mannerOnTape_X6_spells : GoodIn wsX8_mannerOnTape (wsV RX8 246 RX6 yX6_spells wsX6_spells) := goodIn_app (goodIn_of _ (by decide +kernel)) ggX8_mannerOnTape_X6_spells
theorem dX8_mannerOnTape_0 : decode cX8_mannerOnTape 0 = .ok (.iconst 0, 1) := by decide +kernel
theorem dX8_mannerOnTape_1 : decode cX8_mannerOnTape 1 = .ok (.istore_n 1, 1) := by decide +kernel
theorem dX8_mannerOnTape_2 : decode cX8_mannerOnTape 2 = .ok (.iload_n 1, 1) := by decide +kernel
theorem dX8_mannerOnTape_3 : decode cX8_mannerOnTape 3 = .ok (.iconst 5, 1) := by decide +kernel
theorem dX8_mannerOnTape_4 : decode cX8_mannerOnTape 4 = .ok (.if_icmp .ge 25, 3) := by decide +kernel
theorem dX8_mannerOnTape_7 : decode cX8_mannerOnTape 7 = .ok (.aload_n 0, 1) := by decide +kernel
theorem dX8_mannerOnTape_8 : decode cX8_mannerOnTape 8 = .ok (.getfield 12, 3) := by decide +kernel
theorem dX8_mannerOnTape_11 : decode cX8_mannerOnTape 11 = .ok (.iload_n 1, 1) := by decide +kernel
theorem dX8_mannerOnTape_12 : decode cX8_mannerOnTape 12 = .ok (.invokestatic 214, 3) := by decide +kernel
theorem dX8_mannerOnTape_15 : decode cX8_mannerOnTape 15 = .ok (.invokevirtual 246, 3) := by decide +kernel
theorem dX8_mannerOnTape_18 : decode cX8_mannerOnTape 18 = .ok (.ifCond .eq 5, 3) := by decide +kernel
theorem dX8_mannerOnTape_21 : decode cX8_mannerOnTape 21 = .ok (.iload_n 1, 1) := by decide +kernel
theorem dX8_mannerOnTape_22 : decode cX8_mannerOnTape 22 = .ok (.ireturn, 1) := by decide +kernel
theorem dX8_mannerOnTape_23 : decode cX8_mannerOnTape 23 = .ok (.iinc 1 1, 3) := by decide +kernel
theorem dX8_mannerOnTape_26 : decode cX8_mannerOnTape 26 = .ok (.goto (-24), 3) := by decide +kernel
theorem dX8_mannerOnTape_29 : decode cX8_mannerOnTape 29 = .ok (.iconst (-1), 1) := by decide +kernel
theorem dX8_mannerOnTape_30 : decode cX8_mannerOnTape 30 = .ok (.ireturn, 1) := by decide +kernel
set_option maxRecDepth 20000 in
theorem ggX8_refusalOf_X8_isOutside : GoodIn wsX8_refusalOf wsX8_isOutside := goodIn_r _ [6] (by decide +kernel) (by decide +kernel)
set_option maxRecDepth 20000 in
theorem gX8_refusalOf_X8_isOutside : GoodIn wsX8_refusalOf (va_wsS RX8 73 yX8_isOutside wsX8_isOutside) := goodIn_app (goodIn_of _ (by decide +kernel)) ggX8_refusalOf_X8_isOutside
set_option maxRecDepth 20000 in
theorem ggX8_refusalOf_X0_latestWhen : GoodIn wsX8_refusalOf wsX0_latestWhen := goodIn_r _ [11, 12, 13, 14, 15, 16, 17, 18, 19, 54, 55, 56, 57, 58, 59, 60] (by decide +kernel) (by decide +kernel)
set_option maxRecDepth 20000 in
theorem gX8_refusalOf_X0_latestWhen : GoodIn wsX8_refusalOf (wsV RX8 250 RX0 yX0_latestWhen wsX0_latestWhen) := goodIn_app (goodIn_of _ (by decide +kernel)) ggX8_refusalOf_X0_latestWhen
set_option maxRecDepth 20000 in
theorem ggX8_refusalOf_X0_placeOf : GoodIn wsX8_refusalOf wsX0_placeOf := goodIn_r _ [23, 24, 14, 15, 16, 17, 18, 19, 54, 55, 56, 57, 58, 59, 60] (by decide +kernel) (by decide +kernel)
set_option maxRecDepth 20000 in
theorem gX8_refusalOf_X0_placeOf : GoodIn wsX8_refusalOf (wsV RX8 128 RX0 yX0_placeOf wsX0_placeOf) := goodIn_app (goodIn_of _ (by decide +kernel)) ggX8_refusalOf_X0_placeOf
set_option maxRecDepth 20000 in
theorem ggX8_refusalOf_X4_bar : GoodIn wsX8_refusalOf wsX4_bar := goodIn_r _ [29, 30, 31, 32, 33, 15, 16, 17, 18, 19, 34, 35, 36, 28, 37, 38, 61, 62, 63, 64, 65, 66, 67, 68, 69, 60] (by decide +kernel) (by decide +kernel)
set_option maxRecDepth 20000 in
theorem gX8_refusalOf_X4_bar : GoodIn wsX8_refusalOf (wsV RX8 253 RX4 yX4_bar wsX4_bar) := goodIn_app (goodIn_of _ (by decide +kernel)) ggX8_refusalOf_X4_bar
set_option maxRecDepth 20000 in
theorem ggX8_refusalOf_X0_count : GoodIn wsX8_refusalOf wsX0_count := goodIn_r _ [42, 12, 54, 55, 56, 57, 58, 59] (by decide +kernel) (by decide +kernel)
set_option maxRecDepth 20000 in
theorem gX8_refusalOf_X0_count : GoodIn wsX8_refusalOf (wsV RX8 122 RX0 yX0_count wsX0_count) := goodIn_app (goodIn_of _ (by decide +kernel)) ggX8_refusalOf_X0_count
theorem dX8_refusalOf_0 : decode cX8_refusalOf 0 = .ok (.iload_n 1, 1) := by decide +kernel
theorem dX8_refusalOf_1 : decode cX8_refusalOf 1 = .ok (.iconst 0, 1) := by decide +kernel
theorem dX8_refusalOf_2 : decode cX8_refusalOf 2 = .ok (.sipush 299, 3) := by decide +kernel
theorem dX8_refusalOf_5 : decode cX8_refusalOf 5 = .ok (.invokestatic 73, 3) := by decide +kernel
theorem dX8_refusalOf_8 : decode cX8_refusalOf 8 = .ok (.ifCond .ne 33, 3) := by decide +kernel
theorem dX8_refusalOf_11 : decode cX8_refusalOf 11 = .ok (.iload_n 2, 1) := by decide +kernel
theorem dX8_refusalOf_12 : decode cX8_refusalOf 12 = .ok (.iconst 0, 1) := by decide +kernel
theorem dX8_refusalOf_13 : decode cX8_refusalOf 13 = .ok (.iload_n 1, 1) := by decide +kernel
theorem dX8_refusalOf_14 : decode cX8_refusalOf 14 = .ok (.invokestatic 73, 3) := by decide +kernel
theorem dX8_refusalOf_17 : decode cX8_refusalOf 17 = .ok (.ifCond .ne 24, 3) := by decide +kernel
theorem dX8_refusalOf_20 : decode cX8_refusalOf 20 = .ok (.iload_n 3, 1) := by decide +kernel
theorem dX8_refusalOf_21 : decode cX8_refusalOf 21 = .ok (.iconst 0, 1) := by decide +kernel
theorem dX8_refusalOf_22 : decode cX8_refusalOf 22 = .ok (.iload_n 2, 1) := by decide +kernel
theorem dX8_refusalOf_23 : decode cX8_refusalOf 23 = .ok (.invokestatic 73, 3) := by decide +kernel
theorem dX8_refusalOf_26 : decode cX8_refusalOf 26 = .ok (.ifCond .ne 15, 3) := by decide +kernel
theorem dX8_refusalOf_29 : decode cX8_refusalOf 29 = .ok (.iload 4, 2) := by decide +kernel
theorem dX8_refusalOf_31 : decode cX8_refusalOf 31 = .ok (.iconst 0, 1) := by decide +kernel
theorem dX8_refusalOf_32 : decode cX8_refusalOf 32 = .ok (.sipush 30000, 3) := by decide +kernel
theorem dX8_refusalOf_35 : decode cX8_refusalOf 35 = .ok (.invokestatic 73, 3) := by decide +kernel
theorem dX8_refusalOf_38 : decode cX8_refusalOf 38 = .ok (.ifCond .eq 6, 3) := by decide +kernel
theorem dX8_refusalOf_41 : decode cX8_refusalOf 41 = .ok (.bipush (-2), 2) := by decide +kernel
theorem dX8_refusalOf_43 : decode cX8_refusalOf 43 = .ok (.ireturn, 1) := by decide +kernel
theorem dX8_refusalOf_44 : decode cX8_refusalOf 44 = .ok (.iload 4, 2) := by decide +kernel
theorem dX8_refusalOf_46 : decode cX8_refusalOf 46 = .ok (.aload_n 0, 1) := by decide +kernel
theorem dX8_refusalOf_47 : decode cX8_refusalOf 47 = .ok (.getfield 21, 3) := by decide +kernel
theorem dX8_refusalOf_50 : decode cX8_refusalOf 50 = .ok (.invokevirtual 250, 3) := by decide +kernel
theorem dX8_refusalOf_53 : decode cX8_refusalOf 53 = .ok (.if_icmp .lt 28, 3) := by decide +kernel
theorem dX8_refusalOf_56 : decode cX8_refusalOf 56 = .ok (.aload_n 0, 1) := by decide +kernel
theorem dX8_refusalOf_57 : decode cX8_refusalOf 57 = .ok (.getfield 21, 3) := by decide +kernel
theorem dX8_refusalOf_60 : decode cX8_refusalOf 60 = .ok (.iload_n 1, 1) := by decide +kernel
theorem dX8_refusalOf_61 : decode cX8_refusalOf 61 = .ok (.invokevirtual 128, 3) := by decide +kernel
theorem dX8_refusalOf_64 : decode cX8_refusalOf 64 = .ok (.iconst (-1), 1) := by decide +kernel
theorem dX8_refusalOf_65 : decode cX8_refusalOf 65 = .ok (.if_icmp .ne 16, 3) := by decide +kernel
theorem dX8_refusalOf_68 : decode cX8_refusalOf 68 = .ok (.aload_n 0, 1) := by decide +kernel
theorem dX8_refusalOf_69 : decode cX8_refusalOf 69 = .ok (.getfield 28, 3) := by decide +kernel
theorem dX8_refusalOf_72 : decode cX8_refusalOf 72 = .ok (.iload_n 1, 1) := by decide +kernel
theorem dX8_refusalOf_73 : decode cX8_refusalOf 73 = .ok (.iload_n 2, 1) := by decide +kernel
theorem dX8_refusalOf_74 : decode cX8_refusalOf 74 = .ok (.iload_n 3, 1) := by decide +kernel
theorem dX8_refusalOf_75 : decode cX8_refusalOf 75 = .ok (.invokevirtual 253, 3) := by decide +kernel
theorem dX8_refusalOf_78 : decode cX8_refusalOf 78 = .ok (.ifCond .eq 6, 3) := by decide +kernel
theorem dX8_refusalOf_81 : decode cX8_refusalOf 81 = .ok (.bipush (-3), 2) := by decide +kernel
theorem dX8_refusalOf_83 : decode cX8_refusalOf 83 = .ok (.ireturn, 1) := by decide +kernel
theorem dX8_refusalOf_84 : decode cX8_refusalOf 84 = .ok (.aload_n 0, 1) := by decide +kernel
theorem dX8_refusalOf_85 : decode cX8_refusalOf 85 = .ok (.getfield 21, 3) := by decide +kernel
theorem dX8_refusalOf_88 : decode cX8_refusalOf 88 = .ok (.invokevirtual 122, 3) := by decide +kernel
theorem dX8_refusalOf_91 : decode cX8_refusalOf 91 = .ok (.bipush 120, 2) := by decide +kernel
theorem dX8_refusalOf_93 : decode cX8_refusalOf 93 = .ok (.if_icmp .lt 8, 3) := by decide +kernel
theorem dX8_refusalOf_96 : decode cX8_refusalOf 96 = .ok (.bipush (-4), 2) := by decide +kernel
theorem dX8_refusalOf_98 : decode cX8_refusalOf 98 = .ok (.goto 4, 3) := by decide +kernel
theorem dX8_refusalOf_101 : decode cX8_refusalOf 101 = .ok (.iconst 0, 1) := by decide +kernel
theorem dX8_refusalOf_102 : decode cX8_refusalOf 102 = .ok (.ireturn, 1) := by decide +kernel
set_option maxRecDepth 20000 in
theorem ggX8_wishFor_X7_gather : GoodIn wsX8_wishFor wsX7_gather := goodIn_r _ [11, 12, 13, 14, 15, 16, 17, 18, 19, 20, 21, 22, 23, 24, 25, 26, 27, 28, 29, 30, 31, 32, 33, 34, 35, 36, 37, 38, 39, 40, 41, 42, 43, 150, 151, 152, 153, 154, 155, 156, 157, 158] (by decide +kernel) (by decide +kernel)
set_option maxRecDepth 20000 in
theorem gX8_wishFor_X7_gather : GoodIn wsX8_wishFor (wsV RX8 256 RX7 yX7_gather wsX7_gather) := goodIn_app (goodIn_of _ (by decide +kernel)) ggX8_wishFor_X7_gather
set_option maxRecDepth 20000 in
theorem ggX8_wishFor_X1_fitUnder : GoodIn wsX8_wishFor wsX1_fitUnder := goodIn_r _ [48, 49, 50, 51, 52, 53, 54, 17, 55, 56, 34, 35, 36, 37, 38, 39, 57, 29, 30, 31, 32, 33, 58, 59, 60, 47, 61, 62, 63, 64, 65, 66, 67, 68, 69, 41, 42, 43, 70, 71, 72, 73, 74, 75, 76, 77, 78, 79, 22, 80, 81, 82, 83, 159, 160, 161, 162, 163, 152, 153, 154, 155, 156, 157, 158] (by decide +kernel) (by decide +kernel)
set_option maxRecDepth 20000 in
theorem gX8_wishFor_X1_fitUnder : GoodIn wsX8_wishFor (wsV RX8 188 RX1 yX1_fitUnder wsX1_fitUnder) := goodIn_app (goodIn_of _ (by decide +kernel)) ggX8_wishFor_X1_fitUnder
set_option maxRecDepth 20000 in
theorem ggX8_wishFor_X7_carryAlong : GoodIn wsX8_wishFor wsX7_carryAlong := goodIn_r _ [87, 12, 13, 24, 25, 26, 17, 27, 19, 88, 89, 90, 91, 33, 34, 35, 36, 37, 38, 39, 92, 93, 94, 47, 95, 51, 50, 96, 97, 98, 99, 100, 101, 102, 103, 104, 105, 41, 42, 43, 150, 151, 152, 153, 154, 155, 156, 157, 158, 159, 160, 161, 162, 163] (by decide +kernel) (by decide +kernel)
set_option maxRecDepth 20000 in
theorem gX8_wishFor_X7_carryAlong : GoodIn wsX8_wishFor (wsV RX8 259 RX7 yX7_carryAlong wsX7_carryAlong) := goodIn_app (goodIn_of _ (by decide +kernel)) ggX8_wishFor_X7_carryAlong
set_option maxRecDepth 20000 in
theorem ggX8_wishFor_X5_isOn : GoodIn wsX8_wishFor wsX5_isOn := goodIn_r _ [110, 111, 164, 165, 166] (by decide +kernel) (by decide +kernel)
set_option maxRecDepth 20000 in
theorem gX8_wishFor_X5_isOn : GoodIn wsX8_wishFor (wsV RX8 171 RX5 yX5_isOn wsX5_isOn) := goodIn_app (goodIn_of _ (by decide +kernel)) ggX8_wishFor_X5_isOn
set_option maxRecDepth 20000 in
theorem ggX8_wishFor_X7_greatestOfLastThree : GoodIn wsX8_wishFor wsX7_greatestOfLastThree := goodIn_r _ [115, 12, 116, 21, 22, 23, 117, 118, 119, 10, 120, 13, 121, 122, 123, 124, 35, 36, 37, 38, 39, 150, 151, 158] (by decide +kernel) (by decide +kernel)
set_option maxRecDepth 20000 in
theorem gX8_wishFor_X7_greatestOfLastThree : GoodIn wsX8_wishFor (wsV RX8 263 RX7 yX7_greatestOfLastThree wsX7_greatestOfLastThree) := goodIn_app (goodIn_of _ (by decide +kernel)) ggX8_wishFor_X7_greatestOfLastThree
set_option maxRecDepth 20000 in
theorem ggX8_wishFor_X7_byShare : GoodIn wsX8_wishFor wsX7_byShare := goodIn_r _ [128, 12, 13, 117, 118, 119, 10, 120, 121, 122, 22, 123, 124, 35, 36, 37, 38, 39, 129, 130, 131, 132, 150, 151, 158] (by decide +kernel) (by decide +kernel)
set_option maxRecDepth 20000 in
theorem gX8_wishFor_X7_byShare : GoodIn wsX8_wishFor (wsV RX8 266 RX7 yX7_byShare wsX7_byShare) := goodIn_app (goodIn_of _ (by decide +kernel)) ggX8_wishFor_X7_byShare
set_option maxRecDepth 20000 in
theorem ggX8_wishFor_X7_byMean : GoodIn wsX8_wishFor wsX7_byMean := goodIn_r _ [136, 12, 13, 137, 79, 22, 80, 124, 35, 36, 37, 38, 39, 138, 97, 98, 99, 150, 151, 158] (by decide +kernel) (by decide +kernel)
set_option maxRecDepth 20000 in
theorem gX8_wishFor_X7_byMean : GoodIn wsX8_wishFor (wsV RX8 269 RX7 yX7_byMean wsX7_byMean) := goodIn_app (goodIn_of _ (by decide +kernel)) ggX8_wishFor_X7_byMean
theorem dX8_wishFor_0 : decode cX8_wishFor 0 = .ok (.aload_n 0, 1) := by decide +kernel
theorem dX8_wishFor_1 : decode cX8_wishFor 1 = .ok (.getfield 49, 3) := by decide +kernel
theorem dX8_wishFor_4 : decode cX8_wishFor 4 = .ok (.aload_n 0, 1) := by decide +kernel
theorem dX8_wishFor_5 : decode cX8_wishFor 5 = .ok (.getfield 21, 3) := by decide +kernel
theorem dX8_wishFor_8 : decode cX8_wishFor 8 = .ok (.invokevirtual 256, 3) := by decide +kernel
theorem dX8_wishFor_11 : decode cX8_wishFor 11 = .ok (.aload_n 0, 1) := by decide +kernel
theorem dX8_wishFor_12 : decode cX8_wishFor 12 = .ok (.getfield 60, 3) := by decide +kernel
theorem dX8_wishFor_15 : decode cX8_wishFor 15 = .ok (.iconst 3, 1) := by decide +kernel
theorem dX8_wishFor_16 : decode cX8_wishFor 16 = .ok (.if_icmp .ne 30, 3) := by decide +kernel
theorem dX8_wishFor_19 : decode cX8_wishFor 19 = .ok (.aload_n 0, 1) := by decide +kernel
theorem dX8_wishFor_20 : decode cX8_wishFor 20 = .ok (.getfield 42, 3) := by decide +kernel
theorem dX8_wishFor_23 : decode cX8_wishFor 23 = .ok (.aload_n 0, 1) := by decide +kernel
theorem dX8_wishFor_24 : decode cX8_wishFor 24 = .ok (.getfield 21, 3) := by decide +kernel
theorem dX8_wishFor_27 : decode cX8_wishFor 27 = .ok (.invokevirtual 188, 3) := by decide +kernel
theorem dX8_wishFor_30 : decode cX8_wishFor 30 = .ok (.aload_n 0, 1) := by decide +kernel
theorem dX8_wishFor_31 : decode cX8_wishFor 31 = .ok (.getfield 49, 3) := by decide +kernel
theorem dX8_wishFor_34 : decode cX8_wishFor 34 = .ok (.aload_n 0, 1) := by decide +kernel
theorem dX8_wishFor_35 : decode cX8_wishFor 35 = .ok (.getfield 42, 3) := by decide +kernel
theorem dX8_wishFor_38 : decode cX8_wishFor 38 = .ok (.aload_n 0, 1) := by decide +kernel
theorem dX8_wishFor_39 : decode cX8_wishFor 39 = .ok (.getfield 21, 3) := by decide +kernel
theorem dX8_wishFor_42 : decode cX8_wishFor 42 = .ok (.iload_n 1, 1) := by decide +kernel
theorem dX8_wishFor_43 : decode cX8_wishFor 43 = .ok (.invokevirtual 259, 3) := by decide +kernel
theorem dX8_wishFor_46 : decode cX8_wishFor 46 = .ok (.aload_n 0, 1) := by decide +kernel
theorem dX8_wishFor_47 : decode cX8_wishFor 47 = .ok (.getfield 60, 3) := by decide +kernel
theorem dX8_wishFor_50 : decode cX8_wishFor 50 = .ok (.tableswitch 83 0 4 #[34, 83, 39, 83, 71], 34) := by decide +kernel
theorem dX8_wishFor_84 : decode cX8_wishFor 84 = .ok (.aload_n 0, 1) := by decide +kernel
theorem dX8_wishFor_85 : decode cX8_wishFor 85 = .ok (.getfield 64, 3) := by decide +kernel
theorem dX8_wishFor_88 : decode cX8_wishFor 88 = .ok (.ireturn, 1) := by decide +kernel
theorem dX8_wishFor_89 : decode cX8_wishFor 89 = .ok (.aload_n 0, 1) := by decide +kernel
theorem dX8_wishFor_90 : decode cX8_wishFor 90 = .ok (.getfield 35, 3) := by decide +kernel
theorem dX8_wishFor_93 : decode cX8_wishFor 93 = .ok (.invokevirtual 171, 3) := by decide +kernel
theorem dX8_wishFor_96 : decode cX8_wishFor 96 = .ok (.ifCond .eq 13, 3) := by decide +kernel
theorem dX8_wishFor_99 : decode cX8_wishFor 99 = .ok (.aload_n 0, 1) := by decide +kernel
theorem dX8_wishFor_100 : decode cX8_wishFor 100 = .ok (.getfield 49, 3) := by decide +kernel
theorem dX8_wishFor_103 : decode cX8_wishFor 103 = .ok (.invokevirtual 263, 3) := by decide +kernel
theorem dX8_wishFor_106 : decode cX8_wishFor 106 = .ok (.goto 14, 3) := by decide +kernel
theorem dX8_wishFor_109 : decode cX8_wishFor 109 = .ok (.aload_n 0, 1) := by decide +kernel
theorem dX8_wishFor_110 : decode cX8_wishFor 110 = .ok (.getfield 49, 3) := by decide +kernel
theorem dX8_wishFor_113 : decode cX8_wishFor 113 = .ok (.aload_n 0, 1) := by decide +kernel
theorem dX8_wishFor_114 : decode cX8_wishFor 114 = .ok (.getfield 64, 3) := by decide +kernel
theorem dX8_wishFor_117 : decode cX8_wishFor 117 = .ok (.invokevirtual 266, 3) := by decide +kernel
theorem dX8_wishFor_120 : decode cX8_wishFor 120 = .ok (.ireturn, 1) := by decide +kernel
theorem dX8_wishFor_121 : decode cX8_wishFor 121 = .ok (.aload_n 0, 1) := by decide +kernel
theorem dX8_wishFor_122 : decode cX8_wishFor 122 = .ok (.getfield 49, 3) := by decide +kernel
theorem dX8_wishFor_125 : decode cX8_wishFor 125 = .ok (.aload_n 0, 1) := by decide +kernel
theorem dX8_wishFor_126 : decode cX8_wishFor 126 = .ok (.getfield 64, 3) := by decide +kernel
theorem dX8_wishFor_129 : decode cX8_wishFor 129 = .ok (.invokevirtual 269, 3) := by decide +kernel
theorem dX8_wishFor_132 : decode cX8_wishFor 132 = .ok (.ireturn, 1) := by decide +kernel
theorem dX8_wishFor_133 : decode cX8_wishFor 133 = .ok (.aload_n 0, 1) := by decide +kernel
theorem dX8_wishFor_134 : decode cX8_wishFor 134 = .ok (.getfield 49, 3) := by decide +kernel
theorem dX8_wishFor_137 : decode cX8_wishFor 137 = .ok (.aload_n 0, 1) := by decide +kernel
theorem dX8_wishFor_138 : decode cX8_wishFor 138 = .ok (.getfield 64, 3) := by decide +kernel
theorem dX8_wishFor_141 : decode cX8_wishFor 141 = .ok (.invokevirtual 266, 3) := by decide +kernel
theorem dX8_wishFor_144 : decode cX8_wishFor 144 = .ok (.ireturn, 1) := by decide +kernel
set_option maxRecDepth 20000 in
theorem ggX8_openSpurt_X8_wishFor : GoodIn wsX8_openSpurt wsX8_wishFor := goodIn_r _ [8, 9, 10, 3, 11, 12, 13, 14, 15, 16, 17, 18, 19, 20, 21, 22, 23, 24, 25, 26, 27, 28, 29, 30, 31, 32, 33, 34, 35, 36, 37, 38, 39, 40, 41, 42, 43, 44, 45, 46, 47, 48, 49, 50, 51, 52, 53, 54, 55, 56, 57, 58, 59, 60, 61, 62, 63, 64, 65, 66, 67, 68, 69, 70, 71, 72, 73, 74, 75, 76, 77, 78, 79, 80, 81, 82, 83, 84, 85, 86, 87, 88, 89, 90, 91, 92, 93, 94, 95, 96, 97, 98, 99, 100, 101, 102, 103, 104, 105, 106, 107, 108, 109, 110, 111, 112, 113, 114, 115, 116, 117, 118, 119, 120, 121, 122, 123, 124, 125, 126, 127, 128, 129, 130, 131, 132, 133, 134, 135, 136, 137, 138, 139, 140, 141, 142, 143, 144, 145, 172, 173, 174, 175, 176, 177, 178, 179, 180, 181, 182, 183, 184, 185, 186, 187, 188, 189, 190, 191, 192, 193, 194, 195, 196, 197, 198, 199] (by decide +kernel) (by decide +kernel)
set_option maxRecDepth 20000 in
theorem gX8_openSpurt_X8_wishFor : GoodIn wsX8_openSpurt (wsV RX8 168 RX8 yX8_wishFor wsX8_wishFor) := goodIn_app (goodIn_of _ (by decide +kernel)) ggX8_openSpurt_X8_wishFor
set_option maxRecDepth 20000 in
theorem ggX8_openSpurt_X4_timeInTurn : GoodIn wsX8_openSpurt wsX4_timeInTurn := goodIn_r _ [150, 151, 152, 153, 129, 29, 130, 154, 155, 156, 28, 30, 157, 158, 159, 149, 160, 161, 162, 42, 43, 44, 45, 46, 200, 201, 202, 203, 204, 205, 206, 207, 208, 191] (by decide +kernel) (by decide +kernel)
set_option maxRecDepth 20000 in
theorem gX8_openSpurt_X4_timeInTurn : GoodIn wsX8_openSpurt (wsV RX8 272 RX4 yX4_timeInTurn wsX4_timeInTurn) := goodIn_app (goodIn_of _ (by decide +kernel)) ggX8_openSpurt_X4_timeInTurn
set_option maxRecDepth 20000 in
theorem ggX8_openSpurt_X4_add : GoodIn wsX8_openSpurt wsX4_add := goodIn_r _ [166, 154, 151, 161, 155, 152, 167, 168, 169, 170, 157, 158, 159, 149, 160, 162, 42, 43, 44, 45, 46, 171, 48, 49, 50, 200, 201, 202, 203, 204, 205, 206, 207, 208, 191] (by decide +kernel) (by decide +kernel)
set_option maxRecDepth 20000 in
theorem gX8_openSpurt_X4_add : GoodIn wsX8_openSpurt (wsV RX8 276 RX4 yX4_add wsX4_add) := goodIn_app (goodIn_of _ (by decide +kernel)) ggX8_openSpurt_X4_add
theorem dX8_openSpurt_0 : decode cX8_openSpurt 0 = .ok (.aload_n 0, 1) := by decide +kernel
theorem dX8_openSpurt_1 : decode cX8_openSpurt 1 = .ok (.getfield 28, 3) := by decide +kernel
theorem dX8_openSpurt_4 : decode cX8_openSpurt 4 = .ok (.iload_n 1, 1) := by decide +kernel
theorem dX8_openSpurt_5 : decode cX8_openSpurt 5 = .ok (.iload_n 2, 1) := by decide +kernel
theorem dX8_openSpurt_6 : decode cX8_openSpurt 6 = .ok (.aload_n 0, 1) := by decide +kernel
theorem dX8_openSpurt_7 : decode cX8_openSpurt 7 = .ok (.iload_n 1, 1) := by decide +kernel
theorem dX8_openSpurt_8 : decode cX8_openSpurt 8 = .ok (.invokevirtual 168, 3) := by decide +kernel
theorem dX8_openSpurt_11 : decode cX8_openSpurt 11 = .ok (.aload_n 0, 1) := by decide +kernel
theorem dX8_openSpurt_12 : decode cX8_openSpurt 12 = .ok (.getfield 67, 3) := by decide +kernel
theorem dX8_openSpurt_15 : decode cX8_openSpurt 15 = .ok (.iadd, 1) := by decide +kernel
theorem dX8_openSpurt_16 : decode cX8_openSpurt 16 = .ok (.invokevirtual 272, 3) := by decide +kernel
theorem dX8_openSpurt_19 : decode cX8_openSpurt 19 = .ok (.istore_n 3, 1) := by decide +kernel
theorem dX8_openSpurt_20 : decode cX8_openSpurt 20 = .ok (.aload_n 0, 1) := by decide +kernel
theorem dX8_openSpurt_21 : decode cX8_openSpurt 21 = .ok (.getfield 28, 3) := by decide +kernel
theorem dX8_openSpurt_24 : decode cX8_openSpurt 24 = .ok (.iload_n 1, 1) := by decide +kernel
theorem dX8_openSpurt_25 : decode cX8_openSpurt 25 = .ok (.iload_n 2, 1) := by decide +kernel
theorem dX8_openSpurt_26 : decode cX8_openSpurt 26 = .ok (.iload_n 3, 1) := by decide +kernel
theorem dX8_openSpurt_27 : decode cX8_openSpurt 27 = .ok (.aload_n 0, 1) := by decide +kernel
theorem dX8_openSpurt_28 : decode cX8_openSpurt 28 = .ok (.getfield 60, 3) := by decide +kernel
theorem dX8_openSpurt_31 : decode cX8_openSpurt 31 = .ok (.invokevirtual 276, 3) := by decide +kernel
theorem dX8_openSpurt_34 : decode cX8_openSpurt 34 = .ok (.ireturn, 1) := by decide +kernel
set_option maxRecDepth 20000 in
theorem ggX8_settle_X4_timeOf : GoodIn wsX8_settle wsX4_timeOf := goodIn_r _ [7, 8, 9, 10, 11, 12, 13, 14, 55, 56, 57, 58, 59, 60, 61, 62, 63, 64] (by decide +kernel) (by decide +kernel)
set_option maxRecDepth 20000 in
theorem gX8_settle_X4_timeOf : GoodIn wsX8_settle (wsV RX8 147 RX4 yX4_timeOf wsX4_timeOf) := goodIn_app (goodIn_of _ (by decide +kernel)) ggX8_settle_X4_timeOf
set_option maxRecDepth 20000 in
theorem ggX8_settle_X0_settle : GoodIn wsX8_settle wsX0_settle := goodIn_r _ [19, 20, 21, 22, 23, 24, 12, 25, 14, 65, 66, 67, 68, 69, 70, 64] (by decide +kernel) (by decide +kernel)
set_option maxRecDepth 20000 in
theorem gX8_settle_X0_settle : GoodIn wsX8_settle (wsV RX8 278 RX0 yX0_settle wsX0_settle) := goodIn_app (goodIn_of _ (by decide +kernel)) ggX8_settle_X0_settle
set_option maxRecDepth 20000 in
theorem ggX8_settle_X4_countFrame : GoodIn wsX8_settle wsX4_countFrame := goodIn_r _ [29, 30, 31, 32, 33, 34, 35, 36, 37, 38, 39, 12, 40, 41, 10, 11, 13, 14, 42, 23, 24, 25, 9, 43, 55, 56, 57, 58, 59, 60, 61, 62, 63, 64] (by decide +kernel) (by decide +kernel)
set_option maxRecDepth 20000 in
theorem gX8_settle_X4_countFrame : GoodIn wsX8_settle (wsV RX8 280 RX4 yX4_countFrame wsX4_countFrame) := goodIn_app (goodIn_of _ (by decide +kernel)) ggX8_settle_X4_countFrame
theorem dX8_settle_0 : decode cX8_settle 0 = .ok (.bipush 20, 2) := by decide +kernel
theorem dX8_settle_2 : decode cX8_settle 2 = .ok (.iload_n 2, 1) := by decide +kernel
theorem dX8_settle_3 : decode cX8_settle 3 = .ok (.imul, 1) := by decide +kernel
theorem dX8_settle_4 : decode cX8_settle 4 = .ok (.aload_n 0, 1) := by decide +kernel
theorem dX8_settle_5 : decode cX8_settle 5 = .ok (.getfield 28, 3) := by decide +kernel
theorem dX8_settle_8 : decode cX8_settle 8 = .ok (.iload 4, 2) := by decide +kernel
theorem dX8_settle_10 : decode cX8_settle 10 = .ok (.invokevirtual 147, 3) := by decide +kernel
theorem dX8_settle_13 : decode cX8_settle 13 = .ok (.iadd, 1) := by decide +kernel
theorem dX8_settle_14 : decode cX8_settle 14 = .ok (.istore 5, 2) := by decide +kernel
theorem dX8_settle_16 : decode cX8_settle 16 = .ok (.iload_n 3, 1) := by decide +kernel
theorem dX8_settle_17 : decode cX8_settle 17 = .ok (.iload 5, 2) := by decide +kernel
theorem dX8_settle_19 : decode cX8_settle 19 = .ok (.if_icmp .gt 7, 3) := by decide +kernel
theorem dX8_settle_22 : decode cX8_settle 22 = .ok (.iconst 1, 1) := by decide +kernel
theorem dX8_settle_23 : decode cX8_settle 23 = .ok (.goto 4, 3) := by decide +kernel
theorem dX8_settle_26 : decode cX8_settle 26 = .ok (.iconst 0, 1) := by decide +kernel
theorem dX8_settle_27 : decode cX8_settle 27 = .ok (.istore 6, 2) := by decide +kernel
theorem dX8_settle_29 : decode cX8_settle 29 = .ok (.aload_n 0, 1) := by decide +kernel
theorem dX8_settle_30 : decode cX8_settle 30 = .ok (.getfield 21, 3) := by decide +kernel
theorem dX8_settle_33 : decode cX8_settle 33 = .ok (.iload_n 1, 1) := by decide +kernel
theorem dX8_settle_34 : decode cX8_settle 34 = .ok (.iload 4, 2) := by decide +kernel
theorem dX8_settle_36 : decode cX8_settle 36 = .ok (.iload 6, 2) := by decide +kernel
theorem dX8_settle_38 : decode cX8_settle 38 = .ok (.ifCond .eq 8, 3) := by decide +kernel
theorem dX8_settle_41 : decode cX8_settle 41 = .ok (.iload 5, 2) := by decide +kernel
theorem dX8_settle_43 : decode cX8_settle 43 = .ok (.goto 5, 3) := by decide +kernel
theorem dX8_settle_46 : decode cX8_settle 46 = .ok (.bipush (-9), 2) := by decide +kernel
theorem dX8_settle_48 : decode cX8_settle 48 = .ok (.invokevirtual 278, 3) := by decide +kernel
theorem dX8_settle_51 : decode cX8_settle 51 = .ok (.aload_n 0, 1) := by decide +kernel
theorem dX8_settle_52 : decode cX8_settle 52 = .ok (.getfield 28, 3) := by decide +kernel
theorem dX8_settle_55 : decode cX8_settle 55 = .ok (.iload 4, 2) := by decide +kernel
theorem dX8_settle_57 : decode cX8_settle 57 = .ok (.iload_n 2, 1) := by decide +kernel
theorem dX8_settle_58 : decode cX8_settle 58 = .ok (.iload 6, 2) := by decide +kernel
theorem dX8_settle_60 : decode cX8_settle 60 = .ok (.invokevirtual 280, 3) := by decide +kernel
theorem dX8_settle_63 : decode cX8_settle 63 = .ok (.return_, 1) := by decide +kernel
set_option maxRecDepth 20000 in
theorem ggX8_writeOpening_X3_clear : GoodIn wsX8_writeOpening wsX3_clear := goodIn_r _ [7, 8, 114, 115] (by decide +kernel) (by decide +kernel)
set_option maxRecDepth 20000 in
theorem gX8_writeOpening_X3_clear : GoodIn wsX8_writeOpening (wsV RX8 284 RX3 yX3_clear wsX3_clear) := goodIn_app (goodIn_of _ (by decide +kernel)) ggX8_writeOpening_X3_clear
set_option maxRecDepth 20000 in
theorem ggX8_writeOpening_X3_put : GoodIn wsX8_writeOpening wsX3_put := goodIn_r _ [12, 8, 13, 14, 15, 16, 17, 18, 19, 114, 115, 116] (by decide +kernel) (by decide +kernel)
set_option maxRecDepth 20000 in
theorem gX8_writeOpening_X3_put : GoodIn wsX8_writeOpening (wsV RX8 285 RX3 yX3_put wsX3_put) := goodIn_app (goodIn_of _ (by decide +kernel)) ggX8_writeOpening_X3_put
set_option maxRecDepth 20000 in
theorem ggX8_writeOpening_X4_headOf : GoodIn wsX8_writeOpening wsX4_headOf := goodIn_r _ [24, 25, 26, 27, 28, 17, 29, 19, 117, 118, 119, 120, 121, 122, 123, 124, 125, 116] (by decide +kernel) (by decide +kernel)
set_option maxRecDepth 20000 in
theorem gX8_writeOpening_X4_headOf : GoodIn wsX8_writeOpening (wsV RX8 141 RX4 yX4_headOf wsX4_headOf) := goodIn_app (goodIn_of _ (by decide +kernel)) ggX8_writeOpening_X4_headOf
set_option maxRecDepth 20000 in
theorem ggX8_writeOpening_X3_putNumber : GoodIn wsX8_writeOpening wsX3_putNumber := goodIn_r _ [33, 34, 35, 10, 11, 6, 12, 8, 13, 14, 15, 16, 17, 18, 19, 114, 115, 116] (by decide +kernel) (by decide +kernel)
set_option maxRecDepth 20000 in
theorem gX8_writeOpening_X3_putNumber : GoodIn wsX8_writeOpening (wsV RX8 288 RX3 yX3_putNumber wsX3_putNumber) := goodIn_app (goodIn_of _ (by decide +kernel)) ggX8_writeOpening_X3_putNumber
set_option maxRecDepth 20000 in
theorem ggX8_writeOpening_X4_mannerOf : GoodIn wsX8_writeOpening wsX4_mannerOf := goodIn_r _ [39, 40, 26, 27, 28, 17, 29, 19, 117, 118, 119, 120, 121, 122, 123, 124, 125, 116] (by decide +kernel) (by decide +kernel)
set_option maxRecDepth 20000 in
theorem gX8_writeOpening_X4_mannerOf : GoodIn wsX8_writeOpening (wsV RX8 162 RX4 yX4_mannerOf wsX4_mannerOf) := goodIn_app (goodIn_of _ (by decide +kernel)) ggX8_writeOpening_X4_mannerOf
set_option maxRecDepth 20000 in
theorem ggX8_writeOpening_X8_wordOf : GoodIn wsX8_writeOpening wsX8_wordOf := goodIn_r _ [44] (by decide +kernel) (by decide +kernel)
set_option maxRecDepth 20000 in
theorem gX8_writeOpening_X8_wordOf : GoodIn wsX8_writeOpening (va_wsS RX8 214 yX8_wordOf wsX8_wordOf) := goodIn_app (goodIn_of _ (by decide +kernel)) ggX8_writeOpening_X8_wordOf
set_option maxRecDepth 20000 in
theorem ggX8_writeOpening_X3_putWord : GoodIn wsX8_writeOpening wsX3_putWord := goodIn_r _ [48, 49, 50, 51, 52, 53, 54, 55, 56, 57, 58, 59, 60, 61, 62, 63, 64, 65, 66, 67, 68, 69, 70, 71, 72, 73, 74, 75, 76, 77, 78, 79, 80, 81, 82, 83, 84, 85, 86, 87, 88, 89, 90, 91, 92, 93, 94, 95, 96, 97, 35, 10, 11, 6, 12, 8, 13, 14, 15, 16, 17, 18, 19, 114, 115, 116] (by decide +kernel) (by decide +kernel)
set_option maxRecDepth 20000 in
theorem gX8_writeOpening_X3_putWord : GoodIn wsX8_writeOpening (wsV RX8 291 RX3 yX3_putWord wsX3_putWord) := goodIn_app (goodIn_of _ (by decide +kernel)) ggX8_writeOpening_X3_putWord
set_option maxRecDepth 20000 in
theorem ggX8_writeOpening_X4_timeOf : GoodIn wsX8_writeOpening wsX4_timeOf := goodIn_r _ [101, 102, 26, 27, 28, 17, 29, 19, 117, 118, 119, 120, 121, 122, 123, 124, 125, 116] (by decide +kernel) (by decide +kernel)
set_option maxRecDepth 20000 in
theorem gX8_writeOpening_X4_timeOf : GoodIn wsX8_writeOpening (wsV RX8 147 RX4 yX4_timeOf wsX4_timeOf) := goodIn_app (goodIn_of _ (by decide +kernel)) ggX8_writeOpening_X4_timeOf
theorem dX8_writeOpening_0 : decode cX8_writeOpening 0 = .ok (.aload_n 0, 1) := by decide +kernel
theorem dX8_writeOpening_1 : decode cX8_writeOpening 1 = .ok (.getfield 56, 3) := by decide +kernel
theorem dX8_writeOpening_4 : decode cX8_writeOpening 4 = .ok (.invokevirtual 284, 3) := by decide +kernel
theorem dX8_writeOpening_7 : decode cX8_writeOpening 7 = .ok (.aload_n 0, 1) := by decide +kernel
theorem dX8_writeOpening_8 : decode cX8_writeOpening 8 = .ok (.getfield 56, 3) := by decide +kernel
theorem dX8_writeOpening_11 : decode cX8_writeOpening 11 = .ok (.bipush 83, 2) := by decide +kernel
theorem dX8_writeOpening_13 : decode cX8_writeOpening 13 = .ok (.invokevirtual 285, 3) := by decide +kernel
theorem dX8_writeOpening_16 : decode cX8_writeOpening 16 = .ok (.aload_n 0, 1) := by decide +kernel
theorem dX8_writeOpening_17 : decode cX8_writeOpening 17 = .ok (.getfield 56, 3) := by decide +kernel
theorem dX8_writeOpening_20 : decode cX8_writeOpening 20 = .ok (.aload_n 0, 1) := by decide +kernel
theorem dX8_writeOpening_21 : decode cX8_writeOpening 21 = .ok (.getfield 28, 3) := by decide +kernel
theorem dX8_writeOpening_24 : decode cX8_writeOpening 24 = .ok (.iload_n 1, 1) := by decide +kernel
theorem dX8_writeOpening_25 : decode cX8_writeOpening 25 = .ok (.invokevirtual 141, 3) := by decide +kernel
theorem dX8_writeOpening_28 : decode cX8_writeOpening 28 = .ok (.invokevirtual 288, 3) := by decide +kernel
theorem dX8_writeOpening_31 : decode cX8_writeOpening 31 = .ok (.aload_n 0, 1) := by decide +kernel
theorem dX8_writeOpening_32 : decode cX8_writeOpening 32 = .ok (.getfield 56, 3) := by decide +kernel
theorem dX8_writeOpening_35 : decode cX8_writeOpening 35 = .ok (.bipush 32, 2) := by decide +kernel
theorem dX8_writeOpening_37 : decode cX8_writeOpening 37 = .ok (.invokevirtual 285, 3) := by decide +kernel
theorem dX8_writeOpening_40 : decode cX8_writeOpening 40 = .ok (.aload_n 0, 1) := by decide +kernel
theorem dX8_writeOpening_41 : decode cX8_writeOpening 41 = .ok (.getfield 56, 3) := by decide +kernel
theorem dX8_writeOpening_44 : decode cX8_writeOpening 44 = .ok (.aload_n 0, 1) := by decide +kernel
theorem dX8_writeOpening_45 : decode cX8_writeOpening 45 = .ok (.getfield 28, 3) := by decide +kernel
theorem dX8_writeOpening_48 : decode cX8_writeOpening 48 = .ok (.iload_n 1, 1) := by decide +kernel
theorem dX8_writeOpening_49 : decode cX8_writeOpening 49 = .ok (.invokevirtual 162, 3) := by decide +kernel
theorem dX8_writeOpening_52 : decode cX8_writeOpening 52 = .ok (.invokestatic 214, 3) := by decide +kernel
theorem dX8_writeOpening_55 : decode cX8_writeOpening 55 = .ok (.invokevirtual 291, 3) := by decide +kernel
theorem dX8_writeOpening_58 : decode cX8_writeOpening 58 = .ok (.aload_n 0, 1) := by decide +kernel
theorem dX8_writeOpening_59 : decode cX8_writeOpening 59 = .ok (.getfield 56, 3) := by decide +kernel
theorem dX8_writeOpening_62 : decode cX8_writeOpening 62 = .ok (.bipush 32, 2) := by decide +kernel
theorem dX8_writeOpening_64 : decode cX8_writeOpening 64 = .ok (.invokevirtual 285, 3) := by decide +kernel
theorem dX8_writeOpening_67 : decode cX8_writeOpening 67 = .ok (.aload_n 0, 1) := by decide +kernel
theorem dX8_writeOpening_68 : decode cX8_writeOpening 68 = .ok (.getfield 56, 3) := by decide +kernel
theorem dX8_writeOpening_71 : decode cX8_writeOpening 71 = .ok (.bipush 80, 2) := by decide +kernel
theorem dX8_writeOpening_73 : decode cX8_writeOpening 73 = .ok (.invokevirtual 285, 3) := by decide +kernel
theorem dX8_writeOpening_76 : decode cX8_writeOpening 76 = .ok (.aload_n 0, 1) := by decide +kernel
theorem dX8_writeOpening_77 : decode cX8_writeOpening 77 = .ok (.getfield 56, 3) := by decide +kernel
theorem dX8_writeOpening_80 : decode cX8_writeOpening 80 = .ok (.aload_n 0, 1) := by decide +kernel
theorem dX8_writeOpening_81 : decode cX8_writeOpening 81 = .ok (.getfield 28, 3) := by decide +kernel
theorem dX8_writeOpening_84 : decode cX8_writeOpening 84 = .ok (.iload_n 1, 1) := by decide +kernel
theorem dX8_writeOpening_85 : decode cX8_writeOpening 85 = .ok (.invokevirtual 147, 3) := by decide +kernel
theorem dX8_writeOpening_88 : decode cX8_writeOpening 88 = .ok (.invokevirtual 288, 3) := by decide +kernel
