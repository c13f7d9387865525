set_option maxRecDepth 20000 in
theorem ggX0_init_X2_init : GoodIn wsX0_init wsX2_init := goodIn_r _ [14, 15, 2, 3, 16, 17, 18, 19, 20, 21, 22] (by decide +kernel) (by decide +kernel)
set_option maxRecDepth 20000 in
theorem gX0_init_X2_init : GoodIn wsX0_init (wsX2_init) := ggX0_init_X2_init
theorem dX0_init_0 : decode cX0_init 0 = .ok (.aload_n 0, 1) := by decide +kernel
theorem dX0_init_1 : decode cX0_init 1 = .ok (.invokespecial 3, 3) := by decide +kernel
theorem dX0_init_4 : decode cX0_init 4 = .ok (.aload_n 0, 1) := by decide +kernel
theorem dX0_init_5 : decode cX0_init 5 = .ok (.new 9, 3) := by decide +kernel
theorem dX0_init_8 : decode cX0_init 8 = .ok (.dup, 1) := by decide +kernel
theorem dX0_init_9 : decode cX0_init 9 = .ok (.sipush 300, 3) := by decide +kernel
theorem dX0_init_12 : decode cX0_init 12 = .ok (.invokespecial 11, 3) := by decide +kernel
theorem dX0_init_15 : decode cX0_init 15 = .ok (.putfield 14, 3) := by decide +kernel
theorem dX0_init_18 : decode cX0_init 18 = .ok (.aload_n 0, 1) := by decide +kernel
theorem dX0_init_19 : decode cX0_init 19 = .ok (.new 9, 3) := by decide +kernel
theorem dX0_init_22 : decode cX0_init 22 = .ok (.dup, 1) := by decide +kernel
theorem dX0_init_23 : decode cX0_init 23 = .ok (.bipush 120, 2) := by decide +kernel
theorem dX0_init_25 : decode cX0_init 25 = .ok (.invokespecial 11, 3) := by decide +kernel
theorem dX0_init_28 : decode cX0_init 28 = .ok (.putfield 20, 3) := by decide +kernel
theorem dX0_init_31 : decode cX0_init 31 = .ok (.aload_n 0, 1) := by decide +kernel
theorem dX0_init_32 : decode cX0_init 32 = .ok (.new 9, 3) := by decide +kernel
theorem dX0_init_35 : decode cX0_init 35 = .ok (.dup, 1) := by decide +kernel
theorem dX0_init_36 : decode cX0_init 36 = .ok (.bipush 120, 2) := by decide +kernel
theorem dX0_init_38 : decode cX0_init 38 = .ok (.invokespecial 11, 3) := by decide +kernel
theorem dX0_init_41 : decode cX0_init 41 = .ok (.putfield 23, 3) := by decide +kernel
theorem dX0_init_44 : decode cX0_init 44 = .ok (.aload_n 0, 1) := by decide +kernel
theorem dX0_init_45 : decode cX0_init 45 = .ok (.new 9, 3) := by decide +kernel
theorem dX0_init_48 : decode cX0_init 48 = .ok (.dup, 1) := by decide +kernel
theorem dX0_init_49 : decode cX0_init 49 = .ok (.bipush 120, 2) := by decide +kernel
theorem dX0_init_51 : decode cX0_init 51 = .ok (.invokespecial 11, 3) := by decide +kernel
theorem dX0_init_54 : decode cX0_init 54 = .ok (.putfield 26, 3) := by decide +kernel
theorem dX0_init_57 : decode cX0_init 57 = .ok (.aload_n 0, 1) := by decide +kernel
theorem dX0_init_58 : decode cX0_init 58 = .ok (.new 9, 3) := by decide +kernel
theorem dX0_init_61 : decode cX0_init 61 = .ok (.dup, 1) := by decide +kernel
theorem dX0_init_62 : decode cX0_init 62 = .ok (.bipush 120, 2) := by decide +kernel
theorem dX0_init_64 : decode cX0_init 64 = .ok (.invokespecial 11, 3) := by decide +kernel
theorem dX0_init_67 : decode cX0_init 67 = .ok (.putfield 29, 3) := by decide +kernel
theorem dX0_init_70 : decode cX0_init 70 = .ok (.return_, 1) := by decide +kernel
theorem dX0_count_0 : decode cX0_count 0 = .ok (.aload_n 0, 1) := by decide +kernel
theorem dX0_count_1 : decode cX0_count 1 = .ok (.getfield 32, 3) := by decide +kernel
theorem dX0_count_4 : decode cX0_count 4 = .ok (.ireturn, 1) := by decide +kernel
theorem dX0_lastPlace_0 : decode cX0_lastPlace 0 = .ok (.aload_n 0, 1) := by decide +kernel
theorem dX0_lastPlace_1 : decode cX0_lastPlace 1 = .ok (.getfield 32, 3) := by decide +kernel
theorem dX0_lastPlace_4 : decode cX0_lastPlace 4 = .ok (.iconst 1, 1) := by decide +kernel
theorem dX0_lastPlace_5 : decode cX0_lastPlace 5 = .ok (.isub, 1) := by decide +kernel
theorem dX0_lastPlace_6 : decode cX0_lastPlace 6 = .ok (.ireturn, 1) := by decide +kernel
theorem dX0_historySize_0 : decode cX0_historySize 0 = .ok (.aload_n 0, 1) := by decide +kernel
theorem dX0_historySize_1 : decode cX0_historySize 1 = .ok (.getfield 32, 3) := by decide +kernel
theorem dX0_historySize_4 : decode cX0_historySize 4 = .ok (.bipush 32, 2) := by decide +kernel
theorem dX0_historySize_6 : decode cX0_historySize 6 = .ok (.invokestatic 36, 3) := by decide +kernel
theorem dX0_historySize_9 : decode cX0_historySize 9 = .ok (.ireturn, 1) := by decide +kernel
set_option maxRecDepth 20000 in
theorem ggX0_placeOf_X2_get : GoodIn wsX0_placeOf wsX2_get := goodIn_r _ [6, 7, 14] (by decide +kernel) (by decide +kernel)
set_option maxRecDepth 20000 in
theorem gX0_placeOf_X2_get : GoodIn wsX0_placeOf (wsV RX0 42 RX2 yX2_get wsX2_get) := goodIn_app (goodIn_of _ (by decide +kernel)) ggX0_placeOf_X2_get
theorem dX0_placeOf_0 : decode cX0_placeOf 0 = .ok (.aload_n 0, 1) := by decide +kernel
theorem dX0_placeOf_1 : decode cX0_placeOf 1 = .ok (.getfield 14, 3) := by decide +kernel
theorem dX0_placeOf_4 : decode cX0_placeOf 4 = .ok (.iload_n 1, 1) := by decide +kernel
theorem dX0_placeOf_5 : decode cX0_placeOf 5 = .ok (.invokevirtual 42, 3) := by decide +kernel
theorem dX0_placeOf_8 : decode cX0_placeOf 8 = .ok (.iconst 1, 1) := by decide +kernel
theorem dX0_placeOf_9 : decode cX0_placeOf 9 = .ok (.isub, 1) := by decide +kernel
theorem dX0_placeOf_10 : decode cX0_placeOf 10 = .ok (.ireturn, 1) := by decide +kernel
set_option maxRecDepth 20000 in
theorem ggX0_frameAt_X2_get : GoodIn wsX0_frameAt wsX2_get := goodIn_r _ [6, 7, 14] (by decide +kernel) (by decide +kernel)
set_option maxRecDepth 20000 in
theorem gX0_frameAt_X2_get : GoodIn wsX0_frameAt (wsV RX0 42 RX2 yX2_get wsX2_get) := goodIn_app (goodIn_of _ (by decide +kernel)) ggX0_frameAt_X2_get
theorem dX0_frameAt_0 : decode cX0_frameAt 0 = .ok (.aload_n 0, 1) := by decide +kernel
theorem dX0_frameAt_1 : decode cX0_frameAt 1 = .ok (.getfield 20, 3) := by decide +kernel
theorem dX0_frameAt_4 : decode cX0_frameAt 4 = .ok (.iload_n 1, 1) := by decide +kernel
theorem dX0_frameAt_5 : decode cX0_frameAt 5 = .ok (.invokevirtual 42, 3) := by decide +kernel
theorem dX0_frameAt_8 : decode cX0_frameAt 8 = .ok (.ireturn, 1) := by decide +kernel
set_option maxRecDepth 20000 in
theorem ggX0_whenAt_X2_get : GoodIn wsX0_whenAt wsX2_get := goodIn_r _ [6, 7, 14] (by decide +kernel) (by decide +kernel)
set_option maxRecDepth 20000 in
theorem gX0_whenAt_X2_get : GoodIn wsX0_whenAt (wsV RX0 42 RX2 yX2_get wsX2_get) := goodIn_app (goodIn_of _ (by decide +kernel)) ggX0_whenAt_X2_get
theorem dX0_whenAt_0 : decode cX0_whenAt 0 = .ok (.aload_n 0, 1) := by decide +kernel
theorem dX0_whenAt_1 : decode cX0_whenAt 1 = .ok (.getfield 23, 3) := by decide +kernel
theorem dX0_whenAt_4 : decode cX0_whenAt 4 = .ok (.iload_n 1, 1) := by decide +kernel
theorem dX0_whenAt_5 : decode cX0_whenAt 5 = .ok (.invokevirtual 42, 3) := by decide +kernel
theorem dX0_whenAt_8 : decode cX0_whenAt 8 = .ok (.ireturn, 1) := by decide +kernel
set_option maxRecDepth 20000 in
theorem ggX0_spurtAt_X2_get : GoodIn wsX0_spurtAt wsX2_get := goodIn_r _ [6, 7, 14] (by decide +kernel) (by decide +kernel)
set_option maxRecDepth 20000 in
theorem gX0_spurtAt_X2_get : GoodIn wsX0_spurtAt (wsV RX0 42 RX2 yX2_get wsX2_get) := goodIn_app (goodIn_of _ (by decide +kernel)) ggX0_spurtAt_X2_get
theorem dX0_spurtAt_0 : decode cX0_spurtAt 0 = .ok (.aload_n 0, 1) := by decide +kernel
theorem dX0_spurtAt_1 : decode cX0_spurtAt 1 = .ok (.getfield 26, 3) := by decide +kernel
theorem dX0_spurtAt_4 : decode cX0_spurtAt 4 = .ok (.iload_n 1, 1) := by decide +kernel
theorem dX0_spurtAt_5 : decode cX0_spurtAt 5 = .ok (.invokevirtual 42, 3) := by decide +kernel
theorem dX0_spurtAt_8 : decode cX0_spurtAt 8 = .ok (.ireturn, 1) := by decide +kernel
set_option maxRecDepth 20000 in
theorem ggX0_playedAt_X2_get : GoodIn wsX0_playedAt wsX2_get := goodIn_r _ [6, 7, 14] (by decide +kernel) (by decide +kernel)
set_option maxRecDepth 20000 in
theorem gX0_playedAt_X2_get : GoodIn wsX0_playedAt (wsV RX0 42 RX2 yX2_get wsX2_get) := goodIn_app (goodIn_of _ (by decide +kernel)) ggX0_playedAt_X2_get
theorem dX0_playedAt_0 : decode cX0_playedAt 0 = .ok (.aload_n 0, 1) := by decide +kernel
theorem dX0_playedAt_1 : decode cX0_playedAt 1 = .ok (.getfield 29, 3) := by decide +kernel
theorem dX0_playedAt_4 : decode cX0_playedAt 4 = .ok (.iload_n 1, 1) := by decide +kernel
theorem dX0_playedAt_5 : decode cX0_playedAt 5 = .ok (.invokevirtual 42, 3) := by decide +kernel
theorem dX0_playedAt_8 : decode cX0_playedAt 8 = .ok (.ireturn, 1) := by decide +kernel
set_option maxRecDepth 20000 in
theorem ggX0_delayAt_X2_get : GoodIn wsX0_delayAt wsX2_get := goodIn_r _ [7, 8, 15] (by decide +kernel) (by decide +kernel)
set_option maxRecDepth 20000 in
theorem gX0_delayAt_X2_get : GoodIn wsX0_delayAt (wsV RX0 42 RX2 yX2_get wsX2_get) := goodIn_app (goodIn_of _ (by decide +kernel)) ggX0_delayAt_X2_get
theorem dX0_delayAt_0 : decode cX0_delayAt 0 = .ok (.aload_n 0, 1) := by decide +kernel
theorem dX0_delayAt_1 : decode cX0_delayAt 1 = .ok (.getfield 23, 3) := by decide +kernel
theorem dX0_delayAt_4 : decode cX0_delayAt 4 = .ok (.iload_n 1, 1) := by decide +kernel
theorem dX0_delayAt_5 : decode cX0_delayAt 5 = .ok (.invokevirtual 42, 3) := by decide +kernel
theorem dX0_delayAt_8 : decode cX0_delayAt 8 = .ok (.bipush 20, 2) := by decide +kernel
theorem dX0_delayAt_10 : decode cX0_delayAt 10 = .ok (.aload_n 0, 1) := by decide +kernel
theorem dX0_delayAt_11 : decode cX0_delayAt 11 = .ok (.getfield 20, 3) := by decide +kernel
theorem dX0_delayAt_14 : decode cX0_delayAt 14 = .ok (.iload_n 1, 1) := by decide +kernel
theorem dX0_delayAt_15 : decode cX0_delayAt 15 = .ok (.invokevirtual 42, 3) := by decide +kernel
theorem dX0_delayAt_18 : decode cX0_delayAt 18 = .ok (.imul, 1) := by decide +kernel
theorem dX0_delayAt_19 : decode cX0_delayAt 19 = .ok (.isub, 1) := by decide +kernel
theorem dX0_delayAt_20 : decode cX0_delayAt 20 = .ok (.ireturn, 1) := by decide +kernel
set_option maxRecDepth 20000 in
theorem ggX0_latestWhen_X2_get : GoodIn wsX0_latestWhen wsX2_get := goodIn_r _ [7, 8, 15] (by decide +kernel) (by decide +kernel)
set_option maxRecDepth 20000 in
theorem gX0_latestWhen_X2_get : GoodIn wsX0_latestWhen (wsV RX0 42 RX2 yX2_get wsX2_get) := goodIn_app (goodIn_of _ (by decide +kernel)) ggX0_latestWhen_X2_get
theorem dX0_latestWhen_0 : decode cX0_latestWhen 0 = .ok (.aload_n 0, 1) := by decide +kernel
theorem dX0_latestWhen_1 : decode cX0_latestWhen 1 = .ok (.getfield 32, 3) := by decide +kernel
theorem dX0_latestWhen_4 : decode cX0_latestWhen 4 = .ok (.ifCond .ne 7, 3) := by decide +kernel
theorem dX0_latestWhen_7 : decode cX0_latestWhen 7 = .ok (.iconst 0, 1) := by decide +kernel
theorem dX0_latestWhen_8 : decode cX0_latestWhen 8 = .ok (.goto 16, 3) := by decide +kernel
theorem dX0_latestWhen_11 : decode cX0_latestWhen 11 = .ok (.aload_n 0, 1) := by decide +kernel
theorem dX0_latestWhen_12 : decode cX0_latestWhen 12 = .ok (.getfield 23, 3) := by decide +kernel
theorem dX0_latestWhen_15 : decode cX0_latestWhen 15 = .ok (.aload_n 0, 1) := by decide +kernel
theorem dX0_latestWhen_16 : decode cX0_latestWhen 16 = .ok (.getfield 32, 3) := by decide +kernel
theorem dX0_latestWhen_19 : decode cX0_latestWhen 19 = .ok (.iconst 1, 1) := by decide +kernel
theorem dX0_latestWhen_20 : decode cX0_latestWhen 20 = .ok (.isub, 1) := by decide +kernel
theorem dX0_latestWhen_21 : decode cX0_latestWhen 21 = .ok (.invokevirtual 42, 3) := by decide +kernel
theorem dX0_latestWhen_24 : decode cX0_latestWhen 24 = .ok (.ireturn, 1) := by decide +kernel
set_option maxRecDepth 20000 in
theorem ggX0_delaysAbove_X0_delayAt : GoodIn wsX0_delaysAbove wsX0_delayAt := goodIn_r _ [6, 7, 8, 9, 10, 11, 12, 13, 14, 15, 16, 17, 18, 19, 20, 21] (by decide +kernel) (by decide +kernel)
set_option maxRecDepth 20000 in
theorem gX0_delaysAbove_X0_delayAt : GoodIn wsX0_delaysAbove (wsV RX0 46 RX0 yX0_delayAt wsX0_delayAt) := goodIn_app (goodIn_of _ (by decide +kernel)) ggX0_delaysAbove_X0_delayAt
theorem dX0_delaysAbove_0 : decode cX0_delaysAbove 0 = .ok (.iconst 0, 1) := by decide +kernel
theorem dX0_delaysAbove_1 : decode cX0_delaysAbove 1 = .ok (.istore_n 3, 1) := by decide +kernel
theorem dX0_delaysAbove_2 : decode cX0_delaysAbove 2 = .ok (.aload_n 0, 1) := by decide +kernel
theorem dX0_delaysAbove_3 : decode cX0_delaysAbove 3 = .ok (.getfield 32, 3) := by decide +kernel
theorem dX0_delaysAbove_6 : decode cX0_delaysAbove 6 = .ok (.iload_n 2, 1) := by decide +kernel
theorem dX0_delaysAbove_7 : decode cX0_delaysAbove 7 = .ok (.isub, 1) := by decide +kernel
theorem dX0_delaysAbove_8 : decode cX0_delaysAbove 8 = .ok (.istore 4, 2) := by decide +kernel
theorem dX0_delaysAbove_10 : decode cX0_delaysAbove 10 = .ok (.iload 4, 2) := by decide +kernel
theorem dX0_delaysAbove_12 : decode cX0_delaysAbove 12 = .ok (.aload_n 0, 1) := by decide +kernel
theorem dX0_delaysAbove_13 : decode cX0_delaysAbove 13 = .ok (.getfield 32, 3) := by decide +kernel
theorem dX0_delaysAbove_16 : decode cX0_delaysAbove 16 = .ok (.if_icmp .ge 22, 3) := by decide +kernel
theorem dX0_delaysAbove_19 : decode cX0_delaysAbove 19 = .ok (.aload_n 0, 1) := by decide +kernel
theorem dX0_delaysAbove_20 : decode cX0_delaysAbove 20 = .ok (.iload 4, 2) := by decide +kernel
theorem dX0_delaysAbove_22 : decode cX0_delaysAbove 22 = .ok (.invokevirtual 46, 3) := by decide +kernel
theorem dX0_delaysAbove_25 : decode cX0_delaysAbove 25 = .ok (.iload_n 1, 1) := by decide +kernel
theorem dX0_delaysAbove_26 : decode cX0_delaysAbove 26 = .ok (.if_icmp .le 6, 3) := by decide +kernel
theorem dX0_delaysAbove_29 : decode cX0_delaysAbove 29 = .ok (.iinc 3 1, 3) := by decide +kernel
theorem dX0_delaysAbove_32 : decode cX0_delaysAbove 32 = .ok (.iinc 4 1, 3) := by decide +kernel
theorem dX0_delaysAbove_35 : decode cX0_delaysAbove 35 = .ok (.goto (-25), 3) := by decide +kernel
theorem dX0_delaysAbove_38 : decode cX0_delaysAbove 38 = .ok (.iload_n 3, 1) := by decide +kernel
theorem dX0_delaysAbove_39 : decode cX0_delaysAbove 39 = .ok (.ireturn, 1) := by decide +kernel
set_option maxRecDepth 20000 in
theorem ggX0_add_X2_set : GoodIn wsX0_add wsX2_set := goodIn_r _ [9, 10, 17] (by decide +kernel) (by decide +kernel)
set_option maxRecDepth 20000 in
theorem gX0_add_X2_set : GoodIn wsX0_add (wsV RX0 49 RX2 yX2_set wsX2_set) := goodIn_app (goodIn_of _ (by decide +kernel)) ggX0_add_X2_set
theorem dX0_add_0 : decode cX0_add 0 = .ok (.aload_n 0, 1) := by decide +kernel
theorem dX0_add_1 : decode cX0_add 1 = .ok (.getfield 32, 3) := by decide +kernel
theorem dX0_add_4 : decode cX0_add 4 = .ok (.istore_n 3, 1) := by decide +kernel
theorem dX0_add_5 : decode cX0_add 5 = .ok (.aload_n 0, 1) := by decide +kernel
theorem dX0_add_6 : decode cX0_add 6 = .ok (.getfield 20, 3) := by decide +kernel
theorem dX0_add_9 : decode cX0_add 9 = .ok (.iload_n 3, 1) := by decide +kernel
theorem dX0_add_10 : decode cX0_add 10 = .ok (.iload_n 1, 1) := by decide +kernel
theorem dX0_add_11 : decode cX0_add 11 = .ok (.invokevirtual 49, 3) := by decide +kernel
theorem dX0_add_14 : decode cX0_add 14 = .ok (.aload_n 0, 1) := by decide +kernel
theorem dX0_add_15 : decode cX0_add 15 = .ok (.getfield 23, 3) := by decide +kernel
theorem dX0_add_18 : decode cX0_add 18 = .ok (.iload_n 3, 1) := by decide +kernel
theorem dX0_add_19 : decode cX0_add 19 = .ok (.iload_n 2, 1) := by decide +kernel
theorem dX0_add_20 : decode cX0_add 20 = .ok (.invokevirtual 49, 3) := by decide +kernel
theorem dX0_add_23 : decode cX0_add 23 = .ok (.aload_n 0, 1) := by decide +kernel
theorem dX0_add_24 : decode cX0_add 24 = .ok (.getfield 14, 3) := by decide +kernel
theorem dX0_add_27 : decode cX0_add 27 = .ok (.iload_n 1, 1) := by decide +kernel
theorem dX0_add_28 : decode cX0_add 28 = .ok (.iload_n 3, 1) := by decide +kernel
theorem dX0_add_29 : decode cX0_add 29 = .ok (.iconst 1, 1) := by decide +kernel
theorem dX0_add_30 : decode cX0_add 30 = .ok (.iadd, 1) := by decide +kernel
theorem dX0_add_31 : decode cX0_add 31 = .ok (.invokevirtual 49, 3) := by decide +kernel
theorem dX0_add_34 : decode cX0_add 34 = .ok (.aload_n 0, 1) := by decide +kernel
theorem dX0_add_35 : decode cX0_add 35 = .ok (.dup, 1) := by decide +kernel
theorem dX0_add_36 : decode cX0_add 36 = .ok (.getfield 32, 3) := by decide +kernel
theorem dX0_add_39 : decode cX0_add 39 = .ok (.iconst 1, 1) := by decide +kernel
theorem dX0_add_40 : decode cX0_add 40 = .ok (.iadd, 1) := by decide +kernel
theorem dX0_add_41 : decode cX0_add 41 = .ok (.putfield 32, 3) := by decide +kernel
theorem dX0_add_44 : decode cX0_add 44 = .ok (.iload_n 3, 1) := by decide +kernel
theorem dX0_add_45 : decode cX0_add 45 = .ok (.ireturn, 1) := by decide +kernel
set_option maxRecDepth 20000 in
theorem ggX0_settle_X2_set : GoodIn wsX0_settle wsX2_set := goodIn_r _ [7, 8, 15] (by decide +kernel) (by decide +kernel)
set_option maxRecDepth 20000 in
theorem gX0_settle_X2_set : GoodIn wsX0_settle (wsV RX0 49 RX2 yX2_set wsX2_set) := goodIn_app (goodIn_of _ (by decide +kernel)) ggX0_settle_X2_set
theorem dX0_settle_0 : decode cX0_settle 0 = .ok (.aload_n 0, 1) := by decide +kernel
theorem dX0_settle_1 : decode cX0_settle 1 = .ok (.getfield 26, 3) := by decide +kernel
theorem dX0_settle_4 : decode cX0_settle 4 = .ok (.iload_n 1, 1) := by decide +kernel
theorem dX0_settle_5 : decode cX0_settle 5 = .ok (.iload_n 2, 1) := by decide +kernel
theorem dX0_settle_6 : decode cX0_settle 6 = .ok (.invokevirtual 49, 3) := by decide +kernel
theorem dX0_settle_9 : decode cX0_settle 9 = .ok (.aload_n 0, 1) := by decide +kernel
theorem dX0_settle_10 : decode cX0_settle 10 = .ok (.getfield 29, 3) := by decide +kernel
theorem dX0_settle_13 : decode cX0_settle 13 = .ok (.iload_n 1, 1) := by decide +kernel
theorem dX0_settle_14 : decode cX0_settle 14 = .ok (.iload_n 3, 1) := by decide +kernel
theorem dX0_settle_15 : decode cX0_settle 15 = .ok (.invokevirtual 49, 3) := by decide +kernel
theorem dX0_settle_18 : decode cX0_settle 18 = .ok (.return_, 1) := by decide +kernel
set_option maxRecDepth 20000 in
theorem ggX0_clear_X2_get : GoodIn wsX0_clear wsX2_get := goodIn_r _ [8, 9, 20] (by decide +kernel) (by decide +kernel)
set_option maxRecDepth 20000 in
theorem gX0_clear_X2_get : GoodIn wsX0_clear (wsV RX0 42 RX2 yX2_get wsX2_get) := goodIn_app (goodIn_of _ (by decide +kernel)) ggX0_clear_X2_get
set_option maxRecDepth 20000 in
theorem ggX0_clear_X2_set : GoodIn wsX0_clear wsX2_set := goodIn_r _ [13, 9, 20] (by decide +kernel) (by decide +kernel)
set_option maxRecDepth 20000 in
theorem gX0_clear_X2_set : GoodIn wsX0_clear (wsV RX0 49 RX2 yX2_set wsX2_set) := goodIn_app (goodIn_of _ (by decide +kernel)) ggX0_clear_X2_set
theorem dX0_clear_0 : decode cX0_clear 0 = .ok (.iconst 0, 1) := by decide +kernel
theorem dX0_clear_1 : decode cX0_clear 1 = .ok (.istore_n 1, 1) := by decide +kernel
theorem dX0_clear_2 : decode cX0_clear 2 = .ok (.iload_n 1, 1) := by decide +kernel
theorem dX0_clear_3 : decode cX0_clear 3 = .ok (.aload_n 0, 1) := by decide +kernel
theorem dX0_clear_4 : decode cX0_clear 4 = .ok (.getfield 32, 3) := by decide +kernel
theorem dX0_clear_7 : decode cX0_clear 7 = .ok (.if_icmp .ge 25, 3) := by decide +kernel
theorem dX0_clear_10 : decode cX0_clear 10 = .ok (.aload_n 0, 1) := by decide +kernel
theorem dX0_clear_11 : decode cX0_clear 11 = .ok (.getfield 14, 3) := by decide +kernel
theorem dX0_clear_14 : decode cX0_clear 14 = .ok (.aload_n 0, 1) := by decide +kernel
theorem dX0_clear_15 : decode cX0_clear 15 = .ok (.getfield 20, 3) := by decide +kernel
theorem dX0_clear_18 : decode cX0_clear 18 = .ok (.iload_n 1, 1) := by decide +kernel
theorem dX0_clear_19 : decode cX0_clear 19 = .ok (.invokevirtual 42, 3) := by decide +kernel
theorem dX0_clear_22 : decode cX0_clear 22 = .ok (.iconst 0, 1) := by decide +kernel
theorem dX0_clear_23 : decode cX0_clear 23 = .ok (.invokevirtual 49, 3) := by decide +kernel
theorem dX0_clear_26 : decode cX0_clear 26 = .ok (.iinc 1 1, 3) := by decide +kernel
theorem dX0_clear_29 : decode cX0_clear 29 = .ok (.goto (-27), 3) := by decide +kernel
theorem dX0_clear_32 : decode cX0_clear 32 = .ok (.aload_n 0, 1) := by decide +kernel
theorem dX0_clear_33 : decode cX0_clear 33 = .ok (.iconst 0, 1) := by decide +kernel
theorem dX0_clear_34 : decode cX0_clear 34 = .ok (.putfield 32, 3) := by decide +kernel
theorem dX0_clear_37 : decode cX0_clear 37 = .ok (.return_, 1) := by decide +kernel
set_option maxRecDepth 20000 in
theorem ggX1_init_X2_init : GoodIn wsX1_init wsX2_init := goodIn_r _ [12, 13, 2, 3, 14, 15, 16, 17, 18, 19, 20] (by decide +kernel) (by decide +kernel)
set_option maxRecDepth 20000 in
theorem gX1_init_X2_init : GoodIn wsX1_init (wsX2_init) := ggX1_init_X2_init
theorem dX1_init_0 : decode cX1_init 0 = .ok (.aload_n 0, 1) := by decide +kernel
theorem dX1_init_1 : decode cX1_init 1 = .ok (.invokespecial 3, 3) := by decide +kernel
theorem dX1_init_4 : decode cX1_init 4 = .ok (.aload_n 0, 1) := by decide +kernel
theorem dX1_init_5 : decode cX1_init 5 = .ok (.new 9, 3) := by decide +kernel
theorem dX1_init_8 : decode cX1_init 8 = .ok (.dup, 1) := by decide +kernel
theorem dX1_init_9 : decode cX1_init 9 = .ok (.bipush 120, 2) := by decide +kernel
theorem dX1_init_11 : decode cX1_init 11 = .ok (.invokespecial 11, 3) := by decide +kernel
theorem dX1_init_14 : decode cX1_init 14 = .ok (.putfield 14, 3) := by decide +kernel
theorem dX1_init_17 : decode cX1_init 17 = .ok (.aload_n 0, 1) := by decide +kernel
theorem dX1_init_18 : decode cX1_init 18 = .ok (.new 9, 3) := by decide +kernel
theorem dX1_init_21 : decode cX1_init 21 = .ok (.dup, 1) := by decide +kernel
theorem dX1_init_22 : decode cX1_init 22 = .ok (.bipush 120, 2) := by decide +kernel
theorem dX1_init_24 : decode cX1_init 24 = .ok (.invokespecial 11, 3) := by decide +kernel
theorem dX1_init_27 : decode cX1_init 27 = .ok (.putfield 20, 3) := by decide +kernel
theorem dX1_init_30 : decode cX1_init 30 = .ok (.aload_n 0, 1) := by decide +kernel
theorem dX1_init_31 : decode cX1_init 31 = .ok (.iconst 1, 1) := by decide +kernel
theorem dX1_init_32 : decode cX1_init 32 = .ok (.putfield 23, 3) := by decide +kernel
theorem dX1_init_35 : decode cX1_init 35 = .ok (.return_, 1) := by decide +kernel
theorem dX1_upper_0 : decode cX1_upper 0 = .ok (.aload_n 0, 1) := by decide +kernel
theorem dX1_upper_1 : decode cX1_upper 1 = .ok (.getfield 27, 3) := by decide +kernel
theorem dX1_upper_4 : decode cX1_upper 4 = .ok (.ireturn, 1) := by decide +kernel
theorem dX1_lower_0 : decode cX1_lower 0 = .ok (.aload_n 0, 1) := by decide +kernel
theorem dX1_lower_1 : decode cX1_lower 1 = .ok (.getfield 23, 3) := by decide +kernel
theorem dX1_lower_4 : decode cX1_lower 4 = .ok (.ireturn, 1) := by decide +kernel
set_option maxRecDepth 20000 in
theorem ggX1_fitUnder_X0_placeOf : GoodIn wsX1_fitUnder wsX0_placeOf := goodIn_r _ [8, 9, 10, 11, 12, 13, 14, 15, 58, 59, 60, 61, 62, 63, 64] (by decide +kernel) (by decide +kernel)
set_option maxRecDepth 20000 in
theorem gX1_fitUnder_X0_placeOf : GoodIn wsX1_fitUnder (wsV RX1 33 RX0 yX0_placeOf wsX0_placeOf) := goodIn_app (goodIn_of _ (by decide +kernel)) ggX1_fitUnder_X0_placeOf
set_option maxRecDepth 20000 in
theorem ggX1_fitUnder_X0_delayAt : GoodIn wsX1_fitUnder wsX0_delayAt := goodIn_r _ [19, 20, 21, 10, 11, 12, 13, 14, 15, 58, 59, 60, 61, 62, 63, 64] (by decide +kernel) (by decide +kernel)
set_option maxRecDepth 20000 in
theorem gX1_fitUnder_X0_delayAt : GoodIn wsX1_fitUnder (wsV RX1 39 RX0 yX0_delayAt wsX0_delayAt) := goodIn_app (goodIn_of _ (by decide +kernel)) ggX1_fitUnder_X0_delayAt
set_option maxRecDepth 20000 in
theorem ggX1_fitUnder_X1_addCorner : GoodIn wsX1_fitUnder wsX1_addCorner := goodIn_r _ [26, 1, 27, 28, 29, 30, 31, 25, 32, 33, 11, 12, 13, 14, 15, 34, 35, 36, 37, 53, 54, 55, 56, 57, 64] (by decide +kernel) (by decide +kernel)
set_option maxRecDepth 20000 in
theorem gX1_fitUnder_X1_addCorner : GoodIn wsX1_fitUnder (wsV RX1 42 RX1 yX1_addCorner wsX1_addCorner) := goodIn_app (goodIn_of _ (by decide +kernel)) ggX1_fitUnder_X1_addCorner
set_option maxRecDepth 20000 in
theorem ggX1_fitUnder_X1_takeRiseAtMiddle : GoodIn wsX1_fitUnder wsX1_takeRiseAtMiddle := goodIn_r _ [41, 27, 1, 28, 33, 11, 12, 13, 14, 15, 42, 43, 44, 25, 45, 46, 47, 48, 49, 2, 3, 50, 51, 52, 53, 54, 55, 56, 57, 64] (by decide +kernel) (by decide +kernel)
set_option maxRecDepth 20000 in
theorem gX1_fitUnder_X1_takeRiseAtMiddle : GoodIn wsX1_fitUnder (wsV RX1 46 RX1 yX1_takeRiseAtMiddle wsX1_takeRiseAtMiddle) := goodIn_app (goodIn_of _ (by decide +kernel)) ggX1_fitUnder_X1_takeRiseAtMiddle
theorem dX1_fitUnder_0 : decode cX1_fitUnder 0 = .ok (.aload_n 0, 1) := by decide +kernel
theorem dX1_fitUnder_1 : decode cX1_fitUnder 1 = .ok (.iconst 0, 1) := by decide +kernel
theorem dX1_fitUnder_2 : decode cX1_fitUnder 2 = .ok (.putfield 30, 3) := by decide +kernel
theorem dX1_fitUnder_5 : decode cX1_fitUnder 5 = .ok (.aload_n 0, 1) := by decide +kernel
theorem dX1_fitUnder_6 : decode cX1_fitUnder 6 = .ok (.iconst 0, 1) := by decide +kernel
theorem dX1_fitUnder_7 : decode cX1_fitUnder 7 = .ok (.putfield 27, 3) := by decide +kernel
theorem dX1_fitUnder_10 : decode cX1_fitUnder 10 = .ok (.aload_n 0, 1) := by decide +kernel
theorem dX1_fitUnder_11 : decode cX1_fitUnder 11 = .ok (.iconst 1, 1) := by decide +kernel
theorem dX1_fitUnder_12 : decode cX1_fitUnder 12 = .ok (.putfield 23, 3) := by decide +kernel
theorem dX1_fitUnder_15 : decode cX1_fitUnder 15 = .ok (.iconst 0, 1) := by decide +kernel
theorem dX1_fitUnder_16 : decode cX1_fitUnder 16 = .ok (.istore_n 2, 1) := by decide +kernel
theorem dX1_fitUnder_17 : decode cX1_fitUnder 17 = .ok (.iload_n 2, 1) := by decide +kernel
theorem dX1_fitUnder_18 : decode cX1_fitUnder 18 = .ok (.sipush 300, 3) := by decide +kernel
theorem dX1_fitUnder_21 : decode cX1_fitUnder 21 = .ok (.if_icmp .ge 30, 3) := by decide +kernel
theorem dX1_fitUnder_24 : decode cX1_fitUnder 24 = .ok (.aload_n 1, 1) := by decide +kernel
theorem dX1_fitUnder_25 : decode cX1_fitUnder 25 = .ok (.iload_n 2, 1) := by decide +kernel
theorem dX1_fitUnder_26 : decode cX1_fitUnder 26 = .ok (.invokevirtual 33, 3) := by decide +kernel
theorem dX1_fitUnder_29 : decode cX1_fitUnder 29 = .ok (.istore_n 3, 1) := by decide +kernel
theorem dX1_fitUnder_30 : decode cX1_fitUnder 30 = .ok (.iload_n 3, 1) := by decide +kernel
theorem dX1_fitUnder_31 : decode cX1_fitUnder 31 = .ok (.iconst (-1), 1) := by decide +kernel
theorem dX1_fitUnder_32 : decode cX1_fitUnder 32 = .ok (.if_icmp .eq 13, 3) := by decide +kernel
theorem dX1_fitUnder_35 : decode cX1_fitUnder 35 = .ok (.aload_n 0, 1) := by decide +kernel
theorem dX1_fitUnder_36 : decode cX1_fitUnder 36 = .ok (.iload_n 2, 1) := by decide +kernel
theorem dX1_fitUnder_37 : decode cX1_fitUnder 37 = .ok (.aload_n 1, 1) := by decide +kernel
theorem dX1_fitUnder_38 : decode cX1_fitUnder 38 = .ok (.iload_n 3, 1) := by decide +kernel
theorem dX1_fitUnder_39 : decode cX1_fitUnder 39 = .ok (.invokevirtual 39, 3) := by decide +kernel
theorem dX1_fitUnder_42 : decode cX1_fitUnder 42 = .ok (.invokevirtual 42, 3) := by decide +kernel
theorem dX1_fitUnder_45 : decode cX1_fitUnder 45 = .ok (.iinc 2 1, 3) := by decide +kernel
theorem dX1_fitUnder_48 : decode cX1_fitUnder 48 = .ok (.goto (-31), 3) := by decide +kernel
theorem dX1_fitUnder_51 : decode cX1_fitUnder 51 = .ok (.aload_n 0, 1) := by decide +kernel
theorem dX1_fitUnder_52 : decode cX1_fitUnder 52 = .ok (.invokevirtual 46, 3) := by decide +kernel
theorem dX1_fitUnder_55 : decode cX1_fitUnder 55 = .ok (.return_, 1) := by decide +kernel
set_option maxRecDepth 20000 in
theorem ggX1_addCorner_X1_lastIsNotBelow : GoodIn wsX1_addCorner wsX1_lastIsNotBelow := goodIn_r _ [8, 2, 1, 3, 9, 10, 11, 12, 13, 14, 19, 20, 21, 22, 23, 24] (by decide +kernel) (by decide +kernel)
set_option maxRecDepth 20000 in
theorem gX1_addCorner_X1_lastIsNotBelow : GoodIn wsX1_addCorner (wsV RX1 49 RX1 yX1_lastIsNotBelow wsX1_lastIsNotBelow) := goodIn_app (goodIn_of _ (by decide +kernel)) ggX1_addCorner_X1_lastIsNotBelow
set_option maxRecDepth 20000 in
theorem ggX1_addCorner_X2_set : GoodIn wsX1_addCorner wsX2_set := goodIn_r _ [18, 14, 24] (by decide +kernel) (by decide +kernel)
set_option maxRecDepth 20000 in
theorem gX1_addCorner_X2_set : GoodIn wsX1_addCorner (wsV RX1 53 RX2 yX2_set wsX2_set) := goodIn_app (goodIn_of _ (by decide +kernel)) ggX1_addCorner_X2_set
theorem dX1_addCorner_0 : decode cX1_addCorner 0 = .ok (.aload_n 0, 1) := by decide +kernel
theorem dX1_addCorner_1 : decode cX1_addCorner 1 = .ok (.getfield 30, 3) := by decide +kernel
theorem dX1_addCorner_4 : decode cX1_addCorner 4 = .ok (.iconst 2, 1) := by decide +kernel
theorem dX1_addCorner_5 : decode cX1_addCorner 5 = .ok (.if_icmp .lt 25, 3) := by decide +kernel
theorem dX1_addCorner_8 : decode cX1_addCorner 8 = .ok (.aload_n 0, 1) := by decide +kernel
theorem dX1_addCorner_9 : decode cX1_addCorner 9 = .ok (.iload_n 1, 1) := by decide +kernel
theorem dX1_addCorner_10 : decode cX1_addCorner 10 = .ok (.iload_n 2, 1) := by decide +kernel
theorem dX1_addCorner_11 : decode cX1_addCorner 11 = .ok (.invokevirtual 49, 3) := by decide +kernel
theorem dX1_addCorner_14 : decode cX1_addCorner 14 = .ok (.ifCond .eq 16, 3) := by decide +kernel
theorem dX1_addCorner_17 : decode cX1_addCorner 17 = .ok (.aload_n 0, 1) := by decide +kernel
theorem dX1_addCorner_18 : decode cX1_addCorner 18 = .ok (.dup, 1) := by decide +kernel
theorem dX1_addCorner_19 : decode cX1_addCorner 19 = .ok (.getfield 30, 3) := by decide +kernel
theorem dX1_addCorner_22 : decode cX1_addCorner 22 = .ok (.iconst 1, 1) := by decide +kernel
theorem dX1_addCorner_23 : decode cX1_addCorner 23 = .ok (.isub, 1) := by decide +kernel
theorem dX1_addCorner_24 : decode cX1_addCorner 24 = .ok (.putfield 30, 3) := by decide +kernel
theorem dX1_addCorner_27 : decode cX1_addCorner 27 = .ok (.goto (-27), 3) := by decide +kernel
theorem dX1_addCorner_30 : decode cX1_addCorner 30 = .ok (.aload_n 0, 1) := by decide +kernel
theorem dX1_addCorner_31 : decode cX1_addCorner 31 = .ok (.getfield 14, 3) := by decide +kernel
theorem dX1_addCorner_34 : decode cX1_addCorner 34 = .ok (.aload_n 0, 1) := by decide +kernel
theorem dX1_addCorner_35 : decode cX1_addCorner 35 = .ok (.getfield 30, 3) := by decide +kernel
theorem dX1_addCorner_38 : decode cX1_addCorner 38 = .ok (.iload_n 1, 1) := by decide +kernel
theorem dX1_addCorner_39 : decode cX1_addCorner 39 = .ok (.invokevirtual 53, 3) := by decide +kernel
theorem dX1_addCorner_42 : decode cX1_addCorner 42 = .ok (.aload_n 0, 1) := by decide +kernel
theorem dX1_addCorner_43 : decode cX1_addCorner 43 = .ok (.getfield 20, 3) := by decide +kernel
theorem dX1_addCorner_46 : decode cX1_addCorner 46 = .ok (.aload_n 0, 1) := by decide +kernel
theorem dX1_addCorner_47 : decode cX1_addCorner 47 = .ok (.getfield 30, 3) := by decide +kernel
theorem dX1_addCorner_50 : decode cX1_addCorner 50 = .ok (.iload_n 2, 1) := by decide +kernel
theorem dX1_addCorner_51 : decode cX1_addCorner 51 = .ok (.invokevirtual 53, 3) := by decide +kernel
theorem dX1_addCorner_54 : decode cX1_addCorner 54 = .ok (.aload_n 0, 1) := by decide +kernel
theorem dX1_addCorner_55 : decode cX1_addCorner 55 = .ok (.dup, 1) := by decide +kernel
theorem dX1_addCorner_56 : decode cX1_addCorner 56 = .ok (.getfield 30, 3) := by decide +kernel
theorem dX1_addCorner_59 : decode cX1_addCorner 59 = .ok (.iconst 1, 1) := by decide +kernel
theorem dX1_addCorner_60 : decode cX1_addCorner 60 = .ok (.iadd, 1) := by decide +kernel
theorem dX1_addCorner_61 : decode cX1_addCorner 61 = .ok (.putfield 30, 3) := by decide +kernel
theorem dX1_addCorner_64 : decode cX1_addCorner 64 = .ok (.return_, 1) := by decide +kernel
set_option maxRecDepth 20000 in
theorem ggX1_lastIsNotBelow_X2_get : GoodIn wsX1_lastIsNotBelow wsX2_get := goodIn_r _ [8, 9, 15] (by decide +kernel) (by decide +kernel)
set_option maxRecDepth 20000 in
theorem gX1_lastIsNotBelow_X2_get : GoodIn wsX1_lastIsNotBelow (wsV RX1 56 RX2 yX2_get wsX2_get) := goodIn_app (goodIn_of _ (by decide +kernel)) ggX1_lastIsNotBelow_X2_get
theorem dX1_lastIsNotBelow_0 : decode cX1_lastIsNotBelow 0 = .ok (.aload_n 0, 1) := by decide +kernel
theorem dX1_lastIsNotBelow_1 : decode cX1_lastIsNotBelow 1 = .ok (.getfield 14, 3) := by decide +kernel
theorem dX1_lastIsNotBelow_4 : decode cX1_lastIsNotBelow 4 = .ok (.aload_n 0, 1) := by decide +kernel
theorem dX1_lastIsNotBelow_5 : decode cX1_lastIsNotBelow 5 = .ok (.getfield 30, 3) := by decide +kernel
theorem dX1_lastIsNotBelow_8 : decode cX1_lastIsNotBelow 8 = .ok (.iconst 2, 1) := by decide +kernel
theorem dX1_lastIsNotBelow_9 : decode cX1_lastIsNotBelow 9 = .ok (.isub, 1) := by decide +kernel
theorem dX1_lastIsNotBelow_10 : decode cX1_lastIsNotBelow 10 = .ok (.invokevirtual 56, 3) := by decide +kernel
theorem dX1_lastIsNotBelow_13 : decode cX1_lastIsNotBelow 13 = .ok (.istore_n 3, 1) := by decide +kernel
theorem dX1_lastIsNotBelow_14 : decode cX1_lastIsNotBelow 14 = .ok (.aload_n 0, 1) := by decide +kernel
theorem dX1_lastIsNotBelow_15 : decode cX1_lastIsNotBelow 15 = .ok (.getfield 20, 3) := by decide +kernel
theorem dX1_lastIsNotBelow_18 : decode cX1_lastIsNotBelow 18 = .ok (.aload_n 0, 1) := by decide +kernel
theorem dX1_lastIsNotBelow_19 : decode cX1_lastIsNotBelow 19 = .ok (.getfield 30, 3) := by decide +kernel
theorem dX1_lastIsNotBelow_22 : decode cX1_lastIsNotBelow 22 = .ok (.iconst 2, 1) := by decide +kernel
theorem dX1_lastIsNotBelow_23 : decode cX1_lastIsNotBelow 23 = .ok (.isub, 1) := by decide +kernel
theorem dX1_lastIsNotBelow_24 : decode cX1_lastIsNotBelow 24 = .ok (.invokevirtual 56, 3) := by decide +kernel
theorem dX1_lastIsNotBelow_27 : decode cX1_lastIsNotBelow 27 = .ok (.istore 4, 2) := by decide +kernel
theorem dX1_lastIsNotBelow_29 : decode cX1_lastIsNotBelow 29 = .ok (.aload_n 0, 1) := by decide +kernel
theorem dX1_lastIsNotBelow_30 : decode cX1_lastIsNotBelow 30 = .ok (.getfield 14, 3) := by decide +kernel
theorem dX1_lastIsNotBelow_33 : decode cX1_lastIsNotBelow 33 = .ok (.aload_n 0, 1) := by decide +kernel
theorem dX1_lastIsNotBelow_34 : decode cX1_lastIsNotBelow 34 = .ok (.getfield 30, 3) := by decide +kernel
theorem dX1_lastIsNotBelow_37 : decode cX1_lastIsNotBelow 37 = .ok (.iconst 1, 1) := by decide +kernel
theorem dX1_lastIsNotBelow_38 : decode cX1_lastIsNotBelow 38 = .ok (.isub, 1) := by decide +kernel
theorem dX1_lastIsNotBelow_39 : decode cX1_lastIsNotBelow 39 = .ok (.invokevirtual 56, 3) := by decide +kernel
theorem dX1_lastIsNotBelow_42 : decode cX1_lastIsNotBelow 42 = .ok (.iload_n 3, 1) := by decide +kernel
theorem dX1_lastIsNotBelow_43 : decode cX1_lastIsNotBelow 43 = .ok (.isub, 1) := by decide +kernel
theorem dX1_lastIsNotBelow_44 : decode cX1_lastIsNotBelow 44 = .ok (.istore 5, 2) := by decide +kernel
theorem dX1_lastIsNotBelow_46 : decode cX1_lastIsNotBelow 46 = .ok (.aload_n 0, 1) := by decide +kernel
theorem dX1_lastIsNotBelow_47 : decode cX1_lastIsNotBelow 47 = .ok (.getfield 20, 3) := by decide +kernel
theorem dX1_lastIsNotBelow_50 : decode cX1_lastIsNotBelow 50 = .ok (.aload_n 0, 1) := by decide +kernel
theorem dX1_lastIsNotBelow_51 : decode cX1_lastIsNotBelow 51 = .ok (.getfield 30, 3) := by decide +kernel
theorem dX1_lastIsNotBelow_54 : decode cX1_lastIsNotBelow 54 = .ok (.iconst 1, 1) := by decide +kernel
theorem dX1_lastIsNotBelow_55 : decode cX1_lastIsNotBelow 55 = .ok (.isub, 1) := by decide +kernel
theorem dX1_lastIsNotBelow_56 : decode cX1_lastIsNotBelow 56 = .ok (.invokevirtual 56, 3) := by decide +kernel
theorem dX1_lastIsNotBelow_59 : decode cX1_lastIsNotBelow 59 = .ok (.iload 4, 2) := by decide +kernel
theorem dX1_lastIsNotBelow_61 : decode cX1_lastIsNotBelow 61 = .ok (.isub, 1) := by decide +kernel
theorem dX1_lastIsNotBelow_62 : decode cX1_lastIsNotBelow 62 = .ok (.istore 6, 2) := by decide +kernel
theorem dX1_lastIsNotBelow_64 : decode cX1_lastIsNotBelow 64 = .ok (.iload 6, 2) := by decide +kernel
theorem dX1_lastIsNotBelow_66 : decode cX1_lastIsNotBelow 66 = .ok (.iload_n 1, 1) := by decide +kernel
theorem dX1_lastIsNotBelow_67 : decode cX1_lastIsNotBelow 67 = .ok (.iload_n 3, 1) := by decide +kernel
theorem dX1_lastIsNotBelow_68 : decode cX1_lastIsNotBelow 68 = .ok (.isub, 1) := by decide +kernel
theorem dX1_lastIsNotBelow_69 : decode cX1_lastIsNotBelow 69 = .ok (.imul, 1) := by decide +kernel
theorem dX1_lastIsNotBelow_70 : decode cX1_lastIsNotBelow 70 = .ok (.iload_n 2, 1) := by decide +kernel
theorem dX1_lastIsNotBelow_71 : decode cX1_lastIsNotBelow 71 = .ok (.iload 4, 2) := by decide +kernel
theorem dX1_lastIsNotBelow_73 : decode cX1_lastIsNotBelow 73 = .ok (.isub, 1) := by decide +kernel
theorem dX1_lastIsNotBelow_74 : decode cX1_lastIsNotBelow 74 = .ok (.iload 5, 2) := by decide +kernel
theorem dX1_lastIsNotBelow_76 : decode cX1_lastIsNotBelow 76 = .ok (.imul, 1) := by decide +kernel
theorem dX1_lastIsNotBelow_77 : decode cX1_lastIsNotBelow 77 = .ok (.if_icmp .lt 7, 3) := by decide +kernel
theorem dX1_lastIsNotBelow_80 : decode cX1_lastIsNotBelow 80 = .ok (.iconst 1, 1) := by decide +kernel
theorem dX1_lastIsNotBelow_81 : decode cX1_lastIsNotBelow 81 = .ok (.goto 4, 3) := by decide +kernel
theorem dX1_lastIsNotBelow_84 : decode cX1_lastIsNotBelow 84 = .ok (.iconst 0, 1) := by decide +kernel
theorem dX1_lastIsNotBelow_85 : decode cX1_lastIsNotBelow 85 = .ok (.ireturn, 1) := by decide +kernel
set_option maxRecDepth 20000 in
theorem ggX1_takeRiseAtMiddle_X2_get : GoodIn wsX1_takeRiseAtMiddle wsX2_get := goodIn_r _ [8, 9, 29] (by decide +kernel) (by decide +kernel)
set_option maxRecDepth 20000 in
theorem gX1_takeRiseAtMiddle_X2_get : GoodIn wsX1_takeRiseAtMiddle (wsV RX1 56 RX2 yX2_get wsX2_get) := goodIn_app (goodIn_of _ (by decide +kernel)) ggX1_takeRiseAtMiddle_X2_get
set_option maxRecDepth 20000 in
theorem ggX1_takeRiseAtMiddle_X1_setRise : GoodIn wsX1_takeRiseAtMiddle wsX1_setRise := goodIn_r _ [14, 15, 16, 17, 18, 19, 20, 21, 22, 13, 23, 24, 25, 26, 27, 28] (by decide +kernel) (by decide +kernel)
set_option maxRecDepth 20000 in
theorem gX1_takeRiseAtMiddle_X1_setRise : GoodIn wsX1_takeRiseAtMiddle (wsV RX1 59 RX1 yX1_setRise wsX1_setRise) := goodIn_app (goodIn_of _ (by decide +kernel)) ggX1_takeRiseAtMiddle_X1_setRise
theorem dX1_takeRiseAtMiddle_0 : decode cX1_takeRiseAtMiddle 0 = .ok (.aload_n 0, 1) := by decide +kernel
theorem dX1_takeRiseAtMiddle_1 : decode cX1_takeRiseAtMiddle 1 = .ok (.getfield 14, 3) := by decide +kernel
theorem dX1_takeRiseAtMiddle_4 : decode cX1_takeRiseAtMiddle 4 = .ok (.iconst 0, 1) := by decide +kernel
theorem dX1_takeRiseAtMiddle_5 : decode cX1_takeRiseAtMiddle 5 = .ok (.invokevirtual 56, 3) := by decide +kernel
theorem dX1_takeRiseAtMiddle_8 : decode cX1_takeRiseAtMiddle 8 = .ok (.aload_n 0, 1) := by decide +kernel
theorem dX1_takeRiseAtMiddle_9 : decode cX1_takeRiseAtMiddle 9 = .ok (.getfield 14, 3) := by decide +kernel
theorem dX1_takeRiseAtMiddle_12 : decode cX1_takeRiseAtMiddle 12 = .ok (.aload_n 0, 1) := by decide +kernel
theorem dX1_takeRiseAtMiddle_13 : decode cX1_takeRiseAtMiddle 13 = .ok (.getfield 30, 3) := by decide +kernel
theorem dX1_takeRiseAtMiddle_16 : decode cX1_takeRiseAtMiddle 16 = .ok (.iconst 1, 1) := by decide +kernel
theorem dX1_takeRiseAtMiddle_17 : decode cX1_takeRiseAtMiddle 17 = .ok (.isub, 1) := by decide +kernel
theorem dX1_takeRiseAtMiddle_18 : decode cX1_takeRiseAtMiddle 18 = .ok (.invokevirtual 56, 3) := by decide +kernel
theorem dX1_takeRiseAtMiddle_21 : decode cX1_takeRiseAtMiddle 21 = .ok (.iadd, 1) := by decide +kernel
theorem dX1_takeRiseAtMiddle_22 : decode cX1_takeRiseAtMiddle 22 = .ok (.istore_n 1, 1) := by decide +kernel
theorem dX1_takeRiseAtMiddle_23 : decode cX1_takeRiseAtMiddle 23 = .ok (.iconst 1, 1) := by decide +kernel
theorem dX1_takeRiseAtMiddle_24 : decode cX1_takeRiseAtMiddle 24 = .ok (.istore_n 2, 1) := by decide +kernel
theorem dX1_takeRiseAtMiddle_25 : decode cX1_takeRiseAtMiddle 25 = .ok (.iload_n 2, 1) := by decide +kernel
theorem dX1_takeRiseAtMiddle_26 : decode cX1_takeRiseAtMiddle 26 = .ok (.aload_n 0, 1) := by decide +kernel
theorem dX1_takeRiseAtMiddle_27 : decode cX1_takeRiseAtMiddle 27 = .ok (.getfield 30, 3) := by decide +kernel
theorem dX1_takeRiseAtMiddle_30 : decode cX1_takeRiseAtMiddle 30 = .ok (.if_icmp .ge 66, 3) := by decide +kernel
theorem dX1_takeRiseAtMiddle_33 : decode cX1_takeRiseAtMiddle 33 = .ok (.iconst 2, 1) := by decide +kernel
theorem dX1_takeRiseAtMiddle_34 : decode cX1_takeRiseAtMiddle 34 = .ok (.aload_n 0, 1) := by decide +kernel
theorem dX1_takeRiseAtMiddle_35 : decode cX1_takeRiseAtMiddle 35 = .ok (.getfield 14, 3) := by decide +kernel
theorem dX1_takeRiseAtMiddle_38 : decode cX1_takeRiseAtMiddle 38 = .ok (.iload_n 2, 1) := by decide +kernel
theorem dX1_takeRiseAtMiddle_39 : decode cX1_takeRiseAtMiddle 39 = .ok (.invokevirtual 56, 3) := by decide +kernel
theorem dX1_takeRiseAtMiddle_42 : decode cX1_takeRiseAtMiddle 42 = .ok (.imul, 1) := by decide +kernel
theorem dX1_takeRiseAtMiddle_43 : decode cX1_takeRiseAtMiddle 43 = .ok (.iload_n 1, 1) := by decide +kernel
theorem dX1_takeRiseAtMiddle_44 : decode cX1_takeRiseAtMiddle 44 = .ok (.if_icmp .lt 46, 3) := by decide +kernel
theorem dX1_takeRiseAtMiddle_47 : decode cX1_takeRiseAtMiddle 47 = .ok (.aload_n 0, 1) := by decide +kernel
theorem dX1_takeRiseAtMiddle_48 : decode cX1_takeRiseAtMiddle 48 = .ok (.aload_n 0, 1) := by decide +kernel
theorem dX1_takeRiseAtMiddle_49 : decode cX1_takeRiseAtMiddle 49 = .ok (.getfield 20, 3) := by decide +kernel
theorem dX1_takeRiseAtMiddle_52 : decode cX1_takeRiseAtMiddle 52 = .ok (.iload_n 2, 1) := by decide +kernel
theorem dX1_takeRiseAtMiddle_53 : decode cX1_takeRiseAtMiddle 53 = .ok (.invokevirtual 56, 3) := by decide +kernel
theorem dX1_takeRiseAtMiddle_56 : decode cX1_takeRiseAtMiddle 56 = .ok (.aload_n 0, 1) := by decide +kernel
theorem dX1_takeRiseAtMiddle_57 : decode cX1_takeRiseAtMiddle 57 = .ok (.getfield 20, 3) := by decide +kernel
theorem dX1_takeRiseAtMiddle_60 : decode cX1_takeRiseAtMiddle 60 = .ok (.iload_n 2, 1) := by decide +kernel
theorem dX1_takeRiseAtMiddle_61 : decode cX1_takeRiseAtMiddle 61 = .ok (.iconst 1, 1) := by decide +kernel
theorem dX1_takeRiseAtMiddle_62 : decode cX1_takeRiseAtMiddle 62 = .ok (.isub, 1) := by decide +kernel
theorem dX1_takeRiseAtMiddle_63 : decode cX1_takeRiseAtMiddle 63 = .ok (.invokevirtual 56, 3) := by decide +kernel
theorem dX1_takeRiseAtMiddle_66 : decode cX1_takeRiseAtMiddle 66 = .ok (.isub, 1) := by decide +kernel
theorem dX1_takeRiseAtMiddle_67 : decode cX1_takeRiseAtMiddle 67 = .ok (.aload_n 0, 1) := by decide +kernel
theorem dX1_takeRiseAtMiddle_68 : decode cX1_takeRiseAtMiddle 68 = .ok (.getfield 14, 3) := by decide +kernel
theorem dX1_takeRiseAtMiddle_71 : decode cX1_takeRiseAtMiddle 71 = .ok (.iload_n 2, 1) := by decide +kernel
theorem dX1_takeRiseAtMiddle_72 : decode cX1_takeRiseAtMiddle 72 = .ok (.invokevirtual 56, 3) := by decide +kernel
theorem dX1_takeRiseAtMiddle_75 : decode cX1_takeRiseAtMiddle 75 = .ok (.aload_n 0, 1) := by decide +kernel
theorem dX1_takeRiseAtMiddle_76 : decode cX1_takeRiseAtMiddle 76 = .ok (.getfield 14, 3) := by decide +kernel
theorem dX1_takeRiseAtMiddle_79 : decode cX1_takeRiseAtMiddle 79 = .ok (.iload_n 2, 1) := by decide +kernel
theorem dX1_takeRiseAtMiddle_80 : decode cX1_takeRiseAtMiddle 80 = .ok (.iconst 1, 1) := by decide +kernel
theorem dX1_takeRiseAtMiddle_81 : decode cX1_takeRiseAtMiddle 81 = .ok (.isub, 1) := by decide +kernel
theorem dX1_takeRiseAtMiddle_82 : decode cX1_takeRiseAtMiddle 82 = .ok (.invokevirtual 56, 3) := by decide +kernel
theorem dX1_takeRiseAtMiddle_85 : decode cX1_takeRiseAtMiddle 85 = .ok (.isub, 1) := by decide +kernel
theorem dX1_takeRiseAtMiddle_86 : decode cX1_takeRiseAtMiddle 86 = .ok (.invokevirtual 59, 3) := by decide +kernel
theorem dX1_takeRiseAtMiddle_89 : decode cX1_takeRiseAtMiddle 89 = .ok (.return_, 1) := by decide +kernel
theorem dX1_takeRiseAtMiddle_90 : decode cX1_takeRiseAtMiddle 90 = .ok (.iinc 2 1, 3) := by decide +kernel
theorem dX1_takeRiseAtMiddle_93 : decode cX1_takeRiseAtMiddle 93 = .ok (.goto (-68), 3) := by decide +kernel
theorem dX1_takeRiseAtMiddle_96 : decode cX1_takeRiseAtMiddle 96 = .ok (.return_, 1) := by decide +kernel
set_option maxRecDepth 20000 in
theorem ggX1_setRise_X1_greatestDivisor : GoodIn wsX1_setRise wsX1_greatestDivisor := goodIn_r _ [10] (by decide +kernel) (by decide +kernel)
set_option maxRecDepth 20000 in
theorem gX1_setRise_X1_greatestDivisor : GoodIn wsX1_setRise (va_wsS RX1 67 yX1_greatestDivisor wsX1_greatestDivisor) := goodIn_app (goodIn_of _ (by decide +kernel)) ggX1_setRise_X1_greatestDivisor
theorem dX1_setRise_0 : decode cX1_setRise 0 = .ok (.iload_n 1, 1) := by decide +kernel
theorem dX1_setRise_1 : decode cX1_setRise 1 = .ok (.invokestatic 62, 3) := by decide +kernel
theorem dX1_setRise_4 : decode cX1_setRise 4 = .ok (.iload_n 2, 1) := by decide +kernel
theorem dX1_setRise_5 : decode cX1_setRise 5 = .ok (.invokestatic 67, 3) := by decide +kernel
theorem dX1_setRise_8 : decode cX1_setRise 8 = .ok (.istore_n 3, 1) := by decide +kernel
theorem dX1_setRise_9 : decode cX1_setRise 9 = .ok (.iload_n 3, 1) := by decide +kernel
theorem dX1_setRise_10 : decode cX1_setRise 10 = .ok (.ifCond .le 17, 3) := by decide +kernel
theorem dX1_setRise_13 : decode cX1_setRise 13 = .ok (.aload_n 0, 1) := by decide +kernel
theorem dX1_setRise_14 : decode cX1_setRise 14 = .ok (.iload_n 1, 1) := by decide +kernel
theorem dX1_setRise_15 : decode cX1_setRise 15 = .ok (.iload_n 3, 1) := by decide +kernel
theorem dX1_setRise_16 : decode cX1_setRise 16 = .ok (.idiv, 1) := by decide +kernel
theorem dX1_setRise_17 : decode cX1_setRise 17 = .ok (.putfield 27, 3) := by decide +kernel
theorem dX1_setRise_20 : decode cX1_setRise 20 = .ok (.aload_n 0, 1) := by decide +kernel
theorem dX1_setRise_21 : decode cX1_setRise 21 = .ok (.iload_n 2, 1) := by decide +kernel
theorem dX1_setRise_22 : decode cX1_setRise 22 = .ok (.iload_n 3, 1) := by decide +kernel
theorem dX1_setRise_23 : decode cX1_setRise 23 = .ok (.idiv, 1) := by decide +kernel
theorem dX1_setRise_24 : decode cX1_setRise 24 = .ok (.putfield 23, 3) := by decide +kernel
theorem dX1_setRise_27 : decode cX1_setRise 27 = .ok (.return_, 1) := by decide +kernel
theorem dX1_greatestDivisor_0 : decode cX1_greatestDivisor 0 = .ok (.iload_n 0, 1) := by decide +kernel
theorem dX1_greatestDivisor_1 : decode cX1_greatestDivisor 1 = .ok (.istore_n 2, 1) := by decide +kernel
theorem dX1_greatestDivisor_2 : decode cX1_greatestDivisor 2 = .ok (.iload_n 1, 1) := by decide +kernel
theorem dX1_greatestDivisor_3 : decode cX1_greatestDivisor 3 = .ok (.istore_n 3, 1) := by decide +kernel
theorem dX1_greatestDivisor_4 : decode cX1_greatestDivisor 4 = .ok (.iconst 0, 1) := by decide +kernel
theorem dX1_greatestDivisor_5 : decode cX1_greatestDivisor 5 = .ok (.istore 4, 2) := by decide +kernel
theorem dX1_greatestDivisor_7 : decode cX1_greatestDivisor 7 = .ok (.iload 4, 2) := by decide +kernel
theorem dX1_greatestDivisor_9 : decode cX1_greatestDivisor 9 = .ok (.bipush 64, 2) := by decide +kernel
theorem dX1_greatestDivisor_11 : decode cX1_greatestDivisor 11 = .ok (.if_icmp .ge 23, 3) := by decide +kernel
theorem dX1_greatestDivisor_14 : decode cX1_greatestDivisor 14 = .ok (.iload_n 3, 1) := by decide +kernel
theorem dX1_greatestDivisor_15 : decode cX1_greatestDivisor 15 = .ok (.ifCond .eq 19, 3) := by decide +kernel
theorem dX1_greatestDivisor_18 : decode cX1_greatestDivisor 18 = .ok (.iload_n 2, 1) := by decide +kernel
theorem dX1_greatestDivisor_19 : decode cX1_greatestDivisor 19 = .ok (.iload_n 3, 1) := by decide +kernel
theorem dX1_greatestDivisor_20 : decode cX1_greatestDivisor 20 = .ok (.irem, 1) := by decide +kernel
theorem dX1_greatestDivisor_21 : decode cX1_greatestDivisor 21 = .ok (.istore 5, 2) := by decide +kernel
theorem dX1_greatestDivisor_23 : decode cX1_greatestDivisor 23 = .ok (.iload_n 3, 1) := by decide +kernel
theorem dX1_greatestDivisor_24 : decode cX1_greatestDivisor 24 = .ok (.istore_n 2, 1) := by decide +kernel
theorem dX1_greatestDivisor_25 : decode cX1_greatestDivisor 25 = .ok (.iload 5, 2) := by decide +kernel
theorem dX1_greatestDivisor_27 : decode cX1_greatestDivisor 27 = .ok (.istore_n 3, 1) := by decide +kernel
theorem dX1_greatestDivisor_28 : decode cX1_greatestDivisor 28 = .ok (.iinc 4 1, 3) := by decide +kernel
theorem dX1_greatestDivisor_31 : decode cX1_greatestDivisor 31 = .ok (.goto (-24), 3) := by decide +kernel
theorem dX1_greatestDivisor_34 : decode cX1_greatestDivisor 34 = .ok (.iload_n 2, 1) := by decide +kernel
theorem dX1_greatestDivisor_35 : decode cX1_greatestDivisor 35 = .ok (.ireturn, 1) := by decide +kernel
set_option maxRecDepth 20000 in
theorem ggX1_riseOver_J9_floorDiv_7cf53 : GoodIn wsX1_riseOver wsJ9_floorDiv_7cf53 := goodIn_r _ [6] (by decide +kernel) (by decide +kernel)
set_option maxRecDepth 20000 in
theorem gX1_riseOver_J9_floorDiv_7cf53 : GoodIn wsX1_riseOver (va_wsS RX1 71 yJ9_floorDiv_7cf53 wsJ9_floorDiv_7cf53) := goodIn_app (goodIn_of _ (by decide +kernel)) ggX1_riseOver_J9_floorDiv_7cf53
theorem dX1_riseOver_0 : decode cX1_riseOver 0 = .ok (.aload_n 0, 1) := by decide +kernel
theorem dX1_riseOver_1 : decode cX1_riseOver 1 = .ok (.getfield 23, 3) := by decide +kernel
theorem dX1_riseOver_4 : decode cX1_riseOver 4 = .ok (.ifCond .le 21, 3) := by decide +kernel
theorem dX1_riseOver_7 : decode cX1_riseOver 7 = .ok (.aload_n 0, 1) := by decide +kernel
theorem dX1_riseOver_8 : decode cX1_riseOver 8 = .ok (.getfield 27, 3) := by decide +kernel
theorem dX1_riseOver_11 : decode cX1_riseOver 11 = .ok (.ineg, 1) := by decide +kernel
theorem dX1_riseOver_12 : decode cX1_riseOver 12 = .ok (.iload_n 1, 1) := by decide +kernel
theorem dX1_riseOver_13 : decode cX1_riseOver 13 = .ok (.imul, 1) := by decide +kernel
theorem dX1_riseOver_14 : decode cX1_riseOver 14 = .ok (.aload_n 0, 1) := by decide +kernel
theorem dX1_riseOver_15 : decode cX1_riseOver 15 = .ok (.getfield 23, 3) := by decide +kernel
theorem dX1_riseOver_18 : decode cX1_riseOver 18 = .ok (.invokestatic 71, 3) := by decide +kernel
theorem dX1_riseOver_21 : decode cX1_riseOver 21 = .ok (.ineg, 1) := by decide +kernel
theorem dX1_riseOver_22 : decode cX1_riseOver 22 = .ok (.goto 4, 3) := by decide +kernel
theorem dX1_riseOver_25 : decode cX1_riseOver 25 = .ok (.iconst 0, 1) := by decide +kernel
theorem dX1_riseOver_26 : decode cX1_riseOver 26 = .ok (.ireturn, 1) := by decide +kernel
theorem dX2_init_0 : decode cX2_init 0 = .ok (.aload_n 0, 1) := by decide +kernel
theorem dX2_init_1 : decode cX2_init 1 = .ok (.invokespecial 1, 3) := by decide +kernel
theorem dX2_init_4 : decode cX2_init 4 = .ok (.aload_n 0, 1) := by decide +kernel
theorem dX2_init_5 : decode cX2_init 5 = .ok (.iload_n 1, 1) := by decide +kernel
theorem dX2_init_6 : decode cX2_init 6 = .ok (.iconst 0, 1) := by decide +kernel
theorem dX2_init_7 : decode cX2_init 7 = .ok (.invokestatic 7, 3) := by decide +kernel
theorem dX2_init_10 : decode cX2_init 10 = .ok (.newarray .int, 2) := by decide +kernel
theorem dX2_init_12 : decode cX2_init 12 = .ok (.putfield 13, 3) := by decide +kernel
theorem dX2_init_15 : decode cX2_init 15 = .ok (.return_, 1) := by decide +kernel
theorem dX2_get_0 : decode cX2_get 0 = .ok (.iload_n 1, 1) := by decide +kernel
theorem dX2_get_1 : decode cX2_get 1 = .ok (.ifCond .lt 21, 3) := by decide +kernel
theorem dX2_get_4 : decode cX2_get 4 = .ok (.iload_n 1, 1) := by decide +kernel
theorem dX2_get_5 : decode cX2_get 5 = .ok (.aload_n 0, 1) := by decide +kernel
theorem dX2_get_6 : decode cX2_get 6 = .ok (.getfield 13, 3) := by decide +kernel
theorem dX2_get_9 : decode cX2_get 9 = .ok (.arraylength, 1) := by decide +kernel
theorem dX2_get_10 : decode cX2_get 10 = .ok (.if_icmp .ge 12, 3) := by decide +kernel
theorem dX2_get_13 : decode cX2_get 13 = .ok (.aload_n 0, 1) := by decide +kernel
theorem dX2_get_14 : decode cX2_get 14 = .ok (.getfield 13, 3) := by decide +kernel
theorem dX2_get_17 : decode cX2_get 17 = .ok (.iload_n 1, 1) := by decide +kernel
theorem dX2_get_18 : decode cX2_get 18 = .ok (.iaload, 1) := by decide +kernel
theorem dX2_get_19 : decode cX2_get 19 = .ok (.goto 4, 3) := by decide +kernel
theorem dX2_get_22 : decode cX2_get 22 = .ok (.iconst 0, 1) := by decide +kernel
theorem dX2_get_23 : decode cX2_get 23 = .ok (.ireturn, 1) := by decide +kernel
theorem dX2_set_0 : decode cX2_set 0 = .ok (.iload_n 1, 1) := by decide +kernel
theorem dX2_set_1 : decode cX2_set 1 = .ok (.ifCond .lt 19, 3) := by decide +kernel
theorem dX2_set_4 : decode cX2_set 4 = .ok (.iload_n 1, 1) := by decide +kernel
theorem dX2_set_5 : decode cX2_set 5 = .ok (.aload_n 0, 1) := by decide +kernel
theorem dX2_set_6 : decode cX2_set 6 = .ok (.getfield 13, 3) := by decide +kernel
theorem dX2_set_9 : decode cX2_set 9 = .ok (.arraylength, 1) := by decide +kernel
theorem dX2_set_10 : decode cX2_set 10 = .ok (.if_icmp .ge 10, 3) := by decide +kernel
theorem dX2_set_13 : decode cX2_set 13 = .ok (.aload_n 0, 1) := by decide +kernel
theorem dX2_set_14 : decode cX2_set 14 = .ok (.getfield 13, 3) := by decide +kernel
theorem dX2_set_17 : decode cX2_set 17 = .ok (.iload_n 1, 1) := by decide +kernel
theorem dX2_set_18 : decode cX2_set 18 = .ok (.iload_n 2, 1) := by decide +kernel
theorem dX2_set_19 : decode cX2_set 19 = .ok (.iastore, 1) := by decide +kernel
theorem dX2_set_20 : decode cX2_set 20 = .ok (.return_, 1) := by decide +kernel
set_option maxRecDepth 20000 in
theorem ggX2_add_X2_get : GoodIn wsX2_add wsX2_get := goodIn_r _ [5, 6, 11] (by decide +kernel) (by decide +kernel)
set_option maxRecDepth 20000 in
theorem gX2_add_X2_get : GoodIn wsX2_add (wsV RX2 19 RX2 yX2_get wsX2_get) := goodIn_app (goodIn_of _ (by decide +kernel)) ggX2_add_X2_get
set_option maxRecDepth 20000 in
theorem ggX2_add_X2_set : GoodIn wsX2_add wsX2_set := goodIn_r _ [10, 6, 11] (by decide +kernel) (by decide +kernel)
set_option maxRecDepth 20000 in
theorem gX2_add_X2_set : GoodIn wsX2_add (wsV RX2 23 RX2 yX2_set wsX2_set) := goodIn_app (goodIn_of _ (by decide +kernel)) ggX2_add_X2_set
theorem dX2_add_0 : decode cX2_add 0 = .ok (.aload_n 0, 1) := by decide +kernel
theorem dX2_add_1 : decode cX2_add 1 = .ok (.iload_n 1, 1) := by decide +kernel
theorem dX2_add_2 : decode cX2_add 2 = .ok (.aload_n 0, 1) := by decide +kernel
theorem dX2_add_3 : decode cX2_add 3 = .ok (.iload_n 1, 1) := by decide +kernel
theorem dX2_add_4 : decode cX2_add 4 = .ok (.invokevirtual 19, 3) := by decide +kernel
theorem dX2_add_7 : decode cX2_add 7 = .ok (.iload_n 2, 1) := by decide +kernel
theorem dX2_add_8 : decode cX2_add 8 = .ok (.iadd, 1) := by decide +kernel
theorem dX2_add_9 : decode cX2_add 9 = .ok (.invokevirtual 23, 3) := by decide +kernel
theorem dX2_add_12 : decode cX2_add 12 = .ok (.return_, 1) := by decide +kernel
set_option maxRecDepth 20000 in
theorem ggX3_init_X2_init : GoodIn wsX3_init wsX2_init := goodIn_r _ [10, 11, 2, 3, 12, 13, 14, 15, 16, 17, 18] (by decide +kernel) (by decide +kernel)
set_option maxRecDepth 20000 in
theorem gX3_init_X2_init : GoodIn wsX3_init (wsX2_init) := ggX3_init_X2_init
theorem dX3_init_0 : decode cX3_init 0 = .ok (.aload_n 0, 1) := by decide +kernel
theorem dX3_init_1 : decode cX3_init 1 = .ok (.invokespecial 3, 3) := by decide +kernel
theorem dX3_init_4 : decode cX3_init 4 = .ok (.aload_n 0, 1) := by decide +kernel
theorem dX3_init_5 : decode cX3_init 5 = .ok (.new 9, 3) := by decide +kernel
theorem dX3_init_8 : decode cX3_init 8 = .ok (.dup, 1) := by decide +kernel
theorem dX3_init_9 : decode cX3_init 9 = .ok (.bipush 32, 2) := by decide +kernel
theorem dX3_init_11 : decode cX3_init 11 = .ok (.invokespecial 11, 3) := by decide +kernel
theorem dX3_init_14 : decode cX3_init 14 = .ok (.putfield 14, 3) := by decide +kernel
theorem dX3_init_17 : decode cX3_init 17 = .ok (.return_, 1) := by decide +kernel
theorem dX3_size_0 : decode cX3_size 0 = .ok (.aload_n 0, 1) := by decide +kernel
theorem dX3_size_1 : decode cX3_size 1 = .ok (.getfield 20, 3) := by decide +kernel
theorem dX3_size_4 : decode cX3_size 4 = .ok (.ireturn, 1) := by decide +kernel
set_option maxRecDepth 20000 in
theorem ggX3_codeAt_X2_get : GoodIn wsX3_codeAt wsX2_get := goodIn_r _ [6, 7, 10] (by decide +kernel) (by decide +kernel)
set_option maxRecDepth 20000 in
theorem gX3_codeAt_X2_get : GoodIn wsX3_codeAt (wsV RX3 24 RX2 yX2_get wsX2_get) := goodIn_app (goodIn_of _ (by decide +kernel)) ggX3_codeAt_X2_get
theorem dX3_codeAt_0 : decode cX3_codeAt 0 = .ok (.aload_n 0, 1) := by decide +kernel
theorem dX3_codeAt_1 : decode cX3_codeAt 1 = .ok (.getfield 14, 3) := by decide +kernel
theorem dX3_codeAt_4 : decode cX3_codeAt 4 = .ok (.iload_n 1, 1) := by decide +kernel
theorem dX3_codeAt_5 : decode cX3_codeAt 5 = .ok (.invokevirtual 24, 3) := by decide +kernel
theorem dX3_codeAt_8 : decode cX3_codeAt 8 = .ok (.ireturn, 1) := by decide +kernel
theorem dX3_clear_0 : decode cX3_clear 0 = .ok (.aload_n 0, 1) := by decide +kernel
theorem dX3_clear_1 : decode cX3_clear 1 = .ok (.iconst 0, 1) := by decide +kernel
theorem dX3_clear_2 : decode cX3_clear 2 = .ok (.putfield 20, 3) := by decide +kernel
theorem dX3_clear_5 : decode cX3_clear 5 = .ok (.return_, 1) := by decide +kernel
set_option maxRecDepth 20000 in
theorem ggX3_put_X2_set : GoodIn wsX3_put wsX2_set := goodIn_r _ [7, 8, 11] (by decide +kernel) (by decide +kernel)
set_option maxRecDepth 20000 in
theorem gX3_put_X2_set : GoodIn wsX3_put (wsV RX3 28 RX2 yX2_set wsX2_set) := goodIn_app (goodIn_of _ (by decide +kernel)) ggX3_put_X2_set
theorem dX3_put_0 : decode cX3_put 0 = .ok (.aload_n 0, 1) := by decide +kernel
theorem dX3_put_1 : decode cX3_put 1 = .ok (.getfield 20, 3) := by decide +kernel
theorem dX3_put_4 : decode cX3_put 4 = .ok (.bipush 32, 2) := by decide +kernel
theorem dX3_put_6 : decode cX3_put 6 = .ok (.if_icmp .ge 25, 3) := by decide +kernel
theorem dX3_put_9 : decode cX3_put 9 = .ok (.aload_n 0, 1) := by decide +kernel
theorem dX3_put_10 : decode cX3_put 10 = .ok (.getfield 14, 3) := by decide +kernel
theorem dX3_put_13 : decode cX3_put 13 = .ok (.aload_n 0, 1) := by decide +kernel
theorem dX3_put_14 : decode cX3_put 14 = .ok (.getfield 20, 3) := by decide +kernel
theorem dX3_put_17 : decode cX3_put 17 = .ok (.iload_n 1, 1) := by decide +kernel
theorem dX3_put_18 : decode cX3_put 18 = .ok (.invokevirtual 28, 3) := by decide +kernel
theorem dX3_put_21 : decode cX3_put 21 = .ok (.aload_n 0, 1) := by decide +kernel
theorem dX3_put_22 : decode cX3_put 22 = .ok (.dup, 1) := by decide +kernel
theorem dX3_put_23 : decode cX3_put 23 = .ok (.getfield 20, 3) := by decide +kernel
theorem dX3_put_26 : decode cX3_put 26 = .ok (.iconst 1, 1) := by decide +kernel
theorem dX3_put_27 : decode cX3_put 27 = .ok (.iadd, 1) := by decide +kernel
theorem dX3_put_28 : decode cX3_put 28 = .ok (.putfield 20, 3) := by decide +kernel
theorem dX3_put_31 : decode cX3_put 31 = .ok (.return_, 1) := by decide +kernel
set_option maxRecDepth 20000 in
theorem ggX3_putWord_J0_length_8abf5 : GoodIn wsX3_putWord wsJ0_length_8abf5 := goodIn_r _ [5, 6, 7, 8, 9, 4, 10, 11, 12] (by decide +kernel) (by decide +kernel)
set_option maxRecDepth 20000 in
theorem gX3_putWord_J0_length_8abf5 : GoodIn wsX3_putWord (wsV RX3 32 RJ0 yJ0_length_8abf5 wsJ0_length_8abf5) := goodIn_app (goodIn_of _ (by decide +kernel)) ggX3_putWord_J0_length_8abf5
set_option maxRecDepth 20000 in
theorem ggX3_putWord_J0_charAt_5068e : GoodIn wsX3_putWord wsJ0_charAt_5068e := goodIn_r _ [16, 6, 17, 18, 19, 4, 20, 11, 12, 21, 22, 23, 24, 25, 26, 27, 28, 29, 30, 31, 32, 33, 34, 35, 36, 37, 38, 39, 40, 41, 42, 43, 44, 45, 46, 47, 48, 49] (by decide +kernel) (by decide +kernel)
set_option maxRecDepth 20000 in
theorem gX3_putWord_J0_charAt_5068e : GoodIn wsX3_putWord (wsV RX3 38 RJ0 yJ0_charAt_5068e wsJ0_charAt_5068e) := goodIn_app (goodIn_of _ (by decide +kernel)) ggX3_putWord_J0_charAt_5068e
set_option maxRecDepth 20000 in
theorem ggX3_putWord_X3_put : GoodIn wsX3_putWord wsX3_put := goodIn_r _ [54, 55, 56, 57, 58, 59, 60, 61, 62, 63, 64, 65] (by decide +kernel) (by decide +kernel)
set_option maxRecDepth 20000 in
theorem gX3_putWord_X3_put : GoodIn wsX3_putWord (wsV RX3 42 RX3 yX3_put wsX3_put) := goodIn_app (goodIn_of _ (by decide +kernel)) ggX3_putWord_X3_put
theorem dX3_putWord_0 : decode cX3_putWord 0 = .ok (.iconst 0, 1) := by decide +kernel
theorem dX3_putWord_1 : decode cX3_putWord 1 = .ok (.istore_n 2, 1) := by decide +kernel
theorem dX3_putWord_2 : decode cX3_putWord 2 = .ok (.iload_n 2, 1) := by decide +kernel
theorem dX3_putWord_3 : decode cX3_putWord 3 = .ok (.aload_n 1, 1) := by decide +kernel
theorem dX3_putWord_4 : decode cX3_putWord 4 = .ok (.invokevirtual 32, 3) := by decide +kernel
theorem dX3_putWord_7 : decode cX3_putWord 7 = .ok (.if_icmp .ge 18, 3) := by decide +kernel
theorem dX3_putWord_10 : decode cX3_putWord 10 = .ok (.aload_n 0, 1) := by decide +kernel
theorem dX3_putWord_11 : decode cX3_putWord 11 = .ok (.aload_n 1, 1) := by decide +kernel
theorem dX3_putWord_12 : decode cX3_putWord 12 = .ok (.iload_n 2, 1) := by decide +kernel
theorem dX3_putWord_13 : decode cX3_putWord 13 = .ok (.invokevirtual 38, 3) := by decide +kernel
theorem dX3_putWord_16 : decode cX3_putWord 16 = .ok (.invokevirtual 42, 3) := by decide +kernel
theorem dX3_putWord_19 : decode cX3_putWord 19 = .ok (.iinc 2 1, 3) := by decide +kernel
theorem dX3_putWord_22 : decode cX3_putWord 22 = .ok (.goto (-20), 3) := by decide +kernel
theorem dX3_putWord_25 : decode cX3_putWord 25 = .ok (.return_, 1) := by decide +kernel
set_option maxRecDepth 20000 in
theorem ggX3_putNumber_X3_put : GoodIn wsX3_putNumber wsX3_put := goodIn_r _ [6, 7, 8, 9, 10, 11, 12, 13, 14, 15, 16, 17] (by decide +kernel) (by decide +kernel)
set_option maxRecDepth 20000 in
theorem gX3_putNumber_X3_put : GoodIn wsX3_putNumber (wsV RX3 42 RX3 yX3_put wsX3_put) := goodIn_app (goodIn_of _ (by decide +kernel)) ggX3_putNumber_X3_put
theorem dX3_putNumber_0 : decode cX3_putNumber 0 = .ok (.iload_n 1, 1) := by decide +kernel
theorem dX3_putNumber_1 : decode cX3_putNumber 1 = .ok (.ifCond .ge 9, 3) := by decide +kernel
theorem dX3_putNumber_4 : decode cX3_putNumber 4 = .ok (.aload_n 0, 1) := by decide +kernel
theorem dX3_putNumber_5 : decode cX3_putNumber 5 = .ok (.bipush 45, 2) := by decide +kernel
theorem dX3_putNumber_7 : decode cX3_putNumber 7 = .ok (.invokevirtual 42, 3) := by decide +kernel
theorem dX3_putNumber_10 : decode cX3_putNumber 10 = .ok (.iload_n 1, 1) := by decide +kernel
theorem dX3_putNumber_11 : decode cX3_putNumber 11 = .ok (.ifCond .ge 7, 3) := by decide +kernel
theorem dX3_putNumber_14 : decode cX3_putNumber 14 = .ok (.iload_n 1, 1) := by decide +kernel
theorem dX3_putNumber_15 : decode cX3_putNumber 15 = .ok (.goto 5, 3) := by decide +kernel
theorem dX3_putNumber_18 : decode cX3_putNumber 18 = .ok (.iload_n 1, 1) := by decide +kernel
theorem dX3_putNumber_19 : decode cX3_putNumber 19 = .ok (.ineg, 1) := by decide +kernel
theorem dX3_putNumber_20 : decode cX3_putNumber 20 = .ok (.istore_n 2, 1) := by decide +kernel
theorem dX3_putNumber_21 : decode cX3_putNumber 21 = .ok (.iconst 0, 1) := by decide +kernel
theorem dX3_putNumber_22 : decode cX3_putNumber 22 = .ok (.istore_n 3, 1) := by decide +kernel
theorem dX3_putNumber_23 : decode cX3_putNumber 23 = .ok (.ldc 45, 2) := by decide +kernel
theorem dX3_putNumber_25 : decode cX3_putNumber 25 = .ok (.istore 4, 2) := by decide +kernel
theorem dX3_putNumber_27 : decode cX3_putNumber 27 = .ok (.iload 4, 2) := by decide +kernel
theorem dX3_putNumber_29 : decode cX3_putNumber 29 = .ok (.ifCond .le 49, 3) := by decide +kernel
theorem dX3_putNumber_32 : decode cX3_putNumber 32 = .ok (.iload_n 2, 1) := by decide +kernel
theorem dX3_putNumber_33 : decode cX3_putNumber 33 = .ok (.iload 4, 2) := by decide +kernel
theorem dX3_putNumber_35 : decode cX3_putNumber 35 = .ok (.idiv, 1) := by decide +kernel
theorem dX3_putNumber_36 : decode cX3_putNumber 36 = .ok (.bipush 10, 2) := by decide +kernel
theorem dX3_putNumber_38 : decode cX3_putNumber 38 = .ok (.irem, 1) := by decide +kernel
theorem dX3_putNumber_39 : decode cX3_putNumber 39 = .ok (.ineg, 1) := by decide +kernel
theorem dX3_putNumber_40 : decode cX3_putNumber 40 = .ok (.istore 5, 2) := by decide +kernel
theorem dX3_putNumber_42 : decode cX3_putNumber 42 = .ok (.iload_n 3, 1) := by decide +kernel
theorem dX3_putNumber_43 : decode cX3_putNumber 43 = .ok (.ifCond .ne 14, 3) := by decide +kernel
theorem dX3_putNumber_46 : decode cX3_putNumber 46 = .ok (.iload 5, 2) := by decide +kernel
theorem dX3_putNumber_48 : decode cX3_putNumber 48 = .ok (.ifCond .ne 9, 3) := by decide +kernel
theorem dX3_putNumber_51 : decode cX3_putNumber 51 = .ok (.iload 4, 2) := by decide +kernel
theorem dX3_putNumber_53 : decode cX3_putNumber 53 = .ok (.iconst 1, 1) := by decide +kernel
theorem dX3_putNumber_54 : decode cX3_putNumber 54 = .ok (.if_icmp .ne 14, 3) := by decide +kernel
theorem dX3_putNumber_57 : decode cX3_putNumber 57 = .ok (.aload_n 0, 1) := by decide +kernel
theorem dX3_putNumber_58 : decode cX3_putNumber 58 = .ok (.bipush 48, 2) := by decide +kernel
theorem dX3_putNumber_60 : decode cX3_putNumber 60 = .ok (.iload 5, 2) := by decide +kernel
theorem dX3_putNumber_62 : decode cX3_putNumber 62 = .ok (.iadd, 1) := by decide +kernel
theorem dX3_putNumber_63 : decode cX3_putNumber 63 = .ok (.invokevirtual 42, 3) := by decide +kernel
theorem dX3_putNumber_66 : decode cX3_putNumber 66 = .ok (.iconst 1, 1) := by decide +kernel
theorem dX3_putNumber_67 : decode cX3_putNumber 67 = .ok (.istore_n 3, 1) := by decide +kernel
theorem dX3_putNumber_68 : decode cX3_putNumber 68 = .ok (.iload 4, 2) := by decide +kernel
theorem dX3_putNumber_70 : decode cX3_putNumber 70 = .ok (.bipush 10, 2) := by decide +kernel
theorem dX3_putNumber_72 : decode cX3_putNumber 72 = .ok (.idiv, 1) := by decide +kernel
theorem dX3_putNumber_73 : decode cX3_putNumber 73 = .ok (.istore 4, 2) := by decide +kernel
theorem dX3_putNumber_75 : decode cX3_putNumber 75 = .ok (.goto (-48), 3) := by decide +kernel
theorem dX3_putNumber_78 : decode cX3_putNumber 78 = .ok (.return_, 1) := by decide +kernel
set_option maxRecDepth 20000 in
theorem ggX4_init_X2_init : GoodIn wsX4_init wsX2_init := goodIn_r _ [17, 18, 2, 3, 19, 20, 21, 22, 23, 24, 25] (by decide +kernel) (by decide +kernel)
set_option maxRecDepth 20000 in
theorem gX4_init_X2_init : GoodIn wsX4_init (wsX2_init) := ggX4_init_X2_init
theorem dX4_init_0 : decode cX4_init 0 = .ok (.aload_n 0, 1) := by decide +kernel
theorem dX4_init_1 : decode cX4_init 1 = .ok (.invokespecial 3, 3) := by decide +kernel
theorem dX4_init_4 : decode cX4_init 4 = .ok (.aload_n 0, 1) := by decide +kernel
theorem dX4_init_5 : decode cX4_init 5 = .ok (.new 9, 3) := by decide +kernel
theorem dX4_init_8 : decode cX4_init 8 = .ok (.dup, 1) := by decide +kernel
theorem dX4_init_9 : decode cX4_init 9 = .ok (.bipush 120, 2) := by decide +kernel
theorem dX4_init_11 : decode cX4_init 11 = .ok (.invokespecial 11, 3) := by decide +kernel
theorem dX4_init_14 : decode cX4_init 14 = .ok (.putfield 14, 3) := by decide +kernel
theorem dX4_init_17 : decode cX4_init 17 = .ok (.aload_n 0, 1) := by decide +kernel
theorem dX4_init_18 : decode cX4_init 18 = .ok (.new 9, 3) := by decide +kernel
theorem dX4_init_21 : decode cX4_init 21 = .ok (.dup, 1) := by decide +kernel
theorem dX4_init_22 : decode cX4_init 22 = .ok (.bipush 120, 2) := by decide +kernel
theorem dX4_init_24 : decode cX4_init 24 = .ok (.invokespecial 11, 3) := by decide +kernel
theorem dX4_init_27 : decode cX4_init 27 = .ok (.putfield 20, 3) := by decide +kernel
theorem dX4_init_30 : decode cX4_init 30 = .ok (.aload_n 0, 1) := by decide +kernel
theorem dX4_init_31 : decode cX4_init 31 = .ok (.new 9, 3) := by decide +kernel
theorem dX4_init_34 : decode cX4_init 34 = .ok (.dup, 1) := by decide +kernel
theorem dX4_init_35 : decode cX4_init 35 = .ok (.bipush 120, 2) := by decide +kernel
theorem dX4_init_37 : decode cX4_init 37 = .ok (.invokespecial 11, 3) := by decide +kernel
theorem dX4_init_40 : decode cX4_init 40 = .ok (.putfield 23, 3) := by decide +kernel
theorem dX4_init_43 : decode cX4_init 43 = .ok (.aload_n 0, 1) := by decide +kernel
theorem dX4_init_44 : decode cX4_init 44 = .ok (.new 9, 3) := by decide +kernel
theorem dX4_init_47 : decode cX4_init 47 = .ok (.dup, 1) := by decide +kernel
theorem dX4_init_48 : decode cX4_init 48 = .ok (.bipush 120, 2) := by decide +kernel
theorem dX4_init_50 : decode cX4_init 50 = .ok (.invokespecial 11, 3) := by decide +kernel
theorem dX4_init_53 : decode cX4_init 53 = .ok (.putfield 26, 3) := by decide +kernel
theorem dX4_init_56 : decode cX4_init 56 = .ok (.aload_n 0, 1) := by decide +kernel
theorem dX4_init_57 : decode cX4_init 57 = .ok (.new 9, 3) := by decide +kernel
theorem dX4_init_60 : decode cX4_init 60 = .ok (.dup, 1) := by decide +kernel
theorem dX4_init_61 : decode cX4_init 61 = .ok (.bipush 120, 2) := by decide +kernel
theorem dX4_init_63 : decode cX4_init 63 = .ok (.invokespecial 11, 3) := by decide +kernel
theorem dX4_init_66 : decode cX4_init 66 = .ok (.putfield 29, 3) := by decide +kernel
theorem dX4_init_69 : decode cX4_init 69 = .ok (.aload_n 0, 1) := by decide +kernel
theorem dX4_init_70 : decode cX4_init 70 = .ok (.new 9, 3) := by decide +kernel
theorem dX4_init_73 : decode cX4_init 73 = .ok (.dup, 1) := by decide +kernel
theorem dX4_init_74 : decode cX4_init 74 = .ok (.bipush 120, 2) := by decide +kernel
theorem dX4_init_76 : decode cX4_init 76 = .ok (.invokespecial 11, 3) := by decide +kernel
theorem dX4_init_79 : decode cX4_init 79 = .ok (.putfield 32, 3) := by decide +kernel
theorem dX4_init_82 : decode cX4_init 82 = .ok (.aload_n 0, 1) := by decide +kernel
theorem dX4_init_83 : decode cX4_init 83 = .ok (.new 9, 3) := by decide +kernel
theorem dX4_init_86 : decode cX4_init 86 = .ok (.dup, 1) := by decide +kernel
theorem dX4_init_87 : decode cX4_init 87 = .ok (.bipush 120, 2) := by decide +kernel
theorem dX4_init_89 : decode cX4_init 89 = .ok (.invokespecial 11, 3) := by decide +kernel
theorem dX4_init_92 : decode cX4_init 92 = .ok (.putfield 35, 3) := by decide +kernel
theorem dX4_init_95 : decode cX4_init 95 = .ok (.aload_n 0, 1) := by decide +kernel
theorem dX4_init_96 : decode cX4_init 96 = .ok (.new 9, 3) := by decide +kernel
theorem dX4_init_99 : decode cX4_init 99 = .ok (.dup, 1) := by decide +kernel
theorem dX4_init_100 : decode cX4_init 100 = .ok (.bipush 120, 2) := by decide +kernel
theorem dX4_init_102 : decode cX4_init 102 = .ok (.invokespecial 11, 3) := by decide +kernel
theorem dX4_init_105 : decode cX4_init 105 = .ok (.putfield 38, 3) := by decide +kernel
theorem dX4_init_108 : decode cX4_init 108 = .ok (.return_, 1) := by decide +kernel
theorem dX4_count_0 : decode cX4_count 0 = .ok (.aload_n 0, 1) := by decide +kernel
theorem dX4_count_1 : decode cX4_count 1 = .ok (.getfield 41, 3) := by decide +kernel
theorem dX4_count_4 : decode cX4_count 4 = .ok (.ireturn, 1) := by decide +kernel
set_option maxRecDepth 20000 in
theorem ggX4_headOf_X2_get : GoodIn wsX4_headOf wsX2_get := goodIn_r _ [6, 7, 17] (by decide +kernel) (by decide +kernel)
set_option maxRecDepth 20000 in
theorem gX4_headOf_X2_get : GoodIn wsX4_headOf (wsV RX4 45 RX2 yX2_get wsX2_get) := goodIn_app (goodIn_of _ (by decide +kernel)) ggX4_headOf_X2_get
theorem dX4_headOf_0 : decode cX4_headOf 0 = .ok (.aload_n 0, 1) := by decide +kernel
theorem dX4_headOf_1 : decode cX4_headOf 1 = .ok (.getfield 14, 3) := by decide +kernel
theorem dX4_headOf_4 : decode cX4_headOf 4 = .ok (.iload_n 1, 1) := by decide +kernel
theorem dX4_headOf_5 : decode cX4_headOf 5 = .ok (.invokevirtual 45, 3) := by decide +kernel
theorem dX4_headOf_8 : decode cX4_headOf 8 = .ok (.ireturn, 1) := by decide +kernel
set_option maxRecDepth 20000 in
theorem ggX4_pauseOf_X2_get : GoodIn wsX4_pauseOf wsX2_get := goodIn_r _ [6, 7, 17] (by decide +kernel) (by decide +kernel)
set_option maxRecDepth 20000 in
theorem gX4_pauseOf_X2_get : GoodIn wsX4_pauseOf (wsV RX4 45 RX2 yX2_get wsX2_get) := goodIn_app (goodIn_of _ (by decide +kernel)) ggX4_pauseOf_X2_get
theorem dX4_pauseOf_0 : decode cX4_pauseOf 0 = .ok (.aload_n 0, 1) := by decide +kernel
theorem dX4_pauseOf_1 : decode cX4_pauseOf 1 = .ok (.getfield 20, 3) := by decide +kernel
theorem dX4_pauseOf_4 : decode cX4_pauseOf 4 = .ok (.iload_n 1, 1) := by decide +kernel
theorem dX4_pauseOf_5 : decode cX4_pauseOf 5 = .ok (.invokevirtual 45, 3) := by decide +kernel
theorem dX4_pauseOf_8 : decode cX4_pauseOf 8 = .ok (.ireturn, 1) := by decide +kernel
set_option maxRecDepth 20000 in
theorem ggX4_timeOf_X2_get : GoodIn wsX4_timeOf wsX2_get := goodIn_r _ [6, 7, 17] (by decide +kernel) (by decide +kernel)
set_option maxRecDepth 20000 in
theorem gX4_timeOf_X2_get : GoodIn wsX4_timeOf (wsV RX4 45 RX2 yX2_get wsX2_get) := goodIn_app (goodIn_of _ (by decide +kernel)) ggX4_timeOf_X2_get
theorem dX4_timeOf_0 : decode cX4_timeOf 0 = .ok (.aload_n 0, 1) := by decide +kernel
theorem dX4_timeOf_1 : decode cX4_timeOf 1 = .ok (.getfield 23, 3) := by decide +kernel
theorem dX4_timeOf_4 : decode cX4_timeOf 4 = .ok (.iload_n 1, 1) := by decide +kernel
theorem dX4_timeOf_5 : decode cX4_timeOf 5 = .ok (.invokevirtual 45, 3) := by decide +kernel
theorem dX4_timeOf_8 : decode cX4_timeOf 8 = .ok (.ireturn, 1) := by decide +kernel
set_option maxRecDepth 20000 in
theorem ggX4_mannerOf_X2_get : GoodIn wsX4_mannerOf wsX2_get := goodIn_r _ [6, 7, 17] (by decide +kernel) (by decide +kernel)
set_option maxRecDepth 20000 in
theorem gX4_mannerOf_X2_get : GoodIn wsX4_mannerOf (wsV RX4 45 RX2 yX2_get wsX2_get) := goodIn_app (goodIn_of _ (by decide +kernel)) ggX4_mannerOf_X2_get
theorem dX4_mannerOf_0 : decode cX4_mannerOf 0 = .ok (.aload_n 0, 1) := by decide +kernel
theorem dX4_mannerOf_1 : decode cX4_mannerOf 1 = .ok (.getfield 26, 3) := by decide +kernel
theorem dX4_mannerOf_4 : decode cX4_mannerOf 4 = .ok (.iload_n 1, 1) := by decide +kernel
theorem dX4_mannerOf_5 : decode cX4_mannerOf 5 = .ok (.invokevirtual 45, 3) := by decide +kernel
theorem dX4_mannerOf_8 : decode cX4_mannerOf 8 = .ok (.ireturn, 1) := by decide +kernel
set_option maxRecDepth 20000 in
theorem ggX4_cameOf_X2_get : GoodIn wsX4_cameOf wsX2_get := goodIn_r _ [6, 7, 17] (by decide +kernel) (by decide +kernel)
set_option maxRecDepth 20000 in
theorem gX4_cameOf_X2_get : GoodIn wsX4_cameOf (wsV RX4 45 RX2 yX2_get wsX2_get) := goodIn_app (goodIn_of _ (by decide +kernel)) ggX4_cameOf_X2_get
theorem dX4_cameOf_0 : decode cX4_cameOf 0 = .ok (.aload_n 0, 1) := by decide +kernel
theorem dX4_cameOf_1 : decode cX4_cameOf 1 = .ok (.getfield 29, 3) := by decide +kernel
theorem dX4_cameOf_4 : decode cX4_cameOf 4 = .ok (.iload_n 1, 1) := by decide +kernel
theorem dX4_cameOf_5 : decode cX4_cameOf 5 = .ok (.invokevirtual 45, 3) := by decide +kernel
theorem dX4_cameOf_8 : decode cX4_cameOf 8 = .ok (.ireturn, 1) := by decide +kernel
set_option maxRecDepth 20000 in
theorem ggX4_playedOf_X2_get : GoodIn wsX4_playedOf wsX2_get := goodIn_r _ [6, 7, 17] (by decide +kernel) (by decide +kernel)
set_option maxRecDepth 20000 in
theorem gX4_playedOf_X2_get : GoodIn wsX4_playedOf (wsV RX4 45 RX2 yX2_get wsX2_get) := goodIn_app (goodIn_of _ (by decide +kernel)) ggX4_playedOf_X2_get
theorem dX4_playedOf_0 : decode cX4_playedOf 0 = .ok (.aload_n 0, 1) := by decide +kernel
theorem dX4_playedOf_1 : decode cX4_playedOf 1 = .ok (.getfield 32, 3) := by decide +kernel
theorem dX4_playedOf_4 : decode cX4_playedOf 4 = .ok (.iload_n 1, 1) := by decide +kernel
theorem dX4_playedOf_5 : decode cX4_playedOf 5 = .ok (.invokevirtual 45, 3) := by decide +kernel
theorem dX4_playedOf_8 : decode cX4_playedOf 8 = .ok (.ireturn, 1) := by decide +kernel
set_option maxRecDepth 20000 in
theorem ggX4_greatestOf_X2_get : GoodIn wsX4_greatestOf wsX2_get := goodIn_r _ [6, 7, 17] (by decide +kernel) (by decide +kernel)
set_option maxRecDepth 20000 in
theorem gX4_greatestOf_X2_get : GoodIn wsX4_greatestOf (wsV RX4 45 RX2 yX2_get wsX2_get) := goodIn_app (goodIn_of _ (by decide +kernel)) ggX4_greatestOf_X2_get
theorem dX4_greatestOf_0 : decode cX4_greatestOf 0 = .ok (.aload_n 0, 1) := by decide +kernel
theorem dX4_greatestOf_1 : decode cX4_greatestOf 1 = .ok (.getfield 35, 3) := by decide +kernel
theorem dX4_greatestOf_4 : decode cX4_greatestOf 4 = .ok (.iload_n 1, 1) := by decide +kernel
theorem dX4_greatestOf_5 : decode cX4_greatestOf 5 = .ok (.invokevirtual 45, 3) := by decide +kernel
theorem dX4_greatestOf_8 : decode cX4_greatestOf 8 = .ok (.ireturn, 1) := by decide +kernel
set_option maxRecDepth 20000 in
theorem ggX4_missingOf_X2_get : GoodIn wsX4_missingOf wsX2_get := goodIn_r _ [8, 9, 19] (by decide +kernel) (by decide +kernel)
set_option maxRecDepth 20000 in
theorem gX4_missingOf_X2_get : GoodIn wsX4_missingOf (wsV RX4 45 RX2 yX2_get wsX2_get) := goodIn_app (goodIn_of _ (by decide +kernel)) ggX4_missingOf_X2_get
theorem dX4_missingOf_0 : decode cX4_missingOf 0 = .ok (.aload_n 0, 1) := by decide +kernel
theorem dX4_missingOf_1 : decode cX4_missingOf 1 = .ok (.getfield 35, 3) := by decide +kernel
theorem dX4_missingOf_4 : decode cX4_missingOf 4 = .ok (.iload_n 1, 1) := by decide +kernel
theorem dX4_missingOf_5 : decode cX4_missingOf 5 = .ok (.invokevirtual 45, 3) := by decide +kernel
theorem dX4_missingOf_8 : decode cX4_missingOf 8 = .ok (.aload_n 0, 1) := by decide +kernel
theorem dX4_missingOf_9 : decode cX4_missingOf 9 = .ok (.getfield 14, 3) := by decide +kernel
theorem dX4_missingOf_12 : decode cX4_missingOf 12 = .ok (.iload_n 1, 1) := by decide +kernel
theorem dX4_missingOf_13 : decode cX4_missingOf 13 = .ok (.invokevirtual 45, 3) := by decide +kernel
theorem dX4_missingOf_16 : decode cX4_missingOf 16 = .ok (.isub, 1) := by decide +kernel
theorem dX4_missingOf_17 : decode cX4_missingOf 17 = .ok (.iconst 1, 1) := by decide +kernel
theorem dX4_missingOf_18 : decode cX4_missingOf 18 = .ok (.iadd, 1) := by decide +kernel
theorem dX4_missingOf_19 : decode cX4_missingOf 19 = .ok (.aload_n 0, 1) := by decide +kernel
theorem dX4_missingOf_20 : decode cX4_missingOf 20 = .ok (.getfield 29, 3) := by decide +kernel
theorem dX4_missingOf_23 : decode cX4_missingOf 23 = .ok (.iload_n 1, 1) := by decide +kernel
theorem dX4_missingOf_24 : decode cX4_missingOf 24 = .ok (.invokevirtual 45, 3) := by decide +kernel
theorem dX4_missingOf_27 : decode cX4_missingOf 27 = .ok (.isub, 1) := by decide +kernel
theorem dX4_missingOf_28 : decode cX4_missingOf 28 = .ok (.ireturn, 1) := by decide +kernel
set_option maxRecDepth 20000 in
theorem ggX4_atRank_X2_get : GoodIn wsX4_atRank wsX2_get := goodIn_r _ [6, 7, 17] (by decide +kernel) (by decide +kernel)
set_option maxRecDepth 20000 in
theorem gX4_atRank_X2_get : GoodIn wsX4_atRank (wsV RX4 45 RX2 yX2_get wsX2_get) := goodIn_app (goodIn_of _ (by decide +kernel)) ggX4_atRank_X2_get
theorem dX4_atRank_0 : decode cX4_atRank 0 = .ok (.aload_n 0, 1) := by decide +kernel
theorem dX4_atRank_1 : decode cX4_atRank 1 = .ok (.getfield 38, 3) := by decide +kernel
theorem dX4_atRank_4 : decode cX4_atRank 4 = .ok (.iload_n 1, 1) := by decide +kernel
theorem dX4_atRank_5 : decode cX4_atRank 5 = .ok (.invokevirtual 45, 3) := by decide +kernel
theorem dX4_atRank_8 : decode cX4_atRank 8 = .ok (.ireturn, 1) := by decide +kernel
set_option maxRecDepth 20000 in
theorem ggX4_playedOfAll_X4_playedOf : GoodIn wsX4_playedOfAll wsX4_playedOf := goodIn_r _ [6, 7, 8, 9, 10, 11, 12, 13, 14, 15, 16, 17, 18, 19, 20, 21, 22, 23] (by decide +kernel) (by decide +kernel)
set_option maxRecDepth 20000 in
theorem gX4_playedOfAll_X4_playedOf : GoodIn wsX4_playedOfAll (wsV RX4 49 RX4 yX4_playedOf wsX4_playedOf) := goodIn_app (goodIn_of _ (by decide +kernel)) ggX4_playedOfAll_X4_playedOf
theorem dX4_playedOfAll_0 : decode cX4_playedOfAll 0 = .ok (.iconst 0, 1) := by decide +kernel
theorem dX4_playedOfAll_1 : decode cX4_playedOfAll 1 = .ok (.istore_n 1, 1) := by decide +kernel
theorem dX4_playedOfAll_2 : decode cX4_playedOfAll 2 = .ok (.iconst 0, 1) := by decide +kernel
theorem dX4_playedOfAll_3 : decode cX4_playedOfAll 3 = .ok (.istore_n 2, 1) := by decide +kernel
theorem dX4_playedOfAll_4 : decode cX4_playedOfAll 4 = .ok (.iload_n 2, 1) := by decide +kernel
theorem dX4_playedOfAll_5 : decode cX4_playedOfAll 5 = .ok (.aload_n 0, 1) := by decide +kernel
theorem dX4_playedOfAll_6 : decode cX4_playedOfAll 6 = .ok (.getfield 41, 3) := by decide +kernel
theorem dX4_playedOfAll_9 : decode cX4_playedOfAll 9 = .ok (.if_icmp .ge 17, 3) := by decide +kernel
theorem dX4_playedOfAll_12 : decode cX4_playedOfAll 12 = .ok (.iload_n 1, 1) := by decide +kernel
theorem dX4_playedOfAll_13 : decode cX4_playedOfAll 13 = .ok (.aload_n 0, 1) := by decide +kernel
theorem dX4_playedOfAll_14 : decode cX4_playedOfAll 14 = .ok (.iload_n 2, 1) := by decide +kernel
theorem dX4_playedOfAll_15 : decode cX4_playedOfAll 15 = .ok (.invokevirtual 49, 3) := by decide +kernel
theorem dX4_playedOfAll_18 : decode cX4_playedOfAll 18 = .ok (.iadd, 1) := by decide +kernel
theorem dX4_playedOfAll_19 : decode cX4_playedOfAll 19 = .ok (.istore_n 1, 1) := by decide +kernel
theorem dX4_playedOfAll_20 : decode cX4_playedOfAll 20 = .ok (.iinc 2 1, 3) := by decide +kernel
theorem dX4_playedOfAll_23 : decode cX4_playedOfAll 23 = .ok (.goto (-19), 3) := by decide +kernel
theorem dX4_playedOfAll_26 : decode cX4_playedOfAll 26 = .ok (.iload_n 1, 1) := by decide +kernel
theorem dX4_playedOfAll_27 : decode cX4_playedOfAll 27 = .ok (.ireturn, 1) := by decide +kernel
set_option maxRecDepth 20000 in
theorem ggX4_missingOfAll_X4_missingOf : GoodIn wsX4_missingOfAll wsX4_missingOf := goodIn_r _ [6, 7, 8, 9, 10, 11, 12, 13, 14, 15, 16, 17, 18, 19, 20, 21, 22, 23, 24, 25] (by decide +kernel) (by decide +kernel)
set_option maxRecDepth 20000 in
theorem gX4_missingOfAll_X4_missingOf : GoodIn wsX4_missingOfAll (wsV RX4 52 RX4 yX4_missingOf wsX4_missingOf) := goodIn_app (goodIn_of _ (by decide +kernel)) ggX4_missingOfAll_X4_missingOf
theorem dX4_missingOfAll_0 : decode cX4_missingOfAll 0 = .ok (.iconst 0, 1) := by decide +kernel
theorem dX4_missingOfAll_1 : decode cX4_missingOfAll 1 = .ok (.istore_n 1, 1) := by decide +kernel
theorem dX4_missingOfAll_2 : decode cX4_missingOfAll 2 = .ok (.iconst 0, 1) := by decide +kernel
theorem dX4_missingOfAll_3 : decode cX4_missingOfAll 3 = .ok (.istore_n 2, 1) := by decide +kernel
theorem dX4_missingOfAll_4 : decode cX4_missingOfAll 4 = .ok (.iload_n 2, 1) := by decide +kernel
theorem dX4_missingOfAll_5 : decode cX4_missingOfAll 5 = .ok (.aload_n 0, 1) := by decide +kernel
theorem dX4_missingOfAll_6 : decode cX4_missingOfAll 6 = .ok (.getfield 41, 3) := by decide +kernel
theorem dX4_missingOfAll_9 : decode cX4_missingOfAll 9 = .ok (.if_icmp .ge 17, 3) := by decide +kernel
theorem dX4_missingOfAll_12 : decode cX4_missingOfAll 12 = .ok (.iload_n 1, 1) := by decide +kernel
theorem dX4_missingOfAll_13 : decode cX4_missingOfAll 13 = .ok (.aload_n 0, 1) := by decide +kernel
theorem dX4_missingOfAll_14 : decode cX4_missingOfAll 14 = .ok (.iload_n 2, 1) := by decide +kernel
theorem dX4_missingOfAll_15 : decode cX4_missingOfAll 15 = .ok (.invokevirtual 52, 3) := by decide +kernel
theorem dX4_missingOfAll_18 : decode cX4_missingOfAll 18 = .ok (.iadd, 1) := by decide +kernel
theorem dX4_missingOfAll_19 : decode cX4_missingOfAll 19 = .ok (.istore_n 1, 1) := by decide +kernel
theorem dX4_missingOfAll_20 : decode cX4_missingOfAll 20 = .ok (.iinc 2 1, 3) := by decide +kernel
theorem dX4_missingOfAll_23 : decode cX4_missingOfAll 23 = .ok (.goto (-19), 3) := by decide +kernel
theorem dX4_missingOfAll_26 : decode cX4_missingOfAll 26 = .ok (.iload_n 1, 1) := by decide +kernel
theorem dX4_missingOfAll_27 : decode cX4_missingOfAll 27 = .ok (.ireturn, 1) := by decide +kernel
set_option maxRecDepth 20000 in
theorem ggX4_withHead_X2_get : GoodIn wsX4_withHead wsX2_get := goodIn_r _ [7, 8, 18] (by decide +kernel) (by decide +kernel)
set_option maxRecDepth 20000 in
theorem gX4_withHead_X2_get : GoodIn wsX4_withHead (wsV RX4 45 RX2 yX2_get wsX2_get) := goodIn_app (goodIn_of _ (by decide +kernel)) ggX4_withHead_X2_get
theorem dX4_withHead_0 : decode cX4_withHead 0 = .ok (.iconst 0, 1) := by decide +kernel
theorem dX4_withHead_1 : decode cX4_withHead 1 = .ok (.istore_n 2, 1) := by decide +kernel
theorem dX4_withHead_2 : decode cX4_withHead 2 = .ok (.iload_n 2, 1) := by decide +kernel
theorem dX4_withHead_3 : decode cX4_withHead 3 = .ok (.aload_n 0, 1) := by decide +kernel
theorem dX4_withHead_4 : decode cX4_withHead 4 = .ok (.getfield 41, 3) := by decide +kernel
theorem dX4_withHead_7 : decode cX4_withHead 7 = .ok (.if_icmp .ge 23, 3) := by decide +kernel
theorem dX4_withHead_10 : decode cX4_withHead 10 = .ok (.aload_n 0, 1) := by decide +kernel
theorem dX4_withHead_11 : decode cX4_withHead 11 = .ok (.getfield 14, 3) := by decide +kernel
theorem dX4_withHead_14 : decode cX4_withHead 14 = .ok (.iload_n 2, 1) := by decide +kernel
theorem dX4_withHead_15 : decode cX4_withHead 15 = .ok (.invokevirtual 45, 3) := by decide +kernel
theorem dX4_withHead_18 : decode cX4_withHead 18 = .ok (.iload_n 1, 1) := by decide +kernel
theorem dX4_withHead_19 : decode cX4_withHead 19 = .ok (.if_icmp .ne 5, 3) := by decide +kernel
theorem dX4_withHead_22 : decode cX4_withHead 22 = .ok (.iload_n 2, 1) := by decide +kernel
theorem dX4_withHead_23 : decode cX4_withHead 23 = .ok (.ireturn, 1) := by decide +kernel
theorem dX4_withHead_24 : decode cX4_withHead 24 = .ok (.iinc 2 1, 3) := by decide +kernel
theorem dX4_withHead_27 : decode cX4_withHead 27 = .ok (.goto (-25), 3) := by decide +kernel
theorem dX4_withHead_30 : decode cX4_withHead 30 = .ok (.iconst (-1), 1) := by decide +kernel
theorem dX4_withHead_31 : decode cX4_withHead 31 = .ok (.ireturn, 1) := by decide +kernel
set_option maxRecDepth 20000 in
theorem ggX4_bar_X2_get : GoodIn wsX4_bar wsX2_get := goodIn_r _ [8, 9, 25] (by decide +kernel) (by decide +kernel)
set_option maxRecDepth 20000 in
theorem gX4_bar_X2_get : GoodIn wsX4_bar (wsV RX4 45 RX2 yX2_get wsX2_get) := goodIn_app (goodIn_of _ (by decide +kernel)) ggX4_bar_X2_get
set_option maxRecDepth 20000 in
theorem ggX4_bar_X4_isInTheWay : GoodIn wsX4_bar wsX4_isInTheWay := goodIn_r _ [14, 2, 15, 3, 4, 5, 6, 7, 8, 9, 16, 17, 18, 19, 20, 21, 22, 23, 24, 25] (by decide +kernel) (by decide +kernel)
set_option maxRecDepth 20000 in
theorem gX4_bar_X4_isInTheWay : GoodIn wsX4_bar (wsV RX4 55 RX4 yX4_isInTheWay wsX4_isInTheWay) := goodIn_app (goodIn_of _ (by decide +kernel)) ggX4_bar_X4_isInTheWay
theorem dX4_bar_0 : decode cX4_bar 0 = .ok (.iconst 0, 1) := by decide +kernel
theorem dX4_bar_1 : decode cX4_bar 1 = .ok (.istore 4, 2) := by decide +kernel
theorem dX4_bar_3 : decode cX4_bar 3 = .ok (.iload 4, 2) := by decide +kernel
theorem dX4_bar_5 : decode cX4_bar 5 = .ok (.aload_n 0, 1) := by decide +kernel
theorem dX4_bar_6 : decode cX4_bar 6 = .ok (.getfield 41, 3) := by decide +kernel
theorem dX4_bar_9 : decode cX4_bar 9 = .ok (.if_icmp .ge 61, 3) := by decide +kernel
theorem dX4_bar_12 : decode cX4_bar 12 = .ok (.aload_n 0, 1) := by decide +kernel
theorem dX4_bar_13 : decode cX4_bar 13 = .ok (.getfield 14, 3) := by decide +kernel
theorem dX4_bar_16 : decode cX4_bar 16 = .ok (.iload 4, 2) := by decide +kernel
theorem dX4_bar_18 : decode cX4_bar 18 = .ok (.invokevirtual 45, 3) := by decide +kernel
theorem dX4_bar_21 : decode cX4_bar 21 = .ok (.iload_n 2, 1) := by decide +kernel
theorem dX4_bar_22 : decode cX4_bar 22 = .ok (.if_icmp .ne 20, 3) := by decide +kernel
theorem dX4_bar_25 : decode cX4_bar 25 = .ok (.aload_n 0, 1) := by decide +kernel
theorem dX4_bar_26 : decode cX4_bar 26 = .ok (.getfield 20, 3) := by decide +kernel
theorem dX4_bar_29 : decode cX4_bar 29 = .ok (.iload 4, 2) := by decide +kernel
theorem dX4_bar_31 : decode cX4_bar 31 = .ok (.invokevirtual 45, 3) := by decide +kernel
theorem dX4_bar_34 : decode cX4_bar 34 = .ok (.iload_n 3, 1) := by decide +kernel
theorem dX4_bar_35 : decode cX4_bar 35 = .ok (.if_icmp .eq 7, 3) := by decide +kernel
theorem dX4_bar_38 : decode cX4_bar 38 = .ok (.iconst 1, 1) := by decide +kernel
theorem dX4_bar_39 : decode cX4_bar 39 = .ok (.goto 4, 3) := by decide +kernel
theorem dX4_bar_42 : decode cX4_bar 42 = .ok (.iconst 0, 1) := by decide +kernel
theorem dX4_bar_43 : decode cX4_bar 43 = .ok (.istore 5, 2) := by decide +kernel
theorem dX4_bar_45 : decode cX4_bar 45 = .ok (.iload 5, 2) := by decide +kernel
theorem dX4_bar_47 : decode cX4_bar 47 = .ok (.ifCond .ne 15, 3) := by decide +kernel
theorem dX4_bar_50 : decode cX4_bar 50 = .ok (.aload_n 0, 1) := by decide +kernel
theorem dX4_bar_51 : decode cX4_bar 51 = .ok (.iload 4, 2) := by decide +kernel
theorem dX4_bar_53 : decode cX4_bar 53 = .ok (.iload_n 1, 1) := by decide +kernel
theorem dX4_bar_54 : decode cX4_bar 54 = .ok (.iload_n 2, 1) := by decide +kernel
theorem dX4_bar_55 : decode cX4_bar 55 = .ok (.iload_n 3, 1) := by decide +kernel
theorem dX4_bar_56 : decode cX4_bar 56 = .ok (.invokevirtual 55, 3) := by decide +kernel
theorem dX4_bar_59 : decode cX4_bar 59 = .ok (.ifCond .eq 5, 3) := by decide +kernel
theorem dX4_bar_62 : decode cX4_bar 62 = .ok (.iconst 1, 1) := by decide +kernel
theorem dX4_bar_63 : decode cX4_bar 63 = .ok (.ireturn, 1) := by decide +kernel
theorem dX4_bar_64 : decode cX4_bar 64 = .ok (.iinc 4 1, 3) := by decide +kernel
theorem dX4_bar_67 : decode cX4_bar 67 = .ok (.goto (-64), 3) := by decide +kernel
theorem dX4_bar_70 : decode cX4_bar 70 = .ok (.iconst 0, 1) := by decide +kernel
theorem dX4_bar_71 : decode cX4_bar 71 = .ok (.ireturn, 1) := by decide +kernel
set_option maxRecDepth 20000 in
theorem ggX4_isInTheWay_X2_get : GoodIn wsX4_isInTheWay wsX2_get := goodIn_r _ [8, 9, 19] (by decide +kernel) (by decide +kernel)
set_option maxRecDepth 20000 in
theorem gX4_isInTheWay_X2_get : GoodIn wsX4_isInTheWay (wsV RX4 45 RX2 yX2_get wsX2_get) := goodIn_app (goodIn_of _ (by decide +kernel)) ggX4_isInTheWay_X2_get
theorem dX4_isInTheWay_0 : decode cX4_isInTheWay 0 = .ok (.aload_n 0, 1) := by decide +kernel
theorem dX4_isInTheWay_1 : decode cX4_isInTheWay 1 = .ok (.getfield 14, 3) := by decide +kernel
theorem dX4_isInTheWay_4 : decode cX4_isInTheWay 4 = .ok (.iload_n 1, 1) := by decide +kernel
theorem dX4_isInTheWay_5 : decode cX4_isInTheWay 5 = .ok (.invokevirtual 45, 3) := by decide +kernel
theorem dX4_isInTheWay_8 : decode cX4_isInTheWay 8 = .ok (.istore 5, 2) := by decide +kernel
theorem dX4_isInTheWay_10 : decode cX4_isInTheWay 10 = .ok (.iload 5, 2) := by decide +kernel
theorem dX4_isInTheWay_12 : decode cX4_isInTheWay 12 = .ok (.iload_n 3, 1) := by decide +kernel
theorem dX4_isInTheWay_13 : decode cX4_isInTheWay 13 = .ok (.if_icmp .ge 24, 3) := by decide +kernel
theorem dX4_isInTheWay_16 : decode cX4_isInTheWay 16 = .ok (.aload_n 0, 1) := by decide +kernel
theorem dX4_isInTheWay_17 : decode cX4_isInTheWay 17 = .ok (.getfield 35, 3) := by decide +kernel
theorem dX4_isInTheWay_20 : decode cX4_isInTheWay 20 = .ok (.iload_n 1, 1) := by decide +kernel
theorem dX4_isInTheWay_21 : decode cX4_isInTheWay 21 = .ok (.invokevirtual 45, 3) := by decide +kernel
theorem dX4_isInTheWay_24 : decode cX4_isInTheWay 24 = .ok (.iload_n 3, 1) := by decide +kernel
theorem dX4_isInTheWay_25 : decode cX4_isInTheWay 25 = .ok (.iload 4, 2) := by decide +kernel
theorem dX4_isInTheWay_27 : decode cX4_isInTheWay 27 = .ok (.isub, 1) := by decide +kernel
theorem dX4_isInTheWay_28 : decode cX4_isInTheWay 28 = .ok (.if_icmp .lt 7, 3) := by decide +kernel
theorem dX4_isInTheWay_31 : decode cX4_isInTheWay 31 = .ok (.iconst 1, 1) := by decide +kernel
theorem dX4_isInTheWay_32 : decode cX4_isInTheWay 32 = .ok (.goto 4, 3) := by decide +kernel
theorem dX4_isInTheWay_35 : decode cX4_isInTheWay 35 = .ok (.iconst 0, 1) := by decide +kernel
theorem dX4_isInTheWay_36 : decode cX4_isInTheWay 36 = .ok (.ireturn, 1) := by decide +kernel
theorem dX4_isInTheWay_37 : decode cX4_isInTheWay 37 = .ok (.iload 5, 2) := by decide +kernel
theorem dX4_isInTheWay_39 : decode cX4_isInTheWay 39 = .ok (.iload_n 3, 1) := by decide +kernel
theorem dX4_isInTheWay_40 : decode cX4_isInTheWay 40 = .ok (.if_icmp .le 22, 3) := by decide +kernel
theorem dX4_isInTheWay_43 : decode cX4_isInTheWay 43 = .ok (.iload_n 2, 1) := by decide +kernel
theorem dX4_isInTheWay_44 : decode cX4_isInTheWay 44 = .ok (.iload 5, 2) := by decide +kernel
theorem dX4_isInTheWay_46 : decode cX4_isInTheWay 46 = .ok (.aload_n 0, 1) := by decide +kernel
theorem dX4_isInTheWay_47 : decode cX4_isInTheWay 47 = .ok (.getfield 20, 3) := by decide +kernel
theorem dX4_isInTheWay_50 : decode cX4_isInTheWay 50 = .ok (.iload_n 1, 1) := by decide +kernel
theorem dX4_isInTheWay_51 : decode cX4_isInTheWay 51 = .ok (.invokevirtual 45, 3) := by decide +kernel
theorem dX4_isInTheWay_54 : decode cX4_isInTheWay 54 = .ok (.isub, 1) := by decide +kernel
theorem dX4_isInTheWay_55 : decode cX4_isInTheWay 55 = .ok (.if_icmp .lt 7, 3) := by decide +kernel
theorem dX4_isInTheWay_58 : decode cX4_isInTheWay 58 = .ok (.iconst 1, 1) := by decide +kernel
theorem dX4_isInTheWay_59 : decode cX4_isInTheWay 59 = .ok (.goto 4, 3) := by decide +kernel
theorem dX4_isInTheWay_62 : decode cX4_isInTheWay 62 = .ok (.iconst 0, 1) := by decide +kernel
theorem dX4_isInTheWay_63 : decode cX4_isInTheWay 63 = .ok (.ireturn, 1) := by decide +kernel
set_option maxRecDepth 20000 in
theorem ggX4_headsBelow_X2_get : GoodIn wsX4_headsBelow wsX2_get := goodIn_r _ [7, 8, 18] (by decide +kernel) (by decide +kernel)
set_option maxRecDepth 20000 in
theorem gX4_headsBelow_X2_get : GoodIn wsX4_headsBelow (wsV RX4 45 RX2 yX2_get wsX2_get) := goodIn_app (goodIn_of _ (by decide +kernel)) ggX4_headsBelow_X2_get
theorem dX4_headsBelow_0 : decode cX4_headsBelow 0 = .ok (.iconst 0, 1) := by decide +kernel
theorem dX4_headsBelow_1 : decode cX4_headsBelow 1 = .ok (.istore_n 2, 1) := by decide +kernel
theorem dX4_headsBelow_2 : decode cX4_headsBelow 2 = .ok (.iconst 0, 1) := by decide +kernel
theorem dX4_headsBelow_3 : decode cX4_headsBelow 3 = .ok (.istore_n 3, 1) := by decide +kernel
theorem dX4_headsBelow_4 : decode cX4_headsBelow 4 = .ok (.iload_n 3, 1) := by decide +kernel
theorem dX4_headsBelow_5 : decode cX4_headsBelow 5 = .ok (.aload_n 0, 1) := by decide +kernel
theorem dX4_headsBelow_6 : decode cX4_headsBelow 6 = .ok (.getfield 41, 3) := by decide +kernel
theorem dX4_headsBelow_9 : decode cX4_headsBelow 9 = .ok (.if_icmp .ge 24, 3) := by decide +kernel
theorem dX4_headsBelow_12 : decode cX4_headsBelow 12 = .ok (.aload_n 0, 1) := by decide +kernel
theorem dX4_headsBelow_13 : decode cX4_headsBelow 13 = .ok (.getfield 14, 3) := by decide +kernel
theorem dX4_headsBelow_16 : decode cX4_headsBelow 16 = .ok (.iload_n 3, 1) := by decide +kernel
theorem dX4_headsBelow_17 : decode cX4_headsBelow 17 = .ok (.invokevirtual 45, 3) := by decide +kernel
theorem dX4_headsBelow_20 : decode cX4_headsBelow 20 = .ok (.iload_n 1, 1) := by decide +kernel
theorem dX4_headsBelow_21 : decode cX4_headsBelow 21 = .ok (.if_icmp .ge 6, 3) := by decide +kernel
theorem dX4_headsBelow_24 : decode cX4_headsBelow 24 = .ok (.iinc 2 1, 3) := by decide +kernel
theorem dX4_headsBelow_27 : decode cX4_headsBelow 27 = .ok (.iinc 3 1, 3) := by decide +kernel
theorem dX4_headsBelow_30 : decode cX4_headsBelow 30 = .ok (.goto (-26), 3) := by decide +kernel
theorem dX4_headsBelow_33 : decode cX4_headsBelow 33 = .ok (.iload_n 2, 1) := by decide +kernel
theorem dX4_headsBelow_34 : decode cX4_headsBelow 34 = .ok (.ireturn, 1) := by decide +kernel
set_option maxRecDepth 20000 in
theorem ggX4_timeInTurn_X4_headsBelow : GoodIn wsX4_timeInTurn wsX4_headsBelow := goodIn_r _ [16, 7, 17, 18, 19, 20, 21, 22, 23, 24, 25, 26, 27, 28, 29, 30, 31, 32, 33] (by decide +kernel) (by decide +kernel)
set_option maxRecDepth 20000 in
theorem gX4_timeInTurn_X4_headsBelow : GoodIn wsX4_timeInTurn (wsV RX4 59 RX4 yX4_headsBelow wsX4_headsBelow) := goodIn_app (goodIn_of _ (by decide +kernel)) ggX4_timeInTurn_X4_headsBelow
set_option maxRecDepth 20000 in
theorem ggX4_timeInTurn_X2_get : GoodIn wsX4_timeInTurn wsX2_get := goodIn_r _ [22, 23, 33] (by decide +kernel) (by decide +kernel)
set_option maxRecDepth 20000 in
theorem gX4_timeInTurn_X2_get : GoodIn wsX4_timeInTurn (wsV RX4 45 RX2 yX2_get wsX2_get) := goodIn_app (goodIn_of _ (by decide +kernel)) ggX4_timeInTurn_X2_get
theorem dX4_timeInTurn_0 : decode cX4_timeInTurn 0 = .ok (.aload_n 0, 1) := by decide +kernel
theorem dX4_timeInTurn_1 : decode cX4_timeInTurn 1 = .ok (.iload_n 1, 1) := by decide +kernel
theorem dX4_timeInTurn_2 : decode cX4_timeInTurn 2 = .ok (.invokevirtual 59, 3) := by decide +kernel
theorem dX4_timeInTurn_5 : decode cX4_timeInTurn 5 = .ok (.istore 4, 2) := by decide +kernel
theorem dX4_timeInTurn_7 : decode cX4_timeInTurn 7 = .ok (.iload_n 3, 1) := by decide +kernel
theorem dX4_timeInTurn_8 : decode cX4_timeInTurn 8 = .ok (.istore 5, 2) := by decide +kernel
theorem dX4_timeInTurn_10 : decode cX4_timeInTurn 10 = .ok (.iload 4, 2) := by decide +kernel
theorem dX4_timeInTurn_12 : decode cX4_timeInTurn 12 = .ok (.ifCond .le 37, 3) := by decide +kernel
theorem dX4_timeInTurn_15 : decode cX4_timeInTurn 15 = .ok (.aload_n 0, 1) := by decide +kernel
theorem dX4_timeInTurn_16 : decode cX4_timeInTurn 16 = .ok (.getfield 38, 3) := by decide +kernel
theorem dX4_timeInTurn_19 : decode cX4_timeInTurn 19 = .ok (.iload 4, 2) := by decide +kernel
theorem dX4_timeInTurn_21 : decode cX4_timeInTurn 21 = .ok (.iconst 1, 1) := by decide +kernel
theorem dX4_timeInTurn_22 : decode cX4_timeInTurn 22 = .ok (.isub, 1) := by decide +kernel
theorem dX4_timeInTurn_23 : decode cX4_timeInTurn 23 = .ok (.invokevirtual 45, 3) := by decide +kernel
theorem dX4_timeInTurn_26 : decode cX4_timeInTurn 26 = .ok (.istore 6, 2) := by decide +kernel
theorem dX4_timeInTurn_28 : decode cX4_timeInTurn 28 = .ok (.iload 5, 2) := by decide +kernel
theorem dX4_timeInTurn_30 : decode cX4_timeInTurn 30 = .ok (.aload_n 0, 1) := by decide +kernel
theorem dX4_timeInTurn_31 : decode cX4_timeInTurn 31 = .ok (.getfield 23, 3) := by decide +kernel
theorem dX4_timeInTurn_34 : decode cX4_timeInTurn 34 = .ok (.iload 6, 2) := by decide +kernel
theorem dX4_timeInTurn_36 : decode cX4_timeInTurn 36 = .ok (.invokevirtual 45, 3) := by decide +kernel
theorem dX4_timeInTurn_39 : decode cX4_timeInTurn 39 = .ok (.bipush 20, 2) := by decide +kernel
theorem dX4_timeInTurn_41 : decode cX4_timeInTurn 41 = .ok (.iload_n 2, 1) := by decide +kernel
theorem dX4_timeInTurn_42 : decode cX4_timeInTurn 42 = .ok (.imul, 1) := by decide +kernel
theorem dX4_timeInTurn_43 : decode cX4_timeInTurn 43 = .ok (.isub, 1) := by decide +kernel
theorem dX4_timeInTurn_44 : decode cX4_timeInTurn 44 = .ok (.invokestatic 62, 3) := by decide +kernel
theorem dX4_timeInTurn_47 : decode cX4_timeInTurn 47 = .ok (.istore 5, 2) := by decide +kernel
theorem dX4_timeInTurn_49 : decode cX4_timeInTurn 49 = .ok (.iload 4, 2) := by decide +kernel
theorem dX4_timeInTurn_51 : decode cX4_timeInTurn 51 = .ok (.aload_n 0, 1) := by decide +kernel
theorem dX4_timeInTurn_52 : decode cX4_timeInTurn 52 = .ok (.getfield 41, 3) := by decide +kernel
theorem dX4_timeInTurn_55 : decode cX4_timeInTurn 55 = .ok (.if_icmp .ge 43, 3) := by decide +kernel
theorem dX4_timeInTurn_58 : decode cX4_timeInTurn 58 = .ok (.aload_n 0, 1) := by decide +kernel
theorem dX4_timeInTurn_59 : decode cX4_timeInTurn 59 = .ok (.getfield 38, 3) := by decide +kernel
theorem dX4_timeInTurn_62 : decode cX4_timeInTurn 62 = .ok (.iload 4, 2) := by decide +kernel
theorem dX4_timeInTurn_64 : decode cX4_timeInTurn 64 = .ok (.invokevirtual 45, 3) := by decide +kernel
theorem dX4_timeInTurn_67 : decode cX4_timeInTurn 67 = .ok (.istore 6, 2) := by decide +kernel
theorem dX4_timeInTurn_69 : decode cX4_timeInTurn 69 = .ok (.iload 5, 2) := by decide +kernel
theorem dX4_timeInTurn_71 : decode cX4_timeInTurn 71 = .ok (.aload_n 0, 1) := by decide +kernel
theorem dX4_timeInTurn_72 : decode cX4_timeInTurn 72 = .ok (.getfield 23, 3) := by decide +kernel
theorem dX4_timeInTurn_75 : decode cX4_timeInTurn 75 = .ok (.iload 6, 2) := by decide +kernel
theorem dX4_timeInTurn_77 : decode cX4_timeInTurn 77 = .ok (.invokevirtual 45, 3) := by decide +kernel
theorem dX4_timeInTurn_80 : decode cX4_timeInTurn 80 = .ok (.bipush 20, 2) := by decide +kernel
theorem dX4_timeInTurn_82 : decode cX4_timeInTurn 82 = .ok (.aload_n 0, 1) := by decide +kernel
theorem dX4_timeInTurn_83 : decode cX4_timeInTurn 83 = .ok (.getfield 20, 3) := by decide +kernel
theorem dX4_timeInTurn_86 : decode cX4_timeInTurn 86 = .ok (.iload 6, 2) := by decide +kernel
theorem dX4_timeInTurn_88 : decode cX4_timeInTurn 88 = .ok (.invokevirtual 45, 3) := by decide +kernel
theorem dX4_timeInTurn_91 : decode cX4_timeInTurn 91 = .ok (.imul, 1) := by decide +kernel
theorem dX4_timeInTurn_92 : decode cX4_timeInTurn 92 = .ok (.iadd, 1) := by decide +kernel
theorem dX4_timeInTurn_93 : decode cX4_timeInTurn 93 = .ok (.invokestatic 68, 3) := by decide +kernel
theorem dX4_timeInTurn_96 : decode cX4_timeInTurn 96 = .ok (.istore 5, 2) := by decide +kernel
theorem dX4_timeInTurn_98 : decode cX4_timeInTurn 98 = .ok (.iload 5, 2) := by decide +kernel
theorem dX4_timeInTurn_100 : decode cX4_timeInTurn 100 = .ok (.ireturn, 1) := by decide +kernel
set_option maxRecDepth 20000 in
theorem ggX4_add_X4_headsBelow : GoodIn wsX4_add wsX4_headsBelow := goodIn_r _ [14, 1, 3, 15, 16, 17, 18, 19, 20, 25, 26, 27, 28, 29, 30, 31, 32, 33, 34] (by decide +kernel) (by decide +kernel)
set_option maxRecDepth 20000 in
theorem gX4_add_X4_headsBelow : GoodIn wsX4_add (wsV RX4 59 RX4 yX4_headsBelow wsX4_headsBelow) := goodIn_app (goodIn_of _ (by decide +kernel)) ggX4_add_X4_headsBelow
set_option maxRecDepth 20000 in
theorem ggX4_add_X2_get : GoodIn wsX4_add wsX2_get := goodIn_r _ [19, 20, 34] (by decide +kernel) (by decide +kernel)
set_option maxRecDepth 20000 in
theorem gX4_add_X2_get : GoodIn wsX4_add (wsV RX4 45 RX2 yX2_get wsX2_get) := goodIn_app (goodIn_of _ (by decide +kernel)) ggX4_add_X2_get
set_option maxRecDepth 20000 in
theorem ggX4_add_X2_set : GoodIn wsX4_add wsX2_set := goodIn_r _ [24, 20, 34] (by decide +kernel) (by decide +kernel)
set_option maxRecDepth 20000 in
theorem gX4_add_X2_set : GoodIn wsX4_add (wsV RX4 71 RX2 yX2_set wsX2_set) := goodIn_app (goodIn_of _ (by decide +kernel)) ggX4_add_X2_set
theorem dX4_add_0 : decode cX4_add 0 = .ok (.aload_n 0, 1) := by decide +kernel
theorem dX4_add_1 : decode cX4_add 1 = .ok (.getfield 41, 3) := by decide +kernel
theorem dX4_add_4 : decode cX4_add 4 = .ok (.istore 5, 2) := by decide +kernel
theorem dX4_add_6 : decode cX4_add 6 = .ok (.aload_n 0, 1) := by decide +kernel
theorem dX4_add_7 : decode cX4_add 7 = .ok (.iload_n 1, 1) := by decide +kernel
theorem dX4_add_8 : decode cX4_add 8 = .ok (.invokevirtual 59, 3) := by decide +kernel
theorem dX4_add_11 : decode cX4_add 11 = .ok (.istore 6, 2) := by decide +kernel
theorem dX4_add_13 : decode cX4_add 13 = .ok (.aload_n 0, 1) := by decide +kernel
theorem dX4_add_14 : decode cX4_add 14 = .ok (.getfield 41, 3) := by decide +kernel
theorem dX4_add_17 : decode cX4_add 17 = .ok (.istore 7, 2) := by decide +kernel
theorem dX4_add_19 : decode cX4_add 19 = .ok (.iload 7, 2) := by decide +kernel
theorem dX4_add_21 : decode cX4_add 21 = .ok (.iload 6, 2) := by decide +kernel
theorem dX4_add_23 : decode cX4_add 23 = .ok (.if_icmp .le 29, 3) := by decide +kernel
theorem dX4_add_26 : decode cX4_add 26 = .ok (.aload_n 0, 1) := by decide +kernel
theorem dX4_add_27 : decode cX4_add 27 = .ok (.getfield 38, 3) := by decide +kernel
theorem dX4_add_30 : decode cX4_add 30 = .ok (.iload 7, 2) := by decide +kernel
theorem dX4_add_32 : decode cX4_add 32 = .ok (.aload_n 0, 1) := by decide +kernel
theorem dX4_add_33 : decode cX4_add 33 = .ok (.getfield 38, 3) := by decide +kernel
theorem dX4_add_36 : decode cX4_add 36 = .ok (.iload 7, 2) := by decide +kernel
theorem dX4_add_38 : decode cX4_add 38 = .ok (.iconst 1, 1) := by decide +kernel
theorem dX4_add_39 : decode cX4_add 39 = .ok (.isub, 1) := by decide +kernel
theorem dX4_add_40 : decode cX4_add 40 = .ok (.invokevirtual 45, 3) := by decide +kernel
theorem dX4_add_43 : decode cX4_add 43 = .ok (.invokevirtual 71, 3) := by decide +kernel
theorem dX4_add_46 : decode cX4_add 46 = .ok (.iinc 7 (-1), 3) := by decide +kernel
theorem dX4_add_49 : decode cX4_add 49 = .ok (.goto (-30), 3) := by decide +kernel
theorem dX4_add_52 : decode cX4_add 52 = .ok (.aload_n 0, 1) := by decide +kernel
theorem dX4_add_53 : decode cX4_add 53 = .ok (.getfield 38, 3) := by decide +kernel
theorem dX4_add_56 : decode cX4_add 56 = .ok (.iload 6, 2) := by decide +kernel
theorem dX4_add_58 : decode cX4_add 58 = .ok (.iload 5, 2) := by decide +kernel
theorem dX4_add_60 : decode cX4_add 60 = .ok (.invokevirtual 71, 3) := by decide +kernel
theorem dX4_add_63 : decode cX4_add 63 = .ok (.aload_n 0, 1) := by decide +kernel
theorem dX4_add_64 : decode cX4_add 64 = .ok (.getfield 14, 3) := by decide +kernel
theorem dX4_add_67 : decode cX4_add 67 = .ok (.iload 5, 2) := by decide +kernel
theorem dX4_add_69 : decode cX4_add 69 = .ok (.iload_n 1, 1) := by decide +kernel
theorem dX4_add_70 : decode cX4_add 70 = .ok (.invokevirtual 71, 3) := by decide +kernel
theorem dX4_add_73 : decode cX4_add 73 = .ok (.aload_n 0, 1) := by decide +kernel
theorem dX4_add_74 : decode cX4_add 74 = .ok (.getfield 20, 3) := by decide +kernel
theorem dX4_add_77 : decode cX4_add 77 = .ok (.iload 5, 2) := by decide +kernel
theorem dX4_add_79 : decode cX4_add 79 = .ok (.iload_n 2, 1) := by decide +kernel
theorem dX4_add_80 : decode cX4_add 80 = .ok (.invokevirtual 71, 3) := by decide +kernel
theorem dX4_add_83 : decode cX4_add 83 = .ok (.aload_n 0, 1) := by decide +kernel
theorem dX4_add_84 : decode cX4_add 84 = .ok (.getfield 23, 3) := by decide +kernel
theorem dX4_add_87 : decode cX4_add 87 = .ok (.iload 5, 2) := by decide +kernel
theorem dX4_add_89 : decode cX4_add 89 = .ok (.iload_n 3, 1) := by decide +kernel
theorem dX4_add_90 : decode cX4_add 90 = .ok (.invokevirtual 71, 3) := by decide +kernel
theorem dX4_add_93 : decode cX4_add 93 = .ok (.aload_n 0, 1) := by decide +kernel
theorem dX4_add_94 : decode cX4_add 94 = .ok (.getfield 26, 3) := by decide +kernel
theorem dX4_add_97 : decode cX4_add 97 = .ok (.iload 5, 2) := by decide +kernel
theorem dX4_add_99 : decode cX4_add 99 = .ok (.iload 4, 2) := by decide +kernel
theorem dX4_add_101 : decode cX4_add 101 = .ok (.invokevirtual 71, 3) := by decide +kernel
theorem dX4_add_104 : decode cX4_add 104 = .ok (.aload_n 0, 1) := by decide +kernel
theorem dX4_add_105 : decode cX4_add 105 = .ok (.getfield 29, 3) := by decide +kernel
theorem dX4_add_108 : decode cX4_add 108 = .ok (.iload 5, 2) := by decide +kernel
theorem dX4_add_110 : decode cX4_add 110 = .ok (.iconst 0, 1) := by decide +kernel
theorem dX4_add_111 : decode cX4_add 111 = .ok (.invokevirtual 71, 3) := by decide +kernel
theorem dX4_add_114 : decode cX4_add 114 = .ok (.aload_n 0, 1) := by decide +kernel
theorem dX4_add_115 : decode cX4_add 115 = .ok (.getfield 32, 3) := by decide +kernel
theorem dX4_add_118 : decode cX4_add 118 = .ok (.iload 5, 2) := by decide +kernel
theorem dX4_add_120 : decode cX4_add 120 = .ok (.iconst 0, 1) := by decide +kernel
theorem dX4_add_121 : decode cX4_add 121 = .ok (.invokevirtual 71, 3) := by decide +kernel
theorem dX4_add_124 : decode cX4_add 124 = .ok (.aload_n 0, 1) := by decide +kernel
theorem dX4_add_125 : decode cX4_add 125 = .ok (.getfield 35, 3) := by decide +kernel
theorem dX4_add_128 : decode cX4_add 128 = .ok (.iload 5, 2) := by decide +kernel
theorem dX4_add_130 : decode cX4_add 130 = .ok (.iload_n 1, 1) := by decide +kernel
theorem dX4_add_131 : decode cX4_add 131 = .ok (.invokevirtual 71, 3) := by decide +kernel
theorem dX4_add_134 : decode cX4_add 134 = .ok (.aload_n 0, 1) := by decide +kernel
theorem dX4_add_135 : decode cX4_add 135 = .ok (.dup, 1) := by decide +kernel
theorem dX4_add_136 : decode cX4_add 136 = .ok (.getfield 41, 3) := by decide +kernel
theorem dX4_add_139 : decode cX4_add 139 = .ok (.iconst 1, 1) := by decide +kernel
theorem dX4_add_140 : decode cX4_add 140 = .ok (.iadd, 1) := by decide +kernel
theorem dX4_add_141 : decode cX4_add 141 = .ok (.putfield 41, 3) := by decide +kernel
theorem dX4_add_144 : decode cX4_add 144 = .ok (.iload 5, 2) := by decide +kernel
theorem dX4_add_146 : decode cX4_add 146 = .ok (.ireturn, 1) := by decide +kernel
set_option maxRecDepth 20000 in
theorem ggX4_countFrame_X2_add : GoodIn wsX4_countFrame wsX2_add := goodIn_r _ [12, 13, 14, 15, 11, 16, 17, 18, 19, 20, 21, 33] (by decide +kernel) (by decide +kernel)
set_option maxRecDepth 20000 in
theorem gX4_countFrame_X2_add : GoodIn wsX4_countFrame (wsV RX4 75 RX2 yX2_add wsX2_add) := goodIn_app (goodIn_of _ (by decide +kernel)) ggX4_countFrame_X2_add
set_option maxRecDepth 20000 in
theorem ggX4_countFrame_X2_get : GoodIn wsX4_countFrame wsX2_get := goodIn_r _ [16, 17, 33] (by decide +kernel) (by decide +kernel)
set_option maxRecDepth 20000 in
theorem gX4_countFrame_X2_get : GoodIn wsX4_countFrame (wsV RX4 45 RX2 yX2_get wsX2_get) := goodIn_app (goodIn_of _ (by decide +kernel)) ggX4_countFrame_X2_get
set_option maxRecDepth 20000 in
theorem ggX4_countFrame_X2_set : GoodIn wsX4_countFrame wsX2_set := goodIn_r _ [21, 17, 33] (by decide +kernel) (by decide +kernel)
set_option maxRecDepth 20000 in
theorem gX4_countFrame_X2_set : GoodIn wsX4_countFrame (wsV RX4 71 RX2 yX2_set wsX2_set) := goodIn_app (goodIn_of _ (by decide +kernel)) ggX4_countFrame_X2_set
theorem dX4_countFrame_0 : decode cX4_countFrame 0 = .ok (.aload_n 0, 1) := by decide +kernel
theorem dX4_countFrame_1 : decode cX4_countFrame 1 = .ok (.getfield 29, 3) := by decide +kernel
theorem dX4_countFrame_4 : decode cX4_countFrame 4 = .ok (.iload_n 1, 1) := by decide +kernel
theorem dX4_countFrame_5 : decode cX4_countFrame 5 = .ok (.iconst 1, 1) := by decide +kernel
theorem dX4_countFrame_6 : decode cX4_countFrame 6 = .ok (.invokevirtual 75, 3) := by decide +kernel
theorem dX4_countFrame_9 : decode cX4_countFrame 9 = .ok (.aload_n 0, 1) := by decide +kernel
theorem dX4_countFrame_10 : decode cX4_countFrame 10 = .ok (.getfield 32, 3) := by decide +kernel
theorem dX4_countFrame_13 : decode cX4_countFrame 13 = .ok (.iload_n 1, 1) := by decide +kernel
theorem dX4_countFrame_14 : decode cX4_countFrame 14 = .ok (.iload_n 3, 1) := by decide +kernel
theorem dX4_countFrame_15 : decode cX4_countFrame 15 = .ok (.ifCond .eq 7, 3) := by decide +kernel
theorem dX4_countFrame_18 : decode cX4_countFrame 18 = .ok (.iconst 1, 1) := by decide +kernel
theorem dX4_countFrame_19 : decode cX4_countFrame 19 = .ok (.goto 4, 3) := by decide +kernel
theorem dX4_countFrame_22 : decode cX4_countFrame 22 = .ok (.iconst 0, 1) := by decide +kernel
theorem dX4_countFrame_23 : decode cX4_countFrame 23 = .ok (.invokevirtual 75, 3) := by decide +kernel
theorem dX4_countFrame_26 : decode cX4_countFrame 26 = .ok (.aload_n 0, 1) := by decide +kernel
theorem dX4_countFrame_27 : decode cX4_countFrame 27 = .ok (.getfield 35, 3) := by decide +kernel
theorem dX4_countFrame_30 : decode cX4_countFrame 30 = .ok (.iload_n 1, 1) := by decide +kernel
theorem dX4_countFrame_31 : decode cX4_countFrame 31 = .ok (.aload_n 0, 1) := by decide +kernel
theorem dX4_countFrame_32 : decode cX4_countFrame 32 = .ok (.getfield 35, 3) := by decide +kernel
theorem dX4_countFrame_35 : decode cX4_countFrame 35 = .ok (.iload_n 1, 1) := by decide +kernel
theorem dX4_countFrame_36 : decode cX4_countFrame 36 = .ok (.invokevirtual 45, 3) := by decide +kernel
theorem dX4_countFrame_39 : decode cX4_countFrame 39 = .ok (.iload_n 2, 1) := by decide +kernel
theorem dX4_countFrame_40 : decode cX4_countFrame 40 = .ok (.invokestatic 62, 3) := by decide +kernel
theorem dX4_countFrame_43 : decode cX4_countFrame 43 = .ok (.invokevirtual 71, 3) := by decide +kernel
theorem dX4_countFrame_46 : decode cX4_countFrame 46 = .ok (.return_, 1) := by decide +kernel
theorem dX4_clear_0 : decode cX4_clear 0 = .ok (.aload_n 0, 1) := by decide +kernel
theorem dX4_clear_1 : decode cX4_clear 1 = .ok (.iconst 0, 1) := by decide +kernel
theorem dX4_clear_2 : decode cX4_clear 2 = .ok (.putfield 41, 3) := by decide +kernel
theorem dX4_clear_5 : decode cX4_clear 5 = .ok (.return_, 1) := by decide +kernel
theorem dX5_init_0 : decode cX5_init 0 = .ok (.aload_n 0, 1) := by decide +kernel
theorem dX5_init_1 : decode cX5_init 1 = .ok (.invokespecial 1, 3) := by decide +kernel
theorem dX5_init_4 : decode cX5_init 4 = .ok (.return_, 1) := by decide +kernel
theorem dX5_isOn_0 : decode cX5_isOn 0 = .ok (.aload_n 0, 1) := by decide +kernel
theorem dX5_isOn_1 : decode cX5_isOn 1 = .ok (.getfield 7, 3) := by decide +kernel
theorem dX5_isOn_4 : decode cX5_isOn 4 = .ok (.ireturn, 1) := by decide +kernel
theorem dX5_base_0 : decode cX5_base 0 = .ok (.aload_n 0, 1) := by decide +kernel
theorem dX5_base_1 : decode cX5_base 1 = .ok (.getfield 13, 3) := by decide +kernel
theorem dX5_base_4 : decode cX5_base 4 = .ok (.ireturn, 1) := by decide +kernel
theorem dX5_begun_0 : decode cX5_begun 0 = .ok (.aload_n 0, 1) := by decide +kernel
theorem dX5_begun_1 : decode cX5_begun 1 = .ok (.getfield 17, 3) := by decide +kernel
theorem dX5_begun_4 : decode cX5_begun 4 = .ok (.ireturn, 1) := by decide +kernel
theorem dX5_follow_0 : decode cX5_follow 0 = .ok (.aload_n 0, 1) := by decide +kernel
theorem dX5_follow_1 : decode cX5_follow 1 = .ok (.getfield 7, 3) := by decide +kernel
theorem dX5_follow_4 : decode cX5_follow 4 = .ok (.ifCond .eq 27, 3) := by decide +kernel
theorem dX5_follow_7 : decode cX5_follow 7 = .ok (.aload_n 0, 1) := by decide +kernel
theorem dX5_follow_8 : decode cX5_follow 8 = .ok (.iload_n 2, 1) := by decide +kernel
theorem dX5_follow_9 : decode cX5_follow 9 = .ok (.aload_n 0, 1) := by decide +kernel
theorem dX5_follow_10 : decode cX5_follow 10 = .ok (.getfield 13, 3) := by decide +kernel
theorem dX5_follow_13 : decode cX5_follow 13 = .ok (.iload_n 3, 1) := by decide +kernel
theorem dX5_follow_14 : decode cX5_follow 14 = .ok (.iconst 2, 1) := by decide +kernel
theorem dX5_follow_15 : decode cX5_follow 15 = .ok (.idiv, 1) := by decide +kernel
theorem dX5_follow_16 : decode cX5_follow 16 = .ok (.iadd, 1) := by decide +kernel
theorem dX5_follow_17 : decode cX5_follow 17 = .ok (.if_icmp .le 7, 3) := by decide +kernel
theorem dX5_follow_20 : decode cX5_follow 20 = .ok (.iconst 1, 1) := by decide +kernel
theorem dX5_follow_21 : decode cX5_follow 21 = .ok (.goto 4, 3) := by decide +kernel
theorem dX5_follow_24 : decode cX5_follow 24 = .ok (.iconst 0, 1) := by decide +kernel
theorem dX5_follow_25 : decode cX5_follow 25 = .ok (.putfield 7, 3) := by decide +kernel
theorem dX5_follow_28 : decode cX5_follow 28 = .ok (.goto 30, 3) := by decide +kernel
theorem dX5_follow_31 : decode cX5_follow 31 = .ok (.iload_n 2, 1) := by decide +kernel
theorem dX5_follow_32 : decode cX5_follow 32 = .ok (.iload_n 1, 1) := by decide +kernel
theorem dX5_follow_33 : decode cX5_follow 33 = .ok (.iload_n 3, 1) := by decide +kernel
theorem dX5_follow_34 : decode cX5_follow 34 = .ok (.iadd, 1) := by decide +kernel
theorem dX5_follow_35 : decode cX5_follow 35 = .ok (.if_icmp .lt 23, 3) := by decide +kernel
theorem dX5_follow_38 : decode cX5_follow 38 = .ok (.aload_n 0, 1) := by decide +kernel
theorem dX5_follow_39 : decode cX5_follow 39 = .ok (.iconst 1, 1) := by decide +kernel
theorem dX5_follow_40 : decode cX5_follow 40 = .ok (.putfield 7, 3) := by decide +kernel
theorem dX5_follow_43 : decode cX5_follow 43 = .ok (.aload_n 0, 1) := by decide +kernel
theorem dX5_follow_44 : decode cX5_follow 44 = .ok (.iload_n 1, 1) := by decide +kernel
theorem dX5_follow_45 : decode cX5_follow 45 = .ok (.putfield 13, 3) := by decide +kernel
theorem dX5_follow_48 : decode cX5_follow 48 = .ok (.aload_n 0, 1) := by decide +kernel
theorem dX5_follow_49 : decode cX5_follow 49 = .ok (.dup, 1) := by decide +kernel
theorem dX5_follow_50 : decode cX5_follow 50 = .ok (.getfield 17, 3) := by decide +kernel
theorem dX5_follow_53 : decode cX5_follow 53 = .ok (.iconst 1, 1) := by decide +kernel
theorem dX5_follow_54 : decode cX5_follow 54 = .ok (.iadd, 1) := by decide +kernel
theorem dX5_follow_55 : decode cX5_follow 55 = .ok (.putfield 17, 3) := by decide +kernel
theorem dX5_follow_58 : decode cX5_follow 58 = .ok (.return_, 1) := by decide +kernel
theorem dX5_clear_0 : decode cX5_clear 0 = .ok (.aload_n 0, 1) := by decide +kernel
theorem dX5_clear_1 : decode cX5_clear 1 = .ok (.iconst 0, 1) := by decide +kernel
theorem dX5_clear_2 : decode cX5_clear 2 = .ok (.putfield 7, 3) := by decide +kernel
theorem dX5_clear_5 : decode cX5_clear 5 = .ok (.aload_n 0, 1) := by decide +kernel
theorem dX5_clear_6 : decode cX5_clear 6 = .ok (.iconst 0, 1) := by decide +kernel
theorem dX5_clear_7 : decode cX5_clear 7 = .ok (.putfield 17, 3) := by decide +kernel
theorem dX5_clear_10 : decode cX5_clear 10 = .ok (.return_, 1) := by decide +kernel
set_option maxRecDepth 20000 in
theorem ggX6_init_X2_init : GoodIn wsX6_init wsX2_init := goodIn_r _ [10, 11, 2, 3, 12, 13, 14, 15, 16, 17, 18] (by decide +kernel) (by decide +kernel)
set_option maxRecDepth 20000 in
theorem gX6_init_X2_init : GoodIn wsX6_init (wsX2_init) := ggX6_init_X2_init
theorem dX6_init_0 : decode cX6_init 0 = .ok (.aload_n 0, 1) := by decide +kernel
theorem dX6_init_1 : decode cX6_init 1 = .ok (.invokespecial 3, 3) := by decide +kernel
theorem dX6_init_4 : decode cX6_init 4 = .ok (.aload_n 0, 1) := by decide +kernel
theorem dX6_init_5 : decode cX6_init 5 = .ok (.new 9, 3) := by decide +kernel
theorem dX6_init_8 : decode cX6_init 8 = .ok (.dup, 1) := by decide +kernel
theorem dX6_init_9 : decode cX6_init 9 = .ok (.bipush 8, 2) := by decide +kernel
theorem dX6_init_11 : decode cX6_init 11 = .ok (.invokespecial 11, 3) := by decide +kernel
theorem dX6_init_14 : decode cX6_init 14 = .ok (.putfield 14, 3) := by decide +kernel
theorem dX6_init_17 : decode cX6_init 17 = .ok (.return_, 1) := by decide +kernel
theorem dX6_size_0 : decode cX6_size 0 = .ok (.aload_n 0, 1) := by decide +kernel
theorem dX6_size_1 : decode cX6_size 1 = .ok (.getfield 20, 3) := by decide +kernel
theorem dX6_size_4 : decode cX6_size 4 = .ok (.ireturn, 1) := by decide +kernel
set_option maxRecDepth 20000 in
theorem ggX6_add_X2_set : GoodIn wsX6_add wsX2_set := goodIn_r _ [7, 8, 11] (by decide +kernel) (by decide +kernel)
set_option maxRecDepth 20000 in
theorem gX6_add_X2_set : GoodIn wsX6_add (wsV RX6 24 RX2 yX2_set wsX2_set) := goodIn_app (goodIn_of _ (by decide +kernel)) ggX6_add_X2_set
theorem dX6_add_0 : decode cX6_add 0 = .ok (.aload_n 0, 1) := by decide +kernel
theorem dX6_add_1 : decode cX6_add 1 = .ok (.getfield 20, 3) := by decide +kernel
theorem dX6_add_4 : decode cX6_add 4 = .ok (.bipush 8, 2) := by decide +kernel
theorem dX6_add_6 : decode cX6_add 6 = .ok (.if_icmp .ge 25, 3) := by decide +kernel
theorem dX6_add_9 : decode cX6_add 9 = .ok (.aload_n 0, 1) := by decide +kernel
theorem dX6_add_10 : decode cX6_add 10 = .ok (.getfield 14, 3) := by decide +kernel
theorem dX6_add_13 : decode cX6_add 13 = .ok (.aload_n 0, 1) := by decide +kernel
theorem dX6_add_14 : decode cX6_add 14 = .ok (.getfield 20, 3) := by decide +kernel
theorem dX6_add_17 : decode cX6_add 17 = .ok (.iload_n 1, 1) := by decide +kernel
theorem dX6_add_18 : decode cX6_add 18 = .ok (.invokevirtual 24, 3) := by decide +kernel
theorem dX6_add_21 : decode cX6_add 21 = .ok (.aload_n 0, 1) := by decide +kernel
theorem dX6_add_22 : decode cX6_add 22 = .ok (.dup, 1) := by decide +kernel
theorem dX6_add_23 : decode cX6_add 23 = .ok (.getfield 20, 3) := by decide +kernel
theorem dX6_add_26 : decode cX6_add 26 = .ok (.iconst 1, 1) := by decide +kernel
theorem dX6_add_27 : decode cX6_add 27 = .ok (.iadd, 1) := by decide +kernel
theorem dX6_add_28 : decode cX6_add 28 = .ok (.putfield 20, 3) := by decide +kernel
theorem dX6_add_31 : decode cX6_add 31 = .ok (.return_, 1) := by decide +kernel
theorem dX6_clear_0 : decode cX6_clear 0 = .ok (.aload_n 0, 1) := by decide +kernel
theorem dX6_clear_1 : decode cX6_clear 1 = .ok (.iconst 0, 1) := by decide +kernel
theorem dX6_clear_2 : decode cX6_clear 2 = .ok (.putfield 20, 3) := by decide +kernel
theorem dX6_clear_5 : decode cX6_clear 5 = .ok (.return_, 1) := by decide +kernel
set_option maxRecDepth 20000 in
theorem ggX6_spells_J0_length_8abf5 : GoodIn wsX6_spells wsJ0_length_8abf5 := goodIn_r _ [7, 8, 9, 10, 11, 6, 12, 13, 14] (by decide +kernel) (by decide +kernel)
set_option maxRecDepth 20000 in
theorem gX6_spells_J0_length_8abf5 : GoodIn wsX6_spells (wsV RX6 28 RJ0 yJ0_length_8abf5 wsJ0_length_8abf5) := goodIn_app (goodIn_of _ (by decide +kernel)) ggX6_spells_J0_length_8abf5
set_option maxRecDepth 20000 in
theorem ggX6_spells_J0_charAt_5068e : GoodIn wsX6_spells wsJ0_charAt_5068e := goodIn_r _ [18, 8, 19, 20, 21, 6, 22, 13, 14, 23, 24, 25, 26, 27, 28, 29, 30, 31, 32, 33, 34, 35, 36, 37, 38, 39, 40, 41, 42, 43, 44, 45, 46, 47, 48, 49, 50, 51] (by decide +kernel) (by decide +kernel)
set_option maxRecDepth 20000 in
theorem gX6_spells_J0_charAt_5068e : GoodIn wsX6_spells (wsV RX6 34 RJ0 yJ0_charAt_5068e wsJ0_charAt_5068e) := goodIn_app (goodIn_of _ (by decide +kernel)) ggX6_spells_J0_charAt_5068e
set_option maxRecDepth 20000 in
theorem ggX6_spells_X2_get : GoodIn wsX6_spells wsX2_get := goodIn_r _ [56, 57, 60] (by decide +kernel) (by decide +kernel)
set_option maxRecDepth 20000 in
theorem gX6_spells_X2_get : GoodIn wsX6_spells (wsV RX6 38 RX2 yX2_get wsX2_get) := goodIn_app (goodIn_of _ (by decide +kernel)) ggX6_spells_X2_get
theorem dX6_spells_0 : decode cX6_spells 0 = .ok (.aload_n 1, 1) := by decide +kernel
theorem dX6_spells_1 : decode cX6_spells 1 = .ok (.invokevirtual 28, 3) := by decide +kernel
theorem dX6_spells_4 : decode cX6_spells 4 = .ok (.aload_n 0, 1) := by decide +kernel
theorem dX6_spells_5 : decode cX6_spells 5 = .ok (.getfield 20, 3) := by decide +kernel
theorem dX6_spells_8 : decode cX6_spells 8 = .ok (.if_icmp .eq 5, 3) := by decide +kernel
theorem dX6_spells_11 : decode cX6_spells 11 = .ok (.iconst 0, 1) := by decide +kernel
theorem dX6_spells_12 : decode cX6_spells 12 = .ok (.ireturn, 1) := by decide +kernel
theorem dX6_spells_13 : decode cX6_spells 13 = .ok (.iconst 0, 1) := by decide +kernel
theorem dX6_spells_14 : decode cX6_spells 14 = .ok (.istore_n 2, 1) := by decide +kernel
theorem dX6_spells_15 : decode cX6_spells 15 = .ok (.iload_n 2, 1) := by decide +kernel
theorem dX6_spells_16 : decode cX6_spells 16 = .ok (.aload_n 1, 1) := by decide +kernel
theorem dX6_spells_17 : decode cX6_spells 17 = .ok (.invokevirtual 28, 3) := by decide +kernel
theorem dX6_spells_20 : decode cX6_spells 20 = .ok (.if_icmp .ge 27, 3) := by decide +kernel
theorem dX6_spells_23 : decode cX6_spells 23 = .ok (.aload_n 1, 1) := by decide +kernel
theorem dX6_spells_24 : decode cX6_spells 24 = .ok (.iload_n 2, 1) := by decide +kernel
theorem dX6_spells_25 : decode cX6_spells 25 = .ok (.invokevirtual 34, 3) := by decide +kernel
theorem dX6_spells_28 : decode cX6_spells 28 = .ok (.aload_n 0, 1) := by decide +kernel
theorem dX6_spells_29 : decode cX6_spells 29 = .ok (.getfield 14, 3) := by decide +kernel
theorem dX6_spells_32 : decode cX6_spells 32 = .ok (.iload_n 2, 1) := by decide +kernel
theorem dX6_spells_33 : decode cX6_spells 33 = .ok (.invokevirtual 38, 3) := by decide +kernel
theorem dX6_spells_36 : decode cX6_spells 36 = .ok (.if_icmp .eq 5, 3) := by decide +kernel
theorem dX6_spells_39 : decode cX6_spells 39 = .ok (.iconst 0, 1) := by decide +kernel
theorem dX6_spells_40 : decode cX6_spells 40 = .ok (.ireturn, 1) := by decide +kernel
theorem dX6_spells_41 : decode cX6_spells 41 = .ok (.iinc 2 1, 3) := by decide +kernel
theorem dX6_spells_44 : decode cX6_spells 44 = .ok (.goto (-29), 3) := by decide +kernel
theorem dX6_spells_47 : decode cX6_spells 47 = .ok (.iconst 1, 1) := by decide +kernel
theorem dX6_spells_48 : decode cX6_spells 48 = .ok (.ireturn, 1) := by decide +kernel
set_option maxRecDepth 20000 in
theorem ggX7_init_X2_init : GoodIn wsX7_init wsX2_init := goodIn_r _ [10, 11, 2, 3, 12, 13, 14, 15, 16, 17, 18] (by decide +kernel) (by decide +kernel)
set_option maxRecDepth 20000 in
theorem gX7_init_X2_init : GoodIn wsX7_init (wsX2_init) := ggX7_init_X2_init
theorem dX7_init_0 : decode cX7_init 0 = .ok (.aload_n 0, 1) := by decide +kernel
theorem dX7_init_1 : decode cX7_init 1 = .ok (.invokespecial 3, 3) := by decide +kernel
theorem dX7_init_4 : decode cX7_init 4 = .ok (.aload_n 0, 1) := by decide +kernel
theorem dX7_init_5 : decode cX7_init 5 = .ok (.new 9, 3) := by decide +kernel
theorem dX7_init_8 : decode cX7_init 8 = .ok (.dup, 1) := by decide +kernel
theorem dX7_init_9 : decode cX7_init 9 = .ok (.bipush 32, 2) := by decide +kernel
theorem dX7_init_11 : decode cX7_init 11 = .ok (.invokespecial 11, 3) := by decide +kernel
theorem dX7_init_14 : decode cX7_init 14 = .ok (.putfield 14, 3) := by decide +kernel
theorem dX7_init_17 : decode cX7_init 17 = .ok (.return_, 1) := by decide +kernel
set_option maxRecDepth 20000 in
theorem ggX7_gather_X0_historySize : GoodIn wsX7_gather wsX0_historySize := goodIn_r _ [7, 8, 9, 10, 11, 12, 35, 36, 37, 38, 39, 40] (by decide +kernel) (by decide +kernel)
set_option maxRecDepth 20000 in
theorem gX7_gather_X0_historySize : GoodIn wsX7_gather (wsV RX7 20 RX0 yX0_historySize wsX0_historySize) := goodIn_app (goodIn_of _ (by decide +kernel)) ggX7_gather_X0_historySize
set_option maxRecDepth 20000 in
theorem ggX7_gather_X0_lastPlace : GoodIn wsX7_gather wsX0_lastPlace := goodIn_r _ [16, 8, 35, 36, 37, 38, 39, 40] (by decide +kernel) (by decide +kernel)
set_option maxRecDepth 20000 in
theorem gX7_gather_X0_lastPlace : GoodIn wsX7_gather (wsV RX7 30 RX0 yX0_lastPlace wsX0_lastPlace) := goodIn_app (goodIn_of _ (by decide +kernel)) ggX7_gather_X0_lastPlace
set_option maxRecDepth 20000 in
theorem ggX7_gather_X0_delayAt : GoodIn wsX7_gather wsX0_delayAt := goodIn_r _ [20, 21, 22, 23, 24, 25, 26, 27, 28, 35, 36, 37, 38, 39, 40, 41] (by decide +kernel) (by decide +kernel)
set_option maxRecDepth 20000 in
theorem gX7_gather_X0_delayAt : GoodIn wsX7_gather (wsV RX7 33 RX0 yX0_delayAt wsX0_delayAt) := goodIn_app (goodIn_of _ (by decide +kernel)) ggX7_gather_X0_delayAt
set_option maxRecDepth 20000 in
theorem ggX7_gather_X2_set : GoodIn wsX7_gather wsX2_set := goodIn_r _ [32, 28, 41] (by decide +kernel) (by decide +kernel)
set_option maxRecDepth 20000 in
theorem gX7_gather_X2_set : GoodIn wsX7_gather (wsV RX7 37 RX2 yX2_set wsX2_set) := goodIn_app (goodIn_of _ (by decide +kernel)) ggX7_gather_X2_set
theorem dX7_gather_0 : decode cX7_gather 0 = .ok (.aload_n 0, 1) := by decide +kernel
theorem dX7_gather_1 : decode cX7_gather 1 = .ok (.aload_n 1, 1) := by decide +kernel
theorem dX7_gather_2 : decode cX7_gather 2 = .ok (.invokevirtual 20, 3) := by decide +kernel
theorem dX7_gather_5 : decode cX7_gather 5 = .ok (.putfield 26, 3) := by decide +kernel
theorem dX7_gather_8 : decode cX7_gather 8 = .ok (.iconst 0, 1) := by decide +kernel
theorem dX7_gather_9 : decode cX7_gather 9 = .ok (.istore_n 2, 1) := by decide +kernel
theorem dX7_gather_10 : decode cX7_gather 10 = .ok (.iload_n 2, 1) := by decide +kernel
theorem dX7_gather_11 : decode cX7_gather 11 = .ok (.aload_n 0, 1) := by decide +kernel
theorem dX7_gather_12 : decode cX7_gather 12 = .ok (.getfield 26, 3) := by decide +kernel
theorem dX7_gather_15 : decode cX7_gather 15 = .ok (.if_icmp .ge 27, 3) := by decide +kernel
theorem dX7_gather_18 : decode cX7_gather 18 = .ok (.aload_n 0, 1) := by decide +kernel
theorem dX7_gather_19 : decode cX7_gather 19 = .ok (.getfield 14, 3) := by decide +kernel
theorem dX7_gather_22 : decode cX7_gather 22 = .ok (.iload_n 2, 1) := by decide +kernel
theorem dX7_gather_23 : decode cX7_gather 23 = .ok (.aload_n 1, 1) := by decide +kernel
theorem dX7_gather_24 : decode cX7_gather 24 = .ok (.aload_n 1, 1) := by decide +kernel
theorem dX7_gather_25 : decode cX7_gather 25 = .ok (.invokevirtual 30, 3) := by decide +kernel
theorem dX7_gather_28 : decode cX7_gather 28 = .ok (.iload_n 2, 1) := by decide +kernel
theorem dX7_gather_29 : decode cX7_gather 29 = .ok (.isub, 1) := by decide +kernel
theorem dX7_gather_30 : decode cX7_gather 30 = .ok (.invokevirtual 33, 3) := by decide +kernel
theorem dX7_gather_33 : decode cX7_gather 33 = .ok (.invokevirtual 37, 3) := by decide +kernel
theorem dX7_gather_36 : decode cX7_gather 36 = .ok (.iinc 2 1, 3) := by decide +kernel
theorem dX7_gather_39 : decode cX7_gather 39 = .ok (.goto (-29), 3) := by decide +kernel
theorem dX7_gather_42 : decode cX7_gather 42 = .ok (.return_, 1) := by decide +kernel
set_option maxRecDepth 20000 in
theorem ggX7_carryAlong_X0_lastPlace : GoodIn wsX7_carryAlong wsX0_lastPlace := goodIn_r _ [7, 8, 42, 43, 44, 45, 46, 47] (by decide +kernel) (by decide +kernel)
set_option maxRecDepth 20000 in
theorem gX7_carryAlong_X0_lastPlace : GoodIn wsX7_carryAlong (wsV RX7 30 RX0 yX0_lastPlace wsX0_lastPlace) := goodIn_app (goodIn_of _ (by decide +kernel)) ggX7_carryAlong_X0_lastPlace
set_option maxRecDepth 20000 in
theorem ggX7_carryAlong_X0_frameAt : GoodIn wsX7_carryAlong wsX0_frameAt := goodIn_r _ [12, 13, 14, 15, 16, 17, 18, 19, 42, 43, 44, 45, 46, 47, 48] (by decide +kernel) (by decide +kernel)
set_option maxRecDepth 20000 in
theorem gX7_carryAlong_X0_frameAt : GoodIn wsX7_carryAlong (wsV RX7 41 RX0 yX0_frameAt wsX0_frameAt) := goodIn_app (goodIn_of _ (by decide +kernel)) ggX7_carryAlong_X0_frameAt
set_option maxRecDepth 20000 in
theorem ggX7_carryAlong_X1_riseOver : GoodIn wsX7_carryAlong wsX1_riseOver := goodIn_r _ [24, 25, 26, 27, 28, 29, 30, 49, 50, 51, 52, 53] (by decide +kernel) (by decide +kernel)
set_option maxRecDepth 20000 in
theorem gX7_carryAlong_X1_riseOver : GoodIn wsX7_carryAlong (wsV RX7 44 RX1 yX1_riseOver wsX1_riseOver) := goodIn_app (goodIn_of _ (by decide +kernel)) ggX7_carryAlong_X1_riseOver
set_option maxRecDepth 20000 in
theorem ggX7_carryAlong_X2_add : GoodIn wsX7_carryAlong wsX2_add := goodIn_r _ [34, 35, 15, 16, 17, 18, 19, 36, 37, 38, 39, 48] (by decide +kernel) (by decide +kernel)
set_option maxRecDepth 20000 in
theorem gX7_carryAlong_X2_add : GoodIn wsX7_carryAlong (wsV RX7 49 RX2 yX2_add wsX2_add) := goodIn_app (goodIn_of _ (by decide +kernel)) ggX7_carryAlong_X2_add
theorem dX7_carryAlong_0 : decode cX7_carryAlong 0 = .ok (.iconst 0, 1) := by decide +kernel
theorem dX7_carryAlong_1 : decode cX7_carryAlong 1 = .ok (.istore 4, 2) := by decide +kernel
theorem dX7_carryAlong_3 : decode cX7_carryAlong 3 = .ok (.iload 4, 2) := by decide +kernel
theorem dX7_carryAlong_5 : decode cX7_carryAlong 5 = .ok (.aload_n 0, 1) := by decide +kernel
theorem dX7_carryAlong_6 : decode cX7_carryAlong 6 = .ok (.getfield 26, 3) := by decide +kernel
theorem dX7_carryAlong_9 : decode cX7_carryAlong 9 = .ok (.if_icmp .ge 39, 3) := by decide +kernel
theorem dX7_carryAlong_12 : decode cX7_carryAlong 12 = .ok (.aload_n 2, 1) := by decide +kernel
theorem dX7_carryAlong_13 : decode cX7_carryAlong 13 = .ok (.aload_n 2, 1) := by decide +kernel
theorem dX7_carryAlong_14 : decode cX7_carryAlong 14 = .ok (.invokevirtual 30, 3) := by decide +kernel
theorem dX7_carryAlong_17 : decode cX7_carryAlong 17 = .ok (.iload 4, 2) := by decide +kernel
theorem dX7_carryAlong_19 : decode cX7_carryAlong 19 = .ok (.isub, 1) := by decide +kernel
theorem dX7_carryAlong_20 : decode cX7_carryAlong 20 = .ok (.invokevirtual 41, 3) := by decide +kernel
theorem dX7_carryAlong_23 : decode cX7_carryAlong 23 = .ok (.istore 5, 2) := by decide +kernel
theorem dX7_carryAlong_25 : decode cX7_carryAlong 25 = .ok (.aload_n 0, 1) := by decide +kernel
theorem dX7_carryAlong_26 : decode cX7_carryAlong 26 = .ok (.getfield 14, 3) := by decide +kernel
theorem dX7_carryAlong_29 : decode cX7_carryAlong 29 = .ok (.iload 4, 2) := by decide +kernel
theorem dX7_carryAlong_31 : decode cX7_carryAlong 31 = .ok (.aload_n 1, 1) := by decide +kernel
theorem dX7_carryAlong_32 : decode cX7_carryAlong 32 = .ok (.iload_n 3, 1) := by decide +kernel
theorem dX7_carryAlong_33 : decode cX7_carryAlong 33 = .ok (.iload 5, 2) := by decide +kernel
theorem dX7_carryAlong_35 : decode cX7_carryAlong 35 = .ok (.isub, 1) := by decide +kernel
theorem dX7_carryAlong_36 : decode cX7_carryAlong 36 = .ok (.invokevirtual 44, 3) := by decide +kernel
theorem dX7_carryAlong_39 : decode cX7_carryAlong 39 = .ok (.invokevirtual 49, 3) := by decide +kernel
theorem dX7_carryAlong_42 : decode cX7_carryAlong 42 = .ok (.iinc 4 1, 3) := by decide +kernel
theorem dX7_carryAlong_45 : decode cX7_carryAlong 45 = .ok (.goto (-42), 3) := by decide +kernel
theorem dX7_carryAlong_48 : decode cX7_carryAlong 48 = .ok (.return_, 1) := by decide +kernel
set_option maxRecDepth 20000 in
theorem ggX7_byShare_X7_greatestOfLast : GoodIn wsX7_byShare wsX7_greatestOfLast := goodIn_r _ [7, 2, 8, 9, 10, 11, 12, 13, 14, 15, 16, 17, 22, 23, 24] (by decide +kernel) (by decide +kernel)
