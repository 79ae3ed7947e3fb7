theorem dX0_init_0 : decode cX0_init 0 = .ok (.aload_n 0, 1) := by decide +kernel
theorem dX0_init_1 : decode cX0_init 1 = .ok (.invokespecial 3, 3) := by decide +kernel
theorem dX0_init_4 : decode cX0_init 4 = .ok (.aload_n 0, 1) := by decide +kernel
theorem dX0_init_5 : decode cX0_init 5 = .ok (.bipush 12, 2) := by decide +kernel
theorem dX0_init_7 : decode cX0_init 7 = .ok (.newarray .int, 2) := by decide +kernel
theorem dX0_init_9 : decode cX0_init 9 = .ok (.putfield 9, 3) := by decide +kernel
theorem dX0_init_12 : decode cX0_init 12 = .ok (.aload_n 0, 1) := by decide +kernel
theorem dX0_init_13 : decode cX0_init 13 = .ok (.bipush 12, 2) := by decide +kernel
theorem dX0_init_15 : decode cX0_init 15 = .ok (.newarray .int, 2) := by decide +kernel
theorem dX0_init_17 : decode cX0_init 17 = .ok (.putfield 15, 3) := by decide +kernel
theorem dX0_init_20 : decode cX0_init 20 = .ok (.return_, 1) := by decide +kernel
set_option maxRecDepth 20000 in
theorem ggX0_begin_X2_touchedAt : GoodIn wsX0_begin wsX2_touchedAt := goodIn_r _ [6, 7, 8, 9, 10, 13, 14] (by decide +kernel) (by decide +kernel)
set_option maxRecDepth 20000 in
theorem gX0_begin_X2_touchedAt : GoodIn wsX0_begin (wsV RX0 18 RX2 yX2_touchedAt wsX2_touchedAt) := goodIn_app (goodIn_of _ (by decide +kernel)) ggX0_begin_X2_touchedAt
theorem dX0_begin_0 : decode cX0_begin 0 = .ok (.iconst 0, 1) := by decide +kernel
theorem dX0_begin_1 : decode cX0_begin 1 = .ok (.istore_n 2, 1) := by decide +kernel
theorem dX0_begin_2 : decode cX0_begin 2 = .ok (.iload_n 2, 1) := by decide +kernel
theorem dX0_begin_3 : decode cX0_begin 3 = .ok (.bipush 12, 2) := by decide +kernel
theorem dX0_begin_5 : decode cX0_begin 5 = .ok (.if_icmp .ge 20, 3) := by decide +kernel
theorem dX0_begin_8 : decode cX0_begin 8 = .ok (.aload_n 0, 1) := by decide +kernel
theorem dX0_begin_9 : decode cX0_begin 9 = .ok (.getfield 9, 3) := by decide +kernel
theorem dX0_begin_12 : decode cX0_begin 12 = .ok (.iload_n 2, 1) := by decide +kernel
theorem dX0_begin_13 : decode cX0_begin 13 = .ok (.aload_n 1, 1) := by decide +kernel
theorem dX0_begin_14 : decode cX0_begin 14 = .ok (.iload_n 2, 1) := by decide +kernel
theorem dX0_begin_15 : decode cX0_begin 15 = .ok (.invokevirtual 18, 3) := by decide +kernel
theorem dX0_begin_18 : decode cX0_begin 18 = .ok (.iastore, 1) := by decide +kernel
theorem dX0_begin_19 : decode cX0_begin 19 = .ok (.iinc 2 1, 3) := by decide +kernel
theorem dX0_begin_22 : decode cX0_begin 22 = .ok (.goto (-20), 3) := by decide +kernel
theorem dX0_begin_25 : decode cX0_begin 25 = .ok (.return_, 1) := by decide +kernel
set_option maxRecDepth 20000 in
theorem ggX0_advance_X0_trappedBy : GoodIn wsX0_advance wsX0_trappedBy := goodIn_r _ [7, 8, 9, 10, 11, 12, 13, 14, 15, 16, 17, 18, 19, 6, 20, 2, 21, 22, 23, 24, 25, 26, 27, 34, 35, 32, 33] (by decide +kernel) (by decide +kernel)
set_option maxRecDepth 20000 in
theorem gX0_advance_X0_trappedBy : GoodIn wsX0_advance (wsV RX0 24 RX0 yX0_trappedBy wsX0_trappedBy) := goodIn_app (goodIn_of _ (by decide +kernel)) ggX0_advance_X0_trappedBy
set_option maxRecDepth 20000 in
theorem ggX0_advance_X2_movesFrom : GoodIn wsX0_advance wsX2_movesFrom := goodIn_r _ [26, 27, 21, 15, 22, 34, 35] (by decide +kernel) (by decide +kernel)
set_option maxRecDepth 20000 in
theorem gX0_advance_X2_movesFrom : GoodIn wsX0_advance (wsV RX0 28 RX2 yX2_movesFrom wsX2_movesFrom) := goodIn_app (goodIn_of _ (by decide +kernel)) ggX0_advance_X2_movesFrom
set_option maxRecDepth 20000 in
theorem ggX0_advance_X0_trappedByAny : GoodIn wsX0_advance wsX0_trappedByAny := goodIn_r _ [31, 1, 14, 15, 16, 32, 33] (by decide +kernel) (by decide +kernel)
set_option maxRecDepth 20000 in
theorem gX0_advance_X0_trappedByAny : GoodIn wsX0_advance (wsV RX0 31 RX0 yX0_trappedByAny wsX0_trappedByAny) := goodIn_app (goodIn_of _ (by decide +kernel)) ggX0_advance_X0_trappedByAny
theorem dX0_advance_0 : decode cX0_advance 0 = .ok (.iconst 0, 1) := by decide +kernel
theorem dX0_advance_1 : decode cX0_advance 1 = .ok (.istore_n 2, 1) := by decide +kernel
theorem dX0_advance_2 : decode cX0_advance 2 = .ok (.iload_n 2, 1) := by decide +kernel
theorem dX0_advance_3 : decode cX0_advance 3 = .ok (.bipush 12, 2) := by decide +kernel
theorem dX0_advance_5 : decode cX0_advance 5 = .ok (.if_icmp .ge 21, 3) := by decide +kernel
theorem dX0_advance_8 : decode cX0_advance 8 = .ok (.aload_n 0, 1) := by decide +kernel
theorem dX0_advance_9 : decode cX0_advance 9 = .ok (.getfield 15, 3) := by decide +kernel
theorem dX0_advance_12 : decode cX0_advance 12 = .ok (.iload_n 2, 1) := by decide +kernel
theorem dX0_advance_13 : decode cX0_advance 13 = .ok (.aload_n 0, 1) := by decide +kernel
theorem dX0_advance_14 : decode cX0_advance 14 = .ok (.aload_n 1, 1) := by decide +kernel
theorem dX0_advance_15 : decode cX0_advance 15 = .ok (.iload_n 2, 1) := by decide +kernel
theorem dX0_advance_16 : decode cX0_advance 16 = .ok (.invokevirtual 24, 3) := by decide +kernel
theorem dX0_advance_19 : decode cX0_advance 19 = .ok (.iastore, 1) := by decide +kernel
theorem dX0_advance_20 : decode cX0_advance 20 = .ok (.iinc 2 1, 3) := by decide +kernel
theorem dX0_advance_23 : decode cX0_advance 23 = .ok (.goto (-21), 3) := by decide +kernel
theorem dX0_advance_26 : decode cX0_advance 26 = .ok (.iconst 0, 1) := by decide +kernel
theorem dX0_advance_27 : decode cX0_advance 27 = .ok (.istore_n 2, 1) := by decide +kernel
theorem dX0_advance_28 : decode cX0_advance 28 = .ok (.iconst 0, 1) := by decide +kernel
theorem dX0_advance_29 : decode cX0_advance 29 = .ok (.istore_n 3, 1) := by decide +kernel
theorem dX0_advance_30 : decode cX0_advance 30 = .ok (.iload_n 3, 1) := by decide +kernel
theorem dX0_advance_31 : decode cX0_advance 31 = .ok (.bipush 12, 2) := by decide +kernel
theorem dX0_advance_33 : decode cX0_advance 33 = .ok (.if_icmp .ge 48, 3) := by decide +kernel
theorem dX0_advance_36 : decode cX0_advance 36 = .ok (.aload_n 0, 1) := by decide +kernel
theorem dX0_advance_37 : decode cX0_advance 37 = .ok (.getfield 9, 3) := by decide +kernel
theorem dX0_advance_40 : decode cX0_advance 40 = .ok (.iload_n 3, 1) := by decide +kernel
theorem dX0_advance_41 : decode cX0_advance 41 = .ok (.iaload, 1) := by decide +kernel
theorem dX0_advance_42 : decode cX0_advance 42 = .ok (.aload_n 0, 1) := by decide +kernel
theorem dX0_advance_43 : decode cX0_advance 43 = .ok (.aload_n 1, 1) := by decide +kernel
theorem dX0_advance_44 : decode cX0_advance 44 = .ok (.iload_n 3, 1) := by decide +kernel
theorem dX0_advance_45 : decode cX0_advance 45 = .ok (.invokevirtual 28, 3) := by decide +kernel
theorem dX0_advance_48 : decode cX0_advance 48 = .ok (.invokevirtual 31, 3) := by decide +kernel
theorem dX0_advance_51 : decode cX0_advance 51 = .ok (.ior, 1) := by decide +kernel
theorem dX0_advance_52 : decode cX0_advance 52 = .ok (.istore 4, 2) := by decide +kernel
theorem dX0_advance_54 : decode cX0_advance 54 = .ok (.iload 4, 2) := by decide +kernel
theorem dX0_advance_56 : decode cX0_advance 56 = .ok (.aload_n 0, 1) := by decide +kernel
theorem dX0_advance_57 : decode cX0_advance 57 = .ok (.getfield 9, 3) := by decide +kernel
theorem dX0_advance_60 : decode cX0_advance 60 = .ok (.iload_n 3, 1) := by decide +kernel
theorem dX0_advance_61 : decode cX0_advance 61 = .ok (.iaload, 1) := by decide +kernel
theorem dX0_advance_62 : decode cX0_advance 62 = .ok (.if_icmp .eq 5, 3) := by decide +kernel
theorem dX0_advance_65 : decode cX0_advance 65 = .ok (.iconst 1, 1) := by decide +kernel
theorem dX0_advance_66 : decode cX0_advance 66 = .ok (.istore_n 2, 1) := by decide +kernel
theorem dX0_advance_67 : decode cX0_advance 67 = .ok (.aload_n 0, 1) := by decide +kernel
theorem dX0_advance_68 : decode cX0_advance 68 = .ok (.getfield 9, 3) := by decide +kernel
theorem dX0_advance_71 : decode cX0_advance 71 = .ok (.iload_n 3, 1) := by decide +kernel
theorem dX0_advance_72 : decode cX0_advance 72 = .ok (.iload 4, 2) := by decide +kernel
theorem dX0_advance_74 : decode cX0_advance 74 = .ok (.iastore, 1) := by decide +kernel
theorem dX0_advance_75 : decode cX0_advance 75 = .ok (.iinc 3 1, 3) := by decide +kernel
theorem dX0_advance_78 : decode cX0_advance 78 = .ok (.goto (-48), 3) := by decide +kernel
theorem dX0_advance_81 : decode cX0_advance 81 = .ok (.iload_n 2, 1) := by decide +kernel
theorem dX0_advance_82 : decode cX0_advance 82 = .ok (.ireturn, 1) := by decide +kernel
set_option maxRecDepth 20000 in
theorem ggX0_trappedBy_X2_touchedAt : GoodIn wsX0_trappedBy wsX2_touchedAt := goodIn_r _ [5, 6, 7, 8, 9, 23, 24] (by decide +kernel) (by decide +kernel)
set_option maxRecDepth 20000 in
theorem gX0_trappedBy_X2_touchedAt : GoodIn wsX0_trappedBy (wsV RX0 18 RX2 yX2_touchedAt wsX2_touchedAt) := goodIn_app (goodIn_of _ (by decide +kernel)) ggX0_trappedBy_X2_touchedAt
set_option maxRecDepth 20000 in
theorem ggX0_trappedBy_X0_caughtBy : GoodIn wsX0_trappedBy wsX0_caughtBy := goodIn_r _ [14, 15, 16, 8, 17, 25, 26] (by decide +kernel) (by decide +kernel)
set_option maxRecDepth 20000 in
theorem gX0_trappedBy_X0_caughtBy : GoodIn wsX0_trappedBy (wsV RX0 34 RX0 yX0_caughtBy wsX0_caughtBy) := goodIn_app (goodIn_of _ (by decide +kernel)) ggX0_trappedBy_X0_caughtBy
set_option maxRecDepth 20000 in
theorem ggX0_trappedBy_X2_movesFrom : GoodIn wsX0_trappedBy wsX2_movesFrom := goodIn_r _ [21, 22, 16, 8, 17, 23, 24] (by decide +kernel) (by decide +kernel)
set_option maxRecDepth 20000 in
theorem gX0_trappedBy_X2_movesFrom : GoodIn wsX0_trappedBy (wsV RX0 28 RX2 yX2_movesFrom wsX2_movesFrom) := goodIn_app (goodIn_of _ (by decide +kernel)) ggX0_trappedBy_X2_movesFrom
theorem dX0_trappedBy_0 : decode cX0_trappedBy 0 = .ok (.aload_n 1, 1) := by decide +kernel
theorem dX0_trappedBy_1 : decode cX0_trappedBy 1 = .ok (.iload_n 2, 1) := by decide +kernel
theorem dX0_trappedBy_2 : decode cX0_trappedBy 2 = .ok (.invokevirtual 18, 3) := by decide +kernel
theorem dX0_trappedBy_5 : decode cX0_trappedBy 5 = .ok (.istore_n 3, 1) := by decide +kernel
theorem dX0_trappedBy_6 : decode cX0_trappedBy 6 = .ok (.aload_n 0, 1) := by decide +kernel
theorem dX0_trappedBy_7 : decode cX0_trappedBy 7 = .ok (.iload_n 2, 1) := by decide +kernel
theorem dX0_trappedBy_8 : decode cX0_trappedBy 8 = .ok (.invokevirtual 34, 3) := by decide +kernel
theorem dX0_trappedBy_11 : decode cX0_trappedBy 11 = .ok (.istore 4, 2) := by decide +kernel
theorem dX0_trappedBy_13 : decode cX0_trappedBy 13 = .ok (.iconst 0, 1) := by decide +kernel
theorem dX0_trappedBy_14 : decode cX0_trappedBy 14 = .ok (.istore 5, 2) := by decide +kernel
theorem dX0_trappedBy_16 : decode cX0_trappedBy 16 = .ok (.iload 5, 2) := by decide +kernel
theorem dX0_trappedBy_18 : decode cX0_trappedBy 18 = .ok (.bipush 12, 2) := by decide +kernel
theorem dX0_trappedBy_20 : decode cX0_trappedBy 20 = .ok (.if_icmp .ge 30, 3) := by decide +kernel
theorem dX0_trappedBy_23 : decode cX0_trappedBy 23 = .ok (.aload_n 1, 1) := by decide +kernel
theorem dX0_trappedBy_24 : decode cX0_trappedBy 24 = .ok (.iload 5, 2) := by decide +kernel
theorem dX0_trappedBy_26 : decode cX0_trappedBy 26 = .ok (.invokevirtual 28, 3) := by decide +kernel
theorem dX0_trappedBy_29 : decode cX0_trappedBy 29 = .ok (.iload 4, 2) := by decide +kernel
theorem dX0_trappedBy_31 : decode cX0_trappedBy 31 = .ok (.iconst (-1), 1) := by decide +kernel
theorem dX0_trappedBy_32 : decode cX0_trappedBy 32 = .ok (.ixor, 1) := by decide +kernel
theorem dX0_trappedBy_33 : decode cX0_trappedBy 33 = .ok (.iand, 1) := by decide +kernel
theorem dX0_trappedBy_34 : decode cX0_trappedBy 34 = .ok (.ifCond .ne 10, 3) := by decide +kernel
theorem dX0_trappedBy_37 : decode cX0_trappedBy 37 = .ok (.iload_n 3, 1) := by decide +kernel
theorem dX0_trappedBy_38 : decode cX0_trappedBy 38 = .ok (.iconst 1, 1) := by decide +kernel
theorem dX0_trappedBy_39 : decode cX0_trappedBy 39 = .ok (.iload 5, 2) := by decide +kernel
theorem dX0_trappedBy_41 : decode cX0_trappedBy 41 = .ok (.ishl, 1) := by decide +kernel
theorem dX0_trappedBy_42 : decode cX0_trappedBy 42 = .ok (.ior, 1) := by decide +kernel
theorem dX0_trappedBy_43 : decode cX0_trappedBy 43 = .ok (.istore_n 3, 1) := by decide +kernel
theorem dX0_trappedBy_44 : decode cX0_trappedBy 44 = .ok (.iinc 5 1, 3) := by decide +kernel
theorem dX0_trappedBy_47 : decode cX0_trappedBy 47 = .ok (.goto (-31), 3) := by decide +kernel
theorem dX0_trappedBy_50 : decode cX0_trappedBy 50 = .ok (.iload_n 3, 1) := by decide +kernel
theorem dX0_trappedBy_51 : decode cX0_trappedBy 51 = .ok (.ireturn, 1) := by decide +kernel
set_option maxRecDepth 20000 in
theorem ggX0_trappedByAny_X9_holds : GoodIn wsX0_trappedByAny wsX9_holds := goodIn_r _ [4] (by decide +kernel) (by decide +kernel)
set_option maxRecDepth 20000 in
theorem gX0_trappedByAny_X9_holds_n37 : GoodIn wsX0_trappedByAny (wsX9_holds) := ggX0_trappedByAny_X9_holds
theorem dX0_trappedByAny_0 : decode cX0_trappedByAny 0 = .ok (.iconst 0, 1) := by decide +kernel
theorem dX0_trappedByAny_1 : decode cX0_trappedByAny 1 = .ok (.istore_n 2, 1) := by decide +kernel
theorem dX0_trappedByAny_2 : decode cX0_trappedByAny 2 = .ok (.iconst 0, 1) := by decide +kernel
theorem dX0_trappedByAny_3 : decode cX0_trappedByAny 3 = .ok (.istore_n 3, 1) := by decide +kernel
theorem dX0_trappedByAny_4 : decode cX0_trappedByAny 4 = .ok (.iload_n 3, 1) := by decide +kernel
theorem dX0_trappedByAny_5 : decode cX0_trappedByAny 5 = .ok (.bipush 12, 2) := by decide +kernel
theorem dX0_trappedByAny_7 : decode cX0_trappedByAny 7 = .ok (.if_icmp .ge 26, 3) := by decide +kernel
theorem dX0_trappedByAny_10 : decode cX0_trappedByAny 10 = .ok (.iload_n 1, 1) := by decide +kernel
theorem dX0_trappedByAny_11 : decode cX0_trappedByAny 11 = .ok (.iload_n 3, 1) := by decide +kernel
theorem dX0_trappedByAny_12 : decode cX0_trappedByAny 12 = .ok (.invokestatic 37, 3) := by decide +kernel
theorem dX0_trappedByAny_15 : decode cX0_trappedByAny 15 = .ok (.ifCond .eq 12, 3) := by decide +kernel
theorem dX0_trappedByAny_18 : decode cX0_trappedByAny 18 = .ok (.iload_n 2, 1) := by decide +kernel
theorem dX0_trappedByAny_19 : decode cX0_trappedByAny 19 = .ok (.aload_n 0, 1) := by decide +kernel
theorem dX0_trappedByAny_20 : decode cX0_trappedByAny 20 = .ok (.getfield 15, 3) := by decide +kernel
theorem dX0_trappedByAny_23 : decode cX0_trappedByAny 23 = .ok (.iload_n 3, 1) := by decide +kernel
theorem dX0_trappedByAny_24 : decode cX0_trappedByAny 24 = .ok (.iaload, 1) := by decide +kernel
theorem dX0_trappedByAny_25 : decode cX0_trappedByAny 25 = .ok (.ior, 1) := by decide +kernel
theorem dX0_trappedByAny_26 : decode cX0_trappedByAny 26 = .ok (.istore_n 2, 1) := by decide +kernel
theorem dX0_trappedByAny_27 : decode cX0_trappedByAny 27 = .ok (.iinc 3 1, 3) := by decide +kernel
theorem dX0_trappedByAny_30 : decode cX0_trappedByAny 30 = .ok (.goto (-26), 3) := by decide +kernel
theorem dX0_trappedByAny_33 : decode cX0_trappedByAny 33 = .ok (.iload_n 2, 1) := by decide +kernel
theorem dX0_trappedByAny_34 : decode cX0_trappedByAny 34 = .ok (.ireturn, 1) := by decide +kernel
set_option maxRecDepth 20000 in
theorem ggX0_caughtBy_X9_isPlace : GoodIn wsX0_caughtBy wsX9_isPlace := goodIn_r _ [4] (by decide +kernel) (by decide +kernel)
set_option maxRecDepth 20000 in
theorem gX0_caughtBy_X9_isPlace_n41 : GoodIn wsX0_caughtBy (wsX9_isPlace) := ggX0_caughtBy_X9_isPlace
theorem dX0_caughtBy_0 : decode cX0_caughtBy 0 = .ok (.iload_n 1, 1) := by decide +kernel
theorem dX0_caughtBy_1 : decode cX0_caughtBy 1 = .ok (.invokestatic 41, 3) := by decide +kernel
theorem dX0_caughtBy_4 : decode cX0_caughtBy 4 = .ok (.ifCond .eq 12, 3) := by decide +kernel
theorem dX0_caughtBy_7 : decode cX0_caughtBy 7 = .ok (.aload_n 0, 1) := by decide +kernel
theorem dX0_caughtBy_8 : decode cX0_caughtBy 8 = .ok (.getfield 9, 3) := by decide +kernel
theorem dX0_caughtBy_11 : decode cX0_caughtBy 11 = .ok (.iload_n 1, 1) := by decide +kernel
theorem dX0_caughtBy_12 : decode cX0_caughtBy 12 = .ok (.iaload, 1) := by decide +kernel
theorem dX0_caughtBy_13 : decode cX0_caughtBy 13 = .ok (.goto 4, 3) := by decide +kernel
theorem dX0_caughtBy_16 : decode cX0_caughtBy 16 = .ok (.iconst 0, 1) := by decide +kernel
theorem dX0_caughtBy_17 : decode cX0_caughtBy 17 = .ok (.ireturn, 1) := by decide +kernel
set_option maxRecDepth 20000 in
theorem ggX0_fewestRounds_X0_begin : GoodIn wsX0_fewestRounds wsX0_begin := goodIn_r _ [5, 6, 7, 8, 9, 10, 11, 12, 13, 14, 15, 40, 41, 42, 43] (by decide +kernel) (by decide +kernel)
set_option maxRecDepth 20000 in
theorem gX0_fewestRounds_X0_begin : GoodIn wsX0_fewestRounds (wsV RX0 45 RX0 yX0_begin wsX0_begin) := goodIn_app (goodIn_of _ (by decide +kernel)) ggX0_fewestRounds_X0_begin
set_option maxRecDepth 20000 in
theorem ggX0_fewestRounds_X0_caughtBy : GoodIn wsX0_fewestRounds wsX0_caughtBy := goodIn_r _ [19, 6, 20, 14, 21, 40, 41] (by decide +kernel) (by decide +kernel)
set_option maxRecDepth 20000 in
theorem gX0_fewestRounds_X0_caughtBy : GoodIn wsX0_fewestRounds (wsV RX0 34 RX0 yX0_caughtBy wsX0_caughtBy) := goodIn_app (goodIn_of _ (by decide +kernel)) ggX0_fewestRounds_X0_caughtBy
set_option maxRecDepth 20000 in
theorem ggX0_fewestRounds_X9_holds : GoodIn wsX0_fewestRounds wsX9_holds := goodIn_r _ [15] (by decide +kernel) (by decide +kernel)
set_option maxRecDepth 20000 in
theorem gX0_fewestRounds_X9_holds_n37 : GoodIn wsX0_fewestRounds (wsX9_holds) := ggX0_fewestRounds_X9_holds
set_option maxRecDepth 20000 in
theorem ggX0_fewestRounds_X0_advance : GoodIn wsX0_fewestRounds wsX0_advance := goodIn_r _ [25, 26, 6, 27, 28, 29, 4, 30, 7, 8, 9, 10, 11, 12, 13, 14, 15, 16, 17, 18, 19, 20, 21, 31, 32, 33, 34, 35, 36, 37, 38, 39, 40, 41, 42, 43] (by decide +kernel) (by decide +kernel)
set_option maxRecDepth 20000 in
theorem gX0_fewestRounds_X0_advance : GoodIn wsX0_fewestRounds (wsV RX0 49 RX0 yX0_advance wsX0_advance) := goodIn_app (goodIn_of _ (by decide +kernel)) ggX0_fewestRounds_X0_advance
theorem dX0_fewestRounds_0 : decode cX0_fewestRounds 0 = .ok (.aload_n 0, 1) := by decide +kernel
theorem dX0_fewestRounds_1 : decode cX0_fewestRounds 1 = .ok (.aload_n 1, 1) := by decide +kernel
theorem dX0_fewestRounds_2 : decode cX0_fewestRounds 2 = .ok (.invokevirtual 45, 3) := by decide +kernel
theorem dX0_fewestRounds_5 : decode cX0_fewestRounds 5 = .ok (.iconst 1, 1) := by decide +kernel
theorem dX0_fewestRounds_6 : decode cX0_fewestRounds 6 = .ok (.istore 4, 2) := by decide +kernel
theorem dX0_fewestRounds_8 : decode cX0_fewestRounds 8 = .ok (.iconst 0, 1) := by decide +kernel
theorem dX0_fewestRounds_9 : decode cX0_fewestRounds 9 = .ok (.istore 5, 2) := by decide +kernel
theorem dX0_fewestRounds_11 : decode cX0_fewestRounds 11 = .ok (.iload 5, 2) := by decide +kernel
theorem dX0_fewestRounds_13 : decode cX0_fewestRounds 13 = .ok (.sipush 144, 3) := by decide +kernel
theorem dX0_fewestRounds_16 : decode cX0_fewestRounds 16 = .ok (.if_icmp .gt 36, 3) := by decide +kernel
theorem dX0_fewestRounds_19 : decode cX0_fewestRounds 19 = .ok (.iload 4, 2) := by decide +kernel
theorem dX0_fewestRounds_21 : decode cX0_fewestRounds 21 = .ok (.ifCond .eq 31, 3) := by decide +kernel
theorem dX0_fewestRounds_24 : decode cX0_fewestRounds 24 = .ok (.aload_n 0, 1) := by decide +kernel
theorem dX0_fewestRounds_25 : decode cX0_fewestRounds 25 = .ok (.iload_n 2, 1) := by decide +kernel
theorem dX0_fewestRounds_26 : decode cX0_fewestRounds 26 = .ok (.invokevirtual 34, 3) := by decide +kernel
theorem dX0_fewestRounds_29 : decode cX0_fewestRounds 29 = .ok (.iload_n 3, 1) := by decide +kernel
theorem dX0_fewestRounds_30 : decode cX0_fewestRounds 30 = .ok (.invokestatic 37, 3) := by decide +kernel
theorem dX0_fewestRounds_33 : decode cX0_fewestRounds 33 = .ok (.ifCond .eq 6, 3) := by decide +kernel
theorem dX0_fewestRounds_36 : decode cX0_fewestRounds 36 = .ok (.iload 5, 2) := by decide +kernel
theorem dX0_fewestRounds_38 : decode cX0_fewestRounds 38 = .ok (.ireturn, 1) := by decide +kernel
theorem dX0_fewestRounds_39 : decode cX0_fewestRounds 39 = .ok (.aload_n 0, 1) := by decide +kernel
theorem dX0_fewestRounds_40 : decode cX0_fewestRounds 40 = .ok (.aload_n 1, 1) := by decide +kernel
theorem dX0_fewestRounds_41 : decode cX0_fewestRounds 41 = .ok (.invokevirtual 49, 3) := by decide +kernel
theorem dX0_fewestRounds_44 : decode cX0_fewestRounds 44 = .ok (.istore 4, 2) := by decide +kernel
theorem dX0_fewestRounds_46 : decode cX0_fewestRounds 46 = .ok (.iinc 5 1, 3) := by decide +kernel
theorem dX0_fewestRounds_49 : decode cX0_fewestRounds 49 = .ok (.goto (-38), 3) := by decide +kernel
theorem dX0_fewestRounds_52 : decode cX0_fewestRounds 52 = .ok (.bipush (-6), 2) := by decide +kernel
theorem dX0_fewestRounds_54 : decode cX0_fewestRounds 54 = .ok (.ireturn, 1) := by decide +kernel
set_option maxRecDepth 20000 in
theorem ggX0_kingsStep_X0_fewestRounds : GoodIn wsX0_kingsStep wsX0_fewestRounds := goodIn_r _ [6, 7, 8, 9, 5, 10, 11, 12, 13, 14, 15, 16, 17, 18, 19, 20, 21, 22, 23, 24, 25, 26, 27, 28, 29, 30, 1, 31, 32, 33, 34, 35, 36, 37, 38, 39, 40, 41, 42, 43, 44, 45, 46, 47] (by decide +kernel) (by decide +kernel)
set_option maxRecDepth 20000 in
theorem gX0_kingsStep_X0_fewestRounds : GoodIn wsX0_kingsStep (wsV RX0 53 RX0 yX0_fewestRounds wsX0_fewestRounds) := goodIn_app (goodIn_of _ (by decide +kernel)) ggX0_kingsStep_X0_fewestRounds
set_option maxRecDepth 20000 in
theorem ggX0_kingsStep_X2_movesFrom : GoodIn wsX0_kingsStep wsX2_movesFrom := goodIn_r _ [38, 39, 25, 19, 26, 46, 47] (by decide +kernel) (by decide +kernel)
set_option maxRecDepth 20000 in
theorem gX0_kingsStep_X2_movesFrom : GoodIn wsX0_kingsStep (wsV RX0 28 RX2 yX2_movesFrom wsX2_movesFrom) := goodIn_app (goodIn_of _ (by decide +kernel)) ggX0_kingsStep_X2_movesFrom
set_option maxRecDepth 20000 in
theorem ggX0_kingsStep_X9_holds : GoodIn wsX0_kingsStep wsX9_holds := goodIn_r _ [20] (by decide +kernel) (by decide +kernel)
set_option maxRecDepth 20000 in
theorem gX0_kingsStep_X9_holds_n37 : GoodIn wsX0_kingsStep (wsX9_holds) := ggX0_kingsStep_X9_holds
theorem dX0_kingsStep_0 : decode cX0_kingsStep 0 = .ok (.aload_n 0, 1) := by decide +kernel
theorem dX0_kingsStep_1 : decode cX0_kingsStep 1 = .ok (.aload_n 1, 1) := by decide +kernel
theorem dX0_kingsStep_2 : decode cX0_kingsStep 2 = .ok (.iload_n 2, 1) := by decide +kernel
theorem dX0_kingsStep_3 : decode cX0_kingsStep 3 = .ok (.iload_n 3, 1) := by decide +kernel
theorem dX0_kingsStep_4 : decode cX0_kingsStep 4 = .ok (.invokevirtual 53, 3) := by decide +kernel
theorem dX0_kingsStep_7 : decode cX0_kingsStep 7 = .ok (.istore 4, 2) := by decide +kernel
theorem dX0_kingsStep_9 : decode cX0_kingsStep 9 = .ok (.iload 4, 2) := by decide +kernel
theorem dX0_kingsStep_11 : decode cX0_kingsStep 11 = .ok (.bipush (-6), 2) := by decide +kernel
theorem dX0_kingsStep_13 : decode cX0_kingsStep 13 = .ok (.if_icmp .eq 8, 3) := by decide +kernel
theorem dX0_kingsStep_16 : decode cX0_kingsStep 16 = .ok (.iload 4, 2) := by decide +kernel
theorem dX0_kingsStep_18 : decode cX0_kingsStep 18 = .ok (.ifCond .ne 6, 3) := by decide +kernel
theorem dX0_kingsStep_21 : decode cX0_kingsStep 21 = .ok (.bipush (-6), 2) := by decide +kernel
theorem dX0_kingsStep_23 : decode cX0_kingsStep 23 = .ok (.ireturn, 1) := by decide +kernel
theorem dX0_kingsStep_24 : decode cX0_kingsStep 24 = .ok (.aload_n 1, 1) := by decide +kernel
theorem dX0_kingsStep_25 : decode cX0_kingsStep 25 = .ok (.iload_n 2, 1) := by decide +kernel
theorem dX0_kingsStep_26 : decode cX0_kingsStep 26 = .ok (.invokevirtual 28, 3) := by decide +kernel
theorem dX0_kingsStep_29 : decode cX0_kingsStep 29 = .ok (.istore 5, 2) := by decide +kernel
theorem dX0_kingsStep_31 : decode cX0_kingsStep 31 = .ok (.iconst 0, 1) := by decide +kernel
theorem dX0_kingsStep_32 : decode cX0_kingsStep 32 = .ok (.istore 6, 2) := by decide +kernel
theorem dX0_kingsStep_34 : decode cX0_kingsStep 34 = .ok (.iload 6, 2) := by decide +kernel
theorem dX0_kingsStep_36 : decode cX0_kingsStep 36 = .ok (.bipush 12, 2) := by decide +kernel
theorem dX0_kingsStep_38 : decode cX0_kingsStep 38 = .ok (.if_icmp .ge 36, 3) := by decide +kernel
theorem dX0_kingsStep_41 : decode cX0_kingsStep 41 = .ok (.iload 5, 2) := by decide +kernel
theorem dX0_kingsStep_43 : decode cX0_kingsStep 43 = .ok (.iload 6, 2) := by decide +kernel
theorem dX0_kingsStep_45 : decode cX0_kingsStep 45 = .ok (.invokestatic 37, 3) := by decide +kernel
theorem dX0_kingsStep_48 : decode cX0_kingsStep 48 = .ok (.ifCond .eq 20, 3) := by decide +kernel
theorem dX0_kingsStep_51 : decode cX0_kingsStep 51 = .ok (.aload_n 0, 1) := by decide +kernel
theorem dX0_kingsStep_52 : decode cX0_kingsStep 52 = .ok (.getfield 15, 3) := by decide +kernel
theorem dX0_kingsStep_55 : decode cX0_kingsStep 55 = .ok (.iload 6, 2) := by decide +kernel
theorem dX0_kingsStep_57 : decode cX0_kingsStep 57 = .ok (.iaload, 1) := by decide +kernel
theorem dX0_kingsStep_58 : decode cX0_kingsStep 58 = .ok (.iload_n 3, 1) := by decide +kernel
theorem dX0_kingsStep_59 : decode cX0_kingsStep 59 = .ok (.invokestatic 37, 3) := by decide +kernel
theorem dX0_kingsStep_62 : decode cX0_kingsStep 62 = .ok (.ifCond .eq 6, 3) := by decide +kernel
theorem dX0_kingsStep_65 : decode cX0_kingsStep 65 = .ok (.iload 6, 2) := by decide +kernel
theorem dX0_kingsStep_67 : decode cX0_kingsStep 67 = .ok (.ireturn, 1) := by decide +kernel
theorem dX0_kingsStep_68 : decode cX0_kingsStep 68 = .ok (.iinc 6 1, 3) := by decide +kernel
theorem dX0_kingsStep_71 : decode cX0_kingsStep 71 = .ok (.goto (-37), 3) := by decide +kernel
theorem dX0_kingsStep_74 : decode cX0_kingsStep 74 = .ok (.bipush (-6), 2) := by decide +kernel
theorem dX0_kingsStep_76 : decode cX0_kingsStep 76 = .ok (.ireturn, 1) := by decide +kernel
set_option maxRecDepth 20000 in
theorem ggX0_othersStep_X0_begin : GoodIn wsX0_othersStep wsX0_begin := goodIn_r _ [5, 6, 7, 8, 9, 10, 11, 12, 13, 14, 15, 43, 44, 45, 46] (by decide +kernel) (by decide +kernel)
set_option maxRecDepth 20000 in
theorem gX0_othersStep_X0_begin : GoodIn wsX0_othersStep (wsV RX0 45 RX0 yX0_begin wsX0_begin) := goodIn_app (goodIn_of _ (by decide +kernel)) ggX0_othersStep_X0_begin
set_option maxRecDepth 20000 in
theorem ggX0_othersStep_X0_caughtBy : GoodIn wsX0_othersStep wsX0_caughtBy := goodIn_r _ [19, 6, 20, 14, 21, 43, 44] (by decide +kernel) (by decide +kernel)
set_option maxRecDepth 20000 in
theorem gX0_othersStep_X0_caughtBy : GoodIn wsX0_othersStep (wsV RX0 34 RX0 yX0_caughtBy wsX0_caughtBy) := goodIn_app (goodIn_of _ (by decide +kernel)) ggX0_othersStep_X0_caughtBy
set_option maxRecDepth 20000 in
theorem ggX0_othersStep_X9_holds : GoodIn wsX0_othersStep wsX9_holds := goodIn_r _ [15] (by decide +kernel) (by decide +kernel)
set_option maxRecDepth 20000 in
theorem gX0_othersStep_X9_holds_n37 : GoodIn wsX0_othersStep (wsX9_holds) := ggX0_othersStep_X9_holds
set_option maxRecDepth 20000 in
theorem ggX0_othersStep_X2_movesFrom : GoodIn wsX0_othersStep wsX2_movesFrom := goodIn_r _ [25, 26, 20, 14, 21, 45, 46] (by decide +kernel) (by decide +kernel)
set_option maxRecDepth 20000 in
theorem gX0_othersStep_X2_movesFrom : GoodIn wsX0_othersStep (wsV RX0 28 RX2 yX2_movesFrom wsX2_movesFrom) := goodIn_app (goodIn_of _ (by decide +kernel)) ggX0_othersStep_X2_movesFrom
set_option maxRecDepth 20000 in
theorem ggX0_othersStep_X9_leastOf : GoodIn wsX0_othersStep wsX9_leastOf := goodIn_r _ [28, 29, 13, 14, 15] (by decide +kernel) (by decide +kernel)
set_option maxRecDepth 20000 in
theorem gX0_othersStep_X9_leastOf_n57 : GoodIn wsX0_othersStep (wsX9_leastOf) := ggX0_othersStep_X9_leastOf
set_option maxRecDepth 20000 in
theorem ggX0_othersStep_X0_advance : GoodIn wsX0_othersStep wsX0_advance := goodIn_r _ [33, 34, 6, 35, 36, 37, 4, 38, 7, 8, 9, 10, 11, 12, 13, 14, 15, 16, 17, 18, 19, 20, 21, 22, 23, 24, 25, 26, 39, 40, 41, 42, 43, 44, 45, 46] (by decide +kernel) (by decide +kernel)
set_option maxRecDepth 20000 in
theorem gX0_othersStep_X0_advance : GoodIn wsX0_othersStep (wsV RX0 49 RX0 yX0_advance wsX0_advance) := goodIn_app (goodIn_of _ (by decide +kernel)) ggX0_othersStep_X0_advance
theorem dX0_othersStep_0 : decode cX0_othersStep 0 = .ok (.aload_n 0, 1) := by decide +kernel
theorem dX0_othersStep_1 : decode cX0_othersStep 1 = .ok (.aload_n 1, 1) := by decide +kernel
theorem dX0_othersStep_2 : decode cX0_othersStep 2 = .ok (.invokevirtual 45, 3) := by decide +kernel
theorem dX0_othersStep_5 : decode cX0_othersStep 5 = .ok (.aload_n 0, 1) := by decide +kernel
theorem dX0_othersStep_6 : decode cX0_othersStep 6 = .ok (.iload_n 2, 1) := by decide +kernel
theorem dX0_othersStep_7 : decode cX0_othersStep 7 = .ok (.invokevirtual 34, 3) := by decide +kernel
theorem dX0_othersStep_10 : decode cX0_othersStep 10 = .ok (.iload_n 3, 1) := by decide +kernel
theorem dX0_othersStep_11 : decode cX0_othersStep 11 = .ok (.invokestatic 37, 3) := by decide +kernel
theorem dX0_othersStep_14 : decode cX0_othersStep 14 = .ok (.ifCond .eq 6, 3) := by decide +kernel
theorem dX0_othersStep_17 : decode cX0_othersStep 17 = .ok (.bipush (-6), 2) := by decide +kernel
theorem dX0_othersStep_19 : decode cX0_othersStep 19 = .ok (.ireturn, 1) := by decide +kernel
theorem dX0_othersStep_20 : decode cX0_othersStep 20 = .ok (.aload_n 1, 1) := by decide +kernel
theorem dX0_othersStep_21 : decode cX0_othersStep 21 = .ok (.iload_n 3, 1) := by decide +kernel
theorem dX0_othersStep_22 : decode cX0_othersStep 22 = .ok (.invokevirtual 28, 3) := by decide +kernel
theorem dX0_othersStep_25 : decode cX0_othersStep 25 = .ok (.istore 4, 2) := by decide +kernel
theorem dX0_othersStep_27 : decode cX0_othersStep 27 = .ok (.iconst 1, 1) := by decide +kernel
theorem dX0_othersStep_28 : decode cX0_othersStep 28 = .ok (.istore 5, 2) := by decide +kernel
theorem dX0_othersStep_30 : decode cX0_othersStep 30 = .ok (.iconst 0, 1) := by decide +kernel
theorem dX0_othersStep_31 : decode cX0_othersStep 31 = .ok (.istore 6, 2) := by decide +kernel
theorem dX0_othersStep_33 : decode cX0_othersStep 33 = .ok (.iload 6, 2) := by decide +kernel
theorem dX0_othersStep_35 : decode cX0_othersStep 35 = .ok (.sipush 144, 3) := by decide +kernel
theorem dX0_othersStep_38 : decode cX0_othersStep 38 = .ok (.if_icmp .gt 48, 3) := by decide +kernel
theorem dX0_othersStep_41 : decode cX0_othersStep 41 = .ok (.iload 5, 2) := by decide +kernel
theorem dX0_othersStep_43 : decode cX0_othersStep 43 = .ok (.ifCond .eq 43, 3) := by decide +kernel
theorem dX0_othersStep_46 : decode cX0_othersStep 46 = .ok (.iload 4, 2) := by decide +kernel
theorem dX0_othersStep_48 : decode cX0_othersStep 48 = .ok (.aload_n 0, 1) := by decide +kernel
theorem dX0_othersStep_49 : decode cX0_othersStep 49 = .ok (.iload_n 2, 1) := by decide +kernel
theorem dX0_othersStep_50 : decode cX0_othersStep 50 = .ok (.invokevirtual 34, 3) := by decide +kernel
theorem dX0_othersStep_53 : decode cX0_othersStep 53 = .ok (.iconst (-1), 1) := by decide +kernel
theorem dX0_othersStep_54 : decode cX0_othersStep 54 = .ok (.ixor, 1) := by decide +kernel
theorem dX0_othersStep_55 : decode cX0_othersStep 55 = .ok (.iand, 1) := by decide +kernel
theorem dX0_othersStep_56 : decode cX0_othersStep 56 = .ok (.istore 7, 2) := by decide +kernel
theorem dX0_othersStep_58 : decode cX0_othersStep 58 = .ok (.iload 7, 2) := by decide +kernel
theorem dX0_othersStep_60 : decode cX0_othersStep 60 = .ok (.ifCond .ne 9, 3) := by decide +kernel
theorem dX0_othersStep_63 : decode cX0_othersStep 63 = .ok (.iload 4, 2) := by decide +kernel
theorem dX0_othersStep_65 : decode cX0_othersStep 65 = .ok (.invokestatic 57, 3) := by decide +kernel
theorem dX0_othersStep_68 : decode cX0_othersStep 68 = .ok (.ireturn, 1) := by decide +kernel
theorem dX0_othersStep_69 : decode cX0_othersStep 69 = .ok (.iload 7, 2) := by decide +kernel
theorem dX0_othersStep_71 : decode cX0_othersStep 71 = .ok (.istore 4, 2) := by decide +kernel
theorem dX0_othersStep_73 : decode cX0_othersStep 73 = .ok (.aload_n 0, 1) := by decide +kernel
theorem dX0_othersStep_74 : decode cX0_othersStep 74 = .ok (.aload_n 1, 1) := by decide +kernel
theorem dX0_othersStep_75 : decode cX0_othersStep 75 = .ok (.invokevirtual 49, 3) := by decide +kernel
theorem dX0_othersStep_78 : decode cX0_othersStep 78 = .ok (.istore 5, 2) := by decide +kernel
theorem dX0_othersStep_80 : decode cX0_othersStep 80 = .ok (.iinc 6 1, 3) := by decide +kernel
theorem dX0_othersStep_83 : decode cX0_othersStep 83 = .ok (.goto (-50), 3) := by decide +kernel
theorem dX0_othersStep_86 : decode cX0_othersStep 86 = .ok (.iload 4, 2) := by decide +kernel
theorem dX0_othersStep_88 : decode cX0_othersStep 88 = .ok (.invokestatic 57, 3) := by decide +kernel
theorem dX0_othersStep_91 : decode cX0_othersStep 91 = .ok (.ireturn, 1) := by decide +kernel
theorem dX1_init_0 : decode cX1_init 0 = .ok (.aload_n 0, 1) := by decide +kernel
theorem dX1_init_1 : decode cX1_init 1 = .ok (.invokespecial 3, 3) := by decide +kernel
theorem dX1_init_4 : decode cX1_init 4 = .ok (.aload_n 0, 1) := by decide +kernel
theorem dX1_init_5 : decode cX1_init 5 = .ok (.bipush 7, 2) := by decide +kernel
theorem dX1_init_7 : decode cX1_init 7 = .ok (.newarray .int, 2) := by decide +kernel
theorem dX1_init_9 : decode cX1_init 9 = .ok (.putfield 9, 3) := by decide +kernel
theorem dX1_init_12 : decode cX1_init 12 = .ok (.aload_n 0, 1) := by decide +kernel
theorem dX1_init_13 : decode cX1_init 13 = .ok (.bipush 7, 2) := by decide +kernel
theorem dX1_init_15 : decode cX1_init 15 = .ok (.newarray .int, 2) := by decide +kernel
theorem dX1_init_17 : decode cX1_init 17 = .ok (.putfield 15, 3) := by decide +kernel
theorem dX1_init_20 : decode cX1_init 20 = .ok (.aload_n 0, 1) := by decide +kernel
theorem dX1_init_21 : decode cX1_init 21 = .ok (.bipush 7, 2) := by decide +kernel
theorem dX1_init_23 : decode cX1_init 23 = .ok (.newarray .int, 2) := by decide +kernel
theorem dX1_init_25 : decode cX1_init 25 = .ok (.putfield 18, 3) := by decide +kernel
theorem dX1_init_28 : decode cX1_init 28 = .ok (.aload_n 0, 1) := by decide +kernel
theorem dX1_init_29 : decode cX1_init 29 = .ok (.iconst 0, 1) := by decide +kernel
theorem dX1_init_30 : decode cX1_init 30 = .ok (.putfield 21, 3) := by decide +kernel
theorem dX1_init_33 : decode cX1_init 33 = .ok (.aload_n 0, 1) := by decide +kernel
theorem dX1_init_34 : decode cX1_init 34 = .ok (.iconst 0, 1) := by decide +kernel
theorem dX1_init_35 : decode cX1_init 35 = .ok (.putfield 25, 3) := by decide +kernel
theorem dX1_init_38 : decode cX1_init 38 = .ok (.aload_n 0, 1) := by decide +kernel
theorem dX1_init_39 : decode cX1_init 39 = .ok (.bipush (-6), 2) := by decide +kernel
theorem dX1_init_41 : decode cX1_init 41 = .ok (.putfield 28, 3) := by decide +kernel
theorem dX1_init_44 : decode cX1_init 44 = .ok (.aload_n 0, 1) := by decide +kernel
theorem dX1_init_45 : decode cX1_init 45 = .ok (.bipush (-6), 2) := by decide +kernel
theorem dX1_init_47 : decode cX1_init 47 = .ok (.putfield 31, 3) := by decide +kernel
theorem dX1_init_50 : decode cX1_init 50 = .ok (.aload_n 0, 1) := by decide +kernel
theorem dX1_init_51 : decode cX1_init 51 = .ok (.iconst 0, 1) := by decide +kernel
theorem dX1_init_52 : decode cX1_init 52 = .ok (.putfield 34, 3) := by decide +kernel
theorem dX1_init_55 : decode cX1_init 55 = .ok (.return_, 1) := by decide +kernel
theorem dX1_copy_0 : decode cX1_copy 0 = .ok (.aload_n 1, 1) := by decide +kernel
theorem dX1_copy_1 : decode cX1_copy 1 = .ok (.getfield 9, 3) := by decide +kernel
theorem dX1_copy_4 : decode cX1_copy 4 = .ok (.iconst 0, 1) := by decide +kernel
theorem dX1_copy_5 : decode cX1_copy 5 = .ok (.aload_n 0, 1) := by decide +kernel
theorem dX1_copy_6 : decode cX1_copy 6 = .ok (.getfield 9, 3) := by decide +kernel
theorem dX1_copy_9 : decode cX1_copy 9 = .ok (.iconst 0, 1) := by decide +kernel
theorem dX1_copy_10 : decode cX1_copy 10 = .ok (.bipush 7, 2) := by decide +kernel
theorem dX1_copy_12 : decode cX1_copy 12 = .ok (.invokestatic 37, 3) := by decide +kernel
theorem dX1_copy_15 : decode cX1_copy 15 = .ok (.aload_n 1, 1) := by decide +kernel
theorem dX1_copy_16 : decode cX1_copy 16 = .ok (.getfield 15, 3) := by decide +kernel
theorem dX1_copy_19 : decode cX1_copy 19 = .ok (.iconst 0, 1) := by decide +kernel
theorem dX1_copy_20 : decode cX1_copy 20 = .ok (.aload_n 0, 1) := by decide +kernel
theorem dX1_copy_21 : decode cX1_copy 21 = .ok (.getfield 15, 3) := by decide +kernel
theorem dX1_copy_24 : decode cX1_copy 24 = .ok (.iconst 0, 1) := by decide +kernel
theorem dX1_copy_25 : decode cX1_copy 25 = .ok (.bipush 7, 2) := by decide +kernel
theorem dX1_copy_27 : decode cX1_copy 27 = .ok (.invokestatic 37, 3) := by decide +kernel
theorem dX1_copy_30 : decode cX1_copy 30 = .ok (.aload_n 1, 1) := by decide +kernel
theorem dX1_copy_31 : decode cX1_copy 31 = .ok (.getfield 18, 3) := by decide +kernel
theorem dX1_copy_34 : decode cX1_copy 34 = .ok (.iconst 0, 1) := by decide +kernel
theorem dX1_copy_35 : decode cX1_copy 35 = .ok (.aload_n 0, 1) := by decide +kernel
theorem dX1_copy_36 : decode cX1_copy 36 = .ok (.getfield 18, 3) := by decide +kernel
theorem dX1_copy_39 : decode cX1_copy 39 = .ok (.iconst 0, 1) := by decide +kernel
theorem dX1_copy_40 : decode cX1_copy 40 = .ok (.bipush 7, 2) := by decide +kernel
theorem dX1_copy_42 : decode cX1_copy 42 = .ok (.invokestatic 37, 3) := by decide +kernel
theorem dX1_copy_45 : decode cX1_copy 45 = .ok (.aload_n 0, 1) := by decide +kernel
theorem dX1_copy_46 : decode cX1_copy 46 = .ok (.aload_n 1, 1) := by decide +kernel
theorem dX1_copy_47 : decode cX1_copy 47 = .ok (.getfield 21, 3) := by decide +kernel
theorem dX1_copy_50 : decode cX1_copy 50 = .ok (.putfield 21, 3) := by decide +kernel
theorem dX1_copy_53 : decode cX1_copy 53 = .ok (.aload_n 0, 1) := by decide +kernel
theorem dX1_copy_54 : decode cX1_copy 54 = .ok (.aload_n 1, 1) := by decide +kernel
theorem dX1_copy_55 : decode cX1_copy 55 = .ok (.getfield 25, 3) := by decide +kernel
theorem dX1_copy_58 : decode cX1_copy 58 = .ok (.putfield 25, 3) := by decide +kernel
theorem dX1_copy_61 : decode cX1_copy 61 = .ok (.aload_n 0, 1) := by decide +kernel
theorem dX1_copy_62 : decode cX1_copy 62 = .ok (.aload_n 1, 1) := by decide +kernel
theorem dX1_copy_63 : decode cX1_copy 63 = .ok (.getfield 28, 3) := by decide +kernel
theorem dX1_copy_66 : decode cX1_copy 66 = .ok (.putfield 28, 3) := by decide +kernel
theorem dX1_copy_69 : decode cX1_copy 69 = .ok (.aload_n 0, 1) := by decide +kernel
theorem dX1_copy_70 : decode cX1_copy 70 = .ok (.aload_n 1, 1) := by decide +kernel
theorem dX1_copy_71 : decode cX1_copy 71 = .ok (.getfield 31, 3) := by decide +kernel
theorem dX1_copy_74 : decode cX1_copy 74 = .ok (.putfield 31, 3) := by decide +kernel
theorem dX1_copy_77 : decode cX1_copy 77 = .ok (.aload_n 0, 1) := by decide +kernel
theorem dX1_copy_78 : decode cX1_copy 78 = .ok (.aload_n 1, 1) := by decide +kernel
theorem dX1_copy_79 : decode cX1_copy 79 = .ok (.getfield 34, 3) := by decide +kernel
theorem dX1_copy_82 : decode cX1_copy 82 = .ok (.putfield 34, 3) := by decide +kernel
theorem dX1_copy_85 : decode cX1_copy 85 = .ok (.return_, 1) := by decide +kernel
set_option maxRecDepth 20000 in
theorem ggX1_enter_X9_isOne : GoodIn wsX1_enter wsX9_isOne := goodIn_r _ [8] (by decide +kernel) (by decide +kernel)
set_option maxRecDepth 20000 in
theorem gX1_enter_X9_isOne_n43 : GoodIn wsX1_enter (wsX9_isOne) := ggX1_enter_X9_isOne
set_option maxRecDepth 20000 in
theorem ggX1_enter_X9_marked : GoodIn wsX1_enter wsX9_marked := goodIn_r _ [10] (by decide +kernel) (by decide +kernel)
set_option maxRecDepth 20000 in
theorem gX1_enter_X9_marked_n47 : GoodIn wsX1_enter (wsX9_marked) := ggX1_enter_X9_marked
theorem dX1_enter_0 : decode cX1_enter 0 = .ok (.iload_n 1, 1) := by decide +kernel
theorem dX1_enter_1 : decode cX1_enter 1 = .ok (.invokestatic 43, 3) := by decide +kernel
theorem dX1_enter_4 : decode cX1_enter 4 = .ok (.ifCond .ne 4, 3) := by decide +kernel
theorem dX1_enter_7 : decode cX1_enter 7 = .ok (.return_, 1) := by decide +kernel
theorem dX1_enter_8 : decode cX1_enter 8 = .ok (.aload_n 0, 1) := by decide +kernel
theorem dX1_enter_9 : decode cX1_enter 9 = .ok (.aload_n 0, 1) := by decide +kernel
theorem dX1_enter_10 : decode cX1_enter 10 = .ok (.getfield 21, 3) := by decide +kernel
theorem dX1_enter_13 : decode cX1_enter 13 = .ok (.iload_n 1, 1) := by decide +kernel
theorem dX1_enter_14 : decode cX1_enter 14 = .ok (.iconst 1, 1) := by decide +kernel
theorem dX1_enter_15 : decode cX1_enter 15 = .ok (.invokestatic 47, 3) := by decide +kernel
theorem dX1_enter_18 : decode cX1_enter 18 = .ok (.putfield 21, 3) := by decide +kernel
theorem dX1_enter_21 : decode cX1_enter 21 = .ok (.aload_n 0, 1) := by decide +kernel
theorem dX1_enter_22 : decode cX1_enter 22 = .ok (.aload_n 0, 1) := by decide +kernel
theorem dX1_enter_23 : decode cX1_enter 23 = .ok (.getfield 25, 3) := by decide +kernel
theorem dX1_enter_26 : decode cX1_enter 26 = .ok (.iload_n 1, 1) := by decide +kernel
theorem dX1_enter_27 : decode cX1_enter 27 = .ok (.iconst 0, 1) := by decide +kernel
theorem dX1_enter_28 : decode cX1_enter 28 = .ok (.invokestatic 47, 3) := by decide +kernel
theorem dX1_enter_31 : decode cX1_enter 31 = .ok (.putfield 25, 3) := by decide +kernel
theorem dX1_enter_34 : decode cX1_enter 34 = .ok (.aload_n 0, 1) := by decide +kernel
theorem dX1_enter_35 : decode cX1_enter 35 = .ok (.getfield 9, 3) := by decide +kernel
theorem dX1_enter_38 : decode cX1_enter 38 = .ok (.iload_n 1, 1) := by decide +kernel
theorem dX1_enter_39 : decode cX1_enter 39 = .ok (.iload_n 2, 1) := by decide +kernel
theorem dX1_enter_40 : decode cX1_enter 40 = .ok (.iastore, 1) := by decide +kernel
theorem dX1_enter_41 : decode cX1_enter 41 = .ok (.aload_n 0, 1) := by decide +kernel
theorem dX1_enter_42 : decode cX1_enter 42 = .ok (.getfield 15, 3) := by decide +kernel
theorem dX1_enter_45 : decode cX1_enter 45 = .ok (.iload_n 1, 1) := by decide +kernel
theorem dX1_enter_46 : decode cX1_enter 46 = .ok (.iload_n 3, 1) := by decide +kernel
theorem dX1_enter_47 : decode cX1_enter 47 = .ok (.iastore, 1) := by decide +kernel
theorem dX1_enter_48 : decode cX1_enter 48 = .ok (.aload_n 0, 1) := by decide +kernel
theorem dX1_enter_49 : decode cX1_enter 49 = .ok (.getfield 18, 3) := by decide +kernel
theorem dX1_enter_52 : decode cX1_enter 52 = .ok (.iload_n 1, 1) := by decide +kernel
theorem dX1_enter_53 : decode cX1_enter 53 = .ok (.iconst 0, 1) := by decide +kernel
theorem dX1_enter_54 : decode cX1_enter 54 = .ok (.iastore, 1) := by decide +kernel
theorem dX1_enter_55 : decode cX1_enter 55 = .ok (.return_, 1) := by decide +kernel
set_option maxRecDepth 20000 in
theorem ggX1_depart_X9_marked : GoodIn wsX1_depart wsX9_marked := goodIn_r _ [6] (by decide +kernel) (by decide +kernel)
set_option maxRecDepth 20000 in
theorem gX1_depart_X9_marked_n47 : GoodIn wsX1_depart (wsX9_marked) := ggX1_depart_X9_marked
theorem dX1_depart_0 : decode cX1_depart 0 = .ok (.aload_n 0, 1) := by decide +kernel
theorem dX1_depart_1 : decode cX1_depart 1 = .ok (.aload_n 0, 1) := by decide +kernel
theorem dX1_depart_2 : decode cX1_depart 2 = .ok (.getfield 21, 3) := by decide +kernel
theorem dX1_depart_5 : decode cX1_depart 5 = .ok (.iload_n 1, 1) := by decide +kernel
theorem dX1_depart_6 : decode cX1_depart 6 = .ok (.iconst 0, 1) := by decide +kernel
theorem dX1_depart_7 : decode cX1_depart 7 = .ok (.invokestatic 47, 3) := by decide +kernel
theorem dX1_depart_10 : decode cX1_depart 10 = .ok (.putfield 21, 3) := by decide +kernel
theorem dX1_depart_13 : decode cX1_depart 13 = .ok (.aload_n 0, 1) := by decide +kernel
theorem dX1_depart_14 : decode cX1_depart 14 = .ok (.getfield 28, 3) := by decide +kernel
theorem dX1_depart_17 : decode cX1_depart 17 = .ok (.iload_n 1, 1) := by decide +kernel
theorem dX1_depart_18 : decode cX1_depart 18 = .ok (.if_icmp .ne 9, 3) := by decide +kernel
theorem dX1_depart_21 : decode cX1_depart 21 = .ok (.aload_n 0, 1) := by decide +kernel
theorem dX1_depart_22 : decode cX1_depart 22 = .ok (.bipush (-6), 2) := by decide +kernel
theorem dX1_depart_24 : decode cX1_depart 24 = .ok (.putfield 28, 3) := by decide +kernel
theorem dX1_depart_27 : decode cX1_depart 27 = .ok (.aload_n 0, 1) := by decide +kernel
theorem dX1_depart_28 : decode cX1_depart 28 = .ok (.getfield 31, 3) := by decide +kernel
theorem dX1_depart_31 : decode cX1_depart 31 = .ok (.iload_n 1, 1) := by decide +kernel
theorem dX1_depart_32 : decode cX1_depart 32 = .ok (.if_icmp .ne 9, 3) := by decide +kernel
theorem dX1_depart_35 : decode cX1_depart 35 = .ok (.aload_n 0, 1) := by decide +kernel
theorem dX1_depart_36 : decode cX1_depart 36 = .ok (.bipush (-6), 2) := by decide +kernel
theorem dX1_depart_38 : decode cX1_depart 38 = .ok (.putfield 31, 3) := by decide +kernel
theorem dX1_depart_41 : decode cX1_depart 41 = .ok (.return_, 1) := by decide +kernel
set_option maxRecDepth 20000 in
theorem ggX1_isHere_X9_holds : GoodIn wsX1_isHere wsX9_holds := goodIn_r _ [4] (by decide +kernel) (by decide +kernel)
set_option maxRecDepth 20000 in
theorem gX1_isHere_X9_holds_n51 : GoodIn wsX1_isHere (wsX9_holds) := ggX1_isHere_X9_holds
theorem dX1_isHere_0 : decode cX1_isHere 0 = .ok (.aload_n 0, 1) := by decide +kernel
theorem dX1_isHere_1 : decode cX1_isHere 1 = .ok (.getfield 21, 3) := by decide +kernel
theorem dX1_isHere_4 : decode cX1_isHere 4 = .ok (.iload_n 1, 1) := by decide +kernel
theorem dX1_isHere_5 : decode cX1_isHere 5 = .ok (.invokestatic 51, 3) := by decide +kernel
theorem dX1_isHere_8 : decode cX1_isHere 8 = .ok (.ireturn, 1) := by decide +kernel
theorem dX1_placeOf_0 : decode cX1_placeOf 0 = .ok (.iload_n 1, 1) := by decide +kernel
theorem dX1_placeOf_1 : decode cX1_placeOf 1 = .ok (.ifCond .lt 18, 3) := by decide +kernel
theorem dX1_placeOf_4 : decode cX1_placeOf 4 = .ok (.iload_n 1, 1) := by decide +kernel
theorem dX1_placeOf_5 : decode cX1_placeOf 5 = .ok (.bipush 7, 2) := by decide +kernel
theorem dX1_placeOf_7 : decode cX1_placeOf 7 = .ok (.if_icmp .ge 12, 3) := by decide +kernel
theorem dX1_placeOf_10 : decode cX1_placeOf 10 = .ok (.aload_n 0, 1) := by decide +kernel
theorem dX1_placeOf_11 : decode cX1_placeOf 11 = .ok (.getfield 9, 3) := by decide +kernel
theorem dX1_placeOf_14 : decode cX1_placeOf 14 = .ok (.iload_n 1, 1) := by decide +kernel
theorem dX1_placeOf_15 : decode cX1_placeOf 15 = .ok (.iaload, 1) := by decide +kernel
theorem dX1_placeOf_16 : decode cX1_placeOf 16 = .ok (.goto 5, 3) := by decide +kernel
theorem dX1_placeOf_19 : decode cX1_placeOf 19 = .ok (.bipush (-6), 2) := by decide +kernel
theorem dX1_placeOf_21 : decode cX1_placeOf 21 = .ok (.ireturn, 1) := by decide +kernel
theorem dX1_breathOf_0 : decode cX1_breathOf 0 = .ok (.iload_n 1, 1) := by decide +kernel
theorem dX1_breathOf_1 : decode cX1_breathOf 1 = .ok (.ifCond .lt 18, 3) := by decide +kernel
theorem dX1_breathOf_4 : decode cX1_breathOf 4 = .ok (.iload_n 1, 1) := by decide +kernel
theorem dX1_breathOf_5 : decode cX1_breathOf 5 = .ok (.bipush 7, 2) := by decide +kernel
theorem dX1_breathOf_7 : decode cX1_breathOf 7 = .ok (.if_icmp .ge 12, 3) := by decide +kernel
theorem dX1_breathOf_10 : decode cX1_breathOf 10 = .ok (.aload_n 0, 1) := by decide +kernel
theorem dX1_breathOf_11 : decode cX1_breathOf 11 = .ok (.getfield 15, 3) := by decide +kernel
theorem dX1_breathOf_14 : decode cX1_breathOf 14 = .ok (.iload_n 1, 1) := by decide +kernel
theorem dX1_breathOf_15 : decode cX1_breathOf 15 = .ok (.iaload, 1) := by decide +kernel
theorem dX1_breathOf_16 : decode cX1_breathOf 16 = .ok (.goto 4, 3) := by decide +kernel
theorem dX1_breathOf_19 : decode cX1_breathOf 19 = .ok (.iconst 0, 1) := by decide +kernel
theorem dX1_breathOf_20 : decode cX1_breathOf 20 = .ok (.ireturn, 1) := by decide +kernel
theorem dX1_reignOf_0 : decode cX1_reignOf 0 = .ok (.iload_n 1, 1) := by decide +kernel
theorem dX1_reignOf_1 : decode cX1_reignOf 1 = .ok (.ifCond .lt 18, 3) := by decide +kernel
theorem dX1_reignOf_4 : decode cX1_reignOf 4 = .ok (.iload_n 1, 1) := by decide +kernel
theorem dX1_reignOf_5 : decode cX1_reignOf 5 = .ok (.bipush 7, 2) := by decide +kernel
theorem dX1_reignOf_7 : decode cX1_reignOf 7 = .ok (.if_icmp .ge 12, 3) := by decide +kernel
theorem dX1_reignOf_10 : decode cX1_reignOf 10 = .ok (.aload_n 0, 1) := by decide +kernel
theorem dX1_reignOf_11 : decode cX1_reignOf 11 = .ok (.getfield 18, 3) := by decide +kernel
theorem dX1_reignOf_14 : decode cX1_reignOf 14 = .ok (.iload_n 1, 1) := by decide +kernel
theorem dX1_reignOf_15 : decode cX1_reignOf 15 = .ok (.iaload, 1) := by decide +kernel
theorem dX1_reignOf_16 : decode cX1_reignOf 16 = .ok (.goto 4, 3) := by decide +kernel
theorem dX1_reignOf_19 : decode cX1_reignOf 19 = .ok (.iconst 0, 1) := by decide +kernel
theorem dX1_reignOf_20 : decode cX1_reignOf 20 = .ok (.ireturn, 1) := by decide +kernel
set_option maxRecDepth 20000 in
theorem ggX1_allBreath_X1_isHere : GoodIn wsX1_allBreath wsX1_isHere := goodIn_r _ [6, 7, 8, 9, 10, 11, 12, 13, 14, 15, 16, 17, 18] (by decide +kernel) (by decide +kernel)
set_option maxRecDepth 20000 in
theorem gX1_allBreath_X1_isHere : GoodIn wsX1_allBreath (wsV RX1 55 RX1 yX1_isHere wsX1_isHere) := goodIn_app (goodIn_of _ (by decide +kernel)) ggX1_allBreath_X1_isHere
theorem dX1_allBreath_0 : decode cX1_allBreath 0 = .ok (.iconst 0, 1) := by decide +kernel
theorem dX1_allBreath_1 : decode cX1_allBreath 1 = .ok (.istore_n 1, 1) := by decide +kernel
theorem dX1_allBreath_2 : decode cX1_allBreath 2 = .ok (.iconst 0, 1) := by decide +kernel
theorem dX1_allBreath_3 : decode cX1_allBreath 3 = .ok (.istore_n 2, 1) := by decide +kernel
theorem dX1_allBreath_4 : decode cX1_allBreath 4 = .ok (.iload_n 2, 1) := by decide +kernel
theorem dX1_allBreath_5 : decode cX1_allBreath 5 = .ok (.bipush 7, 2) := by decide +kernel
theorem dX1_allBreath_7 : decode cX1_allBreath 7 = .ok (.if_icmp .ge 26, 3) := by decide +kernel
theorem dX1_allBreath_10 : decode cX1_allBreath 10 = .ok (.aload_n 0, 1) := by decide +kernel
theorem dX1_allBreath_11 : decode cX1_allBreath 11 = .ok (.iload_n 2, 1) := by decide +kernel
theorem dX1_allBreath_12 : decode cX1_allBreath 12 = .ok (.invokevirtual 55, 3) := by decide +kernel
theorem dX1_allBreath_15 : decode cX1_allBreath 15 = .ok (.ifCond .eq 12, 3) := by decide +kernel
theorem dX1_allBreath_18 : decode cX1_allBreath 18 = .ok (.iload_n 1, 1) := by decide +kernel
theorem dX1_allBreath_19 : decode cX1_allBreath 19 = .ok (.aload_n 0, 1) := by decide +kernel
theorem dX1_allBreath_20 : decode cX1_allBreath 20 = .ok (.getfield 15, 3) := by decide +kernel
theorem dX1_allBreath_23 : decode cX1_allBreath 23 = .ok (.iload_n 2, 1) := by decide +kernel
theorem dX1_allBreath_24 : decode cX1_allBreath 24 = .ok (.iaload, 1) := by decide +kernel
theorem dX1_allBreath_25 : decode cX1_allBreath 25 = .ok (.iadd, 1) := by decide +kernel
theorem dX1_allBreath_26 : decode cX1_allBreath 26 = .ok (.istore_n 1, 1) := by decide +kernel
theorem dX1_allBreath_27 : decode cX1_allBreath 27 = .ok (.iinc 2 1, 3) := by decide +kernel
theorem dX1_allBreath_30 : decode cX1_allBreath 30 = .ok (.goto (-26), 3) := by decide +kernel
theorem dX1_allBreath_33 : decode cX1_allBreath 33 = .ok (.iload_n 1, 1) := by decide +kernel
theorem dX1_allBreath_34 : decode cX1_allBreath 34 = .ok (.ireturn, 1) := by decide +kernel
set_option maxRecDepth 20000 in
theorem ggX1_reasonAgainst_X1_isHere : GoodIn wsX1_reasonAgainst wsX1_isHere := goodIn_r _ [6, 7, 8, 9, 10, 39, 40, 41, 42, 43, 44, 45, 46] (by decide +kernel) (by decide +kernel)
set_option maxRecDepth 20000 in
theorem gX1_reasonAgainst_X1_isHere : GoodIn wsX1_reasonAgainst (wsV RX1 55 RX1 yX1_isHere wsX1_isHere) := goodIn_app (goodIn_of _ (by decide +kernel)) ggX1_reasonAgainst_X1_isHere
set_option maxRecDepth 20000 in
theorem ggX1_reasonAgainst_X1_reasonAgainstRun : GoodIn wsX1_reasonAgainst wsX1_reasonAgainstRun := goodIn_r _ [14, 15, 16, 17, 18, 5, 19, 20, 21, 22, 23, 24, 25, 26, 8, 9, 10, 27, 28, 29, 30, 31, 39, 40, 41, 42, 43, 44, 45, 46, 47, 48] (by decide +kernel) (by decide +kernel)
set_option maxRecDepth 20000 in
theorem gX1_reasonAgainst_X1_reasonAgainstRun : GoodIn wsX1_reasonAgainst (wsV RX1 58 RX1 yX1_reasonAgainstRun wsX1_reasonAgainstRun) := goodIn_app (goodIn_of _ (by decide +kernel)) ggX1_reasonAgainst_X1_reasonAgainstRun
set_option maxRecDepth 20000 in
theorem ggX1_reasonAgainst_X1_reasonAgainstTouch : GoodIn wsX1_reasonAgainst wsX1_reasonAgainstTouch := goodIn_r _ [35, 36, 15, 37, 38, 2, 3, 4, 5, 6, 7, 8, 9, 10, 16, 17, 18, 19, 20, 39, 40, 41, 42, 43, 44, 45, 46, 47, 48] (by decide +kernel) (by decide +kernel)
set_option maxRecDepth 20000 in
theorem gX1_reasonAgainst_X1_reasonAgainstTouch : GoodIn wsX1_reasonAgainst (wsV RX1 62 RX1 yX1_reasonAgainstTouch wsX1_reasonAgainstTouch) := goodIn_app (goodIn_of _ (by decide +kernel)) ggX1_reasonAgainst_X1_reasonAgainstTouch
theorem dX1_reasonAgainst_0 : decode cX1_reasonAgainst 0 = .ok (.iload_n 2, 1) := by decide +kernel
theorem dX1_reasonAgainst_1 : decode cX1_reasonAgainst 1 = .ok (.iconst 4, 1) := by decide +kernel
theorem dX1_reasonAgainst_2 : decode cX1_reasonAgainst 2 = .ok (.if_icmp .ne 19, 3) := by decide +kernel
theorem dX1_reasonAgainst_5 : decode cX1_reasonAgainst 5 = .ok (.aload_n 0, 1) := by decide +kernel
theorem dX1_reasonAgainst_6 : decode cX1_reasonAgainst 6 = .ok (.getfield 34, 3) := by decide +kernel
theorem dX1_reasonAgainst_9 : decode cX1_reasonAgainst 9 = .ok (.bipush 99, 2) := by decide +kernel
theorem dX1_reasonAgainst_11 : decode cX1_reasonAgainst 11 = .ok (.if_icmp .lt 8, 3) := by decide +kernel
theorem dX1_reasonAgainst_14 : decode cX1_reasonAgainst 14 = .ok (.bipush 9, 2) := by decide +kernel
theorem dX1_reasonAgainst_16 : decode cX1_reasonAgainst 16 = .ok (.goto 4, 3) := by decide +kernel
theorem dX1_reasonAgainst_19 : decode cX1_reasonAgainst 19 = .ok (.iconst 0, 1) := by decide +kernel
theorem dX1_reasonAgainst_20 : decode cX1_reasonAgainst 20 = .ok (.ireturn, 1) := by decide +kernel
theorem dX1_reasonAgainst_21 : decode cX1_reasonAgainst 21 = .ok (.aload_n 0, 1) := by decide +kernel
theorem dX1_reasonAgainst_22 : decode cX1_reasonAgainst 22 = .ok (.iload_n 3, 1) := by decide +kernel
theorem dX1_reasonAgainst_23 : decode cX1_reasonAgainst 23 = .ok (.invokevirtual 55, 3) := by decide +kernel
theorem dX1_reasonAgainst_26 : decode cX1_reasonAgainst 26 = .ok (.ifCond .ne 5, 3) := by decide +kernel
theorem dX1_reasonAgainst_29 : decode cX1_reasonAgainst 29 = .ok (.iconst 1, 1) := by decide +kernel
theorem dX1_reasonAgainst_30 : decode cX1_reasonAgainst 30 = .ok (.ireturn, 1) := by decide +kernel
theorem dX1_reasonAgainst_31 : decode cX1_reasonAgainst 31 = .ok (.iload_n 2, 1) := by decide +kernel
theorem dX1_reasonAgainst_32 : decode cX1_reasonAgainst 32 = .ok (.ifCond .ne 12, 3) := by decide +kernel
theorem dX1_reasonAgainst_35 : decode cX1_reasonAgainst 35 = .ok (.aload_n 0, 1) := by decide +kernel
theorem dX1_reasonAgainst_36 : decode cX1_reasonAgainst 36 = .ok (.aload_n 1, 1) := by decide +kernel
theorem dX1_reasonAgainst_37 : decode cX1_reasonAgainst 37 = .ok (.iload_n 3, 1) := by decide +kernel
theorem dX1_reasonAgainst_38 : decode cX1_reasonAgainst 38 = .ok (.iload 4, 2) := by decide +kernel
theorem dX1_reasonAgainst_40 : decode cX1_reasonAgainst 40 = .ok (.invokevirtual 58, 3) := by decide +kernel
theorem dX1_reasonAgainst_43 : decode cX1_reasonAgainst 43 = .ok (.ireturn, 1) := by decide +kernel
theorem dX1_reasonAgainst_44 : decode cX1_reasonAgainst 44 = .ok (.iload_n 2, 1) := by decide +kernel
theorem dX1_reasonAgainst_45 : decode cX1_reasonAgainst 45 = .ok (.iconst 1, 1) := by decide +kernel
theorem dX1_reasonAgainst_46 : decode cX1_reasonAgainst 46 = .ok (.if_icmp .ne 14, 3) := by decide +kernel
theorem dX1_reasonAgainst_49 : decode cX1_reasonAgainst 49 = .ok (.aload_n 0, 1) := by decide +kernel
theorem dX1_reasonAgainst_50 : decode cX1_reasonAgainst 50 = .ok (.aload_n 1, 1) := by decide +kernel
theorem dX1_reasonAgainst_51 : decode cX1_reasonAgainst 51 = .ok (.iload_n 3, 1) := by decide +kernel
theorem dX1_reasonAgainst_52 : decode cX1_reasonAgainst 52 = .ok (.iload 4, 2) := by decide +kernel
theorem dX1_reasonAgainst_54 : decode cX1_reasonAgainst 54 = .ok (.invokevirtual 62, 3) := by decide +kernel
theorem dX1_reasonAgainst_57 : decode cX1_reasonAgainst 57 = .ok (.goto 4, 3) := by decide +kernel
theorem dX1_reasonAgainst_60 : decode cX1_reasonAgainst 60 = .ok (.iconst 0, 1) := by decide +kernel
theorem dX1_reasonAgainst_61 : decode cX1_reasonAgainst 61 = .ok (.ireturn, 1) := by decide +kernel
set_option maxRecDepth 20000 in
theorem ggX1_reasonAgainstRun_X1_placeOf : GoodIn wsX1_reasonAgainstRun wsX1_placeOf := goodIn_r _ [6, 7, 22, 23, 24, 25, 26, 27, 28, 29] (by decide +kernel) (by decide +kernel)
set_option maxRecDepth 20000 in
theorem gX1_reasonAgainstRun_X1_placeOf : GoodIn wsX1_reasonAgainstRun (wsV RX1 65 RX1 yX1_placeOf wsX1_placeOf) := goodIn_app (goodIn_of _ (by decide +kernel)) ggX1_reasonAgainstRun_X1_placeOf
set_option maxRecDepth 20000 in
theorem ggX1_reasonAgainstRun_X2_roadsOf : GoodIn wsX1_reasonAgainstRun wsX2_roadsOf := goodIn_r _ [12, 13, 30, 31] (by decide +kernel) (by decide +kernel)
set_option maxRecDepth 20000 in
theorem gX1_reasonAgainstRun_X2_roadsOf : GoodIn wsX1_reasonAgainstRun (wsV RX1 69 RX2 yX2_roadsOf wsX2_roadsOf) := goodIn_app (goodIn_of _ (by decide +kernel)) ggX1_reasonAgainstRun_X2_roadsOf
set_option maxRecDepth 20000 in
theorem ggX1_reasonAgainstRun_X9_holds : GoodIn wsX1_reasonAgainstRun wsX9_holds := goodIn_r _ [16] (by decide +kernel) (by decide +kernel)
set_option maxRecDepth 20000 in
theorem gX1_reasonAgainstRun_X9_holds_n51 : GoodIn wsX1_reasonAgainstRun (wsX9_holds) := ggX1_reasonAgainstRun_X9_holds
set_option maxRecDepth 20000 in
theorem ggX1_reasonAgainstRun_X1_breathOf : GoodIn wsX1_reasonAgainstRun wsX1_breathOf := goodIn_r _ [20, 21, 22, 23, 24, 25, 26, 27, 28, 29] (by decide +kernel) (by decide +kernel)
set_option maxRecDepth 20000 in
theorem gX1_reasonAgainstRun_X1_breathOf : GoodIn wsX1_reasonAgainstRun (wsV RX1 74 RX1 yX1_breathOf wsX1_breathOf) := goodIn_app (goodIn_of _ (by decide +kernel)) ggX1_reasonAgainstRun_X1_breathOf
theorem dX1_reasonAgainstRun_0 : decode cX1_reasonAgainstRun 0 = .ok (.aload_n 1, 1) := by decide +kernel
theorem dX1_reasonAgainstRun_1 : decode cX1_reasonAgainstRun 1 = .ok (.aload_n 0, 1) := by decide +kernel
theorem dX1_reasonAgainstRun_2 : decode cX1_reasonAgainstRun 2 = .ok (.iload_n 2, 1) := by decide +kernel
theorem dX1_reasonAgainstRun_3 : decode cX1_reasonAgainstRun 3 = .ok (.invokevirtual 65, 3) := by decide +kernel
theorem dX1_reasonAgainstRun_6 : decode cX1_reasonAgainstRun 6 = .ok (.invokevirtual 69, 3) := by decide +kernel
theorem dX1_reasonAgainstRun_9 : decode cX1_reasonAgainstRun 9 = .ok (.iload_n 3, 1) := by decide +kernel
theorem dX1_reasonAgainstRun_10 : decode cX1_reasonAgainstRun 10 = .ok (.invokestatic 51, 3) := by decide +kernel
theorem dX1_reasonAgainstRun_13 : decode cX1_reasonAgainstRun 13 = .ok (.ifCond .ne 5, 3) := by decide +kernel
theorem dX1_reasonAgainstRun_16 : decode cX1_reasonAgainstRun 16 = .ok (.iconst 2, 1) := by decide +kernel
theorem dX1_reasonAgainstRun_17 : decode cX1_reasonAgainstRun 17 = .ok (.ireturn, 1) := by decide +kernel
theorem dX1_reasonAgainstRun_18 : decode cX1_reasonAgainstRun 18 = .ok (.aload_n 0, 1) := by decide +kernel
theorem dX1_reasonAgainstRun_19 : decode cX1_reasonAgainstRun 19 = .ok (.iload_n 2, 1) := by decide +kernel
theorem dX1_reasonAgainstRun_20 : decode cX1_reasonAgainstRun 20 = .ok (.invokevirtual 74, 3) := by decide +kernel
theorem dX1_reasonAgainstRun_23 : decode cX1_reasonAgainstRun 23 = .ok (.ifCond .ne 5, 3) := by decide +kernel
theorem dX1_reasonAgainstRun_26 : decode cX1_reasonAgainstRun 26 = .ok (.iconst 3, 1) := by decide +kernel
theorem dX1_reasonAgainstRun_27 : decode cX1_reasonAgainstRun 27 = .ok (.ireturn, 1) := by decide +kernel
theorem dX1_reasonAgainstRun_28 : decode cX1_reasonAgainstRun 28 = .ok (.aload_n 0, 1) := by decide +kernel
theorem dX1_reasonAgainstRun_29 : decode cX1_reasonAgainstRun 29 = .ok (.getfield 25, 3) := by decide +kernel
theorem dX1_reasonAgainstRun_32 : decode cX1_reasonAgainstRun 32 = .ok (.iload_n 2, 1) := by decide +kernel
theorem dX1_reasonAgainstRun_33 : decode cX1_reasonAgainstRun 33 = .ok (.invokestatic 51, 3) := by decide +kernel
theorem dX1_reasonAgainstRun_36 : decode cX1_reasonAgainstRun 36 = .ok (.ifCond .eq 7, 3) := by decide +kernel
theorem dX1_reasonAgainstRun_39 : decode cX1_reasonAgainstRun 39 = .ok (.iconst 4, 1) := by decide +kernel
theorem dX1_reasonAgainstRun_40 : decode cX1_reasonAgainstRun 40 = .ok (.goto 4, 3) := by decide +kernel
theorem dX1_reasonAgainstRun_43 : decode cX1_reasonAgainstRun 43 = .ok (.iconst 0, 1) := by decide +kernel
theorem dX1_reasonAgainstRun_44 : decode cX1_reasonAgainstRun 44 = .ok (.ireturn, 1) := by decide +kernel
set_option maxRecDepth 20000 in
theorem ggX1_reasonAgainstTouch_X1_isHere : GoodIn wsX1_reasonAgainstTouch wsX1_isHere := goodIn_r _ [9, 10, 11, 12, 13, 19, 20, 21, 22, 23, 24, 25, 26] (by decide +kernel) (by decide +kernel)
set_option maxRecDepth 20000 in
theorem gX1_reasonAgainstTouch_X1_isHere : GoodIn wsX1_reasonAgainstTouch (wsV RX1 55 RX1 yX1_isHere wsX1_isHere) := goodIn_app (goodIn_of _ (by decide +kernel)) ggX1_reasonAgainstTouch_X1_isHere
set_option maxRecDepth 20000 in
theorem ggX1_reasonAgainstTouch_X9_holds : GoodIn wsX1_reasonAgainstTouch wsX9_holds := goodIn_r _ [13] (by decide +kernel) (by decide +kernel)
set_option maxRecDepth 20000 in
theorem gX1_reasonAgainstTouch_X9_holds_n51 : GoodIn wsX1_reasonAgainstTouch (wsX9_holds) := ggX1_reasonAgainstTouch_X9_holds
set_option maxRecDepth 20000 in
theorem ggX1_reasonAgainstTouch_X1_placeOf : GoodIn wsX1_reasonAgainstTouch wsX1_placeOf := goodIn_r _ [17, 18, 19, 20, 21, 22, 23, 24, 25, 26] (by decide +kernel) (by decide +kernel)
set_option maxRecDepth 20000 in
theorem gX1_reasonAgainstTouch_X1_placeOf : GoodIn wsX1_reasonAgainstTouch (wsV RX1 65 RX1 yX1_placeOf wsX1_placeOf) := goodIn_app (goodIn_of _ (by decide +kernel)) ggX1_reasonAgainstTouch_X1_placeOf
theorem dX1_reasonAgainstTouch_0 : decode cX1_reasonAgainstTouch 0 = .ok (.aload_n 0, 1) := by decide +kernel
theorem dX1_reasonAgainstTouch_1 : decode cX1_reasonAgainstTouch 1 = .ok (.iload_n 3, 1) := by decide +kernel
theorem dX1_reasonAgainstTouch_2 : decode cX1_reasonAgainstTouch 2 = .ok (.invokevirtual 55, 3) := by decide +kernel
theorem dX1_reasonAgainstTouch_5 : decode cX1_reasonAgainstTouch 5 = .ok (.ifCond .ne 5, 3) := by decide +kernel
theorem dX1_reasonAgainstTouch_8 : decode cX1_reasonAgainstTouch 8 = .ok (.iconst 1, 1) := by decide +kernel
theorem dX1_reasonAgainstTouch_9 : decode cX1_reasonAgainstTouch 9 = .ok (.ireturn, 1) := by decide +kernel
theorem dX1_reasonAgainstTouch_10 : decode cX1_reasonAgainstTouch 10 = .ok (.iload_n 2, 1) := by decide +kernel
theorem dX1_reasonAgainstTouch_11 : decode cX1_reasonAgainstTouch 11 = .ok (.iload_n 3, 1) := by decide +kernel
theorem dX1_reasonAgainstTouch_12 : decode cX1_reasonAgainstTouch 12 = .ok (.if_icmp .ne 5, 3) := by decide +kernel
theorem dX1_reasonAgainstTouch_15 : decode cX1_reasonAgainstTouch 15 = .ok (.iconst 2, 1) := by decide +kernel
theorem dX1_reasonAgainstTouch_16 : decode cX1_reasonAgainstTouch 16 = .ok (.ireturn, 1) := by decide +kernel
theorem dX1_reasonAgainstTouch_17 : decode cX1_reasonAgainstTouch 17 = .ok (.iload_n 2, 1) := by decide +kernel
theorem dX1_reasonAgainstTouch_18 : decode cX1_reasonAgainstTouch 18 = .ok (.aload_n 0, 1) := by decide +kernel
theorem dX1_reasonAgainstTouch_19 : decode cX1_reasonAgainstTouch 19 = .ok (.getfield 28, 3) := by decide +kernel
theorem dX1_reasonAgainstTouch_22 : decode cX1_reasonAgainstTouch 22 = .ok (.if_icmp .eq 5, 3) := by decide +kernel
theorem dX1_reasonAgainstTouch_25 : decode cX1_reasonAgainstTouch 25 = .ok (.iconst 3, 1) := by decide +kernel
theorem dX1_reasonAgainstTouch_26 : decode cX1_reasonAgainstTouch 26 = .ok (.ireturn, 1) := by decide +kernel
theorem dX1_reasonAgainstTouch_27 : decode cX1_reasonAgainstTouch 27 = .ok (.aload_n 0, 1) := by decide +kernel
theorem dX1_reasonAgainstTouch_28 : decode cX1_reasonAgainstTouch 28 = .ok (.getfield 25, 3) := by decide +kernel
theorem dX1_reasonAgainstTouch_31 : decode cX1_reasonAgainstTouch 31 = .ok (.iload_n 2, 1) := by decide +kernel
theorem dX1_reasonAgainstTouch_32 : decode cX1_reasonAgainstTouch 32 = .ok (.invokestatic 51, 3) := by decide +kernel
theorem dX1_reasonAgainstTouch_35 : decode cX1_reasonAgainstTouch 35 = .ok (.ifCond .eq 5, 3) := by decide +kernel
theorem dX1_reasonAgainstTouch_38 : decode cX1_reasonAgainstTouch 38 = .ok (.iconst 4, 1) := by decide +kernel
theorem dX1_reasonAgainstTouch_39 : decode cX1_reasonAgainstTouch 39 = .ok (.ireturn, 1) := by decide +kernel
theorem dX1_reasonAgainstTouch_40 : decode cX1_reasonAgainstTouch 40 = .ok (.aload_n 0, 1) := by decide +kernel
theorem dX1_reasonAgainstTouch_41 : decode cX1_reasonAgainstTouch 41 = .ok (.iload_n 2, 1) := by decide +kernel
theorem dX1_reasonAgainstTouch_42 : decode cX1_reasonAgainstTouch 42 = .ok (.invokevirtual 65, 3) := by decide +kernel
theorem dX1_reasonAgainstTouch_45 : decode cX1_reasonAgainstTouch 45 = .ok (.aload_n 0, 1) := by decide +kernel
theorem dX1_reasonAgainstTouch_46 : decode cX1_reasonAgainstTouch 46 = .ok (.iload_n 3, 1) := by decide +kernel
theorem dX1_reasonAgainstTouch_47 : decode cX1_reasonAgainstTouch 47 = .ok (.invokevirtual 65, 3) := by decide +kernel
theorem dX1_reasonAgainstTouch_50 : decode cX1_reasonAgainstTouch 50 = .ok (.if_icmp .eq 5, 3) := by decide +kernel
theorem dX1_reasonAgainstTouch_53 : decode cX1_reasonAgainstTouch 53 = .ok (.iconst 5, 1) := by decide +kernel
theorem dX1_reasonAgainstTouch_54 : decode cX1_reasonAgainstTouch 54 = .ok (.ireturn, 1) := by decide +kernel
theorem dX1_reasonAgainstTouch_55 : decode cX1_reasonAgainstTouch 55 = .ok (.aload_n 0, 1) := by decide +kernel
theorem dX1_reasonAgainstTouch_56 : decode cX1_reasonAgainstTouch 56 = .ok (.getfield 25, 3) := by decide +kernel
theorem dX1_reasonAgainstTouch_59 : decode cX1_reasonAgainstTouch 59 = .ok (.iload_n 3, 1) := by decide +kernel
theorem dX1_reasonAgainstTouch_60 : decode cX1_reasonAgainstTouch 60 = .ok (.invokestatic 51, 3) := by decide +kernel
theorem dX1_reasonAgainstTouch_63 : decode cX1_reasonAgainstTouch 63 = .ok (.ifCond .eq 6, 3) := by decide +kernel
theorem dX1_reasonAgainstTouch_66 : decode cX1_reasonAgainstTouch 66 = .ok (.bipush 6, 2) := by decide +kernel
theorem dX1_reasonAgainstTouch_68 : decode cX1_reasonAgainstTouch 68 = .ok (.ireturn, 1) := by decide +kernel
theorem dX1_reasonAgainstTouch_69 : decode cX1_reasonAgainstTouch 69 = .ok (.aload_n 1, 1) := by decide +kernel
theorem dX1_reasonAgainstTouch_70 : decode cX1_reasonAgainstTouch 70 = .ok (.getfield 77, 3) := by decide +kernel
theorem dX1_reasonAgainstTouch_73 : decode cX1_reasonAgainstTouch 73 = .ok (.aload_n 0, 1) := by decide +kernel
theorem dX1_reasonAgainstTouch_74 : decode cX1_reasonAgainstTouch 74 = .ok (.iload_n 2, 1) := by decide +kernel
theorem dX1_reasonAgainstTouch_75 : decode cX1_reasonAgainstTouch 75 = .ok (.invokevirtual 65, 3) := by decide +kernel
theorem dX1_reasonAgainstTouch_78 : decode cX1_reasonAgainstTouch 78 = .ok (.invokestatic 51, 3) := by decide +kernel
theorem dX1_reasonAgainstTouch_81 : decode cX1_reasonAgainstTouch 81 = .ok (.ifCond .eq 6, 3) := by decide +kernel
theorem dX1_reasonAgainstTouch_84 : decode cX1_reasonAgainstTouch 84 = .ok (.bipush 7, 2) := by decide +kernel
theorem dX1_reasonAgainstTouch_86 : decode cX1_reasonAgainstTouch 86 = .ok (.ireturn, 1) := by decide +kernel
theorem dX1_reasonAgainstTouch_87 : decode cX1_reasonAgainstTouch 87 = .ok (.iload_n 3, 1) := by decide +kernel
theorem dX1_reasonAgainstTouch_88 : decode cX1_reasonAgainstTouch 88 = .ok (.aload_n 0, 1) := by decide +kernel
theorem dX1_reasonAgainstTouch_89 : decode cX1_reasonAgainstTouch 89 = .ok (.getfield 31, 3) := by decide +kernel
theorem dX1_reasonAgainstTouch_92 : decode cX1_reasonAgainstTouch 92 = .ok (.if_icmp .ne 8, 3) := by decide +kernel
theorem dX1_reasonAgainstTouch_95 : decode cX1_reasonAgainstTouch 95 = .ok (.bipush 8, 2) := by decide +kernel
theorem dX1_reasonAgainstTouch_97 : decode cX1_reasonAgainstTouch 97 = .ok (.goto 4, 3) := by decide +kernel
theorem dX1_reasonAgainstTouch_100 : decode cX1_reasonAgainstTouch 100 = .ok (.iconst 0, 1) := by decide +kernel
theorem dX1_reasonAgainstTouch_101 : decode cX1_reasonAgainstTouch 101 = .ok (.ireturn, 1) := by decide +kernel
set_option maxRecDepth 20000 in
theorem ggX1_act_X9_isOne : GoodIn wsX1_act wsX9_isOne := goodIn_r _ [14] (by decide +kernel) (by decide +kernel)
set_option maxRecDepth 20000 in
theorem gX1_act_X9_isOne_n43 : GoodIn wsX1_act (wsX9_isOne) := ggX1_act_X9_isOne
theorem dX1_act_0 : decode cX1_act 0 = .ok (.iload_n 1, 1) := by decide +kernel
theorem dX1_act_1 : decode cX1_act 1 = .ok (.iconst 4, 1) := by decide +kernel
theorem dX1_act_2 : decode cX1_act 2 = .ok (.if_icmp .ne 37, 3) := by decide +kernel
theorem dX1_act_5 : decode cX1_act 5 = .ok (.aload_n 0, 1) := by decide +kernel
theorem dX1_act_6 : decode cX1_act 6 = .ok (.dup, 1) := by decide +kernel
theorem dX1_act_7 : decode cX1_act 7 = .ok (.getfield 34, 3) := by decide +kernel
theorem dX1_act_10 : decode cX1_act 10 = .ok (.iconst 1, 1) := by decide +kernel
theorem dX1_act_11 : decode cX1_act 11 = .ok (.iadd, 1) := by decide +kernel
theorem dX1_act_12 : decode cX1_act 12 = .ok (.putfield 34, 3) := by decide +kernel
theorem dX1_act_15 : decode cX1_act 15 = .ok (.aload_n 0, 1) := by decide +kernel
theorem dX1_act_16 : decode cX1_act 16 = .ok (.getfield 28, 3) := by decide +kernel
theorem dX1_act_19 : decode cX1_act 19 = .ok (.invokestatic 43, 3) := by decide +kernel
theorem dX1_act_22 : decode cX1_act 22 = .ok (.ifCond .eq 16, 3) := by decide +kernel
theorem dX1_act_25 : decode cX1_act 25 = .ok (.aload_n 0, 1) := by decide +kernel
theorem dX1_act_26 : decode cX1_act 26 = .ok (.getfield 18, 3) := by decide +kernel
theorem dX1_act_29 : decode cX1_act 29 = .ok (.aload_n 0, 1) := by decide +kernel
theorem dX1_act_30 : decode cX1_act 30 = .ok (.getfield 28, 3) := by decide +kernel
theorem dX1_act_33 : decode cX1_act 33 = .ok (.dup2, 1) := by decide +kernel
theorem dX1_act_34 : decode cX1_act 34 = .ok (.iaload, 1) := by decide +kernel
theorem dX1_act_35 : decode cX1_act 35 = .ok (.iconst 1, 1) := by decide +kernel
theorem dX1_act_36 : decode cX1_act 36 = .ok (.iadd, 1) := by decide +kernel
theorem dX1_act_37 : decode cX1_act 37 = .ok (.iastore, 1) := by decide +kernel
theorem dX1_act_38 : decode cX1_act 38 = .ok (.return_, 1) := by decide +kernel
theorem dX1_act_39 : decode cX1_act 39 = .ok (.iload_n 2, 1) := by decide +kernel
theorem dX1_act_40 : decode cX1_act 40 = .ok (.invokestatic 43, 3) := by decide +kernel
theorem dX1_act_43 : decode cX1_act 43 = .ok (.ifCond .ne 4, 3) := by decide +kernel
theorem dX1_act_46 : decode cX1_act 46 = .ok (.return_, 1) := by decide +kernel
theorem dX1_act_47 : decode cX1_act 47 = .ok (.iload_n 1, 1) := by decide +kernel
theorem dX1_act_48 : decode cX1_act 48 = .ok (.ifCond .ne 23, 3) := by decide +kernel
theorem dX1_act_51 : decode cX1_act 51 = .ok (.aload_n 0, 1) := by decide +kernel
theorem dX1_act_52 : decode cX1_act 52 = .ok (.getfield 9, 3) := by decide +kernel
theorem dX1_act_55 : decode cX1_act 55 = .ok (.iload_n 2, 1) := by decide +kernel
theorem dX1_act_56 : decode cX1_act 56 = .ok (.iload_n 3, 1) := by decide +kernel
theorem dX1_act_57 : decode cX1_act 57 = .ok (.iastore, 1) := by decide +kernel
theorem dX1_act_58 : decode cX1_act 58 = .ok (.aload_n 0, 1) := by decide +kernel
theorem dX1_act_59 : decode cX1_act 59 = .ok (.getfield 15, 3) := by decide +kernel
theorem dX1_act_62 : decode cX1_act 62 = .ok (.iload_n 2, 1) := by decide +kernel
theorem dX1_act_63 : decode cX1_act 63 = .ok (.dup2, 1) := by decide +kernel
theorem dX1_act_64 : decode cX1_act 64 = .ok (.iaload, 1) := by decide +kernel
theorem dX1_act_65 : decode cX1_act 65 = .ok (.iconst 1, 1) := by decide +kernel
theorem dX1_act_66 : decode cX1_act 66 = .ok (.isub, 1) := by decide +kernel
theorem dX1_act_67 : decode cX1_act 67 = .ok (.iastore, 1) := by decide +kernel
theorem dX1_act_68 : decode cX1_act 68 = .ok (.goto 60, 3) := by decide +kernel
theorem dX1_act_71 : decode cX1_act 71 = .ok (.iload_n 1, 1) := by decide +kernel
theorem dX1_act_72 : decode cX1_act 72 = .ok (.iconst 1, 1) := by decide +kernel
theorem dX1_act_73 : decode cX1_act 73 = .ok (.if_icmp .ne 16, 3) := by decide +kernel
theorem dX1_act_76 : decode cX1_act 76 = .ok (.aload_n 0, 1) := by decide +kernel
theorem dX1_act_77 : decode cX1_act 77 = .ok (.iload_n 3, 1) := by decide +kernel
theorem dX1_act_78 : decode cX1_act 78 = .ok (.putfield 28, 3) := by decide +kernel
theorem dX1_act_81 : decode cX1_act 81 = .ok (.aload_n 0, 1) := by decide +kernel
theorem dX1_act_82 : decode cX1_act 82 = .ok (.iload_n 2, 1) := by decide +kernel
theorem dX1_act_83 : decode cX1_act 83 = .ok (.putfield 31, 3) := by decide +kernel
theorem dX1_act_86 : decode cX1_act 86 = .ok (.goto 42, 3) := by decide +kernel
theorem dX1_act_89 : decode cX1_act 89 = .ok (.iload_n 1, 1) := by decide +kernel
theorem dX1_act_90 : decode cX1_act 90 = .ok (.iconst 2, 1) := by decide +kernel
theorem dX1_act_91 : decode cX1_act 91 = .ok (.if_icmp .ne 25, 3) := by decide +kernel
theorem dX1_act_94 : decode cX1_act 94 = .ok (.aload_n 0, 1) := by decide +kernel
theorem dX1_act_95 : decode cX1_act 95 = .ok (.getfield 15, 3) := by decide +kernel
theorem dX1_act_98 : decode cX1_act 98 = .ok (.iload_n 2, 1) := by decide +kernel
theorem dX1_act_99 : decode cX1_act 99 = .ok (.aload_n 0, 1) := by decide +kernel
theorem dX1_act_100 : decode cX1_act 100 = .ok (.getfield 15, 3) := by decide +kernel
theorem dX1_act_103 : decode cX1_act 103 = .ok (.iload_n 2, 1) := by decide +kernel
theorem dX1_act_104 : decode cX1_act 104 = .ok (.iaload, 1) := by decide +kernel
theorem dX1_act_105 : decode cX1_act 105 = .ok (.iconst 2, 1) := by decide +kernel
theorem dX1_act_106 : decode cX1_act 106 = .ok (.iadd, 1) := by decide +kernel
theorem dX1_act_107 : decode cX1_act 107 = .ok (.bipush 9, 2) := by decide +kernel
theorem dX1_act_109 : decode cX1_act 109 = .ok (.invokestatic 80, 3) := by decide +kernel
theorem dX1_act_112 : decode cX1_act 112 = .ok (.iastore, 1) := by decide +kernel
theorem dX1_act_113 : decode cX1_act 113 = .ok (.goto 15, 3) := by decide +kernel
theorem dX1_act_116 : decode cX1_act 116 = .ok (.aload_n 0, 1) := by decide +kernel
theorem dX1_act_117 : decode cX1_act 117 = .ok (.dup, 1) := by decide +kernel
theorem dX1_act_118 : decode cX1_act 118 = .ok (.getfield 25, 3) := by decide +kernel
theorem dX1_act_121 : decode cX1_act 121 = .ok (.iconst 1, 1) := by decide +kernel
theorem dX1_act_122 : decode cX1_act 122 = .ok (.iload_n 2, 1) := by decide +kernel
theorem dX1_act_123 : decode cX1_act 123 = .ok (.ishl, 1) := by decide +kernel
theorem dX1_act_124 : decode cX1_act 124 = .ok (.ixor, 1) := by decide +kernel
theorem dX1_act_125 : decode cX1_act 125 = .ok (.putfield 25, 3) := by decide +kernel
theorem dX1_act_128 : decode cX1_act 128 = .ok (.return_, 1) := by decide +kernel
theorem dX2_init_0 : decode cX2_init 0 = .ok (.aload_n 0, 1) := by decide +kernel
theorem dX2_init_1 : decode cX2_init 1 = .ok (.invokespecial 3, 3) := by decide +kernel
theorem dX2_init_4 : decode cX2_init 4 = .ok (.aload_n 0, 1) := by decide +kernel
theorem dX2_init_5 : decode cX2_init 5 = .ok (.bipush 12, 2) := by decide +kernel
theorem dX2_init_7 : decode cX2_init 7 = .ok (.newarray .int, 2) := by decide +kernel
theorem dX2_init_9 : decode cX2_init 9 = .ok (.putfield 9, 3) := by decide +kernel
theorem dX2_init_12 : decode cX2_init 12 = .ok (.aload_n 0, 1) := by decide +kernel
theorem dX2_init_13 : decode cX2_init 13 = .ok (.iconst 0, 1) := by decide +kernel
theorem dX2_init_14 : decode cX2_init 14 = .ok (.putfield 15, 3) := by decide +kernel
theorem dX2_init_17 : decode cX2_init 17 = .ok (.return_, 1) := by decide +kernel
theorem dX2_copy_0 : decode cX2_copy 0 = .ok (.aload_n 1, 1) := by decide +kernel
theorem dX2_copy_1 : decode cX2_copy 1 = .ok (.getfield 9, 3) := by decide +kernel
theorem dX2_copy_4 : decode cX2_copy 4 = .ok (.iconst 0, 1) := by decide +kernel
theorem dX2_copy_5 : decode cX2_copy 5 = .ok (.aload_n 0, 1) := by decide +kernel
theorem dX2_copy_6 : decode cX2_copy 6 = .ok (.getfield 9, 3) := by decide +kernel
theorem dX2_copy_9 : decode cX2_copy 9 = .ok (.iconst 0, 1) := by decide +kernel
theorem dX2_copy_10 : decode cX2_copy 10 = .ok (.bipush 12, 2) := by decide +kernel
theorem dX2_copy_12 : decode cX2_copy 12 = .ok (.invokestatic 19, 3) := by decide +kernel
theorem dX2_copy_15 : decode cX2_copy 15 = .ok (.aload_n 0, 1) := by decide +kernel
theorem dX2_copy_16 : decode cX2_copy 16 = .ok (.aload_n 1, 1) := by decide +kernel
theorem dX2_copy_17 : decode cX2_copy 17 = .ok (.getfield 15, 3) := by decide +kernel
theorem dX2_copy_20 : decode cX2_copy 20 = .ok (.putfield 15, 3) := by decide +kernel
theorem dX2_copy_23 : decode cX2_copy 23 = .ok (.return_, 1) := by decide +kernel
set_option maxRecDepth 20000 in
theorem ggX2_lay_X9_isPlace : GoodIn wsX2_lay wsX9_isPlace := goodIn_r _ [4] (by decide +kernel) (by decide +kernel)
set_option maxRecDepth 20000 in
theorem gX2_lay_X9_isPlace_n25 : GoodIn wsX2_lay (wsX9_isPlace) := ggX2_lay_X9_isPlace
set_option maxRecDepth 20000 in
theorem ggX2_lay_X9_marked : GoodIn wsX2_lay wsX9_marked := goodIn_r _ [6] (by decide +kernel) (by decide +kernel)
set_option maxRecDepth 20000 in
theorem gX2_lay_X9_marked_n29 : GoodIn wsX2_lay (wsX9_marked) := ggX2_lay_X9_marked
theorem dX2_lay_0 : decode cX2_lay 0 = .ok (.iload_n 1, 1) := by decide +kernel
theorem dX2_lay_1 : decode cX2_lay 1 = .ok (.invokestatic 25, 3) := by decide +kernel
theorem dX2_lay_4 : decode cX2_lay 4 = .ok (.ifCond .eq 10, 3) := by decide +kernel
theorem dX2_lay_7 : decode cX2_lay 7 = .ok (.iload_n 2, 1) := by decide +kernel
theorem dX2_lay_8 : decode cX2_lay 8 = .ok (.invokestatic 25, 3) := by decide +kernel
theorem dX2_lay_11 : decode cX2_lay 11 = .ok (.ifCond .ne 4, 3) := by decide +kernel
theorem dX2_lay_14 : decode cX2_lay 14 = .ok (.return_, 1) := by decide +kernel
theorem dX2_lay_15 : decode cX2_lay 15 = .ok (.aload_n 0, 1) := by decide +kernel
theorem dX2_lay_16 : decode cX2_lay 16 = .ok (.getfield 9, 3) := by decide +kernel
theorem dX2_lay_19 : decode cX2_lay 19 = .ok (.iload_n 1, 1) := by decide +kernel
theorem dX2_lay_20 : decode cX2_lay 20 = .ok (.aload_n 0, 1) := by decide +kernel
theorem dX2_lay_21 : decode cX2_lay 21 = .ok (.getfield 9, 3) := by decide +kernel
theorem dX2_lay_24 : decode cX2_lay 24 = .ok (.iload_n 1, 1) := by decide +kernel
theorem dX2_lay_25 : decode cX2_lay 25 = .ok (.iaload, 1) := by decide +kernel
theorem dX2_lay_26 : decode cX2_lay 26 = .ok (.iload_n 2, 1) := by decide +kernel
theorem dX2_lay_27 : decode cX2_lay 27 = .ok (.iload_n 3, 1) := by decide +kernel
theorem dX2_lay_28 : decode cX2_lay 28 = .ok (.invokestatic 29, 3) := by decide +kernel
theorem dX2_lay_31 : decode cX2_lay 31 = .ok (.iastore, 1) := by decide +kernel
theorem dX2_lay_32 : decode cX2_lay 32 = .ok (.aload_n 0, 1) := by decide +kernel
theorem dX2_lay_33 : decode cX2_lay 33 = .ok (.getfield 9, 3) := by decide +kernel
theorem dX2_lay_36 : decode cX2_lay 36 = .ok (.iload_n 2, 1) := by decide +kernel
theorem dX2_lay_37 : decode cX2_lay 37 = .ok (.aload_n 0, 1) := by decide +kernel
theorem dX2_lay_38 : decode cX2_lay 38 = .ok (.getfield 9, 3) := by decide +kernel
theorem dX2_lay_41 : decode cX2_lay 41 = .ok (.iload_n 2, 1) := by decide +kernel
theorem dX2_lay_42 : decode cX2_lay 42 = .ok (.iaload, 1) := by decide +kernel
theorem dX2_lay_43 : decode cX2_lay 43 = .ok (.iload_n 1, 1) := by decide +kernel
theorem dX2_lay_44 : decode cX2_lay 44 = .ok (.iload_n 3, 1) := by decide +kernel
theorem dX2_lay_45 : decode cX2_lay 45 = .ok (.invokestatic 29, 3) := by decide +kernel
theorem dX2_lay_48 : decode cX2_lay 48 = .ok (.iastore, 1) := by decide +kernel
theorem dX2_lay_49 : decode cX2_lay 49 = .ok (.return_, 1) := by decide +kernel
set_option maxRecDepth 20000 in
theorem ggX2_countRoads_J6_bitCount_0f7a4 : GoodIn wsX2_countRoads wsJ6_bitCount_0f7a4 := goodIn_r _ [5, 6, 7, 8] (by decide +kernel) (by decide +kernel)
set_option maxRecDepth 20000 in
theorem gX2_countRoads_J6_bitCount_0f7a4 : GoodIn wsX2_countRoads (va_wsS RX2 33 yJ6_bitCount_0f7a4 wsJ6_bitCount_0f7a4) := goodIn_app (goodIn_of _ (by decide +kernel)) ggX2_countRoads_J6_bitCount_0f7a4
theorem dX2_countRoads_0 : decode cX2_countRoads 0 = .ok (.iconst 0, 1) := by decide +kernel
theorem dX2_countRoads_1 : decode cX2_countRoads 1 = .ok (.istore_n 1, 1) := by decide +kernel
theorem dX2_countRoads_2 : decode cX2_countRoads 2 = .ok (.iconst 0, 1) := by decide +kernel
theorem dX2_countRoads_3 : decode cX2_countRoads 3 = .ok (.istore_n 2, 1) := by decide +kernel
theorem dX2_countRoads_4 : decode cX2_countRoads 4 = .ok (.iload_n 2, 1) := by decide +kernel
theorem dX2_countRoads_5 : decode cX2_countRoads 5 = .ok (.bipush 12, 2) := by decide +kernel
theorem dX2_countRoads_7 : decode cX2_countRoads 7 = .ok (.if_icmp .ge 21, 3) := by decide +kernel
theorem dX2_countRoads_10 : decode cX2_countRoads 10 = .ok (.iload_n 1, 1) := by decide +kernel
theorem dX2_countRoads_11 : decode cX2_countRoads 11 = .ok (.aload_n 0, 1) := by decide +kernel
theorem dX2_countRoads_12 : decode cX2_countRoads 12 = .ok (.getfield 9, 3) := by decide +kernel
theorem dX2_countRoads_15 : decode cX2_countRoads 15 = .ok (.iload_n 2, 1) := by decide +kernel
theorem dX2_countRoads_16 : decode cX2_countRoads 16 = .ok (.iaload, 1) := by decide +kernel
theorem dX2_countRoads_17 : decode cX2_countRoads 17 = .ok (.invokestatic 33, 3) := by decide +kernel
theorem dX2_countRoads_20 : decode cX2_countRoads 20 = .ok (.iadd, 1) := by decide +kernel
theorem dX2_countRoads_21 : decode cX2_countRoads 21 = .ok (.istore_n 1, 1) := by decide +kernel
theorem dX2_countRoads_22 : decode cX2_countRoads 22 = .ok (.iinc 2 1, 3) := by decide +kernel
theorem dX2_countRoads_25 : decode cX2_countRoads 25 = .ok (.goto (-21), 3) := by decide +kernel
theorem dX2_countRoads_28 : decode cX2_countRoads 28 = .ok (.iload_n 1, 1) := by decide +kernel
theorem dX2_countRoads_29 : decode cX2_countRoads 29 = .ok (.iconst 2, 1) := by decide +kernel
theorem dX2_countRoads_30 : decode cX2_countRoads 30 = .ok (.idiv, 1) := by decide +kernel
theorem dX2_countRoads_31 : decode cX2_countRoads 31 = .ok (.ireturn, 1) := by decide +kernel
theorem dX2_roadsOf_0 : decode cX2_roadsOf 0 = .ok (.iload_n 1, 1) := by decide +kernel
theorem dX2_roadsOf_1 : decode cX2_roadsOf 1 = .ok (.ifCond .lt 18, 3) := by decide +kernel
theorem dX2_roadsOf_4 : decode cX2_roadsOf 4 = .ok (.iload_n 1, 1) := by decide +kernel
theorem dX2_roadsOf_5 : decode cX2_roadsOf 5 = .ok (.bipush 12, 2) := by decide +kernel
theorem dX2_roadsOf_7 : decode cX2_roadsOf 7 = .ok (.if_icmp .ge 12, 3) := by decide +kernel
theorem dX2_roadsOf_10 : decode cX2_roadsOf 10 = .ok (.aload_n 0, 1) := by decide +kernel
theorem dX2_roadsOf_11 : decode cX2_roadsOf 11 = .ok (.getfield 9, 3) := by decide +kernel
theorem dX2_roadsOf_14 : decode cX2_roadsOf 14 = .ok (.iload_n 1, 1) := by decide +kernel
theorem dX2_roadsOf_15 : decode cX2_roadsOf 15 = .ok (.iaload, 1) := by decide +kernel
theorem dX2_roadsOf_16 : decode cX2_roadsOf 16 = .ok (.goto 4, 3) := by decide +kernel
theorem dX2_roadsOf_19 : decode cX2_roadsOf 19 = .ok (.iconst 0, 1) := by decide +kernel
theorem dX2_roadsOf_20 : decode cX2_roadsOf 20 = .ok (.ireturn, 1) := by decide +kernel
set_option maxRecDepth 20000 in
theorem ggX2_movesFrom_X9_isPlace : GoodIn wsX2_movesFrom wsX9_isPlace := goodIn_r _ [4] (by decide +kernel) (by decide +kernel)
set_option maxRecDepth 20000 in
theorem gX2_movesFrom_X9_isPlace_n25 : GoodIn wsX2_movesFrom (wsX9_isPlace) := ggX2_movesFrom_X9_isPlace
theorem dX2_movesFrom_0 : decode cX2_movesFrom 0 = .ok (.iload_n 1, 1) := by decide +kernel
theorem dX2_movesFrom_1 : decode cX2_movesFrom 1 = .ok (.invokestatic 25, 3) := by decide +kernel
theorem dX2_movesFrom_4 : decode cX2_movesFrom 4 = .ok (.ifCond .eq 16, 3) := by decide +kernel
theorem dX2_movesFrom_7 : decode cX2_movesFrom 7 = .ok (.aload_n 0, 1) := by decide +kernel
theorem dX2_movesFrom_8 : decode cX2_movesFrom 8 = .ok (.getfield 9, 3) := by decide +kernel
theorem dX2_movesFrom_11 : decode cX2_movesFrom 11 = .ok (.iload_n 1, 1) := by decide +kernel
theorem dX2_movesFrom_12 : decode cX2_movesFrom 12 = .ok (.iaload, 1) := by decide +kernel
theorem dX2_movesFrom_13 : decode cX2_movesFrom 13 = .ok (.iconst 1, 1) := by decide +kernel
theorem dX2_movesFrom_14 : decode cX2_movesFrom 14 = .ok (.iload_n 1, 1) := by decide +kernel
theorem dX2_movesFrom_15 : decode cX2_movesFrom 15 = .ok (.ishl, 1) := by decide +kernel
theorem dX2_movesFrom_16 : decode cX2_movesFrom 16 = .ok (.ior, 1) := by decide +kernel
theorem dX2_movesFrom_17 : decode cX2_movesFrom 17 = .ok (.goto 4, 3) := by decide +kernel
theorem dX2_movesFrom_20 : decode cX2_movesFrom 20 = .ok (.iconst 0, 1) := by decide +kernel
theorem dX2_movesFrom_21 : decode cX2_movesFrom 21 = .ok (.ireturn, 1) := by decide +kernel
set_option maxRecDepth 20000 in
theorem ggX2_touchedAt_X9_holds : GoodIn wsX2_touchedAt wsX9_holds := goodIn_r _ [4] (by decide +kernel) (by decide +kernel)
set_option maxRecDepth 20000 in
theorem gX2_touchedAt_X9_holds_n39 : GoodIn wsX2_touchedAt (wsX9_holds) := ggX2_touchedAt_X9_holds
theorem dX2_touchedAt_0 : decode cX2_touchedAt 0 = .ok (.aload_n 0, 1) := by decide +kernel
theorem dX2_touchedAt_1 : decode cX2_touchedAt 1 = .ok (.getfield 15, 3) := by decide +kernel
theorem dX2_touchedAt_4 : decode cX2_touchedAt 4 = .ok (.iload_n 1, 1) := by decide +kernel
theorem dX2_touchedAt_5 : decode cX2_touchedAt 5 = .ok (.invokestatic 39, 3) := by decide +kernel
theorem dX2_touchedAt_8 : decode cX2_touchedAt 8 = .ok (.ifCond .eq 7, 3) := by decide +kernel
theorem dX2_touchedAt_11 : decode cX2_touchedAt 11 = .ok (.iconst 0, 1) := by decide +kernel
theorem dX2_touchedAt_12 : decode cX2_touchedAt 12 = .ok (.goto 6, 3) := by decide +kernel
theorem dX2_touchedAt_15 : decode cX2_touchedAt 15 = .ok (.iconst 1, 1) := by decide +kernel
theorem dX2_touchedAt_16 : decode cX2_touchedAt 16 = .ok (.iload_n 1, 1) := by decide +kernel
theorem dX2_touchedAt_17 : decode cX2_touchedAt 17 = .ok (.ishl, 1) := by decide +kernel
theorem dX2_touchedAt_18 : decode cX2_touchedAt 18 = .ok (.ireturn, 1) := by decide +kernel
set_option maxRecDepth 20000 in
theorem ggX2_widened_X9_holds : GoodIn wsX2_widened wsX9_holds := goodIn_r _ [4] (by decide +kernel) (by decide +kernel)
set_option maxRecDepth 20000 in
theorem gX2_widened_X9_holds_n39 : GoodIn wsX2_widened (wsX9_holds) := ggX2_widened_X9_holds
theorem dX2_widened_0 : decode cX2_widened 0 = .ok (.iload_n 1, 1) := by decide +kernel
theorem dX2_widened_1 : decode cX2_widened 1 = .ok (.istore_n 2, 1) := by decide +kernel
theorem dX2_widened_2 : decode cX2_widened 2 = .ok (.iconst 0, 1) := by decide +kernel
theorem dX2_widened_3 : decode cX2_widened 3 = .ok (.istore_n 3, 1) := by decide +kernel
theorem dX2_widened_4 : decode cX2_widened 4 = .ok (.iload_n 3, 1) := by decide +kernel
theorem dX2_widened_5 : decode cX2_widened 5 = .ok (.bipush 12, 2) := by decide +kernel
theorem dX2_widened_7 : decode cX2_widened 7 = .ok (.if_icmp .ge 26, 3) := by decide +kernel
theorem dX2_widened_10 : decode cX2_widened 10 = .ok (.iload_n 1, 1) := by decide +kernel
theorem dX2_widened_11 : decode cX2_widened 11 = .ok (.iload_n 3, 1) := by decide +kernel
theorem dX2_widened_12 : decode cX2_widened 12 = .ok (.invokestatic 39, 3) := by decide +kernel
theorem dX2_widened_15 : decode cX2_widened 15 = .ok (.ifCond .eq 12, 3) := by decide +kernel
theorem dX2_widened_18 : decode cX2_widened 18 = .ok (.iload_n 2, 1) := by decide +kernel
theorem dX2_widened_19 : decode cX2_widened 19 = .ok (.aload_n 0, 1) := by decide +kernel
theorem dX2_widened_20 : decode cX2_widened 20 = .ok (.getfield 9, 3) := by decide +kernel
theorem dX2_widened_23 : decode cX2_widened 23 = .ok (.iload_n 3, 1) := by decide +kernel
theorem dX2_widened_24 : decode cX2_widened 24 = .ok (.iaload, 1) := by decide +kernel
theorem dX2_widened_25 : decode cX2_widened 25 = .ok (.ior, 1) := by decide +kernel
theorem dX2_widened_26 : decode cX2_widened 26 = .ok (.istore_n 2, 1) := by decide +kernel
theorem dX2_widened_27 : decode cX2_widened 27 = .ok (.iinc 3 1, 3) := by decide +kernel
theorem dX2_widened_30 : decode cX2_widened 30 = .ok (.goto (-26), 3) := by decide +kernel
theorem dX2_widened_33 : decode cX2_widened 33 = .ok (.iload_n 2, 1) := by decide +kernel
theorem dX2_widened_34 : decode cX2_widened 34 = .ok (.ireturn, 1) := by decide +kernel
set_option maxRecDepth 20000 in
theorem ggX2_distance_X9_holds : GoodIn wsX2_distance wsX9_holds := goodIn_r _ [3] (by decide +kernel) (by decide +kernel)
set_option maxRecDepth 20000 in
theorem gX2_distance_X9_holds_n39 : GoodIn wsX2_distance (wsX9_holds) := ggX2_distance_X9_holds
set_option maxRecDepth 20000 in
theorem ggX2_distance_X2_widened : GoodIn wsX2_distance wsX2_widened := goodIn_r _ [8, 9, 1, 2, 3, 10, 11] (by decide +kernel) (by decide +kernel)
set_option maxRecDepth 20000 in
theorem gX2_distance_X2_widened : GoodIn wsX2_distance (wsV RX2 43 RX2 yX2_widened wsX2_widened) := goodIn_app (goodIn_of _ (by decide +kernel)) ggX2_distance_X2_widened
theorem dX2_distance_0 : decode cX2_distance 0 = .ok (.iconst 1, 1) := by decide +kernel
theorem dX2_distance_1 : decode cX2_distance 1 = .ok (.iload_n 1, 1) := by decide +kernel
theorem dX2_distance_2 : decode cX2_distance 2 = .ok (.ishl, 1) := by decide +kernel
theorem dX2_distance_3 : decode cX2_distance 3 = .ok (.istore_n 3, 1) := by decide +kernel
theorem dX2_distance_4 : decode cX2_distance 4 = .ok (.iconst 0, 1) := by decide +kernel
theorem dX2_distance_5 : decode cX2_distance 5 = .ok (.istore 4, 2) := by decide +kernel
theorem dX2_distance_7 : decode cX2_distance 7 = .ok (.iload 4, 2) := by decide +kernel
theorem dX2_distance_9 : decode cX2_distance 9 = .ok (.bipush 12, 2) := by decide +kernel
theorem dX2_distance_11 : decode cX2_distance 11 = .ok (.if_icmp .ge 26, 3) := by decide +kernel
theorem dX2_distance_14 : decode cX2_distance 14 = .ok (.iload_n 3, 1) := by decide +kernel
theorem dX2_distance_15 : decode cX2_distance 15 = .ok (.iload_n 2, 1) := by decide +kernel
theorem dX2_distance_16 : decode cX2_distance 16 = .ok (.invokestatic 39, 3) := by decide +kernel
theorem dX2_distance_19 : decode cX2_distance 19 = .ok (.ifCond .eq 6, 3) := by decide +kernel
theorem dX2_distance_22 : decode cX2_distance 22 = .ok (.iload 4, 2) := by decide +kernel
theorem dX2_distance_24 : decode cX2_distance 24 = .ok (.ireturn, 1) := by decide +kernel
theorem dX2_distance_25 : decode cX2_distance 25 = .ok (.aload_n 0, 1) := by decide +kernel
theorem dX2_distance_26 : decode cX2_distance 26 = .ok (.iload_n 3, 1) := by decide +kernel
theorem dX2_distance_27 : decode cX2_distance 27 = .ok (.invokevirtual 43, 3) := by decide +kernel
theorem dX2_distance_30 : decode cX2_distance 30 = .ok (.istore_n 3, 1) := by decide +kernel
theorem dX2_distance_31 : decode cX2_distance 31 = .ok (.iinc 4 1, 3) := by decide +kernel
theorem dX2_distance_34 : decode cX2_distance 34 = .ok (.goto (-27), 3) := by decide +kernel
theorem dX2_distance_37 : decode cX2_distance 37 = .ok (.bipush (-6), 2) := by decide +kernel
theorem dX2_distance_39 : decode cX2_distance 39 = .ok (.ireturn, 1) := by decide +kernel
set_option maxRecDepth 20000 in
theorem ggX2_within_X2_widened : GoodIn wsX2_within wsX2_widened := goodIn_r _ [5, 6, 7, 8, 9, 10, 11] (by decide +kernel) (by decide +kernel)
set_option maxRecDepth 20000 in
theorem gX2_within_X2_widened : GoodIn wsX2_within (wsV RX2 43 RX2 yX2_widened wsX2_widened) := goodIn_app (goodIn_of _ (by decide +kernel)) ggX2_within_X2_widened
theorem dX2_within_0 : decode cX2_within 0 = .ok (.iconst 1, 1) := by decide +kernel
theorem dX2_within_1 : decode cX2_within 1 = .ok (.iload_n 1, 1) := by decide +kernel
theorem dX2_within_2 : decode cX2_within 2 = .ok (.ishl, 1) := by decide +kernel
theorem dX2_within_3 : decode cX2_within 3 = .ok (.istore_n 3, 1) := by decide +kernel
theorem dX2_within_4 : decode cX2_within 4 = .ok (.iconst 0, 1) := by decide +kernel
theorem dX2_within_5 : decode cX2_within 5 = .ok (.istore 4, 2) := by decide +kernel
theorem dX2_within_7 : decode cX2_within 7 = .ok (.iload 4, 2) := by decide +kernel
theorem dX2_within_9 : decode cX2_within 9 = .ok (.iload_n 2, 1) := by decide +kernel
theorem dX2_within_10 : decode cX2_within 10 = .ok (.if_icmp .ge 15, 3) := by decide +kernel
theorem dX2_within_13 : decode cX2_within 13 = .ok (.aload_n 0, 1) := by decide +kernel
theorem dX2_within_14 : decode cX2_within 14 = .ok (.iload_n 3, 1) := by decide +kernel
theorem dX2_within_15 : decode cX2_within 15 = .ok (.invokevirtual 43, 3) := by decide +kernel
theorem dX2_within_18 : decode cX2_within 18 = .ok (.istore_n 3, 1) := by decide +kernel
theorem dX2_within_19 : decode cX2_within 19 = .ok (.iinc 4 1, 3) := by decide +kernel
theorem dX2_within_22 : decode cX2_within 22 = .ok (.goto (-15), 3) := by decide +kernel
theorem dX2_within_25 : decode cX2_within 25 = .ok (.iload_n 3, 1) := by decide +kernel
theorem dX2_within_26 : decode cX2_within 26 = .ok (.ireturn, 1) := by decide +kernel
set_option maxRecDepth 20000 in
theorem ggX2_mostLeft_J6_bitCount_0f7a4 : GoodIn wsX2_mostLeft wsJ6_bitCount_0f7a4 := goodIn_r _ [8, 9, 10, 11] (by decide +kernel) (by decide +kernel)
set_option maxRecDepth 20000 in
theorem gX2_mostLeft_J6_bitCount_0f7a4 : GoodIn wsX2_mostLeft (va_wsS RX2 33 yJ6_bitCount_0f7a4 wsJ6_bitCount_0f7a4) := goodIn_app (goodIn_of _ (by decide +kernel)) ggX2_mostLeft_J6_bitCount_0f7a4
set_option maxRecDepth 20000 in
theorem ggX2_mostLeft_X2_widened : GoodIn wsX2_mostLeft wsX2_widened := goodIn_r _ [16, 17, 18, 19, 20, 21, 22] (by decide +kernel) (by decide +kernel)
set_option maxRecDepth 20000 in
theorem gX2_mostLeft_X2_widened : GoodIn wsX2_mostLeft (wsV RX2 43 RX2 yX2_widened wsX2_widened) := goodIn_app (goodIn_of _ (by decide +kernel)) ggX2_mostLeft_X2_widened
theorem dX2_mostLeft_0 : decode cX2_mostLeft 0 = .ok (.iconst 1, 1) := by decide +kernel
theorem dX2_mostLeft_1 : decode cX2_mostLeft 1 = .ok (.iload_n 1, 1) := by decide +kernel
theorem dX2_mostLeft_2 : decode cX2_mostLeft 2 = .ok (.ishl, 1) := by decide +kernel
theorem dX2_mostLeft_3 : decode cX2_mostLeft 3 = .ok (.istore_n 3, 1) := by decide +kernel
theorem dX2_mostLeft_4 : decode cX2_mostLeft 4 = .ok (.iload_n 3, 1) := by decide +kernel
theorem dX2_mostLeft_5 : decode cX2_mostLeft 5 = .ok (.iload_n 2, 1) := by decide +kernel
theorem dX2_mostLeft_6 : decode cX2_mostLeft 6 = .ok (.iand, 1) := by decide +kernel
theorem dX2_mostLeft_7 : decode cX2_mostLeft 7 = .ok (.invokestatic 33, 3) := by decide +kernel
theorem dX2_mostLeft_10 : decode cX2_mostLeft 10 = .ok (.istore 4, 2) := by decide +kernel
theorem dX2_mostLeft_12 : decode cX2_mostLeft 12 = .ok (.iconst 1, 1) := by decide +kernel
theorem dX2_mostLeft_13 : decode cX2_mostLeft 13 = .ok (.istore 5, 2) := by decide +kernel
theorem dX2_mostLeft_15 : decode cX2_mostLeft 15 = .ok (.iload 5, 2) := by decide +kernel
theorem dX2_mostLeft_17 : decode cX2_mostLeft 17 = .ok (.bipush 12, 2) := by decide +kernel
theorem dX2_mostLeft_19 : decode cX2_mostLeft 19 = .ok (.if_icmp .ge 37, 3) := by decide +kernel
theorem dX2_mostLeft_22 : decode cX2_mostLeft 22 = .ok (.aload_n 0, 1) := by decide +kernel
theorem dX2_mostLeft_23 : decode cX2_mostLeft 23 = .ok (.iload_n 3, 1) := by decide +kernel
theorem dX2_mostLeft_24 : decode cX2_mostLeft 24 = .ok (.invokevirtual 43, 3) := by decide +kernel
theorem dX2_mostLeft_27 : decode cX2_mostLeft 27 = .ok (.istore 6, 2) := by decide +kernel
theorem dX2_mostLeft_29 : decode cX2_mostLeft 29 = .ok (.iload 4, 2) := by decide +kernel
theorem dX2_mostLeft_31 : decode cX2_mostLeft 31 = .ok (.iload 6, 2) := by decide +kernel
theorem dX2_mostLeft_33 : decode cX2_mostLeft 33 = .ok (.iload_n 3, 1) := by decide +kernel
theorem dX2_mostLeft_34 : decode cX2_mostLeft 34 = .ok (.iconst (-1), 1) := by decide +kernel
theorem dX2_mostLeft_35 : decode cX2_mostLeft 35 = .ok (.ixor, 1) := by decide +kernel
theorem dX2_mostLeft_36 : decode cX2_mostLeft 36 = .ok (.iand, 1) := by decide +kernel
theorem dX2_mostLeft_37 : decode cX2_mostLeft 37 = .ok (.iload_n 2, 1) := by decide +kernel
theorem dX2_mostLeft_38 : decode cX2_mostLeft 38 = .ok (.iand, 1) := by decide +kernel
theorem dX2_mostLeft_39 : decode cX2_mostLeft 39 = .ok (.invokestatic 33, 3) := by decide +kernel
theorem dX2_mostLeft_42 : decode cX2_mostLeft 42 = .ok (.invokestatic 46, 3) := by decide +kernel
theorem dX2_mostLeft_45 : decode cX2_mostLeft 45 = .ok (.istore 4, 2) := by decide +kernel
theorem dX2_mostLeft_47 : decode cX2_mostLeft 47 = .ok (.iload 6, 2) := by decide +kernel
theorem dX2_mostLeft_49 : decode cX2_mostLeft 49 = .ok (.istore_n 3, 1) := by decide +kernel
theorem dX2_mostLeft_50 : decode cX2_mostLeft 50 = .ok (.iinc 5 1, 3) := by decide +kernel
theorem dX2_mostLeft_53 : decode cX2_mostLeft 53 = .ok (.goto (-38), 3) := by decide +kernel
theorem dX2_mostLeft_56 : decode cX2_mostLeft 56 = .ok (.iload 4, 2) := by decide +kernel
theorem dX2_mostLeft_58 : decode cX2_mostLeft 58 = .ok (.iload_n 2, 1) := by decide +kernel
theorem dX2_mostLeft_59 : decode cX2_mostLeft 59 = .ok (.iload_n 3, 1) := by decide +kernel
theorem dX2_mostLeft_60 : decode cX2_mostLeft 60 = .ok (.iconst (-1), 1) := by decide +kernel
theorem dX2_mostLeft_61 : decode cX2_mostLeft 61 = .ok (.ixor, 1) := by decide +kernel
theorem dX2_mostLeft_62 : decode cX2_mostLeft 62 = .ok (.iand, 1) := by decide +kernel
theorem dX2_mostLeft_63 : decode cX2_mostLeft 63 = .ok (.invokestatic 33, 3) := by decide +kernel
theorem dX2_mostLeft_66 : decode cX2_mostLeft 66 = .ok (.invokestatic 46, 3) := by decide +kernel
theorem dX2_mostLeft_69 : decode cX2_mostLeft 69 = .ok (.ireturn, 1) := by decide +kernel
set_option maxRecDepth 20000 in
theorem ggX2_fitting_X2_widened : GoodIn wsX2_fitting wsX2_widened := goodIn_r _ [5, 6, 7, 8, 9, 10, 11] (by decide +kernel) (by decide +kernel)
set_option maxRecDepth 20000 in
theorem gX2_fitting_X2_widened : GoodIn wsX2_fitting (wsV RX2 43 RX2 yX2_widened wsX2_widened) := goodIn_app (goodIn_of _ (by decide +kernel)) ggX2_fitting_X2_widened
theorem dX2_fitting_0 : decode cX2_fitting 0 = .ok (.iconst 1, 1) := by decide +kernel
theorem dX2_fitting_1 : decode cX2_fitting 1 = .ok (.iload_n 1, 1) := by decide +kernel
theorem dX2_fitting_2 : decode cX2_fitting 2 = .ok (.ishl, 1) := by decide +kernel
theorem dX2_fitting_3 : decode cX2_fitting 3 = .ok (.istore 4, 2) := by decide +kernel
theorem dX2_fitting_5 : decode cX2_fitting 5 = .ok (.iconst 1, 1) := by decide +kernel
theorem dX2_fitting_6 : decode cX2_fitting 6 = .ok (.iload_n 2, 1) := by decide +kernel
theorem dX2_fitting_7 : decode cX2_fitting 7 = .ok (.ishl, 1) := by decide +kernel
theorem dX2_fitting_8 : decode cX2_fitting 8 = .ok (.istore 5, 2) := by decide +kernel
theorem dX2_fitting_10 : decode cX2_fitting 10 = .ok (.iconst 0, 1) := by decide +kernel
theorem dX2_fitting_11 : decode cX2_fitting 11 = .ok (.istore 6, 2) := by decide +kernel
theorem dX2_fitting_13 : decode cX2_fitting 13 = .ok (.iconst 0, 1) := by decide +kernel
theorem dX2_fitting_14 : decode cX2_fitting 14 = .ok (.istore 7, 2) := by decide +kernel
theorem dX2_fitting_16 : decode cX2_fitting 16 = .ok (.iload 7, 2) := by decide +kernel
theorem dX2_fitting_18 : decode cX2_fitting 18 = .ok (.bipush 12, 2) := by decide +kernel
theorem dX2_fitting_20 : decode cX2_fitting 20 = .ok (.if_icmp .ge 37, 3) := by decide +kernel
theorem dX2_fitting_23 : decode cX2_fitting 23 = .ok (.iload 6, 2) := by decide +kernel
theorem dX2_fitting_25 : decode cX2_fitting 25 = .ok (.iload 5, 2) := by decide +kernel
theorem dX2_fitting_27 : decode cX2_fitting 27 = .ok (.iload 4, 2) := by decide +kernel
theorem dX2_fitting_29 : decode cX2_fitting 29 = .ok (.iconst (-1), 1) := by decide +kernel
theorem dX2_fitting_30 : decode cX2_fitting 30 = .ok (.ixor, 1) := by decide +kernel
theorem dX2_fitting_31 : decode cX2_fitting 31 = .ok (.iand, 1) := by decide +kernel
theorem dX2_fitting_32 : decode cX2_fitting 32 = .ok (.ior, 1) := by decide +kernel
theorem dX2_fitting_33 : decode cX2_fitting 33 = .ok (.istore 6, 2) := by decide +kernel
theorem dX2_fitting_35 : decode cX2_fitting 35 = .ok (.aload_n 0, 1) := by decide +kernel
theorem dX2_fitting_36 : decode cX2_fitting 36 = .ok (.iload 4, 2) := by decide +kernel
theorem dX2_fitting_38 : decode cX2_fitting 38 = .ok (.invokevirtual 43, 3) := by decide +kernel
theorem dX2_fitting_41 : decode cX2_fitting 41 = .ok (.istore 4, 2) := by decide +kernel
theorem dX2_fitting_43 : decode cX2_fitting 43 = .ok (.aload_n 0, 1) := by decide +kernel
theorem dX2_fitting_44 : decode cX2_fitting 44 = .ok (.iload 5, 2) := by decide +kernel
theorem dX2_fitting_46 : decode cX2_fitting 46 = .ok (.invokevirtual 43, 3) := by decide +kernel
theorem dX2_fitting_49 : decode cX2_fitting 49 = .ok (.istore 5, 2) := by decide +kernel
theorem dX2_fitting_51 : decode cX2_fitting 51 = .ok (.iinc 7 1, 3) := by decide +kernel
theorem dX2_fitting_54 : decode cX2_fitting 54 = .ok (.goto (-38), 3) := by decide +kernel
theorem dX2_fitting_57 : decode cX2_fitting 57 = .ok (.iload 4, 2) := by decide +kernel
theorem dX2_fitting_59 : decode cX2_fitting 59 = .ok (.iload 5, 2) := by decide +kernel
theorem dX2_fitting_61 : decode cX2_fitting 61 = .ok (.iand, 1) := by decide +kernel
theorem dX2_fitting_62 : decode cX2_fitting 62 = .ok (.istore 7, 2) := by decide +kernel
theorem dX2_fitting_64 : decode cX2_fitting 64 = .ok (.iload_n 3, 1) := by decide +kernel
theorem dX2_fitting_65 : decode cX2_fitting 65 = .ok (.ifCond .eq 11, 3) := by decide +kernel
theorem dX2_fitting_68 : decode cX2_fitting 68 = .ok (.iload 7, 2) := by decide +kernel
theorem dX2_fitting_70 : decode cX2_fitting 70 = .ok (.iload 6, 2) := by decide +kernel
theorem dX2_fitting_72 : decode cX2_fitting 72 = .ok (.iand, 1) := by decide +kernel
theorem dX2_fitting_73 : decode cX2_fitting 73 = .ok (.goto 10, 3) := by decide +kernel
theorem dX2_fitting_76 : decode cX2_fitting 76 = .ok (.iload 7, 2) := by decide +kernel
theorem dX2_fitting_78 : decode cX2_fitting 78 = .ok (.iload 6, 2) := by decide +kernel
theorem dX2_fitting_80 : decode cX2_fitting 80 = .ok (.iconst (-1), 1) := by decide +kernel
theorem dX2_fitting_81 : decode cX2_fitting 81 = .ok (.ixor, 1) := by decide +kernel
theorem dX2_fitting_82 : decode cX2_fitting 82 = .ok (.iand, 1) := by decide +kernel
theorem dX2_fitting_83 : decode cX2_fitting 83 = .ok (.ireturn, 1) := by decide +kernel
theorem dX3_init_0 : decode cX3_init 0 = .ok (.aload_n 0, 1) := by decide +kernel
theorem dX3_init_1 : decode cX3_init 1 = .ok (.invokespecial 3, 3) := by decide +kernel
theorem dX3_init_4 : decode cX3_init 4 = .ok (.aload_n 0, 1) := by decide +kernel
theorem dX3_init_5 : decode cX3_init 5 = .ok (.bipush 8, 2) := by decide +kernel
theorem dX3_init_7 : decode cX3_init 7 = .ok (.newarray .int, 2) := by decide +kernel
theorem dX3_init_9 : decode cX3_init 9 = .ok (.putfield 9, 3) := by decide +kernel
theorem dX3_init_12 : decode cX3_init 12 = .ok (.aload_n 0, 1) := by decide +kernel
theorem dX3_init_13 : decode cX3_init 13 = .ok (.bipush 8, 2) := by decide +kernel
theorem dX3_init_15 : decode cX3_init 15 = .ok (.newarray .int, 2) := by decide +kernel
theorem dX3_init_17 : decode cX3_init 17 = .ok (.putfield 15, 3) := by decide +kernel
theorem dX3_init_20 : decode cX3_init 20 = .ok (.aload_n 0, 1) := by decide +kernel
theorem dX3_init_21 : decode cX3_init 21 = .ok (.iconst 0, 1) := by decide +kernel
theorem dX3_init_22 : decode cX3_init 22 = .ok (.putfield 18, 3) := by decide +kernel
theorem dX3_init_25 : decode cX3_init 25 = .ok (.aload_n 0, 1) := by decide +kernel
theorem dX3_init_26 : decode cX3_init 26 = .ok (.bipush (-6), 2) := by decide +kernel
theorem dX3_init_28 : decode cX3_init 28 = .ok (.putfield 22, 3) := by decide +kernel
theorem dX3_init_31 : decode cX3_init 31 = .ok (.aload_n 0, 1) := by decide +kernel
theorem dX3_init_32 : decode cX3_init 32 = .ok (.iconst 0, 1) := by decide +kernel
theorem dX3_init_33 : decode cX3_init 33 = .ok (.putfield 25, 3) := by decide +kernel
theorem dX3_init_36 : decode cX3_init 36 = .ok (.return_, 1) := by decide +kernel
theorem dX3_copy_0 : decode cX3_copy 0 = .ok (.aload_n 1, 1) := by decide +kernel
theorem dX3_copy_1 : decode cX3_copy 1 = .ok (.getfield 9, 3) := by decide +kernel
theorem dX3_copy_4 : decode cX3_copy 4 = .ok (.iconst 0, 1) := by decide +kernel
theorem dX3_copy_5 : decode cX3_copy 5 = .ok (.aload_n 0, 1) := by decide +kernel
theorem dX3_copy_6 : decode cX3_copy 6 = .ok (.getfield 9, 3) := by decide +kernel
theorem dX3_copy_9 : decode cX3_copy 9 = .ok (.iconst 0, 1) := by decide +kernel
theorem dX3_copy_10 : decode cX3_copy 10 = .ok (.bipush 8, 2) := by decide +kernel
theorem dX3_copy_12 : decode cX3_copy 12 = .ok (.invokestatic 28, 3) := by decide +kernel
theorem dX3_copy_15 : decode cX3_copy 15 = .ok (.aload_n 1, 1) := by decide +kernel
theorem dX3_copy_16 : decode cX3_copy 16 = .ok (.getfield 15, 3) := by decide +kernel
theorem dX3_copy_19 : decode cX3_copy 19 = .ok (.iconst 0, 1) := by decide +kernel
theorem dX3_copy_20 : decode cX3_copy 20 = .ok (.aload_n 0, 1) := by decide +kernel
theorem dX3_copy_21 : decode cX3_copy 21 = .ok (.getfield 15, 3) := by decide +kernel
theorem dX3_copy_24 : decode cX3_copy 24 = .ok (.iconst 0, 1) := by decide +kernel
theorem dX3_copy_25 : decode cX3_copy 25 = .ok (.bipush 8, 2) := by decide +kernel
theorem dX3_copy_27 : decode cX3_copy 27 = .ok (.invokestatic 28, 3) := by decide +kernel
theorem dX3_copy_30 : decode cX3_copy 30 = .ok (.aload_n 0, 1) := by decide +kernel
theorem dX3_copy_31 : decode cX3_copy 31 = .ok (.aload_n 1, 1) := by decide +kernel
theorem dX3_copy_32 : decode cX3_copy 32 = .ok (.getfield 18, 3) := by decide +kernel
theorem dX3_copy_35 : decode cX3_copy 35 = .ok (.putfield 18, 3) := by decide +kernel
theorem dX3_copy_38 : decode cX3_copy 38 = .ok (.return_, 1) := by decide +kernel
theorem dX3_add_0 : decode cX3_add 0 = .ok (.aload_n 0, 1) := by decide +kernel
theorem dX3_add_1 : decode cX3_add 1 = .ok (.getfield 18, 3) := by decide +kernel
theorem dX3_add_4 : decode cX3_add 4 = .ok (.ifCond .lt 12, 3) := by decide +kernel
theorem dX3_add_7 : decode cX3_add 7 = .ok (.aload_n 0, 1) := by decide +kernel
theorem dX3_add_8 : decode cX3_add 8 = .ok (.getfield 18, 3) := by decide +kernel
theorem dX3_add_11 : decode cX3_add 11 = .ok (.bipush 8, 2) := by decide +kernel
theorem dX3_add_13 : decode cX3_add 13 = .ok (.if_icmp .lt 5, 3) := by decide +kernel
theorem dX3_add_16 : decode cX3_add 16 = .ok (.iconst 0, 1) := by decide +kernel
theorem dX3_add_17 : decode cX3_add 17 = .ok (.ireturn, 1) := by decide +kernel
theorem dX3_add_18 : decode cX3_add 18 = .ok (.aload_n 0, 1) := by decide +kernel
theorem dX3_add_19 : decode cX3_add 19 = .ok (.getfield 9, 3) := by decide +kernel
theorem dX3_add_22 : decode cX3_add 22 = .ok (.aload_n 0, 1) := by decide +kernel
theorem dX3_add_23 : decode cX3_add 23 = .ok (.getfield 18, 3) := by decide +kernel
theorem dX3_add_26 : decode cX3_add 26 = .ok (.iload_n 1, 1) := by decide +kernel
theorem dX3_add_27 : decode cX3_add 27 = .ok (.iastore, 1) := by decide +kernel
theorem dX3_add_28 : decode cX3_add 28 = .ok (.aload_n 0, 1) := by decide +kernel
theorem dX3_add_29 : decode cX3_add 29 = .ok (.getfield 15, 3) := by decide +kernel
theorem dX3_add_32 : decode cX3_add 32 = .ok (.aload_n 0, 1) := by decide +kernel
theorem dX3_add_33 : decode cX3_add 33 = .ok (.getfield 18, 3) := by decide +kernel
theorem dX3_add_36 : decode cX3_add 36 = .ok (.iload_n 2, 1) := by decide +kernel
theorem dX3_add_37 : decode cX3_add 37 = .ok (.iastore, 1) := by decide +kernel
theorem dX3_add_38 : decode cX3_add 38 = .ok (.aload_n 0, 1) := by decide +kernel
theorem dX3_add_39 : decode cX3_add 39 = .ok (.dup, 1) := by decide +kernel
theorem dX3_add_40 : decode cX3_add 40 = .ok (.getfield 18, 3) := by decide +kernel
theorem dX3_add_43 : decode cX3_add 43 = .ok (.iconst 1, 1) := by decide +kernel
theorem dX3_add_44 : decode cX3_add 44 = .ok (.iadd, 1) := by decide +kernel
theorem dX3_add_45 : decode cX3_add 45 = .ok (.putfield 18, 3) := by decide +kernel
theorem dX3_add_48 : decode cX3_add 48 = .ok (.iconst 1, 1) := by decide +kernel
theorem dX3_add_49 : decode cX3_add 49 = .ok (.ireturn, 1) := by decide +kernel
set_option maxRecDepth 20000 in
theorem ggX3_play_X9_holds : GoodIn wsX3_play wsX9_holds := goodIn_r _ [8] (by decide +kernel) (by decide +kernel)
set_option maxRecDepth 20000 in
theorem gX3_play_X9_holds_n34 : GoodIn wsX3_play (wsX9_holds) := ggX3_play_X9_holds
theorem dX3_play_0 : decode cX3_play 0 = .ok (.aload_n 0, 1) := by decide +kernel
theorem dX3_play_1 : decode cX3_play 1 = .ok (.iload_n 1, 1) := by decide +kernel
theorem dX3_play_2 : decode cX3_play 2 = .ok (.putfield 22, 3) := by decide +kernel
theorem dX3_play_5 : decode cX3_play 5 = .ok (.aload_n 0, 1) := by decide +kernel
theorem dX3_play_6 : decode cX3_play 6 = .ok (.iconst 0, 1) := by decide +kernel
theorem dX3_play_7 : decode cX3_play 7 = .ok (.putfield 25, 3) := by decide +kernel
theorem dX3_play_10 : decode cX3_play 10 = .ok (.bipush (-6), 2) := by decide +kernel
theorem dX3_play_12 : decode cX3_play 12 = .ok (.istore_n 3, 1) := by decide +kernel
theorem dX3_play_13 : decode cX3_play 13 = .ok (.iconst 0, 1) := by decide +kernel
theorem dX3_play_14 : decode cX3_play 14 = .ok (.istore 4, 2) := by decide +kernel
theorem dX3_play_16 : decode cX3_play 16 = .ok (.iload 4, 2) := by decide +kernel
theorem dX3_play_18 : decode cX3_play 18 = .ok (.aload_n 0, 1) := by decide +kernel
theorem dX3_play_19 : decode cX3_play 19 = .ok (.getfield 18, 3) := by decide +kernel
theorem dX3_play_22 : decode cX3_play 22 = .ok (.if_icmp .ge 112, 3) := by decide +kernel
theorem dX3_play_25 : decode cX3_play 25 = .ok (.iload 4, 2) := by decide +kernel
theorem dX3_play_27 : decode cX3_play 27 = .ok (.bipush 8, 2) := by decide +kernel
theorem dX3_play_29 : decode cX3_play 29 = .ok (.if_icmp .ge 105, 3) := by decide +kernel
theorem dX3_play_32 : decode cX3_play 32 = .ok (.bipush (-6), 2) := by decide +kernel
theorem dX3_play_34 : decode cX3_play 34 = .ok (.istore 5, 2) := by decide +kernel
theorem dX3_play_36 : decode cX3_play 36 = .ok (.aload_n 0, 1) := by decide +kernel
theorem dX3_play_37 : decode cX3_play 37 = .ok (.getfield 9, 3) := by decide +kernel
theorem dX3_play_40 : decode cX3_play 40 = .ok (.iload 4, 2) := by decide +kernel
theorem dX3_play_42 : decode cX3_play 42 = .ok (.iaload, 1) := by decide +kernel
theorem dX3_play_43 : decode cX3_play 43 = .ok (.aload_n 0, 1) := by decide +kernel
theorem dX3_play_44 : decode cX3_play 44 = .ok (.getfield 22, 3) := by decide +kernel
theorem dX3_play_47 : decode cX3_play 47 = .ok (.if_icmp .ne 12, 3) := by decide +kernel
theorem dX3_play_50 : decode cX3_play 50 = .ok (.aload_n 0, 1) := by decide +kernel
theorem dX3_play_51 : decode cX3_play 51 = .ok (.getfield 15, 3) := by decide +kernel
theorem dX3_play_54 : decode cX3_play 54 = .ok (.iload 4, 2) := by decide +kernel
theorem dX3_play_56 : decode cX3_play 56 = .ok (.iaload, 1) := by decide +kernel
theorem dX3_play_57 : decode cX3_play 57 = .ok (.istore 5, 2) := by decide +kernel
theorem dX3_play_59 : decode cX3_play 59 = .ok (.aload_n 0, 1) := by decide +kernel
theorem dX3_play_60 : decode cX3_play 60 = .ok (.getfield 15, 3) := by decide +kernel
theorem dX3_play_63 : decode cX3_play 63 = .ok (.iload 4, 2) := by decide +kernel
theorem dX3_play_65 : decode cX3_play 65 = .ok (.iaload, 1) := by decide +kernel
theorem dX3_play_66 : decode cX3_play 66 = .ok (.aload_n 0, 1) := by decide +kernel
theorem dX3_play_67 : decode cX3_play 67 = .ok (.getfield 22, 3) := by decide +kernel
theorem dX3_play_70 : decode cX3_play 70 = .ok (.if_icmp .ne 12, 3) := by decide +kernel
theorem dX3_play_73 : decode cX3_play 73 = .ok (.aload_n 0, 1) := by decide +kernel
theorem dX3_play_74 : decode cX3_play 74 = .ok (.getfield 9, 3) := by decide +kernel
theorem dX3_play_77 : decode cX3_play 77 = .ok (.iload 4, 2) := by decide +kernel
theorem dX3_play_79 : decode cX3_play 79 = .ok (.iaload, 1) := by decide +kernel
theorem dX3_play_80 : decode cX3_play 80 = .ok (.istore 5, 2) := by decide +kernel
theorem dX3_play_82 : decode cX3_play 82 = .ok (.iload 5, 2) := by decide +kernel
theorem dX3_play_84 : decode cX3_play 84 = .ok (.bipush (-6), 2) := by decide +kernel
theorem dX3_play_86 : decode cX3_play 86 = .ok (.if_icmp .eq 42, 3) := by decide +kernel
theorem dX3_play_89 : decode cX3_play 89 = .ok (.iload 5, 2) := by decide +kernel
theorem dX3_play_91 : decode cX3_play 91 = .ok (.iload_n 3, 1) := by decide +kernel
theorem dX3_play_92 : decode cX3_play 92 = .ok (.if_icmp .eq 36, 3) := by decide +kernel
theorem dX3_play_95 : decode cX3_play 95 = .ok (.iload_n 2, 1) := by decide +kernel
theorem dX3_play_96 : decode cX3_play 96 = .ok (.iload 4, 2) := by decide +kernel
theorem dX3_play_98 : decode cX3_play 98 = .ok (.invokestatic 34, 3) := by decide +kernel
theorem dX3_play_101 : decode cX3_play 101 = .ok (.ifCond .ne 6, 3) := by decide +kernel
theorem dX3_play_104 : decode cX3_play 104 = .ok (.goto 24, 3) := by decide +kernel
theorem dX3_play_107 : decode cX3_play 107 = .ok (.aload_n 0, 1) := by decide +kernel
theorem dX3_play_108 : decode cX3_play 108 = .ok (.getfield 22, 3) := by decide +kernel
theorem dX3_play_111 : decode cX3_play 111 = .ok (.istore_n 3, 1) := by decide +kernel
theorem dX3_play_112 : decode cX3_play 112 = .ok (.aload_n 0, 1) := by decide +kernel
theorem dX3_play_113 : decode cX3_play 113 = .ok (.iload 5, 2) := by decide +kernel
theorem dX3_play_115 : decode cX3_play 115 = .ok (.putfield 22, 3) := by decide +kernel
theorem dX3_play_118 : decode cX3_play 118 = .ok (.aload_n 0, 1) := by decide +kernel
theorem dX3_play_119 : decode cX3_play 119 = .ok (.dup, 1) := by decide +kernel
theorem dX3_play_120 : decode cX3_play 120 = .ok (.getfield 25, 3) := by decide +kernel
theorem dX3_play_123 : decode cX3_play 123 = .ok (.iconst 1, 1) := by decide +kernel
theorem dX3_play_124 : decode cX3_play 124 = .ok (.iadd, 1) := by decide +kernel
theorem dX3_play_125 : decode cX3_play 125 = .ok (.putfield 25, 3) := by decide +kernel
theorem dX3_play_128 : decode cX3_play 128 = .ok (.iinc 4 1, 3) := by decide +kernel
theorem dX3_play_131 : decode cX3_play 131 = .ok (.goto (-115), 3) := by decide +kernel
theorem dX3_play_134 : decode cX3_play 134 = .ok (.return_, 1) := by decide +kernel
set_option maxRecDepth 20000 in
theorem ggX3_possibleKings_X3_play : GoodIn wsX3_possibleKings wsX3_play := goodIn_r _ [7, 2, 8, 1, 9, 10, 11, 12, 13, 14, 15, 16, 17, 18] (by decide +kernel) (by decide +kernel)
set_option maxRecDepth 20000 in
theorem gX3_possibleKings_X3_play : GoodIn wsX3_possibleKings (wsV RX3 38 RX3 yX3_play wsX3_play) := goodIn_app (goodIn_of _ (by decide +kernel)) ggX3_possibleKings_X3_play
theorem dX3_possibleKings_0 : decode cX3_possibleKings 0 = .ok (.iconst 0, 1) := by decide +kernel
theorem dX3_possibleKings_1 : decode cX3_possibleKings 1 = .ok (.istore_n 2, 1) := by decide +kernel
theorem dX3_possibleKings_2 : decode cX3_possibleKings 2 = .ok (.iconst 0, 1) := by decide +kernel
theorem dX3_possibleKings_3 : decode cX3_possibleKings 3 = .ok (.istore_n 3, 1) := by decide +kernel
theorem dX3_possibleKings_4 : decode cX3_possibleKings 4 = .ok (.iload_n 3, 1) := by decide +kernel
theorem dX3_possibleKings_5 : decode cX3_possibleKings 5 = .ok (.iconst 1, 1) := by decide +kernel
theorem dX3_possibleKings_6 : decode cX3_possibleKings 6 = .ok (.aload_n 0, 1) := by decide +kernel
theorem dX3_possibleKings_7 : decode cX3_possibleKings 7 = .ok (.getfield 18, 3) := by decide +kernel
theorem dX3_possibleKings_10 : decode cX3_possibleKings 10 = .ok (.ishl, 1) := by decide +kernel
theorem dX3_possibleKings_11 : decode cX3_possibleKings 11 = .ok (.if_icmp .ge 24, 3) := by decide +kernel
theorem dX3_possibleKings_14 : decode cX3_possibleKings 14 = .ok (.aload_n 0, 1) := by decide +kernel
theorem dX3_possibleKings_15 : decode cX3_possibleKings 15 = .ok (.iload_n 1, 1) := by decide +kernel
theorem dX3_possibleKings_16 : decode cX3_possibleKings 16 = .ok (.iload_n 3, 1) := by decide +kernel
theorem dX3_possibleKings_17 : decode cX3_possibleKings 17 = .ok (.invokevirtual 38, 3) := by decide +kernel
theorem dX3_possibleKings_20 : decode cX3_possibleKings 20 = .ok (.iload_n 2, 1) := by decide +kernel
theorem dX3_possibleKings_21 : decode cX3_possibleKings 21 = .ok (.iconst 1, 1) := by decide +kernel
theorem dX3_possibleKings_22 : decode cX3_possibleKings 22 = .ok (.aload_n 0, 1) := by decide +kernel
theorem dX3_possibleKings_23 : decode cX3_possibleKings 23 = .ok (.getfield 22, 3) := by decide +kernel
theorem dX3_possibleKings_26 : decode cX3_possibleKings 26 = .ok (.ishl, 1) := by decide +kernel
theorem dX3_possibleKings_27 : decode cX3_possibleKings 27 = .ok (.ior, 1) := by decide +kernel
theorem dX3_possibleKings_28 : decode cX3_possibleKings 28 = .ok (.istore_n 2, 1) := by decide +kernel
theorem dX3_possibleKings_29 : decode cX3_possibleKings 29 = .ok (.iinc 3 1, 3) := by decide +kernel
theorem dX3_possibleKings_32 : decode cX3_possibleKings 32 = .ok (.goto (-28), 3) := by decide +kernel
theorem dX3_possibleKings_35 : decode cX3_possibleKings 35 = .ok (.iload_n 2, 1) := by decide +kernel
theorem dX3_possibleKings_36 : decode cX3_possibleKings 36 = .ok (.ireturn, 1) := by decide +kernel
set_option maxRecDepth 20000 in
theorem ggX3_fewestTouches_X3_play : GoodIn wsX3_fewestTouches wsX3_play := goodIn_r _ [8, 2, 3, 1, 9, 10, 11, 12, 13, 14, 15, 16, 17, 18] (by decide +kernel) (by decide +kernel)
set_option maxRecDepth 20000 in
theorem gX3_fewestTouches_X3_play : GoodIn wsX3_fewestTouches (wsV RX3 38 RX3 yX3_play wsX3_play) := goodIn_app (goodIn_of _ (by decide +kernel)) ggX3_fewestTouches_X3_play
theorem dX3_fewestTouches_0 : decode cX3_fewestTouches 0 = .ok (.bipush (-6), 2) := by decide +kernel
theorem dX3_fewestTouches_2 : decode cX3_fewestTouches 2 = .ok (.istore_n 3, 1) := by decide +kernel
theorem dX3_fewestTouches_3 : decode cX3_fewestTouches 3 = .ok (.iconst 0, 1) := by decide +kernel
theorem dX3_fewestTouches_4 : decode cX3_fewestTouches 4 = .ok (.istore 4, 2) := by decide +kernel
theorem dX3_fewestTouches_6 : decode cX3_fewestTouches 6 = .ok (.iload 4, 2) := by decide +kernel
theorem dX3_fewestTouches_8 : decode cX3_fewestTouches 8 = .ok (.iconst 1, 1) := by decide +kernel
theorem dX3_fewestTouches_9 : decode cX3_fewestTouches 9 = .ok (.aload_n 0, 1) := by decide +kernel
theorem dX3_fewestTouches_10 : decode cX3_fewestTouches 10 = .ok (.getfield 18, 3) := by decide +kernel
theorem dX3_fewestTouches_13 : decode cX3_fewestTouches 13 = .ok (.ishl, 1) := by decide +kernel
theorem dX3_fewestTouches_14 : decode cX3_fewestTouches 14 = .ok (.if_icmp .ge 43, 3) := by decide +kernel
theorem dX3_fewestTouches_17 : decode cX3_fewestTouches 17 = .ok (.aload_n 0, 1) := by decide +kernel
theorem dX3_fewestTouches_18 : decode cX3_fewestTouches 18 = .ok (.iload_n 1, 1) := by decide +kernel
theorem dX3_fewestTouches_19 : decode cX3_fewestTouches 19 = .ok (.iload 4, 2) := by decide +kernel
theorem dX3_fewestTouches_21 : decode cX3_fewestTouches 21 = .ok (.invokevirtual 38, 3) := by decide +kernel
theorem dX3_fewestTouches_24 : decode cX3_fewestTouches 24 = .ok (.aload_n 0, 1) := by decide +kernel
theorem dX3_fewestTouches_25 : decode cX3_fewestTouches 25 = .ok (.getfield 22, 3) := by decide +kernel
theorem dX3_fewestTouches_28 : decode cX3_fewestTouches 28 = .ok (.iload_n 2, 1) := by decide +kernel
theorem dX3_fewestTouches_29 : decode cX3_fewestTouches 29 = .ok (.if_icmp .ne 22, 3) := by decide +kernel
theorem dX3_fewestTouches_32 : decode cX3_fewestTouches 32 = .ok (.iload_n 3, 1) := by decide +kernel
theorem dX3_fewestTouches_33 : decode cX3_fewestTouches 33 = .ok (.bipush (-6), 2) := by decide +kernel
theorem dX3_fewestTouches_35 : decode cX3_fewestTouches 35 = .ok (.if_icmp .eq 11, 3) := by decide +kernel
theorem dX3_fewestTouches_38 : decode cX3_fewestTouches 38 = .ok (.aload_n 0, 1) := by decide +kernel
theorem dX3_fewestTouches_39 : decode cX3_fewestTouches 39 = .ok (.getfield 25, 3) := by decide +kernel
theorem dX3_fewestTouches_42 : decode cX3_fewestTouches 42 = .ok (.iload_n 3, 1) := by decide +kernel
theorem dX3_fewestTouches_43 : decode cX3_fewestTouches 43 = .ok (.if_icmp .ge 8, 3) := by decide +kernel
theorem dX3_fewestTouches_46 : decode cX3_fewestTouches 46 = .ok (.aload_n 0, 1) := by decide +kernel
theorem dX3_fewestTouches_47 : decode cX3_fewestTouches 47 = .ok (.getfield 25, 3) := by decide +kernel
theorem dX3_fewestTouches_50 : decode cX3_fewestTouches 50 = .ok (.istore_n 3, 1) := by decide +kernel
theorem dX3_fewestTouches_51 : decode cX3_fewestTouches 51 = .ok (.iinc 4 1, 3) := by decide +kernel
theorem dX3_fewestTouches_54 : decode cX3_fewestTouches 54 = .ok (.goto (-48), 3) := by decide +kernel
theorem dX3_fewestTouches_57 : decode cX3_fewestTouches 57 = .ok (.iload_n 3, 1) := by decide +kernel
theorem dX3_fewestTouches_58 : decode cX3_fewestTouches 58 = .ok (.ireturn, 1) := by decide +kernel
set_option maxRecDepth 20000 in
theorem ggX3_weightOf_X3_play : GoodIn wsX3_weightOf wsX3_play := goodIn_r _ [7, 2, 8, 1, 9, 10, 11, 12, 13, 18, 19, 20, 21, 22] (by decide +kernel) (by decide +kernel)
set_option maxRecDepth 20000 in
theorem gX3_weightOf_X3_play : GoodIn wsX3_weightOf (wsV RX3 38 RX3 yX3_play wsX3_play) := goodIn_app (goodIn_of _ (by decide +kernel)) ggX3_weightOf_X3_play
set_option maxRecDepth 20000 in
theorem ggX3_weightOf_X3_coinWeight : GoodIn wsX3_weightOf wsX3_coinWeight := goodIn_r _ [17, 1, 11, 12, 13, 18, 19, 20, 21, 22] (by decide +kernel) (by decide +kernel)
set_option maxRecDepth 20000 in
theorem gX3_weightOf_X3_coinWeight : GoodIn wsX3_weightOf (wsV RX3 42 RX3 yX3_coinWeight wsX3_coinWeight) := goodIn_app (goodIn_of _ (by decide +kernel)) ggX3_weightOf_X3_coinWeight
theorem dX3_weightOf_0 : decode cX3_weightOf 0 = .ok (.lconst 0, 1) := by decide +kernel
theorem dX3_weightOf_1 : decode cX3_weightOf 1 = .ok (.lstore 4, 2) := by decide +kernel
theorem dX3_weightOf_3 : decode cX3_weightOf 3 = .ok (.iconst 0, 1) := by decide +kernel
theorem dX3_weightOf_4 : decode cX3_weightOf 4 = .ok (.istore 6, 2) := by decide +kernel
theorem dX3_weightOf_6 : decode cX3_weightOf 6 = .ok (.iload 6, 2) := by decide +kernel
theorem dX3_weightOf_8 : decode cX3_weightOf 8 = .ok (.iconst 1, 1) := by decide +kernel
theorem dX3_weightOf_9 : decode cX3_weightOf 9 = .ok (.aload_n 0, 1) := by decide +kernel
theorem dX3_weightOf_10 : decode cX3_weightOf 10 = .ok (.getfield 18, 3) := by decide +kernel
theorem dX3_weightOf_13 : decode cX3_weightOf 13 = .ok (.ishl, 1) := by decide +kernel
theorem dX3_weightOf_14 : decode cX3_weightOf 14 = .ok (.if_icmp .ge 36, 3) := by decide +kernel
theorem dX3_weightOf_17 : decode cX3_weightOf 17 = .ok (.aload_n 0, 1) := by decide +kernel
theorem dX3_weightOf_18 : decode cX3_weightOf 18 = .ok (.iload_n 1, 1) := by decide +kernel
theorem dX3_weightOf_19 : decode cX3_weightOf 19 = .ok (.iload 6, 2) := by decide +kernel
theorem dX3_weightOf_21 : decode cX3_weightOf 21 = .ok (.invokevirtual 38, 3) := by decide +kernel
theorem dX3_weightOf_24 : decode cX3_weightOf 24 = .ok (.aload_n 0, 1) := by decide +kernel
theorem dX3_weightOf_25 : decode cX3_weightOf 25 = .ok (.getfield 22, 3) := by decide +kernel
theorem dX3_weightOf_28 : decode cX3_weightOf 28 = .ok (.iload_n 2, 1) := by decide +kernel
theorem dX3_weightOf_29 : decode cX3_weightOf 29 = .ok (.if_icmp .ne 15, 3) := by decide +kernel
theorem dX3_weightOf_32 : decode cX3_weightOf 32 = .ok (.lload 4, 2) := by decide +kernel
theorem dX3_weightOf_34 : decode cX3_weightOf 34 = .ok (.aload_n 0, 1) := by decide +kernel
theorem dX3_weightOf_35 : decode cX3_weightOf 35 = .ok (.iload 6, 2) := by decide +kernel
theorem dX3_weightOf_37 : decode cX3_weightOf 37 = .ok (.iload_n 3, 1) := by decide +kernel
theorem dX3_weightOf_38 : decode cX3_weightOf 38 = .ok (.invokevirtual 42, 3) := by decide +kernel
theorem dX3_weightOf_41 : decode cX3_weightOf 41 = .ok (.ladd, 1) := by decide +kernel
theorem dX3_weightOf_42 : decode cX3_weightOf 42 = .ok (.lstore 4, 2) := by decide +kernel
theorem dX3_weightOf_44 : decode cX3_weightOf 44 = .ok (.iinc 6 1, 3) := by decide +kernel
theorem dX3_weightOf_47 : decode cX3_weightOf 47 = .ok (.goto (-41), 3) := by decide +kernel
theorem dX3_weightOf_50 : decode cX3_weightOf 50 = .ok (.lload 4, 2) := by decide +kernel
theorem dX3_weightOf_52 : decode cX3_weightOf 52 = .ok (.lreturn, 1) := by decide +kernel
set_option maxRecDepth 20000 in
theorem ggX3_coinWeight_X9_holds : GoodIn wsX3_coinWeight wsX9_holds := goodIn_r _ [4] (by decide +kernel) (by decide +kernel)
set_option maxRecDepth 20000 in
theorem gX3_coinWeight_X9_holds_n34 : GoodIn wsX3_coinWeight (wsX9_holds) := ggX3_coinWeight_X9_holds
theorem dX3_coinWeight_0 : decode cX3_coinWeight 0 = .ok (.lconst 1, 1) := by decide +kernel
theorem dX3_coinWeight_1 : decode cX3_coinWeight 1 = .ok (.lstore_n 3, 1) := by decide +kernel
theorem dX3_coinWeight_2 : decode cX3_coinWeight 2 = .ok (.iconst 0, 1) := by decide +kernel
theorem dX3_coinWeight_3 : decode cX3_coinWeight 3 = .ok (.istore 5, 2) := by decide +kernel
theorem dX3_coinWeight_5 : decode cX3_coinWeight 5 = .ok (.iload 5, 2) := by decide +kernel
theorem dX3_coinWeight_7 : decode cX3_coinWeight 7 = .ok (.aload_n 0, 1) := by decide +kernel
theorem dX3_coinWeight_8 : decode cX3_coinWeight 8 = .ok (.getfield 18, 3) := by decide +kernel
theorem dX3_coinWeight_11 : decode cX3_coinWeight 11 = .ok (.if_icmp .ge 31, 3) := by decide +kernel
theorem dX3_coinWeight_14 : decode cX3_coinWeight 14 = .ok (.lload_n 3, 1) := by decide +kernel
theorem dX3_coinWeight_15 : decode cX3_coinWeight 15 = .ok (.iload_n 1, 1) := by decide +kernel
theorem dX3_coinWeight_16 : decode cX3_coinWeight 16 = .ok (.iload 5, 2) := by decide +kernel
theorem dX3_coinWeight_18 : decode cX3_coinWeight 18 = .ok (.invokestatic 34, 3) := by decide +kernel
theorem dX3_coinWeight_21 : decode cX3_coinWeight 21 = .ok (.ifCond .eq 8, 3) := by decide +kernel
theorem dX3_coinWeight_24 : decode cX3_coinWeight 24 = .ok (.iload_n 2, 1) := by decide +kernel
theorem dX3_coinWeight_25 : decode cX3_coinWeight 25 = .ok (.i2l, 1) := by decide +kernel
theorem dX3_coinWeight_26 : decode cX3_coinWeight 26 = .ok (.goto 8, 3) := by decide +kernel
theorem dX3_coinWeight_29 : decode cX3_coinWeight 29 = .ok (.bipush 10, 2) := by decide +kernel
theorem dX3_coinWeight_31 : decode cX3_coinWeight 31 = .ok (.iload_n 2, 1) := by decide +kernel
theorem dX3_coinWeight_32 : decode cX3_coinWeight 32 = .ok (.isub, 1) := by decide +kernel
theorem dX3_coinWeight_33 : decode cX3_coinWeight 33 = .ok (.i2l, 1) := by decide +kernel
theorem dX3_coinWeight_34 : decode cX3_coinWeight 34 = .ok (.lmul, 1) := by decide +kernel
theorem dX3_coinWeight_35 : decode cX3_coinWeight 35 = .ok (.lstore_n 3, 1) := by decide +kernel
theorem dX3_coinWeight_36 : decode cX3_coinWeight 36 = .ok (.iinc 5 1, 3) := by decide +kernel
theorem dX3_coinWeight_39 : decode cX3_coinWeight 39 = .ok (.goto (-34), 3) := by decide +kernel
theorem dX3_coinWeight_42 : decode cX3_coinWeight 42 = .ok (.lload_n 3, 1) := by decide +kernel
theorem dX3_coinWeight_43 : decode cX3_coinWeight 43 = .ok (.lreturn, 1) := by decide +kernel
theorem dX3_weightOfAll_0 : decode cX3_weightOfAll 0 = .ok (.lconst 1, 1) := by decide +kernel
theorem dX3_weightOfAll_1 : decode cX3_weightOfAll 1 = .ok (.lstore_n 1, 1) := by decide +kernel
theorem dX3_weightOfAll_2 : decode cX3_weightOfAll 2 = .ok (.iconst 0, 1) := by decide +kernel
theorem dX3_weightOfAll_3 : decode cX3_weightOfAll 3 = .ok (.istore_n 3, 1) := by decide +kernel
theorem dX3_weightOfAll_4 : decode cX3_weightOfAll 4 = .ok (.iload_n 3, 1) := by decide +kernel
theorem dX3_weightOfAll_5 : decode cX3_weightOfAll 5 = .ok (.aload_n 0, 1) := by decide +kernel
theorem dX3_weightOfAll_6 : decode cX3_weightOfAll 6 = .ok (.getfield 18, 3) := by decide +kernel
theorem dX3_weightOfAll_9 : decode cX3_weightOfAll 9 = .ok (.if_icmp .ge 15, 3) := by decide +kernel
theorem dX3_weightOfAll_12 : decode cX3_weightOfAll 12 = .ok (.lload_n 1, 1) := by decide +kernel
theorem dX3_weightOfAll_13 : decode cX3_weightOfAll 13 = .ok (.ldc2_w 46, 3) := by decide +kernel
theorem dX3_weightOfAll_16 : decode cX3_weightOfAll 16 = .ok (.lmul, 1) := by decide +kernel
theorem dX3_weightOfAll_17 : decode cX3_weightOfAll 17 = .ok (.lstore_n 1, 1) := by decide +kernel
theorem dX3_weightOfAll_18 : decode cX3_weightOfAll 18 = .ok (.iinc 3 1, 3) := by decide +kernel
theorem dX3_weightOfAll_21 : decode cX3_weightOfAll 21 = .ok (.goto (-17), 3) := by decide +kernel
theorem dX3_weightOfAll_24 : decode cX3_weightOfAll 24 = .ok (.lload_n 1, 1) := by decide +kernel
theorem dX3_weightOfAll_25 : decode cX3_weightOfAll 25 = .ok (.lreturn, 1) := by decide +kernel
theorem dX4_init_0 : decode cX4_init 0 = .ok (.aload_n 0, 1) := by decide +kernel
theorem dX4_init_1 : decode cX4_init 1 = .ok (.invokespecial 3, 3) := by decide +kernel
theorem dX4_init_4 : decode cX4_init 4 = .ok (.aload_n 0, 1) := by decide +kernel
theorem dX4_init_5 : decode cX4_init 5 = .ok (.bipush 60, 2) := by decide +kernel
theorem dX4_init_7 : decode cX4_init 7 = .ok (.newarray .int, 2) := by decide +kernel
theorem dX4_init_9 : decode cX4_init 9 = .ok (.putfield 9, 3) := by decide +kernel
theorem dX4_init_12 : decode cX4_init 12 = .ok (.aload_n 0, 1) := by decide +kernel
theorem dX4_init_13 : decode cX4_init 13 = .ok (.iconst 0, 1) := by decide +kernel
theorem dX4_init_14 : decode cX4_init 14 = .ok (.putfield 15, 3) := by decide +kernel
theorem dX4_init_17 : decode cX4_init 17 = .ok (.return_, 1) := by decide +kernel
theorem dX4_write_0 : decode cX4_write 0 = .ok (.aload_n 0, 1) := by decide +kernel
theorem dX4_write_1 : decode cX4_write 1 = .ok (.getfield 15, 3) := by decide +kernel
theorem dX4_write_4 : decode cX4_write 4 = .ok (.ifCond .lt 12, 3) := by decide +kernel
theorem dX4_write_7 : decode cX4_write 7 = .ok (.aload_n 0, 1) := by decide +kernel
theorem dX4_write_8 : decode cX4_write 8 = .ok (.getfield 15, 3) := by decide +kernel
theorem dX4_write_11 : decode cX4_write 11 = .ok (.bipush 60, 2) := by decide +kernel
theorem dX4_write_13 : decode cX4_write 13 = .ok (.if_icmp .lt 5, 3) := by decide +kernel
theorem dX4_write_16 : decode cX4_write 16 = .ok (.iconst 0, 1) := by decide +kernel
theorem dX4_write_17 : decode cX4_write 17 = .ok (.ireturn, 1) := by decide +kernel
theorem dX4_write_18 : decode cX4_write 18 = .ok (.aload_n 0, 1) := by decide +kernel
theorem dX4_write_19 : decode cX4_write 19 = .ok (.getfield 9, 3) := by decide +kernel
theorem dX4_write_22 : decode cX4_write 22 = .ok (.aload_n 0, 1) := by decide +kernel
theorem dX4_write_23 : decode cX4_write 23 = .ok (.getfield 15, 3) := by decide +kernel
theorem dX4_write_26 : decode cX4_write 26 = .ok (.iload_n 1, 1) := by decide +kernel
theorem dX4_write_27 : decode cX4_write 27 = .ok (.iastore, 1) := by decide +kernel
theorem dX4_write_28 : decode cX4_write 28 = .ok (.aload_n 0, 1) := by decide +kernel
theorem dX4_write_29 : decode cX4_write 29 = .ok (.dup, 1) := by decide +kernel
theorem dX4_write_30 : decode cX4_write 30 = .ok (.getfield 15, 3) := by decide +kernel
theorem dX4_write_33 : decode cX4_write 33 = .ok (.iconst 1, 1) := by decide +kernel
theorem dX4_write_34 : decode cX4_write 34 = .ok (.iadd, 1) := by decide +kernel
theorem dX4_write_35 : decode cX4_write 35 = .ok (.putfield 15, 3) := by decide +kernel
theorem dX4_write_38 : decode cX4_write 38 = .ok (.iconst 1, 1) := by decide +kernel
theorem dX4_write_39 : decode cX4_write 39 = .ok (.ireturn, 1) := by decide +kernel
theorem dX4_signAt_0 : decode cX4_signAt 0 = .ok (.iload_n 1, 1) := by decide +kernel
theorem dX4_signAt_1 : decode cX4_signAt 1 = .ok (.ifCond .lt 26, 3) := by decide +kernel
theorem dX4_signAt_4 : decode cX4_signAt 4 = .ok (.iload_n 1, 1) := by decide +kernel
theorem dX4_signAt_5 : decode cX4_signAt 5 = .ok (.aload_n 0, 1) := by decide +kernel
theorem dX4_signAt_6 : decode cX4_signAt 6 = .ok (.getfield 15, 3) := by decide +kernel
theorem dX4_signAt_9 : decode cX4_signAt 9 = .ok (.if_icmp .ge 18, 3) := by decide +kernel
theorem dX4_signAt_12 : decode cX4_signAt 12 = .ok (.iload_n 1, 1) := by decide +kernel
theorem dX4_signAt_13 : decode cX4_signAt 13 = .ok (.bipush 60, 2) := by decide +kernel
theorem dX4_signAt_15 : decode cX4_signAt 15 = .ok (.if_icmp .ge 12, 3) := by decide +kernel
theorem dX4_signAt_18 : decode cX4_signAt 18 = .ok (.aload_n 0, 1) := by decide +kernel
theorem dX4_signAt_19 : decode cX4_signAt 19 = .ok (.getfield 9, 3) := by decide +kernel
theorem dX4_signAt_22 : decode cX4_signAt 22 = .ok (.iload_n 1, 1) := by decide +kernel
theorem dX4_signAt_23 : decode cX4_signAt 23 = .ok (.iaload, 1) := by decide +kernel
theorem dX4_signAt_24 : decode cX4_signAt 24 = .ok (.goto 4, 3) := by decide +kernel
theorem dX4_signAt_27 : decode cX4_signAt 27 = .ok (.iconst 0, 1) := by decide +kernel
theorem dX4_signAt_28 : decode cX4_signAt 28 = .ok (.ireturn, 1) := by decide +kernel
set_option maxRecDepth 20000 in
theorem ggX4_firstFault_X4_signAt : GoodIn wsX4_firstFault wsX4_signAt := goodIn_r _ [6, 1, 7, 11, 12] (by decide +kernel) (by decide +kernel)
set_option maxRecDepth 20000 in
theorem gX4_firstFault_X4_signAt : GoodIn wsX4_firstFault (wsV RX4 19 RX4 yX4_signAt wsX4_signAt) := goodIn_app (goodIn_of _ (by decide +kernel)) ggX4_firstFault_X4_signAt
set_option maxRecDepth 20000 in
theorem ggX4_firstFault_X4_stateBehind : GoodIn wsX4_firstFault wsX4_stateBehind := goodIn_r _ [10] (by decide +kernel) (by decide +kernel)
set_option maxRecDepth 20000 in
theorem gX4_firstFault_X4_stateBehind : GoodIn wsX4_firstFault (va_wsS RX4 23 yX4_stateBehind wsX4_stateBehind) := goodIn_app (goodIn_of _ (by decide +kernel)) ggX4_firstFault_X4_stateBehind
theorem dX4_firstFault_0 : decode cX4_firstFault 0 = .ok (.iconst 0, 1) := by decide +kernel
theorem dX4_firstFault_1 : decode cX4_firstFault 1 = .ok (.istore_n 1, 1) := by decide +kernel
theorem dX4_firstFault_2 : decode cX4_firstFault 2 = .ok (.iconst 0, 1) := by decide +kernel
theorem dX4_firstFault_3 : decode cX4_firstFault 3 = .ok (.istore_n 2, 1) := by decide +kernel
theorem dX4_firstFault_4 : decode cX4_firstFault 4 = .ok (.iload_n 2, 1) := by decide +kernel
theorem dX4_firstFault_5 : decode cX4_firstFault 5 = .ok (.aload_n 0, 1) := by decide +kernel
theorem dX4_firstFault_6 : decode cX4_firstFault 6 = .ok (.getfield 15, 3) := by decide +kernel
theorem dX4_firstFault_9 : decode cX4_firstFault 9 = .ok (.if_icmp .ge 26, 3) := by decide +kernel
theorem dX4_firstFault_12 : decode cX4_firstFault 12 = .ok (.iload_n 1, 1) := by decide +kernel
theorem dX4_firstFault_13 : decode cX4_firstFault 13 = .ok (.aload_n 0, 1) := by decide +kernel
theorem dX4_firstFault_14 : decode cX4_firstFault 14 = .ok (.iload_n 2, 1) := by decide +kernel
theorem dX4_firstFault_15 : decode cX4_firstFault 15 = .ok (.invokevirtual 19, 3) := by decide +kernel
theorem dX4_firstFault_18 : decode cX4_firstFault 18 = .ok (.invokestatic 23, 3) := by decide +kernel
theorem dX4_firstFault_21 : decode cX4_firstFault 21 = .ok (.istore_n 1, 1) := by decide +kernel
theorem dX4_firstFault_22 : decode cX4_firstFault 22 = .ok (.iload_n 1, 1) := by decide +kernel
theorem dX4_firstFault_23 : decode cX4_firstFault 23 = .ok (.iconst 3, 1) := by decide +kernel
theorem dX4_firstFault_24 : decode cX4_firstFault 24 = .ok (.if_icmp .ne 5, 3) := by decide +kernel
theorem dX4_firstFault_27 : decode cX4_firstFault 27 = .ok (.iload_n 2, 1) := by decide +kernel
theorem dX4_firstFault_28 : decode cX4_firstFault 28 = .ok (.ireturn, 1) := by decide +kernel
theorem dX4_firstFault_29 : decode cX4_firstFault 29 = .ok (.iinc 2 1, 3) := by decide +kernel
theorem dX4_firstFault_32 : decode cX4_firstFault 32 = .ok (.goto (-28), 3) := by decide +kernel
theorem dX4_firstFault_35 : decode cX4_firstFault 35 = .ok (.iload_n 1, 1) := by decide +kernel
theorem dX4_firstFault_36 : decode cX4_firstFault 36 = .ok (.ifCond .ne 8, 3) := by decide +kernel
theorem dX4_firstFault_39 : decode cX4_firstFault 39 = .ok (.bipush (-6), 2) := by decide +kernel
theorem dX4_firstFault_41 : decode cX4_firstFault 41 = .ok (.goto 7, 3) := by decide +kernel
theorem dX4_firstFault_44 : decode cX4_firstFault 44 = .ok (.aload_n 0, 1) := by decide +kernel
theorem dX4_firstFault_45 : decode cX4_firstFault 45 = .ok (.getfield 15, 3) := by decide +kernel
theorem dX4_firstFault_48 : decode cX4_firstFault 48 = .ok (.ireturn, 1) := by decide +kernel
theorem dX4_stateBehind_0 : decode cX4_stateBehind 0 = .ok (.iload_n 1, 1) := by decide +kernel
theorem dX4_stateBehind_1 : decode cX4_stateBehind 1 = .ok (.bipush 65, 2) := by decide +kernel
theorem dX4_stateBehind_3 : decode cX4_stateBehind 3 = .ok (.if_icmp .lt 13, 3) := by decide +kernel
theorem dX4_stateBehind_6 : decode cX4_stateBehind 6 = .ok (.iload_n 1, 1) := by decide +kernel
theorem dX4_stateBehind_7 : decode cX4_stateBehind 7 = .ok (.bipush 72, 2) := by decide +kernel
theorem dX4_stateBehind_9 : decode cX4_stateBehind 9 = .ok (.if_icmp .ge 7, 3) := by decide +kernel
theorem dX4_stateBehind_12 : decode cX4_stateBehind 12 = .ok (.iconst 1, 1) := by decide +kernel
theorem dX4_stateBehind_13 : decode cX4_stateBehind 13 = .ok (.goto 4, 3) := by decide +kernel
theorem dX4_stateBehind_16 : decode cX4_stateBehind 16 = .ok (.iconst 0, 1) := by decide +kernel
theorem dX4_stateBehind_17 : decode cX4_stateBehind 17 = .ok (.istore_n 2, 1) := by decide +kernel
theorem dX4_stateBehind_18 : decode cX4_stateBehind 18 = .ok (.iload_n 0, 1) := by decide +kernel
theorem dX4_stateBehind_19 : decode cX4_stateBehind 19 = .ok (.iconst 2, 1) := by decide +kernel
theorem dX4_stateBehind_20 : decode cX4_stateBehind 20 = .ok (.if_icmp .ne 13, 3) := by decide +kernel
theorem dX4_stateBehind_23 : decode cX4_stateBehind 23 = .ok (.iload_n 2, 1) := by decide +kernel
theorem dX4_stateBehind_24 : decode cX4_stateBehind 24 = .ok (.ifCond .eq 7, 3) := by decide +kernel
theorem dX4_stateBehind_27 : decode cX4_stateBehind 27 = .ok (.iconst 0, 1) := by decide +kernel
theorem dX4_stateBehind_28 : decode cX4_stateBehind 28 = .ok (.goto 4, 3) := by decide +kernel
theorem dX4_stateBehind_31 : decode cX4_stateBehind 31 = .ok (.iconst 3, 1) := by decide +kernel
theorem dX4_stateBehind_32 : decode cX4_stateBehind 32 = .ok (.ireturn, 1) := by decide +kernel
theorem dX4_stateBehind_33 : decode cX4_stateBehind 33 = .ok (.iload_n 0, 1) := by decide +kernel
theorem dX4_stateBehind_34 : decode cX4_stateBehind 34 = .ok (.ifCond .ne 21, 3) := by decide +kernel
theorem dX4_stateBehind_37 : decode cX4_stateBehind 37 = .ok (.iload_n 1, 1) := by decide +kernel
theorem dX4_stateBehind_38 : decode cX4_stateBehind 38 = .ok (.bipush 46, 2) := by decide +kernel
theorem dX4_stateBehind_40 : decode cX4_stateBehind 40 = .ok (.if_icmp .ne 5, 3) := by decide +kernel
theorem dX4_stateBehind_43 : decode cX4_stateBehind 43 = .ok (.iconst 0, 1) := by decide +kernel
theorem dX4_stateBehind_44 : decode cX4_stateBehind 44 = .ok (.ireturn, 1) := by decide +kernel
theorem dX4_stateBehind_45 : decode cX4_stateBehind 45 = .ok (.iload_n 2, 1) := by decide +kernel
theorem dX4_stateBehind_46 : decode cX4_stateBehind 46 = .ok (.ifCond .eq 7, 3) := by decide +kernel
theorem dX4_stateBehind_49 : decode cX4_stateBehind 49 = .ok (.iconst 1, 1) := by decide +kernel
theorem dX4_stateBehind_50 : decode cX4_stateBehind 50 = .ok (.goto 4, 3) := by decide +kernel
theorem dX4_stateBehind_53 : decode cX4_stateBehind 53 = .ok (.iconst 3, 1) := by decide +kernel
theorem dX4_stateBehind_54 : decode cX4_stateBehind 54 = .ok (.ireturn, 1) := by decide +kernel
theorem dX4_stateBehind_55 : decode cX4_stateBehind 55 = .ok (.iload_n 1, 1) := by decide +kernel
theorem dX4_stateBehind_56 : decode cX4_stateBehind 56 = .ok (.bipush 62, 2) := by decide +kernel
theorem dX4_stateBehind_58 : decode cX4_stateBehind 58 = .ok (.if_icmp .ne 5, 3) := by decide +kernel
theorem dX4_stateBehind_61 : decode cX4_stateBehind 61 = .ok (.iconst 2, 1) := by decide +kernel
theorem dX4_stateBehind_62 : decode cX4_stateBehind 62 = .ok (.ireturn, 1) := by decide +kernel
theorem dX4_stateBehind_63 : decode cX4_stateBehind 63 = .ok (.iload_n 1, 1) := by decide +kernel
theorem dX4_stateBehind_64 : decode cX4_stateBehind 64 = .ok (.bipush 43, 2) := by decide +kernel
theorem dX4_stateBehind_66 : decode cX4_stateBehind 66 = .ok (.if_icmp .eq 9, 3) := by decide +kernel
theorem dX4_stateBehind_69 : decode cX4_stateBehind 69 = .ok (.iload_n 1, 1) := by decide +kernel
theorem dX4_stateBehind_70 : decode cX4_stateBehind 70 = .ok (.bipush 42, 2) := by decide +kernel
theorem dX4_stateBehind_72 : decode cX4_stateBehind 72 = .ok (.if_icmp .ne 5, 3) := by decide +kernel
theorem dX4_stateBehind_75 : decode cX4_stateBehind 75 = .ok (.iconst 0, 1) := by decide +kernel
theorem dX4_stateBehind_76 : decode cX4_stateBehind 76 = .ok (.ireturn, 1) := by decide +kernel
theorem dX4_stateBehind_77 : decode cX4_stateBehind 77 = .ok (.iload_n 1, 1) := by decide +kernel
theorem dX4_stateBehind_78 : decode cX4_stateBehind 78 = .ok (.bipush 97, 2) := by decide +kernel
theorem dX4_stateBehind_80 : decode cX4_stateBehind 80 = .ok (.if_icmp .lt 13, 3) := by decide +kernel
theorem dX4_stateBehind_83 : decode cX4_stateBehind 83 = .ok (.iload_n 1, 1) := by decide +kernel
theorem dX4_stateBehind_84 : decode cX4_stateBehind 84 = .ok (.bipush 109, 2) := by decide +kernel
theorem dX4_stateBehind_86 : decode cX4_stateBehind 86 = .ok (.if_icmp .ge 7, 3) := by decide +kernel
theorem dX4_stateBehind_89 : decode cX4_stateBehind 89 = .ok (.iconst 0, 1) := by decide +kernel
theorem dX4_stateBehind_90 : decode cX4_stateBehind 90 = .ok (.goto 4, 3) := by decide +kernel
theorem dX4_stateBehind_93 : decode cX4_stateBehind 93 = .ok (.iconst 3, 1) := by decide +kernel
theorem dX4_stateBehind_94 : decode cX4_stateBehind 94 = .ok (.ireturn, 1) := by decide +kernel
set_option maxRecDepth 20000 in
theorem ggX4_kindAt_X4_signAt : GoodIn wsX4_kindAt wsX4_signAt := goodIn_r _ [5, 6, 7, 8, 9] (by decide +kernel) (by decide +kernel)
set_option maxRecDepth 20000 in
theorem gX4_kindAt_X4_signAt : GoodIn wsX4_kindAt (wsV RX4 19 RX4 yX4_signAt wsX4_signAt) := goodIn_app (goodIn_of _ (by decide +kernel)) ggX4_kindAt_X4_signAt
theorem dX4_kindAt_0 : decode cX4_kindAt 0 = .ok (.aload_n 0, 1) := by decide +kernel
theorem dX4_kindAt_1 : decode cX4_kindAt 1 = .ok (.iload_n 1, 1) := by decide +kernel
theorem dX4_kindAt_2 : decode cX4_kindAt 2 = .ok (.invokevirtual 19, 3) := by decide +kernel
theorem dX4_kindAt_5 : decode cX4_kindAt 5 = .ok (.bipush 46, 2) := by decide +kernel
theorem dX4_kindAt_7 : decode cX4_kindAt 7 = .ok (.if_icmp .ne 5, 3) := by decide +kernel
theorem dX4_kindAt_10 : decode cX4_kindAt 10 = .ok (.iconst 4, 1) := by decide +kernel
theorem dX4_kindAt_11 : decode cX4_kindAt 11 = .ok (.ireturn, 1) := by decide +kernel
theorem dX4_kindAt_12 : decode cX4_kindAt 12 = .ok (.aload_n 0, 1) := by decide +kernel
theorem dX4_kindAt_13 : decode cX4_kindAt 13 = .ok (.iload_n 1, 1) := by decide +kernel
theorem dX4_kindAt_14 : decode cX4_kindAt 14 = .ok (.iconst 1, 1) := by decide +kernel
theorem dX4_kindAt_15 : decode cX4_kindAt 15 = .ok (.iadd, 1) := by decide +kernel
theorem dX4_kindAt_16 : decode cX4_kindAt 16 = .ok (.invokevirtual 19, 3) := by decide +kernel
theorem dX4_kindAt_19 : decode cX4_kindAt 19 = .ok (.lookupswitch 39 #[(42, 37), (43, 35), (62, 33)], 33) := by decide +kernel
theorem dX4_kindAt_52 : decode cX4_kindAt 52 = .ok (.iconst 1, 1) := by decide +kernel
theorem dX4_kindAt_53 : decode cX4_kindAt 53 = .ok (.ireturn, 1) := by decide +kernel
theorem dX4_kindAt_54 : decode cX4_kindAt 54 = .ok (.iconst 2, 1) := by decide +kernel
theorem dX4_kindAt_55 : decode cX4_kindAt 55 = .ok (.ireturn, 1) := by decide +kernel
theorem dX4_kindAt_56 : decode cX4_kindAt 56 = .ok (.iconst 3, 1) := by decide +kernel
theorem dX4_kindAt_57 : decode cX4_kindAt 57 = .ok (.ireturn, 1) := by decide +kernel
theorem dX4_kindAt_58 : decode cX4_kindAt 58 = .ok (.iconst 0, 1) := by decide +kernel
theorem dX4_kindAt_59 : decode cX4_kindAt 59 = .ok (.ireturn, 1) := by decide +kernel
set_option maxRecDepth 20000 in
theorem ggX4_whoAt_X4_signAt : GoodIn wsX4_whoAt wsX4_signAt := goodIn_r _ [5, 6, 7, 8, 9] (by decide +kernel) (by decide +kernel)
set_option maxRecDepth 20000 in
theorem gX4_whoAt_X4_signAt : GoodIn wsX4_whoAt (wsV RX4 19 RX4 yX4_signAt wsX4_signAt) := goodIn_app (goodIn_of _ (by decide +kernel)) ggX4_whoAt_X4_signAt
theorem dX4_whoAt_0 : decode cX4_whoAt 0 = .ok (.aload_n 0, 1) := by decide +kernel
theorem dX4_whoAt_1 : decode cX4_whoAt 1 = .ok (.iload_n 1, 1) := by decide +kernel
theorem dX4_whoAt_2 : decode cX4_whoAt 2 = .ok (.invokevirtual 19, 3) := by decide +kernel
theorem dX4_whoAt_5 : decode cX4_whoAt 5 = .ok (.bipush 65, 2) := by decide +kernel
theorem dX4_whoAt_7 : decode cX4_whoAt 7 = .ok (.isub, 1) := by decide +kernel
theorem dX4_whoAt_8 : decode cX4_whoAt 8 = .ok (.ireturn, 1) := by decide +kernel
set_option maxRecDepth 20000 in
theorem ggX4_aimAt_X4_kindAt : GoodIn wsX4_aimAt wsX4_kindAt := goodIn_r _ [5, 6, 7, 8, 4, 9, 10, 11, 12, 13] (by decide +kernel) (by decide +kernel)
set_option maxRecDepth 20000 in
theorem gX4_aimAt_X4_kindAt : GoodIn wsX4_aimAt (wsV RX4 27 RX4 yX4_kindAt wsX4_kindAt) := goodIn_app (goodIn_of _ (by decide +kernel)) ggX4_aimAt_X4_kindAt
set_option maxRecDepth 20000 in
theorem ggX4_aimAt_X4_signAt : GoodIn wsX4_aimAt wsX4_signAt := goodIn_r _ [9, 10, 11, 12, 13] (by decide +kernel) (by decide +kernel)
set_option maxRecDepth 20000 in
theorem gX4_aimAt_X4_signAt : GoodIn wsX4_aimAt (wsV RX4 19 RX4 yX4_signAt wsX4_signAt) := goodIn_app (goodIn_of _ (by decide +kernel)) ggX4_aimAt_X4_signAt
theorem dX4_aimAt_0 : decode cX4_aimAt 0 = .ok (.aload_n 0, 1) := by decide +kernel
theorem dX4_aimAt_1 : decode cX4_aimAt 1 = .ok (.iload_n 1, 1) := by decide +kernel
theorem dX4_aimAt_2 : decode cX4_aimAt 2 = .ok (.invokevirtual 27, 3) := by decide +kernel
theorem dX4_aimAt_5 : decode cX4_aimAt 5 = .ok (.iconst 1, 1) := by decide +kernel
theorem dX4_aimAt_6 : decode cX4_aimAt 6 = .ok (.if_icmp .ne 16, 3) := by decide +kernel
theorem dX4_aimAt_9 : decode cX4_aimAt 9 = .ok (.aload_n 0, 1) := by decide +kernel
theorem dX4_aimAt_10 : decode cX4_aimAt 10 = .ok (.iload_n 1, 1) := by decide +kernel
theorem dX4_aimAt_11 : decode cX4_aimAt 11 = .ok (.iconst 2, 1) := by decide +kernel
theorem dX4_aimAt_12 : decode cX4_aimAt 12 = .ok (.iadd, 1) := by decide +kernel
theorem dX4_aimAt_13 : decode cX4_aimAt 13 = .ok (.invokevirtual 19, 3) := by decide +kernel
theorem dX4_aimAt_16 : decode cX4_aimAt 16 = .ok (.bipush 65, 2) := by decide +kernel
theorem dX4_aimAt_18 : decode cX4_aimAt 18 = .ok (.isub, 1) := by decide +kernel
theorem dX4_aimAt_19 : decode cX4_aimAt 19 = .ok (.goto 13, 3) := by decide +kernel
theorem dX4_aimAt_22 : decode cX4_aimAt 22 = .ok (.aload_n 0, 1) := by decide +kernel
theorem dX4_aimAt_23 : decode cX4_aimAt 23 = .ok (.iload_n 1, 1) := by decide +kernel
theorem dX4_aimAt_24 : decode cX4_aimAt 24 = .ok (.iconst 1, 1) := by decide +kernel
theorem dX4_aimAt_25 : decode cX4_aimAt 25 = .ok (.iadd, 1) := by decide +kernel
theorem dX4_aimAt_26 : decode cX4_aimAt 26 = .ok (.invokevirtual 19, 3) := by decide +kernel
theorem dX4_aimAt_29 : decode cX4_aimAt 29 = .ok (.bipush 97, 2) := by decide +kernel
theorem dX4_aimAt_31 : decode cX4_aimAt 31 = .ok (.isub, 1) := by decide +kernel
theorem dX4_aimAt_32 : decode cX4_aimAt 32 = .ok (.ireturn, 1) := by decide +kernel
set_option maxRecDepth 20000 in
theorem ggX4_lengthAt_X4_kindAt : GoodIn wsX4_lengthAt wsX4_kindAt := goodIn_r _ [5, 6, 7, 8, 4, 9, 10, 11, 12, 13] (by decide +kernel) (by decide +kernel)
set_option maxRecDepth 20000 in
theorem gX4_lengthAt_X4_kindAt : GoodIn wsX4_lengthAt (wsV RX4 27 RX4 yX4_kindAt wsX4_kindAt) := goodIn_app (goodIn_of _ (by decide +kernel)) ggX4_lengthAt_X4_kindAt
theorem dX4_lengthAt_0 : decode cX4_lengthAt 0 = .ok (.aload_n 0, 1) := by decide +kernel
theorem dX4_lengthAt_1 : decode cX4_lengthAt 1 = .ok (.iload_n 1, 1) := by decide +kernel
theorem dX4_lengthAt_2 : decode cX4_lengthAt 2 = .ok (.invokevirtual 27, 3) := by decide +kernel
theorem dX4_lengthAt_5 : decode cX4_lengthAt 5 = .ok (.istore_n 2, 1) := by decide +kernel
theorem dX4_lengthAt_6 : decode cX4_lengthAt 6 = .ok (.iload_n 2, 1) := by decide +kernel
theorem dX4_lengthAt_7 : decode cX4_lengthAt 7 = .ok (.iconst 4, 1) := by decide +kernel
theorem dX4_lengthAt_8 : decode cX4_lengthAt 8 = .ok (.if_icmp .ne 5, 3) := by decide +kernel
theorem dX4_lengthAt_11 : decode cX4_lengthAt 11 = .ok (.iconst 1, 1) := by decide +kernel
theorem dX4_lengthAt_12 : decode cX4_lengthAt 12 = .ok (.ireturn, 1) := by decide +kernel
theorem dX4_lengthAt_13 : decode cX4_lengthAt 13 = .ok (.iload_n 2, 1) := by decide +kernel
theorem dX4_lengthAt_14 : decode cX4_lengthAt 14 = .ok (.iconst 1, 1) := by decide +kernel
theorem dX4_lengthAt_15 : decode cX4_lengthAt 15 = .ok (.if_icmp .ne 7, 3) := by decide +kernel
theorem dX4_lengthAt_18 : decode cX4_lengthAt 18 = .ok (.iconst 3, 1) := by decide +kernel
theorem dX4_lengthAt_19 : decode cX4_lengthAt 19 = .ok (.goto 4, 3) := by decide +kernel
theorem dX4_lengthAt_22 : decode cX4_lengthAt 22 = .ok (.iconst 2, 1) := by decide +kernel
theorem dX4_lengthAt_23 : decode cX4_lengthAt 23 = .ok (.ireturn, 1) := by decide +kernel
set_option maxRecDepth 20000 in
theorem ggX5_init_X2_init : GoodIn wsX5_init wsX2_init := goodIn_r _ [21, 22, 2, 3, 23, 24, 25, 52, 53] (by decide +kernel) (by decide +kernel)
set_option maxRecDepth 20000 in
theorem gX5_init_X2_init_n9 : GoodIn wsX5_init (wsX2_init) := ggX5_init_X2_init
set_option maxRecDepth 20000 in
theorem ggX5_init_X1_init : GoodIn wsX5_init wsX1_init := goodIn_r _ [27, 28, 2, 3, 23, 29, 30, 31, 32, 33, 34, 35, 36, 58, 59, 60, 61, 62, 63, 64, 65] (by decide +kernel) (by decide +kernel)
set_option maxRecDepth 20000 in
theorem gX5_init_X1_init_n18 : GoodIn wsX5_init (wsX1_init) := ggX5_init_X1_init
set_option maxRecDepth 20000 in
theorem ggX5_init_X3_init : GoodIn wsX5_init wsX3_init := goodIn_r _ [38, 39, 2, 3, 23, 40, 41, 42, 43, 44, 66, 67, 68, 69, 70] (by decide +kernel) (by decide +kernel)
set_option maxRecDepth 20000 in
theorem gX5_init_X3_init_n25 : GoodIn wsX5_init (wsX3_init) := ggX5_init_X3_init
set_option maxRecDepth 20000 in
theorem ggX5_init_X7_init : GoodIn wsX5_init wsX7_init := goodIn_r _ [46, 47, 2, 3, 23, 48, 49, 50, 51, 71, 72, 73, 74] (by decide +kernel) (by decide +kernel)
set_option maxRecDepth 20000 in
theorem gX5_init_X7_init_n32 : GoodIn wsX5_init (wsX7_init) := ggX5_init_X7_init
theorem dX5_init_0 : decode cX5_init 0 = .ok (.aload_n 0, 1) := by decide +kernel
theorem dX5_init_1 : decode cX5_init 1 = .ok (.invokespecial 1, 3) := by decide +kernel
theorem dX5_init_4 : decode cX5_init 4 = .ok (.aload_n 0, 1) := by decide +kernel
theorem dX5_init_5 : decode cX5_init 5 = .ok (.new 7, 3) := by decide +kernel
theorem dX5_init_8 : decode cX5_init 8 = .ok (.dup, 1) := by decide +kernel
theorem dX5_init_9 : decode cX5_init 9 = .ok (.invokespecial 9, 3) := by decide +kernel
theorem dX5_init_12 : decode cX5_init 12 = .ok (.putfield 10, 3) := by decide +kernel
theorem dX5_init_15 : decode cX5_init 15 = .ok (.aload_n 0, 1) := by decide +kernel
theorem dX5_init_16 : decode cX5_init 16 = .ok (.new 16, 3) := by decide +kernel
theorem dX5_init_19 : decode cX5_init 19 = .ok (.dup, 1) := by decide +kernel
theorem dX5_init_20 : decode cX5_init 20 = .ok (.invokespecial 18, 3) := by decide +kernel
theorem dX5_init_23 : decode cX5_init 23 = .ok (.putfield 19, 3) := by decide +kernel
theorem dX5_init_26 : decode cX5_init 26 = .ok (.aload_n 0, 1) := by decide +kernel
theorem dX5_init_27 : decode cX5_init 27 = .ok (.new 23, 3) := by decide +kernel
theorem dX5_init_30 : decode cX5_init 30 = .ok (.dup, 1) := by decide +kernel
theorem dX5_init_31 : decode cX5_init 31 = .ok (.invokespecial 25, 3) := by decide +kernel
theorem dX5_init_34 : decode cX5_init 34 = .ok (.putfield 26, 3) := by decide +kernel
theorem dX5_init_37 : decode cX5_init 37 = .ok (.aload_n 0, 1) := by decide +kernel
theorem dX5_init_38 : decode cX5_init 38 = .ok (.new 30, 3) := by decide +kernel
theorem dX5_init_41 : decode cX5_init 41 = .ok (.dup, 1) := by decide +kernel
theorem dX5_init_42 : decode cX5_init 42 = .ok (.invokespecial 32, 3) := by decide +kernel
theorem dX5_init_45 : decode cX5_init 45 = .ok (.putfield 33, 3) := by decide +kernel
theorem dX5_init_48 : decode cX5_init 48 = .ok (.return_, 1) := by decide +kernel
set_option maxRecDepth 20000 in
theorem ggX5_copy_X2_copy : GoodIn wsX5_copy wsX2_copy := goodIn_r _ [9, 10, 11, 12, 13, 14, 15, 53, 54] (by decide +kernel) (by decide +kernel)
set_option maxRecDepth 20000 in
theorem gX5_copy_X2_copy : GoodIn wsX5_copy (wsV RX5 37 RX2 yX2_copy wsX2_copy) := goodIn_app (goodIn_of _ (by decide +kernel)) ggX5_copy_X2_copy
set_option maxRecDepth 20000 in
theorem ggX5_copy_X1_copy : GoodIn wsX5_copy wsX1_copy := goodIn_r _ [20, 21, 22, 12, 13, 14, 23, 24, 25, 26, 27, 28, 29, 55, 56, 57, 58, 59, 60, 61, 62] (by decide +kernel) (by decide +kernel)
set_option maxRecDepth 20000 in
theorem gX5_copy_X1_copy : GoodIn wsX5_copy (wsV RX5 41 RX1 yX1_copy wsX1_copy) := goodIn_app (goodIn_of _ (by decide +kernel)) ggX5_copy_X1_copy
set_option maxRecDepth 20000 in
theorem ggX5_copy_X3_copy : GoodIn wsX5_copy wsX3_copy := goodIn_r _ [34, 35, 36, 12, 13, 14, 37, 38, 63, 64, 65, 66, 67] (by decide +kernel) (by decide +kernel)
set_option maxRecDepth 20000 in
theorem gX5_copy_X3_copy : GoodIn wsX5_copy (wsV RX5 44 RX3 yX3_copy wsX3_copy) := goodIn_app (goodIn_of _ (by decide +kernel)) ggX5_copy_X3_copy
set_option maxRecDepth 20000 in
theorem ggX5_copy_X7_copy : GoodIn wsX5_copy wsX7_copy := goodIn_r _ [43, 44, 45, 12, 13, 14, 46, 47, 48, 68, 69, 70, 71] (by decide +kernel) (by decide +kernel)
set_option maxRecDepth 20000 in
theorem gX5_copy_X7_copy : GoodIn wsX5_copy (wsV RX5 47 RX7 yX7_copy wsX7_copy) := goodIn_app (goodIn_of _ (by decide +kernel)) ggX5_copy_X7_copy
theorem dX5_copy_0 : decode cX5_copy 0 = .ok (.aload_n 0, 1) := by decide +kernel
theorem dX5_copy_1 : decode cX5_copy 1 = .ok (.getfield 10, 3) := by decide +kernel
theorem dX5_copy_4 : decode cX5_copy 4 = .ok (.aload_n 1, 1) := by decide +kernel
theorem dX5_copy_5 : decode cX5_copy 5 = .ok (.getfield 10, 3) := by decide +kernel
theorem dX5_copy_8 : decode cX5_copy 8 = .ok (.invokevirtual 37, 3) := by decide +kernel
theorem dX5_copy_11 : decode cX5_copy 11 = .ok (.aload_n 0, 1) := by decide +kernel
theorem dX5_copy_12 : decode cX5_copy 12 = .ok (.getfield 19, 3) := by decide +kernel
theorem dX5_copy_15 : decode cX5_copy 15 = .ok (.aload_n 1, 1) := by decide +kernel
theorem dX5_copy_16 : decode cX5_copy 16 = .ok (.getfield 19, 3) := by decide +kernel
theorem dX5_copy_19 : decode cX5_copy 19 = .ok (.invokevirtual 41, 3) := by decide +kernel
theorem dX5_copy_22 : decode cX5_copy 22 = .ok (.aload_n 0, 1) := by decide +kernel
theorem dX5_copy_23 : decode cX5_copy 23 = .ok (.getfield 26, 3) := by decide +kernel
theorem dX5_copy_26 : decode cX5_copy 26 = .ok (.aload_n 1, 1) := by decide +kernel
theorem dX5_copy_27 : decode cX5_copy 27 = .ok (.getfield 26, 3) := by decide +kernel
theorem dX5_copy_30 : decode cX5_copy 30 = .ok (.invokevirtual 44, 3) := by decide +kernel
theorem dX5_copy_33 : decode cX5_copy 33 = .ok (.aload_n 0, 1) := by decide +kernel
theorem dX5_copy_34 : decode cX5_copy 34 = .ok (.getfield 33, 3) := by decide +kernel
theorem dX5_copy_37 : decode cX5_copy 37 = .ok (.aload_n 1, 1) := by decide +kernel
theorem dX5_copy_38 : decode cX5_copy 38 = .ok (.getfield 33, 3) := by decide +kernel
theorem dX5_copy_41 : decode cX5_copy 41 = .ok (.invokevirtual 47, 3) := by decide +kernel
theorem dX5_copy_44 : decode cX5_copy 44 = .ok (.return_, 1) := by decide +kernel
theorem dX6_init_0 : decode cX6_init 0 = .ok (.aload_n 0, 1) := by decide +kernel
theorem dX6_init_1 : decode cX6_init 1 = .ok (.invokespecial 3, 3) := by decide +kernel
theorem dX6_init_4 : decode cX6_init 4 = .ok (.aload_n 0, 1) := by decide +kernel
theorem dX6_init_5 : decode cX6_init 5 = .ok (.bipush 12, 2) := by decide +kernel
theorem dX6_init_7 : decode cX6_init 7 = .ok (.newarray .int, 2) := by decide +kernel
theorem dX6_init_9 : decode cX6_init 9 = .ok (.putfield 9, 3) := by decide +kernel
theorem dX6_init_12 : decode cX6_init 12 = .ok (.return_, 1) := by decide +kernel
set_option maxRecDepth 20000 in
theorem ggX6_fewestHomes_X2_within : GoodIn wsX6_fewestHomes wsX2_within := goodIn_r _ [6, 7, 8, 9, 5, 10, 11, 12, 13, 14, 28, 29] (by decide +kernel) (by decide +kernel)
set_option maxRecDepth 20000 in
theorem gX6_fewestHomes_X2_within : GoodIn wsX6_fewestHomes (wsV RX6 15 RX2 yX2_within wsX2_within) := goodIn_app (goodIn_of _ (by decide +kernel)) ggX6_fewestHomes_X2_within
set_option maxRecDepth 20000 in
theorem ggX6_fewestHomes_J6_bitCount_0f7a4 : GoodIn wsX6_fewestHomes wsJ6_bitCount_0f7a4 := goodIn_r _ [18, 19, 20, 21] (by decide +kernel) (by decide +kernel)
set_option maxRecDepth 20000 in
theorem gX6_fewestHomes_J6_bitCount_0f7a4 : GoodIn wsX6_fewestHomes (va_wsS RX6 21 yJ6_bitCount_0f7a4 wsJ6_bitCount_0f7a4) := goodIn_app (goodIn_of _ (by decide +kernel)) ggX6_fewestHomes_J6_bitCount_0f7a4
set_option maxRecDepth 20000 in
theorem ggX6_fewestHomes_X6_isNearAll : GoodIn wsX6_fewestHomes wsX6_isNearAll := goodIn_r _ [26, 1, 27] (by decide +kernel) (by decide +kernel)
set_option maxRecDepth 20000 in
theorem gX6_fewestHomes_X6_isNearAll : GoodIn wsX6_fewestHomes (wsV RX6 27 RX6 yX6_isNearAll wsX6_isNearAll) := goodIn_app (goodIn_of _ (by decide +kernel)) ggX6_fewestHomes_X6_isNearAll
theorem dX6_fewestHomes_0 : decode cX6_fewestHomes 0 = .ok (.iconst 0, 1) := by decide +kernel
theorem dX6_fewestHomes_1 : decode cX6_fewestHomes 1 = .ok (.istore_n 3, 1) := by decide +kernel
theorem dX6_fewestHomes_2 : decode cX6_fewestHomes 2 = .ok (.iload_n 3, 1) := by decide +kernel
theorem dX6_fewestHomes_3 : decode cX6_fewestHomes 3 = .ok (.bipush 12, 2) := by decide +kernel
theorem dX6_fewestHomes_5 : decode cX6_fewestHomes 5 = .ok (.if_icmp .ge 21, 3) := by decide +kernel
theorem dX6_fewestHomes_8 : decode cX6_fewestHomes 8 = .ok (.aload_n 0, 1) := by decide +kernel
theorem dX6_fewestHomes_9 : decode cX6_fewestHomes 9 = .ok (.getfield 9, 3) := by decide +kernel
theorem dX6_fewestHomes_12 : decode cX6_fewestHomes 12 = .ok (.iload_n 3, 1) := by decide +kernel
theorem dX6_fewestHomes_13 : decode cX6_fewestHomes 13 = .ok (.aload_n 1, 1) := by decide +kernel
theorem dX6_fewestHomes_14 : decode cX6_fewestHomes 14 = .ok (.iload_n 3, 1) := by decide +kernel
theorem dX6_fewestHomes_15 : decode cX6_fewestHomes 15 = .ok (.iload_n 2, 1) := by decide +kernel
theorem dX6_fewestHomes_16 : decode cX6_fewestHomes 16 = .ok (.invokevirtual 15, 3) := by decide +kernel
theorem dX6_fewestHomes_19 : decode cX6_fewestHomes 19 = .ok (.iastore, 1) := by decide +kernel
theorem dX6_fewestHomes_20 : decode cX6_fewestHomes 20 = .ok (.iinc 3 1, 3) := by decide +kernel
theorem dX6_fewestHomes_23 : decode cX6_fewestHomes 23 = .ok (.goto (-21), 3) := by decide +kernel
theorem dX6_fewestHomes_26 : decode cX6_fewestHomes 26 = .ok (.sipush 4095, 3) := by decide +kernel
theorem dX6_fewestHomes_29 : decode cX6_fewestHomes 29 = .ok (.istore_n 3, 1) := by decide +kernel
theorem dX6_fewestHomes_30 : decode cX6_fewestHomes 30 = .ok (.bipush 12, 2) := by decide +kernel
theorem dX6_fewestHomes_32 : decode cX6_fewestHomes 32 = .ok (.istore 4, 2) := by decide +kernel
theorem dX6_fewestHomes_34 : decode cX6_fewestHomes 34 = .ok (.iconst 1, 1) := by decide +kernel
theorem dX6_fewestHomes_35 : decode cX6_fewestHomes 35 = .ok (.istore 5, 2) := by decide +kernel
theorem dX6_fewestHomes_37 : decode cX6_fewestHomes 37 = .ok (.iload 5, 2) := by decide +kernel
theorem dX6_fewestHomes_39 : decode cX6_fewestHomes 39 = .ok (.sipush 4095, 3) := by decide +kernel
theorem dX6_fewestHomes_42 : decode cX6_fewestHomes 42 = .ok (.if_icmp .ge 38, 3) := by decide +kernel
theorem dX6_fewestHomes_45 : decode cX6_fewestHomes 45 = .ok (.iload 5, 2) := by decide +kernel
theorem dX6_fewestHomes_47 : decode cX6_fewestHomes 47 = .ok (.invokestatic 21, 3) := by decide +kernel
theorem dX6_fewestHomes_50 : decode cX6_fewestHomes 50 = .ok (.iload 4, 2) := by decide +kernel
theorem dX6_fewestHomes_52 : decode cX6_fewestHomes 52 = .ok (.if_icmp .ge 22, 3) := by decide +kernel
theorem dX6_fewestHomes_55 : decode cX6_fewestHomes 55 = .ok (.aload_n 0, 1) := by decide +kernel
theorem dX6_fewestHomes_56 : decode cX6_fewestHomes 56 = .ok (.iload 5, 2) := by decide +kernel
theorem dX6_fewestHomes_58 : decode cX6_fewestHomes 58 = .ok (.invokevirtual 27, 3) := by decide +kernel
theorem dX6_fewestHomes_61 : decode cX6_fewestHomes 61 = .ok (.ifCond .eq 13, 3) := by decide +kernel
theorem dX6_fewestHomes_64 : decode cX6_fewestHomes 64 = .ok (.iload 5, 2) := by decide +kernel
theorem dX6_fewestHomes_66 : decode cX6_fewestHomes 66 = .ok (.istore_n 3, 1) := by decide +kernel
theorem dX6_fewestHomes_67 : decode cX6_fewestHomes 67 = .ok (.iload 5, 2) := by decide +kernel
theorem dX6_fewestHomes_69 : decode cX6_fewestHomes 69 = .ok (.invokestatic 21, 3) := by decide +kernel
theorem dX6_fewestHomes_72 : decode cX6_fewestHomes 72 = .ok (.istore 4, 2) := by decide +kernel
theorem dX6_fewestHomes_74 : decode cX6_fewestHomes 74 = .ok (.iinc 5 1, 3) := by decide +kernel
theorem dX6_fewestHomes_77 : decode cX6_fewestHomes 77 = .ok (.goto (-40), 3) := by decide +kernel
theorem dX6_fewestHomes_80 : decode cX6_fewestHomes 80 = .ok (.iload_n 3, 1) := by decide +kernel
theorem dX6_fewestHomes_81 : decode cX6_fewestHomes 81 = .ok (.ireturn, 1) := by decide +kernel
theorem dX6_isNearAll_0 : decode cX6_isNearAll 0 = .ok (.iconst 0, 1) := by decide +kernel
theorem dX6_isNearAll_1 : decode cX6_isNearAll 1 = .ok (.istore_n 2, 1) := by decide +kernel
theorem dX6_isNearAll_2 : decode cX6_isNearAll 2 = .ok (.iload_n 2, 1) := by decide +kernel
theorem dX6_isNearAll_3 : decode cX6_isNearAll 3 = .ok (.bipush 12, 2) := by decide +kernel
theorem dX6_isNearAll_5 : decode cX6_isNearAll 5 = .ok (.if_icmp .ge 22, 3) := by decide +kernel
theorem dX6_isNearAll_8 : decode cX6_isNearAll 8 = .ok (.aload_n 0, 1) := by decide +kernel
theorem dX6_isNearAll_9 : decode cX6_isNearAll 9 = .ok (.getfield 9, 3) := by decide +kernel
theorem dX6_isNearAll_12 : decode cX6_isNearAll 12 = .ok (.iload_n 2, 1) := by decide +kernel
theorem dX6_isNearAll_13 : decode cX6_isNearAll 13 = .ok (.iaload, 1) := by decide +kernel
theorem dX6_isNearAll_14 : decode cX6_isNearAll 14 = .ok (.iload_n 1, 1) := by decide +kernel
theorem dX6_isNearAll_15 : decode cX6_isNearAll 15 = .ok (.iand, 1) := by decide +kernel
theorem dX6_isNearAll_16 : decode cX6_isNearAll 16 = .ok (.ifCond .ne 5, 3) := by decide +kernel
theorem dX6_isNearAll_19 : decode cX6_isNearAll 19 = .ok (.iconst 0, 1) := by decide +kernel
theorem dX6_isNearAll_20 : decode cX6_isNearAll 20 = .ok (.ireturn, 1) := by decide +kernel
theorem dX6_isNearAll_21 : decode cX6_isNearAll 21 = .ok (.iinc 2 1, 3) := by decide +kernel
theorem dX6_isNearAll_24 : decode cX6_isNearAll 24 = .ok (.goto (-22), 3) := by decide +kernel
theorem dX6_isNearAll_27 : decode cX6_isNearAll 27 = .ok (.iconst 1, 1) := by decide +kernel
theorem dX6_isNearAll_28 : decode cX6_isNearAll 28 = .ok (.ireturn, 1) := by decide +kernel
theorem dX7_init_0 : decode cX7_init 0 = .ok (.aload_n 0, 1) := by decide +kernel
theorem dX7_init_1 : decode cX7_init 1 = .ok (.invokespecial 3, 3) := by decide +kernel
theorem dX7_init_4 : decode cX7_init 4 = .ok (.aload_n 0, 1) := by decide +kernel
theorem dX7_init_5 : decode cX7_init 5 = .ok (.bipush 8, 2) := by decide +kernel
theorem dX7_init_7 : decode cX7_init 7 = .ok (.newarray .int, 2) := by decide +kernel
theorem dX7_init_9 : decode cX7_init 9 = .ok (.putfield 9, 3) := by decide +kernel
theorem dX7_init_12 : decode cX7_init 12 = .ok (.aload_n 0, 1) := by decide +kernel
theorem dX7_init_13 : decode cX7_init 13 = .ok (.bipush 8, 2) := by decide +kernel
theorem dX7_init_15 : decode cX7_init 15 = .ok (.newarray .int, 2) := by decide +kernel
theorem dX7_init_17 : decode cX7_init 17 = .ok (.putfield 15, 3) := by decide +kernel
theorem dX7_init_20 : decode cX7_init 20 = .ok (.aload_n 0, 1) := by decide +kernel
theorem dX7_init_21 : decode cX7_init 21 = .ok (.iconst 0, 1) := by decide +kernel
theorem dX7_init_22 : decode cX7_init 22 = .ok (.putfield 18, 3) := by decide +kernel
theorem dX7_init_25 : decode cX7_init 25 = .ok (.aload_n 0, 1) := by decide +kernel
theorem dX7_init_26 : decode cX7_init 26 = .ok (.iconst 0, 1) := by decide +kernel
theorem dX7_init_27 : decode cX7_init 27 = .ok (.putfield 22, 3) := by decide +kernel
theorem dX7_init_30 : decode cX7_init 30 = .ok (.return_, 1) := by decide +kernel
theorem dX7_copy_0 : decode cX7_copy 0 = .ok (.aload_n 1, 1) := by decide +kernel
theorem dX7_copy_1 : decode cX7_copy 1 = .ok (.getfield 9, 3) := by decide +kernel
theorem dX7_copy_4 : decode cX7_copy 4 = .ok (.iconst 0, 1) := by decide +kernel
theorem dX7_copy_5 : decode cX7_copy 5 = .ok (.aload_n 0, 1) := by decide +kernel
theorem dX7_copy_6 : decode cX7_copy 6 = .ok (.getfield 9, 3) := by decide +kernel
theorem dX7_copy_9 : decode cX7_copy 9 = .ok (.iconst 0, 1) := by decide +kernel
theorem dX7_copy_10 : decode cX7_copy 10 = .ok (.bipush 8, 2) := by decide +kernel
theorem dX7_copy_12 : decode cX7_copy 12 = .ok (.invokestatic 25, 3) := by decide +kernel
theorem dX7_copy_15 : decode cX7_copy 15 = .ok (.aload_n 1, 1) := by decide +kernel
theorem dX7_copy_16 : decode cX7_copy 16 = .ok (.getfield 15, 3) := by decide +kernel
theorem dX7_copy_19 : decode cX7_copy 19 = .ok (.iconst 0, 1) := by decide +kernel
theorem dX7_copy_20 : decode cX7_copy 20 = .ok (.aload_n 0, 1) := by decide +kernel
theorem dX7_copy_21 : decode cX7_copy 21 = .ok (.getfield 15, 3) := by decide +kernel
theorem dX7_copy_24 : decode cX7_copy 24 = .ok (.iconst 0, 1) := by decide +kernel
theorem dX7_copy_25 : decode cX7_copy 25 = .ok (.bipush 8, 2) := by decide +kernel
theorem dX7_copy_27 : decode cX7_copy 27 = .ok (.invokestatic 25, 3) := by decide +kernel
theorem dX7_copy_30 : decode cX7_copy 30 = .ok (.aload_n 0, 1) := by decide +kernel
theorem dX7_copy_31 : decode cX7_copy 31 = .ok (.aload_n 1, 1) := by decide +kernel
theorem dX7_copy_32 : decode cX7_copy 32 = .ok (.getfield 18, 3) := by decide +kernel
theorem dX7_copy_35 : decode cX7_copy 35 = .ok (.putfield 18, 3) := by decide +kernel
theorem dX7_copy_38 : decode cX7_copy 38 = .ok (.aload_n 0, 1) := by decide +kernel
theorem dX7_copy_39 : decode cX7_copy 39 = .ok (.aload_n 1, 1) := by decide +kernel
theorem dX7_copy_40 : decode cX7_copy 40 = .ok (.getfield 22, 3) := by decide +kernel
theorem dX7_copy_43 : decode cX7_copy 43 = .ok (.putfield 22, 3) := by decide +kernel
theorem dX7_copy_46 : decode cX7_copy 46 = .ok (.return_, 1) := by decide +kernel
set_option maxRecDepth 20000 in
theorem ggX7_add_X9_marked : GoodIn wsX7_add wsX9_marked := goodIn_r _ [7] (by decide +kernel) (by decide +kernel)
set_option maxRecDepth 20000 in
theorem gX7_add_X9_marked_n31 : GoodIn wsX7_add (wsX9_marked) := ggX7_add_X9_marked
theorem dX7_add_0 : decode cX7_add 0 = .ok (.aload_n 0, 1) := by decide +kernel
theorem dX7_add_1 : decode cX7_add 1 = .ok (.getfield 22, 3) := by decide +kernel
theorem dX7_add_4 : decode cX7_add 4 = .ok (.ifCond .lt 12, 3) := by decide +kernel
theorem dX7_add_7 : decode cX7_add 7 = .ok (.aload_n 0, 1) := by decide +kernel
theorem dX7_add_8 : decode cX7_add 8 = .ok (.getfield 22, 3) := by decide +kernel
theorem dX7_add_11 : decode cX7_add 11 = .ok (.bipush 8, 2) := by decide +kernel
theorem dX7_add_13 : decode cX7_add 13 = .ok (.if_icmp .lt 5, 3) := by decide +kernel
theorem dX7_add_16 : decode cX7_add 16 = .ok (.iconst 0, 1) := by decide +kernel
theorem dX7_add_17 : decode cX7_add 17 = .ok (.ireturn, 1) := by decide +kernel
theorem dX7_add_18 : decode cX7_add 18 = .ok (.aload_n 0, 1) := by decide +kernel
theorem dX7_add_19 : decode cX7_add 19 = .ok (.getfield 9, 3) := by decide +kernel
theorem dX7_add_22 : decode cX7_add 22 = .ok (.aload_n 0, 1) := by decide +kernel
theorem dX7_add_23 : decode cX7_add 23 = .ok (.getfield 22, 3) := by decide +kernel
theorem dX7_add_26 : decode cX7_add 26 = .ok (.iload_n 1, 1) := by decide +kernel
theorem dX7_add_27 : decode cX7_add 27 = .ok (.iastore, 1) := by decide +kernel
theorem dX7_add_28 : decode cX7_add 28 = .ok (.aload_n 0, 1) := by decide +kernel
theorem dX7_add_29 : decode cX7_add 29 = .ok (.getfield 15, 3) := by decide +kernel
theorem dX7_add_32 : decode cX7_add 32 = .ok (.aload_n 0, 1) := by decide +kernel
theorem dX7_add_33 : decode cX7_add 33 = .ok (.getfield 22, 3) := by decide +kernel
theorem dX7_add_36 : decode cX7_add 36 = .ok (.iload_n 2, 1) := by decide +kernel
theorem dX7_add_37 : decode cX7_add 37 = .ok (.iastore, 1) := by decide +kernel
theorem dX7_add_38 : decode cX7_add 38 = .ok (.aload_n 0, 1) := by decide +kernel
theorem dX7_add_39 : decode cX7_add 39 = .ok (.aload_n 0, 1) := by decide +kernel
theorem dX7_add_40 : decode cX7_add 40 = .ok (.getfield 18, 3) := by decide +kernel
theorem dX7_add_43 : decode cX7_add 43 = .ok (.aload_n 0, 1) := by decide +kernel
theorem dX7_add_44 : decode cX7_add 44 = .ok (.getfield 22, 3) := by decide +kernel
theorem dX7_add_47 : decode cX7_add 47 = .ok (.iload_n 3, 1) := by decide +kernel
theorem dX7_add_48 : decode cX7_add 48 = .ok (.invokestatic 31, 3) := by decide +kernel
theorem dX7_add_51 : decode cX7_add 51 = .ok (.putfield 18, 3) := by decide +kernel
theorem dX7_add_54 : decode cX7_add 54 = .ok (.aload_n 0, 1) := by decide +kernel
theorem dX7_add_55 : decode cX7_add 55 = .ok (.dup, 1) := by decide +kernel
theorem dX7_add_56 : decode cX7_add 56 = .ok (.getfield 22, 3) := by decide +kernel
theorem dX7_add_59 : decode cX7_add 59 = .ok (.iconst 1, 1) := by decide +kernel
theorem dX7_add_60 : decode cX7_add 60 = .ok (.iadd, 1) := by decide +kernel
theorem dX7_add_61 : decode cX7_add 61 = .ok (.putfield 22, 3) := by decide +kernel
theorem dX7_add_64 : decode cX7_add 64 = .ok (.iconst 1, 1) := by decide +kernel
theorem dX7_add_65 : decode cX7_add 65 = .ok (.ireturn, 1) := by decide +kernel
set_option maxRecDepth 20000 in
theorem ggX7_fitting_X9_holds : GoodIn wsX7_fitting wsX9_holds := goodIn_r _ [7] (by decide +kernel) (by decide +kernel)
set_option maxRecDepth 20000 in
theorem gX7_fitting_X9_holds_n35 : GoodIn wsX7_fitting (wsX9_holds) := ggX7_fitting_X9_holds
set_option maxRecDepth 20000 in
theorem ggX7_fitting_X2_fitting : GoodIn wsX7_fitting wsX2_fitting := goodIn_r _ [12, 13, 14, 15, 11, 16, 17, 5, 6, 7, 22, 23] (by decide +kernel) (by decide +kernel)
set_option maxRecDepth 20000 in
theorem gX7_fitting_X2_fitting : GoodIn wsX7_fitting (wsV RX7 39 RX2 yX2_fitting wsX2_fitting) := goodIn_app (goodIn_of _ (by decide +kernel)) ggX7_fitting_X2_fitting
theorem dX7_fitting_0 : decode cX7_fitting 0 = .ok (.sipush 4095, 3) := by decide +kernel
theorem dX7_fitting_3 : decode cX7_fitting 3 = .ok (.istore_n 2, 1) := by decide +kernel
theorem dX7_fitting_4 : decode cX7_fitting 4 = .ok (.iconst 0, 1) := by decide +kernel
theorem dX7_fitting_5 : decode cX7_fitting 5 = .ok (.istore_n 3, 1) := by decide +kernel
theorem dX7_fitting_6 : decode cX7_fitting 6 = .ok (.iload_n 3, 1) := by decide +kernel
theorem dX7_fitting_7 : decode cX7_fitting 7 = .ok (.aload_n 0, 1) := by decide +kernel
theorem dX7_fitting_8 : decode cX7_fitting 8 = .ok (.getfield 22, 3) := by decide +kernel
theorem dX7_fitting_11 : decode cX7_fitting 11 = .ok (.if_icmp .ge 42, 3) := by decide +kernel
theorem dX7_fitting_14 : decode cX7_fitting 14 = .ok (.iload_n 3, 1) := by decide +kernel
theorem dX7_fitting_15 : decode cX7_fitting 15 = .ok (.bipush 8, 2) := by decide +kernel
theorem dX7_fitting_17 : decode cX7_fitting 17 = .ok (.if_icmp .ge 36, 3) := by decide +kernel
theorem dX7_fitting_20 : decode cX7_fitting 20 = .ok (.iload_n 2, 1) := by decide +kernel
theorem dX7_fitting_21 : decode cX7_fitting 21 = .ok (.aload_n 1, 1) := by decide +kernel
theorem dX7_fitting_22 : decode cX7_fitting 22 = .ok (.aload_n 0, 1) := by decide +kernel
theorem dX7_fitting_23 : decode cX7_fitting 23 = .ok (.getfield 9, 3) := by decide +kernel
theorem dX7_fitting_26 : decode cX7_fitting 26 = .ok (.iload_n 3, 1) := by decide +kernel
theorem dX7_fitting_27 : decode cX7_fitting 27 = .ok (.iaload, 1) := by decide +kernel
theorem dX7_fitting_28 : decode cX7_fitting 28 = .ok (.aload_n 0, 1) := by decide +kernel
theorem dX7_fitting_29 : decode cX7_fitting 29 = .ok (.getfield 15, 3) := by decide +kernel
theorem dX7_fitting_32 : decode cX7_fitting 32 = .ok (.iload_n 3, 1) := by decide +kernel
theorem dX7_fitting_33 : decode cX7_fitting 33 = .ok (.iaload, 1) := by decide +kernel
theorem dX7_fitting_34 : decode cX7_fitting 34 = .ok (.aload_n 0, 1) := by decide +kernel
theorem dX7_fitting_35 : decode cX7_fitting 35 = .ok (.getfield 18, 3) := by decide +kernel
theorem dX7_fitting_38 : decode cX7_fitting 38 = .ok (.iload_n 3, 1) := by decide +kernel
theorem dX7_fitting_39 : decode cX7_fitting 39 = .ok (.invokestatic 35, 3) := by decide +kernel
theorem dX7_fitting_42 : decode cX7_fitting 42 = .ok (.invokevirtual 39, 3) := by decide +kernel
theorem dX7_fitting_45 : decode cX7_fitting 45 = .ok (.iand, 1) := by decide +kernel
theorem dX7_fitting_46 : decode cX7_fitting 46 = .ok (.istore_n 2, 1) := by decide +kernel
theorem dX7_fitting_47 : decode cX7_fitting 47 = .ok (.iinc 3 1, 3) := by decide +kernel
theorem dX7_fitting_50 : decode cX7_fitting 50 = .ok (.goto (-44), 3) := by decide +kernel
theorem dX7_fitting_53 : decode cX7_fitting 53 = .ok (.iload_n 2, 1) := by decide +kernel
theorem dX7_fitting_54 : decode cX7_fitting 54 = .ok (.ireturn, 1) := by decide +kernel
set_option maxRecDepth 20000 in
theorem ggX8_init_X1_init : GoodIn wsX8_init wsX1_init := goodIn_r _ [9, 10, 2, 3, 11, 12, 13, 14, 15, 16, 17, 18, 19, 20, 21, 22, 23, 24, 25, 26, 27] (by decide +kernel) (by decide +kernel)
set_option maxRecDepth 20000 in
theorem gX8_init_X1_init_n11 : GoodIn wsX8_init (wsX1_init) := ggX8_init_X1_init
theorem dX8_init_0 : decode cX8_init 0 = .ok (.aload_n 0, 1) := by decide +kernel
theorem dX8_init_1 : decode cX8_init 1 = .ok (.invokespecial 3, 3) := by decide +kernel
theorem dX8_init_4 : decode cX8_init 4 = .ok (.aload_n 0, 1) := by decide +kernel
theorem dX8_init_5 : decode cX8_init 5 = .ok (.new 9, 3) := by decide +kernel
theorem dX8_init_8 : decode cX8_init 8 = .ok (.dup, 1) := by decide +kernel
theorem dX8_init_9 : decode cX8_init 9 = .ok (.invokespecial 11, 3) := by decide +kernel
theorem dX8_init_12 : decode cX8_init 12 = .ok (.putfield 12, 3) := by decide +kernel
theorem dX8_init_15 : decode cX8_init 15 = .ok (.return_, 1) := by decide +kernel
set_option maxRecDepth 20000 in
theorem ggX8_begin_X1_copy : GoodIn wsX8_begin wsX1_copy := goodIn_r _ [11, 12, 13, 14, 15, 16, 17, 18, 19, 20, 21, 22, 23, 30, 31, 32, 33, 34, 35, 36, 37] (by decide +kernel) (by decide +kernel)
set_option maxRecDepth 20000 in
theorem gX8_begin_X1_copy : GoodIn wsX8_begin (wsV RX8 18 RX1 yX1_copy wsX1_copy) := goodIn_app (goodIn_of _ (by decide +kernel)) ggX8_begin_X1_copy
theorem dX8_begin_0 : decode cX8_begin 0 = .ok (.aload_n 0, 1) := by decide +kernel
theorem dX8_begin_1 : decode cX8_begin 1 = .ok (.getfield 12, 3) := by decide +kernel
theorem dX8_begin_4 : decode cX8_begin 4 = .ok (.aload_n 1, 1) := by decide +kernel
theorem dX8_begin_5 : decode cX8_begin 5 = .ok (.invokevirtual 18, 3) := by decide +kernel
theorem dX8_begin_8 : decode cX8_begin 8 = .ok (.aload_n 0, 1) := by decide +kernel
theorem dX8_begin_9 : decode cX8_begin 9 = .ok (.iconst 0, 1) := by decide +kernel
theorem dX8_begin_10 : decode cX8_begin 10 = .ok (.putfield 22, 3) := by decide +kernel
theorem dX8_begin_13 : decode cX8_begin 13 = .ok (.aload_n 0, 1) := by decide +kernel
theorem dX8_begin_14 : decode cX8_begin 14 = .ok (.bipush (-6), 2) := by decide +kernel
theorem dX8_begin_16 : decode cX8_begin 16 = .ok (.putfield 26, 3) := by decide +kernel
theorem dX8_begin_19 : decode cX8_begin 19 = .ok (.aload_n 0, 1) := by decide +kernel
theorem dX8_begin_20 : decode cX8_begin 20 = .ok (.bipush (-6), 2) := by decide +kernel
theorem dX8_begin_22 : decode cX8_begin 22 = .ok (.putfield 29, 3) := by decide +kernel
theorem dX8_begin_25 : decode cX8_begin 25 = .ok (.aload_n 0, 1) := by decide +kernel
theorem dX8_begin_26 : decode cX8_begin 26 = .ok (.iconst 0, 1) := by decide +kernel
theorem dX8_begin_27 : decode cX8_begin 27 = .ok (.putfield 32, 3) := by decide +kernel
theorem dX8_begin_30 : decode cX8_begin 30 = .ok (.aload_n 0, 1) := by decide +kernel
theorem dX8_begin_31 : decode cX8_begin 31 = .ok (.bipush (-6), 2) := by decide +kernel
theorem dX8_begin_33 : decode cX8_begin 33 = .ok (.putfield 35, 3) := by decide +kernel
theorem dX8_begin_36 : decode cX8_begin 36 = .ok (.return_, 1) := by decide +kernel
set_option maxRecDepth 20000 in
theorem ggX8_attempt_X1_reasonAgainst : GoodIn wsX8_attempt wsX1_reasonAgainst := goodIn_r _ [9, 10, 11, 12, 13, 8, 14, 15, 16, 17, 18, 19, 20, 21, 22, 23, 24, 25, 26, 27, 28, 29, 30, 31, 32, 33, 34, 35, 36, 37, 38, 39, 40, 41, 42, 43, 44, 45, 46, 64, 65, 66, 67, 68, 69, 70, 71, 72, 73] (by decide +kernel) (by decide +kernel)
set_option maxRecDepth 20000 in
theorem gX8_attempt_X1_reasonAgainst : GoodIn wsX8_attempt (wsV RX8 38 RX1 yX1_reasonAgainst wsX1_reasonAgainst) := goodIn_app (goodIn_of _ (by decide +kernel)) ggX8_attempt_X1_reasonAgainst
set_option maxRecDepth 20000 in
theorem ggX8_attempt_X1_act : GoodIn wsX8_attempt wsX1_act := goodIn_r _ [50, 10, 44, 51, 28, 39, 46, 52, 53, 54, 55, 23, 56, 17, 57, 64, 65, 66, 67, 68, 69, 70, 71] (by decide +kernel) (by decide +kernel)
set_option maxRecDepth 20000 in
theorem gX8_attempt_X1_act : GoodIn wsX8_attempt (wsV RX8 42 RX1 yX1_act wsX1_act) := goodIn_app (goodIn_of _ (by decide +kernel)) ggX8_attempt_X1_act
theorem dX8_attempt_0 : decode cX8_attempt 0 = .ok (.aload_n 0, 1) := by decide +kernel
theorem dX8_attempt_1 : decode cX8_attempt 1 = .ok (.getfield 12, 3) := by decide +kernel
theorem dX8_attempt_4 : decode cX8_attempt 4 = .ok (.aload_n 1, 1) := by decide +kernel
theorem dX8_attempt_5 : decode cX8_attempt 5 = .ok (.iload_n 2, 1) := by decide +kernel
theorem dX8_attempt_6 : decode cX8_attempt 6 = .ok (.iload_n 3, 1) := by decide +kernel
theorem dX8_attempt_7 : decode cX8_attempt 7 = .ok (.iload 4, 2) := by decide +kernel
theorem dX8_attempt_9 : decode cX8_attempt 9 = .ok (.invokevirtual 38, 3) := by decide +kernel
theorem dX8_attempt_12 : decode cX8_attempt 12 = .ok (.istore 5, 2) := by decide +kernel
theorem dX8_attempt_14 : decode cX8_attempt 14 = .ok (.iload 5, 2) := by decide +kernel
theorem dX8_attempt_16 : decode cX8_attempt 16 = .ok (.ifCond .eq 6, 3) := by decide +kernel
theorem dX8_attempt_19 : decode cX8_attempt 19 = .ok (.iload 5, 2) := by decide +kernel
theorem dX8_attempt_21 : decode cX8_attempt 21 = .ok (.ireturn, 1) := by decide +kernel
theorem dX8_attempt_22 : decode cX8_attempt 22 = .ok (.aload_n 0, 1) := by decide +kernel
theorem dX8_attempt_23 : decode cX8_attempt 23 = .ok (.getfield 12, 3) := by decide +kernel
theorem dX8_attempt_26 : decode cX8_attempt 26 = .ok (.iload_n 2, 1) := by decide +kernel
theorem dX8_attempt_27 : decode cX8_attempt 27 = .ok (.iload_n 3, 1) := by decide +kernel
theorem dX8_attempt_28 : decode cX8_attempt 28 = .ok (.iload 4, 2) := by decide +kernel
theorem dX8_attempt_30 : decode cX8_attempt 30 = .ok (.invokevirtual 42, 3) := by decide +kernel
theorem dX8_attempt_33 : decode cX8_attempt 33 = .ok (.iload_n 2, 1) := by decide +kernel
theorem dX8_attempt_34 : decode cX8_attempt 34 = .ok (.iconst 1, 1) := by decide +kernel
theorem dX8_attempt_35 : decode cX8_attempt 35 = .ok (.if_icmp .ne 28, 3) := by decide +kernel
theorem dX8_attempt_38 : decode cX8_attempt 38 = .ok (.aload_n 0, 1) := by decide +kernel
theorem dX8_attempt_39 : decode cX8_attempt 39 = .ok (.getfield 32, 3) := by decide +kernel
theorem dX8_attempt_42 : decode cX8_attempt 42 = .ok (.ifCond .ne 11, 3) := by decide +kernel
theorem dX8_attempt_45 : decode cX8_attempt 45 = .ok (.aload_n 0, 1) := by decide +kernel
theorem dX8_attempt_46 : decode cX8_attempt 46 = .ok (.aload_n 0, 1) := by decide +kernel
theorem dX8_attempt_47 : decode cX8_attempt 47 = .ok (.getfield 22, 3) := by decide +kernel
theorem dX8_attempt_50 : decode cX8_attempt 50 = .ok (.putfield 35, 3) := by decide +kernel
theorem dX8_attempt_53 : decode cX8_attempt 53 = .ok (.aload_n 0, 1) := by decide +kernel
theorem dX8_attempt_54 : decode cX8_attempt 54 = .ok (.dup, 1) := by decide +kernel
theorem dX8_attempt_55 : decode cX8_attempt 55 = .ok (.getfield 32, 3) := by decide +kernel
theorem dX8_attempt_58 : decode cX8_attempt 58 = .ok (.iconst 1, 1) := by decide +kernel
theorem dX8_attempt_59 : decode cX8_attempt 59 = .ok (.iadd, 1) := by decide +kernel
theorem dX8_attempt_60 : decode cX8_attempt 60 = .ok (.putfield 32, 3) := by decide +kernel
theorem dX8_attempt_63 : decode cX8_attempt 63 = .ok (.aload_n 0, 1) := by decide +kernel
theorem dX8_attempt_64 : decode cX8_attempt 64 = .ok (.dup, 1) := by decide +kernel
theorem dX8_attempt_65 : decode cX8_attempt 65 = .ok (.getfield 22, 3) := by decide +kernel
theorem dX8_attempt_68 : decode cX8_attempt 68 = .ok (.iconst 1, 1) := by decide +kernel
theorem dX8_attempt_69 : decode cX8_attempt 69 = .ok (.iadd, 1) := by decide +kernel
theorem dX8_attempt_70 : decode cX8_attempt 70 = .ok (.putfield 22, 3) := by decide +kernel
theorem dX8_attempt_73 : decode cX8_attempt 73 = .ok (.iconst 0, 1) := by decide +kernel
theorem dX8_attempt_74 : decode cX8_attempt 74 = .ok (.ireturn, 1) := by decide +kernel
set_option maxRecDepth 20000 in
theorem ggX8_runDays_X8_begin : GoodIn wsX8_runDays wsX8_begin := goodIn_r _ [11, 12, 4, 5, 6, 13, 14, 15, 16, 17, 18, 19, 20, 21, 22, 23, 24, 25, 26, 27, 28, 29, 30, 31, 110, 111, 112, 113, 114, 115, 116, 117, 118, 119, 120, 121, 122, 123] (by decide +kernel) (by decide +kernel)
set_option maxRecDepth 20000 in
theorem gX8_runDays_X8_begin : GoodIn wsX8_runDays (wsV RX8 49 RX8 yX8_begin wsX8_begin) := goodIn_app (goodIn_of _ (by decide +kernel)) ggX8_runDays_X8_begin
set_option maxRecDepth 20000 in
theorem ggX8_runDays_X4_kindAt : GoodIn wsX8_runDays wsX4_kindAt := goodIn_r _ [36, 37, 38, 39, 35, 40, 41, 42, 108, 109] (by decide +kernel) (by decide +kernel)
set_option maxRecDepth 20000 in
theorem gX8_runDays_X4_kindAt : GoodIn wsX8_runDays (wsV RX8 61 RX4 yX4_kindAt wsX4_kindAt) := goodIn_app (goodIn_of _ (by decide +kernel)) ggX8_runDays_X4_kindAt
set_option maxRecDepth 20000 in
theorem ggX8_runDays_X4_whoAt : GoodIn wsX8_runDays wsX4_whoAt := goodIn_r _ [46, 37, 38, 39, 35, 40, 41, 42, 108, 109] (by decide +kernel) (by decide +kernel)
set_option maxRecDepth 20000 in
theorem gX8_runDays_X4_whoAt : GoodIn wsX8_runDays (wsV RX8 65 RX4 yX4_whoAt wsX4_whoAt) := goodIn_app (goodIn_of _ (by decide +kernel)) ggX8_runDays_X4_whoAt
set_option maxRecDepth 20000 in
theorem ggX8_runDays_X4_aimAt : GoodIn wsX8_runDays wsX4_aimAt := goodIn_r _ [50, 51, 33, 34, 35, 36, 37, 38, 39, 40, 41, 42, 108, 109] (by decide +kernel) (by decide +kernel)
set_option maxRecDepth 20000 in
theorem gX8_runDays_X4_aimAt : GoodIn wsX8_runDays (wsV RX8 68 RX4 yX4_aimAt wsX4_aimAt) := goodIn_app (goodIn_of _ (by decide +kernel)) ggX8_runDays_X4_aimAt
set_option maxRecDepth 20000 in
theorem ggX8_runDays_X8_attempt : GoodIn wsX8_runDays wsX8_attempt := goodIn_r _ [55, 12, 13, 4, 14, 56, 57, 58, 18, 59, 31, 60, 61, 62, 63, 27, 64, 65, 66, 67, 68, 69, 70, 28, 71, 72, 73, 74, 20, 75, 76, 77, 78, 79, 80, 81, 82, 83, 84, 25, 85, 86, 87, 88, 29, 89, 30, 90, 91, 92, 93, 26, 94, 95, 96, 97, 98, 99, 110, 111, 112, 113, 114, 115, 116, 117, 118, 119, 120, 121, 122, 123, 124, 125] (by decide +kernel) (by decide +kernel)
set_option maxRecDepth 20000 in
theorem gX8_runDays_X8_attempt : GoodIn wsX8_runDays (wsV RX8 71 RX8 yX8_attempt wsX8_attempt) := goodIn_app (goodIn_of _ (by decide +kernel)) ggX8_runDays_X8_attempt
set_option maxRecDepth 20000 in
theorem ggX8_runDays_X4_lengthAt : GoodIn wsX8_runDays wsX4_lengthAt := goodIn_r _ [103, 51, 33, 34, 35, 36, 37, 38, 39, 40, 41, 42, 108, 109] (by decide +kernel) (by decide +kernel)
set_option maxRecDepth 20000 in
theorem gX8_runDays_X4_lengthAt : GoodIn wsX8_runDays (wsV RX8 74 RX4 yX4_lengthAt wsX4_lengthAt) := goodIn_app (goodIn_of _ (by decide +kernel)) ggX8_runDays_X4_lengthAt
theorem dX8_runDays_0 : decode cX8_runDays 0 = .ok (.aload_n 0, 1) := by decide +kernel
theorem dX8_runDays_1 : decode cX8_runDays 1 = .ok (.aload_n 1, 1) := by decide +kernel
theorem dX8_runDays_2 : decode cX8_runDays 2 = .ok (.getfield 46, 3) := by decide +kernel
theorem dX8_runDays_5 : decode cX8_runDays 5 = .ok (.invokevirtual 49, 3) := by decide +kernel
theorem dX8_runDays_8 : decode cX8_runDays 8 = .ok (.iconst 0, 1) := by decide +kernel
theorem dX8_runDays_9 : decode cX8_runDays 9 = .ok (.istore_n 3, 1) := by decide +kernel
theorem dX8_runDays_10 : decode cX8_runDays 10 = .ok (.iconst 0, 1) := by decide +kernel
theorem dX8_runDays_11 : decode cX8_runDays 11 = .ok (.istore 4, 2) := by decide +kernel
theorem dX8_runDays_13 : decode cX8_runDays 13 = .ok (.iload 4, 2) := by decide +kernel
theorem dX8_runDays_15 : decode cX8_runDays 15 = .ok (.bipush 60, 2) := by decide +kernel
theorem dX8_runDays_17 : decode cX8_runDays 17 = .ok (.if_icmp .ge 70, 3) := by decide +kernel
theorem dX8_runDays_20 : decode cX8_runDays 20 = .ok (.iload_n 3, 1) := by decide +kernel
theorem dX8_runDays_21 : decode cX8_runDays 21 = .ok (.aload_n 2, 1) := by decide +kernel
theorem dX8_runDays_22 : decode cX8_runDays 22 = .ok (.getfield 52, 3) := by decide +kernel
theorem dX8_runDays_25 : decode cX8_runDays 25 = .ok (.if_icmp .ge 62, 3) := by decide +kernel
theorem dX8_runDays_28 : decode cX8_runDays 28 = .ok (.aload_n 0, 1) := by decide +kernel
theorem dX8_runDays_29 : decode cX8_runDays 29 = .ok (.aload_n 1, 1) := by decide +kernel
theorem dX8_runDays_30 : decode cX8_runDays 30 = .ok (.getfield 57, 3) := by decide +kernel
theorem dX8_runDays_33 : decode cX8_runDays 33 = .ok (.aload_n 2, 1) := by decide +kernel
theorem dX8_runDays_34 : decode cX8_runDays 34 = .ok (.iload_n 3, 1) := by decide +kernel
theorem dX8_runDays_35 : decode cX8_runDays 35 = .ok (.invokevirtual 61, 3) := by decide +kernel
theorem dX8_runDays_38 : decode cX8_runDays 38 = .ok (.aload_n 2, 1) := by decide +kernel
theorem dX8_runDays_39 : decode cX8_runDays 39 = .ok (.iload_n 3, 1) := by decide +kernel
theorem dX8_runDays_40 : decode cX8_runDays 40 = .ok (.invokevirtual 65, 3) := by decide +kernel
theorem dX8_runDays_43 : decode cX8_runDays 43 = .ok (.aload_n 2, 1) := by decide +kernel
theorem dX8_runDays_44 : decode cX8_runDays 44 = .ok (.iload_n 3, 1) := by decide +kernel
theorem dX8_runDays_45 : decode cX8_runDays 45 = .ok (.invokevirtual 68, 3) := by decide +kernel
theorem dX8_runDays_48 : decode cX8_runDays 48 = .ok (.invokevirtual 71, 3) := by decide +kernel
theorem dX8_runDays_51 : decode cX8_runDays 51 = .ok (.istore 5, 2) := by decide +kernel
theorem dX8_runDays_53 : decode cX8_runDays 53 = .ok (.iload 5, 2) := by decide +kernel
theorem dX8_runDays_55 : decode cX8_runDays 55 = .ok (.ifCond .eq 18, 3) := by decide +kernel
theorem dX8_runDays_58 : decode cX8_runDays 58 = .ok (.aload_n 0, 1) := by decide +kernel
theorem dX8_runDays_59 : decode cX8_runDays 59 = .ok (.aload_n 0, 1) := by decide +kernel
theorem dX8_runDays_60 : decode cX8_runDays 60 = .ok (.getfield 22, 3) := by decide +kernel
theorem dX8_runDays_63 : decode cX8_runDays 63 = .ok (.putfield 26, 3) := by decide +kernel
theorem dX8_runDays_66 : decode cX8_runDays 66 = .ok (.aload_n 0, 1) := by decide +kernel
theorem dX8_runDays_67 : decode cX8_runDays 67 = .ok (.iload 5, 2) := by decide +kernel
theorem dX8_runDays_69 : decode cX8_runDays 69 = .ok (.putfield 29, 3) := by decide +kernel
theorem dX8_runDays_72 : decode cX8_runDays 72 = .ok (.return_, 1) := by decide +kernel
theorem dX8_runDays_73 : decode cX8_runDays 73 = .ok (.iload_n 3, 1) := by decide +kernel
theorem dX8_runDays_74 : decode cX8_runDays 74 = .ok (.aload_n 2, 1) := by decide +kernel
theorem dX8_runDays_75 : decode cX8_runDays 75 = .ok (.iload_n 3, 1) := by decide +kernel
theorem dX8_runDays_76 : decode cX8_runDays 76 = .ok (.invokevirtual 74, 3) := by decide +kernel
theorem dX8_runDays_79 : decode cX8_runDays 79 = .ok (.iadd, 1) := by decide +kernel
theorem dX8_runDays_80 : decode cX8_runDays 80 = .ok (.istore_n 3, 1) := by decide +kernel
theorem dX8_runDays_81 : decode cX8_runDays 81 = .ok (.iinc 4 1, 3) := by decide +kernel
theorem dX8_runDays_84 : decode cX8_runDays 84 = .ok (.goto (-71), 3) := by decide +kernel
theorem dX8_runDays_87 : decode cX8_runDays 87 = .ok (.return_, 1) := by decide +kernel
set_option maxRecDepth 20000 in
theorem ggX8_runYear_X8_begin : GoodIn wsX8_runYear wsX8_begin := goodIn_r _ [8, 9, 10, 11, 12, 13, 14, 15, 16, 17, 18, 19, 20, 21, 22, 23, 24, 25, 26, 27, 28, 29, 30, 31, 87, 88, 89, 90, 91, 92, 93, 94, 95, 96, 97, 98, 99, 100] (by decide +kernel) (by decide +kernel)
set_option maxRecDepth 20000 in
theorem gX8_runYear_X8_begin : GoodIn wsX8_runYear (wsV RX8 49 RX8 yX8_begin wsX8_begin) := goodIn_app (goodIn_of _ (by decide +kernel)) ggX8_runYear_X8_begin
set_option maxRecDepth 20000 in
theorem ggX8_runYear_X8_kindDrawn : GoodIn wsX8_runYear wsX8_kindDrawn := goodIn_r _ [34] (by decide +kernel) (by decide +kernel)
set_option maxRecDepth 20000 in
theorem gX8_runYear_X8_kindDrawn : GoodIn wsX8_runYear (va_wsS RX8 78 yX8_kindDrawn wsX8_kindDrawn) := goodIn_app (goodIn_of _ (by decide +kernel)) ggX8_runYear_X8_kindDrawn
set_option maxRecDepth 20000 in
theorem ggX8_runYear_X8_attempt : GoodIn wsX8_runYear wsX8_attempt := goodIn_r _ [38, 9, 13, 10, 14, 39, 40, 41, 18, 42, 31, 43, 44, 45, 46, 27, 47, 48, 49, 50, 51, 52, 53, 28, 54, 55, 56, 57, 20, 58, 59, 60, 61, 62, 63, 64, 65, 66, 67, 25, 68, 69, 70, 71, 29, 72, 30, 73, 74, 75, 76, 26, 77, 78, 79, 80, 81, 82, 87, 88, 89, 90, 91, 92, 93, 94, 95, 96, 97, 98, 99, 100, 101, 102] (by decide +kernel) (by decide +kernel)
set_option maxRecDepth 20000 in
theorem gX8_runYear_X8_attempt : GoodIn wsX8_runYear (wsV RX8 71 RX8 yX8_attempt wsX8_attempt) := goodIn_app (goodIn_of _ (by decide +kernel)) ggX8_runYear_X8_attempt
theorem dX8_runYear_0 : decode cX8_runYear 0 = .ok (.aload_n 0, 1) := by decide +kernel
theorem dX8_runYear_1 : decode cX8_runYear 1 = .ok (.aload_n 1, 1) := by decide +kernel
theorem dX8_runYear_2 : decode cX8_runYear 2 = .ok (.getfield 46, 3) := by decide +kernel
theorem dX8_runYear_5 : decode cX8_runYear 5 = .ok (.invokevirtual 49, 3) := by decide +kernel
theorem dX8_runYear_8 : decode cX8_runYear 8 = .ok (.iload_n 2, 1) := by decide +kernel
theorem dX8_runYear_9 : decode cX8_runYear 9 = .ok (.istore 4, 2) := by decide +kernel
theorem dX8_runYear_11 : decode cX8_runYear 11 = .ok (.iconst 0, 1) := by decide +kernel
theorem dX8_runYear_12 : decode cX8_runYear 12 = .ok (.istore 5, 2) := by decide +kernel
theorem dX8_runYear_14 : decode cX8_runYear 14 = .ok (.iload 5, 2) := by decide +kernel
theorem dX8_runYear_16 : decode cX8_runYear 16 = .ok (.iload_n 3, 1) := by decide +kernel
theorem dX8_runYear_17 : decode cX8_runYear 17 = .ok (.if_icmp .ge 70, 3) := by decide +kernel
theorem dX8_runYear_20 : decode cX8_runYear 20 = .ok (.bipush 75, 2) := by decide +kernel
theorem dX8_runYear_22 : decode cX8_runYear 22 = .ok (.iload 4, 2) := by decide +kernel
theorem dX8_runYear_24 : decode cX8_runYear 24 = .ok (.imul, 1) := by decide +kernel
theorem dX8_runYear_25 : decode cX8_runYear 25 = .ok (.bipush 74, 2) := by decide +kernel
theorem dX8_runYear_27 : decode cX8_runYear 27 = .ok (.iadd, 1) := by decide +kernel
theorem dX8_runYear_28 : decode cX8_runYear 28 = .ok (.ldc 77, 2) := by decide +kernel
theorem dX8_runYear_30 : decode cX8_runYear 30 = .ok (.irem, 1) := by decide +kernel
theorem dX8_runYear_31 : decode cX8_runYear 31 = .ok (.istore 4, 2) := by decide +kernel
theorem dX8_runYear_33 : decode cX8_runYear 33 = .ok (.iload 4, 2) := by decide +kernel
theorem dX8_runYear_35 : decode cX8_runYear 35 = .ok (.bipush 7, 2) := by decide +kernel
theorem dX8_runYear_37 : decode cX8_runYear 37 = .ok (.idiv, 1) := by decide +kernel
theorem dX8_runYear_38 : decode cX8_runYear 38 = .ok (.bipush 8, 2) := by decide +kernel
theorem dX8_runYear_40 : decode cX8_runYear 40 = .ok (.irem, 1) := by decide +kernel
theorem dX8_runYear_41 : decode cX8_runYear 41 = .ok (.invokestatic 78, 3) := by decide +kernel
theorem dX8_runYear_44 : decode cX8_runYear 44 = .ok (.istore 6, 2) := by decide +kernel
theorem dX8_runYear_46 : decode cX8_runYear 46 = .ok (.aload_n 0, 1) := by decide +kernel
theorem dX8_runYear_47 : decode cX8_runYear 47 = .ok (.aload_n 1, 1) := by decide +kernel
theorem dX8_runYear_48 : decode cX8_runYear 48 = .ok (.getfield 57, 3) := by decide +kernel
theorem dX8_runYear_51 : decode cX8_runYear 51 = .ok (.iload 6, 2) := by decide +kernel
theorem dX8_runYear_53 : decode cX8_runYear 53 = .ok (.iload 4, 2) := by decide +kernel
theorem dX8_runYear_55 : decode cX8_runYear 55 = .ok (.bipush 7, 2) := by decide +kernel
theorem dX8_runYear_57 : decode cX8_runYear 57 = .ok (.irem, 1) := by decide +kernel
theorem dX8_runYear_58 : decode cX8_runYear 58 = .ok (.iload 4, 2) := by decide +kernel
theorem dX8_runYear_60 : decode cX8_runYear 60 = .ok (.bipush 56, 2) := by decide +kernel
theorem dX8_runYear_62 : decode cX8_runYear 62 = .ok (.idiv, 1) := by decide +kernel
theorem dX8_runYear_63 : decode cX8_runYear 63 = .ok (.iload 6, 2) := by decide +kernel
theorem dX8_runYear_65 : decode cX8_runYear 65 = .ok (.iconst 1, 1) := by decide +kernel
theorem dX8_runYear_66 : decode cX8_runYear 66 = .ok (.if_icmp .ne 8, 3) := by decide +kernel
theorem dX8_runYear_69 : decode cX8_runYear 69 = .ok (.bipush 7, 2) := by decide +kernel
theorem dX8_runYear_71 : decode cX8_runYear 71 = .ok (.goto 5, 3) := by decide +kernel
theorem dX8_runYear_74 : decode cX8_runYear 74 = .ok (.bipush 12, 2) := by decide +kernel
theorem dX8_runYear_76 : decode cX8_runYear 76 = .ok (.irem, 1) := by decide +kernel
theorem dX8_runYear_77 : decode cX8_runYear 77 = .ok (.invokevirtual 71, 3) := by decide +kernel
theorem dX8_runYear_80 : decode cX8_runYear 80 = .ok (.pop, 1) := by decide +kernel
theorem dX8_runYear_81 : decode cX8_runYear 81 = .ok (.iinc 5 1, 3) := by decide +kernel
theorem dX8_runYear_84 : decode cX8_runYear 84 = .ok (.goto (-70), 3) := by decide +kernel
theorem dX8_runYear_87 : decode cX8_runYear 87 = .ok (.return_, 1) := by decide +kernel
theorem dX8_kindDrawn_0 : decode cX8_kindDrawn 0 = .ok (.iload_n 0, 1) := by decide +kernel
theorem dX8_kindDrawn_1 : decode cX8_kindDrawn 1 = .ok (.iconst 2, 1) := by decide +kernel
theorem dX8_kindDrawn_2 : decode cX8_kindDrawn 2 = .ok (.if_icmp .gt 5, 3) := by decide +kernel
theorem dX8_kindDrawn_5 : decode cX8_kindDrawn 5 = .ok (.iconst 0, 1) := by decide +kernel
theorem dX8_kindDrawn_6 : decode cX8_kindDrawn 6 = .ok (.ireturn, 1) := by decide +kernel
theorem dX8_kindDrawn_7 : decode cX8_kindDrawn 7 = .ok (.iload_n 0, 1) := by decide +kernel
theorem dX8_kindDrawn_8 : decode cX8_kindDrawn 8 = .ok (.iconst 4, 1) := by decide +kernel
theorem dX8_kindDrawn_9 : decode cX8_kindDrawn 9 = .ok (.if_icmp .gt 5, 3) := by decide +kernel
theorem dX8_kindDrawn_12 : decode cX8_kindDrawn 12 = .ok (.iconst 1, 1) := by decide +kernel
theorem dX8_kindDrawn_13 : decode cX8_kindDrawn 13 = .ok (.ireturn, 1) := by decide +kernel
theorem dX8_kindDrawn_14 : decode cX8_kindDrawn 14 = .ok (.iload_n 0, 1) := by decide +kernel
theorem dX8_kindDrawn_15 : decode cX8_kindDrawn 15 = .ok (.iconst 5, 1) := by decide +kernel
theorem dX8_kindDrawn_16 : decode cX8_kindDrawn 16 = .ok (.if_icmp .ne 5, 3) := by decide +kernel
theorem dX8_kindDrawn_19 : decode cX8_kindDrawn 19 = .ok (.iconst 2, 1) := by decide +kernel
theorem dX8_kindDrawn_20 : decode cX8_kindDrawn 20 = .ok (.ireturn, 1) := by decide +kernel
theorem dX8_kindDrawn_21 : decode cX8_kindDrawn 21 = .ok (.iload_n 0, 1) := by decide +kernel
theorem dX8_kindDrawn_22 : decode cX8_kindDrawn 22 = .ok (.bipush 6, 2) := by decide +kernel
theorem dX8_kindDrawn_24 : decode cX8_kindDrawn 24 = .ok (.if_icmp .ne 7, 3) := by decide +kernel
theorem dX8_kindDrawn_27 : decode cX8_kindDrawn 27 = .ok (.iconst 3, 1) := by decide +kernel
theorem dX8_kindDrawn_28 : decode cX8_kindDrawn 28 = .ok (.goto 4, 3) := by decide +kernel
theorem dX8_kindDrawn_31 : decode cX8_kindDrawn 31 = .ok (.iconst 4, 1) := by decide +kernel
theorem dX8_kindDrawn_32 : decode cX8_kindDrawn 32 = .ok (.ireturn, 1) := by decide +kernel
set_option maxRecDepth 20000 in
theorem ggX9_init_X5_init : GoodIn wsX9_init wsX5_init := goodIn_r _ [26, 27, 2, 3, 28, 29, 30, 31, 32, 33, 34, 35, 36, 37, 38, 39, 40, 41, 42, 43, 44, 45, 46, 47, 48, 49, 50, 51, 52, 53, 54, 55, 56, 57, 58, 59, 60, 61, 62, 63, 64, 65, 66, 67, 68, 69, 70, 71, 72, 73, 74, 75, 116, 117, 95, 96, 97, 98, 118, 119, 120, 121, 122, 123, 124, 125, 126, 127, 128, 129, 130, 131, 132, 133, 134] (by decide +kernel) (by decide +kernel)
set_option maxRecDepth 20000 in
theorem gX9_init_X5_init_n11 : GoodIn wsX9_init (wsX5_init) := ggX9_init_X5_init
set_option maxRecDepth 20000 in
theorem ggX9_init_X4_init : GoodIn wsX9_init wsX4_init := goodIn_r _ [77, 78, 2, 3, 47, 79, 80, 105, 106] (by decide +kernel) (by decide +kernel)
set_option maxRecDepth 20000 in
theorem gX9_init_X4_init_n18 : GoodIn wsX9_init (wsX4_init) := ggX9_init_X4_init
set_option maxRecDepth 20000 in
theorem ggX9_init_X8_init : GoodIn wsX9_init wsX8_init := goodIn_r _ [82, 83, 2, 3, 84, 33, 34, 85, 50, 51, 52, 47, 53, 54, 55, 56, 57, 58, 59, 60, 118, 119, 120, 121, 122, 123, 124, 125, 107, 108, 109, 110, 111, 112] (by decide +kernel) (by decide +kernel)
set_option maxRecDepth 20000 in
theorem gX9_init_X8_init_n25 : GoodIn wsX9_init (wsX8_init) := ggX9_init_X8_init
set_option maxRecDepth 20000 in
theorem ggX9_init_X0_init : GoodIn wsX9_init wsX0_init := goodIn_r _ [87, 88, 2, 3, 47, 89, 90, 113, 114] (by decide +kernel) (by decide +kernel)
set_option maxRecDepth 20000 in
theorem gX9_init_X0_init_n32 : GoodIn wsX9_init (wsX0_init) := ggX9_init_X0_init
set_option maxRecDepth 20000 in
theorem ggX9_init_X6_init : GoodIn wsX9_init wsX6_init := goodIn_r _ [92, 93, 2, 3, 47, 94, 115] (by decide +kernel) (by decide +kernel)
set_option maxRecDepth 20000 in
theorem gX9_init_X6_init_n39 : GoodIn wsX9_init (wsX6_init) := ggX9_init_X6_init
theorem dX9_init_0 : decode cX9_init 0 = .ok (.aload_n 0, 1) := by decide +kernel
theorem dX9_init_1 : decode cX9_init 1 = .ok (.invokespecial 3, 3) := by decide +kernel
theorem dX9_init_4 : decode cX9_init 4 = .ok (.aload_n 0, 1) := by decide +kernel
theorem dX9_init_5 : decode cX9_init 5 = .ok (.new 9, 3) := by decide +kernel
theorem dX9_init_8 : decode cX9_init 8 = .ok (.dup, 1) := by decide +kernel
theorem dX9_init_9 : decode cX9_init 9 = .ok (.invokespecial 11, 3) := by decide +kernel
theorem dX9_init_12 : decode cX9_init 12 = .ok (.putfield 12, 3) := by decide +kernel
theorem dX9_init_15 : decode cX9_init 15 = .ok (.aload_n 0, 1) := by decide +kernel
theorem dX9_init_16 : decode cX9_init 16 = .ok (.new 16, 3) := by decide +kernel
theorem dX9_init_19 : decode cX9_init 19 = .ok (.dup, 1) := by decide +kernel
theorem dX9_init_20 : decode cX9_init 20 = .ok (.invokespecial 18, 3) := by decide +kernel
theorem dX9_init_23 : decode cX9_init 23 = .ok (.putfield 19, 3) := by decide +kernel
theorem dX9_init_26 : decode cX9_init 26 = .ok (.aload_n 0, 1) := by decide +kernel
theorem dX9_init_27 : decode cX9_init 27 = .ok (.new 23, 3) := by decide +kernel
theorem dX9_init_30 : decode cX9_init 30 = .ok (.dup, 1) := by decide +kernel
theorem dX9_init_31 : decode cX9_init 31 = .ok (.invokespecial 25, 3) := by decide +kernel
theorem dX9_init_34 : decode cX9_init 34 = .ok (.putfield 26, 3) := by decide +kernel
theorem dX9_init_37 : decode cX9_init 37 = .ok (.aload_n 0, 1) := by decide +kernel
theorem dX9_init_38 : decode cX9_init 38 = .ok (.new 30, 3) := by decide +kernel
theorem dX9_init_41 : decode cX9_init 41 = .ok (.dup, 1) := by decide +kernel
theorem dX9_init_42 : decode cX9_init 42 = .ok (.invokespecial 32, 3) := by decide +kernel
theorem dX9_init_45 : decode cX9_init 45 = .ok (.putfield 33, 3) := by decide +kernel
theorem dX9_init_48 : decode cX9_init 48 = .ok (.aload_n 0, 1) := by decide +kernel
theorem dX9_init_49 : decode cX9_init 49 = .ok (.new 37, 3) := by decide +kernel
theorem dX9_init_52 : decode cX9_init 52 = .ok (.dup, 1) := by decide +kernel
theorem dX9_init_53 : decode cX9_init 53 = .ok (.invokespecial 39, 3) := by decide +kernel
theorem dX9_init_56 : decode cX9_init 56 = .ok (.putfield 40, 3) := by decide +kernel
theorem dX9_init_59 : decode cX9_init 59 = .ok (.aload_n 0, 1) := by decide +kernel
theorem dX9_init_60 : decode cX9_init 60 = .ok (.iconst 2, 1) := by decide +kernel
theorem dX9_init_61 : decode cX9_init 61 = .ok (.anewarray 9, 3) := by decide +kernel
theorem dX9_init_64 : decode cX9_init 64 = .ok (.putfield 44, 3) := by decide +kernel
theorem dX9_init_67 : decode cX9_init 67 = .ok (.return_, 1) := by decide +kernel
set_option maxRecDepth 20000 in
theorem ggX9_road_X9_isPlace : GoodIn wsX9_road wsX9_isPlace := goodIn_r _ [6] (by decide +kernel) (by decide +kernel)
set_option maxRecDepth 20000 in
theorem gX9_road_X9_isPlace : GoodIn wsX9_road (va_wsS RX9 48 yX9_isPlace wsX9_isPlace) := goodIn_app (goodIn_of _ (by decide +kernel)) ggX9_road_X9_isPlace
set_option maxRecDepth 20000 in
theorem ggX9_road_X2_lay : GoodIn wsX9_road wsX2_lay := goodIn_r _ [11, 12, 4, 5, 6, 13, 14, 36, 37] (by decide +kernel) (by decide +kernel)
set_option maxRecDepth 20000 in
theorem gX9_road_X2_lay : GoodIn wsX9_road (wsV RX9 56 RX2 yX2_lay wsX2_lay) := goodIn_app (goodIn_of _ (by decide +kernel)) ggX9_road_X2_lay
set_option maxRecDepth 20000 in
theorem ggX9_road_X2_countRoads : GoodIn wsX9_road wsX2_countRoads := goodIn_r _ [18, 12, 19, 20, 21, 22, 23, 24, 25, 36, 37] (by decide +kernel) (by decide +kernel)
set_option maxRecDepth 20000 in
theorem gX9_road_X2_countRoads : GoodIn wsX9_road (wsV RX9 62 RX2 yX2_countRoads wsX2_countRoads) := goodIn_app (goodIn_of _ (by decide +kernel)) ggX9_road_X2_countRoads
theorem dX9_road_0 : decode cX9_road 0 = .ok (.iload_n 1, 1) := by decide +kernel
theorem dX9_road_1 : decode cX9_road 1 = .ok (.invokestatic 48, 3) := by decide +kernel
theorem dX9_road_4 : decode cX9_road 4 = .ok (.ifCond .eq 15, 3) := by decide +kernel
theorem dX9_road_7 : decode cX9_road 7 = .ok (.iload_n 2, 1) := by decide +kernel
theorem dX9_road_8 : decode cX9_road 8 = .ok (.invokestatic 48, 3) := by decide +kernel
theorem dX9_road_11 : decode cX9_road 11 = .ok (.ifCond .eq 8, 3) := by decide +kernel
theorem dX9_road_14 : decode cX9_road 14 = .ok (.iload_n 1, 1) := by decide +kernel
theorem dX9_road_15 : decode cX9_road 15 = .ok (.iload_n 2, 1) := by decide +kernel
theorem dX9_road_16 : decode cX9_road 16 = .ok (.if_icmp .ne 5, 3) := by decide +kernel
theorem dX9_road_19 : decode cX9_road 19 = .ok (.iconst (-1), 1) := by decide +kernel
theorem dX9_road_20 : decode cX9_road 20 = .ok (.ireturn, 1) := by decide +kernel
theorem dX9_road_21 : decode cX9_road 21 = .ok (.aload_n 0, 1) := by decide +kernel
theorem dX9_road_22 : decode cX9_road 22 = .ok (.getfield 12, 3) := by decide +kernel
theorem dX9_road_25 : decode cX9_road 25 = .ok (.getfield 52, 3) := by decide +kernel
theorem dX9_road_28 : decode cX9_road 28 = .ok (.iload_n 1, 1) := by decide +kernel
theorem dX9_road_29 : decode cX9_road 29 = .ok (.iload_n 2, 1) := by decide +kernel
theorem dX9_road_30 : decode cX9_road 30 = .ok (.iload_n 3, 1) := by decide +kernel
theorem dX9_road_31 : decode cX9_road 31 = .ok (.invokevirtual 56, 3) := by decide +kernel
theorem dX9_road_34 : decode cX9_road 34 = .ok (.aload_n 0, 1) := by decide +kernel
theorem dX9_road_35 : decode cX9_road 35 = .ok (.getfield 12, 3) := by decide +kernel
theorem dX9_road_38 : decode cX9_road 38 = .ok (.getfield 52, 3) := by decide +kernel
theorem dX9_road_41 : decode cX9_road 41 = .ok (.invokevirtual 62, 3) := by decide +kernel
theorem dX9_road_44 : decode cX9_road 44 = .ok (.ireturn, 1) := by decide +kernel
set_option maxRecDepth 20000 in
theorem ggX9_home_X9_isPlace : GoodIn wsX9_home wsX9_isPlace := goodIn_r _ [7] (by decide +kernel) (by decide +kernel)
set_option maxRecDepth 20000 in
theorem gX9_home_X9_isPlace : GoodIn wsX9_home (va_wsS RX9 48 yX9_isPlace wsX9_isPlace) := goodIn_app (goodIn_of _ (by decide +kernel)) ggX9_home_X9_isPlace
set_option maxRecDepth 20000 in
theorem ggX9_home_X9_marked : GoodIn wsX9_home wsX9_marked := goodIn_r _ [10] (by decide +kernel) (by decide +kernel)
set_option maxRecDepth 20000 in
theorem gX9_home_X9_marked : GoodIn wsX9_home (va_wsS RX9 70 yX9_marked wsX9_marked) := goodIn_app (goodIn_of _ (by decide +kernel)) ggX9_home_X9_marked
theorem dX9_home_0 : decode cX9_home 0 = .ok (.iload_n 1, 1) := by decide +kernel
theorem dX9_home_1 : decode cX9_home 1 = .ok (.invokestatic 48, 3) := by decide +kernel
theorem dX9_home_4 : decode cX9_home 4 = .ok (.ifCond .ne 5, 3) := by decide +kernel
theorem dX9_home_7 : decode cX9_home 7 = .ok (.iconst (-1), 1) := by decide +kernel
theorem dX9_home_8 : decode cX9_home 8 = .ok (.ireturn, 1) := by decide +kernel
theorem dX9_home_9 : decode cX9_home 9 = .ok (.aload_n 0, 1) := by decide +kernel
theorem dX9_home_10 : decode cX9_home 10 = .ok (.getfield 12, 3) := by decide +kernel
theorem dX9_home_13 : decode cX9_home 13 = .ok (.getfield 52, 3) := by decide +kernel
theorem dX9_home_16 : decode cX9_home 16 = .ok (.aload_n 0, 1) := by decide +kernel
theorem dX9_home_17 : decode cX9_home 17 = .ok (.getfield 12, 3) := by decide +kernel
theorem dX9_home_20 : decode cX9_home 20 = .ok (.getfield 52, 3) := by decide +kernel
theorem dX9_home_23 : decode cX9_home 23 = .ok (.getfield 66, 3) := by decide +kernel
theorem dX9_home_26 : decode cX9_home 26 = .ok (.iload_n 1, 1) := by decide +kernel
theorem dX9_home_27 : decode cX9_home 27 = .ok (.iload_n 2, 1) := by decide +kernel
theorem dX9_home_28 : decode cX9_home 28 = .ok (.invokestatic 70, 3) := by decide +kernel
theorem dX9_home_31 : decode cX9_home 31 = .ok (.putfield 66, 3) := by decide +kernel
theorem dX9_home_34 : decode cX9_home 34 = .ok (.aload_n 0, 1) := by decide +kernel
theorem dX9_home_35 : decode cX9_home 35 = .ok (.getfield 12, 3) := by decide +kernel
theorem dX9_home_38 : decode cX9_home 38 = .ok (.getfield 52, 3) := by decide +kernel
theorem dX9_home_41 : decode cX9_home 41 = .ok (.getfield 66, 3) := by decide +kernel
theorem dX9_home_44 : decode cX9_home 44 = .ok (.ireturn, 1) := by decide +kernel
set_option maxRecDepth 20000 in
theorem ggX9_one_X9_isOne : GoodIn wsX9_one wsX9_isOne := goodIn_r _ [7] (by decide +kernel) (by decide +kernel)
set_option maxRecDepth 20000 in
theorem gX9_one_X9_isOne : GoodIn wsX9_one (va_wsS RX9 74 yX9_isOne wsX9_isOne) := goodIn_app (goodIn_of _ (by decide +kernel)) ggX9_one_X9_isOne
set_option maxRecDepth 20000 in
theorem ggX9_one_X9_isPlace : GoodIn wsX9_one wsX9_isPlace := goodIn_r _ [10] (by decide +kernel) (by decide +kernel)
set_option maxRecDepth 20000 in
theorem gX9_one_X9_isPlace : GoodIn wsX9_one (va_wsS RX9 48 yX9_isPlace wsX9_isPlace) := goodIn_app (goodIn_of _ (by decide +kernel)) ggX9_one_X9_isPlace
set_option maxRecDepth 20000 in
theorem ggX9_one_X1_enter : GoodIn wsX9_one wsX1_enter := goodIn_r _ [15, 16, 17, 18, 19, 20, 5, 6, 7, 21, 22, 40, 41, 42, 43, 44, 45, 46, 47] (by decide +kernel) (by decide +kernel)
set_option maxRecDepth 20000 in
theorem gX9_one_X1_enter : GoodIn wsX9_one (wsV RX9 81 RX1 yX1_enter wsX1_enter) := goodIn_app (goodIn_of _ (by decide +kernel)) ggX9_one_X1_enter
set_option maxRecDepth 20000 in
theorem ggX9_one_J6_bitCount_0f7a4 : GoodIn wsX9_one wsJ6_bitCount_0f7a4 := goodIn_r _ [26, 27, 28, 29] (by decide +kernel) (by decide +kernel)
set_option maxRecDepth 20000 in
theorem gX9_one_J6_bitCount_0f7a4 : GoodIn wsX9_one (va_wsS RX9 90 yJ6_bitCount_0f7a4 wsJ6_bitCount_0f7a4) := goodIn_app (goodIn_of _ (by decide +kernel)) ggX9_one_J6_bitCount_0f7a4
theorem dX9_one_0 : decode cX9_one 0 = .ok (.iload_n 1, 1) := by decide +kernel
theorem dX9_one_1 : decode cX9_one 1 = .ok (.invokestatic 74, 3) := by decide +kernel
theorem dX9_one_4 : decode cX9_one 4 = .ok (.ifCond .ne 5, 3) := by decide +kernel
theorem dX9_one_7 : decode cX9_one 7 = .ok (.iconst (-1), 1) := by decide +kernel
theorem dX9_one_8 : decode cX9_one 8 = .ok (.ireturn, 1) := by decide +kernel
theorem dX9_one_9 : decode cX9_one 9 = .ok (.iload_n 2, 1) := by decide +kernel
theorem dX9_one_10 : decode cX9_one 10 = .ok (.invokestatic 48, 3) := by decide +kernel
theorem dX9_one_13 : decode cX9_one 13 = .ok (.ifCond .eq 13, 3) := by decide +kernel
theorem dX9_one_16 : decode cX9_one 16 = .ok (.iload_n 3, 1) := by decide +kernel
theorem dX9_one_17 : decode cX9_one 17 = .ok (.ifCond .lt 9, 3) := by decide +kernel
theorem dX9_one_20 : decode cX9_one 20 = .ok (.iload_n 3, 1) := by decide +kernel
theorem dX9_one_21 : decode cX9_one 21 = .ok (.bipush 9, 2) := by decide +kernel
theorem dX9_one_23 : decode cX9_one 23 = .ok (.if_icmp .le 6, 3) := by decide +kernel
theorem dX9_one_26 : decode cX9_one 26 = .ok (.bipush (-2), 2) := by decide +kernel
theorem dX9_one_28 : decode cX9_one 28 = .ok (.ireturn, 1) := by decide +kernel
theorem dX9_one_29 : decode cX9_one 29 = .ok (.aload_n 0, 1) := by decide +kernel
theorem dX9_one_30 : decode cX9_one 30 = .ok (.getfield 12, 3) := by decide +kernel
theorem dX9_one_33 : decode cX9_one 33 = .ok (.getfield 77, 3) := by decide +kernel
theorem dX9_one_36 : decode cX9_one 36 = .ok (.iload_n 1, 1) := by decide +kernel
theorem dX9_one_37 : decode cX9_one 37 = .ok (.iload_n 2, 1) := by decide +kernel
theorem dX9_one_38 : decode cX9_one 38 = .ok (.iload_n 3, 1) := by decide +kernel
theorem dX9_one_39 : decode cX9_one 39 = .ok (.invokevirtual 81, 3) := by decide +kernel
theorem dX9_one_42 : decode cX9_one 42 = .ok (.aload_n 0, 1) := by decide +kernel
theorem dX9_one_43 : decode cX9_one 43 = .ok (.getfield 12, 3) := by decide +kernel
theorem dX9_one_46 : decode cX9_one 46 = .ok (.getfield 77, 3) := by decide +kernel
theorem dX9_one_49 : decode cX9_one 49 = .ok (.getfield 87, 3) := by decide +kernel
theorem dX9_one_52 : decode cX9_one 52 = .ok (.invokestatic 90, 3) := by decide +kernel
theorem dX9_one_55 : decode cX9_one 55 = .ok (.ireturn, 1) := by decide +kernel
set_option maxRecDepth 20000 in
theorem ggX9_leave_X1_isHere : GoodIn wsX9_leave wsX1_isHere := goodIn_r _ [8, 9, 10, 11, 12, 38, 39, 40, 41, 42, 43, 44, 45] (by decide +kernel) (by decide +kernel)
set_option maxRecDepth 20000 in
theorem gX9_leave_X1_isHere : GoodIn wsX9_leave (wsV RX9 96 RX1 yX1_isHere wsX1_isHere) := goodIn_app (goodIn_of _ (by decide +kernel)) ggX9_leave_X1_isHere
set_option maxRecDepth 20000 in
theorem ggX9_leave_X1_depart : GoodIn wsX9_leave wsX1_depart := goodIn_r _ [16, 9, 17, 18, 19, 11, 20, 38, 39, 40, 41, 42, 43, 44, 45] (by decide +kernel) (by decide +kernel)
set_option maxRecDepth 20000 in
theorem gX9_leave_X1_depart : GoodIn wsX9_leave (wsV RX9 99 RX1 yX1_depart wsX1_depart) := goodIn_app (goodIn_of _ (by decide +kernel)) ggX9_leave_X1_depart
set_option maxRecDepth 20000 in
theorem ggX9_leave_J6_bitCount_0f7a4 : GoodIn wsX9_leave wsJ6_bitCount_0f7a4 := goodIn_r _ [24, 25, 26, 27] (by decide +kernel) (by decide +kernel)
set_option maxRecDepth 20000 in
theorem gX9_leave_J6_bitCount_0f7a4 : GoodIn wsX9_leave (va_wsS RX9 90 yJ6_bitCount_0f7a4 wsJ6_bitCount_0f7a4) := goodIn_app (goodIn_of _ (by decide +kernel)) ggX9_leave_J6_bitCount_0f7a4
theorem dX9_leave_0 : decode cX9_leave 0 = .ok (.aload_n 0, 1) := by decide +kernel
theorem dX9_leave_1 : decode cX9_leave 1 = .ok (.getfield 12, 3) := by decide +kernel
theorem dX9_leave_4 : decode cX9_leave 4 = .ok (.getfield 77, 3) := by decide +kernel
theorem dX9_leave_7 : decode cX9_leave 7 = .ok (.iload_n 1, 1) := by decide +kernel
theorem dX9_leave_8 : decode cX9_leave 8 = .ok (.invokevirtual 96, 3) := by decide +kernel
theorem dX9_leave_11 : decode cX9_leave 11 = .ok (.ifCond .ne 5, 3) := by decide +kernel
theorem dX9_leave_14 : decode cX9_leave 14 = .ok (.iconst (-1), 1) := by decide +kernel
theorem dX9_leave_15 : decode cX9_leave 15 = .ok (.ireturn, 1) := by decide +kernel
theorem dX9_leave_16 : decode cX9_leave 16 = .ok (.aload_n 0, 1) := by decide +kernel
theorem dX9_leave_17 : decode cX9_leave 17 = .ok (.getfield 12, 3) := by decide +kernel
theorem dX9_leave_20 : decode cX9_leave 20 = .ok (.getfield 77, 3) := by decide +kernel
theorem dX9_leave_23 : decode cX9_leave 23 = .ok (.iload_n 1, 1) := by decide +kernel
theorem dX9_leave_24 : decode cX9_leave 24 = .ok (.invokevirtual 99, 3) := by decide +kernel
theorem dX9_leave_27 : decode cX9_leave 27 = .ok (.aload_n 0, 1) := by decide +kernel
theorem dX9_leave_28 : decode cX9_leave 28 = .ok (.getfield 12, 3) := by decide +kernel
theorem dX9_leave_31 : decode cX9_leave 31 = .ok (.getfield 77, 3) := by decide +kernel
theorem dX9_leave_34 : decode cX9_leave 34 = .ok (.getfield 87, 3) := by decide +kernel
theorem dX9_leave_37 : decode cX9_leave 37 = .ok (.invokestatic 90, 3) := by decide +kernel
theorem dX9_leave_40 : decode cX9_leave 40 = .ok (.ireturn, 1) := by decide +kernel
set_option maxRecDepth 20000 in
theorem ggX9_crown_X1_isHere : GoodIn wsX9_crown wsX1_isHere := goodIn_r _ [9, 10, 11, 12, 13, 24, 25, 26, 27, 28, 29, 30, 31] (by decide +kernel) (by decide +kernel)
set_option maxRecDepth 20000 in
theorem gX9_crown_X1_isHere : GoodIn wsX9_crown (wsV RX9 96 RX1 yX1_isHere wsX1_isHere) := goodIn_app (goodIn_of _ (by decide +kernel)) ggX9_crown_X1_isHere
theorem dX9_crown_0 : decode cX9_crown 0 = .ok (.iload_n 1, 1) := by decide +kernel
theorem dX9_crown_1 : decode cX9_crown 1 = .ok (.iconst (-1), 1) := by decide +kernel
theorem dX9_crown_2 : decode cX9_crown 2 = .ok (.if_icmp .eq 19, 3) := by decide +kernel
theorem dX9_crown_5 : decode cX9_crown 5 = .ok (.aload_n 0, 1) := by decide +kernel
theorem dX9_crown_6 : decode cX9_crown 6 = .ok (.getfield 12, 3) := by decide +kernel
theorem dX9_crown_9 : decode cX9_crown 9 = .ok (.getfield 77, 3) := by decide +kernel
theorem dX9_crown_12 : decode cX9_crown 12 = .ok (.iload_n 1, 1) := by decide +kernel
theorem dX9_crown_13 : decode cX9_crown 13 = .ok (.invokevirtual 96, 3) := by decide +kernel
theorem dX9_crown_16 : decode cX9_crown 16 = .ok (.ifCond .ne 5, 3) := by decide +kernel
theorem dX9_crown_19 : decode cX9_crown 19 = .ok (.iconst (-1), 1) := by decide +kernel
theorem dX9_crown_20 : decode cX9_crown 20 = .ok (.ireturn, 1) := by decide +kernel
theorem dX9_crown_21 : decode cX9_crown 21 = .ok (.aload_n 0, 1) := by decide +kernel
theorem dX9_crown_22 : decode cX9_crown 22 = .ok (.getfield 12, 3) := by decide +kernel
theorem dX9_crown_25 : decode cX9_crown 25 = .ok (.getfield 77, 3) := by decide +kernel
theorem dX9_crown_28 : decode cX9_crown 28 = .ok (.getfield 103, 3) := by decide +kernel
theorem dX9_crown_31 : decode cX9_crown 31 = .ok (.istore_n 2, 1) := by decide +kernel
theorem dX9_crown_32 : decode cX9_crown 32 = .ok (.aload_n 0, 1) := by decide +kernel
theorem dX9_crown_33 : decode cX9_crown 33 = .ok (.getfield 12, 3) := by decide +kernel
theorem dX9_crown_36 : decode cX9_crown 36 = .ok (.getfield 77, 3) := by decide +kernel
theorem dX9_crown_39 : decode cX9_crown 39 = .ok (.iload_n 1, 1) := by decide +kernel
theorem dX9_crown_40 : decode cX9_crown 40 = .ok (.iconst (-1), 1) := by decide +kernel
theorem dX9_crown_41 : decode cX9_crown 41 = .ok (.if_icmp .ne 8, 3) := by decide +kernel
theorem dX9_crown_44 : decode cX9_crown 44 = .ok (.bipush (-6), 2) := by decide +kernel
theorem dX9_crown_46 : decode cX9_crown 46 = .ok (.goto 4, 3) := by decide +kernel
theorem dX9_crown_49 : decode cX9_crown 49 = .ok (.iload_n 1, 1) := by decide +kernel
theorem dX9_crown_50 : decode cX9_crown 50 = .ok (.putfield 103, 3) := by decide +kernel
theorem dX9_crown_53 : decode cX9_crown 53 = .ok (.aload_n 0, 1) := by decide +kernel
theorem dX9_crown_54 : decode cX9_crown 54 = .ok (.getfield 12, 3) := by decide +kernel
theorem dX9_crown_57 : decode cX9_crown 57 = .ok (.getfield 77, 3) := by decide +kernel
theorem dX9_crown_60 : decode cX9_crown 60 = .ok (.bipush (-6), 2) := by decide +kernel
theorem dX9_crown_62 : decode cX9_crown 62 = .ok (.putfield 106, 3) := by decide +kernel
theorem dX9_crown_65 : decode cX9_crown 65 = .ok (.iload_n 2, 1) := by decide +kernel
theorem dX9_crown_66 : decode cX9_crown 66 = .ok (.ireturn, 1) := by decide +kernel
set_option maxRecDepth 20000 in
theorem ggX9_say_X4_write : GoodIn wsX9_say wsX4_write := goodIn_r _ [7, 8, 9, 16, 17] (by decide +kernel) (by decide +kernel)
set_option maxRecDepth 20000 in
theorem gX9_say_X4_write : GoodIn wsX9_say (wsV RX9 109 RX4 yX4_write wsX4_write) := goodIn_app (goodIn_of _ (by decide +kernel)) ggX9_say_X4_write
theorem dX9_say_0 : decode cX9_say 0 = .ok (.iload_n 1, 1) := by decide +kernel
theorem dX9_say_1 : decode cX9_say 1 = .ok (.bipush 33, 2) := by decide +kernel
theorem dX9_say_3 : decode cX9_say 3 = .ok (.if_icmp .lt 9, 3) := by decide +kernel
theorem dX9_say_6 : decode cX9_say 6 = .ok (.iload_n 1, 1) := by decide +kernel
theorem dX9_say_7 : decode cX9_say 7 = .ok (.bipush 126, 2) := by decide +kernel
theorem dX9_say_9 : decode cX9_say 9 = .ok (.if_icmp .le 6, 3) := by decide +kernel
theorem dX9_say_12 : decode cX9_say 12 = .ok (.bipush (-2), 2) := by decide +kernel
theorem dX9_say_14 : decode cX9_say 14 = .ok (.ireturn, 1) := by decide +kernel
theorem dX9_say_15 : decode cX9_say 15 = .ok (.aload_n 0, 1) := by decide +kernel
theorem dX9_say_16 : decode cX9_say 16 = .ok (.getfield 19, 3) := by decide +kernel
theorem dX9_say_19 : decode cX9_say 19 = .ok (.iload_n 1, 1) := by decide +kernel
theorem dX9_say_20 : decode cX9_say 20 = .ok (.invokevirtual 109, 3) := by decide +kernel
theorem dX9_say_23 : decode cX9_say 23 = .ok (.ifCond .eq 13, 3) := by decide +kernel
theorem dX9_say_26 : decode cX9_say 26 = .ok (.aload_n 0, 1) := by decide +kernel
theorem dX9_say_27 : decode cX9_say 27 = .ok (.getfield 19, 3) := by decide +kernel
theorem dX9_say_30 : decode cX9_say 30 = .ok (.getfield 112, 3) := by decide +kernel
theorem dX9_say_33 : decode cX9_say 33 = .ok (.goto 5, 3) := by decide +kernel
theorem dX9_say_36 : decode cX9_say 36 = .ok (.bipush (-4), 2) := by decide +kernel
theorem dX9_say_38 : decode cX9_say 38 = .ok (.ireturn, 1) := by decide +kernel
theorem dX9_wipe_0 : decode cX9_wipe 0 = .ok (.aload_n 0, 1) := by decide +kernel
theorem dX9_wipe_1 : decode cX9_wipe 1 = .ok (.getfield 19, 3) := by decide +kernel
theorem dX9_wipe_4 : decode cX9_wipe 4 = .ok (.getfield 112, 3) := by decide +kernel
theorem dX9_wipe_7 : decode cX9_wipe 7 = .ok (.istore_n 1, 1) := by decide +kernel
theorem dX9_wipe_8 : decode cX9_wipe 8 = .ok (.aload_n 0, 1) := by decide +kernel
theorem dX9_wipe_9 : decode cX9_wipe 9 = .ok (.getfield 19, 3) := by decide +kernel
theorem dX9_wipe_12 : decode cX9_wipe 12 = .ok (.iconst 0, 1) := by decide +kernel
theorem dX9_wipe_13 : decode cX9_wipe 13 = .ok (.putfield 112, 3) := by decide +kernel
theorem dX9_wipe_16 : decode cX9_wipe 16 = .ok (.iload_n 1, 1) := by decide +kernel
theorem dX9_wipe_17 : decode cX9_wipe 17 = .ok (.ireturn, 1) := by decide +kernel
set_option maxRecDepth 20000 in
theorem ggX9_fault_X4_firstFault : GoodIn wsX9_fault wsX4_firstFault := goodIn_r _ [6, 7, 8, 9, 10, 5, 11, 12, 13, 14, 15, 22, 23] (by decide +kernel) (by decide +kernel)
set_option maxRecDepth 20000 in
theorem gX9_fault_X4_firstFault : GoodIn wsX9_fault (wsV RX9 115 RX4 yX4_firstFault wsX4_firstFault) := goodIn_app (goodIn_of _ (by decide +kernel)) ggX9_fault_X4_firstFault
theorem dX9_fault_0 : decode cX9_fault 0 = .ok (.aload_n 0, 1) := by decide +kernel
theorem dX9_fault_1 : decode cX9_fault 1 = .ok (.getfield 19, 3) := by decide +kernel
theorem dX9_fault_4 : decode cX9_fault 4 = .ok (.invokevirtual 115, 3) := by decide +kernel
theorem dX9_fault_7 : decode cX9_fault 7 = .ok (.ireturn, 1) := by decide +kernel
set_option maxRecDepth 20000 in
theorem ggX9_judge_X4_firstFault : GoodIn wsX9_judge wsX4_firstFault := goodIn_r _ [10, 11, 12, 13, 14, 9, 15, 16, 17, 18, 19, 132, 133] (by decide +kernel) (by decide +kernel)
set_option maxRecDepth 20000 in
theorem gX9_judge_X4_firstFault : GoodIn wsX9_judge (wsV RX9 115 RX4 yX4_firstFault wsX4_firstFault) := goodIn_app (goodIn_of _ (by decide +kernel)) ggX9_judge_X4_firstFault
set_option maxRecDepth 20000 in
theorem ggX9_judge_X8_runDays : GoodIn wsX9_judge wsX8_runDays := goodIn_r _ [24, 25, 26, 27, 28, 29, 30, 31, 32, 33, 23, 34, 35, 36, 37, 38, 39, 40, 41, 42, 43, 44, 45, 46, 47, 48, 49, 50, 51, 52, 53, 54, 55, 56, 57, 9, 58, 12, 13, 14, 15, 11, 16, 59, 60, 61, 62, 63, 64, 65, 66, 67, 68, 69, 70, 71, 72, 73, 74, 75, 76, 77, 78, 79, 80, 81, 82, 83, 84, 85, 86, 87, 88, 89, 90, 91, 92, 93, 94, 95, 96, 97, 98, 99, 100, 101, 102, 103, 104, 105, 106, 107, 108, 109, 110, 111, 112, 113, 114, 115, 116, 117, 118, 119, 134, 135, 136, 137, 132, 133, 126, 127, 128, 129, 130, 131, 138, 139, 140, 141, 142, 143, 144, 145, 146, 147] (by decide +kernel) (by decide +kernel)
set_option maxRecDepth 20000 in
theorem gX9_judge_X8_runDays : GoodIn wsX9_judge (wsV RX9 118 RX8 yX8_runDays wsX8_runDays) := goodIn_app (goodIn_of _ (by decide +kernel)) ggX9_judge_X8_runDays
theorem dX9_judge_0 : decode cX9_judge 0 = .ok (.iload_n 1, 1) := by decide +kernel
theorem dX9_judge_1 : decode cX9_judge 1 = .ok (.ifCond .lt 8, 3) := by decide +kernel
theorem dX9_judge_4 : decode cX9_judge 4 = .ok (.iload_n 1, 1) := by decide +kernel
theorem dX9_judge_5 : decode cX9_judge 5 = .ok (.iconst 1, 1) := by decide +kernel
theorem dX9_judge_6 : decode cX9_judge 6 = .ok (.if_icmp .le 6, 3) := by decide +kernel
theorem dX9_judge_9 : decode cX9_judge 9 = .ok (.bipush (-2), 2) := by decide +kernel
theorem dX9_judge_11 : decode cX9_judge 11 = .ok (.ireturn, 1) := by decide +kernel
theorem dX9_judge_12 : decode cX9_judge 12 = .ok (.aload_n 0, 1) := by decide +kernel
theorem dX9_judge_13 : decode cX9_judge 13 = .ok (.getfield 19, 3) := by decide +kernel
theorem dX9_judge_16 : decode cX9_judge 16 = .ok (.invokevirtual 115, 3) := by decide +kernel
theorem dX9_judge_19 : decode cX9_judge 19 = .ok (.bipush (-6), 2) := by decide +kernel
theorem dX9_judge_21 : decode cX9_judge 21 = .ok (.if_icmp .eq 6, 3) := by decide +kernel
theorem dX9_judge_24 : decode cX9_judge 24 = .ok (.bipush (-5), 2) := by decide +kernel
theorem dX9_judge_26 : decode cX9_judge 26 = .ok (.ireturn, 1) := by decide +kernel
theorem dX9_judge_27 : decode cX9_judge 27 = .ok (.aload_n 0, 1) := by decide +kernel
theorem dX9_judge_28 : decode cX9_judge 28 = .ok (.getfield 26, 3) := by decide +kernel
theorem dX9_judge_31 : decode cX9_judge 31 = .ok (.aload_n 0, 1) := by decide +kernel
theorem dX9_judge_32 : decode cX9_judge 32 = .ok (.getfield 12, 3) := by decide +kernel
theorem dX9_judge_35 : decode cX9_judge 35 = .ok (.aload_n 0, 1) := by decide +kernel
theorem dX9_judge_36 : decode cX9_judge 36 = .ok (.getfield 19, 3) := by decide +kernel
theorem dX9_judge_39 : decode cX9_judge 39 = .ok (.invokevirtual 118, 3) := by decide +kernel
theorem dX9_judge_42 : decode cX9_judge 42 = .ok (.iload_n 1, 1) := by decide +kernel
theorem dX9_judge_43 : decode cX9_judge 43 = .ok (.ifCond .ne 13, 3) := by decide +kernel
theorem dX9_judge_46 : decode cX9_judge 46 = .ok (.aload_n 0, 1) := by decide +kernel
theorem dX9_judge_47 : decode cX9_judge 47 = .ok (.getfield 26, 3) := by decide +kernel
theorem dX9_judge_50 : decode cX9_judge 50 = .ok (.getfield 122, 3) := by decide +kernel
theorem dX9_judge_53 : decode cX9_judge 53 = .ok (.goto 10, 3) := by decide +kernel
theorem dX9_judge_56 : decode cX9_judge 56 = .ok (.aload_n 0, 1) := by decide +kernel
theorem dX9_judge_57 : decode cX9_judge 57 = .ok (.getfield 26, 3) := by decide +kernel
theorem dX9_judge_60 : decode cX9_judge 60 = .ok (.getfield 125, 3) := by decide +kernel
theorem dX9_judge_63 : decode cX9_judge 63 = .ok (.ireturn, 1) := by decide +kernel
set_option maxRecDepth 20000 in
theorem ggX9_done_X9_daysCanBe : GoodIn wsX9_done wsX9_daysCanBe := goodIn_r _ [12, 5, 3, 1, 13, 14, 15, 16, 17, 18, 19, 20, 21, 22, 23, 24, 25, 26, 27, 28, 29, 30, 31, 32, 33, 34, 35, 36, 37, 38, 39, 40, 41, 42, 43, 44, 45, 46, 47, 48, 49, 50, 51, 52, 53, 54, 55, 56, 57, 58, 59, 60, 61, 62, 63, 64, 65, 66, 67, 68, 69, 70, 71, 72, 73, 74, 75, 76, 77, 78, 79, 80, 81, 82, 83, 84, 85, 86, 87, 88, 11, 89, 90, 91, 92, 93, 94, 95, 96, 97, 98, 99, 100, 101, 102, 103, 104, 105, 106, 107, 108, 109, 110, 111, 112, 113, 114, 115, 116, 117, 118, 119, 120, 121, 122, 123, 124, 125, 126, 128, 129, 130, 131, 132, 133, 138, 139, 140, 141, 142, 143, 144, 145, 134, 135, 136, 137, 146, 147, 148, 149, 150, 151, 152, 153, 154, 155] (by decide +kernel) (by decide +kernel)
set_option maxRecDepth 20000 in
theorem gX9_done_X9_daysCanBe : GoodIn wsX9_done (wsV RX9 128 RX9 yX9_daysCanBe wsX9_daysCanBe) := goodIn_app (goodIn_of _ (by decide +kernel)) ggX9_done_X9_daysCanBe
set_option maxRecDepth 20000 in
theorem ggX9_done_X1_copy : GoodIn wsX9_done wsX1_copy := goodIn_r _ [50, 51, 52, 53, 54, 55, 56, 57, 58, 59, 60, 61, 62, 146, 147, 148, 149, 150, 151, 152, 153] (by decide +kernel) (by decide +kernel)
set_option maxRecDepth 20000 in
theorem gX9_done_X1_copy : GoodIn wsX9_done (wsV RX9 133 RX1 yX1_copy wsX1_copy) := goodIn_app (goodIn_of _ (by decide +kernel)) ggX9_done_X1_copy
theorem dX9_done_0 : decode cX9_done 0 = .ok (.aload_n 0, 1) := by decide +kernel
theorem dX9_done_1 : decode cX9_done 1 = .ok (.invokevirtual 128, 3) := by decide +kernel
theorem dX9_done_4 : decode cX9_done 4 = .ok (.ifCond .ne 6, 3) := by decide +kernel
theorem dX9_done_7 : decode cX9_done 7 = .ok (.bipush (-5), 2) := by decide +kernel
theorem dX9_done_9 : decode cX9_done 9 = .ok (.ireturn, 1) := by decide +kernel
theorem dX9_done_10 : decode cX9_done 10 = .ok (.aload_n 0, 1) := by decide +kernel
theorem dX9_done_11 : decode cX9_done 11 = .ok (.getfield 12, 3) := by decide +kernel
theorem dX9_done_14 : decode cX9_done 14 = .ok (.getfield 77, 3) := by decide +kernel
theorem dX9_done_17 : decode cX9_done 17 = .ok (.aload_n 0, 1) := by decide +kernel
theorem dX9_done_18 : decode cX9_done 18 = .ok (.getfield 26, 3) := by decide +kernel
theorem dX9_done_21 : decode cX9_done 21 = .ok (.getfield 132, 3) := by decide +kernel
theorem dX9_done_24 : decode cX9_done 24 = .ok (.invokevirtual 133, 3) := by decide +kernel
theorem dX9_done_27 : decode cX9_done 27 = .ok (.aload_n 0, 1) := by decide +kernel
theorem dX9_done_28 : decode cX9_done 28 = .ok (.getfield 19, 3) := by decide +kernel
theorem dX9_done_31 : decode cX9_done 31 = .ok (.iconst 0, 1) := by decide +kernel
theorem dX9_done_32 : decode cX9_done 32 = .ok (.putfield 112, 3) := by decide +kernel
theorem dX9_done_35 : decode cX9_done 35 = .ok (.aload_n 0, 1) := by decide +kernel
theorem dX9_done_36 : decode cX9_done 36 = .ok (.getfield 26, 3) := by decide +kernel
theorem dX9_done_39 : decode cX9_done 39 = .ok (.getfield 137, 3) := by decide +kernel
theorem dX9_done_42 : decode cX9_done 42 = .ok (.ireturn, 1) := by decide +kernel
set_option maxRecDepth 20000 in
theorem ggX9_behind_X1_isHere : GoodIn wsX9_behind wsX1_isHere := goodIn_r _ [9, 10, 11, 12, 13, 148, 149, 150, 151, 152, 153, 154, 155] (by decide +kernel) (by decide +kernel)
set_option maxRecDepth 20000 in
theorem gX9_behind_X1_isHere : GoodIn wsX9_behind (wsV RX9 96 RX1 yX1_isHere wsX1_isHere) := goodIn_app (goodIn_of _ (by decide +kernel)) ggX9_behind_X1_isHere
set_option maxRecDepth 20000 in
theorem ggX9_behind_X9_daysCanBe : GoodIn wsX9_behind wsX9_daysCanBe := goodIn_r _ [17, 18, 3, 1, 19, 20, 21, 22, 23, 24, 25, 26, 27, 28, 29, 30, 31, 32, 33, 34, 35, 36, 37, 38, 39, 40, 41, 42, 43, 44, 45, 46, 47, 48, 49, 50, 51, 52, 53, 54, 8, 55, 56, 57, 58, 59, 60, 61, 62, 10, 63, 64, 65, 66, 67, 68, 69, 70, 71, 72, 73, 74, 75, 76, 77, 78, 79, 80, 81, 82, 83, 84, 85, 86, 87, 88, 6, 7, 9, 11, 12, 13, 89, 90, 91, 92, 93, 94, 95, 96, 97, 98, 99, 100, 101, 102, 103, 104, 105, 106, 107, 108, 109, 110, 111, 112, 113, 114, 115, 116, 117, 118, 119, 120, 121, 122, 123, 124, 125, 132, 133, 134, 135, 136, 137, 142, 143, 144, 145, 146, 147, 156, 157, 138, 139, 140, 141, 148, 149, 150, 151, 152, 153, 154, 155, 158, 159] (by decide +kernel) (by decide +kernel)
set_option maxRecDepth 20000 in
theorem gX9_behind_X9_daysCanBe : GoodIn wsX9_behind (wsV RX9 128 RX9 yX9_daysCanBe wsX9_daysCanBe) := goodIn_app (goodIn_of _ (by decide +kernel)) ggX9_behind_X9_daysCanBe
set_option maxRecDepth 20000 in
theorem ggX9_behind_X1_placeOf : GoodIn wsX9_behind wsX1_placeOf := goodIn_r _ [96, 56, 148, 149, 150, 151, 152, 153, 154, 155] (by decide +kernel) (by decide +kernel)
set_option maxRecDepth 20000 in
theorem gX9_behind_X1_placeOf : GoodIn wsX9_behind (wsV RX9 140 RX1 yX1_placeOf wsX1_placeOf) := goodIn_app (goodIn_of _ (by decide +kernel)) ggX9_behind_X1_placeOf
set_option maxRecDepth 20000 in
theorem ggX9_behind_X1_breathOf : GoodIn wsX9_behind wsX1_breathOf := goodIn_r _ [106, 61, 148, 149, 150, 151, 152, 153, 154, 155] (by decide +kernel) (by decide +kernel)
set_option maxRecDepth 20000 in
theorem gX9_behind_X1_breathOf : GoodIn wsX9_behind (wsV RX9 143 RX1 yX1_breathOf wsX1_breathOf) := goodIn_app (goodIn_of _ (by decide +kernel)) ggX9_behind_X1_breathOf
set_option maxRecDepth 20000 in
theorem ggX9_behind_X1_reignOf : GoodIn wsX9_behind wsX1_reignOf := goodIn_r _ [131, 62, 148, 149, 150, 151, 152, 153, 154, 155] (by decide +kernel) (by decide +kernel)
set_option maxRecDepth 20000 in
theorem gX9_behind_X1_reignOf : GoodIn wsX9_behind (wsV RX9 146 RX1 yX1_reignOf wsX1_reignOf) := goodIn_app (goodIn_of _ (by decide +kernel)) ggX9_behind_X1_reignOf
theorem dX9_behind_0 : decode cX9_behind 0 = .ok (.aload_n 0, 1) := by decide +kernel
theorem dX9_behind_1 : decode cX9_behind 1 = .ok (.getfield 12, 3) := by decide +kernel
theorem dX9_behind_4 : decode cX9_behind 4 = .ok (.getfield 77, 3) := by decide +kernel
theorem dX9_behind_7 : decode cX9_behind 7 = .ok (.iload_n 1, 1) := by decide +kernel
theorem dX9_behind_8 : decode cX9_behind 8 = .ok (.invokevirtual 96, 3) := by decide +kernel
theorem dX9_behind_11 : decode cX9_behind 11 = .ok (.ifCond .ne 5, 3) := by decide +kernel
theorem dX9_behind_14 : decode cX9_behind 14 = .ok (.iconst (-1), 1) := by decide +kernel
theorem dX9_behind_15 : decode cX9_behind 15 = .ok (.ireturn, 1) := by decide +kernel
theorem dX9_behind_16 : decode cX9_behind 16 = .ok (.iload_n 2, 1) := by decide +kernel
theorem dX9_behind_17 : decode cX9_behind 17 = .ok (.ifCond .lt 8, 3) := by decide +kernel
theorem dX9_behind_20 : decode cX9_behind 20 = .ok (.iload_n 2, 1) := by decide +kernel
theorem dX9_behind_21 : decode cX9_behind 21 = .ok (.iconst 2, 1) := by decide +kernel
theorem dX9_behind_22 : decode cX9_behind 22 = .ok (.if_icmp .le 6, 3) := by decide +kernel
theorem dX9_behind_25 : decode cX9_behind 25 = .ok (.bipush (-2), 2) := by decide +kernel
theorem dX9_behind_27 : decode cX9_behind 27 = .ok (.ireturn, 1) := by decide +kernel
theorem dX9_behind_28 : decode cX9_behind 28 = .ok (.aload_n 0, 1) := by decide +kernel
theorem dX9_behind_29 : decode cX9_behind 29 = .ok (.invokevirtual 128, 3) := by decide +kernel
theorem dX9_behind_32 : decode cX9_behind 32 = .ok (.ifCond .ne 6, 3) := by decide +kernel
theorem dX9_behind_35 : decode cX9_behind 35 = .ok (.bipush (-5), 2) := by decide +kernel
theorem dX9_behind_37 : decode cX9_behind 37 = .ok (.ireturn, 1) := by decide +kernel
theorem dX9_behind_38 : decode cX9_behind 38 = .ok (.iload_n 2, 1) := by decide +kernel
theorem dX9_behind_39 : decode cX9_behind 39 = .ok (.ifCond .ne 15, 3) := by decide +kernel
theorem dX9_behind_42 : decode cX9_behind 42 = .ok (.aload_n 0, 1) := by decide +kernel
theorem dX9_behind_43 : decode cX9_behind 43 = .ok (.getfield 26, 3) := by decide +kernel
theorem dX9_behind_46 : decode cX9_behind 46 = .ok (.getfield 132, 3) := by decide +kernel
theorem dX9_behind_49 : decode cX9_behind 49 = .ok (.iload_n 1, 1) := by decide +kernel
theorem dX9_behind_50 : decode cX9_behind 50 = .ok (.invokevirtual 140, 3) := by decide +kernel
theorem dX9_behind_53 : decode cX9_behind 53 = .ok (.ireturn, 1) := by decide +kernel
theorem dX9_behind_54 : decode cX9_behind 54 = .ok (.iload_n 2, 1) := by decide +kernel
theorem dX9_behind_55 : decode cX9_behind 55 = .ok (.iconst 1, 1) := by decide +kernel
theorem dX9_behind_56 : decode cX9_behind 56 = .ok (.if_icmp .ne 17, 3) := by decide +kernel
theorem dX9_behind_59 : decode cX9_behind 59 = .ok (.aload_n 0, 1) := by decide +kernel
theorem dX9_behind_60 : decode cX9_behind 60 = .ok (.getfield 26, 3) := by decide +kernel
theorem dX9_behind_63 : decode cX9_behind 63 = .ok (.getfield 132, 3) := by decide +kernel
theorem dX9_behind_66 : decode cX9_behind 66 = .ok (.iload_n 1, 1) := by decide +kernel
theorem dX9_behind_67 : decode cX9_behind 67 = .ok (.invokevirtual 143, 3) := by decide +kernel
theorem dX9_behind_70 : decode cX9_behind 70 = .ok (.goto 14, 3) := by decide +kernel
theorem dX9_behind_73 : decode cX9_behind 73 = .ok (.aload_n 0, 1) := by decide +kernel
theorem dX9_behind_74 : decode cX9_behind 74 = .ok (.getfield 26, 3) := by decide +kernel
theorem dX9_behind_77 : decode cX9_behind 77 = .ok (.getfield 132, 3) := by decide +kernel
theorem dX9_behind_80 : decode cX9_behind 80 = .ok (.iload_n 1, 1) := by decide +kernel
theorem dX9_behind_81 : decode cX9_behind 81 = .ok (.invokevirtual 146, 3) := by decide +kernel
theorem dX9_behind_84 : decode cX9_behind 84 = .ok (.ireturn, 1) := by decide +kernel
set_option maxRecDepth 20000 in
theorem ggX9_then_X9_daysCanBe : GoodIn wsX9_then wsX9_daysCanBe := goodIn_r _ [12, 13, 1, 14, 15, 16, 17, 18, 19, 20, 21, 22, 23, 24, 25, 26, 27, 28, 29, 30, 31, 32, 33, 34, 35, 36, 37, 38, 39, 40, 41, 42, 43, 44, 45, 46, 47, 48, 49, 50, 51, 52, 53, 54, 55, 56, 57, 58, 59, 60, 61, 62, 63, 64, 65, 66, 67, 68, 69, 70, 71, 72, 73, 74, 75, 76, 77, 78, 79, 80, 81, 82, 83, 84, 85, 86, 87, 88, 89, 90, 11, 91, 92, 93, 94, 95, 96, 97, 98, 99, 100, 101, 102, 103, 104, 105, 106, 107, 108, 109, 110, 111, 112, 113, 114, 115, 116, 117, 118, 119, 120, 121, 122, 123, 124, 125, 126, 127, 128, 129, 130, 131, 132, 133, 134, 135, 136, 137, 138, 139, 140, 149, 150, 151, 152, 153, 154, 141, 142, 143, 144, 145, 146, 147, 148, 155, 156] (by decide +kernel) (by decide +kernel)
set_option maxRecDepth 20000 in
theorem gX9_then_X9_daysCanBe : GoodIn wsX9_then (wsV RX9 128 RX9 yX9_daysCanBe wsX9_daysCanBe) := goodIn_app (goodIn_of _ (by decide +kernel)) ggX9_then_X9_daysCanBe
theorem dX9_then_0 : decode cX9_then 0 = .ok (.iload_n 1, 1) := by decide +kernel
theorem dX9_then_1 : decode cX9_then 1 = .ok (.ifCond .lt 8, 3) := by decide +kernel
theorem dX9_then_4 : decode cX9_then 4 = .ok (.iload_n 1, 1) := by decide +kernel
theorem dX9_then_5 : decode cX9_then 5 = .ok (.iconst 4, 1) := by decide +kernel
theorem dX9_then_6 : decode cX9_then 6 = .ok (.if_icmp .le 6, 3) := by decide +kernel
theorem dX9_then_9 : decode cX9_then 9 = .ok (.bipush (-2), 2) := by decide +kernel
theorem dX9_then_11 : decode cX9_then 11 = .ok (.ireturn, 1) := by decide +kernel
theorem dX9_then_12 : decode cX9_then 12 = .ok (.aload_n 0, 1) := by decide +kernel
theorem dX9_then_13 : decode cX9_then 13 = .ok (.invokevirtual 128, 3) := by decide +kernel
theorem dX9_then_16 : decode cX9_then 16 = .ok (.ifCond .ne 6, 3) := by decide +kernel
theorem dX9_then_19 : decode cX9_then 19 = .ok (.bipush (-5), 2) := by decide +kernel
theorem dX9_then_21 : decode cX9_then 21 = .ok (.ireturn, 1) := by decide +kernel
theorem dX9_then_22 : decode cX9_then 22 = .ok (.iload_n 1, 1) := by decide +kernel
theorem dX9_then_23 : decode cX9_then 23 = .ok (.tableswitch 70 0 3 #[29, 40, 51, 62], 29) := by decide +kernel
theorem dX9_then_52 : decode cX9_then 52 = .ok (.aload_n 0, 1) := by decide +kernel
theorem dX9_then_53 : decode cX9_then 53 = .ok (.getfield 26, 3) := by decide +kernel
theorem dX9_then_56 : decode cX9_then 56 = .ok (.getfield 132, 3) := by decide +kernel
theorem dX9_then_59 : decode cX9_then 59 = .ok (.getfield 103, 3) := by decide +kernel
theorem dX9_then_62 : decode cX9_then 62 = .ok (.ireturn, 1) := by decide +kernel
theorem dX9_then_63 : decode cX9_then 63 = .ok (.aload_n 0, 1) := by decide +kernel
theorem dX9_then_64 : decode cX9_then 64 = .ok (.getfield 26, 3) := by decide +kernel
theorem dX9_then_67 : decode cX9_then 67 = .ok (.getfield 132, 3) := by decide +kernel
theorem dX9_then_70 : decode cX9_then 70 = .ok (.getfield 106, 3) := by decide +kernel
theorem dX9_then_73 : decode cX9_then 73 = .ok (.ireturn, 1) := by decide +kernel
theorem dX9_then_74 : decode cX9_then 74 = .ok (.aload_n 0, 1) := by decide +kernel
theorem dX9_then_75 : decode cX9_then 75 = .ok (.getfield 26, 3) := by decide +kernel
theorem dX9_then_78 : decode cX9_then 78 = .ok (.getfield 132, 3) := by decide +kernel
theorem dX9_then_81 : decode cX9_then 81 = .ok (.getfield 149, 3) := by decide +kernel
theorem dX9_then_84 : decode cX9_then 84 = .ok (.ireturn, 1) := by decide +kernel
theorem dX9_then_85 : decode cX9_then 85 = .ok (.aload_n 0, 1) := by decide +kernel
theorem dX9_then_86 : decode cX9_then 86 = .ok (.getfield 26, 3) := by decide +kernel
theorem dX9_then_89 : decode cX9_then 89 = .ok (.getfield 152, 3) := by decide +kernel
theorem dX9_then_92 : decode cX9_then 92 = .ok (.ireturn, 1) := by decide +kernel
theorem dX9_then_93 : decode cX9_then 93 = .ok (.aload_n 0, 1) := by decide +kernel
theorem dX9_then_94 : decode cX9_then 94 = .ok (.getfield 26, 3) := by decide +kernel
theorem dX9_then_97 : decode cX9_then 97 = .ok (.getfield 155, 3) := by decide +kernel
theorem dX9_then_100 : decode cX9_then 100 = .ok (.ireturn, 1) := by decide +kernel
set_option maxRecDepth 20000 in
theorem ggX9_far_X9_isPlace : GoodIn wsX9_far wsX9_isPlace := goodIn_r _ [6] (by decide +kernel) (by decide +kernel)
set_option maxRecDepth 20000 in
theorem gX9_far_X9_isPlace : GoodIn wsX9_far (va_wsS RX9 48 yX9_isPlace wsX9_isPlace) := goodIn_app (goodIn_of _ (by decide +kernel)) ggX9_far_X9_isPlace
set_option maxRecDepth 20000 in
theorem ggX9_far_X2_distance : GoodIn wsX9_far wsX2_distance := goodIn_r _ [11, 12, 5, 13, 14, 15, 16, 10, 17, 18, 29, 30] (by decide +kernel) (by decide +kernel)
set_option maxRecDepth 20000 in
theorem gX9_far_X2_distance : GoodIn wsX9_far (wsV RX9 158 RX2 yX2_distance wsX2_distance) := goodIn_app (goodIn_of _ (by decide +kernel)) ggX9_far_X2_distance
theorem dX9_far_0 : decode cX9_far 0 = .ok (.iload_n 1, 1) := by decide +kernel
theorem dX9_far_1 : decode cX9_far 1 = .ok (.invokestatic 48, 3) := by decide +kernel
theorem dX9_far_4 : decode cX9_far 4 = .ok (.ifCond .eq 10, 3) := by decide +kernel
theorem dX9_far_7 : decode cX9_far 7 = .ok (.iload_n 2, 1) := by decide +kernel
theorem dX9_far_8 : decode cX9_far 8 = .ok (.invokestatic 48, 3) := by decide +kernel
theorem dX9_far_11 : decode cX9_far 11 = .ok (.ifCond .ne 5, 3) := by decide +kernel
theorem dX9_far_14 : decode cX9_far 14 = .ok (.iconst (-1), 1) := by decide +kernel
theorem dX9_far_15 : decode cX9_far 15 = .ok (.ireturn, 1) := by decide +kernel
theorem dX9_far_16 : decode cX9_far 16 = .ok (.aload_n 0, 1) := by decide +kernel
theorem dX9_far_17 : decode cX9_far 17 = .ok (.getfield 12, 3) := by decide +kernel
theorem dX9_far_20 : decode cX9_far 20 = .ok (.getfield 52, 3) := by decide +kernel
theorem dX9_far_23 : decode cX9_far 23 = .ok (.iload_n 1, 1) := by decide +kernel
theorem dX9_far_24 : decode cX9_far 24 = .ok (.iload_n 2, 1) := by decide +kernel
theorem dX9_far_25 : decode cX9_far 25 = .ok (.invokevirtual 158, 3) := by decide +kernel
theorem dX9_far_28 : decode cX9_far 28 = .ok (.ireturn, 1) := by decide +kernel
set_option maxRecDepth 20000 in
theorem ggX9_rounds_X9_isPlace : GoodIn wsX9_rounds wsX9_isPlace := goodIn_r _ [7] (by decide +kernel) (by decide +kernel)
set_option maxRecDepth 20000 in
theorem gX9_rounds_X9_isPlace : GoodIn wsX9_rounds (va_wsS RX9 48 yX9_isPlace wsX9_isPlace) := goodIn_app (goodIn_of _ (by decide +kernel)) ggX9_rounds_X9_isPlace
set_option maxRecDepth 20000 in
theorem ggX9_rounds_X0_fewestRounds : GoodIn wsX9_rounds wsX0_fewestRounds := goodIn_r _ [12, 13, 14, 15, 11, 16, 17, 18, 19, 20, 21, 22, 23, 24, 6, 25, 26, 27, 28, 29, 5, 7, 30, 31, 32, 33, 34, 35, 36, 37, 38, 39, 40, 41, 42, 43, 44, 45, 46, 47, 58, 59, 60, 61] (by decide +kernel) (by decide +kernel)
set_option maxRecDepth 20000 in
theorem gX9_rounds_X0_fewestRounds : GoodIn wsX9_rounds (wsV RX9 162 RX0 yX0_fewestRounds wsX0_fewestRounds) := goodIn_app (goodIn_of _ (by decide +kernel)) ggX9_rounds_X0_fewestRounds
theorem dX9_rounds_0 : decode cX9_rounds 0 = .ok (.iload_n 1, 1) := by decide +kernel
theorem dX9_rounds_1 : decode cX9_rounds 1 = .ok (.invokestatic 48, 3) := by decide +kernel
theorem dX9_rounds_4 : decode cX9_rounds 4 = .ok (.ifCond .eq 10, 3) := by decide +kernel
theorem dX9_rounds_7 : decode cX9_rounds 7 = .ok (.iload_n 2, 1) := by decide +kernel
theorem dX9_rounds_8 : decode cX9_rounds 8 = .ok (.invokestatic 48, 3) := by decide +kernel
theorem dX9_rounds_11 : decode cX9_rounds 11 = .ok (.ifCond .ne 5, 3) := by decide +kernel
theorem dX9_rounds_14 : decode cX9_rounds 14 = .ok (.iconst (-1), 1) := by decide +kernel
theorem dX9_rounds_15 : decode cX9_rounds 15 = .ok (.ireturn, 1) := by decide +kernel
theorem dX9_rounds_16 : decode cX9_rounds 16 = .ok (.aload_n 0, 1) := by decide +kernel
theorem dX9_rounds_17 : decode cX9_rounds 17 = .ok (.getfield 33, 3) := by decide +kernel
theorem dX9_rounds_20 : decode cX9_rounds 20 = .ok (.aload_n 0, 1) := by decide +kernel
theorem dX9_rounds_21 : decode cX9_rounds 21 = .ok (.getfield 12, 3) := by decide +kernel
theorem dX9_rounds_24 : decode cX9_rounds 24 = .ok (.getfield 52, 3) := by decide +kernel
theorem dX9_rounds_27 : decode cX9_rounds 27 = .ok (.iload_n 1, 1) := by decide +kernel
theorem dX9_rounds_28 : decode cX9_rounds 28 = .ok (.iload_n 2, 1) := by decide +kernel
theorem dX9_rounds_29 : decode cX9_rounds 29 = .ok (.invokevirtual 162, 3) := by decide +kernel
theorem dX9_rounds_32 : decode cX9_rounds 32 = .ok (.ireturn, 1) := by decide +kernel
set_option maxRecDepth 20000 in
theorem ggX9_heads_X9_isPlace : GoodIn wsX9_heads wsX9_isPlace := goodIn_r _ [7] (by decide +kernel) (by decide +kernel)
set_option maxRecDepth 20000 in
theorem gX9_heads_X9_isPlace : GoodIn wsX9_heads (va_wsS RX9 48 yX9_isPlace wsX9_isPlace) := goodIn_app (goodIn_of _ (by decide +kernel)) ggX9_heads_X9_isPlace
set_option maxRecDepth 20000 in
theorem ggX9_heads_X0_kingsStep : GoodIn wsX9_heads wsX0_kingsStep := goodIn_r _ [12, 13, 14, 15, 16, 11, 17, 18, 19, 20, 21, 22, 23, 24, 25, 26, 27, 28, 29, 6, 30, 31, 32, 33, 34, 5, 7, 35, 36, 37, 38, 39, 40, 41, 42, 43, 44, 45, 46, 47, 48, 49, 50, 51, 62, 63, 64, 65] (by decide +kernel) (by decide +kernel)
set_option maxRecDepth 20000 in
theorem gX9_heads_X0_kingsStep : GoodIn wsX9_heads (wsV RX9 166 RX0 yX0_kingsStep wsX0_kingsStep) := goodIn_app (goodIn_of _ (by decide +kernel)) ggX9_heads_X0_kingsStep
theorem dX9_heads_0 : decode cX9_heads 0 = .ok (.iload_n 1, 1) := by decide +kernel
theorem dX9_heads_1 : decode cX9_heads 1 = .ok (.invokestatic 48, 3) := by decide +kernel
theorem dX9_heads_4 : decode cX9_heads 4 = .ok (.ifCond .eq 10, 3) := by decide +kernel
theorem dX9_heads_7 : decode cX9_heads 7 = .ok (.iload_n 2, 1) := by decide +kernel
theorem dX9_heads_8 : decode cX9_heads 8 = .ok (.invokestatic 48, 3) := by decide +kernel
theorem dX9_heads_11 : decode cX9_heads 11 = .ok (.ifCond .ne 5, 3) := by decide +kernel
theorem dX9_heads_14 : decode cX9_heads 14 = .ok (.iconst (-1), 1) := by decide +kernel
theorem dX9_heads_15 : decode cX9_heads 15 = .ok (.ireturn, 1) := by decide +kernel
theorem dX9_heads_16 : decode cX9_heads 16 = .ok (.aload_n 0, 1) := by decide +kernel
theorem dX9_heads_17 : decode cX9_heads 17 = .ok (.getfield 33, 3) := by decide +kernel
theorem dX9_heads_20 : decode cX9_heads 20 = .ok (.aload_n 0, 1) := by decide +kernel
theorem dX9_heads_21 : decode cX9_heads 21 = .ok (.getfield 12, 3) := by decide +kernel
theorem dX9_heads_24 : decode cX9_heads 24 = .ok (.getfield 52, 3) := by decide +kernel
theorem dX9_heads_27 : decode cX9_heads 27 = .ok (.iload_n 1, 1) := by decide +kernel
theorem dX9_heads_28 : decode cX9_heads 28 = .ok (.iload_n 2, 1) := by decide +kernel
theorem dX9_heads_29 : decode cX9_heads 29 = .ok (.invokevirtual 166, 3) := by decide +kernel
theorem dX9_heads_32 : decode cX9_heads 32 = .ok (.ireturn, 1) := by decide +kernel
set_option maxRecDepth 20000 in
theorem ggX9_flees_X9_isPlace : GoodIn wsX9_flees wsX9_isPlace := goodIn_r _ [7] (by decide +kernel) (by decide +kernel)
set_option maxRecDepth 20000 in
theorem gX9_flees_X9_isPlace : GoodIn wsX9_flees (va_wsS RX9 48 yX9_isPlace wsX9_isPlace) := goodIn_app (goodIn_of _ (by decide +kernel)) ggX9_flees_X9_isPlace
set_option maxRecDepth 20000 in
theorem ggX9_flees_X0_othersStep : GoodIn wsX9_flees wsX0_othersStep := goodIn_r _ [12, 13, 14, 15, 11, 16, 17, 18, 19, 20, 21, 22, 23, 24, 6, 25, 26, 27, 28, 29, 5, 7, 30, 31, 32, 33, 34, 35, 36, 37, 38, 39, 40, 41, 42, 43, 44, 45, 46, 47, 48, 49, 50, 61, 62, 63, 64] (by decide +kernel) (by decide +kernel)
set_option maxRecDepth 20000 in
theorem gX9_flees_X0_othersStep : GoodIn wsX9_flees (wsV RX9 169 RX0 yX0_othersStep wsX0_othersStep) := goodIn_app (goodIn_of _ (by decide +kernel)) ggX9_flees_X0_othersStep
theorem dX9_flees_0 : decode cX9_flees 0 = .ok (.iload_n 1, 1) := by decide +kernel
theorem dX9_flees_1 : decode cX9_flees 1 = .ok (.invokestatic 48, 3) := by decide +kernel
theorem dX9_flees_4 : decode cX9_flees 4 = .ok (.ifCond .eq 10, 3) := by decide +kernel
theorem dX9_flees_7 : decode cX9_flees 7 = .ok (.iload_n 2, 1) := by decide +kernel
theorem dX9_flees_8 : decode cX9_flees 8 = .ok (.invokestatic 48, 3) := by decide +kernel
theorem dX9_flees_11 : decode cX9_flees 11 = .ok (.ifCond .ne 5, 3) := by decide +kernel
theorem dX9_flees_14 : decode cX9_flees 14 = .ok (.iconst (-1), 1) := by decide +kernel
theorem dX9_flees_15 : decode cX9_flees 15 = .ok (.ireturn, 1) := by decide +kernel
theorem dX9_flees_16 : decode cX9_flees 16 = .ok (.aload_n 0, 1) := by decide +kernel
theorem dX9_flees_17 : decode cX9_flees 17 = .ok (.getfield 33, 3) := by decide +kernel
theorem dX9_flees_20 : decode cX9_flees 20 = .ok (.aload_n 0, 1) := by decide +kernel
theorem dX9_flees_21 : decode cX9_flees 21 = .ok (.getfield 12, 3) := by decide +kernel
theorem dX9_flees_24 : decode cX9_flees 24 = .ok (.getfield 52, 3) := by decide +kernel
theorem dX9_flees_27 : decode cX9_flees 27 = .ok (.iload_n 1, 1) := by decide +kernel
theorem dX9_flees_28 : decode cX9_flees 28 = .ok (.iload_n 2, 1) := by decide +kernel
theorem dX9_flees_29 : decode cX9_flees 29 = .ok (.invokevirtual 169, 3) := by decide +kernel
theorem dX9_flees_32 : decode cX9_flees 32 = .ok (.ireturn, 1) := by decide +kernel
set_option maxRecDepth 20000 in
theorem ggX9_shade_X6_fewestHomes : GoodIn wsX9_shade wsX6_fewestHomes := goodIn_r _ [8, 9, 10, 11, 12, 13, 14, 15, 16, 17, 18, 19, 20, 21, 22, 23, 24, 25, 26, 27, 28, 29, 30, 31, 32, 7, 33, 45, 46, 47] (by decide +kernel) (by decide +kernel)
set_option maxRecDepth 20000 in
theorem gX9_shade_X6_fewestHomes : GoodIn wsX9_shade (wsV RX9 172 RX6 yX6_fewestHomes wsX6_fewestHomes) := goodIn_app (goodIn_of _ (by decide +kernel)) ggX9_shade_X6_fewestHomes
set_option maxRecDepth 20000 in
theorem ggX9_shade_J6_bitCount_0f7a4 : GoodIn wsX9_shade wsJ6_bitCount_0f7a4 := goodIn_r _ [26, 27, 28, 29] (by decide +kernel) (by decide +kernel)
set_option maxRecDepth 20000 in
theorem gX9_shade_J6_bitCount_0f7a4 : GoodIn wsX9_shade (va_wsS RX9 90 yJ6_bitCount_0f7a4 wsJ6_bitCount_0f7a4) := goodIn_app (goodIn_of _ (by decide +kernel)) ggX9_shade_J6_bitCount_0f7a4
theorem dX9_shade_0 : decode cX9_shade 0 = .ok (.iload_n 1, 1) := by decide +kernel
theorem dX9_shade_1 : decode cX9_shade 1 = .ok (.ifCond .lt 18, 3) := by decide +kernel
theorem dX9_shade_4 : decode cX9_shade 4 = .ok (.iload_n 1, 1) := by decide +kernel
theorem dX9_shade_5 : decode cX9_shade 5 = .ok (.bipush 12, 2) := by decide +kernel
theorem dX9_shade_7 : decode cX9_shade 7 = .ok (.if_icmp .ge 12, 3) := by decide +kernel
theorem dX9_shade_10 : decode cX9_shade 10 = .ok (.iload_n 2, 1) := by decide +kernel
theorem dX9_shade_11 : decode cX9_shade 11 = .ok (.ifCond .lt 8, 3) := by decide +kernel
theorem dX9_shade_14 : decode cX9_shade 14 = .ok (.iload_n 2, 1) := by decide +kernel
theorem dX9_shade_15 : decode cX9_shade 15 = .ok (.iconst 1, 1) := by decide +kernel
theorem dX9_shade_16 : decode cX9_shade 16 = .ok (.if_icmp .le 6, 3) := by decide +kernel
theorem dX9_shade_19 : decode cX9_shade 19 = .ok (.bipush (-2), 2) := by decide +kernel
theorem dX9_shade_21 : decode cX9_shade 21 = .ok (.ireturn, 1) := by decide +kernel
theorem dX9_shade_22 : decode cX9_shade 22 = .ok (.aload_n 0, 1) := by decide +kernel
theorem dX9_shade_23 : decode cX9_shade 23 = .ok (.getfield 40, 3) := by decide +kernel
theorem dX9_shade_26 : decode cX9_shade 26 = .ok (.aload_n 0, 1) := by decide +kernel
theorem dX9_shade_27 : decode cX9_shade 27 = .ok (.getfield 12, 3) := by decide +kernel
theorem dX9_shade_30 : decode cX9_shade 30 = .ok (.getfield 52, 3) := by decide +kernel
theorem dX9_shade_33 : decode cX9_shade 33 = .ok (.iload_n 1, 1) := by decide +kernel
theorem dX9_shade_34 : decode cX9_shade 34 = .ok (.invokevirtual 172, 3) := by decide +kernel
theorem dX9_shade_37 : decode cX9_shade 37 = .ok (.istore_n 3, 1) := by decide +kernel
theorem dX9_shade_38 : decode cX9_shade 38 = .ok (.iload_n 2, 1) := by decide +kernel
theorem dX9_shade_39 : decode cX9_shade 39 = .ok (.ifCond .ne 10, 3) := by decide +kernel
theorem dX9_shade_42 : decode cX9_shade 42 = .ok (.iload_n 3, 1) := by decide +kernel
theorem dX9_shade_43 : decode cX9_shade 43 = .ok (.invokestatic 90, 3) := by decide +kernel
theorem dX9_shade_46 : decode cX9_shade 46 = .ok (.goto 4, 3) := by decide +kernel
theorem dX9_shade_49 : decode cX9_shade 49 = .ok (.iload_n 3, 1) := by decide +kernel
theorem dX9_shade_50 : decode cX9_shade 50 = .ok (.ireturn, 1) := by decide +kernel
set_option maxRecDepth 20000 in
theorem ggX9_met_X9_isOne : GoodIn wsX9_met wsX9_isOne := goodIn_r _ [7] (by decide +kernel) (by decide +kernel)
set_option maxRecDepth 20000 in
theorem gX9_met_X9_isOne : GoodIn wsX9_met (va_wsS RX9 74 yX9_isOne wsX9_isOne) := goodIn_app (goodIn_of _ (by decide +kernel)) ggX9_met_X9_isOne
set_option maxRecDepth 20000 in
theorem ggX9_met_X3_add : GoodIn wsX9_met wsX3_add := goodIn_r _ [12, 13, 14, 15, 26, 27, 28, 29, 30] (by decide +kernel) (by decide +kernel)
set_option maxRecDepth 20000 in
theorem gX9_met_X3_add : GoodIn wsX9_met (wsV RX9 180 RX3 yX3_add wsX3_add) := goodIn_app (goodIn_of _ (by decide +kernel)) ggX9_met_X3_add
theorem dX9_met_0 : decode cX9_met 0 = .ok (.iload_n 1, 1) := by decide +kernel
theorem dX9_met_1 : decode cX9_met 1 = .ok (.invokestatic 74, 3) := by decide +kernel
theorem dX9_met_4 : decode cX9_met 4 = .ok (.ifCond .eq 15, 3) := by decide +kernel
theorem dX9_met_7 : decode cX9_met 7 = .ok (.iload_n 2, 1) := by decide +kernel
theorem dX9_met_8 : decode cX9_met 8 = .ok (.invokestatic 74, 3) := by decide +kernel
theorem dX9_met_11 : decode cX9_met 11 = .ok (.ifCond .eq 8, 3) := by decide +kernel
theorem dX9_met_14 : decode cX9_met 14 = .ok (.iload_n 1, 1) := by decide +kernel
theorem dX9_met_15 : decode cX9_met 15 = .ok (.iload_n 2, 1) := by decide +kernel
theorem dX9_met_16 : decode cX9_met 16 = .ok (.if_icmp .ne 5, 3) := by decide +kernel
theorem dX9_met_19 : decode cX9_met 19 = .ok (.iconst (-1), 1) := by decide +kernel
theorem dX9_met_20 : decode cX9_met 20 = .ok (.ireturn, 1) := by decide +kernel
theorem dX9_met_21 : decode cX9_met 21 = .ok (.aload_n 0, 1) := by decide +kernel
theorem dX9_met_22 : decode cX9_met 22 = .ok (.getfield 12, 3) := by decide +kernel
theorem dX9_met_25 : decode cX9_met 25 = .ok (.getfield 176, 3) := by decide +kernel
theorem dX9_met_28 : decode cX9_met 28 = .ok (.iload_n 1, 1) := by decide +kernel
theorem dX9_met_29 : decode cX9_met 29 = .ok (.iload_n 2, 1) := by decide +kernel
theorem dX9_met_30 : decode cX9_met 30 = .ok (.invokevirtual 180, 3) := by decide +kernel
theorem dX9_met_33 : decode cX9_met 33 = .ok (.ifCond .eq 16, 3) := by decide +kernel
theorem dX9_met_36 : decode cX9_met 36 = .ok (.aload_n 0, 1) := by decide +kernel
theorem dX9_met_37 : decode cX9_met 37 = .ok (.getfield 12, 3) := by decide +kernel
theorem dX9_met_40 : decode cX9_met 40 = .ok (.getfield 176, 3) := by decide +kernel
theorem dX9_met_43 : decode cX9_met 43 = .ok (.getfield 186, 3) := by decide +kernel
theorem dX9_met_46 : decode cX9_met 46 = .ok (.goto 5, 3) := by decide +kernel
theorem dX9_met_49 : decode cX9_met 49 = .ok (.bipush (-4), 2) := by decide +kernel
theorem dX9_met_51 : decode cX9_met 51 = .ok (.ireturn, 1) := by decide +kernel
theorem dX9_unmeet_0 : decode cX9_unmeet 0 = .ok (.aload_n 0, 1) := by decide +kernel
theorem dX9_unmeet_1 : decode cX9_unmeet 1 = .ok (.getfield 12, 3) := by decide +kernel
theorem dX9_unmeet_4 : decode cX9_unmeet 4 = .ok (.getfield 176, 3) := by decide +kernel
theorem dX9_unmeet_7 : decode cX9_unmeet 7 = .ok (.getfield 186, 3) := by decide +kernel
theorem dX9_unmeet_10 : decode cX9_unmeet 10 = .ok (.istore_n 1, 1) := by decide +kernel
theorem dX9_unmeet_11 : decode cX9_unmeet 11 = .ok (.aload_n 0, 1) := by decide +kernel
theorem dX9_unmeet_12 : decode cX9_unmeet 12 = .ok (.getfield 12, 3) := by decide +kernel
theorem dX9_unmeet_15 : decode cX9_unmeet 15 = .ok (.getfield 176, 3) := by decide +kernel
theorem dX9_unmeet_18 : decode cX9_unmeet 18 = .ok (.iconst 0, 1) := by decide +kernel
theorem dX9_unmeet_19 : decode cX9_unmeet 19 = .ok (.putfield 186, 3) := by decide +kernel
theorem dX9_unmeet_22 : decode cX9_unmeet 22 = .ok (.iload_n 1, 1) := by decide +kernel
theorem dX9_unmeet_23 : decode cX9_unmeet 23 = .ok (.ireturn, 1) := by decide +kernel
set_option maxRecDepth 20000 in
theorem ggX9_maybe_X9_isOne : GoodIn wsX9_maybe wsX9_isOne := goodIn_r _ [6] (by decide +kernel) (by decide +kernel)
set_option maxRecDepth 20000 in
theorem gX9_maybe_X9_isOne : GoodIn wsX9_maybe (va_wsS RX9 74 yX9_isOne wsX9_isOne) := goodIn_app (goodIn_of _ (by decide +kernel)) ggX9_maybe_X9_isOne
set_option maxRecDepth 20000 in
theorem ggX9_maybe_X3_possibleKings : GoodIn wsX9_maybe wsX3_possibleKings := goodIn_r _ [11, 12, 13, 14, 15, 16, 10, 17, 18, 19, 20, 21, 5, 22, 33, 34, 35, 36, 37] (by decide +kernel) (by decide +kernel)
set_option maxRecDepth 20000 in
theorem gX9_maybe_X3_possibleKings : GoodIn wsX9_maybe (wsV RX9 187 RX3 yX3_possibleKings wsX3_possibleKings) := goodIn_app (goodIn_of _ (by decide +kernel)) ggX9_maybe_X3_possibleKings
theorem dX9_maybe_0 : decode cX9_maybe 0 = .ok (.iload_n 1, 1) := by decide +kernel
theorem dX9_maybe_1 : decode cX9_maybe 1 = .ok (.invokestatic 74, 3) := by decide +kernel
theorem dX9_maybe_4 : decode cX9_maybe 4 = .ok (.ifCond .ne 5, 3) := by decide +kernel
theorem dX9_maybe_7 : decode cX9_maybe 7 = .ok (.iconst (-1), 1) := by decide +kernel
theorem dX9_maybe_8 : decode cX9_maybe 8 = .ok (.ireturn, 1) := by decide +kernel
theorem dX9_maybe_9 : decode cX9_maybe 9 = .ok (.aload_n 0, 1) := by decide +kernel
theorem dX9_maybe_10 : decode cX9_maybe 10 = .ok (.getfield 12, 3) := by decide +kernel
theorem dX9_maybe_13 : decode cX9_maybe 13 = .ok (.getfield 176, 3) := by decide +kernel
theorem dX9_maybe_16 : decode cX9_maybe 16 = .ok (.iload_n 1, 1) := by decide +kernel
theorem dX9_maybe_17 : decode cX9_maybe 17 = .ok (.invokevirtual 187, 3) := by decide +kernel
theorem dX9_maybe_20 : decode cX9_maybe 20 = .ok (.ireturn, 1) := by decide +kernel
set_option maxRecDepth 20000 in
theorem ggX9_touches_X9_isOne : GoodIn wsX9_touches wsX9_isOne := goodIn_r _ [6] (by decide +kernel) (by decide +kernel)
set_option maxRecDepth 20000 in
theorem gX9_touches_X9_isOne : GoodIn wsX9_touches (va_wsS RX9 74 yX9_isOne wsX9_isOne) := goodIn_app (goodIn_of _ (by decide +kernel)) ggX9_touches_X9_isOne
set_option maxRecDepth 20000 in
theorem ggX9_touches_X3_fewestTouches : GoodIn wsX9_touches wsX3_fewestTouches := goodIn_r _ [11, 12, 13, 14, 15, 16, 17, 10, 18, 19, 20, 21, 5, 22, 33, 34, 35, 36, 37] (by decide +kernel) (by decide +kernel)
set_option maxRecDepth 20000 in
theorem gX9_touches_X3_fewestTouches : GoodIn wsX9_touches (wsV RX9 190 RX3 yX3_fewestTouches wsX3_fewestTouches) := goodIn_app (goodIn_of _ (by decide +kernel)) ggX9_touches_X3_fewestTouches
theorem dX9_touches_0 : decode cX9_touches 0 = .ok (.iload_n 1, 1) := by decide +kernel
theorem dX9_touches_1 : decode cX9_touches 1 = .ok (.invokestatic 74, 3) := by decide +kernel
theorem dX9_touches_4 : decode cX9_touches 4 = .ok (.ifCond .eq 10, 3) := by decide +kernel
theorem dX9_touches_7 : decode cX9_touches 7 = .ok (.iload_n 2, 1) := by decide +kernel
theorem dX9_touches_8 : decode cX9_touches 8 = .ok (.invokestatic 74, 3) := by decide +kernel
theorem dX9_touches_11 : decode cX9_touches 11 = .ok (.ifCond .ne 5, 3) := by decide +kernel
theorem dX9_touches_14 : decode cX9_touches 14 = .ok (.iconst (-1), 1) := by decide +kernel
theorem dX9_touches_15 : decode cX9_touches 15 = .ok (.ireturn, 1) := by decide +kernel
theorem dX9_touches_16 : decode cX9_touches 16 = .ok (.aload_n 0, 1) := by decide +kernel
theorem dX9_touches_17 : decode cX9_touches 17 = .ok (.getfield 12, 3) := by decide +kernel
theorem dX9_touches_20 : decode cX9_touches 20 = .ok (.getfield 176, 3) := by decide +kernel
theorem dX9_touches_23 : decode cX9_touches 23 = .ok (.iload_n 1, 1) := by decide +kernel
theorem dX9_touches_24 : decode cX9_touches 24 = .ok (.iload_n 2, 1) := by decide +kernel
theorem dX9_touches_25 : decode cX9_touches 25 = .ok (.invokevirtual 190, 3) := by decide +kernel
theorem dX9_touches_28 : decode cX9_touches 28 = .ok (.ireturn, 1) := by decide +kernel
set_option maxRecDepth 20000 in
theorem ggX9_chance_X9_isOne : GoodIn wsX9_chance wsX9_isOne := goodIn_r _ [8] (by decide +kernel) (by decide +kernel)
set_option maxRecDepth 20000 in
theorem gX9_chance_X9_isOne : GoodIn wsX9_chance (va_wsS RX9 74 yX9_isOne wsX9_isOne) := goodIn_app (goodIn_of _ (by decide +kernel)) ggX9_chance_X9_isOne
set_option maxRecDepth 20000 in
theorem ggX9_chance_X3_weightOf : GoodIn wsX9_chance wsX3_weightOf := goodIn_r _ [13, 14, 15, 16, 17, 18, 12, 19, 20, 21, 22, 23, 7, 24, 25, 26, 27, 28, 50, 51, 52, 53, 54] (by decide +kernel) (by decide +kernel)
set_option maxRecDepth 20000 in
theorem gX9_chance_X3_weightOf : GoodIn wsX9_chance (wsV RX9 197 RX3 yX3_weightOf wsX3_weightOf) := goodIn_app (goodIn_of _ (by decide +kernel)) ggX9_chance_X3_weightOf
set_option maxRecDepth 20000 in
theorem ggX9_chance_X3_weightOfAll : GoodIn wsX9_chance wsX3_weightOfAll := goodIn_r _ [32, 14, 33, 50, 51, 52, 53, 54] (by decide +kernel) (by decide +kernel)
set_option maxRecDepth 20000 in
theorem gX9_chance_X3_weightOfAll : GoodIn wsX9_chance (wsV RX9 201 RX3 yX3_weightOfAll wsX3_weightOfAll) := goodIn_app (goodIn_of _ (by decide +kernel)) ggX9_chance_X3_weightOfAll
set_option maxRecDepth 20000 in
theorem ggX9_chance_X9_commonDivisor : GoodIn wsX9_chance wsX9_commonDivisor := goodIn_r _ [36] (by decide +kernel) (by decide +kernel)
set_option maxRecDepth 20000 in
theorem gX9_chance_X9_commonDivisor : GoodIn wsX9_chance (va_wsS RX9 205 yX9_commonDivisor wsX9_commonDivisor) := goodIn_app (goodIn_of _ (by decide +kernel)) ggX9_chance_X9_commonDivisor
set_option maxRecDepth 20000 in
theorem ggX9_chance_X9_divided : GoodIn wsX9_chance wsX9_divided := goodIn_r _ [39] (by decide +kernel) (by decide +kernel)
set_option maxRecDepth 20000 in
theorem gX9_chance_X9_divided : GoodIn wsX9_chance (va_wsS RX9 209 yX9_divided wsX9_divided) := goodIn_app (goodIn_of _ (by decide +kernel)) ggX9_chance_X9_divided
theorem dX9_chance_0 : decode cX9_chance 0 = .ok (.iload_n 1, 1) := by decide +kernel
theorem dX9_chance_1 : decode cX9_chance 1 = .ok (.invokestatic 74, 3) := by decide +kernel
theorem dX9_chance_4 : decode cX9_chance 4 = .ok (.ifCond .eq 10, 3) := by decide +kernel
theorem dX9_chance_7 : decode cX9_chance 7 = .ok (.iload_n 2, 1) := by decide +kernel
theorem dX9_chance_8 : decode cX9_chance 8 = .ok (.invokestatic 74, 3) := by decide +kernel
theorem dX9_chance_11 : decode cX9_chance 11 = .ok (.ifCond .ne 7, 3) := by decide +kernel
theorem dX9_chance_14 : decode cX9_chance 14 = .ok (.ldc2_w 193, 3) := by decide +kernel
theorem dX9_chance_17 : decode cX9_chance 17 = .ok (.lreturn, 1) := by decide +kernel
theorem dX9_chance_18 : decode cX9_chance 18 = .ok (.iload_n 3, 1) := by decide +kernel
theorem dX9_chance_19 : decode cX9_chance 19 = .ok (.ifCond .lt 20, 3) := by decide +kernel
theorem dX9_chance_22 : decode cX9_chance 22 = .ok (.iload_n 3, 1) := by decide +kernel
theorem dX9_chance_23 : decode cX9_chance 23 = .ok (.bipush 10, 2) := by decide +kernel
theorem dX9_chance_25 : decode cX9_chance 25 = .ok (.if_icmp .gt 14, 3) := by decide +kernel
theorem dX9_chance_28 : decode cX9_chance 28 = .ok (.iload 4, 2) := by decide +kernel
theorem dX9_chance_30 : decode cX9_chance 30 = .ok (.ifCond .lt 9, 3) := by decide +kernel
theorem dX9_chance_33 : decode cX9_chance 33 = .ok (.iload 4, 2) := by decide +kernel
theorem dX9_chance_35 : decode cX9_chance 35 = .ok (.iconst 1, 1) := by decide +kernel
theorem dX9_chance_36 : decode cX9_chance 36 = .ok (.if_icmp .le 7, 3) := by decide +kernel
theorem dX9_chance_39 : decode cX9_chance 39 = .ok (.ldc2_w 195, 3) := by decide +kernel
theorem dX9_chance_42 : decode cX9_chance 42 = .ok (.lreturn, 1) := by decide +kernel
theorem dX9_chance_43 : decode cX9_chance 43 = .ok (.aload_n 0, 1) := by decide +kernel
theorem dX9_chance_44 : decode cX9_chance 44 = .ok (.getfield 12, 3) := by decide +kernel
theorem dX9_chance_47 : decode cX9_chance 47 = .ok (.getfield 176, 3) := by decide +kernel
theorem dX9_chance_50 : decode cX9_chance 50 = .ok (.iload_n 1, 1) := by decide +kernel
theorem dX9_chance_51 : decode cX9_chance 51 = .ok (.iload_n 2, 1) := by decide +kernel
theorem dX9_chance_52 : decode cX9_chance 52 = .ok (.iload_n 3, 1) := by decide +kernel
theorem dX9_chance_53 : decode cX9_chance 53 = .ok (.invokevirtual 197, 3) := by decide +kernel
theorem dX9_chance_56 : decode cX9_chance 56 = .ok (.lstore 5, 2) := by decide +kernel
theorem dX9_chance_58 : decode cX9_chance 58 = .ok (.aload_n 0, 1) := by decide +kernel
theorem dX9_chance_59 : decode cX9_chance 59 = .ok (.getfield 12, 3) := by decide +kernel
theorem dX9_chance_62 : decode cX9_chance 62 = .ok (.getfield 176, 3) := by decide +kernel
theorem dX9_chance_65 : decode cX9_chance 65 = .ok (.invokevirtual 201, 3) := by decide +kernel
theorem dX9_chance_68 : decode cX9_chance 68 = .ok (.lstore 7, 2) := by decide +kernel
theorem dX9_chance_70 : decode cX9_chance 70 = .ok (.lload 7, 2) := by decide +kernel
theorem dX9_chance_72 : decode cX9_chance 72 = .ok (.lload 5, 2) := by decide +kernel
theorem dX9_chance_74 : decode cX9_chance 74 = .ok (.invokestatic 205, 3) := by decide +kernel
theorem dX9_chance_77 : decode cX9_chance 77 = .ok (.lstore 9, 2) := by decide +kernel
theorem dX9_chance_79 : decode cX9_chance 79 = .ok (.iload 4, 2) := by decide +kernel
theorem dX9_chance_81 : decode cX9_chance 81 = .ok (.ifCond .ne 8, 3) := by decide +kernel
theorem dX9_chance_84 : decode cX9_chance 84 = .ok (.lload 5, 2) := by decide +kernel
theorem dX9_chance_86 : decode cX9_chance 86 = .ok (.goto 5, 3) := by decide +kernel
theorem dX9_chance_89 : decode cX9_chance 89 = .ok (.lload 7, 2) := by decide +kernel
theorem dX9_chance_91 : decode cX9_chance 91 = .ok (.lload 9, 2) := by decide +kernel
theorem dX9_chance_93 : decode cX9_chance 93 = .ok (.invokestatic 209, 3) := by decide +kernel
theorem dX9_chance_96 : decode cX9_chance 96 = .ok (.lreturn, 1) := by decide +kernel
set_option maxRecDepth 20000 in
theorem ggX9_seen_X9_isPlace : GoodIn wsX9_seen wsX9_isPlace := goodIn_r _ [7] (by decide +kernel) (by decide +kernel)
set_option maxRecDepth 20000 in
theorem gX9_seen_X9_isPlace : GoodIn wsX9_seen (va_wsS RX9 48 yX9_isPlace wsX9_isPlace) := goodIn_app (goodIn_of _ (by decide +kernel)) ggX9_seen_X9_isPlace
set_option maxRecDepth 20000 in
theorem ggX9_seen_X7_add : GoodIn wsX9_seen wsX7_add := goodIn_r _ [12, 13, 14, 15, 16, 17, 6, 18, 29, 30, 31, 32] (by decide +kernel) (by decide +kernel)
set_option maxRecDepth 20000 in
theorem gX9_seen_X7_add : GoodIn wsX9_seen (wsV RX9 216 RX7 yX7_add wsX7_add) := goodIn_app (goodIn_of _ (by decide +kernel)) ggX9_seen_X7_add
theorem dX9_seen_0 : decode cX9_seen 0 = .ok (.iload_n 1, 1) := by decide +kernel
theorem dX9_seen_1 : decode cX9_seen 1 = .ok (.invokestatic 48, 3) := by decide +kernel
theorem dX9_seen_4 : decode cX9_seen 4 = .ok (.ifCond .eq 10, 3) := by decide +kernel
theorem dX9_seen_7 : decode cX9_seen 7 = .ok (.iload_n 2, 1) := by decide +kernel
theorem dX9_seen_8 : decode cX9_seen 8 = .ok (.invokestatic 48, 3) := by decide +kernel
theorem dX9_seen_11 : decode cX9_seen 11 = .ok (.ifCond .ne 5, 3) := by decide +kernel
theorem dX9_seen_14 : decode cX9_seen 14 = .ok (.iconst (-1), 1) := by decide +kernel
theorem dX9_seen_15 : decode cX9_seen 15 = .ok (.ireturn, 1) := by decide +kernel
theorem dX9_seen_16 : decode cX9_seen 16 = .ok (.aload_n 0, 1) := by decide +kernel
theorem dX9_seen_17 : decode cX9_seen 17 = .ok (.getfield 12, 3) := by decide +kernel
theorem dX9_seen_20 : decode cX9_seen 20 = .ok (.getfield 212, 3) := by decide +kernel
theorem dX9_seen_23 : decode cX9_seen 23 = .ok (.iload_n 1, 1) := by decide +kernel
theorem dX9_seen_24 : decode cX9_seen 24 = .ok (.iload_n 2, 1) := by decide +kernel
theorem dX9_seen_25 : decode cX9_seen 25 = .ok (.iload_n 3, 1) := by decide +kernel
theorem dX9_seen_26 : decode cX9_seen 26 = .ok (.invokevirtual 216, 3) := by decide +kernel
theorem dX9_seen_29 : decode cX9_seen 29 = .ok (.ifCond .eq 16, 3) := by decide +kernel
theorem dX9_seen_32 : decode cX9_seen 32 = .ok (.aload_n 0, 1) := by decide +kernel
theorem dX9_seen_33 : decode cX9_seen 33 = .ok (.getfield 12, 3) := by decide +kernel
theorem dX9_seen_36 : decode cX9_seen 36 = .ok (.getfield 212, 3) := by decide +kernel
theorem dX9_seen_39 : decode cX9_seen 39 = .ok (.getfield 221, 3) := by decide +kernel
theorem dX9_seen_42 : decode cX9_seen 42 = .ok (.goto 5, 3) := by decide +kernel
theorem dX9_seen_45 : decode cX9_seen 45 = .ok (.bipush (-4), 2) := by decide +kernel
theorem dX9_seen_47 : decode cX9_seen 47 = .ok (.ireturn, 1) := by decide +kernel
theorem dX9_forget_0 : decode cX9_forget 0 = .ok (.aload_n 0, 1) := by decide +kernel
theorem dX9_forget_1 : decode cX9_forget 1 = .ok (.getfield 12, 3) := by decide +kernel
theorem dX9_forget_4 : decode cX9_forget 4 = .ok (.getfield 212, 3) := by decide +kernel
theorem dX9_forget_7 : decode cX9_forget 7 = .ok (.getfield 221, 3) := by decide +kernel
theorem dX9_forget_10 : decode cX9_forget 10 = .ok (.istore_n 1, 1) := by decide +kernel
theorem dX9_forget_11 : decode cX9_forget 11 = .ok (.aload_n 0, 1) := by decide +kernel
theorem dX9_forget_12 : decode cX9_forget 12 = .ok (.getfield 12, 3) := by decide +kernel
theorem dX9_forget_15 : decode cX9_forget 15 = .ok (.getfield 212, 3) := by decide +kernel
theorem dX9_forget_18 : decode cX9_forget 18 = .ok (.iconst 0, 1) := by decide +kernel
theorem dX9_forget_19 : decode cX9_forget 19 = .ok (.putfield 221, 3) := by decide +kernel
theorem dX9_forget_22 : decode cX9_forget 22 = .ok (.iload_n 1, 1) := by decide +kernel
theorem dX9_forget_23 : decode cX9_forget 23 = .ok (.ireturn, 1) := by decide +kernel
set_option maxRecDepth 20000 in
theorem ggX9_lairs_X7_fitting : GoodIn wsX9_lairs wsX7_fitting := goodIn_r _ [8, 9, 10, 11, 12, 13, 14, 15, 16, 17, 18, 19, 20, 21, 22, 23, 24, 25, 36, 37, 38, 39, 40, 41] (by decide +kernel) (by decide +kernel)
set_option maxRecDepth 20000 in
theorem gX9_lairs_X7_fitting : GoodIn wsX9_lairs (wsV RX9 222 RX7 yX7_fitting wsX7_fitting) := goodIn_app (goodIn_of _ (by decide +kernel)) ggX9_lairs_X7_fitting
theorem dX9_lairs_0 : decode cX9_lairs 0 = .ok (.aload_n 0, 1) := by decide +kernel
theorem dX9_lairs_1 : decode cX9_lairs 1 = .ok (.getfield 12, 3) := by decide +kernel
theorem dX9_lairs_4 : decode cX9_lairs 4 = .ok (.getfield 212, 3) := by decide +kernel
theorem dX9_lairs_7 : decode cX9_lairs 7 = .ok (.aload_n 0, 1) := by decide +kernel
theorem dX9_lairs_8 : decode cX9_lairs 8 = .ok (.getfield 12, 3) := by decide +kernel
theorem dX9_lairs_11 : decode cX9_lairs 11 = .ok (.getfield 52, 3) := by decide +kernel
theorem dX9_lairs_14 : decode cX9_lairs 14 = .ok (.invokevirtual 222, 3) := by decide +kernel
theorem dX9_lairs_17 : decode cX9_lairs 17 = .ok (.ireturn, 1) := by decide +kernel
set_option maxRecDepth 20000 in
theorem ggX9_ask_X7_fitting : GoodIn wsX9_ask wsX7_fitting := goodIn_r _ [8, 9, 10, 11, 12, 13, 14, 15, 16, 17, 18, 19, 20, 21, 22, 23, 24, 25, 51, 52, 53, 54, 55, 56] (by decide +kernel) (by decide +kernel)
set_option maxRecDepth 20000 in
theorem gX9_ask_X7_fitting : GoodIn wsX9_ask (wsV RX9 222 RX7 yX7_fitting wsX7_fitting) := goodIn_app (goodIn_of _ (by decide +kernel)) ggX9_ask_X7_fitting
set_option maxRecDepth 20000 in
theorem ggX9_ask_X2_mostLeft : GoodIn wsX9_ask wsX2_mostLeft := goodIn_r _ [29, 30, 31, 32, 33, 34, 35, 36, 37, 38, 39, 40, 21, 22, 23, 19, 24, 25, 13, 14, 15, 55, 56] (by decide +kernel) (by decide +kernel)
set_option maxRecDepth 20000 in
theorem gX9_ask_X2_mostLeft : GoodIn wsX9_ask (wsV RX9 226 RX2 yX2_mostLeft wsX2_mostLeft) := goodIn_app (goodIn_of _ (by decide +kernel)) ggX9_ask_X2_mostLeft
theorem dX9_ask_0 : decode cX9_ask 0 = .ok (.iload_n 1, 1) := by decide +kernel
theorem dX9_ask_1 : decode cX9_ask 1 = .ok (.ifCond .lt 8, 3) := by decide +kernel
theorem dX9_ask_4 : decode cX9_ask 4 = .ok (.iload_n 1, 1) := by decide +kernel
theorem dX9_ask_5 : decode cX9_ask 5 = .ok (.iconst 1, 1) := by decide +kernel
theorem dX9_ask_6 : decode cX9_ask 6 = .ok (.if_icmp .le 6, 3) := by decide +kernel
theorem dX9_ask_9 : decode cX9_ask 9 = .ok (.bipush (-2), 2) := by decide +kernel
theorem dX9_ask_11 : decode cX9_ask 11 = .ok (.ireturn, 1) := by decide +kernel
theorem dX9_ask_12 : decode cX9_ask 12 = .ok (.aload_n 0, 1) := by decide +kernel
theorem dX9_ask_13 : decode cX9_ask 13 = .ok (.getfield 12, 3) := by decide +kernel
theorem dX9_ask_16 : decode cX9_ask 16 = .ok (.getfield 212, 3) := by decide +kernel
theorem dX9_ask_19 : decode cX9_ask 19 = .ok (.aload_n 0, 1) := by decide +kernel
theorem dX9_ask_20 : decode cX9_ask 20 = .ok (.getfield 12, 3) := by decide +kernel
theorem dX9_ask_23 : decode cX9_ask 23 = .ok (.getfield 52, 3) := by decide +kernel
theorem dX9_ask_26 : decode cX9_ask 26 = .ok (.invokevirtual 222, 3) := by decide +kernel
theorem dX9_ask_29 : decode cX9_ask 29 = .ok (.istore_n 2, 1) := by decide +kernel
theorem dX9_ask_30 : decode cX9_ask 30 = .ok (.iload_n 2, 1) := by decide +kernel
theorem dX9_ask_31 : decode cX9_ask 31 = .ok (.ifCond .ne 6, 3) := by decide +kernel
theorem dX9_ask_34 : decode cX9_ask 34 = .ok (.bipush (-6), 2) := by decide +kernel
theorem dX9_ask_36 : decode cX9_ask 36 = .ok (.ireturn, 1) := by decide +kernel
theorem dX9_ask_37 : decode cX9_ask 37 = .ok (.iconst 0, 1) := by decide +kernel
theorem dX9_ask_38 : decode cX9_ask 38 = .ok (.istore_n 3, 1) := by decide +kernel
theorem dX9_ask_39 : decode cX9_ask 39 = .ok (.aload_n 0, 1) := by decide +kernel
theorem dX9_ask_40 : decode cX9_ask 40 = .ok (.getfield 12, 3) := by decide +kernel
theorem dX9_ask_43 : decode cX9_ask 43 = .ok (.getfield 52, 3) := by decide +kernel
theorem dX9_ask_46 : decode cX9_ask 46 = .ok (.iload_n 3, 1) := by decide +kernel
theorem dX9_ask_47 : decode cX9_ask 47 = .ok (.iload_n 2, 1) := by decide +kernel
theorem dX9_ask_48 : decode cX9_ask 48 = .ok (.invokevirtual 226, 3) := by decide +kernel
theorem dX9_ask_51 : decode cX9_ask 51 = .ok (.istore 4, 2) := by decide +kernel
theorem dX9_ask_53 : decode cX9_ask 53 = .ok (.iconst 1, 1) := by decide +kernel
theorem dX9_ask_54 : decode cX9_ask 54 = .ok (.istore 5, 2) := by decide +kernel
theorem dX9_ask_56 : decode cX9_ask 56 = .ok (.iload 5, 2) := by decide +kernel
theorem dX9_ask_58 : decode cX9_ask 58 = .ok (.bipush 12, 2) := by decide +kernel
theorem dX9_ask_60 : decode cX9_ask 60 = .ok (.if_icmp .ge 38, 3) := by decide +kernel
theorem dX9_ask_63 : decode cX9_ask 63 = .ok (.aload_n 0, 1) := by decide +kernel
theorem dX9_ask_64 : decode cX9_ask 64 = .ok (.getfield 12, 3) := by decide +kernel
theorem dX9_ask_67 : decode cX9_ask 67 = .ok (.getfield 52, 3) := by decide +kernel
theorem dX9_ask_70 : decode cX9_ask 70 = .ok (.iload 5, 2) := by decide +kernel
theorem dX9_ask_72 : decode cX9_ask 72 = .ok (.iload_n 2, 1) := by decide +kernel
theorem dX9_ask_73 : decode cX9_ask 73 = .ok (.invokevirtual 226, 3) := by decide +kernel
theorem dX9_ask_76 : decode cX9_ask 76 = .ok (.istore 6, 2) := by decide +kernel
theorem dX9_ask_78 : decode cX9_ask 78 = .ok (.iload 6, 2) := by decide +kernel
theorem dX9_ask_80 : decode cX9_ask 80 = .ok (.iload 4, 2) := by decide +kernel
theorem dX9_ask_82 : decode cX9_ask 82 = .ok (.if_icmp .ge 10, 3) := by decide +kernel
theorem dX9_ask_85 : decode cX9_ask 85 = .ok (.iload 5, 2) := by decide +kernel
theorem dX9_ask_87 : decode cX9_ask 87 = .ok (.istore_n 3, 1) := by decide +kernel
theorem dX9_ask_88 : decode cX9_ask 88 = .ok (.iload 6, 2) := by decide +kernel
theorem dX9_ask_90 : decode cX9_ask 90 = .ok (.istore 4, 2) := by decide +kernel
theorem dX9_ask_92 : decode cX9_ask 92 = .ok (.iinc 5 1, 3) := by decide +kernel
theorem dX9_ask_95 : decode cX9_ask 95 = .ok (.goto (-39), 3) := by decide +kernel
theorem dX9_ask_98 : decode cX9_ask 98 = .ok (.iload_n 1, 1) := by decide +kernel
theorem dX9_ask_99 : decode cX9_ask 99 = .ok (.ifCond .ne 7, 3) := by decide +kernel
theorem dX9_ask_102 : decode cX9_ask 102 = .ok (.iload_n 3, 1) := by decide +kernel
theorem dX9_ask_103 : decode cX9_ask 103 = .ok (.goto 5, 3) := by decide +kernel
theorem dX9_ask_106 : decode cX9_ask 106 = .ok (.iload 4, 2) := by decide +kernel
theorem dX9_ask_108 : decode cX9_ask 108 = .ok (.ireturn, 1) := by decide +kernel
set_option maxRecDepth 20000 in
theorem ggX9_year_X8_runYear : GoodIn wsX9_year wsX8_runYear := goodIn_r _ [10, 11, 12, 13, 14, 15, 16, 9, 17, 18, 19, 20, 21, 22, 23, 24, 25, 26, 27, 28, 29, 30, 31, 32, 33, 34, 35, 36, 37, 38, 39, 40, 41, 42, 43, 44, 45, 46, 47, 48, 49, 50, 51, 52, 53, 54, 55, 56, 57, 58, 59, 60, 61, 62, 63, 64, 65, 66, 67, 68, 69, 70, 71, 72, 73, 74, 75, 76, 77, 78, 79, 80, 81, 82, 83, 84, 85, 86, 87, 88, 89, 90, 91, 116, 117, 118, 119, 102, 103, 104, 105, 106, 107, 108, 109, 110, 111, 112, 113, 114, 115, 120, 121] (by decide +kernel) (by decide +kernel)
set_option maxRecDepth 20000 in
theorem gX9_year_X8_runYear : GoodIn wsX9_year (wsV RX9 229 RX8 yX8_runYear wsX8_runYear) := goodIn_app (goodIn_of _ (by decide +kernel)) ggX9_year_X8_runYear
set_option maxRecDepth 20000 in
theorem ggX9_year_X1_allBreath : GoodIn wsX9_year wsX1_allBreath := goodIn_r _ [95, 34, 52, 53, 54, 27, 55, 36, 56, 57, 58, 108, 109, 110, 111, 112, 113, 114, 115] (by decide +kernel) (by decide +kernel)
set_option maxRecDepth 20000 in
theorem gX9_year_X1_allBreath : GoodIn wsX9_year (wsV RX9 233 RX1 yX1_allBreath wsX1_allBreath) := goodIn_app (goodIn_of _ (by decide +kernel)) ggX9_year_X1_allBreath
theorem dX9_year_0 : decode cX9_year 0 = .ok (.iload_n 1, 1) := by decide +kernel
theorem dX9_year_1 : decode cX9_year 1 = .ok (.ifCond .lt 21, 3) := by decide +kernel
theorem dX9_year_4 : decode cX9_year 4 = .ok (.iload_n 1, 1) := by decide +kernel
theorem dX9_year_5 : decode cX9_year 5 = .ok (.sipush 9999, 3) := by decide +kernel
theorem dX9_year_8 : decode cX9_year 8 = .ok (.if_icmp .gt 14, 3) := by decide +kernel
theorem dX9_year_11 : decode cX9_year 11 = .ok (.iload_n 2, 1) := by decide +kernel
theorem dX9_year_12 : decode cX9_year 12 = .ok (.iconst 1, 1) := by decide +kernel
theorem dX9_year_13 : decode cX9_year 13 = .ok (.if_icmp .lt 9, 3) := by decide +kernel
theorem dX9_year_16 : decode cX9_year 16 = .ok (.iload_n 2, 1) := by decide +kernel
theorem dX9_year_17 : decode cX9_year 17 = .ok (.bipush 99, 2) := by decide +kernel
theorem dX9_year_19 : decode cX9_year 19 = .ok (.if_icmp .le 6, 3) := by decide +kernel
theorem dX9_year_22 : decode cX9_year 22 = .ok (.bipush (-2), 2) := by decide +kernel
theorem dX9_year_24 : decode cX9_year 24 = .ok (.ireturn, 1) := by decide +kernel
theorem dX9_year_25 : decode cX9_year 25 = .ok (.iload_n 3, 1) := by decide +kernel
theorem dX9_year_26 : decode cX9_year 26 = .ok (.ifCond .lt 8, 3) := by decide +kernel
theorem dX9_year_29 : decode cX9_year 29 = .ok (.iload_n 3, 1) := by decide +kernel
theorem dX9_year_30 : decode cX9_year 30 = .ok (.iconst 2, 1) := by decide +kernel
theorem dX9_year_31 : decode cX9_year 31 = .ok (.if_icmp .le 6, 3) := by decide +kernel
theorem dX9_year_34 : decode cX9_year 34 = .ok (.bipush (-2), 2) := by decide +kernel
theorem dX9_year_36 : decode cX9_year 36 = .ok (.ireturn, 1) := by decide +kernel
theorem dX9_year_37 : decode cX9_year 37 = .ok (.aload_n 0, 1) := by decide +kernel
theorem dX9_year_38 : decode cX9_year 38 = .ok (.getfield 26, 3) := by decide +kernel
theorem dX9_year_41 : decode cX9_year 41 = .ok (.aload_n 0, 1) := by decide +kernel
theorem dX9_year_42 : decode cX9_year 42 = .ok (.getfield 12, 3) := by decide +kernel
theorem dX9_year_45 : decode cX9_year 45 = .ok (.iload_n 1, 1) := by decide +kernel
theorem dX9_year_46 : decode cX9_year 46 = .ok (.iload_n 2, 1) := by decide +kernel
theorem dX9_year_47 : decode cX9_year 47 = .ok (.invokevirtual 229, 3) := by decide +kernel
theorem dX9_year_50 : decode cX9_year 50 = .ok (.iload_n 3, 1) := by decide +kernel
theorem dX9_year_51 : decode cX9_year 51 = .ok (.ifCond .ne 11, 3) := by decide +kernel
theorem dX9_year_54 : decode cX9_year 54 = .ok (.aload_n 0, 1) := by decide +kernel
theorem dX9_year_55 : decode cX9_year 55 = .ok (.getfield 26, 3) := by decide +kernel
theorem dX9_year_58 : decode cX9_year 58 = .ok (.getfield 152, 3) := by decide +kernel
theorem dX9_year_61 : decode cX9_year 61 = .ok (.ireturn, 1) := by decide +kernel
theorem dX9_year_62 : decode cX9_year 62 = .ok (.iload_n 3, 1) := by decide +kernel
theorem dX9_year_63 : decode cX9_year 63 = .ok (.iconst 1, 1) := by decide +kernel
theorem dX9_year_64 : decode cX9_year 64 = .ok (.if_icmp .ne 16, 3) := by decide +kernel
theorem dX9_year_67 : decode cX9_year 67 = .ok (.aload_n 0, 1) := by decide +kernel
theorem dX9_year_68 : decode cX9_year 68 = .ok (.getfield 26, 3) := by decide +kernel
theorem dX9_year_71 : decode cX9_year 71 = .ok (.getfield 132, 3) := by decide +kernel
theorem dX9_year_74 : decode cX9_year 74 = .ok (.getfield 103, 3) := by decide +kernel
theorem dX9_year_77 : decode cX9_year 77 = .ok (.goto 13, 3) := by decide +kernel
theorem dX9_year_80 : decode cX9_year 80 = .ok (.aload_n 0, 1) := by decide +kernel
theorem dX9_year_81 : decode cX9_year 81 = .ok (.getfield 26, 3) := by decide +kernel
theorem dX9_year_84 : decode cX9_year 84 = .ok (.getfield 132, 3) := by decide +kernel
theorem dX9_year_87 : decode cX9_year 87 = .ok (.invokevirtual 233, 3) := by decide +kernel
theorem dX9_year_90 : decode cX9_year 90 = .ok (.ireturn, 1) := by decide +kernel
set_option maxRecDepth 20000 in
theorem ggX9_image_X5_init : GoodIn wsX9_image wsX5_init := goodIn_r _ [7, 8, 9, 10, 11, 12, 13, 14, 15, 16, 17, 18, 19, 20, 21, 22, 23, 24, 25, 26, 27, 28, 29, 30, 31, 32, 33, 34, 35, 36, 37, 38, 39, 40, 41, 42, 43, 44, 45, 46, 47, 48, 49, 50, 51, 52, 53, 54, 55, 56, 57, 58, 96, 97, 92, 93, 94, 95, 98, 99, 100, 101, 102, 103, 104, 105, 106, 107, 108, 109, 110, 111, 112, 113, 114] (by decide +kernel) (by decide +kernel)
set_option maxRecDepth 20000 in
theorem gX9_image_X5_init_n11 : GoodIn wsX9_image (wsX5_init) := ggX9_image_X5_init
set_option maxRecDepth 20000 in
theorem ggX9_image_X5_copy : GoodIn wsX9_image wsX5_copy := goodIn_r _ [62, 14, 18, 22, 26, 63, 64, 65, 13, 66, 31, 67, 68, 69, 70, 32, 71, 72, 73, 17, 74, 36, 75, 37, 38, 39, 40, 41, 42, 43, 76, 77, 78, 21, 79, 47, 80, 48, 49, 81, 82, 83, 25, 84, 55, 85, 56, 57, 58, 92, 93, 94, 95, 96, 97, 98, 99, 100, 101, 102, 103, 104, 105, 106, 107, 108, 109, 110, 111, 112, 113, 114] (by decide +kernel) (by decide +kernel)
set_option maxRecDepth 20000 in
theorem gX9_image_X5_copy : GoodIn wsX9_image (wsV RX9 236 RX5 yX5_copy wsX5_copy) := goodIn_app (goodIn_of _ (by decide +kernel)) ggX9_image_X5_copy
theorem dX9_image_0 : decode cX9_image 0 = .ok (.iload_n 1, 1) := by decide +kernel
theorem dX9_image_1 : decode cX9_image 1 = .ok (.ifCond .lt 8, 3) := by decide +kernel
theorem dX9_image_4 : decode cX9_image 4 = .ok (.iload_n 1, 1) := by decide +kernel
theorem dX9_image_5 : decode cX9_image 5 = .ok (.iconst 2, 1) := by decide +kernel
theorem dX9_image_6 : decode cX9_image 6 = .ok (.if_icmp .lt 6, 3) := by decide +kernel
theorem dX9_image_9 : decode cX9_image 9 = .ok (.bipush (-2), 2) := by decide +kernel
theorem dX9_image_11 : decode cX9_image 11 = .ok (.ireturn, 1) := by decide +kernel
theorem dX9_image_12 : decode cX9_image 12 = .ok (.aload_n 0, 1) := by decide +kernel
theorem dX9_image_13 : decode cX9_image 13 = .ok (.getfield 44, 3) := by decide +kernel
theorem dX9_image_16 : decode cX9_image 16 = .ok (.iload_n 1, 1) := by decide +kernel
theorem dX9_image_17 : decode cX9_image 17 = .ok (.aaload, 1) := by decide +kernel
theorem dX9_image_18 : decode cX9_image 18 = .ok (.astore_n 2, 1) := by decide +kernel
theorem dX9_image_19 : decode cX9_image 19 = .ok (.aload_n 2, 1) := by decide +kernel
theorem dX9_image_20 : decode cX9_image 20 = .ok (.ifnonnull 18, 3) := by decide +kernel
theorem dX9_image_23 : decode cX9_image 23 = .ok (.new 9, 3) := by decide +kernel
theorem dX9_image_26 : decode cX9_image 26 = .ok (.dup, 1) := by decide +kernel
theorem dX9_image_27 : decode cX9_image 27 = .ok (.invokespecial 11, 3) := by decide +kernel
theorem dX9_image_30 : decode cX9_image 30 = .ok (.astore_n 2, 1) := by decide +kernel
theorem dX9_image_31 : decode cX9_image 31 = .ok (.aload_n 0, 1) := by decide +kernel
theorem dX9_image_32 : decode cX9_image 32 = .ok (.getfield 44, 3) := by decide +kernel
theorem dX9_image_35 : decode cX9_image 35 = .ok (.iload_n 1, 1) := by decide +kernel
theorem dX9_image_36 : decode cX9_image 36 = .ok (.aload_n 2, 1) := by decide +kernel
theorem dX9_image_37 : decode cX9_image 37 = .ok (.aastore, 1) := by decide +kernel
theorem dX9_image_38 : decode cX9_image 38 = .ok (.aload_n 2, 1) := by decide +kernel
theorem dX9_image_39 : decode cX9_image 39 = .ok (.aload_n 0, 1) := by decide +kernel
theorem dX9_image_40 : decode cX9_image 40 = .ok (.getfield 12, 3) := by decide +kernel
theorem dX9_image_43 : decode cX9_image 43 = .ok (.invokevirtual 236, 3) := by decide +kernel
theorem dX9_image_46 : decode cX9_image 46 = .ok (.iconst 1, 1) := by decide +kernel
theorem dX9_image_47 : decode cX9_image 47 = .ok (.ireturn, 1) := by decide +kernel
set_option maxRecDepth 20000 in
theorem ggX9_restore_X5_copy : GoodIn wsX9_restore wsX5_copy := goodIn_r _ [7, 8, 9, 10, 11, 12, 13, 14, 15, 16, 17, 18, 19, 20, 21, 22, 23, 24, 25, 26, 27, 28, 29, 30, 31, 32, 33, 34, 35, 36, 37, 38, 39, 40, 41, 42, 43, 44, 45, 46, 47, 48, 49, 50, 51, 52, 53, 54, 55, 62, 63, 64, 65, 66, 67, 68, 69, 70, 71, 72, 73, 74, 75, 76, 77, 78, 79, 80, 81, 82, 83, 84] (by decide +kernel) (by decide +kernel)
set_option maxRecDepth 20000 in
theorem gX9_restore_X5_copy : GoodIn wsX9_restore (wsV RX9 236 RX5 yX5_copy wsX5_copy) := goodIn_app (goodIn_of _ (by decide +kernel)) ggX9_restore_X5_copy
theorem dX9_restore_0 : decode cX9_restore 0 = .ok (.iload_n 1, 1) := by decide +kernel
theorem dX9_restore_1 : decode cX9_restore 1 = .ok (.ifCond .lt 8, 3) := by decide +kernel
theorem dX9_restore_4 : decode cX9_restore 4 = .ok (.iload_n 1, 1) := by decide +kernel
theorem dX9_restore_5 : decode cX9_restore 5 = .ok (.iconst 2, 1) := by decide +kernel
theorem dX9_restore_6 : decode cX9_restore 6 = .ok (.if_icmp .lt 6, 3) := by decide +kernel
theorem dX9_restore_9 : decode cX9_restore 9 = .ok (.bipush (-2), 2) := by decide +kernel
theorem dX9_restore_11 : decode cX9_restore 11 = .ok (.ireturn, 1) := by decide +kernel
theorem dX9_restore_12 : decode cX9_restore 12 = .ok (.aload_n 0, 1) := by decide +kernel
theorem dX9_restore_13 : decode cX9_restore 13 = .ok (.getfield 44, 3) := by decide +kernel
theorem dX9_restore_16 : decode cX9_restore 16 = .ok (.iload_n 1, 1) := by decide +kernel
theorem dX9_restore_17 : decode cX9_restore 17 = .ok (.aaload, 1) := by decide +kernel
theorem dX9_restore_18 : decode cX9_restore 18 = .ok (.astore_n 2, 1) := by decide +kernel
theorem dX9_restore_19 : decode cX9_restore 19 = .ok (.aload_n 2, 1) := by decide +kernel
theorem dX9_restore_20 : decode cX9_restore 20 = .ok (.ifnonnull 6, 3) := by decide +kernel
theorem dX9_restore_23 : decode cX9_restore 23 = .ok (.bipush (-3), 2) := by decide +kernel
theorem dX9_restore_25 : decode cX9_restore 25 = .ok (.ireturn, 1) := by decide +kernel
theorem dX9_restore_26 : decode cX9_restore 26 = .ok (.aload_n 0, 1) := by decide +kernel
theorem dX9_restore_27 : decode cX9_restore 27 = .ok (.getfield 12, 3) := by decide +kernel
theorem dX9_restore_30 : decode cX9_restore 30 = .ok (.aload_n 2, 1) := by decide +kernel
theorem dX9_restore_31 : decode cX9_restore 31 = .ok (.invokevirtual 236, 3) := by decide +kernel
theorem dX9_restore_34 : decode cX9_restore 34 = .ok (.iconst 1, 1) := by decide +kernel
theorem dX9_restore_35 : decode cX9_restore 35 = .ok (.ireturn, 1) := by decide +kernel
set_option maxRecDepth 20000 in
theorem ggX9_told_X9_isPlace : GoodIn wsX9_told wsX9_isPlace := goodIn_r _ [18] (by decide +kernel) (by decide +kernel)
set_option maxRecDepth 20000 in
theorem gX9_told_X9_isPlace : GoodIn wsX9_told (va_wsS RX9 48 yX9_isPlace wsX9_isPlace) := goodIn_app (goodIn_of _ (by decide +kernel)) ggX9_told_X9_isPlace
set_option maxRecDepth 20000 in
theorem ggX9_told_X2_roadsOf : GoodIn wsX9_told wsX2_roadsOf := goodIn_r _ [23, 24, 74, 75] (by decide +kernel) (by decide +kernel)
set_option maxRecDepth 20000 in
theorem gX9_told_X2_roadsOf : GoodIn wsX9_told (wsV RX9 239 RX2 yX2_roadsOf wsX2_roadsOf) := goodIn_app (goodIn_of _ (by decide +kernel)) ggX9_told_X2_roadsOf
set_option maxRecDepth 20000 in
theorem ggX9_told_X9_toldOfOne : GoodIn wsX9_told wsX9_toldOfOne := goodIn_r _ [28, 1, 5, 29, 30, 31, 32, 33, 34, 35, 36, 17, 37, 38, 39, 40, 41, 42, 43, 44, 45, 46, 47, 48, 49, 50, 51, 52, 53, 54, 55, 56, 57, 58, 59, 60, 61, 62, 63, 66, 67, 68, 69, 70, 71, 72, 73] (by decide +kernel) (by decide +kernel)
set_option maxRecDepth 20000 in
theorem gX9_told_X9_toldOfOne : GoodIn wsX9_told (wsV RX9 242 RX9 yX9_toldOfOne wsX9_toldOfOne) := goodIn_app (goodIn_of _ (by decide +kernel)) ggX9_told_X9_toldOfOne
theorem dX9_told_0 : decode cX9_told 0 = .ok (.iload_n 1, 1) := by decide +kernel
theorem dX9_told_1 : decode cX9_told 1 = .ok (.bipush 100, 2) := by decide +kernel
theorem dX9_told_3 : decode cX9_told 3 = .ok (.if_icmp .lt 33, 3) := by decide +kernel
theorem dX9_told_6 : decode cX9_told 6 = .ok (.iload_n 1, 1) := by decide +kernel
theorem dX9_told_7 : decode cX9_told 7 = .ok (.bipush 100, 2) := by decide +kernel
theorem dX9_told_9 : decode cX9_told 9 = .ok (.isub, 1) := by decide +kernel
theorem dX9_told_10 : decode cX9_told 10 = .ok (.invokestatic 48, 3) := by decide +kernel
theorem dX9_told_13 : decode cX9_told 13 = .ok (.ifCond .eq 20, 3) := by decide +kernel
theorem dX9_told_16 : decode cX9_told 16 = .ok (.aload_n 0, 1) := by decide +kernel
theorem dX9_told_17 : decode cX9_told 17 = .ok (.getfield 12, 3) := by decide +kernel
theorem dX9_told_20 : decode cX9_told 20 = .ok (.getfield 52, 3) := by decide +kernel
theorem dX9_told_23 : decode cX9_told 23 = .ok (.iload_n 1, 1) := by decide +kernel
theorem dX9_told_24 : decode cX9_told 24 = .ok (.bipush 100, 2) := by decide +kernel
theorem dX9_told_26 : decode cX9_told 26 = .ok (.isub, 1) := by decide +kernel
theorem dX9_told_27 : decode cX9_told 27 = .ok (.invokevirtual 239, 3) := by decide +kernel
theorem dX9_told_30 : decode cX9_told 30 = .ok (.goto 5, 3) := by decide +kernel
theorem dX9_told_33 : decode cX9_told 33 = .ok (.bipush (-2), 2) := by decide +kernel
theorem dX9_told_35 : decode cX9_told 35 = .ok (.ireturn, 1) := by decide +kernel
theorem dX9_told_36 : decode cX9_told 36 = .ok (.iload_n 1, 1) := by decide +kernel
theorem dX9_told_37 : decode cX9_told 37 = .ok (.bipush 10, 2) := by decide +kernel
theorem dX9_told_39 : decode cX9_told 39 = .ok (.if_icmp .lt 18, 3) := by decide +kernel
theorem dX9_told_42 : decode cX9_told 42 = .ok (.aload_n 0, 1) := by decide +kernel
theorem dX9_told_43 : decode cX9_told 43 = .ok (.iload_n 1, 1) := by decide +kernel
theorem dX9_told_44 : decode cX9_told 44 = .ok (.bipush 10, 2) := by decide +kernel
theorem dX9_told_46 : decode cX9_told 46 = .ok (.idiv, 1) := by decide +kernel
theorem dX9_told_47 : decode cX9_told 47 = .ok (.iconst 1, 1) := by decide +kernel
theorem dX9_told_48 : decode cX9_told 48 = .ok (.isub, 1) := by decide +kernel
theorem dX9_told_49 : decode cX9_told 49 = .ok (.iload_n 1, 1) := by decide +kernel
theorem dX9_told_50 : decode cX9_told 50 = .ok (.bipush 10, 2) := by decide +kernel
theorem dX9_told_52 : decode cX9_told 52 = .ok (.irem, 1) := by decide +kernel
theorem dX9_told_53 : decode cX9_told 53 = .ok (.invokevirtual 242, 3) := by decide +kernel
theorem dX9_told_56 : decode cX9_told 56 = .ok (.ireturn, 1) := by decide +kernel
theorem dX9_told_57 : decode cX9_told 57 = .ok (.iload_n 1, 1) := by decide +kernel
theorem dX9_told_58 : decode cX9_told 58 = .ok (.tableswitch 131 0 7 #[46, 54, 65, 76, 87, 98, 109, 120], 46) := by decide +kernel
theorem dX9_told_104 : decode cX9_told 104 = .ok (.aload_n 0, 1) := by decide +kernel
theorem dX9_told_105 : decode cX9_told 105 = .ok (.getfield 19, 3) := by decide +kernel
theorem dX9_told_108 : decode cX9_told 108 = .ok (.getfield 112, 3) := by decide +kernel
theorem dX9_told_111 : decode cX9_told 111 = .ok (.ireturn, 1) := by decide +kernel
theorem dX9_told_112 : decode cX9_told 112 = .ok (.aload_n 0, 1) := by decide +kernel
theorem dX9_told_113 : decode cX9_told 113 = .ok (.getfield 12, 3) := by decide +kernel
theorem dX9_told_116 : decode cX9_told 116 = .ok (.getfield 77, 3) := by decide +kernel
theorem dX9_told_119 : decode cX9_told 119 = .ok (.getfield 87, 3) := by decide +kernel
theorem dX9_told_122 : decode cX9_told 122 = .ok (.ireturn, 1) := by decide +kernel
theorem dX9_told_123 : decode cX9_told 123 = .ok (.aload_n 0, 1) := by decide +kernel
theorem dX9_told_124 : decode cX9_told 124 = .ok (.getfield 12, 3) := by decide +kernel
theorem dX9_told_127 : decode cX9_told 127 = .ok (.getfield 77, 3) := by decide +kernel
theorem dX9_told_130 : decode cX9_told 130 = .ok (.getfield 103, 3) := by decide +kernel
theorem dX9_told_133 : decode cX9_told 133 = .ok (.ireturn, 1) := by decide +kernel
theorem dX9_told_134 : decode cX9_told 134 = .ok (.aload_n 0, 1) := by decide +kernel
theorem dX9_told_135 : decode cX9_told 135 = .ok (.getfield 12, 3) := by decide +kernel
theorem dX9_told_138 : decode cX9_told 138 = .ok (.getfield 77, 3) := by decide +kernel
theorem dX9_told_141 : decode cX9_told 141 = .ok (.getfield 106, 3) := by decide +kernel
theorem dX9_told_144 : decode cX9_told 144 = .ok (.ireturn, 1) := by decide +kernel
theorem dX9_told_145 : decode cX9_told 145 = .ok (.aload_n 0, 1) := by decide +kernel
theorem dX9_told_146 : decode cX9_told 146 = .ok (.getfield 12, 3) := by decide +kernel
theorem dX9_told_149 : decode cX9_told 149 = .ok (.getfield 77, 3) := by decide +kernel
theorem dX9_told_152 : decode cX9_told 152 = .ok (.getfield 149, 3) := by decide +kernel
theorem dX9_told_155 : decode cX9_told 155 = .ok (.ireturn, 1) := by decide +kernel
theorem dX9_told_156 : decode cX9_told 156 = .ok (.aload_n 0, 1) := by decide +kernel
theorem dX9_told_157 : decode cX9_told 157 = .ok (.getfield 12, 3) := by decide +kernel
theorem dX9_told_160 : decode cX9_told 160 = .ok (.getfield 52, 3) := by decide +kernel
theorem dX9_told_163 : decode cX9_told 163 = .ok (.getfield 66, 3) := by decide +kernel
theorem dX9_told_166 : decode cX9_told 166 = .ok (.ireturn, 1) := by decide +kernel
theorem dX9_told_167 : decode cX9_told 167 = .ok (.aload_n 0, 1) := by decide +kernel
theorem dX9_told_168 : decode cX9_told 168 = .ok (.getfield 12, 3) := by decide +kernel
theorem dX9_told_171 : decode cX9_told 171 = .ok (.getfield 176, 3) := by decide +kernel
theorem dX9_told_174 : decode cX9_told 174 = .ok (.getfield 186, 3) := by decide +kernel
theorem dX9_told_177 : decode cX9_told 177 = .ok (.ireturn, 1) := by decide +kernel
theorem dX9_told_178 : decode cX9_told 178 = .ok (.aload_n 0, 1) := by decide +kernel
theorem dX9_told_179 : decode cX9_told 179 = .ok (.getfield 12, 3) := by decide +kernel
theorem dX9_told_182 : decode cX9_told 182 = .ok (.getfield 212, 3) := by decide +kernel
theorem dX9_told_185 : decode cX9_told 185 = .ok (.getfield 221, 3) := by decide +kernel
theorem dX9_told_188 : decode cX9_told 188 = .ok (.ireturn, 1) := by decide +kernel
theorem dX9_told_189 : decode cX9_told 189 = .ok (.bipush (-2), 2) := by decide +kernel
theorem dX9_told_191 : decode cX9_told 191 = .ok (.ireturn, 1) := by decide +kernel
set_option maxRecDepth 20000 in
theorem ggX9_toldOfOne_X1_isHere : GoodIn wsX9_toldOfOne wsX1_isHere := goodIn_r _ [8, 9, 10, 11, 12, 39, 40, 41, 42, 43, 44, 45, 46] (by decide +kernel) (by decide +kernel)
set_option maxRecDepth 20000 in
theorem gX9_toldOfOne_X1_isHere : GoodIn wsX9_toldOfOne (wsV RX9 96 RX1 yX1_isHere wsX1_isHere) := goodIn_app (goodIn_of _ (by decide +kernel)) ggX9_toldOfOne_X1_isHere
set_option maxRecDepth 20000 in
theorem ggX9_toldOfOne_X1_placeOf : GoodIn wsX9_toldOfOne wsX1_placeOf := goodIn_r _ [16, 17, 39, 40, 41, 42, 43, 44, 45, 46] (by decide +kernel) (by decide +kernel)
set_option maxRecDepth 20000 in
theorem gX9_toldOfOne_X1_placeOf : GoodIn wsX9_toldOfOne (wsV RX9 140 RX1 yX1_placeOf wsX1_placeOf) := goodIn_app (goodIn_of _ (by decide +kernel)) ggX9_toldOfOne_X1_placeOf
set_option maxRecDepth 20000 in
theorem ggX9_toldOfOne_X1_breathOf : GoodIn wsX9_toldOfOne wsX1_breathOf := goodIn_r _ [21, 22, 39, 40, 41, 42, 43, 44, 45, 46] (by decide +kernel) (by decide +kernel)
set_option maxRecDepth 20000 in
theorem gX9_toldOfOne_X1_breathOf : GoodIn wsX9_toldOfOne (wsV RX9 143 RX1 yX1_breathOf wsX1_breathOf) := goodIn_app (goodIn_of _ (by decide +kernel)) ggX9_toldOfOne_X1_breathOf
set_option maxRecDepth 20000 in
theorem ggX9_toldOfOne_X9_holds : GoodIn wsX9_toldOfOne wsX9_holds := goodIn_r _ [12] (by decide +kernel) (by decide +kernel)
set_option maxRecDepth 20000 in
theorem gX9_toldOfOne_X9_holds : GoodIn wsX9_toldOfOne (va_wsS RX9 248 yX9_holds wsX9_holds) := goodIn_app (goodIn_of _ (by decide +kernel)) ggX9_toldOfOne_X9_holds
set_option maxRecDepth 20000 in
theorem ggX9_toldOfOne_X1_reignOf : GoodIn wsX9_toldOfOne wsX1_reignOf := goodIn_r _ [27, 28, 39, 40, 41, 42, 43, 44, 45, 46] (by decide +kernel) (by decide +kernel)
set_option maxRecDepth 20000 in
theorem gX9_toldOfOne_X1_reignOf : GoodIn wsX9_toldOfOne (wsV RX9 146 RX1 yX1_reignOf wsX1_reignOf) := goodIn_app (goodIn_of _ (by decide +kernel)) ggX9_toldOfOne_X1_reignOf
theorem dX9_toldOfOne_0 : decode cX9_toldOfOne 0 = .ok (.aload_n 0, 1) := by decide +kernel
theorem dX9_toldOfOne_1 : decode cX9_toldOfOne 1 = .ok (.getfield 12, 3) := by decide +kernel
theorem dX9_toldOfOne_4 : decode cX9_toldOfOne 4 = .ok (.getfield 77, 3) := by decide +kernel
theorem dX9_toldOfOne_7 : decode cX9_toldOfOne 7 = .ok (.iload_n 1, 1) := by decide +kernel
theorem dX9_toldOfOne_8 : decode cX9_toldOfOne 8 = .ok (.invokevirtual 96, 3) := by decide +kernel
theorem dX9_toldOfOne_11 : decode cX9_toldOfOne 11 = .ok (.ifCond .ne 6, 3) := by decide +kernel
theorem dX9_toldOfOne_14 : decode cX9_toldOfOne 14 = .ok (.bipush (-2), 2) := by decide +kernel
theorem dX9_toldOfOne_16 : decode cX9_toldOfOne 16 = .ok (.ireturn, 1) := by decide +kernel
theorem dX9_toldOfOne_17 : decode cX9_toldOfOne 17 = .ok (.iload_n 2, 1) := by decide +kernel
theorem dX9_toldOfOne_18 : decode cX9_toldOfOne 18 = .ok (.tableswitch 89 0 3 #[30, 42, 54, 77], 30) := by decide +kernel
theorem dX9_toldOfOne_48 : decode cX9_toldOfOne 48 = .ok (.aload_n 0, 1) := by decide +kernel
theorem dX9_toldOfOne_49 : decode cX9_toldOfOne 49 = .ok (.getfield 12, 3) := by decide +kernel
theorem dX9_toldOfOne_52 : decode cX9_toldOfOne 52 = .ok (.getfield 77, 3) := by decide +kernel
theorem dX9_toldOfOne_55 : decode cX9_toldOfOne 55 = .ok (.iload_n 1, 1) := by decide +kernel
theorem dX9_toldOfOne_56 : decode cX9_toldOfOne 56 = .ok (.invokevirtual 140, 3) := by decide +kernel
theorem dX9_toldOfOne_59 : decode cX9_toldOfOne 59 = .ok (.ireturn, 1) := by decide +kernel
theorem dX9_toldOfOne_60 : decode cX9_toldOfOne 60 = .ok (.aload_n 0, 1) := by decide +kernel
theorem dX9_toldOfOne_61 : decode cX9_toldOfOne 61 = .ok (.getfield 12, 3) := by decide +kernel
theorem dX9_toldOfOne_64 : decode cX9_toldOfOne 64 = .ok (.getfield 77, 3) := by decide +kernel
theorem dX9_toldOfOne_67 : decode cX9_toldOfOne 67 = .ok (.iload_n 1, 1) := by decide +kernel
theorem dX9_toldOfOne_68 : decode cX9_toldOfOne 68 = .ok (.invokevirtual 143, 3) := by decide +kernel
theorem dX9_toldOfOne_71 : decode cX9_toldOfOne 71 = .ok (.ireturn, 1) := by decide +kernel
theorem dX9_toldOfOne_72 : decode cX9_toldOfOne 72 = .ok (.aload_n 0, 1) := by decide +kernel
theorem dX9_toldOfOne_73 : decode cX9_toldOfOne 73 = .ok (.getfield 12, 3) := by decide +kernel
theorem dX9_toldOfOne_76 : decode cX9_toldOfOne 76 = .ok (.getfield 77, 3) := by decide +kernel
theorem dX9_toldOfOne_79 : decode cX9_toldOfOne 79 = .ok (.getfield 245, 3) := by decide +kernel
theorem dX9_toldOfOne_82 : decode cX9_toldOfOne 82 = .ok (.iload_n 1, 1) := by decide +kernel
theorem dX9_toldOfOne_83 : decode cX9_toldOfOne 83 = .ok (.invokestatic 248, 3) := by decide +kernel
theorem dX9_toldOfOne_86 : decode cX9_toldOfOne 86 = .ok (.ifCond .eq 7, 3) := by decide +kernel
theorem dX9_toldOfOne_89 : decode cX9_toldOfOne 89 = .ok (.iconst 1, 1) := by decide +kernel
theorem dX9_toldOfOne_90 : decode cX9_toldOfOne 90 = .ok (.goto 4, 3) := by decide +kernel
theorem dX9_toldOfOne_93 : decode cX9_toldOfOne 93 = .ok (.iconst 0, 1) := by decide +kernel
theorem dX9_toldOfOne_94 : decode cX9_toldOfOne 94 = .ok (.ireturn, 1) := by decide +kernel
theorem dX9_toldOfOne_95 : decode cX9_toldOfOne 95 = .ok (.aload_n 0, 1) := by decide +kernel
theorem dX9_toldOfOne_96 : decode cX9_toldOfOne 96 = .ok (.getfield 12, 3) := by decide +kernel
theorem dX9_toldOfOne_99 : decode cX9_toldOfOne 99 = .ok (.getfield 77, 3) := by decide +kernel
theorem dX9_toldOfOne_102 : decode cX9_toldOfOne 102 = .ok (.iload_n 1, 1) := by decide +kernel
theorem dX9_toldOfOne_103 : decode cX9_toldOfOne 103 = .ok (.invokevirtual 146, 3) := by decide +kernel
theorem dX9_toldOfOne_106 : decode cX9_toldOfOne 106 = .ok (.ireturn, 1) := by decide +kernel
theorem dX9_toldOfOne_107 : decode cX9_toldOfOne 107 = .ok (.bipush (-2), 2) := by decide +kernel
theorem dX9_toldOfOne_109 : decode cX9_toldOfOne 109 = .ok (.ireturn, 1) := by decide +kernel
set_option maxRecDepth 20000 in
theorem ggX9_daysCanBe_X4_firstFault : GoodIn wsX9_daysCanBe wsX4_firstFault := goodIn_r _ [9, 10, 11, 12, 13, 8, 14, 15, 16, 17, 18, 131, 132] (by decide +kernel) (by decide +kernel)
set_option maxRecDepth 20000 in
theorem gX9_daysCanBe_X4_firstFault : GoodIn wsX9_daysCanBe (wsV RX9 115 RX4 yX4_firstFault wsX4_firstFault) := goodIn_app (goodIn_of _ (by decide +kernel)) ggX9_daysCanBe_X4_firstFault
set_option maxRecDepth 20000 in
theorem ggX9_daysCanBe_X8_runDays : GoodIn wsX9_daysCanBe wsX8_runDays := goodIn_r _ [23, 24, 25, 26, 27, 28, 29, 30, 31, 32, 22, 33, 34, 35, 36, 37, 38, 39, 40, 41, 42, 43, 44, 45, 46, 47, 48, 49, 50, 51, 52, 53, 54, 55, 56, 8, 57, 11, 12, 13, 14, 10, 15, 58, 59, 60, 61, 62, 63, 64, 65, 66, 67, 68, 69, 70, 71, 72, 73, 74, 75, 76, 77, 78, 79, 80, 81, 82, 83, 84, 85, 86, 87, 88, 89, 90, 91, 92, 93, 94, 95, 96, 97, 98, 99, 100, 101, 102, 103, 104, 105, 106, 107, 108, 109, 110, 111, 112, 113, 114, 115, 116, 117, 118, 133, 134, 135, 136, 131, 132, 125, 126, 127, 128, 129, 130, 137, 138, 139, 140, 141, 142, 143, 144, 145, 146] (by decide +kernel) (by decide +kernel)
set_option maxRecDepth 20000 in
theorem gX9_daysCanBe_X8_runDays : GoodIn wsX9_daysCanBe (wsV RX9 118 RX8 yX8_runDays wsX8_runDays) := goodIn_app (goodIn_of _ (by decide +kernel)) ggX9_daysCanBe_X8_runDays
theorem dX9_daysCanBe_0 : decode cX9_daysCanBe 0 = .ok (.aload_n 0, 1) := by decide +kernel
theorem dX9_daysCanBe_1 : decode cX9_daysCanBe 1 = .ok (.getfield 19, 3) := by decide +kernel
theorem dX9_daysCanBe_4 : decode cX9_daysCanBe 4 = .ok (.invokevirtual 115, 3) := by decide +kernel
theorem dX9_daysCanBe_7 : decode cX9_daysCanBe 7 = .ok (.bipush (-6), 2) := by decide +kernel
theorem dX9_daysCanBe_9 : decode cX9_daysCanBe 9 = .ok (.if_icmp .eq 5, 3) := by decide +kernel
theorem dX9_daysCanBe_12 : decode cX9_daysCanBe 12 = .ok (.iconst 0, 1) := by decide +kernel
theorem dX9_daysCanBe_13 : decode cX9_daysCanBe 13 = .ok (.ireturn, 1) := by decide +kernel
theorem dX9_daysCanBe_14 : decode cX9_daysCanBe 14 = .ok (.aload_n 0, 1) := by decide +kernel
theorem dX9_daysCanBe_15 : decode cX9_daysCanBe 15 = .ok (.getfield 26, 3) := by decide +kernel
theorem dX9_daysCanBe_18 : decode cX9_daysCanBe 18 = .ok (.aload_n 0, 1) := by decide +kernel
theorem dX9_daysCanBe_19 : decode cX9_daysCanBe 19 = .ok (.getfield 12, 3) := by decide +kernel
theorem dX9_daysCanBe_22 : decode cX9_daysCanBe 22 = .ok (.aload_n 0, 1) := by decide +kernel
theorem dX9_daysCanBe_23 : decode cX9_daysCanBe 23 = .ok (.getfield 19, 3) := by decide +kernel
theorem dX9_daysCanBe_26 : decode cX9_daysCanBe 26 = .ok (.invokevirtual 118, 3) := by decide +kernel
theorem dX9_daysCanBe_29 : decode cX9_daysCanBe 29 = .ok (.aload_n 0, 1) := by decide +kernel
theorem dX9_daysCanBe_30 : decode cX9_daysCanBe 30 = .ok (.getfield 26, 3) := by decide +kernel
theorem dX9_daysCanBe_33 : decode cX9_daysCanBe 33 = .ok (.getfield 122, 3) := by decide +kernel
theorem dX9_daysCanBe_36 : decode cX9_daysCanBe 36 = .ok (.bipush (-6), 2) := by decide +kernel
theorem dX9_daysCanBe_38 : decode cX9_daysCanBe 38 = .ok (.if_icmp .ne 7, 3) := by decide +kernel
theorem dX9_daysCanBe_41 : decode cX9_daysCanBe 41 = .ok (.iconst 1, 1) := by decide +kernel
theorem dX9_daysCanBe_42 : decode cX9_daysCanBe 42 = .ok (.goto 4, 3) := by decide +kernel
theorem dX9_daysCanBe_45 : decode cX9_daysCanBe 45 = .ok (.iconst 0, 1) := by decide +kernel
theorem dX9_daysCanBe_46 : decode cX9_daysCanBe 46 = .ok (.ireturn, 1) := by decide +kernel
theorem dX9_isPlace_0 : decode cX9_isPlace 0 = .ok (.iload_n 0, 1) := by decide +kernel
theorem dX9_isPlace_1 : decode cX9_isPlace 1 = .ok (.ifCond .lt 13, 3) := by decide +kernel
theorem dX9_isPlace_4 : decode cX9_isPlace 4 = .ok (.iload_n 0, 1) := by decide +kernel
theorem dX9_isPlace_5 : decode cX9_isPlace 5 = .ok (.bipush 12, 2) := by decide +kernel
theorem dX9_isPlace_7 : decode cX9_isPlace 7 = .ok (.if_icmp .ge 7, 3) := by decide +kernel
theorem dX9_isPlace_10 : decode cX9_isPlace 10 = .ok (.iconst 1, 1) := by decide +kernel
theorem dX9_isPlace_11 : decode cX9_isPlace 11 = .ok (.goto 4, 3) := by decide +kernel
theorem dX9_isPlace_14 : decode cX9_isPlace 14 = .ok (.iconst 0, 1) := by decide +kernel
theorem dX9_isPlace_15 : decode cX9_isPlace 15 = .ok (.ireturn, 1) := by decide +kernel
theorem dX9_isOne_0 : decode cX9_isOne 0 = .ok (.iload_n 0, 1) := by decide +kernel
theorem dX9_isOne_1 : decode cX9_isOne 1 = .ok (.ifCond .lt 13, 3) := by decide +kernel
theorem dX9_isOne_4 : decode cX9_isOne 4 = .ok (.iload_n 0, 1) := by decide +kernel
theorem dX9_isOne_5 : decode cX9_isOne 5 = .ok (.bipush 7, 2) := by decide +kernel
theorem dX9_isOne_7 : decode cX9_isOne 7 = .ok (.if_icmp .ge 7, 3) := by decide +kernel
theorem dX9_isOne_10 : decode cX9_isOne 10 = .ok (.iconst 1, 1) := by decide +kernel
theorem dX9_isOne_11 : decode cX9_isOne 11 = .ok (.goto 4, 3) := by decide +kernel
theorem dX9_isOne_14 : decode cX9_isOne 14 = .ok (.iconst 0, 1) := by decide +kernel
theorem dX9_isOne_15 : decode cX9_isOne 15 = .ok (.ireturn, 1) := by decide +kernel
theorem dX9_holds_0 : decode cX9_holds 0 = .ok (.iload_n 1, 1) := by decide +kernel
theorem dX9_holds_1 : decode cX9_holds 1 = .ok (.ifCond .lt 22, 3) := by decide +kernel
theorem dX9_holds_4 : decode cX9_holds 4 = .ok (.iload_n 1, 1) := by decide +kernel
theorem dX9_holds_5 : decode cX9_holds 5 = .ok (.bipush 31, 2) := by decide +kernel
theorem dX9_holds_7 : decode cX9_holds 7 = .ok (.if_icmp .ge 16, 3) := by decide +kernel
theorem dX9_holds_10 : decode cX9_holds 10 = .ok (.iload_n 0, 1) := by decide +kernel
theorem dX9_holds_11 : decode cX9_holds 11 = .ok (.iload_n 1, 1) := by decide +kernel
theorem dX9_holds_12 : decode cX9_holds 12 = .ok (.ishr, 1) := by decide +kernel
theorem dX9_holds_13 : decode cX9_holds 13 = .ok (.iconst 1, 1) := by decide +kernel
theorem dX9_holds_14 : decode cX9_holds 14 = .ok (.iand, 1) := by decide +kernel
theorem dX9_holds_15 : decode cX9_holds 15 = .ok (.iconst 1, 1) := by decide +kernel
theorem dX9_holds_16 : decode cX9_holds 16 = .ok (.if_icmp .ne 7, 3) := by decide +kernel
theorem dX9_holds_19 : decode cX9_holds 19 = .ok (.iconst 1, 1) := by decide +kernel
theorem dX9_holds_20 : decode cX9_holds 20 = .ok (.goto 4, 3) := by decide +kernel
theorem dX9_holds_23 : decode cX9_holds 23 = .ok (.iconst 0, 1) := by decide +kernel
theorem dX9_holds_24 : decode cX9_holds 24 = .ok (.ireturn, 1) := by decide +kernel
theorem dX9_marked_0 : decode cX9_marked 0 = .ok (.iload_n 2, 1) := by decide +kernel
theorem dX9_marked_1 : decode cX9_marked 1 = .ok (.ifCond .eq 11, 3) := by decide +kernel
theorem dX9_marked_4 : decode cX9_marked 4 = .ok (.iload_n 0, 1) := by decide +kernel
theorem dX9_marked_5 : decode cX9_marked 5 = .ok (.iconst 1, 1) := by decide +kernel
theorem dX9_marked_6 : decode cX9_marked 6 = .ok (.iload_n 1, 1) := by decide +kernel
theorem dX9_marked_7 : decode cX9_marked 7 = .ok (.ishl, 1) := by decide +kernel
theorem dX9_marked_8 : decode cX9_marked 8 = .ok (.ior, 1) := by decide +kernel
theorem dX9_marked_9 : decode cX9_marked 9 = .ok (.goto 10, 3) := by decide +kernel
theorem dX9_marked_12 : decode cX9_marked 12 = .ok (.iload_n 0, 1) := by decide +kernel
theorem dX9_marked_13 : decode cX9_marked 13 = .ok (.iconst 1, 1) := by decide +kernel
theorem dX9_marked_14 : decode cX9_marked 14 = .ok (.iload_n 1, 1) := by decide +kernel
theorem dX9_marked_15 : decode cX9_marked 15 = .ok (.ishl, 1) := by decide +kernel
theorem dX9_marked_16 : decode cX9_marked 16 = .ok (.iconst (-1), 1) := by decide +kernel
theorem dX9_marked_17 : decode cX9_marked 17 = .ok (.ixor, 1) := by decide +kernel
theorem dX9_marked_18 : decode cX9_marked 18 = .ok (.iand, 1) := by decide +kernel
theorem dX9_marked_19 : decode cX9_marked 19 = .ok (.ireturn, 1) := by decide +kernel
set_option maxRecDepth 20000 in
theorem ggX9_leastOf_X9_holds : GoodIn wsX9_leastOf wsX9_holds := goodIn_r _ [4] (by decide +kernel) (by decide +kernel)
set_option maxRecDepth 20000 in
theorem gX9_leastOf_X9_holds : GoodIn wsX9_leastOf (va_wsS RX9 248 yX9_holds wsX9_holds) := goodIn_app (goodIn_of _ (by decide +kernel)) ggX9_leastOf_X9_holds
theorem dX9_leastOf_0 : decode cX9_leastOf 0 = .ok (.iconst 0, 1) := by decide +kernel
theorem dX9_leastOf_1 : decode cX9_leastOf 1 = .ok (.istore_n 1, 1) := by decide +kernel
theorem dX9_leastOf_2 : decode cX9_leastOf 2 = .ok (.iload_n 1, 1) := by decide +kernel
theorem dX9_leastOf_3 : decode cX9_leastOf 3 = .ok (.bipush 12, 2) := by decide +kernel
theorem dX9_leastOf_5 : decode cX9_leastOf 5 = .ok (.if_icmp .ge 19, 3) := by decide +kernel
theorem dX9_leastOf_8 : decode cX9_leastOf 8 = .ok (.iload_n 0, 1) := by decide +kernel
theorem dX9_leastOf_9 : decode cX9_leastOf 9 = .ok (.iload_n 1, 1) := by decide +kernel
theorem dX9_leastOf_10 : decode cX9_leastOf 10 = .ok (.invokestatic 248, 3) := by decide +kernel
theorem dX9_leastOf_13 : decode cX9_leastOf 13 = .ok (.ifCond .eq 5, 3) := by decide +kernel
theorem dX9_leastOf_16 : decode cX9_leastOf 16 = .ok (.iload_n 1, 1) := by decide +kernel
theorem dX9_leastOf_17 : decode cX9_leastOf 17 = .ok (.ireturn, 1) := by decide +kernel
theorem dX9_leastOf_18 : decode cX9_leastOf 18 = .ok (.iinc 1 1, 3) := by decide +kernel
theorem dX9_leastOf_21 : decode cX9_leastOf 21 = .ok (.goto (-19), 3) := by decide +kernel
theorem dX9_leastOf_24 : decode cX9_leastOf 24 = .ok (.bipush (-6), 2) := by decide +kernel
theorem dX9_leastOf_26 : decode cX9_leastOf 26 = .ok (.ireturn, 1) := by decide +kernel
theorem dX9_commonDivisor_0 : decode cX9_commonDivisor 0 = .ok (.iconst 0, 1) := by decide +kernel
theorem dX9_commonDivisor_1 : decode cX9_commonDivisor 1 = .ok (.istore 4, 2) := by decide +kernel
theorem dX9_commonDivisor_3 : decode cX9_commonDivisor 3 = .ok (.iload 4, 2) := by decide +kernel
theorem dX9_commonDivisor_5 : decode cX9_commonDivisor 5 = .ok (.bipush 100, 2) := by decide +kernel
theorem dX9_commonDivisor_7 : decode cX9_commonDivisor 7 = .ok (.if_icmp .ge 25, 3) := by decide +kernel
theorem dX9_commonDivisor_10 : decode cX9_commonDivisor 10 = .ok (.lload_n 2, 1) := by decide +kernel
theorem dX9_commonDivisor_11 : decode cX9_commonDivisor 11 = .ok (.lconst 0, 1) := by decide +kernel
theorem dX9_commonDivisor_12 : decode cX9_commonDivisor 12 = .ok (.lcmp, 1) := by decide +kernel
theorem dX9_commonDivisor_13 : decode cX9_commonDivisor 13 = .ok (.ifCond .eq 19, 3) := by decide +kernel
theorem dX9_commonDivisor_16 : decode cX9_commonDivisor 16 = .ok (.lload_n 0, 1) := by decide +kernel
theorem dX9_commonDivisor_17 : decode cX9_commonDivisor 17 = .ok (.lload_n 2, 1) := by decide +kernel
theorem dX9_commonDivisor_18 : decode cX9_commonDivisor 18 = .ok (.lrem, 1) := by decide +kernel
theorem dX9_commonDivisor_19 : decode cX9_commonDivisor 19 = .ok (.lstore 5, 2) := by decide +kernel
theorem dX9_commonDivisor_21 : decode cX9_commonDivisor 21 = .ok (.lload_n 2, 1) := by decide +kernel
theorem dX9_commonDivisor_22 : decode cX9_commonDivisor 22 = .ok (.lstore_n 0, 1) := by decide +kernel
theorem dX9_commonDivisor_23 : decode cX9_commonDivisor 23 = .ok (.lload 5, 2) := by decide +kernel
theorem dX9_commonDivisor_25 : decode cX9_commonDivisor 25 = .ok (.lstore_n 2, 1) := by decide +kernel
theorem dX9_commonDivisor_26 : decode cX9_commonDivisor 26 = .ok (.iinc 4 1, 3) := by decide +kernel
theorem dX9_commonDivisor_29 : decode cX9_commonDivisor 29 = .ok (.goto (-26), 3) := by decide +kernel
theorem dX9_commonDivisor_32 : decode cX9_commonDivisor 32 = .ok (.lload_n 0, 1) := by decide +kernel
theorem dX9_commonDivisor_33 : decode cX9_commonDivisor 33 = .ok (.lreturn, 1) := by decide +kernel
theorem dX9_divided_0 : decode cX9_divided 0 = .ok (.lload_n 2, 1) := by decide +kernel
theorem dX9_divided_1 : decode cX9_divided 1 = .ok (.lconst 0, 1) := by decide +kernel
theorem dX9_divided_2 : decode cX9_divided 2 = .ok (.lcmp, 1) := by decide +kernel
theorem dX9_divided_3 : decode cX9_divided 3 = .ok (.ifCond .ne 7, 3) := by decide +kernel
theorem dX9_divided_6 : decode cX9_divided 6 = .ok (.lload_n 0, 1) := by decide +kernel
theorem dX9_divided_7 : decode cX9_divided 7 = .ok (.goto 6, 3) := by decide +kernel
theorem dX9_divided_10 : decode cX9_divided 10 = .ok (.lload_n 0, 1) := by decide +kernel
theorem dX9_divided_11 : decode cX9_divided 11 = .ok (.lload_n 2, 1) := by decide +kernel
theorem dX9_divided_12 : decode cX9_divided 12 = .ok (.ldiv, 1) := by decide +kernel
theorem dX9_divided_13 : decode cX9_divided 13 = .ok (.lreturn, 1) := by decide +kernel
