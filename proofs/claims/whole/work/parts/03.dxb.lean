theorem dX8_init_0 : decode cX8_init 0 = .ok (.aload_n 0, 1) := by decide +kernel
theorem dX8_init_1 : decode cX8_init 1 = .ok (.invokespecial 1, 3) := by decide +kernel
theorem dX8_init_4 : decode cX8_init 4 = .ok (.aload_n 0, 1) := by decide +kernel
theorem dX8_init_5 : decode cX8_init 5 = .ok (.new 7, 3) := by decide +kernel
theorem dX8_init_8 : decode cX8_init 8 = .ok (.dup, 1) := by decide +kernel
theorem dX8_init_9 : decode cX8_init 9 = .ok (.invokespecial 9, 3) := by decide +kernel
theorem dX8_init_12 : decode cX8_init 12 = .ok (.putfield 10, 3) := by decide +kernel
theorem dX8_init_15 : decode cX8_init 15 = .ok (.aload_n 0, 1) := by decide +kernel
theorem dX8_init_16 : decode cX8_init 16 = .ok (.new 16, 3) := by decide +kernel
theorem dX8_init_19 : decode cX8_init 19 = .ok (.dup, 1) := by decide +kernel
theorem dX8_init_20 : decode cX8_init 20 = .ok (.invokespecial 18, 3) := by decide +kernel
theorem dX8_init_23 : decode cX8_init 23 = .ok (.putfield 19, 3) := by decide +kernel
theorem dX8_init_26 : decode cX8_init 26 = .ok (.aload_n 0, 1) := by decide +kernel
theorem dX8_init_27 : decode cX8_init 27 = .ok (.new 16, 3) := by decide +kernel
theorem dX8_init_30 : decode cX8_init 30 = .ok (.dup, 1) := by decide +kernel
theorem dX8_init_31 : decode cX8_init 31 = .ok (.invokespecial 18, 3) := by decide +kernel
theorem dX8_init_34 : decode cX8_init 34 = .ok (.putfield 23, 3) := by decide +kernel
theorem dX8_init_37 : decode cX8_init 37 = .ok (.aload_n 0, 1) := by decide +kernel
theorem dX8_init_38 : decode cX8_init 38 = .ok (.new 26, 3) := by decide +kernel
theorem dX8_init_41 : decode cX8_init 41 = .ok (.dup, 1) := by decide +kernel
theorem dX8_init_42 : decode cX8_init 42 = .ok (.invokespecial 28, 3) := by decide +kernel
theorem dX8_init_45 : decode cX8_init 45 = .ok (.putfield 29, 3) := by decide +kernel
theorem dX8_init_48 : decode cX8_init 48 = .ok (.aload_n 0, 1) := by decide +kernel
theorem dX8_init_49 : decode cX8_init 49 = .ok (.new 33, 3) := by decide +kernel
theorem dX8_init_52 : decode cX8_init 52 = .ok (.dup, 1) := by decide +kernel
theorem dX8_init_53 : decode cX8_init 53 = .ok (.invokespecial 35, 3) := by decide +kernel
theorem dX8_init_56 : decode cX8_init 56 = .ok (.putfield 36, 3) := by decide +kernel
theorem dX8_init_59 : decode cX8_init 59 = .ok (.aload_n 0, 1) := by decide +kernel
theorem dX8_init_60 : decode cX8_init 60 = .ok (.new 40, 3) := by decide +kernel
theorem dX8_init_63 : decode cX8_init 63 = .ok (.dup, 1) := by decide +kernel
theorem dX8_init_64 : decode cX8_init 64 = .ok (.invokespecial 42, 3) := by decide +kernel
theorem dX8_init_67 : decode cX8_init 67 = .ok (.putfield 43, 3) := by decide +kernel
theorem dX8_init_70 : decode cX8_init 70 = .ok (.aload_n 0, 1) := by decide +kernel
theorem dX8_init_71 : decode cX8_init 71 = .ok (.new 47, 3) := by decide +kernel
theorem dX8_init_74 : decode cX8_init 74 = .ok (.dup, 1) := by decide +kernel
theorem dX8_init_75 : decode cX8_init 75 = .ok (.invokespecial 49, 3) := by decide +kernel
theorem dX8_init_78 : decode cX8_init 78 = .ok (.putfield 50, 3) := by decide +kernel
theorem dX8_init_81 : decode cX8_init 81 = .ok (.aload_n 0, 1) := by decide +kernel
theorem dX8_init_82 : decode cX8_init 82 = .ok (.bipush 20, 2) := by decide +kernel
theorem dX8_init_84 : decode cX8_init 84 = .ok (.newarray .long, 2) := by decide +kernel
theorem dX8_init_86 : decode cX8_init 86 = .ok (.putfield 54, 3) := by decide +kernel
theorem dX8_init_89 : decode cX8_init 89 = .ok (.aload_n 0, 1) := by decide +kernel
theorem dX8_init_90 : decode cX8_init 90 = .ok (.bipush 6, 2) := by decide +kernel
theorem dX8_init_92 : decode cX8_init 92 = .ok (.newarray .long, 2) := by decide +kernel
theorem dX8_init_94 : decode cX8_init 94 = .ok (.putfield 58, 3) := by decide +kernel
theorem dX8_init_97 : decode cX8_init 97 = .ok (.aload_n 0, 1) := by decide +kernel
theorem dX8_init_98 : decode cX8_init 98 = .ok (.iconst 0, 1) := by decide +kernel
theorem dX8_init_99 : decode cX8_init 99 = .ok (.putfield 61, 3) := by decide +kernel
theorem dX8_init_102 : decode cX8_init 102 = .ok (.aload_n 0, 1) := by decide +kernel
theorem dX8_init_103 : decode cX8_init 103 = .ok (.iconst 2, 1) := by decide +kernel
theorem dX8_init_104 : decode cX8_init 104 = .ok (.putfield 65, 3) := by decide +kernel
theorem dX8_init_107 : decode cX8_init 107 = .ok (.aload_n 0, 1) := by decide +kernel
theorem dX8_init_108 : decode cX8_init 108 = .ok (.ldc2_w 68, 3) := by decide +kernel
theorem dX8_init_111 : decode cX8_init 111 = .ok (.putfield 70, 3) := by decide +kernel
theorem dX8_init_114 : decode cX8_init 114 = .ok (.aload_n 0, 1) := by decide +kernel
theorem dX8_init_115 : decode cX8_init 115 = .ok (.lconst 0, 1) := by decide +kernel
theorem dX8_init_116 : decode cX8_init 116 = .ok (.putfield 74, 3) := by decide +kernel
theorem dX8_init_119 : decode cX8_init 119 = .ok (.return_, 1) := by decide +kernel
set_option maxRecDepth 20000 in
theorem ggX8_player_X8_isKind : GoodIn wsX8_player wsX8_isKind := goodIn_r _ [5] (by decide +kernel) (by decide +kernel)
set_option maxRecDepth 20000 in
theorem gX8_player_X8_isKind : GoodIn wsX8_player (va_wsS RX8 77 yX8_isKind wsX8_isKind) := goodIn_app (goodIn_of _ (by decide +kernel)) ggX8_player_X8_isKind
set_option maxRecDepth 20000 in
theorem ggX8_player_X8_finding : GoodIn wsX8_player wsX8_finding := goodIn_r _ [9, 10, 11, 38, 39, 40, 41, 42, 43, 44, 45, 46, 47, 48, 49, 50] (by decide +kernel) (by decide +kernel)
set_option maxRecDepth 20000 in
theorem gX8_player_X8_finding : GoodIn wsX8_player (wsV RX8 81 RX8 yX8_finding wsX8_finding) := goodIn_app (goodIn_of _ (by decide +kernel)) ggX8_player_X8_finding
set_option maxRecDepth 20000 in
theorem ggX8_player_X6_admit : GoodIn wsX8_player wsX6_admit := goodIn_r _ [16, 17, 18, 19, 20, 21, 22, 23, 24, 25, 26, 27, 28, 29, 30, 31, 32, 33, 34, 4, 35, 36, 37, 51, 52, 53, 54, 55, 56, 57, 58] (by decide +kernel) (by decide +kernel)
set_option maxRecDepth 20000 in
theorem gX8_player_X6_admit : GoodIn wsX8_player (wsV RX8 85 RX6 yX6_admit wsX6_admit) := goodIn_app (goodIn_of _ (by decide +kernel)) ggX8_player_X6_admit
theorem dX8_player_0 : decode cX8_player 0 = .ok (.iload_n 1, 1) := by decide +kernel
theorem dX8_player_1 : decode cX8_player 1 = .ok (.invokestatic 77, 3) := by decide +kernel
theorem dX8_player_4 : decode cX8_player 4 = .ok (.ifCond .ne 9, 3) := by decide +kernel
theorem dX8_player_7 : decode cX8_player 7 = .ok (.aload_n 0, 1) := by decide +kernel
theorem dX8_player_8 : decode cX8_player 8 = .ok (.iconst 1, 1) := by decide +kernel
theorem dX8_player_9 : decode cX8_player 9 = .ok (.invokevirtual 81, 3) := by decide +kernel
theorem dX8_player_12 : decode cX8_player 12 = .ok (.lreturn, 1) := by decide +kernel
theorem dX8_player_13 : decode cX8_player 13 = .ok (.aload_n 0, 1) := by decide +kernel
theorem dX8_player_14 : decode cX8_player 14 = .ok (.getfield 10, 3) := by decide +kernel
theorem dX8_player_17 : decode cX8_player 17 = .ok (.iload_n 1, 1) := by decide +kernel
theorem dX8_player_18 : decode cX8_player 18 = .ok (.invokevirtual 85, 3) := by decide +kernel
theorem dX8_player_21 : decode cX8_player 21 = .ok (.istore_n 2, 1) := by decide +kernel
theorem dX8_player_22 : decode cX8_player 22 = .ok (.iload_n 2, 1) := by decide +kernel
theorem dX8_player_23 : decode cX8_player 23 = .ok (.ifCond .ge 9, 3) := by decide +kernel
theorem dX8_player_26 : decode cX8_player 26 = .ok (.aload_n 0, 1) := by decide +kernel
theorem dX8_player_27 : decode cX8_player 27 = .ok (.iconst 4, 1) := by decide +kernel
theorem dX8_player_28 : decode cX8_player 28 = .ok (.invokevirtual 81, 3) := by decide +kernel
theorem dX8_player_31 : decode cX8_player 31 = .ok (.lreturn, 1) := by decide +kernel
theorem dX8_player_32 : decode cX8_player 32 = .ok (.iload_n 2, 1) := by decide +kernel
theorem dX8_player_33 : decode cX8_player 33 = .ok (.i2l, 1) := by decide +kernel
theorem dX8_player_34 : decode cX8_player 34 = .ok (.lreturn, 1) := by decide +kernel
set_option maxRecDepth 20000 in
theorem ggX8_become_X6_at : GoodIn wsX8_become wsX6_at := goodIn_r _ [7, 8, 9, 38, 39, 40] (by decide +kernel) (by decide +kernel)
set_option maxRecDepth 20000 in
theorem gX8_become_X6_at : GoodIn wsX8_become (wsV RX8 89 RX6 yX6_at wsX6_at) := goodIn_app (goodIn_of _ (by decide +kernel)) ggX8_become_X6_at
set_option maxRecDepth 20000 in
theorem ggX8_become_X8_isKind : GoodIn wsX8_become wsX8_isKind := goodIn_r _ [13] (by decide +kernel) (by decide +kernel)
set_option maxRecDepth 20000 in
theorem gX8_become_X8_isKind : GoodIn wsX8_become (va_wsS RX8 77 yX8_isKind wsX8_isKind) := goodIn_app (goodIn_of _ (by decide +kernel)) ggX8_become_X8_isKind
set_option maxRecDepth 20000 in
theorem ggX8_become_X8_finding : GoodIn wsX8_become wsX8_finding := goodIn_r _ [17, 18, 19, 20, 21, 22, 23, 24, 25, 26, 27, 28, 29, 30, 31, 32] (by decide +kernel) (by decide +kernel)
set_option maxRecDepth 20000 in
theorem gX8_become_X8_finding : GoodIn wsX8_become (wsV RX8 81 RX8 yX8_finding wsX8_finding) := goodIn_app (goodIn_of _ (by decide +kernel)) ggX8_become_X8_finding
theorem dX8_become_0 : decode cX8_become 0 = .ok (.aload_n 0, 1) := by decide +kernel
theorem dX8_become_1 : decode cX8_become 1 = .ok (.getfield 10, 3) := by decide +kernel
theorem dX8_become_4 : decode cX8_become 4 = .ok (.iload_n 1, 1) := by decide +kernel
theorem dX8_become_5 : decode cX8_become 5 = .ok (.invokevirtual 89, 3) := by decide +kernel
theorem dX8_become_8 : decode cX8_become 8 = .ok (.astore_n 3, 1) := by decide +kernel
theorem dX8_become_9 : decode cX8_become 9 = .ok (.aload_n 3, 1) := by decide +kernel
theorem dX8_become_10 : decode cX8_become 10 = .ok (.ifnull 10, 3) := by decide +kernel
theorem dX8_become_13 : decode cX8_become 13 = .ok (.iload_n 2, 1) := by decide +kernel
theorem dX8_become_14 : decode cX8_become 14 = .ok (.invokestatic 77, 3) := by decide +kernel
theorem dX8_become_17 : decode cX8_become 17 = .ok (.ifCond .ne 9, 3) := by decide +kernel
theorem dX8_become_20 : decode cX8_become 20 = .ok (.aload_n 0, 1) := by decide +kernel
theorem dX8_become_21 : decode cX8_become 21 = .ok (.iconst 1, 1) := by decide +kernel
theorem dX8_become_22 : decode cX8_become 22 = .ok (.invokevirtual 81, 3) := by decide +kernel
theorem dX8_become_25 : decode cX8_become 25 = .ok (.lreturn, 1) := by decide +kernel
theorem dX8_become_26 : decode cX8_become 26 = .ok (.aload_n 3, 1) := by decide +kernel
theorem dX8_become_27 : decode cX8_become 27 = .ok (.getfield 93, 3) := by decide +kernel
theorem dX8_become_30 : decode cX8_become 30 = .ok (.istore 4, 2) := by decide +kernel
theorem dX8_become_32 : decode cX8_become 32 = .ok (.aload_n 3, 1) := by decide +kernel
theorem dX8_become_33 : decode cX8_become 33 = .ok (.iload_n 2, 1) := by decide +kernel
theorem dX8_become_34 : decode cX8_become 34 = .ok (.putfield 93, 3) := by decide +kernel
theorem dX8_become_37 : decode cX8_become 37 = .ok (.iload 4, 2) := by decide +kernel
theorem dX8_become_39 : decode cX8_become 39 = .ok (.i2l, 1) := by decide +kernel
theorem dX8_become_40 : decode cX8_become 40 = .ok (.lreturn, 1) := by decide +kernel
set_option maxRecDepth 20000 in
theorem ggX8_as_X6_at : GoodIn wsX8_as wsX6_at := goodIn_r _ [7, 8, 9, 44, 45, 46] (by decide +kernel) (by decide +kernel)
set_option maxRecDepth 20000 in
theorem gX8_as_X6_at : GoodIn wsX8_as (wsV RX8 89 RX6 yX6_at wsX6_at) := goodIn_app (goodIn_of _ (by decide +kernel)) ggX8_as_X6_at
set_option maxRecDepth 20000 in
theorem ggX8_as_X8_isKind : GoodIn wsX8_as wsX8_isKind := goodIn_r _ [13] (by decide +kernel) (by decide +kernel)
set_option maxRecDepth 20000 in
theorem gX8_as_X8_isKind : GoodIn wsX8_as (va_wsS RX8 77 yX8_isKind wsX8_isKind) := goodIn_app (goodIn_of _ (by decide +kernel)) ggX8_as_X8_isKind
set_option maxRecDepth 20000 in
theorem ggX8_as_X8_finding : GoodIn wsX8_as wsX8_finding := goodIn_r _ [17, 18, 19, 26, 27, 28, 29, 30, 31, 32, 33, 34, 35, 36, 37, 38] (by decide +kernel) (by decide +kernel)
set_option maxRecDepth 20000 in
theorem gX8_as_X8_finding : GoodIn wsX8_as (wsV RX8 81 RX8 yX8_finding wsX8_finding) := goodIn_app (goodIn_of _ (by decide +kernel)) ggX8_as_X8_finding
set_option maxRecDepth 20000 in
theorem ggX8_as_X5_ownMean : GoodIn wsX8_as wsX5_ownMean := goodIn_r _ [24, 25, 39, 40, 41, 42, 43] (by decide +kernel) (by decide +kernel)
set_option maxRecDepth 20000 in
theorem gX8_as_X5_ownMean : GoodIn wsX8_as (wsV RX8 98 RX5 yX5_ownMean wsX5_ownMean) := goodIn_app (goodIn_of _ (by decide +kernel)) ggX8_as_X5_ownMean
theorem dX8_as_0 : decode cX8_as 0 = .ok (.aload_n 0, 1) := by decide +kernel
theorem dX8_as_1 : decode cX8_as 1 = .ok (.getfield 10, 3) := by decide +kernel
theorem dX8_as_4 : decode cX8_as 4 = .ok (.iload_n 1, 1) := by decide +kernel
theorem dX8_as_5 : decode cX8_as 5 = .ok (.invokevirtual 89, 3) := by decide +kernel
theorem dX8_as_8 : decode cX8_as 8 = .ok (.astore_n 3, 1) := by decide +kernel
theorem dX8_as_9 : decode cX8_as 9 = .ok (.aload_n 3, 1) := by decide +kernel
theorem dX8_as_10 : decode cX8_as 10 = .ok (.ifnull 10, 3) := by decide +kernel
theorem dX8_as_13 : decode cX8_as 13 = .ok (.iload_n 2, 1) := by decide +kernel
theorem dX8_as_14 : decode cX8_as 14 = .ok (.invokestatic 77, 3) := by decide +kernel
theorem dX8_as_17 : decode cX8_as 17 = .ok (.ifCond .ne 9, 3) := by decide +kernel
theorem dX8_as_20 : decode cX8_as 20 = .ok (.aload_n 0, 1) := by decide +kernel
theorem dX8_as_21 : decode cX8_as 21 = .ok (.iconst 1, 1) := by decide +kernel
theorem dX8_as_22 : decode cX8_as 22 = .ok (.invokevirtual 81, 3) := by decide +kernel
theorem dX8_as_25 : decode cX8_as 25 = .ok (.lreturn, 1) := by decide +kernel
theorem dX8_as_26 : decode cX8_as 26 = .ok (.iload_n 2, 1) := by decide +kernel
theorem dX8_as_27 : decode cX8_as 27 = .ok (.ifCond .eq 17, 3) := by decide +kernel
theorem dX8_as_30 : decode cX8_as 30 = .ok (.iload_n 2, 1) := by decide +kernel
theorem dX8_as_31 : decode cX8_as 31 = .ok (.aload_n 3, 1) := by decide +kernel
theorem dX8_as_32 : decode cX8_as 32 = .ok (.getfield 93, 3) := by decide +kernel
theorem dX8_as_35 : decode cX8_as 35 = .ok (.if_icmp .eq 9, 3) := by decide +kernel
theorem dX8_as_38 : decode cX8_as 38 = .ok (.aload_n 0, 1) := by decide +kernel
theorem dX8_as_39 : decode cX8_as 39 = .ok (.iconst 5, 1) := by decide +kernel
theorem dX8_as_40 : decode cX8_as 40 = .ok (.invokevirtual 81, 3) := by decide +kernel
theorem dX8_as_43 : decode cX8_as 43 = .ok (.lreturn, 1) := by decide +kernel
theorem dX8_as_44 : decode cX8_as 44 = .ok (.aload_n 3, 1) := by decide +kernel
theorem dX8_as_45 : decode cX8_as 45 = .ok (.invokevirtual 98, 3) := by decide +kernel
theorem dX8_as_48 : decode cX8_as 48 = .ok (.lreturn, 1) := by decide +kernel
set_option maxRecDepth 20000 in
theorem ggX8_share_X6_at : GoodIn wsX8_share wsX6_at := goodIn_r _ [7, 8, 9, 38, 39, 40] (by decide +kernel) (by decide +kernel)
set_option maxRecDepth 20000 in
theorem gX8_share_X6_at : GoodIn wsX8_share (wsV RX8 89 RX6 yX6_at wsX6_at) := goodIn_app (goodIn_of _ (by decide +kernel)) ggX8_share_X6_at
set_option maxRecDepth 20000 in
theorem ggX8_share_X8_isLevel : GoodIn wsX8_share wsX8_isLevel := goodIn_r _ [13] (by decide +kernel) (by decide +kernel)
set_option maxRecDepth 20000 in
theorem gX8_share_X8_isLevel : GoodIn wsX8_share (va_wsS RX8 102 yX8_isLevel wsX8_isLevel) := goodIn_app (goodIn_of _ (by decide +kernel)) ggX8_share_X8_isLevel
set_option maxRecDepth 20000 in
theorem ggX8_share_X8_finding : GoodIn wsX8_share wsX8_finding := goodIn_r _ [17, 18, 19, 20, 21, 22, 23, 24, 25, 26, 27, 28, 29, 30, 31, 32] (by decide +kernel) (by decide +kernel)
set_option maxRecDepth 20000 in
theorem gX8_share_X8_finding : GoodIn wsX8_share (wsV RX8 81 RX8 yX8_finding wsX8_finding) := goodIn_app (goodIn_of _ (by decide +kernel)) ggX8_share_X8_finding
theorem dX8_share_0 : decode cX8_share 0 = .ok (.aload_n 0, 1) := by decide +kernel
theorem dX8_share_1 : decode cX8_share 1 = .ok (.getfield 10, 3) := by decide +kernel
theorem dX8_share_4 : decode cX8_share 4 = .ok (.iload_n 1, 1) := by decide +kernel
theorem dX8_share_5 : decode cX8_share 5 = .ok (.invokevirtual 89, 3) := by decide +kernel
theorem dX8_share_8 : decode cX8_share 8 = .ok (.astore_n 3, 1) := by decide +kernel
theorem dX8_share_9 : decode cX8_share 9 = .ok (.aload_n 3, 1) := by decide +kernel
theorem dX8_share_10 : decode cX8_share 10 = .ok (.ifnull 10, 3) := by decide +kernel
theorem dX8_share_13 : decode cX8_share 13 = .ok (.iload_n 2, 1) := by decide +kernel
theorem dX8_share_14 : decode cX8_share 14 = .ok (.invokestatic 102, 3) := by decide +kernel
theorem dX8_share_17 : decode cX8_share 17 = .ok (.ifCond .ne 9, 3) := by decide +kernel
theorem dX8_share_20 : decode cX8_share 20 = .ok (.aload_n 0, 1) := by decide +kernel
theorem dX8_share_21 : decode cX8_share 21 = .ok (.iconst 1, 1) := by decide +kernel
theorem dX8_share_22 : decode cX8_share 22 = .ok (.invokevirtual 81, 3) := by decide +kernel
theorem dX8_share_25 : decode cX8_share 25 = .ok (.lreturn, 1) := by decide +kernel
theorem dX8_share_26 : decode cX8_share 26 = .ok (.aload_n 3, 1) := by decide +kernel
theorem dX8_share_27 : decode cX8_share 27 = .ok (.getfield 105, 3) := by decide +kernel
theorem dX8_share_30 : decode cX8_share 30 = .ok (.iload_n 2, 1) := by decide +kernel
theorem dX8_share_31 : decode cX8_share 31 = .ok (.laload, 1) := by decide +kernel
theorem dX8_share_32 : decode cX8_share 32 = .ok (.lreturn, 1) := by decide +kernel
set_option maxRecDepth 20000 in
theorem ggX8_shift_X6_at : GoodIn wsX8_shift wsX6_at := goodIn_r _ [7, 8, 9, 38, 39, 40] (by decide +kernel) (by decide +kernel)
set_option maxRecDepth 20000 in
theorem gX8_shift_X6_at : GoodIn wsX8_shift (wsV RX8 89 RX6 yX6_at wsX6_at) := goodIn_app (goodIn_of _ (by decide +kernel)) ggX8_shift_X6_at
set_option maxRecDepth 20000 in
theorem ggX8_shift_X8_isLevel : GoodIn wsX8_shift wsX8_isLevel := goodIn_r _ [13] (by decide +kernel) (by decide +kernel)
set_option maxRecDepth 20000 in
theorem gX8_shift_X8_isLevel : GoodIn wsX8_shift (va_wsS RX8 102 yX8_isLevel wsX8_isLevel) := goodIn_app (goodIn_of _ (by decide +kernel)) ggX8_shift_X8_isLevel
set_option maxRecDepth 20000 in
theorem ggX8_shift_X8_finding : GoodIn wsX8_shift wsX8_finding := goodIn_r _ [17, 18, 19, 20, 21, 22, 23, 24, 25, 26, 27, 28, 29, 30, 31, 32] (by decide +kernel) (by decide +kernel)
set_option maxRecDepth 20000 in
theorem gX8_shift_X8_finding : GoodIn wsX8_shift (wsV RX8 81 RX8 yX8_finding wsX8_finding) := goodIn_app (goodIn_of _ (by decide +kernel)) ggX8_shift_X8_finding
theorem dX8_shift_0 : decode cX8_shift 0 = .ok (.aload_n 0, 1) := by decide +kernel
theorem dX8_shift_1 : decode cX8_shift 1 = .ok (.getfield 10, 3) := by decide +kernel
theorem dX8_shift_4 : decode cX8_shift 4 = .ok (.iload_n 1, 1) := by decide +kernel
theorem dX8_shift_5 : decode cX8_shift 5 = .ok (.invokevirtual 89, 3) := by decide +kernel
theorem dX8_shift_8 : decode cX8_shift 8 = .ok (.astore 5, 2) := by decide +kernel
theorem dX8_shift_10 : decode cX8_shift 10 = .ok (.aload 5, 2) := by decide +kernel
theorem dX8_shift_12 : decode cX8_shift 12 = .ok (.ifnull 17, 3) := by decide +kernel
theorem dX8_shift_15 : decode cX8_shift 15 = .ok (.iload_n 2, 1) := by decide +kernel
theorem dX8_shift_16 : decode cX8_shift 16 = .ok (.invokestatic 102, 3) := by decide +kernel
theorem dX8_shift_19 : decode cX8_shift 19 = .ok (.ifCond .eq 10, 3) := by decide +kernel
theorem dX8_shift_22 : decode cX8_shift 22 = .ok (.iload_n 3, 1) := by decide +kernel
theorem dX8_shift_23 : decode cX8_shift 23 = .ok (.invokestatic 102, 3) := by decide +kernel
theorem dX8_shift_26 : decode cX8_shift 26 = .ok (.ifCond .ne 9, 3) := by decide +kernel
theorem dX8_shift_29 : decode cX8_shift 29 = .ok (.aload_n 0, 1) := by decide +kernel
theorem dX8_shift_30 : decode cX8_shift 30 = .ok (.iconst 1, 1) := by decide +kernel
theorem dX8_shift_31 : decode cX8_shift 31 = .ok (.invokevirtual 81, 3) := by decide +kernel
theorem dX8_shift_34 : decode cX8_shift 34 = .ok (.lreturn, 1) := by decide +kernel
theorem dX8_shift_35 : decode cX8_shift 35 = .ok (.iload 4, 2) := by decide +kernel
theorem dX8_shift_37 : decode cX8_shift 37 = .ok (.ifCond .lt 17, 3) := by decide +kernel
theorem dX8_shift_40 : decode cX8_shift 40 = .ok (.iload 4, 2) := by decide +kernel
theorem dX8_shift_42 : decode cX8_shift 42 = .ok (.i2l, 1) := by decide +kernel
theorem dX8_shift_43 : decode cX8_shift 43 = .ok (.aload 5, 2) := by decide +kernel
theorem dX8_shift_45 : decode cX8_shift 45 = .ok (.getfield 105, 3) := by decide +kernel
theorem dX8_shift_48 : decode cX8_shift 48 = .ok (.iload_n 2, 1) := by decide +kernel
theorem dX8_shift_49 : decode cX8_shift 49 = .ok (.laload, 1) := by decide +kernel
theorem dX8_shift_50 : decode cX8_shift 50 = .ok (.lcmp, 1) := by decide +kernel
theorem dX8_shift_51 : decode cX8_shift 51 = .ok (.ifCond .le 9, 3) := by decide +kernel
theorem dX8_shift_54 : decode cX8_shift 54 = .ok (.aload_n 0, 1) := by decide +kernel
theorem dX8_shift_55 : decode cX8_shift 55 = .ok (.iconst 1, 1) := by decide +kernel
theorem dX8_shift_56 : decode cX8_shift 56 = .ok (.invokevirtual 81, 3) := by decide +kernel
theorem dX8_shift_59 : decode cX8_shift 59 = .ok (.lreturn, 1) := by decide +kernel
theorem dX8_shift_60 : decode cX8_shift 60 = .ok (.aload 5, 2) := by decide +kernel
theorem dX8_shift_62 : decode cX8_shift 62 = .ok (.getfield 105, 3) := by decide +kernel
theorem dX8_shift_65 : decode cX8_shift 65 = .ok (.iload_n 2, 1) := by decide +kernel
theorem dX8_shift_66 : decode cX8_shift 66 = .ok (.dup2, 1) := by decide +kernel
theorem dX8_shift_67 : decode cX8_shift 67 = .ok (.laload, 1) := by decide +kernel
theorem dX8_shift_68 : decode cX8_shift 68 = .ok (.iload 4, 2) := by decide +kernel
theorem dX8_shift_70 : decode cX8_shift 70 = .ok (.i2l, 1) := by decide +kernel
theorem dX8_shift_71 : decode cX8_shift 71 = .ok (.lsub, 1) := by decide +kernel
theorem dX8_shift_72 : decode cX8_shift 72 = .ok (.lastore, 1) := by decide +kernel
theorem dX8_shift_73 : decode cX8_shift 73 = .ok (.aload 5, 2) := by decide +kernel
theorem dX8_shift_75 : decode cX8_shift 75 = .ok (.getfield 105, 3) := by decide +kernel
theorem dX8_shift_78 : decode cX8_shift 78 = .ok (.iload_n 3, 1) := by decide +kernel
theorem dX8_shift_79 : decode cX8_shift 79 = .ok (.dup2, 1) := by decide +kernel
theorem dX8_shift_80 : decode cX8_shift 80 = .ok (.laload, 1) := by decide +kernel
theorem dX8_shift_81 : decode cX8_shift 81 = .ok (.iload 4, 2) := by decide +kernel
theorem dX8_shift_83 : decode cX8_shift 83 = .ok (.i2l, 1) := by decide +kernel
theorem dX8_shift_84 : decode cX8_shift 84 = .ok (.ladd, 1) := by decide +kernel
theorem dX8_shift_85 : decode cX8_shift 85 = .ok (.lastore, 1) := by decide +kernel
theorem dX8_shift_86 : decode cX8_shift 86 = .ok (.aload 5, 2) := by decide +kernel
theorem dX8_shift_88 : decode cX8_shift 88 = .ok (.getfield 105, 3) := by decide +kernel
theorem dX8_shift_91 : decode cX8_shift 91 = .ok (.iload_n 3, 1) := by decide +kernel
theorem dX8_shift_92 : decode cX8_shift 92 = .ok (.laload, 1) := by decide +kernel
theorem dX8_shift_93 : decode cX8_shift 93 = .ok (.lreturn, 1) := by decide +kernel
set_option maxRecDepth 20000 in
theorem ggX8_mean_X6_at : GoodIn wsX8_mean wsX6_at := goodIn_r _ [6, 7, 8, 35, 36, 37] (by decide +kernel) (by decide +kernel)
set_option maxRecDepth 20000 in
theorem gX8_mean_X6_at : GoodIn wsX8_mean (wsV RX8 89 RX6 yX6_at wsX6_at) := goodIn_app (goodIn_of _ (by decide +kernel)) ggX8_mean_X6_at
set_option maxRecDepth 20000 in
theorem ggX8_mean_X8_finding : GoodIn wsX8_mean wsX8_finding := goodIn_r _ [13, 14, 15, 22, 23, 24, 25, 26, 27, 28, 29, 30, 31, 32, 33, 34] (by decide +kernel) (by decide +kernel)
set_option maxRecDepth 20000 in
theorem gX8_mean_X8_finding : GoodIn wsX8_mean (wsV RX8 81 RX8 yX8_finding wsX8_finding) := goodIn_app (goodIn_of _ (by decide +kernel)) ggX8_mean_X8_finding
set_option maxRecDepth 20000 in
theorem ggX8_mean_X5_ownMean : GoodIn wsX8_mean wsX5_ownMean := goodIn_r _ [20, 21, 38, 39, 40, 41, 42] (by decide +kernel) (by decide +kernel)
set_option maxRecDepth 20000 in
theorem gX8_mean_X5_ownMean : GoodIn wsX8_mean (wsV RX8 98 RX5 yX5_ownMean wsX5_ownMean) := goodIn_app (goodIn_of _ (by decide +kernel)) ggX8_mean_X5_ownMean
theorem dX8_mean_0 : decode cX8_mean 0 = .ok (.aload_n 0, 1) := by decide +kernel
theorem dX8_mean_1 : decode cX8_mean 1 = .ok (.getfield 10, 3) := by decide +kernel
theorem dX8_mean_4 : decode cX8_mean 4 = .ok (.iload_n 1, 1) := by decide +kernel
theorem dX8_mean_5 : decode cX8_mean 5 = .ok (.invokevirtual 89, 3) := by decide +kernel
theorem dX8_mean_8 : decode cX8_mean 8 = .ok (.astore_n 2, 1) := by decide +kernel
theorem dX8_mean_9 : decode cX8_mean 9 = .ok (.aload_n 2, 1) := by decide +kernel
theorem dX8_mean_10 : decode cX8_mean 10 = .ok (.ifnonnull 9, 3) := by decide +kernel
theorem dX8_mean_13 : decode cX8_mean 13 = .ok (.aload_n 0, 1) := by decide +kernel
theorem dX8_mean_14 : decode cX8_mean 14 = .ok (.iconst 1, 1) := by decide +kernel
theorem dX8_mean_15 : decode cX8_mean 15 = .ok (.invokevirtual 81, 3) := by decide +kernel
theorem dX8_mean_18 : decode cX8_mean 18 = .ok (.lreturn, 1) := by decide +kernel
theorem dX8_mean_19 : decode cX8_mean 19 = .ok (.aload_n 2, 1) := by decide +kernel
theorem dX8_mean_20 : decode cX8_mean 20 = .ok (.invokevirtual 98, 3) := by decide +kernel
theorem dX8_mean_23 : decode cX8_mean 23 = .ok (.lreturn, 1) := by decide +kernel
set_option maxRecDepth 20000 in
theorem ggX8_chance_X6_at : GoodIn wsX8_chance wsX6_at := goodIn_r _ [6, 7, 8, 51, 52, 53] (by decide +kernel) (by decide +kernel)
set_option maxRecDepth 20000 in
theorem gX8_chance_X6_at : GoodIn wsX8_chance (wsV RX8 89 RX6 yX6_at wsX6_at) := goodIn_app (goodIn_of _ (by decide +kernel)) ggX8_chance_X6_at
set_option maxRecDepth 20000 in
theorem ggX8_chance_X8_finding : GoodIn wsX8_chance wsX8_finding := goodIn_r _ [13, 14, 15, 38, 39, 40, 41, 42, 43, 44, 45, 46, 47, 48, 49, 50] (by decide +kernel) (by decide +kernel)
set_option maxRecDepth 20000 in
theorem gX8_chance_X8_finding : GoodIn wsX8_chance (wsV RX8 81 RX8 yX8_finding wsX8_finding) := goodIn_app (goodIn_of _ (by decide +kernel)) ggX8_chance_X8_finding
set_option maxRecDepth 20000 in
theorem ggX8_chance_X8_bitOf : GoodIn wsX8_chance wsX8_bitOf := goodIn_r _ [18] (by decide +kernel) (by decide +kernel)
set_option maxRecDepth 20000 in
theorem gX8_chance_X8_bitOf : GoodIn wsX8_chance (va_wsS RX8 108 yX8_bitOf wsX8_bitOf) := goodIn_app (goodIn_of _ (by decide +kernel)) ggX8_chance_X8_bitOf
set_option maxRecDepth 20000 in
theorem ggX8_chance_X6_chanceOf : GoodIn wsX8_chance wsX6_chanceOf := goodIn_r _ [22, 23, 24, 25, 26, 27, 5, 28, 8, 29, 30, 3, 4, 6, 7, 31, 12, 32, 33, 34, 35, 36, 37, 54, 55, 56, 57, 58, 51, 52, 53] (by decide +kernel) (by decide +kernel)
set_option maxRecDepth 20000 in
theorem gX8_chance_X6_chanceOf : GoodIn wsX8_chance (wsV RX8 111 RX6 yX6_chanceOf wsX6_chanceOf) := goodIn_app (goodIn_of _ (by decide +kernel)) ggX8_chance_X6_chanceOf
theorem dX8_chance_0 : decode cX8_chance 0 = .ok (.aload_n 0, 1) := by decide +kernel
theorem dX8_chance_1 : decode cX8_chance 1 = .ok (.getfield 10, 3) := by decide +kernel
theorem dX8_chance_4 : decode cX8_chance 4 = .ok (.iload_n 1, 1) := by decide +kernel
theorem dX8_chance_5 : decode cX8_chance 5 = .ok (.invokevirtual 89, 3) := by decide +kernel
theorem dX8_chance_8 : decode cX8_chance 8 = .ok (.astore_n 3, 1) := by decide +kernel
theorem dX8_chance_9 : decode cX8_chance 9 = .ok (.aload_n 3, 1) := by decide +kernel
theorem dX8_chance_10 : decode cX8_chance 10 = .ok (.ifnull 19, 3) := by decide +kernel
theorem dX8_chance_13 : decode cX8_chance 13 = .ok (.aload_n 0, 1) := by decide +kernel
theorem dX8_chance_14 : decode cX8_chance 14 = .ok (.getfield 10, 3) := by decide +kernel
theorem dX8_chance_17 : decode cX8_chance 17 = .ok (.iload_n 2, 1) := by decide +kernel
theorem dX8_chance_18 : decode cX8_chance 18 = .ok (.invokevirtual 89, 3) := by decide +kernel
theorem dX8_chance_21 : decode cX8_chance 21 = .ok (.ifnull 8, 3) := by decide +kernel
theorem dX8_chance_24 : decode cX8_chance 24 = .ok (.iload_n 1, 1) := by decide +kernel
theorem dX8_chance_25 : decode cX8_chance 25 = .ok (.iload_n 2, 1) := by decide +kernel
theorem dX8_chance_26 : decode cX8_chance 26 = .ok (.if_icmp .ne 9, 3) := by decide +kernel
theorem dX8_chance_29 : decode cX8_chance 29 = .ok (.aload_n 0, 1) := by decide +kernel
theorem dX8_chance_30 : decode cX8_chance 30 = .ok (.iconst 1, 1) := by decide +kernel
theorem dX8_chance_31 : decode cX8_chance 31 = .ok (.invokevirtual 81, 3) := by decide +kernel
theorem dX8_chance_34 : decode cX8_chance 34 = .ok (.lreturn, 1) := by decide +kernel
theorem dX8_chance_35 : decode cX8_chance 35 = .ok (.aload_n 0, 1) := by decide +kernel
theorem dX8_chance_36 : decode cX8_chance 36 = .ok (.getfield 10, 3) := by decide +kernel
theorem dX8_chance_39 : decode cX8_chance 39 = .ok (.aload_n 3, 1) := by decide +kernel
theorem dX8_chance_40 : decode cX8_chance 40 = .ok (.iload_n 2, 1) := by decide +kernel
theorem dX8_chance_41 : decode cX8_chance 41 = .ok (.invokestatic 108, 3) := by decide +kernel
theorem dX8_chance_44 : decode cX8_chance 44 = .ok (.invokevirtual 111, 3) := by decide +kernel
theorem dX8_chance_47 : decode cX8_chance 47 = .ok (.lreturn, 1) := by decide +kernel
set_option maxRecDepth 20000 in
theorem ggX8_season_X2_going : GoodIn wsX8_season wsX2_going := goodIn_r _ [8, 9, 10, 11, 12, 13, 14, 15, 62, 63, 64, 65, 66, 67] (by decide +kernel) (by decide +kernel)
set_option maxRecDepth 20000 in
theorem gX8_season_X2_going : GoodIn wsX8_season (wsV RX8 115 RX2 yX2_going wsX2_going) := goodIn_app (goodIn_of _ (by decide +kernel)) ggX8_season_X2_going
set_option maxRecDepth 20000 in
theorem ggX8_season_X8_finding : GoodIn wsX8_season wsX8_finding := goodIn_r _ [20, 21, 22, 46, 47, 48, 49, 50, 51, 52, 53, 54, 55, 56, 57, 58] (by decide +kernel) (by decide +kernel)
set_option maxRecDepth 20000 in
theorem gX8_season_X8_finding : GoodIn wsX8_season (wsV RX8 81 RX8 yX8_finding wsX8_finding) := goodIn_app (goodIn_of _ (by decide +kernel)) ggX8_season_X8_finding
set_option maxRecDepth 20000 in
theorem ggX8_season_X6_drawToTheMiddle : GoodIn wsX8_season wsX6_drawToTheMiddle := goodIn_r _ [27, 28, 29, 30, 31, 26, 32, 33, 34, 35, 36, 37, 38, 39, 40, 41, 42, 19, 43, 44, 45, 59, 60, 61, 68, 69, 70, 71, 72] (by decide +kernel) (by decide +kernel)
set_option maxRecDepth 20000 in
theorem gX8_season_X6_drawToTheMiddle : GoodIn wsX8_season (wsV RX8 119 RX6 yX6_drawToTheMiddle wsX6_drawToTheMiddle) := goodIn_app (goodIn_of _ (by decide +kernel)) ggX8_season_X6_drawToTheMiddle
theorem dX8_season_0 : decode cX8_season 0 = .ok (.aload_n 0, 1) := by decide +kernel
theorem dX8_season_1 : decode cX8_season 1 = .ok (.getfield 43, 3) := by decide +kernel
theorem dX8_season_4 : decode cX8_season 4 = .ok (.invokevirtual 115, 3) := by decide +kernel
theorem dX8_season_7 : decode cX8_season 7 = .ok (.ifCond .le 9, 3) := by decide +kernel
theorem dX8_season_10 : decode cX8_season 10 = .ok (.aload_n 0, 1) := by decide +kernel
theorem dX8_season_11 : decode cX8_season 11 = .ok (.iconst 3, 1) := by decide +kernel
theorem dX8_season_12 : decode cX8_season 12 = .ok (.invokevirtual 81, 3) := by decide +kernel
theorem dX8_season_15 : decode cX8_season 15 = .ok (.lreturn, 1) := by decide +kernel
theorem dX8_season_16 : decode cX8_season 16 = .ok (.aload_n 0, 1) := by decide +kernel
theorem dX8_season_17 : decode cX8_season 17 = .ok (.getfield 10, 3) := by decide +kernel
theorem dX8_season_20 : decode cX8_season 20 = .ok (.invokevirtual 119, 3) := by decide +kernel
theorem dX8_season_23 : decode cX8_season 23 = .ok (.aload_n 0, 1) := by decide +kernel
theorem dX8_season_24 : decode cX8_season 24 = .ok (.getfield 10, 3) := by decide +kernel
theorem dX8_season_27 : decode cX8_season 27 = .ok (.getfield 122, 3) := by decide +kernel
theorem dX8_season_30 : decode cX8_season 30 = .ok (.i2l, 1) := by decide +kernel
theorem dX8_season_31 : decode cX8_season 31 = .ok (.lreturn, 1) := by decide +kernel
set_option maxRecDepth 20000 in
theorem ggX8_size_X8_finding : GoodIn wsX8_size wsX8_finding := goodIn_r _ [9, 10, 11, 24, 25, 26, 27, 28, 29, 30, 31, 32, 33, 34, 35, 36] (by decide +kernel) (by decide +kernel)
set_option maxRecDepth 20000 in
theorem gX8_size_X8_finding : GoodIn wsX8_size (wsV RX8 81 RX8 yX8_finding wsX8_finding) := goodIn_app (goodIn_of _ (by decide +kernel)) ggX8_size_X8_finding
set_option maxRecDepth 20000 in
theorem ggX8_size_X2_going : GoodIn wsX8_size wsX2_going := goodIn_r _ [16, 17, 18, 19, 20, 21, 22, 23, 40, 41, 42, 43, 44, 45] (by decide +kernel) (by decide +kernel)
set_option maxRecDepth 20000 in
theorem gX8_size_X2_going : GoodIn wsX8_size (wsV RX8 115 RX2 yX2_going wsX2_going) := goodIn_app (goodIn_of _ (by decide +kernel)) ggX8_size_X2_going
theorem dX8_size_0 : decode cX8_size 0 = .ok (.iload_n 1, 1) := by decide +kernel
theorem dX8_size_1 : decode cX8_size 1 = .ok (.iconst 1, 1) := by decide +kernel
theorem dX8_size_2 : decode cX8_size 2 = .ok (.if_icmp .lt 8, 3) := by decide +kernel
theorem dX8_size_5 : decode cX8_size 5 = .ok (.iload_n 1, 1) := by decide +kernel
theorem dX8_size_6 : decode cX8_size 6 = .ok (.iconst 3, 1) := by decide +kernel
theorem dX8_size_7 : decode cX8_size 7 = .ok (.if_icmp .le 9, 3) := by decide +kernel
theorem dX8_size_10 : decode cX8_size 10 = .ok (.aload_n 0, 1) := by decide +kernel
theorem dX8_size_11 : decode cX8_size 11 = .ok (.iconst 1, 1) := by decide +kernel
theorem dX8_size_12 : decode cX8_size 12 = .ok (.invokevirtual 81, 3) := by decide +kernel
theorem dX8_size_15 : decode cX8_size 15 = .ok (.lreturn, 1) := by decide +kernel
theorem dX8_size_16 : decode cX8_size 16 = .ok (.aload_n 0, 1) := by decide +kernel
theorem dX8_size_17 : decode cX8_size 17 = .ok (.getfield 43, 3) := by decide +kernel
theorem dX8_size_20 : decode cX8_size 20 = .ok (.invokevirtual 115, 3) := by decide +kernel
theorem dX8_size_23 : decode cX8_size 23 = .ok (.ifCond .gt 13, 3) := by decide +kernel
theorem dX8_size_26 : decode cX8_size 26 = .ok (.aload_n 0, 1) := by decide +kernel
theorem dX8_size_27 : decode cX8_size 27 = .ok (.getfield 19, 3) := by decide +kernel
theorem dX8_size_30 : decode cX8_size 30 = .ok (.getfield 125, 3) := by decide +kernel
theorem dX8_size_33 : decode cX8_size 33 = .ok (.ifCond .le 9, 3) := by decide +kernel
theorem dX8_size_36 : decode cX8_size 36 = .ok (.aload_n 0, 1) := by decide +kernel
theorem dX8_size_37 : decode cX8_size 37 = .ok (.iconst 3, 1) := by decide +kernel
theorem dX8_size_38 : decode cX8_size 38 = .ok (.invokevirtual 81, 3) := by decide +kernel
theorem dX8_size_41 : decode cX8_size 41 = .ok (.lreturn, 1) := by decide +kernel
theorem dX8_size_42 : decode cX8_size 42 = .ok (.aload_n 0, 1) := by decide +kernel
theorem dX8_size_43 : decode cX8_size 43 = .ok (.getfield 65, 3) := by decide +kernel
theorem dX8_size_46 : decode cX8_size 46 = .ok (.istore_n 2, 1) := by decide +kernel
theorem dX8_size_47 : decode cX8_size 47 = .ok (.aload_n 0, 1) := by decide +kernel
theorem dX8_size_48 : decode cX8_size 48 = .ok (.iload_n 1, 1) := by decide +kernel
theorem dX8_size_49 : decode cX8_size 49 = .ok (.putfield 65, 3) := by decide +kernel
theorem dX8_size_52 : decode cX8_size 52 = .ok (.iload_n 2, 1) := by decide +kernel
theorem dX8_size_53 : decode cX8_size 53 = .ok (.i2l, 1) := by decide +kernel
theorem dX8_size_54 : decode cX8_size 54 = .ok (.lreturn, 1) := by decide +kernel
set_option maxRecDepth 20000 in
theorem ggX8_bounds_X8_isBound : GoodIn wsX8_bounds wsX8_isBound := goodIn_r _ [8, 9] (by decide +kernel) (by decide +kernel)
set_option maxRecDepth 20000 in
theorem gX8_bounds_X8_isBound : GoodIn wsX8_bounds (va_wsS RX8 128 yX8_isBound wsX8_isBound) := goodIn_app (goodIn_of _ (by decide +kernel)) ggX8_bounds_X8_isBound
set_option maxRecDepth 20000 in
theorem ggX8_bounds_X8_finding : GoodIn wsX8_bounds wsX8_finding := goodIn_r _ [13, 14, 15, 16, 17, 18, 19, 20, 21, 22, 23, 24, 25, 26, 27, 28] (by decide +kernel) (by decide +kernel)
set_option maxRecDepth 20000 in
theorem gX8_bounds_X8_finding : GoodIn wsX8_bounds (wsV RX8 81 RX8 yX8_finding wsX8_finding) := goodIn_app (goodIn_of _ (by decide +kernel)) ggX8_bounds_X8_finding
theorem dX8_bounds_0 : decode cX8_bounds 0 = .ok (.iload_n 1, 1) := by decide +kernel
theorem dX8_bounds_1 : decode cX8_bounds 1 = .ok (.invokestatic 128, 3) := by decide +kernel
theorem dX8_bounds_4 : decode cX8_bounds 4 = .ok (.ifCond .eq 17, 3) := by decide +kernel
theorem dX8_bounds_7 : decode cX8_bounds 7 = .ok (.iload_n 2, 1) := by decide +kernel
theorem dX8_bounds_8 : decode cX8_bounds 8 = .ok (.invokestatic 128, 3) := by decide +kernel
theorem dX8_bounds_11 : decode cX8_bounds 11 = .ok (.ifCond .eq 10, 3) := by decide +kernel
theorem dX8_bounds_14 : decode cX8_bounds 14 = .ok (.iload_n 3, 1) := by decide +kernel
theorem dX8_bounds_15 : decode cX8_bounds 15 = .ok (.invokestatic 128, 3) := by decide +kernel
theorem dX8_bounds_18 : decode cX8_bounds 18 = .ok (.ifCond .ne 9, 3) := by decide +kernel
theorem dX8_bounds_21 : decode cX8_bounds 21 = .ok (.aload_n 0, 1) := by decide +kernel
theorem dX8_bounds_22 : decode cX8_bounds 22 = .ok (.iconst 1, 1) := by decide +kernel
theorem dX8_bounds_23 : decode cX8_bounds 23 = .ok (.invokevirtual 81, 3) := by decide +kernel
theorem dX8_bounds_26 : decode cX8_bounds 26 = .ok (.lreturn, 1) := by decide +kernel
theorem dX8_bounds_27 : decode cX8_bounds 27 = .ok (.aload_n 0, 1) := by decide +kernel
theorem dX8_bounds_28 : decode cX8_bounds 28 = .ok (.getfield 50, 3) := by decide +kernel
theorem dX8_bounds_31 : decode cX8_bounds 31 = .ok (.iload_n 1, 1) := by decide +kernel
theorem dX8_bounds_32 : decode cX8_bounds 32 = .ok (.i2l, 1) := by decide +kernel
theorem dX8_bounds_33 : decode cX8_bounds 33 = .ok (.putfield 131, 3) := by decide +kernel
theorem dX8_bounds_36 : decode cX8_bounds 36 = .ok (.aload_n 0, 1) := by decide +kernel
theorem dX8_bounds_37 : decode cX8_bounds 37 = .ok (.getfield 50, 3) := by decide +kernel
theorem dX8_bounds_40 : decode cX8_bounds 40 = .ok (.iload_n 2, 1) := by decide +kernel
theorem dX8_bounds_41 : decode cX8_bounds 41 = .ok (.i2l, 1) := by decide +kernel
theorem dX8_bounds_42 : decode cX8_bounds 42 = .ok (.putfield 134, 3) := by decide +kernel
theorem dX8_bounds_45 : decode cX8_bounds 45 = .ok (.aload_n 0, 1) := by decide +kernel
theorem dX8_bounds_46 : decode cX8_bounds 46 = .ok (.getfield 50, 3) := by decide +kernel
theorem dX8_bounds_49 : decode cX8_bounds 49 = .ok (.iload_n 3, 1) := by decide +kernel
theorem dX8_bounds_50 : decode cX8_bounds 50 = .ok (.i2l, 1) := by decide +kernel
theorem dX8_bounds_51 : decode cX8_bounds 51 = .ok (.putfield 137, 3) := by decide +kernel
theorem dX8_bounds_54 : decode cX8_bounds 54 = .ok (.lconst 1, 1) := by decide +kernel
theorem dX8_bounds_55 : decode cX8_bounds 55 = .ok (.lreturn, 1) := by decide +kernel
set_option maxRecDepth 20000 in
theorem ggX8_wait_X8_partyOf : GoodIn wsX8_wait wsX8_partyOf := goodIn_r _ [10, 11, 12, 13, 14, 15, 16, 17, 18, 19, 20, 9, 21, 71, 72, 73, 74, 75, 76, 77, 78, 79, 80, 81, 82, 83, 87, 88, 89] (by decide +kernel) (by decide +kernel)
set_option maxRecDepth 20000 in
theorem gX8_wait_X8_partyOf : GoodIn wsX8_wait (wsV RX8 140 RX8 yX8_partyOf wsX8_partyOf) := goodIn_app (goodIn_of _ (by decide +kernel)) ggX8_wait_X8_partyOf
set_option maxRecDepth 20000 in
theorem ggX8_wait_X8_finding : GoodIn wsX8_wait wsX8_finding := goodIn_r _ [25, 26, 27, 71, 72, 73, 74, 75, 76, 77, 78, 79, 80, 81, 82, 83] (by decide +kernel) (by decide +kernel)
set_option maxRecDepth 20000 in
theorem gX8_wait_X8_finding : GoodIn wsX8_wait (wsV RX8 81 RX8 yX8_finding wsX8_finding) := goodIn_app (goodIn_of _ (by decide +kernel)) ggX8_wait_X8_finding
set_option maxRecDepth 20000 in
theorem ggX8_wait_J6_bitCount_0f7a4 : GoodIn wsX8_wait wsJ6_bitCount_0f7a4 := goodIn_r _ [31, 32, 33, 34] (by decide +kernel) (by decide +kernel)
set_option maxRecDepth 20000 in
theorem gX8_wait_J6_bitCount_0f7a4 : GoodIn wsX8_wait (va_wsS RX8 144 yJ6_bitCount_0f7a4 wsJ6_bitCount_0f7a4) := goodIn_app (goodIn_of _ (by decide +kernel)) ggX8_wait_J6_bitCount_0f7a4
set_option maxRecDepth 20000 in
theorem ggX8_wait_X7_everybody : GoodIn wsX8_wait wsX7_everybody := goodIn_r _ [39, 40, 41, 42, 38, 43, 44, 45, 9, 46, 47, 48, 49, 50, 51, 84, 85, 86] (by decide +kernel) (by decide +kernel)
set_option maxRecDepth 20000 in
theorem gX8_wait_X7_everybody : GoodIn wsX8_wait (wsV RX8 149 RX7 yX7_everybody wsX7_everybody) := goodIn_app (goodIn_of _ (by decide +kernel)) ggX8_wait_X7_everybody
set_option maxRecDepth 20000 in
theorem ggX8_wait_X2_everybody : GoodIn wsX8_wait wsX2_everybody := goodIn_r _ [56, 57, 58, 59, 60, 61, 62, 63, 64, 65, 90, 91, 92, 93, 94, 95] (by decide +kernel) (by decide +kernel)
set_option maxRecDepth 20000 in
theorem gX8_wait_X2_everybody : GoodIn wsX8_wait (wsV RX8 152 RX2 yX2_everybody wsX2_everybody) := goodIn_app (goodIn_of _ (by decide +kernel)) ggX8_wait_X2_everybody
set_option maxRecDepth 20000 in
theorem ggX8_wait_X7_join : GoodIn wsX8_wait wsX7_join := goodIn_r _ [69, 51, 44, 70, 84, 85, 86] (by decide +kernel) (by decide +kernel)
set_option maxRecDepth 20000 in
theorem gX8_wait_X7_join : GoodIn wsX8_wait (wsV RX8 153 RX7 yX7_join wsX7_join) := goodIn_app (goodIn_of _ (by decide +kernel)) ggX8_wait_X7_join
theorem dX8_wait_0 : decode cX8_wait 0 = .ok (.aload_n 0, 1) := by decide +kernel
theorem dX8_wait_1 : decode cX8_wait 1 = .ok (.iload_n 1, 1) := by decide +kernel
theorem dX8_wait_2 : decode cX8_wait 2 = .ok (.iload_n 2, 1) := by decide +kernel
theorem dX8_wait_3 : decode cX8_wait 3 = .ok (.iload_n 3, 1) := by decide +kernel
theorem dX8_wait_4 : decode cX8_wait 4 = .ok (.invokevirtual 140, 3) := by decide +kernel
theorem dX8_wait_7 : decode cX8_wait 7 = .ok (.istore 4, 2) := by decide +kernel
theorem dX8_wait_9 : decode cX8_wait 9 = .ok (.iload 4, 2) := by decide +kernel
theorem dX8_wait_11 : decode cX8_wait 11 = .ok (.ifCond .ne 9, 3) := by decide +kernel
theorem dX8_wait_14 : decode cX8_wait 14 = .ok (.aload_n 0, 1) := by decide +kernel
theorem dX8_wait_15 : decode cX8_wait 15 = .ok (.iconst 1, 1) := by decide +kernel
theorem dX8_wait_16 : decode cX8_wait 16 = .ok (.invokevirtual 81, 3) := by decide +kernel
theorem dX8_wait_19 : decode cX8_wait 19 = .ok (.lreturn, 1) := by decide +kernel
theorem dX8_wait_20 : decode cX8_wait 20 = .ok (.iload 4, 2) := by decide +kernel
theorem dX8_wait_22 : decode cX8_wait 22 = .ok (.invokestatic 144, 3) := by decide +kernel
theorem dX8_wait_25 : decode cX8_wait 25 = .ok (.aload_n 0, 1) := by decide +kernel
theorem dX8_wait_26 : decode cX8_wait 26 = .ok (.getfield 65, 3) := by decide +kernel
theorem dX8_wait_29 : decode cX8_wait 29 = .ok (.if_icmp .le 9, 3) := by decide +kernel
theorem dX8_wait_32 : decode cX8_wait 32 = .ok (.aload_n 0, 1) := by decide +kernel
theorem dX8_wait_33 : decode cX8_wait 33 = .ok (.iconst 5, 1) := by decide +kernel
theorem dX8_wait_34 : decode cX8_wait 34 = .ok (.invokevirtual 81, 3) := by decide +kernel
theorem dX8_wait_37 : decode cX8_wait 37 = .ok (.lreturn, 1) := by decide +kernel
theorem dX8_wait_38 : decode cX8_wait 38 = .ok (.iload 4, 2) := by decide +kernel
theorem dX8_wait_40 : decode cX8_wait 40 = .ok (.aload_n 0, 1) := by decide +kernel
theorem dX8_wait_41 : decode cX8_wait 41 = .ok (.getfield 19, 3) := by decide +kernel
theorem dX8_wait_44 : decode cX8_wait 44 = .ok (.invokevirtual 149, 3) := by decide +kernel
theorem dX8_wait_47 : decode cX8_wait 47 = .ok (.aload_n 0, 1) := by decide +kernel
theorem dX8_wait_48 : decode cX8_wait 48 = .ok (.getfield 43, 3) := by decide +kernel
theorem dX8_wait_51 : decode cX8_wait 51 = .ok (.invokevirtual 152, 3) := by decide +kernel
theorem dX8_wait_54 : decode cX8_wait 54 = .ok (.ior, 1) := by decide +kernel
theorem dX8_wait_55 : decode cX8_wait 55 = .ok (.iand, 1) := by decide +kernel
theorem dX8_wait_56 : decode cX8_wait 56 = .ok (.ifCond .eq 9, 3) := by decide +kernel
theorem dX8_wait_59 : decode cX8_wait 59 = .ok (.aload_n 0, 1) := by decide +kernel
theorem dX8_wait_60 : decode cX8_wait 60 = .ok (.iconst 3, 1) := by decide +kernel
theorem dX8_wait_61 : decode cX8_wait 61 = .ok (.invokevirtual 81, 3) := by decide +kernel
theorem dX8_wait_64 : decode cX8_wait 64 = .ok (.lreturn, 1) := by decide +kernel
theorem dX8_wait_65 : decode cX8_wait 65 = .ok (.aload_n 0, 1) := by decide +kernel
theorem dX8_wait_66 : decode cX8_wait 66 = .ok (.getfield 19, 3) := by decide +kernel
theorem dX8_wait_69 : decode cX8_wait 69 = .ok (.iload 4, 2) := by decide +kernel
theorem dX8_wait_71 : decode cX8_wait 71 = .ok (.aload_n 0, 1) := by decide +kernel
theorem dX8_wait_72 : decode cX8_wait 72 = .ok (.getfield 74, 3) := by decide +kernel
theorem dX8_wait_75 : decode cX8_wait 75 = .ok (.invokevirtual 153, 3) := by decide +kernel
theorem dX8_wait_78 : decode cX8_wait 78 = .ok (.ifCond .ne 9, 3) := by decide +kernel
theorem dX8_wait_81 : decode cX8_wait 81 = .ok (.aload_n 0, 1) := by decide +kernel
theorem dX8_wait_82 : decode cX8_wait 82 = .ok (.iconst 4, 1) := by decide +kernel
theorem dX8_wait_83 : decode cX8_wait 83 = .ok (.invokevirtual 81, 3) := by decide +kernel
theorem dX8_wait_86 : decode cX8_wait 86 = .ok (.lreturn, 1) := by decide +kernel
theorem dX8_wait_87 : decode cX8_wait 87 = .ok (.aload_n 0, 1) := by decide +kernel
theorem dX8_wait_88 : decode cX8_wait 88 = .ok (.getfield 19, 3) := by decide +kernel
theorem dX8_wait_91 : decode cX8_wait 91 = .ok (.getfield 125, 3) := by decide +kernel
theorem dX8_wait_94 : decode cX8_wait 94 = .ok (.i2l, 1) := by decide +kernel
theorem dX8_wait_95 : decode cX8_wait 95 = .ok (.lreturn, 1) := by decide +kernel
set_option maxRecDepth 20000 in
theorem ggX8_leave_X6_at : GoodIn wsX8_leave wsX6_at := goodIn_r _ [8, 9, 10, 55, 56, 57] (by decide +kernel) (by decide +kernel)
set_option maxRecDepth 20000 in
theorem gX8_leave_X6_at : GoodIn wsX8_leave (wsV RX8 89 RX6 yX6_at wsX6_at) := goodIn_app (goodIn_of _ (by decide +kernel)) ggX8_leave_X6_at
set_option maxRecDepth 20000 in
theorem ggX8_leave_X8_finding : GoodIn wsX8_leave wsX8_finding := goodIn_r _ [15, 16, 17, 39, 40, 41, 42, 43, 44, 45, 46, 47, 48, 49, 50, 51] (by decide +kernel) (by decide +kernel)
set_option maxRecDepth 20000 in
theorem gX8_leave_X8_finding : GoodIn wsX8_leave (wsV RX8 81 RX8 yX8_finding wsX8_finding) := goodIn_app (goodIn_of _ (by decide +kernel)) ggX8_leave_X8_finding
set_option maxRecDepth 20000 in
theorem ggX8_leave_X8_bitOf : GoodIn wsX8_leave wsX8_bitOf := goodIn_r _ [20] (by decide +kernel) (by decide +kernel)
set_option maxRecDepth 20000 in
theorem gX8_leave_X8_bitOf : GoodIn wsX8_leave (va_wsS RX8 108 yX8_bitOf wsX8_bitOf) := goodIn_app (goodIn_of _ (by decide +kernel)) ggX8_leave_X8_bitOf
set_option maxRecDepth 20000 in
theorem ggX8_leave_X7_placeOf : GoodIn wsX8_leave wsX7_placeOf := goodIn_r _ [25, 26, 27, 28, 29, 24, 30, 31, 52, 53, 54] (by decide +kernel) (by decide +kernel)
set_option maxRecDepth 20000 in
theorem gX8_leave_X7_placeOf : GoodIn wsX8_leave (wsV RX8 157 RX7 yX7_placeOf wsX7_placeOf) := goodIn_app (goodIn_of _ (by decide +kernel)) ggX8_leave_X7_placeOf
set_option maxRecDepth 20000 in
theorem ggX8_leave_X7_release : GoodIn wsX8_leave wsX7_release := goodIn_r _ [35, 31, 26, 36, 37, 14, 38, 52, 53, 54] (by decide +kernel) (by decide +kernel)
set_option maxRecDepth 20000 in
theorem gX8_leave_X7_release : GoodIn wsX8_leave (wsV RX8 160 RX7 yX7_release wsX7_release) := goodIn_app (goodIn_of _ (by decide +kernel)) ggX8_leave_X7_release
theorem dX8_leave_0 : decode cX8_leave 0 = .ok (.aload_n 0, 1) := by decide +kernel
theorem dX8_leave_1 : decode cX8_leave 1 = .ok (.getfield 10, 3) := by decide +kernel
theorem dX8_leave_4 : decode cX8_leave 4 = .ok (.iload_n 1, 1) := by decide +kernel
theorem dX8_leave_5 : decode cX8_leave 5 = .ok (.invokevirtual 89, 3) := by decide +kernel
theorem dX8_leave_8 : decode cX8_leave 8 = .ok (.ifnonnull 9, 3) := by decide +kernel
theorem dX8_leave_11 : decode cX8_leave 11 = .ok (.aload_n 0, 1) := by decide +kernel
theorem dX8_leave_12 : decode cX8_leave 12 = .ok (.iconst 1, 1) := by decide +kernel
theorem dX8_leave_13 : decode cX8_leave 13 = .ok (.invokevirtual 81, 3) := by decide +kernel
theorem dX8_leave_16 : decode cX8_leave 16 = .ok (.lreturn, 1) := by decide +kernel
theorem dX8_leave_17 : decode cX8_leave 17 = .ok (.aload_n 0, 1) := by decide +kernel
theorem dX8_leave_18 : decode cX8_leave 18 = .ok (.getfield 19, 3) := by decide +kernel
theorem dX8_leave_21 : decode cX8_leave 21 = .ok (.iload_n 1, 1) := by decide +kernel
theorem dX8_leave_22 : decode cX8_leave 22 = .ok (.invokestatic 108, 3) := by decide +kernel
theorem dX8_leave_25 : decode cX8_leave 25 = .ok (.invokevirtual 157, 3) := by decide +kernel
theorem dX8_leave_28 : decode cX8_leave 28 = .ok (.istore_n 2, 1) := by decide +kernel
theorem dX8_leave_29 : decode cX8_leave 29 = .ok (.iload_n 2, 1) := by decide +kernel
theorem dX8_leave_30 : decode cX8_leave 30 = .ok (.ifCond .ge 9, 3) := by decide +kernel
theorem dX8_leave_33 : decode cX8_leave 33 = .ok (.aload_n 0, 1) := by decide +kernel
theorem dX8_leave_34 : decode cX8_leave 34 = .ok (.iconst 2, 1) := by decide +kernel
theorem dX8_leave_35 : decode cX8_leave 35 = .ok (.invokevirtual 81, 3) := by decide +kernel
theorem dX8_leave_38 : decode cX8_leave 38 = .ok (.lreturn, 1) := by decide +kernel
theorem dX8_leave_39 : decode cX8_leave 39 = .ok (.aload_n 0, 1) := by decide +kernel
theorem dX8_leave_40 : decode cX8_leave 40 = .ok (.getfield 19, 3) := by decide +kernel
theorem dX8_leave_43 : decode cX8_leave 43 = .ok (.iconst 1, 1) := by decide +kernel
theorem dX8_leave_44 : decode cX8_leave 44 = .ok (.iload_n 2, 1) := by decide +kernel
theorem dX8_leave_45 : decode cX8_leave 45 = .ok (.ishl, 1) := by decide +kernel
theorem dX8_leave_46 : decode cX8_leave 46 = .ok (.invokevirtual 160, 3) := by decide +kernel
theorem dX8_leave_49 : decode cX8_leave 49 = .ok (.aload_n 0, 1) := by decide +kernel
theorem dX8_leave_50 : decode cX8_leave 50 = .ok (.getfield 19, 3) := by decide +kernel
theorem dX8_leave_53 : decode cX8_leave 53 = .ok (.getfield 125, 3) := by decide +kernel
theorem dX8_leave_56 : decode cX8_leave 56 = .ok (.i2l, 1) := by decide +kernel
theorem dX8_leave_57 : decode cX8_leave 57 = .ok (.lreturn, 1) := by decide +kernel
set_option maxRecDepth 20000 in
theorem ggX8_waited_X6_at : GoodIn wsX8_waited wsX6_at := goodIn_r _ [9, 10, 11, 63, 64, 65] (by decide +kernel) (by decide +kernel)
set_option maxRecDepth 20000 in
theorem gX8_waited_X6_at : GoodIn wsX8_waited (wsV RX8 89 RX6 yX6_at wsX6_at) := goodIn_app (goodIn_of _ (by decide +kernel)) ggX8_waited_X6_at
set_option maxRecDepth 20000 in
theorem ggX8_waited_X8_finding : GoodIn wsX8_waited wsX8_finding := goodIn_r _ [16, 17, 18, 50, 51, 52, 53, 54, 55, 56, 57, 58, 59, 60, 61, 62] (by decide +kernel) (by decide +kernel)
set_option maxRecDepth 20000 in
theorem gX8_waited_X8_finding : GoodIn wsX8_waited (wsV RX8 81 RX8 yX8_finding wsX8_finding) := goodIn_app (goodIn_of _ (by decide +kernel)) ggX8_waited_X8_finding
set_option maxRecDepth 20000 in
theorem ggX8_waited_X8_bitOf : GoodIn wsX8_waited wsX8_bitOf := goodIn_r _ [21] (by decide +kernel) (by decide +kernel)
set_option maxRecDepth 20000 in
theorem gX8_waited_X8_bitOf : GoodIn wsX8_waited (va_wsS RX8 108 yX8_bitOf wsX8_bitOf) := goodIn_app (goodIn_of _ (by decide +kernel)) ggX8_waited_X8_bitOf
set_option maxRecDepth 20000 in
theorem ggX8_waited_X7_placeOf : GoodIn wsX8_waited wsX7_placeOf := goodIn_r _ [26, 27, 28, 29, 30, 25, 31, 32, 66, 67, 68] (by decide +kernel) (by decide +kernel)
set_option maxRecDepth 20000 in
theorem gX8_waited_X7_placeOf : GoodIn wsX8_waited (wsV RX8 157 RX7 yX7_placeOf wsX7_placeOf) := goodIn_app (goodIn_of _ (by decide +kernel)) ggX8_waited_X7_placeOf
set_option maxRecDepth 20000 in
theorem ggX8_waited_X7_sinceAt : GoodIn wsX8_waited wsX7_sinceAt := goodIn_r _ [36, 32, 37, 66, 67, 68] (by decide +kernel) (by decide +kernel)
set_option maxRecDepth 20000 in
theorem gX8_waited_X7_sinceAt : GoodIn wsX8_waited (wsV RX8 164 RX7 yX7_sinceAt wsX7_sinceAt) := goodIn_app (goodIn_of _ (by decide +kernel)) ggX8_waited_X7_sinceAt
set_option maxRecDepth 20000 in
theorem ggX8_waited_X0_behind : GoodIn wsX8_waited wsX0_behind := goodIn_r _ [42, 43, 44, 45, 46, 47, 48, 49, 69, 70, 71] (by decide +kernel) (by decide +kernel)
set_option maxRecDepth 20000 in
theorem gX8_waited_X0_behind : GoodIn wsX8_waited (wsV RX8 167 RX0 yX0_behind wsX0_behind) := goodIn_app (goodIn_of _ (by decide +kernel)) ggX8_waited_X0_behind
theorem dX8_waited_0 : decode cX8_waited 0 = .ok (.aload_n 0, 1) := by decide +kernel
theorem dX8_waited_1 : decode cX8_waited 1 = .ok (.getfield 10, 3) := by decide +kernel
theorem dX8_waited_4 : decode cX8_waited 4 = .ok (.iload_n 1, 1) := by decide +kernel
theorem dX8_waited_5 : decode cX8_waited 5 = .ok (.invokevirtual 89, 3) := by decide +kernel
theorem dX8_waited_8 : decode cX8_waited 8 = .ok (.ifnonnull 9, 3) := by decide +kernel
theorem dX8_waited_11 : decode cX8_waited 11 = .ok (.aload_n 0, 1) := by decide +kernel
theorem dX8_waited_12 : decode cX8_waited 12 = .ok (.iconst 1, 1) := by decide +kernel
theorem dX8_waited_13 : decode cX8_waited 13 = .ok (.invokevirtual 81, 3) := by decide +kernel
theorem dX8_waited_16 : decode cX8_waited 16 = .ok (.lreturn, 1) := by decide +kernel
theorem dX8_waited_17 : decode cX8_waited 17 = .ok (.aload_n 0, 1) := by decide +kernel
theorem dX8_waited_18 : decode cX8_waited 18 = .ok (.getfield 19, 3) := by decide +kernel
theorem dX8_waited_21 : decode cX8_waited 21 = .ok (.iload_n 1, 1) := by decide +kernel
theorem dX8_waited_22 : decode cX8_waited 22 = .ok (.invokestatic 108, 3) := by decide +kernel
theorem dX8_waited_25 : decode cX8_waited 25 = .ok (.invokevirtual 157, 3) := by decide +kernel
theorem dX8_waited_28 : decode cX8_waited 28 = .ok (.istore_n 3, 1) := by decide +kernel
theorem dX8_waited_29 : decode cX8_waited 29 = .ok (.iload_n 3, 1) := by decide +kernel
theorem dX8_waited_30 : decode cX8_waited 30 = .ok (.ifCond .ge 9, 3) := by decide +kernel
theorem dX8_waited_33 : decode cX8_waited 33 = .ok (.aload_n 0, 1) := by decide +kernel
theorem dX8_waited_34 : decode cX8_waited 34 = .ok (.iconst 2, 1) := by decide +kernel
theorem dX8_waited_35 : decode cX8_waited 35 = .ok (.invokevirtual 81, 3) := by decide +kernel
theorem dX8_waited_38 : decode cX8_waited 38 = .ok (.lreturn, 1) := by decide +kernel
theorem dX8_waited_39 : decode cX8_waited 39 = .ok (.aload_n 0, 1) := by decide +kernel
theorem dX8_waited_40 : decode cX8_waited 40 = .ok (.getfield 74, 3) := by decide +kernel
theorem dX8_waited_43 : decode cX8_waited 43 = .ok (.aload_n 0, 1) := by decide +kernel
theorem dX8_waited_44 : decode cX8_waited 44 = .ok (.getfield 19, 3) := by decide +kernel
theorem dX8_waited_47 : decode cX8_waited 47 = .ok (.iload_n 3, 1) := by decide +kernel
theorem dX8_waited_48 : decode cX8_waited 48 = .ok (.invokevirtual 164, 3) := by decide +kernel
theorem dX8_waited_51 : decode cX8_waited 51 = .ok (.lsub, 1) := by decide +kernel
theorem dX8_waited_52 : decode cX8_waited 52 = .ok (.lstore 4, 2) := by decide +kernel
theorem dX8_waited_54 : decode cX8_waited 54 = .ok (.iload_n 2, 1) := by decide +kernel
theorem dX8_waited_55 : decode cX8_waited 55 = .ok (.ifCond .eq 15, 3) := by decide +kernel
theorem dX8_waited_58 : decode cX8_waited 58 = .ok (.aload_n 0, 1) := by decide +kernel
theorem dX8_waited_59 : decode cX8_waited 59 = .ok (.getfield 50, 3) := by decide +kernel
theorem dX8_waited_62 : decode cX8_waited 62 = .ok (.lload 4, 2) := by decide +kernel
theorem dX8_waited_64 : decode cX8_waited 64 = .ok (.invokevirtual 167, 3) := by decide +kernel
theorem dX8_waited_67 : decode cX8_waited 67 = .ok (.goto 5, 3) := by decide +kernel
theorem dX8_waited_70 : decode cX8_waited 70 = .ok (.lload 4, 2) := by decide +kernel
theorem dX8_waited_72 : decode cX8_waited 72 = .ok (.lreturn, 1) := by decide +kernel
set_option maxRecDepth 20000 in
theorem ggX8_pairing_X6_at : GoodIn wsX8_pairing wsX6_at := goodIn_r _ [12, 13, 14, 133, 134, 135] (by decide +kernel) (by decide +kernel)
set_option maxRecDepth 20000 in
theorem gX8_pairing_X6_at : GoodIn wsX8_pairing (wsV RX8 89 RX6 yX6_at wsX6_at) := goodIn_app (goodIn_of _ (by decide +kernel)) ggX8_pairing_X6_at
set_option maxRecDepth 20000 in
theorem ggX8_pairing_X8_finding : GoodIn wsX8_pairing wsX8_finding := goodIn_r _ [19, 20, 21, 114, 115, 116, 117, 118, 119, 120, 121, 122, 123, 124, 125, 126] (by decide +kernel) (by decide +kernel)
set_option maxRecDepth 20000 in
theorem gX8_pairing_X8_finding : GoodIn wsX8_pairing (wsV RX8 81 RX8 yX8_finding wsX8_finding) := goodIn_app (goodIn_of _ (by decide +kernel)) ggX8_pairing_X8_finding
set_option maxRecDepth 20000 in
theorem ggX8_pairing_X8_bitOf : GoodIn wsX8_pairing wsX8_bitOf := goodIn_r _ [24] (by decide +kernel) (by decide +kernel)
set_option maxRecDepth 20000 in
theorem gX8_pairing_X8_bitOf : GoodIn wsX8_pairing (va_wsS RX8 108 yX8_bitOf wsX8_bitOf) := goodIn_app (goodIn_of _ (by decide +kernel)) ggX8_pairing_X8_bitOf
set_option maxRecDepth 20000 in
theorem ggX8_pairing_X7_placeOf : GoodIn wsX8_pairing wsX7_placeOf := goodIn_r _ [29, 30, 31, 32, 33, 28, 34, 35, 136, 137, 138] (by decide +kernel) (by decide +kernel)
set_option maxRecDepth 20000 in
theorem gX8_pairing_X7_placeOf : GoodIn wsX8_pairing (wsV RX8 157 RX7 yX7_placeOf wsX7_placeOf) := goodIn_app (goodIn_of _ (by decide +kernel)) ggX8_pairing_X7_placeOf
set_option maxRecDepth 20000 in
theorem ggX8_pairing_X3_gather : GoodIn wsX8_pairing wsX3_gather := goodIn_r _ [40, 41, 42, 43, 44, 45, 46, 47, 48, 49, 50, 51, 52, 53, 54, 55, 56, 28, 57, 30, 58, 18, 59, 31, 32, 33, 34, 35, 60, 61, 62, 11, 63, 14, 64, 9, 10, 12, 13, 65, 66, 67, 68, 69, 70, 71, 72, 73, 39, 74, 75, 76, 127, 128, 129, 130, 131, 132, 136, 137, 138, 133, 134, 135, 139, 140, 141, 142, 143] (by decide +kernel) (by decide +kernel)
set_option maxRecDepth 20000 in
theorem gX8_pairing_X3_gather : GoodIn wsX8_pairing (wsV RX8 171 RX3 yX3_gather wsX3_gather) := goodIn_app (goodIn_of _ (by decide +kernel)) ggX8_pairing_X3_gather
set_option maxRecDepth 20000 in
theorem ggX8_pairing_X8_hasPairing : GoodIn wsX8_pairing wsX8_hasPairing := goodIn_r _ [80, 3, 5, 81, 82, 83, 84, 85, 39, 86, 87, 88, 89, 41, 75, 58, 18, 59, 90, 91, 92, 93, 76, 94, 95, 45, 96, 97, 98, 99, 28, 100, 35, 101, 102, 103, 104, 105, 106, 107, 108, 109, 110, 111, 112, 114, 115, 116, 117, 118, 119, 120, 121, 122, 123, 124, 125, 126, 127, 128, 129, 130, 131, 132, 136, 137, 138, 144, 145, 146] (by decide +kernel) (by decide +kernel)
set_option maxRecDepth 20000 in
theorem gX8_pairing_X8_hasPairing : GoodIn wsX8_pairing (wsV RX8 175 RX8 yX8_hasPairing wsX8_hasPairing) := goodIn_app (goodIn_of _ (by decide +kernel)) ggX8_pairing_X8_hasPairing
set_option maxRecDepth 20000 in
theorem ggX8_pairing_X7_playersAt : GoodIn wsX8_pairing wsX7_playersAt := goodIn_r _ [57, 30, 58, 18, 59, 31, 32, 33, 28, 34, 35, 136, 137, 138] (by decide +kernel) (by decide +kernel)
set_option maxRecDepth 20000 in
theorem gX8_pairing_X7_playersAt : GoodIn wsX8_pairing (wsV RX8 188 RX7 yX7_playersAt wsX7_playersAt) := goodIn_app (goodIn_of _ (by decide +kernel)) ggX8_pairing_X7_playersAt
theorem dX8_pairing_0 : decode cX8_pairing 0 = .ok (.aload_n 0, 1) := by decide +kernel
theorem dX8_pairing_1 : decode cX8_pairing 1 = .ok (.getfield 10, 3) := by decide +kernel
theorem dX8_pairing_4 : decode cX8_pairing 4 = .ok (.iload_n 1, 1) := by decide +kernel
theorem dX8_pairing_5 : decode cX8_pairing 5 = .ok (.invokevirtual 89, 3) := by decide +kernel
theorem dX8_pairing_8 : decode cX8_pairing 8 = .ok (.ifnull 12, 3) := by decide +kernel
theorem dX8_pairing_11 : decode cX8_pairing 11 = .ok (.iload_n 2, 1) := by decide +kernel
theorem dX8_pairing_12 : decode cX8_pairing 12 = .ok (.ifCond .lt 8, 3) := by decide +kernel
theorem dX8_pairing_15 : decode cX8_pairing 15 = .ok (.iload_n 2, 1) := by decide +kernel
theorem dX8_pairing_16 : decode cX8_pairing 16 = .ok (.iconst 2, 1) := by decide +kernel
theorem dX8_pairing_17 : decode cX8_pairing 17 = .ok (.if_icmp .le 9, 3) := by decide +kernel
theorem dX8_pairing_20 : decode cX8_pairing 20 = .ok (.aload_n 0, 1) := by decide +kernel
theorem dX8_pairing_21 : decode cX8_pairing 21 = .ok (.iconst 1, 1) := by decide +kernel
theorem dX8_pairing_22 : decode cX8_pairing 22 = .ok (.invokevirtual 81, 3) := by decide +kernel
theorem dX8_pairing_25 : decode cX8_pairing 25 = .ok (.lreturn, 1) := by decide +kernel
theorem dX8_pairing_26 : decode cX8_pairing 26 = .ok (.aload_n 0, 1) := by decide +kernel
theorem dX8_pairing_27 : decode cX8_pairing 27 = .ok (.getfield 19, 3) := by decide +kernel
theorem dX8_pairing_30 : decode cX8_pairing 30 = .ok (.iload_n 1, 1) := by decide +kernel
theorem dX8_pairing_31 : decode cX8_pairing 31 = .ok (.invokestatic 108, 3) := by decide +kernel
theorem dX8_pairing_34 : decode cX8_pairing 34 = .ok (.invokevirtual 157, 3) := by decide +kernel
theorem dX8_pairing_37 : decode cX8_pairing 37 = .ok (.istore_n 3, 1) := by decide +kernel
theorem dX8_pairing_38 : decode cX8_pairing 38 = .ok (.iload_n 3, 1) := by decide +kernel
theorem dX8_pairing_39 : decode cX8_pairing 39 = .ok (.ifCond .ge 9, 3) := by decide +kernel
theorem dX8_pairing_42 : decode cX8_pairing 42 = .ok (.aload_n 0, 1) := by decide +kernel
theorem dX8_pairing_43 : decode cX8_pairing 43 = .ok (.iconst 2, 1) := by decide +kernel
theorem dX8_pairing_44 : decode cX8_pairing 44 = .ok (.invokevirtual 81, 3) := by decide +kernel
theorem dX8_pairing_47 : decode cX8_pairing 47 = .ok (.lreturn, 1) := by decide +kernel
theorem dX8_pairing_48 : decode cX8_pairing 48 = .ok (.aload_n 0, 1) := by decide +kernel
theorem dX8_pairing_49 : decode cX8_pairing 49 = .ok (.getfield 29, 3) := by decide +kernel
theorem dX8_pairing_52 : decode cX8_pairing 52 = .ok (.aload_n 0, 1) := by decide +kernel
theorem dX8_pairing_53 : decode cX8_pairing 53 = .ok (.getfield 19, 3) := by decide +kernel
theorem dX8_pairing_56 : decode cX8_pairing 56 = .ok (.aload_n 0, 1) := by decide +kernel
theorem dX8_pairing_57 : decode cX8_pairing 57 = .ok (.getfield 10, 3) := by decide +kernel
theorem dX8_pairing_60 : decode cX8_pairing 60 = .ok (.aload_n 0, 1) := by decide +kernel
theorem dX8_pairing_61 : decode cX8_pairing 61 = .ok (.getfield 65, 3) := by decide +kernel
theorem dX8_pairing_64 : decode cX8_pairing 64 = .ok (.invokevirtual 171, 3) := by decide +kernel
theorem dX8_pairing_67 : decode cX8_pairing 67 = .ok (.aload_n 0, 1) := by decide +kernel
theorem dX8_pairing_68 : decode cX8_pairing 68 = .ok (.aload_n 0, 1) := by decide +kernel
theorem dX8_pairing_69 : decode cX8_pairing 69 = .ok (.getfield 19, 3) := by decide +kernel
theorem dX8_pairing_72 : decode cX8_pairing 72 = .ok (.iload_n 3, 1) := by decide +kernel
theorem dX8_pairing_73 : decode cX8_pairing 73 = .ok (.invokevirtual 175, 3) := by decide +kernel
theorem dX8_pairing_76 : decode cX8_pairing 76 = .ok (.ifCond .ne 9, 3) := by decide +kernel
theorem dX8_pairing_79 : decode cX8_pairing 79 = .ok (.aload_n 0, 1) := by decide +kernel
theorem dX8_pairing_80 : decode cX8_pairing 80 = .ok (.iconst 2, 1) := by decide +kernel
theorem dX8_pairing_81 : decode cX8_pairing 81 = .ok (.invokevirtual 81, 3) := by decide +kernel
theorem dX8_pairing_84 : decode cX8_pairing 84 = .ok (.lreturn, 1) := by decide +kernel
theorem dX8_pairing_85 : decode cX8_pairing 85 = .ok (.iload_n 2, 1) := by decide +kernel
theorem dX8_pairing_86 : decode cX8_pairing 86 = .ok (.ifCond .ne 11, 3) := by decide +kernel
theorem dX8_pairing_89 : decode cX8_pairing 89 = .ok (.aload_n 0, 1) := by decide +kernel
theorem dX8_pairing_90 : decode cX8_pairing 90 = .ok (.getfield 29, 3) := by decide +kernel
theorem dX8_pairing_93 : decode cX8_pairing 93 = .ok (.getfield 179, 3) := by decide +kernel
theorem dX8_pairing_96 : decode cX8_pairing 96 = .ok (.lreturn, 1) := by decide +kernel
theorem dX8_pairing_97 : decode cX8_pairing 97 = .ok (.aload_n 0, 1) := by decide +kernel
theorem dX8_pairing_98 : decode cX8_pairing 98 = .ok (.getfield 19, 3) := by decide +kernel
theorem dX8_pairing_101 : decode cX8_pairing 101 = .ok (.iload_n 2, 1) := by decide +kernel
theorem dX8_pairing_102 : decode cX8_pairing 102 = .ok (.iconst 1, 1) := by decide +kernel
theorem dX8_pairing_103 : decode cX8_pairing 103 = .ok (.if_icmp .ne 13, 3) := by decide +kernel
theorem dX8_pairing_106 : decode cX8_pairing 106 = .ok (.aload_n 0, 1) := by decide +kernel
theorem dX8_pairing_107 : decode cX8_pairing 107 = .ok (.getfield 29, 3) := by decide +kernel
theorem dX8_pairing_110 : decode cX8_pairing 110 = .ok (.getfield 182, 3) := by decide +kernel
theorem dX8_pairing_113 : decode cX8_pairing 113 = .ok (.goto 10, 3) := by decide +kernel
theorem dX8_pairing_116 : decode cX8_pairing 116 = .ok (.aload_n 0, 1) := by decide +kernel
theorem dX8_pairing_117 : decode cX8_pairing 117 = .ok (.getfield 29, 3) := by decide +kernel
theorem dX8_pairing_120 : decode cX8_pairing 120 = .ok (.getfield 185, 3) := by decide +kernel
theorem dX8_pairing_123 : decode cX8_pairing 123 = .ok (.invokevirtual 188, 3) := by decide +kernel
theorem dX8_pairing_126 : decode cX8_pairing 126 = .ok (.i2l, 1) := by decide +kernel
theorem dX8_pairing_127 : decode cX8_pairing 127 = .ok (.lreturn, 1) := by decide +kernel
set_option maxRecDepth 20000 in
theorem ggX8_tick_X8_planTick : GoodIn wsX8_tick wsX8_planTick := goodIn_r _ [10, 2, 3, 4, 11, 12, 13, 14, 15, 16, 17, 18, 19, 20, 21, 22, 23, 24, 25, 26, 27, 28, 9, 29, 30, 31, 32, 33, 34, 35, 36, 37, 38, 39, 40, 41, 42, 43, 44, 45, 46, 47, 48, 49, 50, 51, 52, 53, 54, 55, 56, 57, 58, 59, 60, 61, 62, 63, 64, 65, 66, 67, 68, 69, 70, 71, 72, 73, 74, 75, 76, 77, 78, 79, 80, 81, 82, 83, 84, 85, 86, 87, 88, 89, 90, 91, 92, 5, 93, 94, 95, 96, 97, 98, 99, 100, 101, 102, 103, 104, 105, 106, 107, 108, 109, 110, 111, 112, 113, 114, 115, 116, 117, 118, 119, 120, 121, 122, 123, 124, 125, 126, 127, 128, 129, 130, 131, 132, 133, 134, 135, 152, 153, 154, 155, 156, 157, 158, 159, 160, 161, 162, 163, 164, 165, 166, 167, 168, 169, 170, 171, 172, 173, 174, 175, 176, 177, 178, 179, 180, 181, 182, 183, 184, 185, 186, 187, 188, 189, 190, 191, 192, 193] (by decide +kernel) (by decide +kernel)
set_option maxRecDepth 20000 in
theorem gX8_tick_X8_planTick : GoodIn wsX8_tick (wsV RX8 191 RX8 yX8_planTick wsX8_planTick) := goodIn_app (goodIn_of _ (by decide +kernel)) ggX8_tick_X8_planTick
set_option maxRecDepth 20000 in
theorem ggX8_tick_X4_firstAt : GoodIn wsX8_tick wsX4_firstAt := goodIn_r _ [139, 130, 165, 166, 167] (by decide +kernel) (by decide +kernel)
set_option maxRecDepth 20000 in
theorem gX8_tick_X4_firstAt : GoodIn wsX8_tick (wsV RX8 198 RX4 yX4_firstAt wsX4_firstAt) := goodIn_app (goodIn_of _ (by decide +kernel)) ggX8_tick_X4_firstAt
set_option maxRecDepth 20000 in
theorem ggX8_tick_X4_secondAt : GoodIn wsX8_tick wsX4_secondAt := goodIn_r _ [143, 131, 165, 166, 167] (by decide +kernel) (by decide +kernel)
set_option maxRecDepth 20000 in
theorem gX8_tick_X4_secondAt : GoodIn wsX8_tick (wsV RX8 201 RX4 yX4_secondAt wsX4_secondAt) := goodIn_app (goodIn_of _ (by decide +kernel)) ggX8_tick_X4_secondAt
set_option maxRecDepth 20000 in
theorem ggX8_tick_X2_begin : GoodIn wsX8_tick wsX2_begin := goodIn_r _ [147, 19, 148, 149, 150, 151, 20, 21, 22, 23, 24, 25, 174, 175, 176, 177, 178, 179] (by decide +kernel) (by decide +kernel)
set_option maxRecDepth 20000 in
theorem gX8_tick_X2_begin : GoodIn wsX8_tick (wsV RX8 204 RX2 yX2_begin wsX2_begin) := goodIn_app (goodIn_of _ (by decide +kernel)) ggX8_tick_X2_begin
theorem dX8_tick_0 : decode cX8_tick 0 = .ok (.aload_n 0, 1) := by decide +kernel
theorem dX8_tick_1 : decode cX8_tick 1 = .ok (.aload_n 0, 1) := by decide +kernel
theorem dX8_tick_2 : decode cX8_tick 2 = .ok (.getfield 19, 3) := by decide +kernel
theorem dX8_tick_5 : decode cX8_tick 5 = .ok (.invokevirtual 191, 3) := by decide +kernel
theorem dX8_tick_8 : decode cX8_tick 8 = .ok (.iconst 0, 1) := by decide +kernel
theorem dX8_tick_9 : decode cX8_tick 9 = .ok (.istore_n 1, 1) := by decide +kernel
theorem dX8_tick_10 : decode cX8_tick 10 = .ok (.iload_n 1, 1) := by decide +kernel
theorem dX8_tick_11 : decode cX8_tick 11 = .ok (.aload_n 0, 1) := by decide +kernel
theorem dX8_tick_12 : decode cX8_tick 12 = .ok (.getfield 36, 3) := by decide +kernel
theorem dX8_tick_15 : decode cX8_tick 15 = .ok (.getfield 195, 3) := by decide +kernel
theorem dX8_tick_18 : decode cX8_tick 18 = .ok (.if_icmp .ge 36, 3) := by decide +kernel
theorem dX8_tick_21 : decode cX8_tick 21 = .ok (.aload_n 0, 1) := by decide +kernel
theorem dX8_tick_22 : decode cX8_tick 22 = .ok (.getfield 43, 3) := by decide +kernel
theorem dX8_tick_25 : decode cX8_tick 25 = .ok (.aload_n 0, 1) := by decide +kernel
theorem dX8_tick_26 : decode cX8_tick 26 = .ok (.getfield 36, 3) := by decide +kernel
theorem dX8_tick_29 : decode cX8_tick 29 = .ok (.iload_n 1, 1) := by decide +kernel
theorem dX8_tick_30 : decode cX8_tick 30 = .ok (.invokevirtual 198, 3) := by decide +kernel
theorem dX8_tick_33 : decode cX8_tick 33 = .ok (.aload_n 0, 1) := by decide +kernel
theorem dX8_tick_34 : decode cX8_tick 34 = .ok (.getfield 36, 3) := by decide +kernel
theorem dX8_tick_37 : decode cX8_tick 37 = .ok (.iload_n 1, 1) := by decide +kernel
theorem dX8_tick_38 : decode cX8_tick 38 = .ok (.invokevirtual 201, 3) := by decide +kernel
theorem dX8_tick_41 : decode cX8_tick 41 = .ok (.aload_n 0, 1) := by decide +kernel
theorem dX8_tick_42 : decode cX8_tick 42 = .ok (.getfield 74, 3) := by decide +kernel
theorem dX8_tick_45 : decode cX8_tick 45 = .ok (.invokevirtual 204, 3) := by decide +kernel
theorem dX8_tick_48 : decode cX8_tick 48 = .ok (.iinc 1 1, 3) := by decide +kernel
theorem dX8_tick_51 : decode cX8_tick 51 = .ok (.goto (-41), 3) := by decide +kernel
theorem dX8_tick_54 : decode cX8_tick 54 = .ok (.aload_n 0, 1) := by decide +kernel
theorem dX8_tick_55 : decode cX8_tick 55 = .ok (.dup, 1) := by decide +kernel
theorem dX8_tick_56 : decode cX8_tick 56 = .ok (.getfield 74, 3) := by decide +kernel
theorem dX8_tick_59 : decode cX8_tick 59 = .ok (.lconst 1, 1) := by decide +kernel
theorem dX8_tick_60 : decode cX8_tick 60 = .ok (.ladd, 1) := by decide +kernel
theorem dX8_tick_61 : decode cX8_tick 61 = .ok (.putfield 74, 3) := by decide +kernel
theorem dX8_tick_64 : decode cX8_tick 64 = .ok (.aload_n 0, 1) := by decide +kernel
theorem dX8_tick_65 : decode cX8_tick 65 = .ok (.getfield 36, 3) := by decide +kernel
theorem dX8_tick_68 : decode cX8_tick 68 = .ok (.getfield 195, 3) := by decide +kernel
theorem dX8_tick_71 : decode cX8_tick 71 = .ok (.i2l, 1) := by decide +kernel
theorem dX8_tick_72 : decode cX8_tick 72 = .ok (.lreturn, 1) := by decide +kernel
set_option maxRecDepth 20000 in
theorem ggX8_match_X2_at : GoodIn wsX8_match wsX2_at := goodIn_r _ [11, 12, 72, 73] (by decide +kernel) (by decide +kernel)
set_option maxRecDepth 20000 in
theorem gX8_match_X2_at : GoodIn wsX8_match (wsV RX8 208 RX2 yX2_at wsX2_at) := goodIn_app (goodIn_of _ (by decide +kernel)) ggX8_match_X2_at
set_option maxRecDepth 20000 in
theorem ggX8_match_X8_finding : GoodIn wsX8_match wsX8_finding := goodIn_r _ [17, 18, 19, 55, 56, 57, 58, 59, 60, 61, 62, 63, 64, 65, 66, 67] (by decide +kernel) (by decide +kernel)
set_option maxRecDepth 20000 in
theorem gX8_match_X8_finding : GoodIn wsX8_match (wsV RX8 81 RX8 yX8_finding wsX8_finding) := goodIn_app (goodIn_of _ (by decide +kernel)) ggX8_match_X8_finding
set_option maxRecDepth 20000 in
theorem ggX8_match_X1_goesOn : GoodIn wsX8_match wsX1_goesOn := goodIn_r _ [24, 25, 68, 69, 70, 71] (by decide +kernel) (by decide +kernel)
set_option maxRecDepth 20000 in
theorem gX8_match_X1_goesOn : GoodIn wsX8_match (wsV RX8 211 RX1 yX1_goesOn wsX1_goesOn) := goodIn_app (goodIn_of _ (by decide +kernel)) ggX8_match_X1_goesOn
set_option maxRecDepth 20000 in
theorem ggX8_match_X6_teamChance : GoodIn wsX8_match wsX6_teamChance := goodIn_r _ [30, 31, 32, 33, 34, 29, 35, 36, 37, 16, 38, 39, 40, 41, 42, 43, 44, 45, 46, 47, 48, 49, 50, 51, 52, 53, 54, 74, 75, 76, 77, 78, 79, 80, 81] (by decide +kernel) (by decide +kernel)
set_option maxRecDepth 20000 in
theorem gX8_match_X6_teamChance : GoodIn wsX8_match (wsV RX8 224 RX6 yX6_teamChance wsX6_teamChance) := goodIn_app (goodIn_of _ (by decide +kernel)) ggX8_match_X6_teamChance
theorem dX8_match_0 : decode cX8_match 0 = .ok (.aload_n 0, 1) := by decide +kernel
theorem dX8_match_1 : decode cX8_match 1 = .ok (.getfield 43, 3) := by decide +kernel
theorem dX8_match_4 : decode cX8_match 4 = .ok (.iload_n 1, 1) := by decide +kernel
theorem dX8_match_5 : decode cX8_match 5 = .ok (.invokevirtual 208, 3) := by decide +kernel
theorem dX8_match_8 : decode cX8_match 8 = .ok (.astore_n 3, 1) := by decide +kernel
theorem dX8_match_9 : decode cX8_match 9 = .ok (.aload_n 3, 1) := by decide +kernel
theorem dX8_match_10 : decode cX8_match 10 = .ok (.ifnull 12, 3) := by decide +kernel
theorem dX8_match_13 : decode cX8_match 13 = .ok (.iload_n 2, 1) := by decide +kernel
theorem dX8_match_14 : decode cX8_match 14 = .ok (.ifCond .lt 8, 3) := by decide +kernel
theorem dX8_match_17 : decode cX8_match 17 = .ok (.iload_n 2, 1) := by decide +kernel
theorem dX8_match_18 : decode cX8_match 18 = .ok (.iconst 4, 1) := by decide +kernel
theorem dX8_match_19 : decode cX8_match 19 = .ok (.if_icmp .le 9, 3) := by decide +kernel
theorem dX8_match_22 : decode cX8_match 22 = .ok (.aload_n 0, 1) := by decide +kernel
theorem dX8_match_23 : decode cX8_match 23 = .ok (.iconst 1, 1) := by decide +kernel
theorem dX8_match_24 : decode cX8_match 24 = .ok (.invokevirtual 81, 3) := by decide +kernel
theorem dX8_match_27 : decode cX8_match 27 = .ok (.lreturn, 1) := by decide +kernel
theorem dX8_match_28 : decode cX8_match 28 = .ok (.aload_n 3, 1) := by decide +kernel
theorem dX8_match_29 : decode cX8_match 29 = .ok (.invokevirtual 211, 3) := by decide +kernel
theorem dX8_match_32 : decode cX8_match 32 = .ok (.ifCond .ne 9, 3) := by decide +kernel
theorem dX8_match_35 : decode cX8_match 35 = .ok (.aload_n 0, 1) := by decide +kernel
theorem dX8_match_36 : decode cX8_match 36 = .ok (.iconst 2, 1) := by decide +kernel
theorem dX8_match_37 : decode cX8_match 37 = .ok (.invokevirtual 81, 3) := by decide +kernel
theorem dX8_match_40 : decode cX8_match 40 = .ok (.lreturn, 1) := by decide +kernel
theorem dX8_match_41 : decode cX8_match 41 = .ok (.iload_n 2, 1) := by decide +kernel
theorem dX8_match_42 : decode cX8_match 42 = .ok (.tableswitch 53 0 3 #[30, 36, 42, 48], 30) := by decide +kernel
theorem dX8_match_72 : decode cX8_match 72 = .ok (.aload_n 3, 1) := by decide +kernel
theorem dX8_match_73 : decode cX8_match 73 = .ok (.getfield 217, 3) := by decide +kernel
theorem dX8_match_76 : decode cX8_match 76 = .ok (.i2l, 1) := by decide +kernel
theorem dX8_match_77 : decode cX8_match 77 = .ok (.lreturn, 1) := by decide +kernel
theorem dX8_match_78 : decode cX8_match 78 = .ok (.aload_n 3, 1) := by decide +kernel
theorem dX8_match_79 : decode cX8_match 79 = .ok (.getfield 218, 3) := by decide +kernel
theorem dX8_match_82 : decode cX8_match 82 = .ok (.i2l, 1) := by decide +kernel
theorem dX8_match_83 : decode cX8_match 83 = .ok (.lreturn, 1) := by decide +kernel
theorem dX8_match_84 : decode cX8_match 84 = .ok (.aload_n 3, 1) := by decide +kernel
theorem dX8_match_85 : decode cX8_match 85 = .ok (.getfield 219, 3) := by decide +kernel
theorem dX8_match_88 : decode cX8_match 88 = .ok (.i2l, 1) := by decide +kernel
theorem dX8_match_89 : decode cX8_match 89 = .ok (.lreturn, 1) := by decide +kernel
theorem dX8_match_90 : decode cX8_match 90 = .ok (.aload_n 3, 1) := by decide +kernel
theorem dX8_match_91 : decode cX8_match 91 = .ok (.getfield 222, 3) := by decide +kernel
theorem dX8_match_94 : decode cX8_match 94 = .ok (.lreturn, 1) := by decide +kernel
theorem dX8_match_95 : decode cX8_match 95 = .ok (.aload_n 0, 1) := by decide +kernel
theorem dX8_match_96 : decode cX8_match 96 = .ok (.getfield 10, 3) := by decide +kernel
theorem dX8_match_99 : decode cX8_match 99 = .ok (.aload_n 3, 1) := by decide +kernel
theorem dX8_match_100 : decode cX8_match 100 = .ok (.getfield 217, 3) := by decide +kernel
theorem dX8_match_103 : decode cX8_match 103 = .ok (.aload_n 3, 1) := by decide +kernel
theorem dX8_match_104 : decode cX8_match 104 = .ok (.getfield 218, 3) := by decide +kernel
theorem dX8_match_107 : decode cX8_match 107 = .ok (.invokevirtual 224, 3) := by decide +kernel
theorem dX8_match_110 : decode cX8_match 110 = .ok (.lreturn, 1) := by decide +kernel
set_option maxRecDepth 20000 in
theorem ggX8_end_X2_at : GoodIn wsX8_end wsX2_at := goodIn_r _ [7, 8, 133, 134] (by decide +kernel) (by decide +kernel)
set_option maxRecDepth 20000 in
theorem gX8_end_X2_at : GoodIn wsX8_end (wsV RX8 208 RX2 yX2_at wsX2_at) := goodIn_app (goodIn_of _ (by decide +kernel)) ggX8_end_X2_at
set_option maxRecDepth 20000 in
theorem ggX8_end_X8_finding : GoodIn wsX8_end wsX8_finding := goodIn_r _ [13, 14, 15, 120, 121, 122, 123, 124, 125, 126, 127, 128, 129, 130, 131, 132] (by decide +kernel) (by decide +kernel)
set_option maxRecDepth 20000 in
theorem gX8_end_X8_finding : GoodIn wsX8_end (wsV RX8 81 RX8 yX8_finding wsX8_finding) := goodIn_app (goodIn_of _ (by decide +kernel)) ggX8_end_X8_finding
set_option maxRecDepth 20000 in
theorem ggX8_end_X1_goesOn : GoodIn wsX8_end wsX1_goesOn := goodIn_r _ [20, 21, 135, 136, 137, 138] (by decide +kernel) (by decide +kernel)
set_option maxRecDepth 20000 in
theorem gX8_end_X1_goesOn : GoodIn wsX8_end (wsV RX8 211 RX1 yX1_goesOn wsX1_goesOn) := goodIn_app (goodIn_of _ (by decide +kernel)) ggX8_end_X1_goesOn
set_option maxRecDepth 20000 in
theorem ggX8_end_X2_finish : GoodIn wsX8_end wsX2_finish := goodIn_r _ [25, 26, 27, 28, 29, 30, 31, 32, 33, 34, 35, 36, 37, 38, 39, 40, 41, 12, 42, 43, 44, 45, 46, 47, 48, 49, 50, 51, 52, 53, 54, 55, 56, 57, 58, 59, 60, 61, 62, 63, 64, 65, 66, 67, 68, 69, 70, 71, 72, 73, 74, 75, 76, 77, 78, 79, 80, 81, 82, 83, 84, 85, 86, 87, 88, 89, 90, 91, 92, 93, 94, 95, 96, 97, 98, 99, 100, 101, 102, 103, 104, 105, 106, 107, 108, 19, 109, 21, 110, 111, 112, 113, 114, 115, 116, 117, 118, 119, 135, 136, 137, 138, 133, 134, 139, 140, 141, 142, 143, 144, 145, 146] (by decide +kernel) (by decide +kernel)
set_option maxRecDepth 20000 in
theorem gX8_end_X2_finish : GoodIn wsX8_end (wsV RX8 228 RX2 yX2_finish wsX2_finish) := goodIn_app (goodIn_of _ (by decide +kernel)) ggX8_end_X2_finish
theorem dX8_end_0 : decode cX8_end 0 = .ok (.aload_n 0, 1) := by decide +kernel
theorem dX8_end_1 : decode cX8_end 1 = .ok (.getfield 43, 3) := by decide +kernel
theorem dX8_end_4 : decode cX8_end 4 = .ok (.iload_n 1, 1) := by decide +kernel
theorem dX8_end_5 : decode cX8_end 5 = .ok (.invokevirtual 208, 3) := by decide +kernel
theorem dX8_end_8 : decode cX8_end 8 = .ok (.astore_n 3, 1) := by decide +kernel
theorem dX8_end_9 : decode cX8_end 9 = .ok (.aload_n 3, 1) := by decide +kernel
theorem dX8_end_10 : decode cX8_end 10 = .ok (.ifnull 12, 3) := by decide +kernel
theorem dX8_end_13 : decode cX8_end 13 = .ok (.iload_n 2, 1) := by decide +kernel
theorem dX8_end_14 : decode cX8_end 14 = .ok (.ifCond .lt 8, 3) := by decide +kernel
theorem dX8_end_17 : decode cX8_end 17 = .ok (.iload_n 2, 1) := by decide +kernel
theorem dX8_end_18 : decode cX8_end 18 = .ok (.iconst 2, 1) := by decide +kernel
theorem dX8_end_19 : decode cX8_end 19 = .ok (.if_icmp .le 9, 3) := by decide +kernel
theorem dX8_end_22 : decode cX8_end 22 = .ok (.aload_n 0, 1) := by decide +kernel
theorem dX8_end_23 : decode cX8_end 23 = .ok (.iconst 1, 1) := by decide +kernel
theorem dX8_end_24 : decode cX8_end 24 = .ok (.invokevirtual 81, 3) := by decide +kernel
theorem dX8_end_27 : decode cX8_end 27 = .ok (.lreturn, 1) := by decide +kernel
theorem dX8_end_28 : decode cX8_end 28 = .ok (.aload_n 3, 1) := by decide +kernel
theorem dX8_end_29 : decode cX8_end 29 = .ok (.invokevirtual 211, 3) := by decide +kernel
theorem dX8_end_32 : decode cX8_end 32 = .ok (.ifCond .ne 9, 3) := by decide +kernel
theorem dX8_end_35 : decode cX8_end 35 = .ok (.aload_n 0, 1) := by decide +kernel
theorem dX8_end_36 : decode cX8_end 36 = .ok (.iconst 2, 1) := by decide +kernel
theorem dX8_end_37 : decode cX8_end 37 = .ok (.invokevirtual 81, 3) := by decide +kernel
theorem dX8_end_40 : decode cX8_end 40 = .ok (.lreturn, 1) := by decide +kernel
theorem dX8_end_41 : decode cX8_end 41 = .ok (.aload_n 0, 1) := by decide +kernel
theorem dX8_end_42 : decode cX8_end 42 = .ok (.getfield 43, 3) := by decide +kernel
theorem dX8_end_45 : decode cX8_end 45 = .ok (.aload_n 3, 1) := by decide +kernel
theorem dX8_end_46 : decode cX8_end 46 = .ok (.iload_n 2, 1) := by decide +kernel
theorem dX8_end_47 : decode cX8_end 47 = .ok (.aload_n 0, 1) := by decide +kernel
theorem dX8_end_48 : decode cX8_end 48 = .ok (.getfield 10, 3) := by decide +kernel
theorem dX8_end_51 : decode cX8_end 51 = .ok (.invokevirtual 228, 3) := by decide +kernel
theorem dX8_end_54 : decode cX8_end 54 = .ok (.i2l, 1) := by decide +kernel
theorem dX8_end_55 : decode cX8_end 55 = .ok (.lreturn, 1) := by decide +kernel
set_option maxRecDepth 20000 in
theorem ggX8_drop_X6_at : GoodIn wsX8_drop wsX6_at := goodIn_r _ [8, 9, 10, 154, 155, 156] (by decide +kernel) (by decide +kernel)
set_option maxRecDepth 20000 in
theorem gX8_drop_X6_at : GoodIn wsX8_drop (wsV RX8 89 RX6 yX6_at wsX6_at) := goodIn_app (goodIn_of _ (by decide +kernel)) ggX8_drop_X6_at
set_option maxRecDepth 20000 in
theorem ggX8_drop_X8_finding : GoodIn wsX8_drop wsX8_finding := goodIn_r _ [15, 16, 17, 137, 138, 139, 140, 141, 142, 143, 144, 145, 146, 147, 148, 149] (by decide +kernel) (by decide +kernel)
set_option maxRecDepth 20000 in
theorem gX8_drop_X8_finding : GoodIn wsX8_drop (wsV RX8 81 RX8 yX8_finding wsX8_finding) := goodIn_app (goodIn_of _ (by decide +kernel)) ggX8_drop_X8_finding
set_option maxRecDepth 20000 in
theorem ggX8_drop_X8_bitOf : GoodIn wsX8_drop wsX8_bitOf := goodIn_r _ [20] (by decide +kernel) (by decide +kernel)
set_option maxRecDepth 20000 in
theorem gX8_drop_X8_bitOf : GoodIn wsX8_drop (va_wsS RX8 108 yX8_bitOf wsX8_bitOf) := goodIn_app (goodIn_of _ (by decide +kernel)) ggX8_drop_X8_bitOf
set_option maxRecDepth 20000 in
theorem ggX8_drop_X2_withPlayer : GoodIn wsX8_drop wsX2_withPlayer := goodIn_r _ [25, 26, 27, 28, 29, 30, 31, 32, 33, 34, 157, 158, 150, 151, 152, 153] (by decide +kernel) (by decide +kernel)
set_option maxRecDepth 20000 in
theorem gX8_drop_X2_withPlayer : GoodIn wsX8_drop (wsV RX8 232 RX2 yX2_withPlayer wsX2_withPlayer) := goodIn_app (goodIn_of _ (by decide +kernel)) ggX8_drop_X2_withPlayer
set_option maxRecDepth 20000 in
theorem ggX8_drop_X1_rivalsOf : GoodIn wsX8_drop wsX1_rivalsOf := goodIn_r _ [38, 32, 33, 150, 151, 152, 153] (by decide +kernel) (by decide +kernel)
set_option maxRecDepth 20000 in
theorem gX8_drop_X1_rivalsOf : GoodIn wsX8_drop (wsV RX8 235 RX1 yX1_rivalsOf wsX1_rivalsOf) := goodIn_app (goodIn_of _ (by decide +kernel)) ggX8_drop_X1_rivalsOf
set_option maxRecDepth 20000 in
theorem ggX8_drop_X6_reckon : GoodIn wsX8_drop wsX6_reckon := goodIn_r _ [42, 43, 44, 45, 46, 47, 7, 48, 10, 49, 50, 5, 6, 8, 9, 51, 14, 52, 19, 20, 53, 54, 55, 56, 57, 58, 59, 60, 61, 62, 63, 64, 65, 66, 67, 68, 69, 70, 71, 72, 73, 74, 75, 76, 77, 78, 79, 80, 81, 82, 83, 84, 85, 86, 87, 88, 89, 90, 91, 92, 93, 94, 154, 155, 156, 159, 160, 161, 162, 163] (by decide +kernel) (by decide +kernel)
set_option maxRecDepth 20000 in
theorem gX8_drop_X6_reckon : GoodIn wsX8_drop (wsV RX8 238 RX6 yX6_reckon wsX6_reckon) := goodIn_app (goodIn_of _ (by decide +kernel)) ggX8_drop_X6_reckon
set_option maxRecDepth 20000 in
theorem ggX8_drop_X5_settle : GoodIn wsX8_drop wsX5_settle := goodIn_r _ [98, 84, 83, 159, 160, 161, 162, 163] (by decide +kernel) (by decide +kernel)
set_option maxRecDepth 20000 in
theorem gX8_drop_X5_settle : GoodIn wsX8_drop (wsV RX8 242 RX5 yX5_settle wsX5_settle) := goodIn_app (goodIn_of _ (by decide +kernel)) ggX8_drop_X5_settle
set_option maxRecDepth 20000 in
theorem ggX8_drop_X1_isDeserted : GoodIn wsX8_drop wsX1_isDeserted := goodIn_r _ [102, 32, 34, 33, 150, 151, 152, 153] (by decide +kernel) (by decide +kernel)
set_option maxRecDepth 20000 in
theorem gX8_drop_X1_isDeserted : GoodIn wsX8_drop (wsV RX8 245 RX1 yX1_isDeserted wsX1_isDeserted) := goodIn_app (goodIn_of _ (by decide +kernel)) ggX8_drop_X1_isDeserted
set_option maxRecDepth 20000 in
theorem ggX8_drop_X1_resultOfDeserted : GoodIn wsX8_drop wsX1_resultOfDeserted := goodIn_r _ [106, 32, 34, 150, 151, 152, 153] (by decide +kernel) (by decide +kernel)
set_option maxRecDepth 20000 in
theorem gX8_drop_X1_resultOfDeserted : GoodIn wsX8_drop (wsV RX8 248 RX1 yX1_resultOfDeserted wsX1_resultOfDeserted) := goodIn_app (goodIn_of _ (by decide +kernel)) ggX8_drop_X1_resultOfDeserted
set_option maxRecDepth 20000 in
theorem ggX8_drop_X2_finish : GoodIn wsX8_drop wsX2_finish := goodIn_r _ [110, 111, 112, 113, 114, 115, 116, 117, 7, 118, 10, 50, 5, 6, 8, 9, 51, 14, 52, 119, 40, 41, 42, 43, 44, 45, 46, 47, 48, 49, 19, 20, 53, 54, 55, 56, 57, 58, 59, 60, 61, 62, 63, 64, 65, 66, 67, 68, 69, 70, 71, 72, 73, 74, 75, 76, 77, 78, 79, 80, 81, 82, 83, 84, 85, 86, 87, 88, 89, 90, 91, 92, 93, 94, 120, 121, 122, 123, 124, 96, 97, 98, 125, 126, 127, 30, 128, 32, 33, 34, 129, 130, 131, 132, 133, 134, 135, 136, 150, 151, 152, 153, 157, 158, 154, 155, 156, 159, 160, 161, 162, 163] (by decide +kernel) (by decide +kernel)
set_option maxRecDepth 20000 in
theorem gX8_drop_X2_finish : GoodIn wsX8_drop (wsV RX8 228 RX2 yX2_finish wsX2_finish) := goodIn_app (goodIn_of _ (by decide +kernel)) ggX8_drop_X2_finish
theorem dX8_drop_0 : decode cX8_drop 0 = .ok (.aload_n 0, 1) := by decide +kernel
theorem dX8_drop_1 : decode cX8_drop 1 = .ok (.getfield 10, 3) := by decide +kernel
theorem dX8_drop_4 : decode cX8_drop 4 = .ok (.iload_n 1, 1) := by decide +kernel
theorem dX8_drop_5 : decode cX8_drop 5 = .ok (.invokevirtual 89, 3) := by decide +kernel
theorem dX8_drop_8 : decode cX8_drop 8 = .ok (.astore_n 2, 1) := by decide +kernel
theorem dX8_drop_9 : decode cX8_drop 9 = .ok (.aload_n 2, 1) := by decide +kernel
theorem dX8_drop_10 : decode cX8_drop 10 = .ok (.ifnonnull 9, 3) := by decide +kernel
theorem dX8_drop_13 : decode cX8_drop 13 = .ok (.aload_n 0, 1) := by decide +kernel
theorem dX8_drop_14 : decode cX8_drop 14 = .ok (.iconst 1, 1) := by decide +kernel
theorem dX8_drop_15 : decode cX8_drop 15 = .ok (.invokevirtual 81, 3) := by decide +kernel
theorem dX8_drop_18 : decode cX8_drop 18 = .ok (.lreturn, 1) := by decide +kernel
theorem dX8_drop_19 : decode cX8_drop 19 = .ok (.iload_n 1, 1) := by decide +kernel
theorem dX8_drop_20 : decode cX8_drop 20 = .ok (.invokestatic 108, 3) := by decide +kernel
theorem dX8_drop_23 : decode cX8_drop 23 = .ok (.istore_n 3, 1) := by decide +kernel
theorem dX8_drop_24 : decode cX8_drop 24 = .ok (.aload_n 0, 1) := by decide +kernel
theorem dX8_drop_25 : decode cX8_drop 25 = .ok (.getfield 43, 3) := by decide +kernel
theorem dX8_drop_28 : decode cX8_drop 28 = .ok (.iload_n 3, 1) := by decide +kernel
theorem dX8_drop_29 : decode cX8_drop 29 = .ok (.invokevirtual 232, 3) := by decide +kernel
theorem dX8_drop_32 : decode cX8_drop 32 = .ok (.astore 4, 2) := by decide +kernel
theorem dX8_drop_34 : decode cX8_drop 34 = .ok (.aload 4, 2) := by decide +kernel
theorem dX8_drop_36 : decode cX8_drop 36 = .ok (.ifnonnull 9, 3) := by decide +kernel
theorem dX8_drop_39 : decode cX8_drop 39 = .ok (.aload_n 0, 1) := by decide +kernel
theorem dX8_drop_40 : decode cX8_drop 40 = .ok (.iconst 2, 1) := by decide +kernel
theorem dX8_drop_41 : decode cX8_drop 41 = .ok (.invokevirtual 81, 3) := by decide +kernel
theorem dX8_drop_44 : decode cX8_drop 44 = .ok (.lreturn, 1) := by decide +kernel
theorem dX8_drop_45 : decode cX8_drop 45 = .ok (.aload_n 0, 1) := by decide +kernel
theorem dX8_drop_46 : decode cX8_drop 46 = .ok (.getfield 10, 3) := by decide +kernel
theorem dX8_drop_49 : decode cX8_drop 49 = .ok (.aload_n 2, 1) := by decide +kernel
theorem dX8_drop_50 : decode cX8_drop 50 = .ok (.aload 4, 2) := by decide +kernel
theorem dX8_drop_52 : decode cX8_drop 52 = .ok (.iload_n 3, 1) := by decide +kernel
theorem dX8_drop_53 : decode cX8_drop 53 = .ok (.invokevirtual 235, 3) := by decide +kernel
theorem dX8_drop_56 : decode cX8_drop 56 = .ok (.iconst 0, 1) := by decide +kernel
theorem dX8_drop_57 : decode cX8_drop 57 = .ok (.invokevirtual 238, 3) := by decide +kernel
theorem dX8_drop_60 : decode cX8_drop 60 = .ok (.ifCond .eq 7, 3) := by decide +kernel
theorem dX8_drop_63 : decode cX8_drop 63 = .ok (.aload_n 2, 1) := by decide +kernel
theorem dX8_drop_64 : decode cX8_drop 64 = .ok (.invokevirtual 242, 3) := by decide +kernel
theorem dX8_drop_67 : decode cX8_drop 67 = .ok (.aload 4, 2) := by decide +kernel
theorem dX8_drop_69 : decode cX8_drop 69 = .ok (.dup, 1) := by decide +kernel
theorem dX8_drop_70 : decode cX8_drop 70 = .ok (.getfield 219, 3) := by decide +kernel
theorem dX8_drop_73 : decode cX8_drop 73 = .ok (.iload_n 3, 1) := by decide +kernel
theorem dX8_drop_74 : decode cX8_drop 74 = .ok (.ior, 1) := by decide +kernel
theorem dX8_drop_75 : decode cX8_drop 75 = .ok (.putfield 219, 3) := by decide +kernel
theorem dX8_drop_78 : decode cX8_drop 78 = .ok (.aload 4, 2) := by decide +kernel
theorem dX8_drop_80 : decode cX8_drop 80 = .ok (.invokevirtual 245, 3) := by decide +kernel
theorem dX8_drop_83 : decode cX8_drop 83 = .ok (.ifCond .ne 5, 3) := by decide +kernel
theorem dX8_drop_86 : decode cX8_drop 86 = .ok (.lconst 0, 1) := by decide +kernel
theorem dX8_drop_87 : decode cX8_drop 87 = .ok (.lreturn, 1) := by decide +kernel
theorem dX8_drop_88 : decode cX8_drop 88 = .ok (.aload_n 0, 1) := by decide +kernel
theorem dX8_drop_89 : decode cX8_drop 89 = .ok (.getfield 43, 3) := by decide +kernel
theorem dX8_drop_92 : decode cX8_drop 92 = .ok (.aload 4, 2) := by decide +kernel
theorem dX8_drop_94 : decode cX8_drop 94 = .ok (.aload 4, 2) := by decide +kernel
theorem dX8_drop_96 : decode cX8_drop 96 = .ok (.invokevirtual 248, 3) := by decide +kernel
theorem dX8_drop_99 : decode cX8_drop 99 = .ok (.aload_n 0, 1) := by decide +kernel
theorem dX8_drop_100 : decode cX8_drop 100 = .ok (.getfield 10, 3) := by decide +kernel
theorem dX8_drop_103 : decode cX8_drop 103 = .ok (.invokevirtual 228, 3) := by decide +kernel
theorem dX8_drop_106 : decode cX8_drop 106 = .ok (.pop, 1) := by decide +kernel
theorem dX8_drop_107 : decode cX8_drop 107 = .ok (.lconst 1, 1) := by decide +kernel
theorem dX8_drop_108 : decode cX8_drop 108 = .ok (.lreturn, 1) := by decide +kernel
set_option maxRecDepth 20000 in
theorem ggX8_surprise_X6_at : GoodIn wsX8_surprise wsX6_at := goodIn_r _ [8, 9, 10, 43, 44, 45] (by decide +kernel) (by decide +kernel)
set_option maxRecDepth 20000 in
theorem gX8_surprise_X6_at : GoodIn wsX8_surprise (wsV RX8 89 RX6 yX6_at wsX6_at) := goodIn_app (goodIn_of _ (by decide +kernel)) ggX8_surprise_X6_at
set_option maxRecDepth 20000 in
theorem ggX8_surprise_X8_finding : GoodIn wsX8_surprise wsX8_finding := goodIn_r _ [15, 16, 17, 25, 26, 27, 28, 29, 30, 31, 32, 33, 34, 35, 36, 37] (by decide +kernel) (by decide +kernel)
set_option maxRecDepth 20000 in
theorem gX8_surprise_X8_finding : GoodIn wsX8_surprise (wsV RX8 81 RX8 yX8_finding wsX8_finding) := goodIn_app (goodIn_of _ (by decide +kernel)) ggX8_surprise_X8_finding
set_option maxRecDepth 20000 in
theorem ggX8_surprise_X5_sumOfSurprises : GoodIn wsX8_surprise wsX5_sumOfSurprises := goodIn_r _ [22, 23, 24, 38, 39, 40, 41, 42] (by decide +kernel) (by decide +kernel)
set_option maxRecDepth 20000 in
theorem gX8_surprise_X5_sumOfSurprises : GoodIn wsX8_surprise (wsV RX8 254 RX5 yX5_sumOfSurprises wsX5_sumOfSurprises) := goodIn_app (goodIn_of _ (by decide +kernel)) ggX8_surprise_X5_sumOfSurprises
theorem dX8_surprise_0 : decode cX8_surprise 0 = .ok (.aload_n 0, 1) := by decide +kernel
theorem dX8_surprise_1 : decode cX8_surprise 1 = .ok (.getfield 10, 3) := by decide +kernel
theorem dX8_surprise_4 : decode cX8_surprise 4 = .ok (.iload_n 1, 1) := by decide +kernel
theorem dX8_surprise_5 : decode cX8_surprise 5 = .ok (.invokevirtual 89, 3) := by decide +kernel
theorem dX8_surprise_8 : decode cX8_surprise 8 = .ok (.astore_n 3, 1) := by decide +kernel
theorem dX8_surprise_9 : decode cX8_surprise 9 = .ok (.aload_n 3, 1) := by decide +kernel
theorem dX8_surprise_10 : decode cX8_surprise 10 = .ok (.ifnonnull 9, 3) := by decide +kernel
theorem dX8_surprise_13 : decode cX8_surprise 13 = .ok (.aload_n 0, 1) := by decide +kernel
theorem dX8_surprise_14 : decode cX8_surprise 14 = .ok (.iconst 1, 1) := by decide +kernel
theorem dX8_surprise_15 : decode cX8_surprise 15 = .ok (.invokevirtual 81, 3) := by decide +kernel
theorem dX8_surprise_18 : decode cX8_surprise 18 = .ok (.lreturn, 1) := by decide +kernel
theorem dX8_surprise_19 : decode cX8_surprise 19 = .ok (.iload_n 2, 1) := by decide +kernel
theorem dX8_surprise_20 : decode cX8_surprise 20 = .ok (.iconst (-1), 1) := by decide +kernel
theorem dX8_surprise_21 : decode cX8_surprise 21 = .ok (.if_icmp .lt 18, 3) := by decide +kernel
theorem dX8_surprise_24 : decode cX8_surprise 24 = .ok (.iload_n 2, 1) := by decide +kernel
theorem dX8_surprise_25 : decode cX8_surprise 25 = .ok (.aload_n 3, 1) := by decide +kernel
theorem dX8_surprise_26 : decode cX8_surprise 26 = .ok (.getfield 251, 3) := by decide +kernel
theorem dX8_surprise_29 : decode cX8_surprise 29 = .ok (.if_icmp .ge 10, 3) := by decide +kernel
theorem dX8_surprise_32 : decode cX8_surprise 32 = .ok (.aload_n 3, 1) := by decide +kernel
theorem dX8_surprise_33 : decode cX8_surprise 33 = .ok (.getfield 251, 3) := by decide +kernel
theorem dX8_surprise_36 : decode cX8_surprise 36 = .ok (.ifCond .ne 9, 3) := by decide +kernel
theorem dX8_surprise_39 : decode cX8_surprise 39 = .ok (.aload_n 0, 1) := by decide +kernel
theorem dX8_surprise_40 : decode cX8_surprise 40 = .ok (.iconst 2, 1) := by decide +kernel
theorem dX8_surprise_41 : decode cX8_surprise 41 = .ok (.invokevirtual 81, 3) := by decide +kernel
theorem dX8_surprise_44 : decode cX8_surprise 44 = .ok (.lreturn, 1) := by decide +kernel
theorem dX8_surprise_45 : decode cX8_surprise 45 = .ok (.iload_n 2, 1) := by decide +kernel
theorem dX8_surprise_46 : decode cX8_surprise 46 = .ok (.iconst (-1), 1) := by decide +kernel
theorem dX8_surprise_47 : decode cX8_surprise 47 = .ok (.if_icmp .ne 10, 3) := by decide +kernel
theorem dX8_surprise_50 : decode cX8_surprise 50 = .ok (.aload_n 3, 1) := by decide +kernel
theorem dX8_surprise_51 : decode cX8_surprise 51 = .ok (.invokevirtual 254, 3) := by decide +kernel
theorem dX8_surprise_54 : decode cX8_surprise 54 = .ok (.goto 9, 3) := by decide +kernel
theorem dX8_surprise_57 : decode cX8_surprise 57 = .ok (.aload_n 3, 1) := by decide +kernel
theorem dX8_surprise_58 : decode cX8_surprise 58 = .ok (.getfield 257, 3) := by decide +kernel
theorem dX8_surprise_61 : decode cX8_surprise 61 = .ok (.iload_n 2, 1) := by decide +kernel
theorem dX8_surprise_62 : decode cX8_surprise 62 = .ok (.laload, 1) := by decide +kernel
theorem dX8_surprise_63 : decode cX8_surprise 63 = .ok (.lreturn, 1) := by decide +kernel
set_option maxRecDepth 20000 in
theorem ggX8_sinking_X6_at : GoodIn wsX8_sinking wsX6_at := goodIn_r _ [8, 9, 10, 40, 41, 42] (by decide +kernel) (by decide +kernel)
set_option maxRecDepth 20000 in
theorem gX8_sinking_X6_at : GoodIn wsX8_sinking (wsV RX8 89 RX6 yX6_at wsX6_at) := goodIn_app (goodIn_of _ (by decide +kernel)) ggX8_sinking_X6_at
set_option maxRecDepth 20000 in
theorem ggX8_sinking_X5_sumOfSurprises : GoodIn wsX8_sinking wsX5_sumOfSurprises := goodIn_r _ [15, 16, 17, 35, 36, 37, 38, 39] (by decide +kernel) (by decide +kernel)
set_option maxRecDepth 20000 in
theorem gX8_sinking_X5_sumOfSurprises : GoodIn wsX8_sinking (wsV RX8 254 RX5 yX5_sumOfSurprises wsX5_sumOfSurprises) := goodIn_app (goodIn_of _ (by decide +kernel)) ggX8_sinking_X5_sumOfSurprises
set_option maxRecDepth 20000 in
theorem ggX8_sinking_X8_bitOf : GoodIn wsX8_sinking wsX8_bitOf := goodIn_r _ [21] (by decide +kernel) (by decide +kernel)
set_option maxRecDepth 20000 in
theorem gX8_sinking_X8_bitOf : GoodIn wsX8_sinking (va_wsS RX8 108 yX8_bitOf wsX8_bitOf) := goodIn_app (goodIn_of _ (by decide +kernel)) ggX8_sinking_X8_bitOf
theorem dX8_sinking_0 : decode cX8_sinking 0 = .ok (.iconst 0, 1) := by decide +kernel
theorem dX8_sinking_1 : decode cX8_sinking 1 = .ok (.istore_n 1, 1) := by decide +kernel
theorem dX8_sinking_2 : decode cX8_sinking 2 = .ok (.iconst 0, 1) := by decide +kernel
theorem dX8_sinking_3 : decode cX8_sinking 3 = .ok (.istore_n 2, 1) := by decide +kernel
theorem dX8_sinking_4 : decode cX8_sinking 4 = .ok (.iload_n 2, 1) := by decide +kernel
theorem dX8_sinking_5 : decode cX8_sinking 5 = .ok (.bipush 16, 2) := by decide +kernel
theorem dX8_sinking_7 : decode cX8_sinking 7 = .ok (.if_icmp .ge 50, 3) := by decide +kernel
theorem dX8_sinking_10 : decode cX8_sinking 10 = .ok (.aload_n 0, 1) := by decide +kernel
theorem dX8_sinking_11 : decode cX8_sinking 11 = .ok (.getfield 10, 3) := by decide +kernel
theorem dX8_sinking_14 : decode cX8_sinking 14 = .ok (.iload_n 2, 1) := by decide +kernel
theorem dX8_sinking_15 : decode cX8_sinking 15 = .ok (.invokevirtual 89, 3) := by decide +kernel
theorem dX8_sinking_18 : decode cX8_sinking 18 = .ok (.astore_n 3, 1) := by decide +kernel
theorem dX8_sinking_19 : decode cX8_sinking 19 = .ok (.aload_n 3, 1) := by decide +kernel
theorem dX8_sinking_20 : decode cX8_sinking 20 = .ok (.ifnull 31, 3) := by decide +kernel
theorem dX8_sinking_23 : decode cX8_sinking 23 = .ok (.aload_n 3, 1) := by decide +kernel
theorem dX8_sinking_24 : decode cX8_sinking 24 = .ok (.getfield 251, 3) := by decide +kernel
theorem dX8_sinking_27 : decode cX8_sinking 27 = .ok (.iconst 5, 1) := by decide +kernel
theorem dX8_sinking_28 : decode cX8_sinking 28 = .ok (.if_icmp .lt 23, 3) := by decide +kernel
theorem dX8_sinking_31 : decode cX8_sinking 31 = .ok (.aload_n 3, 1) := by decide +kernel
theorem dX8_sinking_32 : decode cX8_sinking 32 = .ok (.invokevirtual 254, 3) := by decide +kernel
theorem dX8_sinking_35 : decode cX8_sinking 35 = .ok (.aload_n 0, 1) := by decide +kernel
theorem dX8_sinking_36 : decode cX8_sinking 36 = .ok (.getfield 70, 3) := by decide +kernel
theorem dX8_sinking_39 : decode cX8_sinking 39 = .ok (.lneg, 1) := by decide +kernel
theorem dX8_sinking_40 : decode cX8_sinking 40 = .ok (.lcmp, 1) := by decide +kernel
theorem dX8_sinking_41 : decode cX8_sinking 41 = .ok (.ifCond .ge 10, 3) := by decide +kernel
theorem dX8_sinking_44 : decode cX8_sinking 44 = .ok (.iload_n 1, 1) := by decide +kernel
theorem dX8_sinking_45 : decode cX8_sinking 45 = .ok (.iload_n 2, 1) := by decide +kernel
theorem dX8_sinking_46 : decode cX8_sinking 46 = .ok (.invokestatic 108, 3) := by decide +kernel
theorem dX8_sinking_49 : decode cX8_sinking 49 = .ok (.ior, 1) := by decide +kernel
theorem dX8_sinking_50 : decode cX8_sinking 50 = .ok (.istore_n 1, 1) := by decide +kernel
theorem dX8_sinking_51 : decode cX8_sinking 51 = .ok (.iinc 2 1, 3) := by decide +kernel
theorem dX8_sinking_54 : decode cX8_sinking 54 = .ok (.goto (-50), 3) := by decide +kernel
theorem dX8_sinking_57 : decode cX8_sinking 57 = .ok (.iload_n 1, 1) := by decide +kernel
theorem dX8_sinking_58 : decode cX8_sinking 58 = .ok (.i2l, 1) := by decide +kernel
theorem dX8_sinking_59 : decode cX8_sinking 59 = .ok (.lreturn, 1) := by decide +kernel
set_option maxRecDepth 20000 in
theorem ggX8_limit_X8_finding : GoodIn wsX8_limit wsX8_finding := goodIn_r _ [7, 8, 9, 10, 11, 12, 13, 14, 15, 16, 17, 18, 19, 20, 21, 22] (by decide +kernel) (by decide +kernel)
set_option maxRecDepth 20000 in
theorem gX8_limit_X8_finding : GoodIn wsX8_limit (wsV RX8 81 RX8 yX8_finding wsX8_finding) := goodIn_app (goodIn_of _ (by decide +kernel)) ggX8_limit_X8_finding
theorem dX8_limit_0 : decode cX8_limit 0 = .ok (.iload_n 1, 1) := by decide +kernel
theorem dX8_limit_1 : decode cX8_limit 1 = .ok (.ifCond .lt 10, 3) := by decide +kernel
theorem dX8_limit_4 : decode cX8_limit 4 = .ok (.iload_n 1, 1) := by decide +kernel
theorem dX8_limit_5 : decode cX8_limit 5 = .ok (.ldc_w 260, 3) := by decide +kernel
theorem dX8_limit_8 : decode cX8_limit 8 = .ok (.if_icmp .le 9, 3) := by decide +kernel
theorem dX8_limit_11 : decode cX8_limit 11 = .ok (.aload_n 0, 1) := by decide +kernel
theorem dX8_limit_12 : decode cX8_limit 12 = .ok (.iconst 1, 1) := by decide +kernel
theorem dX8_limit_13 : decode cX8_limit 13 = .ok (.invokevirtual 81, 3) := by decide +kernel
theorem dX8_limit_16 : decode cX8_limit 16 = .ok (.lreturn, 1) := by decide +kernel
theorem dX8_limit_17 : decode cX8_limit 17 = .ok (.aload_n 0, 1) := by decide +kernel
theorem dX8_limit_18 : decode cX8_limit 18 = .ok (.getfield 70, 3) := by decide +kernel
theorem dX8_limit_21 : decode cX8_limit 21 = .ok (.lstore_n 2, 1) := by decide +kernel
theorem dX8_limit_22 : decode cX8_limit 22 = .ok (.aload_n 0, 1) := by decide +kernel
theorem dX8_limit_23 : decode cX8_limit 23 = .ok (.iload_n 1, 1) := by decide +kernel
theorem dX8_limit_24 : decode cX8_limit 24 = .ok (.i2l, 1) := by decide +kernel
theorem dX8_limit_25 : decode cX8_limit 25 = .ok (.putfield 70, 3) := by decide +kernel
theorem dX8_limit_28 : decode cX8_limit 28 = .ok (.lload_n 2, 1) := by decide +kernel
theorem dX8_limit_29 : decode cX8_limit 29 = .ok (.lreturn, 1) := by decide +kernel
set_option maxRecDepth 20000 in
theorem ggX8_tell_X8_finding : GoodIn wsX8_tell wsX8_finding := goodIn_r _ [7, 8, 9, 10, 11, 12, 13, 14, 15, 16, 17, 18, 19, 20, 21, 22] (by decide +kernel) (by decide +kernel)
set_option maxRecDepth 20000 in
theorem gX8_tell_X8_finding : GoodIn wsX8_tell (wsV RX8 81 RX8 yX8_finding wsX8_finding) := goodIn_app (goodIn_of _ (by decide +kernel)) ggX8_tell_X8_finding
theorem dX8_tell_0 : decode cX8_tell 0 = .ok (.aload_n 0, 1) := by decide +kernel
theorem dX8_tell_1 : decode cX8_tell 1 = .ok (.getfield 61, 3) := by decide +kernel
theorem dX8_tell_4 : decode cX8_tell 4 = .ok (.ifCond .lt 15, 3) := by decide +kernel
theorem dX8_tell_7 : decode cX8_tell 7 = .ok (.aload_n 0, 1) := by decide +kernel
theorem dX8_tell_8 : decode cX8_tell 8 = .ok (.getfield 61, 3) := by decide +kernel
theorem dX8_tell_11 : decode cX8_tell 11 = .ok (.aload_n 0, 1) := by decide +kernel
theorem dX8_tell_12 : decode cX8_tell 12 = .ok (.getfield 54, 3) := by decide +kernel
theorem dX8_tell_15 : decode cX8_tell 15 = .ok (.arraylength, 1) := by decide +kernel
theorem dX8_tell_16 : decode cX8_tell 16 = .ok (.if_icmp .lt 9, 3) := by decide +kernel
theorem dX8_tell_19 : decode cX8_tell 19 = .ok (.aload_n 0, 1) := by decide +kernel
theorem dX8_tell_20 : decode cX8_tell 20 = .ok (.iconst 4, 1) := by decide +kernel
theorem dX8_tell_21 : decode cX8_tell 21 = .ok (.invokevirtual 81, 3) := by decide +kernel
theorem dX8_tell_24 : decode cX8_tell 24 = .ok (.lreturn, 1) := by decide +kernel
theorem dX8_tell_25 : decode cX8_tell 25 = .ok (.aload_n 0, 1) := by decide +kernel
theorem dX8_tell_26 : decode cX8_tell 26 = .ok (.getfield 54, 3) := by decide +kernel
theorem dX8_tell_29 : decode cX8_tell 29 = .ok (.aload_n 0, 1) := by decide +kernel
theorem dX8_tell_30 : decode cX8_tell 30 = .ok (.getfield 61, 3) := by decide +kernel
theorem dX8_tell_33 : decode cX8_tell 33 = .ok (.iload_n 1, 1) := by decide +kernel
theorem dX8_tell_34 : decode cX8_tell 34 = .ok (.i2l, 1) := by decide +kernel
theorem dX8_tell_35 : decode cX8_tell 35 = .ok (.lastore, 1) := by decide +kernel
theorem dX8_tell_36 : decode cX8_tell 36 = .ok (.aload_n 0, 1) := by decide +kernel
theorem dX8_tell_37 : decode cX8_tell 37 = .ok (.dup, 1) := by decide +kernel
theorem dX8_tell_38 : decode cX8_tell 38 = .ok (.getfield 61, 3) := by decide +kernel
theorem dX8_tell_41 : decode cX8_tell 41 = .ok (.iconst 1, 1) := by decide +kernel
theorem dX8_tell_42 : decode cX8_tell 42 = .ok (.iadd, 1) := by decide +kernel
theorem dX8_tell_43 : decode cX8_tell 43 = .ok (.putfield 61, 3) := by decide +kernel
theorem dX8_tell_46 : decode cX8_tell 46 = .ok (.aload_n 0, 1) := by decide +kernel
theorem dX8_tell_47 : decode cX8_tell 47 = .ok (.getfield 61, 3) := by decide +kernel
theorem dX8_tell_50 : decode cX8_tell 50 = .ok (.i2l, 1) := by decide +kernel
theorem dX8_tell_51 : decode cX8_tell 51 = .ok (.lreturn, 1) := by decide +kernel
set_option maxRecDepth 20000 in
theorem ggX8_check_X7_copyOf : GoodIn wsX8_check wsX7_copyOf := goodIn_r _ [11, 12, 13, 14, 15, 16, 17, 10, 18, 19, 20, 21, 22, 173, 174, 175] (by decide +kernel) (by decide +kernel)
set_option maxRecDepth 20000 in
theorem gX8_check_X7_copyOf : GoodIn wsX8_check (wsV RX8 261 RX7 yX7_copyOf wsX7_copyOf) := goodIn_app (goodIn_of _ (by decide +kernel)) ggX8_check_X7_copyOf
set_option maxRecDepth 20000 in
theorem ggX8_check_X8_planTick : GoodIn wsX8_check wsX8_planTick := goodIn_r _ [27, 4, 5, 28, 29, 30, 31, 32, 33, 34, 35, 36, 37, 38, 39, 40, 41, 42, 43, 44, 45, 46, 26, 47, 48, 49, 50, 51, 52, 53, 54, 55, 56, 57, 58, 59, 60, 61, 62, 63, 64, 65, 66, 67, 68, 69, 70, 71, 10, 72, 12, 73, 74, 15, 16, 17, 18, 14, 75, 76, 77, 78, 79, 80, 81, 82, 83, 84, 85, 86, 87, 88, 89, 90, 91, 92, 93, 94, 95, 96, 97, 98, 99, 100, 101, 102, 103, 104, 105, 106, 107, 108, 109, 110, 111, 112, 113, 114, 115, 116, 117, 118, 119, 20, 21, 22, 13, 120, 121, 122, 123, 124, 125, 126, 127, 128, 129, 130, 131, 132, 133, 134, 135, 136, 137, 138, 139, 140, 141, 142, 143, 157, 158, 159, 160, 161, 162, 163, 164, 165, 166, 167, 168, 169, 170, 171, 172, 176, 177, 178, 179, 180, 181, 182, 183, 184, 185, 186, 187, 173, 174, 175, 188, 189, 190, 191, 192, 193, 194, 195, 196, 197, 198] (by decide +kernel) (by decide +kernel)
set_option maxRecDepth 20000 in
theorem gX8_check_X8_planTick : GoodIn wsX8_check (wsV RX8 191 RX8 yX8_planTick wsX8_planTick) := goodIn_app (goodIn_of _ (by decide +kernel)) ggX8_check_X8_planTick
set_option maxRecDepth 20000 in
theorem ggX8_check_X8_isTold : GoodIn wsX8_check wsX8_isTold := goodIn_r _ [147, 148, 4, 149, 150, 151, 135, 152, 138, 153, 154, 155, 156, 139, 157, 158, 159, 160, 161, 162, 163, 164, 165, 166, 167, 168, 169, 170, 171, 172] (by decide +kernel) (by decide +kernel)
set_option maxRecDepth 20000 in
theorem gX8_check_X8_isTold : GoodIn wsX8_check (wsV RX8 264 RX8 yX8_isTold wsX8_isTold) := goodIn_app (goodIn_of _ (by decide +kernel)) ggX8_check_X8_isTold
theorem dX8_check_0 : decode cX8_check 0 = .ok (.aload_n 0, 1) := by decide +kernel
theorem dX8_check_1 : decode cX8_check 1 = .ok (.getfield 23, 3) := by decide +kernel
theorem dX8_check_4 : decode cX8_check 4 = .ok (.aload_n 0, 1) := by decide +kernel
theorem dX8_check_5 : decode cX8_check 5 = .ok (.getfield 19, 3) := by decide +kernel
theorem dX8_check_8 : decode cX8_check 8 = .ok (.invokevirtual 261, 3) := by decide +kernel
theorem dX8_check_11 : decode cX8_check 11 = .ok (.aload_n 0, 1) := by decide +kernel
theorem dX8_check_12 : decode cX8_check 12 = .ok (.aload_n 0, 1) := by decide +kernel
theorem dX8_check_13 : decode cX8_check 13 = .ok (.getfield 23, 3) := by decide +kernel
theorem dX8_check_16 : decode cX8_check 16 = .ok (.invokevirtual 191, 3) := by decide +kernel
theorem dX8_check_19 : decode cX8_check 19 = .ok (.aload_n 0, 1) := by decide +kernel
theorem dX8_check_20 : decode cX8_check 20 = .ok (.getfield 61, 3) := by decide +kernel
theorem dX8_check_23 : decode cX8_check 23 = .ok (.istore_n 1, 1) := by decide +kernel
theorem dX8_check_24 : decode cX8_check 24 = .ok (.aload_n 0, 1) := by decide +kernel
theorem dX8_check_25 : decode cX8_check 25 = .ok (.iconst 0, 1) := by decide +kernel
theorem dX8_check_26 : decode cX8_check 26 = .ok (.putfield 61, 3) := by decide +kernel
theorem dX8_check_29 : decode cX8_check 29 = .ok (.iconst 0, 1) := by decide +kernel
theorem dX8_check_30 : decode cX8_check 30 = .ok (.istore_n 2, 1) := by decide +kernel
theorem dX8_check_31 : decode cX8_check 31 = .ok (.iload_n 2, 1) := by decide +kernel
theorem dX8_check_32 : decode cX8_check 32 = .ok (.aload_n 0, 1) := by decide +kernel
theorem dX8_check_33 : decode cX8_check 33 = .ok (.getfield 36, 3) := by decide +kernel
theorem dX8_check_36 : decode cX8_check 36 = .ok (.getfield 195, 3) := by decide +kernel
theorem dX8_check_39 : decode cX8_check 39 = .ok (.if_icmp .ge 23, 3) := by decide +kernel
theorem dX8_check_42 : decode cX8_check 42 = .ok (.aload_n 0, 1) := by decide +kernel
theorem dX8_check_43 : decode cX8_check 43 = .ok (.iload_n 2, 1) := by decide +kernel
theorem dX8_check_44 : decode cX8_check 44 = .ok (.iload_n 1, 1) := by decide +kernel
theorem dX8_check_45 : decode cX8_check 45 = .ok (.invokevirtual 264, 3) := by decide +kernel
theorem dX8_check_48 : decode cX8_check 48 = .ok (.ifCond .ne 8, 3) := by decide +kernel
theorem dX8_check_51 : decode cX8_check 51 = .ok (.lconst 1, 1) := by decide +kernel
theorem dX8_check_52 : decode cX8_check 52 = .ok (.iload_n 2, 1) := by decide +kernel
theorem dX8_check_53 : decode cX8_check 53 = .ok (.i2l, 1) := by decide +kernel
theorem dX8_check_54 : decode cX8_check 54 = .ok (.ladd, 1) := by decide +kernel
theorem dX8_check_55 : decode cX8_check 55 = .ok (.lreturn, 1) := by decide +kernel
theorem dX8_check_56 : decode cX8_check 56 = .ok (.iinc 2 1, 3) := by decide +kernel
theorem dX8_check_59 : decode cX8_check 59 = .ok (.goto (-28), 3) := by decide +kernel
theorem dX8_check_62 : decode cX8_check 62 = .ok (.iload_n 1, 1) := by decide +kernel
theorem dX8_check_63 : decode cX8_check 63 = .ok (.iconst 2, 1) := by decide +kernel
theorem dX8_check_64 : decode cX8_check 64 = .ok (.aload_n 0, 1) := by decide +kernel
theorem dX8_check_65 : decode cX8_check 65 = .ok (.getfield 36, 3) := by decide +kernel
theorem dX8_check_68 : decode cX8_check 68 = .ok (.getfield 195, 3) := by decide +kernel
theorem dX8_check_71 : decode cX8_check 71 = .ok (.imul, 1) := by decide +kernel
theorem dX8_check_72 : decode cX8_check 72 = .ok (.if_icmp .le 9, 3) := by decide +kernel
theorem dX8_check_75 : decode cX8_check 75 = .ok (.ldc2_w 268, 3) := by decide +kernel
theorem dX8_check_78 : decode cX8_check 78 = .ok (.goto 4, 3) := by decide +kernel
theorem dX8_check_81 : decode cX8_check 81 = .ok (.lconst 0, 1) := by decide +kernel
theorem dX8_check_82 : decode cX8_check 82 = .ok (.lreturn, 1) := by decide +kernel
set_option maxRecDepth 20000 in
theorem ggX8_count_X2_going : GoodIn wsX8_count wsX2_going := goodIn_r _ [14, 15, 16, 17, 18, 19, 20, 21, 48, 49, 50, 51, 52, 53] (by decide +kernel) (by decide +kernel)
set_option maxRecDepth 20000 in
theorem gX8_count_X2_going : GoodIn wsX8_count (wsV RX8 115 RX2 yX2_going wsX2_going) := goodIn_app (goodIn_of _ (by decide +kernel)) ggX8_count_X2_going
set_option maxRecDepth 20000 in
theorem ggX8_count_X8_finding : GoodIn wsX8_count wsX8_finding := goodIn_r _ [26, 27, 28, 29, 30, 31, 32, 33, 34, 35, 36, 37, 38, 39, 40, 41] (by decide +kernel) (by decide +kernel)
set_option maxRecDepth 20000 in
theorem gX8_count_X8_finding : GoodIn wsX8_count (wsV RX8 81 RX8 yX8_finding wsX8_finding) := goodIn_app (goodIn_of _ (by decide +kernel)) ggX8_count_X8_finding
theorem dX8_count_0 : decode cX8_count 0 = .ok (.iload_n 1, 1) := by decide +kernel
theorem dX8_count_1 : decode cX8_count 1 = .ok (.tableswitch 95 0 6 #[43, 52, 57, 66, 75, 83, 89], 43) := by decide +kernel
theorem dX8_count_44 : decode cX8_count 44 = .ok (.aload_n 0, 1) := by decide +kernel
theorem dX8_count_45 : decode cX8_count 45 = .ok (.getfield 10, 3) := by decide +kernel
theorem dX8_count_48 : decode cX8_count 48 = .ok (.getfield 122, 3) := by decide +kernel
theorem dX8_count_51 : decode cX8_count 51 = .ok (.i2l, 1) := by decide +kernel
theorem dX8_count_52 : decode cX8_count 52 = .ok (.lreturn, 1) := by decide +kernel
theorem dX8_count_53 : decode cX8_count 53 = .ok (.aload_n 0, 1) := by decide +kernel
theorem dX8_count_54 : decode cX8_count 54 = .ok (.getfield 74, 3) := by decide +kernel
theorem dX8_count_57 : decode cX8_count 57 = .ok (.lreturn, 1) := by decide +kernel
theorem dX8_count_58 : decode cX8_count 58 = .ok (.aload_n 0, 1) := by decide +kernel
theorem dX8_count_59 : decode cX8_count 59 = .ok (.getfield 19, 3) := by decide +kernel
theorem dX8_count_62 : decode cX8_count 62 = .ok (.getfield 125, 3) := by decide +kernel
theorem dX8_count_65 : decode cX8_count 65 = .ok (.i2l, 1) := by decide +kernel
theorem dX8_count_66 : decode cX8_count 66 = .ok (.lreturn, 1) := by decide +kernel
theorem dX8_count_67 : decode cX8_count 67 = .ok (.aload_n 0, 1) := by decide +kernel
theorem dX8_count_68 : decode cX8_count 68 = .ok (.getfield 43, 3) := by decide +kernel
theorem dX8_count_71 : decode cX8_count 71 = .ok (.invokevirtual 115, 3) := by decide +kernel
theorem dX8_count_74 : decode cX8_count 74 = .ok (.i2l, 1) := by decide +kernel
theorem dX8_count_75 : decode cX8_count 75 = .ok (.lreturn, 1) := by decide +kernel
theorem dX8_count_76 : decode cX8_count 76 = .ok (.aload_n 0, 1) := by decide +kernel
theorem dX8_count_77 : decode cX8_count 77 = .ok (.getfield 43, 3) := by decide +kernel
theorem dX8_count_80 : decode cX8_count 80 = .ok (.getfield 270, 3) := by decide +kernel
theorem dX8_count_83 : decode cX8_count 83 = .ok (.lreturn, 1) := by decide +kernel
theorem dX8_count_84 : decode cX8_count 84 = .ok (.aload_n 0, 1) := by decide +kernel
theorem dX8_count_85 : decode cX8_count 85 = .ok (.getfield 61, 3) := by decide +kernel
theorem dX8_count_88 : decode cX8_count 88 = .ok (.i2l, 1) := by decide +kernel
theorem dX8_count_89 : decode cX8_count 89 = .ok (.lreturn, 1) := by decide +kernel
theorem dX8_count_90 : decode cX8_count 90 = .ok (.aload_n 0, 1) := by decide +kernel
theorem dX8_count_91 : decode cX8_count 91 = .ok (.getfield 65, 3) := by decide +kernel
theorem dX8_count_94 : decode cX8_count 94 = .ok (.i2l, 1) := by decide +kernel
theorem dX8_count_95 : decode cX8_count 95 = .ok (.lreturn, 1) := by decide +kernel
theorem dX8_count_96 : decode cX8_count 96 = .ok (.aload_n 0, 1) := by decide +kernel
theorem dX8_count_97 : decode cX8_count 97 = .ok (.iconst 1, 1) := by decide +kernel
theorem dX8_count_98 : decode cX8_count 98 = .ok (.invokevirtual 81, 3) := by decide +kernel
theorem dX8_count_101 : decode cX8_count 101 = .ok (.lreturn, 1) := by decide +kernel
set_option maxRecDepth 20000 in
theorem ggX8_found_X8_finding : GoodIn wsX8_found wsX8_finding := goodIn_r _ [6, 1, 7, 8, 9, 10, 11, 12, 13, 14, 15, 16, 17, 18, 19, 20] (by decide +kernel) (by decide +kernel)
set_option maxRecDepth 20000 in
theorem gX8_found_X8_finding : GoodIn wsX8_found (wsV RX8 81 RX8 yX8_finding wsX8_finding) := goodIn_app (goodIn_of _ (by decide +kernel)) ggX8_found_X8_finding
theorem dX8_found_0 : decode cX8_found 0 = .ok (.iload_n 1, 1) := by decide +kernel
theorem dX8_found_1 : decode cX8_found 1 = .ok (.iconst 1, 1) := by decide +kernel
theorem dX8_found_2 : decode cX8_found 2 = .ok (.if_icmp .lt 17, 3) := by decide +kernel
theorem dX8_found_5 : decode cX8_found 5 = .ok (.iload_n 1, 1) := by decide +kernel
theorem dX8_found_6 : decode cX8_found 6 = .ok (.iconst 5, 1) := by decide +kernel
theorem dX8_found_7 : decode cX8_found 7 = .ok (.if_icmp .gt 12, 3) := by decide +kernel
theorem dX8_found_10 : decode cX8_found 10 = .ok (.iload_n 1, 1) := by decide +kernel
theorem dX8_found_11 : decode cX8_found 11 = .ok (.aload_n 0, 1) := by decide +kernel
theorem dX8_found_12 : decode cX8_found 12 = .ok (.getfield 58, 3) := by decide +kernel
theorem dX8_found_15 : decode cX8_found 15 = .ok (.arraylength, 1) := by decide +kernel
theorem dX8_found_16 : decode cX8_found 16 = .ok (.if_icmp .lt 9, 3) := by decide +kernel
theorem dX8_found_19 : decode cX8_found 19 = .ok (.aload_n 0, 1) := by decide +kernel
theorem dX8_found_20 : decode cX8_found 20 = .ok (.iconst 1, 1) := by decide +kernel
theorem dX8_found_21 : decode cX8_found 21 = .ok (.invokevirtual 81, 3) := by decide +kernel
theorem dX8_found_24 : decode cX8_found 24 = .ok (.lreturn, 1) := by decide +kernel
theorem dX8_found_25 : decode cX8_found 25 = .ok (.aload_n 0, 1) := by decide +kernel
theorem dX8_found_26 : decode cX8_found 26 = .ok (.getfield 58, 3) := by decide +kernel
theorem dX8_found_29 : decode cX8_found 29 = .ok (.iload_n 1, 1) := by decide +kernel
theorem dX8_found_30 : decode cX8_found 30 = .ok (.laload, 1) := by decide +kernel
theorem dX8_found_31 : decode cX8_found 31 = .ok (.lreturn, 1) := by decide +kernel
theorem dX8_finding_0 : decode cX8_finding 0 = .ok (.iload_n 1, 1) := by decide +kernel
theorem dX8_finding_1 : decode cX8_finding 1 = .ok (.ifCond .lt 22, 3) := by decide +kernel
theorem dX8_finding_4 : decode cX8_finding 4 = .ok (.iload_n 1, 1) := by decide +kernel
theorem dX8_finding_5 : decode cX8_finding 5 = .ok (.aload_n 0, 1) := by decide +kernel
theorem dX8_finding_6 : decode cX8_finding 6 = .ok (.getfield 58, 3) := by decide +kernel
theorem dX8_finding_9 : decode cX8_finding 9 = .ok (.arraylength, 1) := by decide +kernel
theorem dX8_finding_10 : decode cX8_finding 10 = .ok (.if_icmp .ge 13, 3) := by decide +kernel
theorem dX8_finding_13 : decode cX8_finding 13 = .ok (.aload_n 0, 1) := by decide +kernel
theorem dX8_finding_14 : decode cX8_finding 14 = .ok (.getfield 58, 3) := by decide +kernel
theorem dX8_finding_17 : decode cX8_finding 17 = .ok (.iload_n 1, 1) := by decide +kernel
theorem dX8_finding_18 : decode cX8_finding 18 = .ok (.dup2, 1) := by decide +kernel
theorem dX8_finding_19 : decode cX8_finding 19 = .ok (.laload, 1) := by decide +kernel
theorem dX8_finding_20 : decode cX8_finding 20 = .ok (.lconst 1, 1) := by decide +kernel
theorem dX8_finding_21 : decode cX8_finding 21 = .ok (.ladd, 1) := by decide +kernel
theorem dX8_finding_22 : decode cX8_finding 22 = .ok (.lastore, 1) := by decide +kernel
theorem dX8_finding_23 : decode cX8_finding 23 = .ok (.ldc2_w 273, 3) := by decide +kernel
theorem dX8_finding_26 : decode cX8_finding 26 = .ok (.iload_n 1, 1) := by decide +kernel
theorem dX8_finding_27 : decode cX8_finding 27 = .ok (.i2l, 1) := by decide +kernel
theorem dX8_finding_28 : decode cX8_finding 28 = .ok (.lsub, 1) := by decide +kernel
theorem dX8_finding_29 : decode cX8_finding 29 = .ok (.lreturn, 1) := by decide +kernel
theorem dX8_isKind_0 : decode cX8_isKind 0 = .ok (.iload_n 0, 1) := by decide +kernel
theorem dX8_isKind_1 : decode cX8_isKind 1 = .ok (.ifCond .lt 12, 3) := by decide +kernel
theorem dX8_isKind_4 : decode cX8_isKind 4 = .ok (.iload_n 0, 1) := by decide +kernel
theorem dX8_isKind_5 : decode cX8_isKind 5 = .ok (.iconst 2, 1) := by decide +kernel
theorem dX8_isKind_6 : decode cX8_isKind 6 = .ok (.if_icmp .gt 7, 3) := by decide +kernel
theorem dX8_isKind_9 : decode cX8_isKind 9 = .ok (.iconst 1, 1) := by decide +kernel
theorem dX8_isKind_10 : decode cX8_isKind 10 = .ok (.goto 4, 3) := by decide +kernel
theorem dX8_isKind_13 : decode cX8_isKind 13 = .ok (.iconst 0, 1) := by decide +kernel
theorem dX8_isKind_14 : decode cX8_isKind 14 = .ok (.ireturn, 1) := by decide +kernel
theorem dX8_isLevel_0 : decode cX8_isLevel 0 = .ok (.iload_n 0, 1) := by decide +kernel
theorem dX8_isLevel_1 : decode cX8_isLevel 1 = .ok (.ifCond .lt 13, 3) := by decide +kernel
theorem dX8_isLevel_4 : decode cX8_isLevel 4 = .ok (.iload_n 0, 1) := by decide +kernel
theorem dX8_isLevel_5 : decode cX8_isLevel 5 = .ok (.bipush 7, 2) := by decide +kernel
theorem dX8_isLevel_7 : decode cX8_isLevel 7 = .ok (.if_icmp .ge 7, 3) := by decide +kernel
theorem dX8_isLevel_10 : decode cX8_isLevel 10 = .ok (.iconst 1, 1) := by decide +kernel
theorem dX8_isLevel_11 : decode cX8_isLevel 11 = .ok (.goto 4, 3) := by decide +kernel
theorem dX8_isLevel_14 : decode cX8_isLevel 14 = .ok (.iconst 0, 1) := by decide +kernel
theorem dX8_isLevel_15 : decode cX8_isLevel 15 = .ok (.ireturn, 1) := by decide +kernel
theorem dX8_isBound_0 : decode cX8_isBound 0 = .ok (.iload_n 0, 1) := by decide +kernel
theorem dX8_isBound_1 : decode cX8_isBound 1 = .ok (.ifCond .lt 14, 3) := by decide +kernel
theorem dX8_isBound_4 : decode cX8_isBound 4 = .ok (.iload_n 0, 1) := by decide +kernel
theorem dX8_isBound_5 : decode cX8_isBound 5 = .ok (.ldc_w 275, 3) := by decide +kernel
theorem dX8_isBound_8 : decode cX8_isBound 8 = .ok (.if_icmp .gt 7, 3) := by decide +kernel
theorem dX8_isBound_11 : decode cX8_isBound 11 = .ok (.iconst 1, 1) := by decide +kernel
theorem dX8_isBound_12 : decode cX8_isBound 12 = .ok (.goto 4, 3) := by decide +kernel
theorem dX8_isBound_15 : decode cX8_isBound 15 = .ok (.iconst 0, 1) := by decide +kernel
theorem dX8_isBound_16 : decode cX8_isBound 16 = .ok (.ireturn, 1) := by decide +kernel
theorem dX8_bitOf_0 : decode cX8_bitOf 0 = .ok (.iconst 1, 1) := by decide +kernel
theorem dX8_bitOf_1 : decode cX8_bitOf 1 = .ok (.iload_n 0, 1) := by decide +kernel
theorem dX8_bitOf_2 : decode cX8_bitOf 2 = .ok (.ishl, 1) := by decide +kernel
theorem dX8_bitOf_3 : decode cX8_bitOf 3 = .ok (.ireturn, 1) := by decide +kernel
theorem dX8_hasBit_0 : decode cX8_hasBit 0 = .ok (.iload_n 0, 1) := by decide +kernel
theorem dX8_hasBit_1 : decode cX8_hasBit 1 = .ok (.iload_n 1, 1) := by decide +kernel
theorem dX8_hasBit_2 : decode cX8_hasBit 2 = .ok (.ishr, 1) := by decide +kernel
theorem dX8_hasBit_3 : decode cX8_hasBit 3 = .ok (.iconst 1, 1) := by decide +kernel
theorem dX8_hasBit_4 : decode cX8_hasBit 4 = .ok (.iand, 1) := by decide +kernel
theorem dX8_hasBit_5 : decode cX8_hasBit 5 = .ok (.iconst 1, 1) := by decide +kernel
theorem dX8_hasBit_6 : decode cX8_hasBit 6 = .ok (.if_icmp .ne 7, 3) := by decide +kernel
theorem dX8_hasBit_9 : decode cX8_hasBit 9 = .ok (.iconst 1, 1) := by decide +kernel
theorem dX8_hasBit_10 : decode cX8_hasBit 10 = .ok (.goto 4, 3) := by decide +kernel
theorem dX8_hasBit_13 : decode cX8_hasBit 13 = .ok (.iconst 0, 1) := by decide +kernel
theorem dX8_hasBit_14 : decode cX8_hasBit 14 = .ok (.ireturn, 1) := by decide +kernel
theorem dX8_evenShare_0 : decode cX8_evenShare 0 = .ok (.iload_n 0, 1) := by decide +kernel
theorem dX8_evenShare_1 : decode cX8_evenShare 1 = .ok (.iconst 3, 1) := by decide +kernel
theorem dX8_evenShare_2 : decode cX8_evenShare 2 = .ok (.if_icmp .ne 9, 3) := by decide +kernel
theorem dX8_evenShare_5 : decode cX8_evenShare 5 = .ok (.ldc2_w 276, 3) := by decide +kernel
theorem dX8_evenShare_8 : decode cX8_evenShare 8 = .ok (.goto 6, 3) := by decide +kernel
theorem dX8_evenShare_11 : decode cX8_evenShare 11 = .ok (.ldc2_w 278, 3) := by decide +kernel
theorem dX8_evenShare_14 : decode cX8_evenShare 14 = .ok (.lreturn, 1) := by decide +kernel
set_option maxRecDepth 20000 in
theorem ggX8_partyOf_X6_at : GoodIn wsX8_partyOf wsX6_at := goodIn_r _ [6, 7, 8, 26, 27, 28] (by decide +kernel) (by decide +kernel)
set_option maxRecDepth 20000 in
theorem gX8_partyOf_X6_at : GoodIn wsX8_partyOf (wsV RX8 89 RX6 yX6_at wsX6_at) := goodIn_app (goodIn_of _ (by decide +kernel)) ggX8_partyOf_X6_at
set_option maxRecDepth 20000 in
theorem ggX8_partyOf_X8_bitOf : GoodIn wsX8_partyOf wsX8_bitOf := goodIn_r _ [12] (by decide +kernel) (by decide +kernel)
set_option maxRecDepth 20000 in
theorem gX8_partyOf_X8_bitOf : GoodIn wsX8_partyOf (va_wsS RX8 108 yX8_bitOf wsX8_bitOf) := goodIn_app (goodIn_of _ (by decide +kernel)) ggX8_partyOf_X8_bitOf
theorem dX8_partyOf_0 : decode cX8_partyOf 0 = .ok (.aload_n 0, 1) := by decide +kernel
theorem dX8_partyOf_1 : decode cX8_partyOf 1 = .ok (.getfield 10, 3) := by decide +kernel
theorem dX8_partyOf_4 : decode cX8_partyOf 4 = .ok (.iload_n 1, 1) := by decide +kernel
theorem dX8_partyOf_5 : decode cX8_partyOf 5 = .ok (.invokevirtual 89, 3) := by decide +kernel
theorem dX8_partyOf_8 : decode cX8_partyOf 8 = .ok (.ifnonnull 5, 3) := by decide +kernel
theorem dX8_partyOf_11 : decode cX8_partyOf 11 = .ok (.iconst 0, 1) := by decide +kernel
theorem dX8_partyOf_12 : decode cX8_partyOf 12 = .ok (.ireturn, 1) := by decide +kernel
theorem dX8_partyOf_13 : decode cX8_partyOf 13 = .ok (.iload_n 2, 1) := by decide +kernel
theorem dX8_partyOf_14 : decode cX8_partyOf 14 = .ok (.iconst (-1), 1) := by decide +kernel
theorem dX8_partyOf_15 : decode cX8_partyOf 15 = .ok (.if_icmp .ne 17, 3) := by decide +kernel
theorem dX8_partyOf_18 : decode cX8_partyOf 18 = .ok (.iload_n 3, 1) := by decide +kernel
theorem dX8_partyOf_19 : decode cX8_partyOf 19 = .ok (.iconst (-1), 1) := by decide +kernel
theorem dX8_partyOf_20 : decode cX8_partyOf 20 = .ok (.if_icmp .ne 10, 3) := by decide +kernel
theorem dX8_partyOf_23 : decode cX8_partyOf 23 = .ok (.iload_n 1, 1) := by decide +kernel
theorem dX8_partyOf_24 : decode cX8_partyOf 24 = .ok (.invokestatic 108, 3) := by decide +kernel
theorem dX8_partyOf_27 : decode cX8_partyOf 27 = .ok (.goto 4, 3) := by decide +kernel
theorem dX8_partyOf_30 : decode cX8_partyOf 30 = .ok (.iconst 0, 1) := by decide +kernel
theorem dX8_partyOf_31 : decode cX8_partyOf 31 = .ok (.ireturn, 1) := by decide +kernel
theorem dX8_partyOf_32 : decode cX8_partyOf 32 = .ok (.aload_n 0, 1) := by decide +kernel
theorem dX8_partyOf_33 : decode cX8_partyOf 33 = .ok (.getfield 10, 3) := by decide +kernel
theorem dX8_partyOf_36 : decode cX8_partyOf 36 = .ok (.iload_n 2, 1) := by decide +kernel
theorem dX8_partyOf_37 : decode cX8_partyOf 37 = .ok (.invokevirtual 89, 3) := by decide +kernel
theorem dX8_partyOf_40 : decode cX8_partyOf 40 = .ok (.ifnull 8, 3) := by decide +kernel
theorem dX8_partyOf_43 : decode cX8_partyOf 43 = .ok (.iload_n 2, 1) := by decide +kernel
theorem dX8_partyOf_44 : decode cX8_partyOf 44 = .ok (.iload_n 1, 1) := by decide +kernel
theorem dX8_partyOf_45 : decode cX8_partyOf 45 = .ok (.if_icmp .ne 5, 3) := by decide +kernel
theorem dX8_partyOf_48 : decode cX8_partyOf 48 = .ok (.iconst 0, 1) := by decide +kernel
theorem dX8_partyOf_49 : decode cX8_partyOf 49 = .ok (.ireturn, 1) := by decide +kernel
theorem dX8_partyOf_50 : decode cX8_partyOf 50 = .ok (.iload_n 3, 1) := by decide +kernel
theorem dX8_partyOf_51 : decode cX8_partyOf 51 = .ok (.iconst (-1), 1) := by decide +kernel
theorem dX8_partyOf_52 : decode cX8_partyOf 52 = .ok (.if_icmp .ne 13, 3) := by decide +kernel
theorem dX8_partyOf_55 : decode cX8_partyOf 55 = .ok (.iload_n 1, 1) := by decide +kernel
theorem dX8_partyOf_56 : decode cX8_partyOf 56 = .ok (.invokestatic 108, 3) := by decide +kernel
theorem dX8_partyOf_59 : decode cX8_partyOf 59 = .ok (.iload_n 2, 1) := by decide +kernel
theorem dX8_partyOf_60 : decode cX8_partyOf 60 = .ok (.invokestatic 108, 3) := by decide +kernel
theorem dX8_partyOf_63 : decode cX8_partyOf 63 = .ok (.ior, 1) := by decide +kernel
theorem dX8_partyOf_64 : decode cX8_partyOf 64 = .ok (.ireturn, 1) := by decide +kernel
theorem dX8_partyOf_65 : decode cX8_partyOf 65 = .ok (.aload_n 0, 1) := by decide +kernel
theorem dX8_partyOf_66 : decode cX8_partyOf 66 = .ok (.getfield 10, 3) := by decide +kernel
theorem dX8_partyOf_69 : decode cX8_partyOf 69 = .ok (.iload_n 3, 1) := by decide +kernel
theorem dX8_partyOf_70 : decode cX8_partyOf 70 = .ok (.invokevirtual 89, 3) := by decide +kernel
theorem dX8_partyOf_73 : decode cX8_partyOf 73 = .ok (.ifnull 13, 3) := by decide +kernel
theorem dX8_partyOf_76 : decode cX8_partyOf 76 = .ok (.iload_n 3, 1) := by decide +kernel
theorem dX8_partyOf_77 : decode cX8_partyOf 77 = .ok (.iload_n 1, 1) := by decide +kernel
theorem dX8_partyOf_78 : decode cX8_partyOf 78 = .ok (.if_icmp .eq 8, 3) := by decide +kernel
theorem dX8_partyOf_81 : decode cX8_partyOf 81 = .ok (.iload_n 3, 1) := by decide +kernel
theorem dX8_partyOf_82 : decode cX8_partyOf 82 = .ok (.iload_n 2, 1) := by decide +kernel
theorem dX8_partyOf_83 : decode cX8_partyOf 83 = .ok (.if_icmp .ne 5, 3) := by decide +kernel
theorem dX8_partyOf_86 : decode cX8_partyOf 86 = .ok (.iconst 0, 1) := by decide +kernel
theorem dX8_partyOf_87 : decode cX8_partyOf 87 = .ok (.ireturn, 1) := by decide +kernel
theorem dX8_partyOf_88 : decode cX8_partyOf 88 = .ok (.iload_n 1, 1) := by decide +kernel
theorem dX8_partyOf_89 : decode cX8_partyOf 89 = .ok (.invokestatic 108, 3) := by decide +kernel
theorem dX8_partyOf_92 : decode cX8_partyOf 92 = .ok (.iload_n 2, 1) := by decide +kernel
theorem dX8_partyOf_93 : decode cX8_partyOf 93 = .ok (.invokestatic 108, 3) := by decide +kernel
theorem dX8_partyOf_96 : decode cX8_partyOf 96 = .ok (.ior, 1) := by decide +kernel
theorem dX8_partyOf_97 : decode cX8_partyOf 97 = .ok (.iload_n 3, 1) := by decide +kernel
theorem dX8_partyOf_98 : decode cX8_partyOf 98 = .ok (.invokestatic 108, 3) := by decide +kernel
theorem dX8_partyOf_101 : decode cX8_partyOf 101 = .ok (.ior, 1) := by decide +kernel
theorem dX8_partyOf_102 : decode cX8_partyOf 102 = .ok (.ireturn, 1) := by decide +kernel
set_option maxRecDepth 20000 in
theorem ggX8_hasPairing_X3_seek : GoodIn wsX8_hasPairing wsX3_seek := goodIn_r _ [9, 10, 11, 12, 13, 14, 15, 16, 17, 18, 19, 20, 8, 21, 22, 23, 24, 25, 26, 58, 59, 60, 61, 62, 63] (by decide +kernel) (by decide +kernel)
set_option maxRecDepth 20000 in
theorem gX8_hasPairing_X3_seek : GoodIn wsX8_hasPairing (wsV RX8 280 RX3 yX3_seek wsX3_seek) := goodIn_app (goodIn_of _ (by decide +kernel)) ggX8_hasPairing_X3_seek
set_option maxRecDepth 20000 in
theorem ggX8_hasPairing_X7_sinceAt : GoodIn wsX8_hasPairing wsX7_sinceAt := goodIn_r _ [31, 32, 33, 64, 65, 66] (by decide +kernel) (by decide +kernel)
set_option maxRecDepth 20000 in
theorem gX8_hasPairing_X7_sinceAt : GoodIn wsX8_hasPairing (wsV RX8 164 RX7 yX7_sinceAt wsX7_sinceAt) := goodIn_app (goodIn_of _ (by decide +kernel)) ggX8_hasPairing_X7_sinceAt
set_option maxRecDepth 20000 in
theorem ggX8_hasPairing_X0_behind : GoodIn wsX8_hasPairing wsX0_behind := goodIn_r _ [38, 39, 40, 41, 42, 43, 25, 44, 67, 68, 69] (by decide +kernel) (by decide +kernel)
set_option maxRecDepth 20000 in
theorem gX8_hasPairing_X0_behind : GoodIn wsX8_hasPairing (wsV RX8 167 RX0 yX0_behind wsX0_behind) := goodIn_app (goodIn_of _ (by decide +kernel)) ggX8_hasPairing_X0_behind
theorem dX8_hasPairing_0 : decode cX8_hasPairing 0 = .ok (.aload_n 0, 1) := by decide +kernel
theorem dX8_hasPairing_1 : decode cX8_hasPairing 1 = .ok (.getfield 29, 3) := by decide +kernel
theorem dX8_hasPairing_4 : decode cX8_hasPairing 4 = .ok (.iload_n 2, 1) := by decide +kernel
theorem dX8_hasPairing_5 : decode cX8_hasPairing 5 = .ok (.invokevirtual 280, 3) := by decide +kernel
theorem dX8_hasPairing_8 : decode cX8_hasPairing 8 = .ok (.ifCond .eq 35, 3) := by decide +kernel
theorem dX8_hasPairing_11 : decode cX8_hasPairing 11 = .ok (.aload_n 0, 1) := by decide +kernel
theorem dX8_hasPairing_12 : decode cX8_hasPairing 12 = .ok (.getfield 29, 3) := by decide +kernel
theorem dX8_hasPairing_15 : decode cX8_hasPairing 15 = .ok (.getfield 179, 3) := by decide +kernel
theorem dX8_hasPairing_18 : decode cX8_hasPairing 18 = .ok (.aload_n 0, 1) := by decide +kernel
theorem dX8_hasPairing_19 : decode cX8_hasPairing 19 = .ok (.getfield 50, 3) := by decide +kernel
theorem dX8_hasPairing_22 : decode cX8_hasPairing 22 = .ok (.aload_n 0, 1) := by decide +kernel
theorem dX8_hasPairing_23 : decode cX8_hasPairing 23 = .ok (.getfield 74, 3) := by decide +kernel
theorem dX8_hasPairing_26 : decode cX8_hasPairing 26 = .ok (.aload_n 1, 1) := by decide +kernel
theorem dX8_hasPairing_27 : decode cX8_hasPairing 27 = .ok (.iload_n 2, 1) := by decide +kernel
theorem dX8_hasPairing_28 : decode cX8_hasPairing 28 = .ok (.invokevirtual 164, 3) := by decide +kernel
theorem dX8_hasPairing_31 : decode cX8_hasPairing 31 = .ok (.lsub, 1) := by decide +kernel
theorem dX8_hasPairing_32 : decode cX8_hasPairing 32 = .ok (.invokevirtual 167, 3) := by decide +kernel
theorem dX8_hasPairing_35 : decode cX8_hasPairing 35 = .ok (.lcmp, 1) := by decide +kernel
theorem dX8_hasPairing_36 : decode cX8_hasPairing 36 = .ok (.ifCond .gt 7, 3) := by decide +kernel
theorem dX8_hasPairing_39 : decode cX8_hasPairing 39 = .ok (.iconst 1, 1) := by decide +kernel
theorem dX8_hasPairing_40 : decode cX8_hasPairing 40 = .ok (.goto 4, 3) := by decide +kernel
theorem dX8_hasPairing_43 : decode cX8_hasPairing 43 = .ok (.iconst 0, 1) := by decide +kernel
theorem dX8_hasPairing_44 : decode cX8_hasPairing 44 = .ok (.ireturn, 1) := by decide +kernel
set_option maxRecDepth 20000 in
theorem ggX8_anyPairing_X3_gather : GoodIn wsX8_anyPairing wsX3_gather := goodIn_r _ [9, 10, 11, 12, 13, 14, 15, 16, 17, 18, 19, 20, 21, 22, 23, 24, 25, 26, 27, 28, 29, 30, 31, 32, 33, 34, 35, 36, 37, 38, 39, 40, 41, 42, 43, 44, 45, 46, 47, 48, 49, 50, 51, 52, 53, 54, 55, 56, 8, 57, 58, 59, 113, 114, 115, 116, 117, 118, 110, 111, 112, 119, 120, 121, 122, 123, 124, 125, 126] (by decide +kernel) (by decide +kernel)
set_option maxRecDepth 20000 in
theorem gX8_anyPairing_X3_gather : GoodIn wsX8_anyPairing (wsV RX8 171 RX3 yX3_gather wsX3_gather) := goodIn_app (goodIn_of _ (by decide +kernel)) ggX8_anyPairing_X3_gather
set_option maxRecDepth 20000 in
theorem ggX8_anyPairing_X8_hasPairing : GoodIn wsX8_anyPairing wsX8_hasPairing := goodIn_r _ [63, 1, 64, 65, 66, 67, 68, 69, 8, 70, 71, 72, 73, 10, 58, 29, 30, 31, 74, 75, 76, 77, 59, 78, 79, 14, 80, 81, 82, 83, 26, 84, 36, 85, 86, 87, 88, 89, 90, 91, 92, 93, 94, 95, 96, 97, 98, 99, 100, 101, 102, 103, 104, 105, 106, 107, 108, 109, 113, 114, 115, 116, 117, 118, 110, 111, 112, 127, 128, 129] (by decide +kernel) (by decide +kernel)
set_option maxRecDepth 20000 in
theorem gX8_anyPairing_X8_hasPairing : GoodIn wsX8_anyPairing (wsV RX8 175 RX8 yX8_hasPairing wsX8_hasPairing) := goodIn_app (goodIn_of _ (by decide +kernel)) ggX8_anyPairing_X8_hasPairing
theorem dX8_anyPairing_0 : decode cX8_anyPairing 0 = .ok (.aload_n 0, 1) := by decide +kernel
theorem dX8_anyPairing_1 : decode cX8_anyPairing 1 = .ok (.getfield 29, 3) := by decide +kernel
theorem dX8_anyPairing_4 : decode cX8_anyPairing 4 = .ok (.aload_n 1, 1) := by decide +kernel
theorem dX8_anyPairing_5 : decode cX8_anyPairing 5 = .ok (.aload_n 0, 1) := by decide +kernel
theorem dX8_anyPairing_6 : decode cX8_anyPairing 6 = .ok (.getfield 10, 3) := by decide +kernel
theorem dX8_anyPairing_9 : decode cX8_anyPairing 9 = .ok (.aload_n 0, 1) := by decide +kernel
theorem dX8_anyPairing_10 : decode cX8_anyPairing 10 = .ok (.getfield 65, 3) := by decide +kernel
theorem dX8_anyPairing_13 : decode cX8_anyPairing 13 = .ok (.invokevirtual 171, 3) := by decide +kernel
theorem dX8_anyPairing_16 : decode cX8_anyPairing 16 = .ok (.iconst 0, 1) := by decide +kernel
theorem dX8_anyPairing_17 : decode cX8_anyPairing 17 = .ok (.istore_n 2, 1) := by decide +kernel
theorem dX8_anyPairing_18 : decode cX8_anyPairing 18 = .ok (.iload_n 2, 1) := by decide +kernel
theorem dX8_anyPairing_19 : decode cX8_anyPairing 19 = .ok (.aload_n 1, 1) := by decide +kernel
theorem dX8_anyPairing_20 : decode cX8_anyPairing 20 = .ok (.getfield 125, 3) := by decide +kernel
theorem dX8_anyPairing_23 : decode cX8_anyPairing 23 = .ok (.if_icmp .ge 20, 3) := by decide +kernel
theorem dX8_anyPairing_26 : decode cX8_anyPairing 26 = .ok (.aload_n 0, 1) := by decide +kernel
theorem dX8_anyPairing_27 : decode cX8_anyPairing 27 = .ok (.aload_n 1, 1) := by decide +kernel
theorem dX8_anyPairing_28 : decode cX8_anyPairing 28 = .ok (.iload_n 2, 1) := by decide +kernel
theorem dX8_anyPairing_29 : decode cX8_anyPairing 29 = .ok (.invokevirtual 175, 3) := by decide +kernel
theorem dX8_anyPairing_32 : decode cX8_anyPairing 32 = .ok (.ifCond .eq 5, 3) := by decide +kernel
theorem dX8_anyPairing_35 : decode cX8_anyPairing 35 = .ok (.iconst 1, 1) := by decide +kernel
theorem dX8_anyPairing_36 : decode cX8_anyPairing 36 = .ok (.ireturn, 1) := by decide +kernel
theorem dX8_anyPairing_37 : decode cX8_anyPairing 37 = .ok (.iinc 2 1, 3) := by decide +kernel
theorem dX8_anyPairing_40 : decode cX8_anyPairing 40 = .ok (.goto (-22), 3) := by decide +kernel
theorem dX8_anyPairing_43 : decode cX8_anyPairing 43 = .ok (.iconst 0, 1) := by decide +kernel
theorem dX8_anyPairing_44 : decode cX8_anyPairing 44 = .ok (.ireturn, 1) := by decide +kernel
set_option maxRecDepth 20000 in
theorem ggX8_planTick_X2_going : GoodIn wsX8_planTick wsX2_going := goodIn_r _ [11, 12, 13, 14, 15, 16, 17, 18, 153, 154, 155, 156, 157, 158] (by decide +kernel) (by decide +kernel)
set_option maxRecDepth 20000 in
theorem gX8_planTick_X2_going : GoodIn wsX8_planTick (wsV RX8 115 RX2 yX2_going wsX2_going) := goodIn_app (goodIn_of _ (by decide +kernel)) ggX8_planTick_X2_going
set_option maxRecDepth 20000 in
theorem ggX8_planTick_X8_anyPairing : GoodIn wsX8_planTick wsX8_anyPairing := goodIn_r _ [23, 4, 24, 25, 26, 27, 28, 29, 30, 31, 32, 33, 34, 35, 36, 37, 38, 39, 40, 41, 42, 43, 44, 45, 46, 47, 48, 49, 50, 51, 22, 52, 53, 54, 55, 56, 57, 58, 59, 60, 61, 62, 63, 64, 65, 66, 67, 68, 69, 70, 71, 72, 73, 74, 75, 76, 77, 78, 79, 80, 81, 82, 83, 84, 85, 86, 87, 88, 89, 90, 91, 92, 93, 94, 95, 96, 97, 98, 99, 100, 101, 102, 103, 104, 105, 106, 107, 108, 109, 110, 111, 112, 113, 114, 115, 116, 117, 131, 132, 133, 134, 135, 136, 137, 138, 139, 140, 141, 142, 143, 159, 160, 161, 147, 148, 149, 150, 151, 152, 162, 163, 164, 165, 166, 167, 168, 169, 170, 171, 172] (by decide +kernel) (by decide +kernel)
set_option maxRecDepth 20000 in
theorem gX8_planTick_X8_anyPairing : GoodIn wsX8_planTick (wsV RX8 283 RX8 yX8_anyPairing wsX8_anyPairing) := goodIn_app (goodIn_of _ (by decide +kernel)) ggX8_planTick_X8_anyPairing
set_option maxRecDepth 20000 in
theorem ggX8_planTick_X7_playersAt : GoodIn wsX8_planTick wsX7_playersAt := goodIn_r _ [49, 50, 51, 22, 52, 53, 54, 55, 48, 56, 57, 159, 160, 161] (by decide +kernel) (by decide +kernel)
set_option maxRecDepth 20000 in
theorem gX8_planTick_X7_playersAt : GoodIn wsX8_planTick (wsV RX8 188 RX7 yX7_playersAt wsX7_playersAt) := goodIn_app (goodIn_of _ (by decide +kernel)) ggX8_planTick_X7_playersAt
set_option maxRecDepth 20000 in
theorem ggX8_planTick_X4_add : GoodIn wsX8_planTick wsX4_add := goodIn_r _ [123, 124, 125, 126, 144, 145, 146] (by decide +kernel) (by decide +kernel)
set_option maxRecDepth 20000 in
theorem gX8_planTick_X4_add : GoodIn wsX8_planTick (wsV RX8 287 RX4 yX4_add wsX4_add) := goodIn_app (goodIn_of _ (by decide +kernel)) ggX8_planTick_X4_add
set_option maxRecDepth 20000 in
theorem ggX8_planTick_X7_release : GoodIn wsX8_planTick wsX7_release := goodIn_r _ [130, 57, 50, 106, 51, 22, 52, 159, 160, 161] (by decide +kernel) (by decide +kernel)
set_option maxRecDepth 20000 in
theorem gX8_planTick_X7_release : GoodIn wsX8_planTick (wsV RX8 160 RX7 yX7_release wsX7_release) := goodIn_app (goodIn_of _ (by decide +kernel)) ggX8_planTick_X7_release
theorem dX8_planTick_0 : decode cX8_planTick 0 = .ok (.aload_n 0, 1) := by decide +kernel
theorem dX8_planTick_1 : decode cX8_planTick 1 = .ok (.getfield 36, 3) := by decide +kernel
theorem dX8_planTick_4 : decode cX8_planTick 4 = .ok (.iconst 0, 1) := by decide +kernel
theorem dX8_planTick_5 : decode cX8_planTick 5 = .ok (.putfield 195, 3) := by decide +kernel
theorem dX8_planTick_8 : decode cX8_planTick 8 = .ok (.iconst 5, 1) := by decide +kernel
theorem dX8_planTick_9 : decode cX8_planTick 9 = .ok (.aload_n 0, 1) := by decide +kernel
theorem dX8_planTick_10 : decode cX8_planTick 10 = .ok (.getfield 43, 3) := by decide +kernel
theorem dX8_planTick_13 : decode cX8_planTick 13 = .ok (.invokevirtual 115, 3) := by decide +kernel
theorem dX8_planTick_16 : decode cX8_planTick 16 = .ok (.isub, 1) := by decide +kernel
theorem dX8_planTick_17 : decode cX8_planTick 17 = .ok (.istore_n 2, 1) := by decide +kernel
theorem dX8_planTick_18 : decode cX8_planTick 18 = .ok (.iconst 0, 1) := by decide +kernel
theorem dX8_planTick_19 : decode cX8_planTick 19 = .ok (.istore_n 3, 1) := by decide +kernel
theorem dX8_planTick_20 : decode cX8_planTick 20 = .ok (.iload_n 3, 1) := by decide +kernel
theorem dX8_planTick_21 : decode cX8_planTick 21 = .ok (.iload_n 2, 1) := by decide +kernel
theorem dX8_planTick_22 : decode cX8_planTick 22 = .ok (.if_icmp .ge 66, 3) := by decide +kernel
theorem dX8_planTick_25 : decode cX8_planTick 25 = .ok (.aload_n 0, 1) := by decide +kernel
theorem dX8_planTick_26 : decode cX8_planTick 26 = .ok (.aload_n 1, 1) := by decide +kernel
theorem dX8_planTick_27 : decode cX8_planTick 27 = .ok (.invokevirtual 283, 3) := by decide +kernel
theorem dX8_planTick_30 : decode cX8_planTick 30 = .ok (.ifCond .ne 4, 3) := by decide +kernel
theorem dX8_planTick_33 : decode cX8_planTick 33 = .ok (.return_, 1) := by decide +kernel
theorem dX8_planTick_34 : decode cX8_planTick 34 = .ok (.aload_n 0, 1) := by decide +kernel
theorem dX8_planTick_35 : decode cX8_planTick 35 = .ok (.getfield 36, 3) := by decide +kernel
theorem dX8_planTick_38 : decode cX8_planTick 38 = .ok (.aload_n 1, 1) := by decide +kernel
theorem dX8_planTick_39 : decode cX8_planTick 39 = .ok (.aload_n 0, 1) := by decide +kernel
theorem dX8_planTick_40 : decode cX8_planTick 40 = .ok (.getfield 29, 3) := by decide +kernel
theorem dX8_planTick_43 : decode cX8_planTick 43 = .ok (.getfield 182, 3) := by decide +kernel
theorem dX8_planTick_46 : decode cX8_planTick 46 = .ok (.invokevirtual 188, 3) := by decide +kernel
theorem dX8_planTick_49 : decode cX8_planTick 49 = .ok (.aload_n 1, 1) := by decide +kernel
theorem dX8_planTick_50 : decode cX8_planTick 50 = .ok (.aload_n 0, 1) := by decide +kernel
theorem dX8_planTick_51 : decode cX8_planTick 51 = .ok (.getfield 29, 3) := by decide +kernel
theorem dX8_planTick_54 : decode cX8_planTick 54 = .ok (.getfield 185, 3) := by decide +kernel
theorem dX8_planTick_57 : decode cX8_planTick 57 = .ok (.invokevirtual 188, 3) := by decide +kernel
theorem dX8_planTick_60 : decode cX8_planTick 60 = .ok (.invokevirtual 287, 3) := by decide +kernel
theorem dX8_planTick_63 : decode cX8_planTick 63 = .ok (.aload_n 1, 1) := by decide +kernel
theorem dX8_planTick_64 : decode cX8_planTick 64 = .ok (.aload_n 0, 1) := by decide +kernel
theorem dX8_planTick_65 : decode cX8_planTick 65 = .ok (.getfield 29, 3) := by decide +kernel
theorem dX8_planTick_68 : decode cX8_planTick 68 = .ok (.getfield 182, 3) := by decide +kernel
theorem dX8_planTick_71 : decode cX8_planTick 71 = .ok (.aload_n 0, 1) := by decide +kernel
theorem dX8_planTick_72 : decode cX8_planTick 72 = .ok (.getfield 29, 3) := by decide +kernel
theorem dX8_planTick_75 : decode cX8_planTick 75 = .ok (.getfield 185, 3) := by decide +kernel
theorem dX8_planTick_78 : decode cX8_planTick 78 = .ok (.ior, 1) := by decide +kernel
theorem dX8_planTick_79 : decode cX8_planTick 79 = .ok (.invokevirtual 160, 3) := by decide +kernel
theorem dX8_planTick_82 : decode cX8_planTick 82 = .ok (.iinc 3 1, 3) := by decide +kernel
theorem dX8_planTick_85 : decode cX8_planTick 85 = .ok (.goto (-65), 3) := by decide +kernel
theorem dX8_planTick_88 : decode cX8_planTick 88 = .ok (.return_, 1) := by decide +kernel
set_option maxRecDepth 20000 in
theorem ggX8_isTold_X4_firstAt : GoodIn wsX8_isTold wsX4_firstAt := goodIn_r _ [7, 8, 27, 28, 29] (by decide +kernel) (by decide +kernel)
set_option maxRecDepth 20000 in
theorem gX8_isTold_X4_firstAt : GoodIn wsX8_isTold (wsV RX8 198 RX4 yX4_firstAt wsX4_firstAt) := goodIn_app (goodIn_of _ (by decide +kernel)) ggX8_isTold_X4_firstAt
set_option maxRecDepth 20000 in
theorem ggX8_isTold_X4_secondAt : GoodIn wsX8_isTold wsX4_secondAt := goodIn_r _ [12, 13, 27, 28, 29] (by decide +kernel) (by decide +kernel)
set_option maxRecDepth 20000 in
theorem gX8_isTold_X4_secondAt : GoodIn wsX8_isTold (wsV RX8 201 RX4 yX4_secondAt wsX4_secondAt) := goodIn_app (goodIn_of _ (by decide +kernel)) ggX8_isTold_X4_secondAt
theorem dX8_isTold_0 : decode cX8_isTold 0 = .ok (.iconst 2, 1) := by decide +kernel
theorem dX8_isTold_1 : decode cX8_isTold 1 = .ok (.iload_n 1, 1) := by decide +kernel
theorem dX8_isTold_2 : decode cX8_isTold 2 = .ok (.imul, 1) := by decide +kernel
theorem dX8_isTold_3 : decode cX8_isTold 3 = .ok (.istore_n 3, 1) := by decide +kernel
theorem dX8_isTold_4 : decode cX8_isTold 4 = .ok (.iload_n 3, 1) := by decide +kernel
theorem dX8_isTold_5 : decode cX8_isTold 5 = .ok (.ifCond .lt 21, 3) := by decide +kernel
theorem dX8_isTold_8 : decode cX8_isTold 8 = .ok (.iload_n 3, 1) := by decide +kernel
theorem dX8_isTold_9 : decode cX8_isTold 9 = .ok (.iconst 1, 1) := by decide +kernel
theorem dX8_isTold_10 : decode cX8_isTold 10 = .ok (.iadd, 1) := by decide +kernel
theorem dX8_isTold_11 : decode cX8_isTold 11 = .ok (.iload_n 2, 1) := by decide +kernel
theorem dX8_isTold_12 : decode cX8_isTold 12 = .ok (.if_icmp .ge 14, 3) := by decide +kernel
theorem dX8_isTold_15 : decode cX8_isTold 15 = .ok (.iload_n 3, 1) := by decide +kernel
theorem dX8_isTold_16 : decode cX8_isTold 16 = .ok (.iconst 1, 1) := by decide +kernel
theorem dX8_isTold_17 : decode cX8_isTold 17 = .ok (.iadd, 1) := by decide +kernel
theorem dX8_isTold_18 : decode cX8_isTold 18 = .ok (.aload_n 0, 1) := by decide +kernel
theorem dX8_isTold_19 : decode cX8_isTold 19 = .ok (.getfield 54, 3) := by decide +kernel
theorem dX8_isTold_22 : decode cX8_isTold 22 = .ok (.arraylength, 1) := by decide +kernel
theorem dX8_isTold_23 : decode cX8_isTold 23 = .ok (.if_icmp .lt 5, 3) := by decide +kernel
theorem dX8_isTold_26 : decode cX8_isTold 26 = .ok (.iconst 0, 1) := by decide +kernel
theorem dX8_isTold_27 : decode cX8_isTold 27 = .ok (.ireturn, 1) := by decide +kernel
theorem dX8_isTold_28 : decode cX8_isTold 28 = .ok (.aload_n 0, 1) := by decide +kernel
theorem dX8_isTold_29 : decode cX8_isTold 29 = .ok (.getfield 54, 3) := by decide +kernel
theorem dX8_isTold_32 : decode cX8_isTold 32 = .ok (.iload_n 3, 1) := by decide +kernel
theorem dX8_isTold_33 : decode cX8_isTold 33 = .ok (.laload, 1) := by decide +kernel
theorem dX8_isTold_34 : decode cX8_isTold 34 = .ok (.aload_n 0, 1) := by decide +kernel
theorem dX8_isTold_35 : decode cX8_isTold 35 = .ok (.getfield 36, 3) := by decide +kernel
theorem dX8_isTold_38 : decode cX8_isTold 38 = .ok (.iload_n 1, 1) := by decide +kernel
theorem dX8_isTold_39 : decode cX8_isTold 39 = .ok (.invokevirtual 198, 3) := by decide +kernel
theorem dX8_isTold_42 : decode cX8_isTold 42 = .ok (.i2l, 1) := by decide +kernel
theorem dX8_isTold_43 : decode cX8_isTold 43 = .ok (.lcmp, 1) := by decide +kernel
theorem dX8_isTold_44 : decode cX8_isTold 44 = .ok (.ifCond .ne 28, 3) := by decide +kernel
theorem dX8_isTold_47 : decode cX8_isTold 47 = .ok (.aload_n 0, 1) := by decide +kernel
theorem dX8_isTold_48 : decode cX8_isTold 48 = .ok (.getfield 54, 3) := by decide +kernel
theorem dX8_isTold_51 : decode cX8_isTold 51 = .ok (.iload_n 3, 1) := by decide +kernel
theorem dX8_isTold_52 : decode cX8_isTold 52 = .ok (.iconst 1, 1) := by decide +kernel
theorem dX8_isTold_53 : decode cX8_isTold 53 = .ok (.iadd, 1) := by decide +kernel
theorem dX8_isTold_54 : decode cX8_isTold 54 = .ok (.laload, 1) := by decide +kernel
theorem dX8_isTold_55 : decode cX8_isTold 55 = .ok (.aload_n 0, 1) := by decide +kernel
theorem dX8_isTold_56 : decode cX8_isTold 56 = .ok (.getfield 36, 3) := by decide +kernel
theorem dX8_isTold_59 : decode cX8_isTold 59 = .ok (.iload_n 1, 1) := by decide +kernel
theorem dX8_isTold_60 : decode cX8_isTold 60 = .ok (.invokevirtual 201, 3) := by decide +kernel
theorem dX8_isTold_63 : decode cX8_isTold 63 = .ok (.i2l, 1) := by decide +kernel
theorem dX8_isTold_64 : decode cX8_isTold 64 = .ok (.lcmp, 1) := by decide +kernel
theorem dX8_isTold_65 : decode cX8_isTold 65 = .ok (.ifCond .ne 7, 3) := by decide +kernel
theorem dX8_isTold_68 : decode cX8_isTold 68 = .ok (.iconst 1, 1) := by decide +kernel
theorem dX8_isTold_69 : decode cX8_isTold 69 = .ok (.goto 4, 3) := by decide +kernel
theorem dX8_isTold_72 : decode cX8_isTold 72 = .ok (.iconst 0, 1) := by decide +kernel
theorem dX8_isTold_73 : decode cX8_isTold 73 = .ok (.ireturn, 1) := by decide +kernel
