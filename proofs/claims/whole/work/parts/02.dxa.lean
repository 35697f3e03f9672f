theorem dX0_init_0 : decode cX0_init 0 = .ok (.aload_n 0, 1) := by decide +kernel
theorem dX0_init_1 : decode cX0_init 1 = .ok (.invokespecial 1, 3) := by decide +kernel
theorem dX0_init_4 : decode cX0_init 4 = .ok (.aload_n 0, 1) := by decide +kernel
theorem dX0_init_5 : decode cX0_init 5 = .ok (.ldc2_w 7, 3) := by decide +kernel
theorem dX0_init_8 : decode cX0_init 8 = .ok (.putfield 9, 3) := by decide +kernel
theorem dX0_init_11 : decode cX0_init 11 = .ok (.aload_n 0, 1) := by decide +kernel
theorem dX0_init_12 : decode cX0_init 12 = .ok (.ldc2_w 15, 3) := by decide +kernel
theorem dX0_init_15 : decode cX0_init 15 = .ok (.putfield 17, 3) := by decide +kernel
theorem dX0_init_18 : decode cX0_init 18 = .ok (.aload_n 0, 1) := by decide +kernel
theorem dX0_init_19 : decode cX0_init 19 = .ok (.ldc2_w 20, 3) := by decide +kernel
theorem dX0_init_22 : decode cX0_init 22 = .ok (.putfield 22, 3) := by decide +kernel
theorem dX0_init_25 : decode cX0_init 25 = .ok (.return_, 1) := by decide +kernel
theorem dX0_behind_0 : decode cX0_behind 0 = .ok (.aload_n 0, 1) := by decide +kernel
theorem dX0_behind_1 : decode cX0_behind 1 = .ok (.getfield 9, 3) := by decide +kernel
theorem dX0_behind_4 : decode cX0_behind 4 = .ok (.aload_n 0, 1) := by decide +kernel
theorem dX0_behind_5 : decode cX0_behind 5 = .ok (.getfield 17, 3) := by decide +kernel
theorem dX0_behind_8 : decode cX0_behind 8 = .ok (.lload_n 1, 1) := by decide +kernel
theorem dX0_behind_9 : decode cX0_behind 9 = .ok (.lmul, 1) := by decide +kernel
theorem dX0_behind_10 : decode cX0_behind 10 = .ok (.ladd, 1) := by decide +kernel
theorem dX0_behind_11 : decode cX0_behind 11 = .ok (.aload_n 0, 1) := by decide +kernel
theorem dX0_behind_12 : decode cX0_behind 12 = .ok (.getfield 22, 3) := by decide +kernel
theorem dX0_behind_15 : decode cX0_behind 15 = .ok (.invokestatic 25, 3) := by decide +kernel
theorem dX0_behind_18 : decode cX0_behind 18 = .ok (.lreturn, 1) := by decide +kernel
theorem dX1_init_0 : decode cX1_init 0 = .ok (.aload_n 0, 1) := by decide +kernel
theorem dX1_init_1 : decode cX1_init 1 = .ok (.invokespecial 3, 3) := by decide +kernel
theorem dX1_init_4 : decode cX1_init 4 = .ok (.aload_n 0, 1) := by decide +kernel
theorem dX1_init_5 : decode cX1_init 5 = .ok (.iconst 0, 1) := by decide +kernel
theorem dX1_init_6 : decode cX1_init 6 = .ok (.putfield 9, 3) := by decide +kernel
theorem dX1_init_9 : decode cX1_init 9 = .ok (.aload_n 0, 1) := by decide +kernel
theorem dX1_init_10 : decode cX1_init 10 = .ok (.iconst 0, 1) := by decide +kernel
theorem dX1_init_11 : decode cX1_init 11 = .ok (.putfield 15, 3) := by decide +kernel
theorem dX1_init_14 : decode cX1_init 14 = .ok (.aload_n 0, 1) := by decide +kernel
theorem dX1_init_15 : decode cX1_init 15 = .ok (.iconst 0, 1) := by decide +kernel
theorem dX1_init_16 : decode cX1_init 16 = .ok (.putfield 18, 3) := by decide +kernel
theorem dX1_init_19 : decode cX1_init 19 = .ok (.aload_n 0, 1) := by decide +kernel
theorem dX1_init_20 : decode cX1_init 20 = .ok (.lconst 0, 1) := by decide +kernel
theorem dX1_init_21 : decode cX1_init 21 = .ok (.putfield 21, 3) := by decide +kernel
theorem dX1_init_24 : decode cX1_init 24 = .ok (.return_, 1) := by decide +kernel
theorem dX1_clear_0 : decode cX1_clear 0 = .ok (.aload_n 0, 1) := by decide +kernel
theorem dX1_clear_1 : decode cX1_clear 1 = .ok (.iconst 0, 1) := by decide +kernel
theorem dX1_clear_2 : decode cX1_clear 2 = .ok (.putfield 9, 3) := by decide +kernel
theorem dX1_clear_5 : decode cX1_clear 5 = .ok (.aload_n 0, 1) := by decide +kernel
theorem dX1_clear_6 : decode cX1_clear 6 = .ok (.iconst 0, 1) := by decide +kernel
theorem dX1_clear_7 : decode cX1_clear 7 = .ok (.putfield 15, 3) := by decide +kernel
theorem dX1_clear_10 : decode cX1_clear 10 = .ok (.aload_n 0, 1) := by decide +kernel
theorem dX1_clear_11 : decode cX1_clear 11 = .ok (.iconst 0, 1) := by decide +kernel
theorem dX1_clear_12 : decode cX1_clear 12 = .ok (.putfield 18, 3) := by decide +kernel
theorem dX1_clear_15 : decode cX1_clear 15 = .ok (.aload_n 0, 1) := by decide +kernel
theorem dX1_clear_16 : decode cX1_clear 16 = .ok (.lconst 0, 1) := by decide +kernel
theorem dX1_clear_17 : decode cX1_clear 17 = .ok (.putfield 21, 3) := by decide +kernel
theorem dX1_clear_20 : decode cX1_clear 20 = .ok (.return_, 1) := by decide +kernel
theorem dX1_goesOn_0 : decode cX1_goesOn 0 = .ok (.aload_n 0, 1) := by decide +kernel
theorem dX1_goesOn_1 : decode cX1_goesOn 1 = .ok (.getfield 9, 3) := by decide +kernel
theorem dX1_goesOn_4 : decode cX1_goesOn 4 = .ok (.ifCond .eq 7, 3) := by decide +kernel
theorem dX1_goesOn_7 : decode cX1_goesOn 7 = .ok (.iconst 1, 1) := by decide +kernel
theorem dX1_goesOn_8 : decode cX1_goesOn 8 = .ok (.goto 4, 3) := by decide +kernel
theorem dX1_goesOn_11 : decode cX1_goesOn 11 = .ok (.iconst 0, 1) := by decide +kernel
theorem dX1_goesOn_12 : decode cX1_goesOn 12 = .ok (.ireturn, 1) := by decide +kernel
theorem dX1_playing_0 : decode cX1_playing 0 = .ok (.aload_n 0, 1) := by decide +kernel
theorem dX1_playing_1 : decode cX1_playing 1 = .ok (.getfield 9, 3) := by decide +kernel
theorem dX1_playing_4 : decode cX1_playing 4 = .ok (.aload_n 0, 1) := by decide +kernel
theorem dX1_playing_5 : decode cX1_playing 5 = .ok (.getfield 15, 3) := by decide +kernel
theorem dX1_playing_8 : decode cX1_playing 8 = .ok (.ior, 1) := by decide +kernel
theorem dX1_playing_9 : decode cX1_playing 9 = .ok (.aload_n 0, 1) := by decide +kernel
theorem dX1_playing_10 : decode cX1_playing 10 = .ok (.getfield 18, 3) := by decide +kernel
theorem dX1_playing_13 : decode cX1_playing 13 = .ok (.iconst (-1), 1) := by decide +kernel
theorem dX1_playing_14 : decode cX1_playing 14 = .ok (.ixor, 1) := by decide +kernel
theorem dX1_playing_15 : decode cX1_playing 15 = .ok (.iand, 1) := by decide +kernel
theorem dX1_playing_16 : decode cX1_playing 16 = .ok (.ireturn, 1) := by decide +kernel
theorem dX1_rivalsOf_0 : decode cX1_rivalsOf 0 = .ok (.aload_n 0, 1) := by decide +kernel
theorem dX1_rivalsOf_1 : decode cX1_rivalsOf 1 = .ok (.getfield 9, 3) := by decide +kernel
theorem dX1_rivalsOf_4 : decode cX1_rivalsOf 4 = .ok (.iload_n 1, 1) := by decide +kernel
theorem dX1_rivalsOf_5 : decode cX1_rivalsOf 5 = .ok (.iand, 1) := by decide +kernel
theorem dX1_rivalsOf_6 : decode cX1_rivalsOf 6 = .ok (.ifCond .eq 10, 3) := by decide +kernel
theorem dX1_rivalsOf_9 : decode cX1_rivalsOf 9 = .ok (.aload_n 0, 1) := by decide +kernel
theorem dX1_rivalsOf_10 : decode cX1_rivalsOf 10 = .ok (.getfield 15, 3) := by decide +kernel
theorem dX1_rivalsOf_13 : decode cX1_rivalsOf 13 = .ok (.goto 7, 3) := by decide +kernel
theorem dX1_rivalsOf_16 : decode cX1_rivalsOf 16 = .ok (.aload_n 0, 1) := by decide +kernel
theorem dX1_rivalsOf_17 : decode cX1_rivalsOf 17 = .ok (.getfield 9, 3) := by decide +kernel
theorem dX1_rivalsOf_20 : decode cX1_rivalsOf 20 = .ok (.ireturn, 1) := by decide +kernel
theorem dX1_isDeserted_0 : decode cX1_isDeserted 0 = .ok (.aload_n 0, 1) := by decide +kernel
theorem dX1_isDeserted_1 : decode cX1_isDeserted 1 = .ok (.getfield 9, 3) := by decide +kernel
theorem dX1_isDeserted_4 : decode cX1_isDeserted 4 = .ok (.aload_n 0, 1) := by decide +kernel
theorem dX1_isDeserted_5 : decode cX1_isDeserted 5 = .ok (.getfield 18, 3) := by decide +kernel
theorem dX1_isDeserted_8 : decode cX1_isDeserted 8 = .ok (.iconst (-1), 1) := by decide +kernel
theorem dX1_isDeserted_9 : decode cX1_isDeserted 9 = .ok (.ixor, 1) := by decide +kernel
theorem dX1_isDeserted_10 : decode cX1_isDeserted 10 = .ok (.iand, 1) := by decide +kernel
theorem dX1_isDeserted_11 : decode cX1_isDeserted 11 = .ok (.ifCond .eq 17, 3) := by decide +kernel
theorem dX1_isDeserted_14 : decode cX1_isDeserted 14 = .ok (.aload_n 0, 1) := by decide +kernel
theorem dX1_isDeserted_15 : decode cX1_isDeserted 15 = .ok (.getfield 15, 3) := by decide +kernel
theorem dX1_isDeserted_18 : decode cX1_isDeserted 18 = .ok (.aload_n 0, 1) := by decide +kernel
theorem dX1_isDeserted_19 : decode cX1_isDeserted 19 = .ok (.getfield 18, 3) := by decide +kernel
theorem dX1_isDeserted_22 : decode cX1_isDeserted 22 = .ok (.iconst (-1), 1) := by decide +kernel
theorem dX1_isDeserted_23 : decode cX1_isDeserted 23 = .ok (.ixor, 1) := by decide +kernel
theorem dX1_isDeserted_24 : decode cX1_isDeserted 24 = .ok (.iand, 1) := by decide +kernel
theorem dX1_isDeserted_25 : decode cX1_isDeserted 25 = .ok (.ifCond .ne 7, 3) := by decide +kernel
theorem dX1_isDeserted_28 : decode cX1_isDeserted 28 = .ok (.iconst 1, 1) := by decide +kernel
theorem dX1_isDeserted_29 : decode cX1_isDeserted 29 = .ok (.goto 4, 3) := by decide +kernel
theorem dX1_isDeserted_32 : decode cX1_isDeserted 32 = .ok (.iconst 0, 1) := by decide +kernel
theorem dX1_isDeserted_33 : decode cX1_isDeserted 33 = .ok (.ireturn, 1) := by decide +kernel
theorem dX1_resultOfDeserted_0 : decode cX1_resultOfDeserted 0 = .ok (.aload_n 0, 1) := by decide +kernel
theorem dX1_resultOfDeserted_1 : decode cX1_resultOfDeserted 1 = .ok (.getfield 9, 3) := by decide +kernel
theorem dX1_resultOfDeserted_4 : decode cX1_resultOfDeserted 4 = .ok (.aload_n 0, 1) := by decide +kernel
theorem dX1_resultOfDeserted_5 : decode cX1_resultOfDeserted 5 = .ok (.getfield 18, 3) := by decide +kernel
theorem dX1_resultOfDeserted_8 : decode cX1_resultOfDeserted 8 = .ok (.iconst (-1), 1) := by decide +kernel
theorem dX1_resultOfDeserted_9 : decode cX1_resultOfDeserted 9 = .ok (.ixor, 1) := by decide +kernel
theorem dX1_resultOfDeserted_10 : decode cX1_resultOfDeserted 10 = .ok (.iand, 1) := by decide +kernel
theorem dX1_resultOfDeserted_11 : decode cX1_resultOfDeserted 11 = .ok (.ifCond .ne 7, 3) := by decide +kernel
theorem dX1_resultOfDeserted_14 : decode cX1_resultOfDeserted 14 = .ok (.iconst 0, 1) := by decide +kernel
theorem dX1_resultOfDeserted_15 : decode cX1_resultOfDeserted 15 = .ok (.goto 4, 3) := by decide +kernel
theorem dX1_resultOfDeserted_18 : decode cX1_resultOfDeserted 18 = .ok (.iconst 2, 1) := by decide +kernel
theorem dX1_resultOfDeserted_19 : decode cX1_resultOfDeserted 19 = .ok (.ireturn, 1) := by decide +kernel
set_option maxRecDepth 20000 in
theorem ggX2_init_X1_init : GoodIn wsX2_init wsX1_init := goodIn_r _ [11, 12, 2, 3, 13, 14, 15, 16, 19, 20, 21, 22] (by decide +kernel) (by decide +kernel)
set_option maxRecDepth 20000 in
theorem gX2_init_X1_init : GoodIn wsX2_init (wsX1_init) := ggX2_init_X1_init
theorem dX2_init_0 : decode cX2_init 0 = .ok (.aload_n 0, 1) := by decide +kernel
theorem dX2_init_1 : decode cX2_init 1 = .ok (.invokespecial 3, 3) := by decide +kernel
theorem dX2_init_4 : decode cX2_init 4 = .ok (.aload_n 0, 1) := by decide +kernel
theorem dX2_init_5 : decode cX2_init 5 = .ok (.iconst 5, 1) := by decide +kernel
theorem dX2_init_6 : decode cX2_init 6 = .ok (.anewarray 9, 3) := by decide +kernel
theorem dX2_init_9 : decode cX2_init 9 = .ok (.putfield 11, 3) := by decide +kernel
theorem dX2_init_12 : decode cX2_init 12 = .ok (.iconst 0, 1) := by decide +kernel
theorem dX2_init_13 : decode cX2_init 13 = .ok (.istore_n 1, 1) := by decide +kernel
theorem dX2_init_14 : decode cX2_init 14 = .ok (.iload_n 1, 1) := by decide +kernel
theorem dX2_init_15 : decode cX2_init 15 = .ok (.aload_n 0, 1) := by decide +kernel
theorem dX2_init_16 : decode cX2_init 16 = .ok (.getfield 11, 3) := by decide +kernel
theorem dX2_init_19 : decode cX2_init 19 = .ok (.arraylength, 1) := by decide +kernel
theorem dX2_init_20 : decode cX2_init 20 = .ok (.if_icmp .ge 22, 3) := by decide +kernel
theorem dX2_init_23 : decode cX2_init 23 = .ok (.aload_n 0, 1) := by decide +kernel
theorem dX2_init_24 : decode cX2_init 24 = .ok (.getfield 11, 3) := by decide +kernel
theorem dX2_init_27 : decode cX2_init 27 = .ok (.iload_n 1, 1) := by decide +kernel
theorem dX2_init_28 : decode cX2_init 28 = .ok (.new 9, 3) := by decide +kernel
theorem dX2_init_31 : decode cX2_init 31 = .ok (.dup, 1) := by decide +kernel
theorem dX2_init_32 : decode cX2_init 32 = .ok (.invokespecial 17, 3) := by decide +kernel
theorem dX2_init_35 : decode cX2_init 35 = .ok (.aastore, 1) := by decide +kernel
theorem dX2_init_36 : decode cX2_init 36 = .ok (.iinc 1 1, 3) := by decide +kernel
theorem dX2_init_39 : decode cX2_init 39 = .ok (.goto (-25), 3) := by decide +kernel
theorem dX2_init_42 : decode cX2_init 42 = .ok (.aload_n 0, 1) := by decide +kernel
theorem dX2_init_43 : decode cX2_init 43 = .ok (.lconst 0, 1) := by decide +kernel
theorem dX2_init_44 : decode cX2_init 44 = .ok (.putfield 18, 3) := by decide +kernel
theorem dX2_init_47 : decode cX2_init 47 = .ok (.return_, 1) := by decide +kernel
theorem dX2_at_0 : decode cX2_at 0 = .ok (.iload_n 1, 1) := by decide +kernel
theorem dX2_at_1 : decode cX2_at 1 = .ok (.ifCond .lt 21, 3) := by decide +kernel
theorem dX2_at_4 : decode cX2_at 4 = .ok (.iload_n 1, 1) := by decide +kernel
theorem dX2_at_5 : decode cX2_at 5 = .ok (.aload_n 0, 1) := by decide +kernel
theorem dX2_at_6 : decode cX2_at 6 = .ok (.getfield 11, 3) := by decide +kernel
theorem dX2_at_9 : decode cX2_at 9 = .ok (.arraylength, 1) := by decide +kernel
theorem dX2_at_10 : decode cX2_at 10 = .ok (.if_icmp .ge 12, 3) := by decide +kernel
theorem dX2_at_13 : decode cX2_at 13 = .ok (.aload_n 0, 1) := by decide +kernel
theorem dX2_at_14 : decode cX2_at 14 = .ok (.getfield 11, 3) := by decide +kernel
theorem dX2_at_17 : decode cX2_at 17 = .ok (.iload_n 1, 1) := by decide +kernel
theorem dX2_at_18 : decode cX2_at 18 = .ok (.aaload, 1) := by decide +kernel
theorem dX2_at_19 : decode cX2_at 19 = .ok (.goto 4, 3) := by decide +kernel
theorem dX2_at_22 : decode cX2_at 22 = .ok (.aconst_null, 1) := by decide +kernel
theorem dX2_at_23 : decode cX2_at 23 = .ok (.areturn, 1) := by decide +kernel
set_option maxRecDepth 20000 in
theorem ggX2_going_X1_goesOn : GoodIn wsX2_going wsX1_goesOn := goodIn_r _ [6, 7, 10, 11, 12, 13] (by decide +kernel) (by decide +kernel)
set_option maxRecDepth 20000 in
theorem gX2_going_X1_goesOn : GoodIn wsX2_going (wsV RX2 22 RX1 yX1_goesOn wsX1_goesOn) := goodIn_app (goodIn_of _ (by decide +kernel)) ggX2_going_X1_goesOn
theorem dX2_going_0 : decode cX2_going 0 = .ok (.iconst 0, 1) := by decide +kernel
theorem dX2_going_1 : decode cX2_going 1 = .ok (.istore_n 1, 1) := by decide +kernel
theorem dX2_going_2 : decode cX2_going 2 = .ok (.iconst 0, 1) := by decide +kernel
theorem dX2_going_3 : decode cX2_going 3 = .ok (.istore_n 2, 1) := by decide +kernel
theorem dX2_going_4 : decode cX2_going 4 = .ok (.iload_n 2, 1) := by decide +kernel
theorem dX2_going_5 : decode cX2_going 5 = .ok (.aload_n 0, 1) := by decide +kernel
theorem dX2_going_6 : decode cX2_going 6 = .ok (.getfield 11, 3) := by decide +kernel
theorem dX2_going_9 : decode cX2_going 9 = .ok (.arraylength, 1) := by decide +kernel
theorem dX2_going_10 : decode cX2_going 10 = .ok (.if_icmp .ge 30, 3) := by decide +kernel
theorem dX2_going_13 : decode cX2_going 13 = .ok (.aload_n 0, 1) := by decide +kernel
theorem dX2_going_14 : decode cX2_going 14 = .ok (.getfield 11, 3) := by decide +kernel
theorem dX2_going_17 : decode cX2_going 17 = .ok (.iload_n 2, 1) := by decide +kernel
theorem dX2_going_18 : decode cX2_going 18 = .ok (.aaload, 1) := by decide +kernel
theorem dX2_going_19 : decode cX2_going 19 = .ok (.astore_n 3, 1) := by decide +kernel
theorem dX2_going_20 : decode cX2_going 20 = .ok (.aload_n 3, 1) := by decide +kernel
theorem dX2_going_21 : decode cX2_going 21 = .ok (.ifnull 13, 3) := by decide +kernel
theorem dX2_going_24 : decode cX2_going 24 = .ok (.aload_n 3, 1) := by decide +kernel
theorem dX2_going_25 : decode cX2_going 25 = .ok (.invokevirtual 22, 3) := by decide +kernel
theorem dX2_going_28 : decode cX2_going 28 = .ok (.ifCond .eq 6, 3) := by decide +kernel
theorem dX2_going_31 : decode cX2_going 31 = .ok (.iinc 1 1, 3) := by decide +kernel
theorem dX2_going_34 : decode cX2_going 34 = .ok (.iinc 2 1, 3) := by decide +kernel
theorem dX2_going_37 : decode cX2_going 37 = .ok (.goto (-33), 3) := by decide +kernel
theorem dX2_going_40 : decode cX2_going 40 = .ok (.iload_n 1, 1) := by decide +kernel
theorem dX2_going_41 : decode cX2_going 41 = .ok (.ireturn, 1) := by decide +kernel
set_option maxRecDepth 20000 in
theorem ggX2_everybody_X1_playing : GoodIn wsX2_everybody wsX1_playing := goodIn_r _ [6, 7, 8, 9, 12, 13, 14, 15] (by decide +kernel) (by decide +kernel)
set_option maxRecDepth 20000 in
theorem gX2_everybody_X1_playing : GoodIn wsX2_everybody (wsV RX2 26 RX1 yX1_playing wsX1_playing) := goodIn_app (goodIn_of _ (by decide +kernel)) ggX2_everybody_X1_playing
theorem dX2_everybody_0 : decode cX2_everybody 0 = .ok (.iconst 0, 1) := by decide +kernel
theorem dX2_everybody_1 : decode cX2_everybody 1 = .ok (.istore_n 1, 1) := by decide +kernel
theorem dX2_everybody_2 : decode cX2_everybody 2 = .ok (.iconst 0, 1) := by decide +kernel
theorem dX2_everybody_3 : decode cX2_everybody 3 = .ok (.istore_n 2, 1) := by decide +kernel
theorem dX2_everybody_4 : decode cX2_everybody 4 = .ok (.iload_n 2, 1) := by decide +kernel
theorem dX2_everybody_5 : decode cX2_everybody 5 = .ok (.aload_n 0, 1) := by decide +kernel
theorem dX2_everybody_6 : decode cX2_everybody 6 = .ok (.getfield 11, 3) := by decide +kernel
theorem dX2_everybody_9 : decode cX2_everybody 9 = .ok (.arraylength, 1) := by decide +kernel
theorem dX2_everybody_10 : decode cX2_everybody 10 = .ok (.if_icmp .ge 27, 3) := by decide +kernel
theorem dX2_everybody_13 : decode cX2_everybody 13 = .ok (.aload_n 0, 1) := by decide +kernel
theorem dX2_everybody_14 : decode cX2_everybody 14 = .ok (.getfield 11, 3) := by decide +kernel
theorem dX2_everybody_17 : decode cX2_everybody 17 = .ok (.iload_n 2, 1) := by decide +kernel
theorem dX2_everybody_18 : decode cX2_everybody 18 = .ok (.aaload, 1) := by decide +kernel
theorem dX2_everybody_19 : decode cX2_everybody 19 = .ok (.astore_n 3, 1) := by decide +kernel
theorem dX2_everybody_20 : decode cX2_everybody 20 = .ok (.aload_n 3, 1) := by decide +kernel
theorem dX2_everybody_21 : decode cX2_everybody 21 = .ok (.ifnull 10, 3) := by decide +kernel
theorem dX2_everybody_24 : decode cX2_everybody 24 = .ok (.iload_n 1, 1) := by decide +kernel
theorem dX2_everybody_25 : decode cX2_everybody 25 = .ok (.aload_n 3, 1) := by decide +kernel
theorem dX2_everybody_26 : decode cX2_everybody 26 = .ok (.invokevirtual 26, 3) := by decide +kernel
theorem dX2_everybody_29 : decode cX2_everybody 29 = .ok (.ior, 1) := by decide +kernel
theorem dX2_everybody_30 : decode cX2_everybody 30 = .ok (.istore_n 1, 1) := by decide +kernel
theorem dX2_everybody_31 : decode cX2_everybody 31 = .ok (.iinc 2 1, 3) := by decide +kernel
theorem dX2_everybody_34 : decode cX2_everybody 34 = .ok (.goto (-30), 3) := by decide +kernel
theorem dX2_everybody_37 : decode cX2_everybody 37 = .ok (.iload_n 1, 1) := by decide +kernel
theorem dX2_everybody_38 : decode cX2_everybody 38 = .ok (.ireturn, 1) := by decide +kernel
set_option maxRecDepth 20000 in
theorem ggX2_withPlayer_X1_playing : GoodIn wsX2_withPlayer wsX1_playing := goodIn_r _ [6, 7, 8, 9, 12, 13, 14, 15] (by decide +kernel) (by decide +kernel)
set_option maxRecDepth 20000 in
theorem gX2_withPlayer_X1_playing : GoodIn wsX2_withPlayer (wsV RX2 26 RX1 yX1_playing wsX1_playing) := goodIn_app (goodIn_of _ (by decide +kernel)) ggX2_withPlayer_X1_playing
theorem dX2_withPlayer_0 : decode cX2_withPlayer 0 = .ok (.iconst 0, 1) := by decide +kernel
theorem dX2_withPlayer_1 : decode cX2_withPlayer 1 = .ok (.istore_n 2, 1) := by decide +kernel
theorem dX2_withPlayer_2 : decode cX2_withPlayer 2 = .ok (.iload_n 2, 1) := by decide +kernel
theorem dX2_withPlayer_3 : decode cX2_withPlayer 3 = .ok (.aload_n 0, 1) := by decide +kernel
theorem dX2_withPlayer_4 : decode cX2_withPlayer 4 = .ok (.getfield 11, 3) := by decide +kernel
theorem dX2_withPlayer_7 : decode cX2_withPlayer 7 = .ok (.arraylength, 1) := by decide +kernel
theorem dX2_withPlayer_8 : decode cX2_withPlayer 8 = .ok (.if_icmp .ge 31, 3) := by decide +kernel
theorem dX2_withPlayer_11 : decode cX2_withPlayer 11 = .ok (.aload_n 0, 1) := by decide +kernel
theorem dX2_withPlayer_12 : decode cX2_withPlayer 12 = .ok (.getfield 11, 3) := by decide +kernel
theorem dX2_withPlayer_15 : decode cX2_withPlayer 15 = .ok (.iload_n 2, 1) := by decide +kernel
theorem dX2_withPlayer_16 : decode cX2_withPlayer 16 = .ok (.aaload, 1) := by decide +kernel
theorem dX2_withPlayer_17 : decode cX2_withPlayer 17 = .ok (.astore_n 3, 1) := by decide +kernel
theorem dX2_withPlayer_18 : decode cX2_withPlayer 18 = .ok (.aload_n 3, 1) := by decide +kernel
theorem dX2_withPlayer_19 : decode cX2_withPlayer 19 = .ok (.ifnull 14, 3) := by decide +kernel
theorem dX2_withPlayer_22 : decode cX2_withPlayer 22 = .ok (.aload_n 3, 1) := by decide +kernel
theorem dX2_withPlayer_23 : decode cX2_withPlayer 23 = .ok (.invokevirtual 26, 3) := by decide +kernel
theorem dX2_withPlayer_26 : decode cX2_withPlayer 26 = .ok (.iload_n 1, 1) := by decide +kernel
theorem dX2_withPlayer_27 : decode cX2_withPlayer 27 = .ok (.iand, 1) := by decide +kernel
theorem dX2_withPlayer_28 : decode cX2_withPlayer 28 = .ok (.ifCond .eq 5, 3) := by decide +kernel
theorem dX2_withPlayer_31 : decode cX2_withPlayer 31 = .ok (.aload_n 3, 1) := by decide +kernel
theorem dX2_withPlayer_32 : decode cX2_withPlayer 32 = .ok (.areturn, 1) := by decide +kernel
theorem dX2_withPlayer_33 : decode cX2_withPlayer 33 = .ok (.iinc 2 1, 3) := by decide +kernel
theorem dX2_withPlayer_36 : decode cX2_withPlayer 36 = .ok (.goto (-34), 3) := by decide +kernel
theorem dX2_withPlayer_39 : decode cX2_withPlayer 39 = .ok (.aconst_null, 1) := by decide +kernel
theorem dX2_withPlayer_40 : decode cX2_withPlayer 40 = .ok (.areturn, 1) := by decide +kernel
set_option maxRecDepth 20000 in
theorem ggX2_begin_X1_goesOn : GoodIn wsX2_begin wsX1_goesOn := goodIn_r _ [10, 11, 14, 15, 16, 17] (by decide +kernel) (by decide +kernel)
set_option maxRecDepth 20000 in
theorem gX2_begin_X1_goesOn : GoodIn wsX2_begin (wsV RX2 22 RX1 yX1_goesOn wsX1_goesOn) := goodIn_app (goodIn_of _ (by decide +kernel)) ggX2_begin_X1_goesOn
theorem dX2_begin_0 : decode cX2_begin 0 = .ok (.iconst 0, 1) := by decide +kernel
theorem dX2_begin_1 : decode cX2_begin 1 = .ok (.istore 5, 2) := by decide +kernel
theorem dX2_begin_3 : decode cX2_begin 3 = .ok (.iload 5, 2) := by decide +kernel
theorem dX2_begin_5 : decode cX2_begin 5 = .ok (.aload_n 0, 1) := by decide +kernel
theorem dX2_begin_6 : decode cX2_begin 6 = .ok (.getfield 11, 3) := by decide +kernel
theorem dX2_begin_9 : decode cX2_begin 9 = .ok (.arraylength, 1) := by decide +kernel
theorem dX2_begin_10 : decode cX2_begin 10 = .ok (.if_icmp .ge 56, 3) := by decide +kernel
theorem dX2_begin_13 : decode cX2_begin 13 = .ok (.aload_n 0, 1) := by decide +kernel
theorem dX2_begin_14 : decode cX2_begin 14 = .ok (.getfield 11, 3) := by decide +kernel
theorem dX2_begin_17 : decode cX2_begin 17 = .ok (.iload 5, 2) := by decide +kernel
theorem dX2_begin_19 : decode cX2_begin 19 = .ok (.aaload, 1) := by decide +kernel
theorem dX2_begin_20 : decode cX2_begin 20 = .ok (.astore 6, 2) := by decide +kernel
theorem dX2_begin_22 : decode cX2_begin 22 = .ok (.aload 6, 2) := by decide +kernel
theorem dX2_begin_24 : decode cX2_begin 24 = .ok (.ifnull 36, 3) := by decide +kernel
theorem dX2_begin_27 : decode cX2_begin 27 = .ok (.aload 6, 2) := by decide +kernel
theorem dX2_begin_29 : decode cX2_begin 29 = .ok (.invokevirtual 22, 3) := by decide +kernel
theorem dX2_begin_32 : decode cX2_begin 32 = .ok (.ifCond .ne 28, 3) := by decide +kernel
theorem dX2_begin_35 : decode cX2_begin 35 = .ok (.aload 6, 2) := by decide +kernel
theorem dX2_begin_37 : decode cX2_begin 37 = .ok (.iload_n 1, 1) := by decide +kernel
theorem dX2_begin_38 : decode cX2_begin 38 = .ok (.putfield 30, 3) := by decide +kernel
theorem dX2_begin_41 : decode cX2_begin 41 = .ok (.aload 6, 2) := by decide +kernel
theorem dX2_begin_43 : decode cX2_begin 43 = .ok (.iload_n 2, 1) := by decide +kernel
theorem dX2_begin_44 : decode cX2_begin 44 = .ok (.putfield 34, 3) := by decide +kernel
theorem dX2_begin_47 : decode cX2_begin 47 = .ok (.aload 6, 2) := by decide +kernel
theorem dX2_begin_49 : decode cX2_begin 49 = .ok (.iconst 0, 1) := by decide +kernel
theorem dX2_begin_50 : decode cX2_begin 50 = .ok (.putfield 37, 3) := by decide +kernel
theorem dX2_begin_53 : decode cX2_begin 53 = .ok (.aload 6, 2) := by decide +kernel
theorem dX2_begin_55 : decode cX2_begin 55 = .ok (.lload_n 3, 1) := by decide +kernel
theorem dX2_begin_56 : decode cX2_begin 56 = .ok (.putfield 40, 3) := by decide +kernel
theorem dX2_begin_59 : decode cX2_begin 59 = .ok (.return_, 1) := by decide +kernel
theorem dX2_begin_60 : decode cX2_begin 60 = .ok (.iinc 5 1, 3) := by decide +kernel
theorem dX2_begin_63 : decode cX2_begin 63 = .ok (.goto (-60), 3) := by decide +kernel
theorem dX2_begin_66 : decode cX2_begin 66 = .ok (.return_, 1) := by decide +kernel
set_option maxRecDepth 20000 in
theorem ggX2_finish_X6_reckonTeam : GoodIn wsX2_finish wsX6_reckonTeam := goodIn_r _ [9, 10, 11, 12, 13, 8, 14, 15, 16, 17, 18, 19, 20, 21, 22, 23, 24, 25, 26, 27, 28, 29, 30, 31, 32, 33, 34, 35, 36, 37, 38, 39, 40, 41, 42, 43, 44, 45, 46, 47, 48, 49, 50, 51, 52, 53, 54, 55, 56, 57, 58, 59, 60, 61, 62, 63, 64, 65, 66, 67, 68, 69, 70, 71, 72, 73, 104, 105, 106, 107, 108, 109, 110, 111] (by decide +kernel) (by decide +kernel)
set_option maxRecDepth 20000 in
theorem gX2_finish_X6_reckonTeam : GoodIn wsX2_finish (wsV RX2 43 RX6 yX6_reckonTeam wsX6_reckonTeam) := goodIn_app (goodIn_of _ (by decide +kernel)) ggX2_finish_X6_reckonTeam
set_option maxRecDepth 20000 in
theorem ggX2_finish_X6_settleTeam : GoodIn wsX2_finish wsX6_settleTeam := goodIn_r _ [77, 10, 11, 12, 13, 8, 14, 15, 16, 17, 18, 78, 79, 80, 51, 81, 63, 62, 104, 105, 106, 107, 108, 109, 110, 111] (by decide +kernel) (by decide +kernel)
set_option maxRecDepth 20000 in
theorem gX2_finish_X6_settleTeam : GoodIn wsX2_finish (wsV RX2 49 RX6 yX6_settleTeam wsX6_settleTeam) := goodIn_app (goodIn_of _ (by decide +kernel)) ggX2_finish_X6_settleTeam
set_option maxRecDepth 20000 in
theorem ggX2_finish_X1_clear : GoodIn wsX2_finish wsX1_clear := goodIn_r _ [86, 87, 88, 89, 90, 98, 99, 100, 101] (by decide +kernel) (by decide +kernel)
set_option maxRecDepth 20000 in
theorem gX2_finish_X1_clear : GoodIn wsX2_finish (wsV RX2 53 RX1 yX1_clear wsX1_clear) := goodIn_app (goodIn_of _ (by decide +kernel)) ggX2_finish_X1_clear
set_option maxRecDepth 20000 in
theorem ggX2_finish_J6_bitCount_0f7a4 : GoodIn wsX2_finish wsJ6_bitCount_0f7a4 := goodIn_r _ [94, 95, 96, 97] (by decide +kernel) (by decide +kernel)
set_option maxRecDepth 20000 in
theorem gX2_finish_J6_bitCount_0f7a4 : GoodIn wsX2_finish (va_wsS RX2 56 yJ6_bitCount_0f7a4 wsJ6_bitCount_0f7a4) := goodIn_app (goodIn_of _ (by decide +kernel)) ggX2_finish_J6_bitCount_0f7a4
theorem dX2_finish_0 : decode cX2_finish 0 = .ok (.aload_n 3, 1) := by decide +kernel
theorem dX2_finish_1 : decode cX2_finish 1 = .ok (.aload_n 1, 1) := by decide +kernel
theorem dX2_finish_2 : decode cX2_finish 2 = .ok (.getfield 30, 3) := by decide +kernel
theorem dX2_finish_5 : decode cX2_finish 5 = .ok (.aload_n 1, 1) := by decide +kernel
theorem dX2_finish_6 : decode cX2_finish 6 = .ok (.getfield 37, 3) := by decide +kernel
theorem dX2_finish_9 : decode cX2_finish 9 = .ok (.iconst (-1), 1) := by decide +kernel
theorem dX2_finish_10 : decode cX2_finish 10 = .ok (.ixor, 1) := by decide +kernel
theorem dX2_finish_11 : decode cX2_finish 11 = .ok (.iand, 1) := by decide +kernel
theorem dX2_finish_12 : decode cX2_finish 12 = .ok (.aload_n 1, 1) := by decide +kernel
theorem dX2_finish_13 : decode cX2_finish 13 = .ok (.getfield 34, 3) := by decide +kernel
theorem dX2_finish_16 : decode cX2_finish 16 = .ok (.iload_n 2, 1) := by decide +kernel
theorem dX2_finish_17 : decode cX2_finish 17 = .ok (.invokevirtual 43, 3) := by decide +kernel
theorem dX2_finish_20 : decode cX2_finish 20 = .ok (.aload_n 3, 1) := by decide +kernel
theorem dX2_finish_21 : decode cX2_finish 21 = .ok (.aload_n 1, 1) := by decide +kernel
theorem dX2_finish_22 : decode cX2_finish 22 = .ok (.getfield 34, 3) := by decide +kernel
theorem dX2_finish_25 : decode cX2_finish 25 = .ok (.aload_n 1, 1) := by decide +kernel
theorem dX2_finish_26 : decode cX2_finish 26 = .ok (.getfield 37, 3) := by decide +kernel
theorem dX2_finish_29 : decode cX2_finish 29 = .ok (.iconst (-1), 1) := by decide +kernel
theorem dX2_finish_30 : decode cX2_finish 30 = .ok (.ixor, 1) := by decide +kernel
theorem dX2_finish_31 : decode cX2_finish 31 = .ok (.iand, 1) := by decide +kernel
theorem dX2_finish_32 : decode cX2_finish 32 = .ok (.aload_n 1, 1) := by decide +kernel
theorem dX2_finish_33 : decode cX2_finish 33 = .ok (.getfield 30, 3) := by decide +kernel
theorem dX2_finish_36 : decode cX2_finish 36 = .ok (.iconst 2, 1) := by decide +kernel
theorem dX2_finish_37 : decode cX2_finish 37 = .ok (.iload_n 2, 1) := by decide +kernel
theorem dX2_finish_38 : decode cX2_finish 38 = .ok (.isub, 1) := by decide +kernel
theorem dX2_finish_39 : decode cX2_finish 39 = .ok (.invokevirtual 43, 3) := by decide +kernel
theorem dX2_finish_42 : decode cX2_finish 42 = .ok (.ior, 1) := by decide +kernel
theorem dX2_finish_43 : decode cX2_finish 43 = .ok (.istore 4, 2) := by decide +kernel
theorem dX2_finish_45 : decode cX2_finish 45 = .ok (.aload_n 3, 1) := by decide +kernel
theorem dX2_finish_46 : decode cX2_finish 46 = .ok (.iload 4, 2) := by decide +kernel
theorem dX2_finish_48 : decode cX2_finish 48 = .ok (.invokevirtual 49, 3) := by decide +kernel
theorem dX2_finish_51 : decode cX2_finish 51 = .ok (.aload_n 1, 1) := by decide +kernel
theorem dX2_finish_52 : decode cX2_finish 52 = .ok (.invokevirtual 53, 3) := by decide +kernel
theorem dX2_finish_55 : decode cX2_finish 55 = .ok (.aload_n 0, 1) := by decide +kernel
theorem dX2_finish_56 : decode cX2_finish 56 = .ok (.dup, 1) := by decide +kernel
theorem dX2_finish_57 : decode cX2_finish 57 = .ok (.getfield 18, 3) := by decide +kernel
theorem dX2_finish_60 : decode cX2_finish 60 = .ok (.lconst 1, 1) := by decide +kernel
theorem dX2_finish_61 : decode cX2_finish 61 = .ok (.ladd, 1) := by decide +kernel
theorem dX2_finish_62 : decode cX2_finish 62 = .ok (.putfield 18, 3) := by decide +kernel
theorem dX2_finish_65 : decode cX2_finish 65 = .ok (.iload 4, 2) := by decide +kernel
theorem dX2_finish_67 : decode cX2_finish 67 = .ok (.invokestatic 56, 3) := by decide +kernel
theorem dX2_finish_70 : decode cX2_finish 70 = .ok (.ireturn, 1) := by decide +kernel
theorem dX3_init_0 : decode cX3_init 0 = .ok (.aload_n 0, 1) := by decide +kernel
theorem dX3_init_1 : decode cX3_init 1 = .ok (.invokespecial 3, 3) := by decide +kernel
theorem dX3_init_4 : decode cX3_init 4 = .ok (.aload_n 0, 1) := by decide +kernel
theorem dX3_init_5 : decode cX3_init 5 = .ok (.sipush 175, 3) := by decide +kernel
theorem dX3_init_8 : decode cX3_init 8 = .ok (.newarray .int, 2) := by decide +kernel
theorem dX3_init_10 : decode cX3_init 10 = .ok (.putfield 9, 3) := by decide +kernel
theorem dX3_init_13 : decode cX3_init 13 = .ok (.aload_n 0, 1) := by decide +kernel
theorem dX3_init_14 : decode cX3_init 14 = .ok (.sipush 175, 3) := by decide +kernel
theorem dX3_init_17 : decode cX3_init 17 = .ok (.newarray .long, 2) := by decide +kernel
theorem dX3_init_19 : decode cX3_init 19 = .ok (.putfield 15, 3) := by decide +kernel
theorem dX3_init_22 : decode cX3_init 22 = .ok (.aload_n 0, 1) := by decide +kernel
theorem dX3_init_23 : decode cX3_init 23 = .ok (.iconst 0, 1) := by decide +kernel
theorem dX3_init_24 : decode cX3_init 24 = .ok (.putfield 19, 3) := by decide +kernel
theorem dX3_init_27 : decode cX3_init 27 = .ok (.aload_n 0, 1) := by decide +kernel
theorem dX3_init_28 : decode cX3_init 28 = .ok (.iconst 0, 1) := by decide +kernel
theorem dX3_init_29 : decode cX3_init 29 = .ok (.putfield 23, 3) := by decide +kernel
theorem dX3_init_32 : decode cX3_init 32 = .ok (.aload_n 0, 1) := by decide +kernel
theorem dX3_init_33 : decode cX3_init 33 = .ok (.iconst 0, 1) := by decide +kernel
theorem dX3_init_34 : decode cX3_init 34 = .ok (.putfield 26, 3) := by decide +kernel
theorem dX3_init_37 : decode cX3_init 37 = .ok (.aload_n 0, 1) := by decide +kernel
theorem dX3_init_38 : decode cX3_init 38 = .ok (.lconst 0, 1) := by decide +kernel
theorem dX3_init_39 : decode cX3_init 39 = .ok (.putfield 29, 3) := by decide +kernel
theorem dX3_init_42 : decode cX3_init 42 = .ok (.return_, 1) := by decide +kernel
set_option maxRecDepth 20000 in
theorem ggX3_gather_J6_bitCount_0f7a4 : GoodIn wsX3_gather wsJ6_bitCount_0f7a4 := goodIn_r _ [10, 11, 12, 13] (by decide +kernel) (by decide +kernel)
set_option maxRecDepth 20000 in
theorem gX3_gather_J6_bitCount_0f7a4 : GoodIn wsX3_gather (va_wsS RX3 44 yJ6_bitCount_0f7a4 wsJ6_bitCount_0f7a4) := goodIn_app (goodIn_of _ (by decide +kernel)) ggX3_gather_J6_bitCount_0f7a4
set_option maxRecDepth 20000 in
theorem ggX3_gather_X7_playersAt : GoodIn wsX3_gather wsX7_playersAt := goodIn_r _ [18, 19, 20, 21, 22, 23, 24, 25, 17, 26, 27, 58, 59, 60] (by decide +kernel) (by decide +kernel)
set_option maxRecDepth 20000 in
theorem gX3_gather_X7_playersAt : GoodIn wsX3_gather (wsV RX3 50 RX7 yX7_playersAt wsX7_playersAt) := goodIn_app (goodIn_of _ (by decide +kernel)) ggX3_gather_X7_playersAt
set_option maxRecDepth 20000 in
theorem ggX3_gather_X6_meansOf : GoodIn wsX3_gather wsX6_meansOf := goodIn_r _ [32, 33, 34, 35, 36, 31, 37, 38, 20, 21, 22, 39, 40, 41, 42, 43, 44, 61, 62, 63, 64, 65, 66, 67, 68] (by decide +kernel) (by decide +kernel)
set_option maxRecDepth 20000 in
theorem gX3_gather_X6_meansOf : GoodIn wsX3_gather (wsV RX3 53 RX6 yX6_meansOf wsX6_meansOf) := goodIn_app (goodIn_of _ (by decide +kernel)) ggX3_gather_X6_meansOf
set_option maxRecDepth 20000 in
theorem ggX3_gather_X3_add : GoodIn wsX3_gather wsX3_add := goodIn_r _ [49, 1, 50, 51, 52, 53, 54, 55, 56, 57] (by decide +kernel) (by decide +kernel)
set_option maxRecDepth 20000 in
theorem gX3_gather_X3_add : GoodIn wsX3_gather (wsV RX3 59 RX3 yX3_add wsX3_add) := goodIn_app (goodIn_of _ (by decide +kernel)) ggX3_gather_X3_add
theorem dX3_gather_0 : decode cX3_gather 0 = .ok (.aload_n 0, 1) := by decide +kernel
theorem dX3_gather_1 : decode cX3_gather 1 = .ok (.iconst 0, 1) := by decide +kernel
theorem dX3_gather_2 : decode cX3_gather 2 = .ok (.putfield 19, 3) := by decide +kernel
theorem dX3_gather_5 : decode cX3_gather 5 = .ok (.iconst 1, 1) := by decide +kernel
theorem dX3_gather_6 : decode cX3_gather 6 = .ok (.aload_n 1, 1) := by decide +kernel
theorem dX3_gather_7 : decode cX3_gather 7 = .ok (.getfield 33, 3) := by decide +kernel
theorem dX3_gather_10 : decode cX3_gather 10 = .ok (.bipush 10, 2) := by decide +kernel
theorem dX3_gather_12 : decode cX3_gather 12 = .ok (.invokestatic 38, 3) := by decide +kernel
theorem dX3_gather_15 : decode cX3_gather 15 = .ok (.ishl, 1) := by decide +kernel
theorem dX3_gather_16 : decode cX3_gather 16 = .ok (.istore 4, 2) := by decide +kernel
theorem dX3_gather_18 : decode cX3_gather 18 = .ok (.iconst 1, 1) := by decide +kernel
theorem dX3_gather_19 : decode cX3_gather 19 = .ok (.istore 5, 2) := by decide +kernel
theorem dX3_gather_21 : decode cX3_gather 21 = .ok (.iload 5, 2) := by decide +kernel
theorem dX3_gather_23 : decode cX3_gather 23 = .ok (.iload 4, 2) := by decide +kernel
theorem dX3_gather_25 : decode cX3_gather 25 = .ok (.if_icmp .ge 47, 3) := by decide +kernel
theorem dX3_gather_28 : decode cX3_gather 28 = .ok (.iload 5, 2) := by decide +kernel
theorem dX3_gather_30 : decode cX3_gather 30 = .ok (.invokestatic 44, 3) := by decide +kernel
theorem dX3_gather_33 : decode cX3_gather 33 = .ok (.iload_n 3, 1) := by decide +kernel
theorem dX3_gather_34 : decode cX3_gather 34 = .ok (.if_icmp .gt 32, 3) := by decide +kernel
theorem dX3_gather_37 : decode cX3_gather 37 = .ok (.aload_n 1, 1) := by decide +kernel
theorem dX3_gather_38 : decode cX3_gather 38 = .ok (.iload 5, 2) := by decide +kernel
theorem dX3_gather_40 : decode cX3_gather 40 = .ok (.invokevirtual 50, 3) := by decide +kernel
theorem dX3_gather_43 : decode cX3_gather 43 = .ok (.istore 6, 2) := by decide +kernel
theorem dX3_gather_45 : decode cX3_gather 45 = .ok (.iload 6, 2) := by decide +kernel
theorem dX3_gather_47 : decode cX3_gather 47 = .ok (.invokestatic 44, 3) := by decide +kernel
theorem dX3_gather_50 : decode cX3_gather 50 = .ok (.iload_n 3, 1) := by decide +kernel
theorem dX3_gather_51 : decode cX3_gather 51 = .ok (.if_icmp .ne 15, 3) := by decide +kernel
theorem dX3_gather_54 : decode cX3_gather 54 = .ok (.aload_n 0, 1) := by decide +kernel
theorem dX3_gather_55 : decode cX3_gather 55 = .ok (.iload 5, 2) := by decide +kernel
theorem dX3_gather_57 : decode cX3_gather 57 = .ok (.aload_n 2, 1) := by decide +kernel
theorem dX3_gather_58 : decode cX3_gather 58 = .ok (.iload 6, 2) := by decide +kernel
theorem dX3_gather_60 : decode cX3_gather 60 = .ok (.invokevirtual 53, 3) := by decide +kernel
theorem dX3_gather_63 : decode cX3_gather 63 = .ok (.invokevirtual 59, 3) := by decide +kernel
theorem dX3_gather_66 : decode cX3_gather 66 = .ok (.iinc 5 1, 3) := by decide +kernel
theorem dX3_gather_69 : decode cX3_gather 69 = .ok (.goto (-48), 3) := by decide +kernel
theorem dX3_gather_72 : decode cX3_gather 72 = .ok (.return_, 1) := by decide +kernel
theorem dX3_add_0 : decode cX3_add 0 = .ok (.aload_n 0, 1) := by decide +kernel
theorem dX3_add_1 : decode cX3_add 1 = .ok (.getfield 19, 3) := by decide +kernel
theorem dX3_add_4 : decode cX3_add 4 = .ok (.ifCond .lt 57, 3) := by decide +kernel
theorem dX3_add_7 : decode cX3_add 7 = .ok (.aload_n 0, 1) := by decide +kernel
theorem dX3_add_8 : decode cX3_add 8 = .ok (.getfield 19, 3) := by decide +kernel
theorem dX3_add_11 : decode cX3_add 11 = .ok (.aload_n 0, 1) := by decide +kernel
theorem dX3_add_12 : decode cX3_add 12 = .ok (.getfield 9, 3) := by decide +kernel
theorem dX3_add_15 : decode cX3_add 15 = .ok (.arraylength, 1) := by decide +kernel
theorem dX3_add_16 : decode cX3_add 16 = .ok (.if_icmp .ge 45, 3) := by decide +kernel
theorem dX3_add_19 : decode cX3_add 19 = .ok (.aload_n 0, 1) := by decide +kernel
theorem dX3_add_20 : decode cX3_add 20 = .ok (.getfield 19, 3) := by decide +kernel
theorem dX3_add_23 : decode cX3_add 23 = .ok (.aload_n 0, 1) := by decide +kernel
theorem dX3_add_24 : decode cX3_add 24 = .ok (.getfield 15, 3) := by decide +kernel
theorem dX3_add_27 : decode cX3_add 27 = .ok (.arraylength, 1) := by decide +kernel
theorem dX3_add_28 : decode cX3_add 28 = .ok (.if_icmp .ge 33, 3) := by decide +kernel
theorem dX3_add_31 : decode cX3_add 31 = .ok (.aload_n 0, 1) := by decide +kernel
theorem dX3_add_32 : decode cX3_add 32 = .ok (.getfield 9, 3) := by decide +kernel
theorem dX3_add_35 : decode cX3_add 35 = .ok (.aload_n 0, 1) := by decide +kernel
theorem dX3_add_36 : decode cX3_add 36 = .ok (.getfield 19, 3) := by decide +kernel
theorem dX3_add_39 : decode cX3_add 39 = .ok (.iload_n 1, 1) := by decide +kernel
theorem dX3_add_40 : decode cX3_add 40 = .ok (.iastore, 1) := by decide +kernel
theorem dX3_add_41 : decode cX3_add 41 = .ok (.aload_n 0, 1) := by decide +kernel
theorem dX3_add_42 : decode cX3_add 42 = .ok (.getfield 15, 3) := by decide +kernel
theorem dX3_add_45 : decode cX3_add 45 = .ok (.aload_n 0, 1) := by decide +kernel
theorem dX3_add_46 : decode cX3_add 46 = .ok (.getfield 19, 3) := by decide +kernel
theorem dX3_add_49 : decode cX3_add 49 = .ok (.lload_n 2, 1) := by decide +kernel
theorem dX3_add_50 : decode cX3_add 50 = .ok (.lastore, 1) := by decide +kernel
theorem dX3_add_51 : decode cX3_add 51 = .ok (.aload_n 0, 1) := by decide +kernel
theorem dX3_add_52 : decode cX3_add 52 = .ok (.dup, 1) := by decide +kernel
theorem dX3_add_53 : decode cX3_add 53 = .ok (.getfield 19, 3) := by decide +kernel
theorem dX3_add_56 : decode cX3_add 56 = .ok (.iconst 1, 1) := by decide +kernel
theorem dX3_add_57 : decode cX3_add 57 = .ok (.iadd, 1) := by decide +kernel
theorem dX3_add_58 : decode cX3_add 58 = .ok (.putfield 19, 3) := by decide +kernel
theorem dX3_add_61 : decode cX3_add 61 = .ok (.return_, 1) := by decide +kernel
set_option maxRecDepth 20000 in
theorem ggX3_seek_X8_hasBit : GoodIn wsX3_seek wsX8_hasBit := goodIn_r _ [8] (by decide +kernel) (by decide +kernel)
set_option maxRecDepth 20000 in
theorem gX3_seek_X8_hasBit_n63 : GoodIn wsX3_seek (wsX8_hasBit) := ggX3_seek_X8_hasBit
set_option maxRecDepth 20000 in
theorem ggX3_seek_X3_seekSecond : GoodIn wsX3_seek wsX3_seekSecond := goodIn_r _ [13, 5, 14, 4, 15, 16, 17, 18, 1, 3, 2, 19, 20, 21, 22, 23, 24] (by decide +kernel) (by decide +kernel)
set_option maxRecDepth 20000 in
theorem gX3_seek_X3_seekSecond : GoodIn wsX3_seek (wsV RX3 67 RX3 yX3_seekSecond wsX3_seekSecond) := goodIn_app (goodIn_of _ (by decide +kernel)) ggX3_seek_X3_seekSecond
theorem dX3_seek_0 : decode cX3_seek 0 = .ok (.aload_n 0, 1) := by decide +kernel
theorem dX3_seek_1 : decode cX3_seek 1 = .ok (.iconst 0, 1) := by decide +kernel
theorem dX3_seek_2 : decode cX3_seek 2 = .ok (.putfield 23, 3) := by decide +kernel
theorem dX3_seek_5 : decode cX3_seek 5 = .ok (.aload_n 0, 1) := by decide +kernel
theorem dX3_seek_6 : decode cX3_seek 6 = .ok (.iconst 0, 1) := by decide +kernel
theorem dX3_seek_7 : decode cX3_seek 7 = .ok (.putfield 26, 3) := by decide +kernel
theorem dX3_seek_10 : decode cX3_seek 10 = .ok (.aload_n 0, 1) := by decide +kernel
theorem dX3_seek_11 : decode cX3_seek 11 = .ok (.lconst 0, 1) := by decide +kernel
theorem dX3_seek_12 : decode cX3_seek 12 = .ok (.putfield 29, 3) := by decide +kernel
theorem dX3_seek_15 : decode cX3_seek 15 = .ok (.iconst 0, 1) := by decide +kernel
theorem dX3_seek_16 : decode cX3_seek 16 = .ok (.istore_n 2, 1) := by decide +kernel
theorem dX3_seek_17 : decode cX3_seek 17 = .ok (.iload_n 2, 1) := by decide +kernel
theorem dX3_seek_18 : decode cX3_seek 18 = .ok (.aload_n 0, 1) := by decide +kernel
theorem dX3_seek_19 : decode cX3_seek 19 = .ok (.getfield 19, 3) := by decide +kernel
theorem dX3_seek_22 : decode cX3_seek 22 = .ok (.if_icmp .ge 36, 3) := by decide +kernel
theorem dX3_seek_25 : decode cX3_seek 25 = .ok (.iload_n 2, 1) := by decide +kernel
theorem dX3_seek_26 : decode cX3_seek 26 = .ok (.aload_n 0, 1) := by decide +kernel
theorem dX3_seek_27 : decode cX3_seek 27 = .ok (.getfield 9, 3) := by decide +kernel
theorem dX3_seek_30 : decode cX3_seek 30 = .ok (.arraylength, 1) := by decide +kernel
theorem dX3_seek_31 : decode cX3_seek 31 = .ok (.if_icmp .ge 27, 3) := by decide +kernel
theorem dX3_seek_34 : decode cX3_seek 34 = .ok (.aload_n 0, 1) := by decide +kernel
theorem dX3_seek_35 : decode cX3_seek 35 = .ok (.getfield 9, 3) := by decide +kernel
theorem dX3_seek_38 : decode cX3_seek 38 = .ok (.iload_n 2, 1) := by decide +kernel
theorem dX3_seek_39 : decode cX3_seek 39 = .ok (.iaload, 1) := by decide +kernel
theorem dX3_seek_40 : decode cX3_seek 40 = .ok (.iload_n 1, 1) := by decide +kernel
theorem dX3_seek_41 : decode cX3_seek 41 = .ok (.invokestatic 63, 3) := by decide +kernel
theorem dX3_seek_44 : decode cX3_seek 44 = .ok (.ifCond .eq 8, 3) := by decide +kernel
theorem dX3_seek_47 : decode cX3_seek 47 = .ok (.aload_n 0, 1) := by decide +kernel
theorem dX3_seek_48 : decode cX3_seek 48 = .ok (.iload_n 2, 1) := by decide +kernel
theorem dX3_seek_49 : decode cX3_seek 49 = .ok (.invokevirtual 67, 3) := by decide +kernel
theorem dX3_seek_52 : decode cX3_seek 52 = .ok (.iinc 2 1, 3) := by decide +kernel
theorem dX3_seek_55 : decode cX3_seek 55 = .ok (.goto (-38), 3) := by decide +kernel
theorem dX3_seek_58 : decode cX3_seek 58 = .ok (.aload_n 0, 1) := by decide +kernel
theorem dX3_seek_59 : decode cX3_seek 59 = .ok (.getfield 23, 3) := by decide +kernel
theorem dX3_seek_62 : decode cX3_seek 62 = .ok (.ifCond .eq 7, 3) := by decide +kernel
theorem dX3_seek_65 : decode cX3_seek 65 = .ok (.iconst 1, 1) := by decide +kernel
theorem dX3_seek_66 : decode cX3_seek 66 = .ok (.goto 4, 3) := by decide +kernel
theorem dX3_seek_69 : decode cX3_seek 69 = .ok (.iconst 0, 1) := by decide +kernel
theorem dX3_seek_70 : decode cX3_seek 70 = .ok (.ireturn, 1) := by decide +kernel
theorem dX3_seekSecond_0 : decode cX3_seekSecond 0 = .ok (.iload_n 1, 1) := by decide +kernel
theorem dX3_seekSecond_1 : decode cX3_seekSecond 1 = .ok (.ifCond .lt 21, 3) := by decide +kernel
theorem dX3_seekSecond_4 : decode cX3_seekSecond 4 = .ok (.iload_n 1, 1) := by decide +kernel
theorem dX3_seekSecond_5 : decode cX3_seekSecond 5 = .ok (.aload_n 0, 1) := by decide +kernel
theorem dX3_seekSecond_6 : decode cX3_seekSecond 6 = .ok (.getfield 9, 3) := by decide +kernel
theorem dX3_seekSecond_9 : decode cX3_seekSecond 9 = .ok (.arraylength, 1) := by decide +kernel
theorem dX3_seekSecond_10 : decode cX3_seekSecond 10 = .ok (.if_icmp .ge 12, 3) := by decide +kernel
theorem dX3_seekSecond_13 : decode cX3_seekSecond 13 = .ok (.iload_n 1, 1) := by decide +kernel
theorem dX3_seekSecond_14 : decode cX3_seekSecond 14 = .ok (.aload_n 0, 1) := by decide +kernel
theorem dX3_seekSecond_15 : decode cX3_seekSecond 15 = .ok (.getfield 15, 3) := by decide +kernel
theorem dX3_seekSecond_18 : decode cX3_seekSecond 18 = .ok (.arraylength, 1) := by decide +kernel
theorem dX3_seekSecond_19 : decode cX3_seekSecond 19 = .ok (.if_icmp .lt 4, 3) := by decide +kernel
theorem dX3_seekSecond_22 : decode cX3_seekSecond 22 = .ok (.return_, 1) := by decide +kernel
theorem dX3_seekSecond_23 : decode cX3_seekSecond 23 = .ok (.iconst 0, 1) := by decide +kernel
theorem dX3_seekSecond_24 : decode cX3_seekSecond 24 = .ok (.istore_n 2, 1) := by decide +kernel
theorem dX3_seekSecond_25 : decode cX3_seekSecond 25 = .ok (.iload_n 2, 1) := by decide +kernel
theorem dX3_seekSecond_26 : decode cX3_seekSecond 26 = .ok (.aload_n 0, 1) := by decide +kernel
theorem dX3_seekSecond_27 : decode cX3_seekSecond 27 = .ok (.getfield 19, 3) := by decide +kernel
theorem dX3_seekSecond_30 : decode cX3_seekSecond 30 = .ok (.if_icmp .ge 101, 3) := by decide +kernel
theorem dX3_seekSecond_33 : decode cX3_seekSecond 33 = .ok (.iload_n 2, 1) := by decide +kernel
theorem dX3_seekSecond_34 : decode cX3_seekSecond 34 = .ok (.aload_n 0, 1) := by decide +kernel
theorem dX3_seekSecond_35 : decode cX3_seekSecond 35 = .ok (.getfield 9, 3) := by decide +kernel
theorem dX3_seekSecond_38 : decode cX3_seekSecond 38 = .ok (.arraylength, 1) := by decide +kernel
theorem dX3_seekSecond_39 : decode cX3_seekSecond 39 = .ok (.if_icmp .ge 92, 3) := by decide +kernel
theorem dX3_seekSecond_42 : decode cX3_seekSecond 42 = .ok (.iload_n 2, 1) := by decide +kernel
theorem dX3_seekSecond_43 : decode cX3_seekSecond 43 = .ok (.aload_n 0, 1) := by decide +kernel
theorem dX3_seekSecond_44 : decode cX3_seekSecond 44 = .ok (.getfield 15, 3) := by decide +kernel
theorem dX3_seekSecond_47 : decode cX3_seekSecond 47 = .ok (.arraylength, 1) := by decide +kernel
theorem dX3_seekSecond_48 : decode cX3_seekSecond 48 = .ok (.if_icmp .ge 83, 3) := by decide +kernel
theorem dX3_seekSecond_51 : decode cX3_seekSecond 51 = .ok (.aload_n 0, 1) := by decide +kernel
theorem dX3_seekSecond_52 : decode cX3_seekSecond 52 = .ok (.getfield 9, 3) := by decide +kernel
theorem dX3_seekSecond_55 : decode cX3_seekSecond 55 = .ok (.iload_n 1, 1) := by decide +kernel
theorem dX3_seekSecond_56 : decode cX3_seekSecond 56 = .ok (.iaload, 1) := by decide +kernel
theorem dX3_seekSecond_57 : decode cX3_seekSecond 57 = .ok (.aload_n 0, 1) := by decide +kernel
theorem dX3_seekSecond_58 : decode cX3_seekSecond 58 = .ok (.getfield 9, 3) := by decide +kernel
theorem dX3_seekSecond_61 : decode cX3_seekSecond 61 = .ok (.iload_n 2, 1) := by decide +kernel
theorem dX3_seekSecond_62 : decode cX3_seekSecond 62 = .ok (.iaload, 1) := by decide +kernel
theorem dX3_seekSecond_63 : decode cX3_seekSecond 63 = .ok (.iand, 1) := by decide +kernel
theorem dX3_seekSecond_64 : decode cX3_seekSecond 64 = .ok (.ifCond .ne 61, 3) := by decide +kernel
theorem dX3_seekSecond_67 : decode cX3_seekSecond 67 = .ok (.aload_n 0, 1) := by decide +kernel
theorem dX3_seekSecond_68 : decode cX3_seekSecond 68 = .ok (.getfield 15, 3) := by decide +kernel
theorem dX3_seekSecond_71 : decode cX3_seekSecond 71 = .ok (.iload_n 1, 1) := by decide +kernel
theorem dX3_seekSecond_72 : decode cX3_seekSecond 72 = .ok (.laload, 1) := by decide +kernel
theorem dX3_seekSecond_73 : decode cX3_seekSecond 73 = .ok (.aload_n 0, 1) := by decide +kernel
theorem dX3_seekSecond_74 : decode cX3_seekSecond 74 = .ok (.getfield 15, 3) := by decide +kernel
theorem dX3_seekSecond_77 : decode cX3_seekSecond 77 = .ok (.iload_n 2, 1) := by decide +kernel
theorem dX3_seekSecond_78 : decode cX3_seekSecond 78 = .ok (.laload, 1) := by decide +kernel
theorem dX3_seekSecond_79 : decode cX3_seekSecond 79 = .ok (.lsub, 1) := by decide +kernel
theorem dX3_seekSecond_80 : decode cX3_seekSecond 80 = .ok (.invokestatic 71, 3) := by decide +kernel
theorem dX3_seekSecond_83 : decode cX3_seekSecond 83 = .ok (.lstore_n 3, 1) := by decide +kernel
theorem dX3_seekSecond_84 : decode cX3_seekSecond 84 = .ok (.aload_n 0, 1) := by decide +kernel
theorem dX3_seekSecond_85 : decode cX3_seekSecond 85 = .ok (.getfield 23, 3) := by decide +kernel
theorem dX3_seekSecond_88 : decode cX3_seekSecond 88 = .ok (.ifCond .eq 12, 3) := by decide +kernel
theorem dX3_seekSecond_91 : decode cX3_seekSecond 91 = .ok (.lload_n 3, 1) := by decide +kernel
theorem dX3_seekSecond_92 : decode cX3_seekSecond 92 = .ok (.aload_n 0, 1) := by decide +kernel
theorem dX3_seekSecond_93 : decode cX3_seekSecond 93 = .ok (.getfield 29, 3) := by decide +kernel
theorem dX3_seekSecond_96 : decode cX3_seekSecond 96 = .ok (.lcmp, 1) := by decide +kernel
theorem dX3_seekSecond_97 : decode cX3_seekSecond 97 = .ok (.ifCond .ge 28, 3) := by decide +kernel
theorem dX3_seekSecond_100 : decode cX3_seekSecond 100 = .ok (.aload_n 0, 1) := by decide +kernel
theorem dX3_seekSecond_101 : decode cX3_seekSecond 101 = .ok (.aload_n 0, 1) := by decide +kernel
theorem dX3_seekSecond_102 : decode cX3_seekSecond 102 = .ok (.getfield 9, 3) := by decide +kernel
theorem dX3_seekSecond_105 : decode cX3_seekSecond 105 = .ok (.iload_n 1, 1) := by decide +kernel
theorem dX3_seekSecond_106 : decode cX3_seekSecond 106 = .ok (.iaload, 1) := by decide +kernel
theorem dX3_seekSecond_107 : decode cX3_seekSecond 107 = .ok (.putfield 23, 3) := by decide +kernel
theorem dX3_seekSecond_110 : decode cX3_seekSecond 110 = .ok (.aload_n 0, 1) := by decide +kernel
theorem dX3_seekSecond_111 : decode cX3_seekSecond 111 = .ok (.aload_n 0, 1) := by decide +kernel
theorem dX3_seekSecond_112 : decode cX3_seekSecond 112 = .ok (.getfield 9, 3) := by decide +kernel
theorem dX3_seekSecond_115 : decode cX3_seekSecond 115 = .ok (.iload_n 2, 1) := by decide +kernel
theorem dX3_seekSecond_116 : decode cX3_seekSecond 116 = .ok (.iaload, 1) := by decide +kernel
theorem dX3_seekSecond_117 : decode cX3_seekSecond 117 = .ok (.putfield 26, 3) := by decide +kernel
theorem dX3_seekSecond_120 : decode cX3_seekSecond 120 = .ok (.aload_n 0, 1) := by decide +kernel
theorem dX3_seekSecond_121 : decode cX3_seekSecond 121 = .ok (.lload_n 3, 1) := by decide +kernel
theorem dX3_seekSecond_122 : decode cX3_seekSecond 122 = .ok (.putfield 29, 3) := by decide +kernel
theorem dX3_seekSecond_125 : decode cX3_seekSecond 125 = .ok (.iinc 2 1, 3) := by decide +kernel
theorem dX3_seekSecond_128 : decode cX3_seekSecond 128 = .ok (.goto (-103), 3) := by decide +kernel
theorem dX3_seekSecond_131 : decode cX3_seekSecond 131 = .ok (.return_, 1) := by decide +kernel
theorem dX4_init_0 : decode cX4_init 0 = .ok (.aload_n 0, 1) := by decide +kernel
theorem dX4_init_1 : decode cX4_init 1 = .ok (.invokespecial 3, 3) := by decide +kernel
theorem dX4_init_4 : decode cX4_init 4 = .ok (.aload_n 0, 1) := by decide +kernel
theorem dX4_init_5 : decode cX4_init 5 = .ok (.iconst 5, 1) := by decide +kernel
theorem dX4_init_6 : decode cX4_init 6 = .ok (.newarray .int, 2) := by decide +kernel
theorem dX4_init_8 : decode cX4_init 8 = .ok (.putfield 9, 3) := by decide +kernel
theorem dX4_init_11 : decode cX4_init 11 = .ok (.aload_n 0, 1) := by decide +kernel
theorem dX4_init_12 : decode cX4_init 12 = .ok (.iconst 5, 1) := by decide +kernel
theorem dX4_init_13 : decode cX4_init 13 = .ok (.newarray .int, 2) := by decide +kernel
theorem dX4_init_15 : decode cX4_init 15 = .ok (.putfield 15, 3) := by decide +kernel
theorem dX4_init_18 : decode cX4_init 18 = .ok (.aload_n 0, 1) := by decide +kernel
theorem dX4_init_19 : decode cX4_init 19 = .ok (.iconst 0, 1) := by decide +kernel
theorem dX4_init_20 : decode cX4_init 20 = .ok (.putfield 18, 3) := by decide +kernel
theorem dX4_init_23 : decode cX4_init 23 = .ok (.return_, 1) := by decide +kernel
theorem dX4_add_0 : decode cX4_add 0 = .ok (.aload_n 0, 1) := by decide +kernel
theorem dX4_add_1 : decode cX4_add 1 = .ok (.getfield 18, 3) := by decide +kernel
theorem dX4_add_4 : decode cX4_add 4 = .ok (.ifCond .lt 57, 3) := by decide +kernel
theorem dX4_add_7 : decode cX4_add 7 = .ok (.aload_n 0, 1) := by decide +kernel
theorem dX4_add_8 : decode cX4_add 8 = .ok (.getfield 18, 3) := by decide +kernel
theorem dX4_add_11 : decode cX4_add 11 = .ok (.aload_n 0, 1) := by decide +kernel
theorem dX4_add_12 : decode cX4_add 12 = .ok (.getfield 9, 3) := by decide +kernel
theorem dX4_add_15 : decode cX4_add 15 = .ok (.arraylength, 1) := by decide +kernel
theorem dX4_add_16 : decode cX4_add 16 = .ok (.if_icmp .ge 45, 3) := by decide +kernel
theorem dX4_add_19 : decode cX4_add 19 = .ok (.aload_n 0, 1) := by decide +kernel
theorem dX4_add_20 : decode cX4_add 20 = .ok (.getfield 18, 3) := by decide +kernel
theorem dX4_add_23 : decode cX4_add 23 = .ok (.aload_n 0, 1) := by decide +kernel
theorem dX4_add_24 : decode cX4_add 24 = .ok (.getfield 15, 3) := by decide +kernel
theorem dX4_add_27 : decode cX4_add 27 = .ok (.arraylength, 1) := by decide +kernel
theorem dX4_add_28 : decode cX4_add 28 = .ok (.if_icmp .ge 33, 3) := by decide +kernel
theorem dX4_add_31 : decode cX4_add 31 = .ok (.aload_n 0, 1) := by decide +kernel
theorem dX4_add_32 : decode cX4_add 32 = .ok (.getfield 9, 3) := by decide +kernel
theorem dX4_add_35 : decode cX4_add 35 = .ok (.aload_n 0, 1) := by decide +kernel
theorem dX4_add_36 : decode cX4_add 36 = .ok (.getfield 18, 3) := by decide +kernel
theorem dX4_add_39 : decode cX4_add 39 = .ok (.iload_n 1, 1) := by decide +kernel
theorem dX4_add_40 : decode cX4_add 40 = .ok (.iastore, 1) := by decide +kernel
theorem dX4_add_41 : decode cX4_add 41 = .ok (.aload_n 0, 1) := by decide +kernel
theorem dX4_add_42 : decode cX4_add 42 = .ok (.getfield 15, 3) := by decide +kernel
theorem dX4_add_45 : decode cX4_add 45 = .ok (.aload_n 0, 1) := by decide +kernel
theorem dX4_add_46 : decode cX4_add 46 = .ok (.getfield 18, 3) := by decide +kernel
theorem dX4_add_49 : decode cX4_add 49 = .ok (.iload_n 2, 1) := by decide +kernel
theorem dX4_add_50 : decode cX4_add 50 = .ok (.iastore, 1) := by decide +kernel
theorem dX4_add_51 : decode cX4_add 51 = .ok (.aload_n 0, 1) := by decide +kernel
theorem dX4_add_52 : decode cX4_add 52 = .ok (.dup, 1) := by decide +kernel
theorem dX4_add_53 : decode cX4_add 53 = .ok (.getfield 18, 3) := by decide +kernel
theorem dX4_add_56 : decode cX4_add 56 = .ok (.iconst 1, 1) := by decide +kernel
theorem dX4_add_57 : decode cX4_add 57 = .ok (.iadd, 1) := by decide +kernel
theorem dX4_add_58 : decode cX4_add 58 = .ok (.putfield 18, 3) := by decide +kernel
theorem dX4_add_61 : decode cX4_add 61 = .ok (.return_, 1) := by decide +kernel
theorem dX4_firstAt_0 : decode cX4_firstAt 0 = .ok (.iload_n 1, 1) := by decide +kernel
theorem dX4_firstAt_1 : decode cX4_firstAt 1 = .ok (.ifCond .lt 21, 3) := by decide +kernel
theorem dX4_firstAt_4 : decode cX4_firstAt 4 = .ok (.iload_n 1, 1) := by decide +kernel
theorem dX4_firstAt_5 : decode cX4_firstAt 5 = .ok (.aload_n 0, 1) := by decide +kernel
theorem dX4_firstAt_6 : decode cX4_firstAt 6 = .ok (.getfield 9, 3) := by decide +kernel
theorem dX4_firstAt_9 : decode cX4_firstAt 9 = .ok (.arraylength, 1) := by decide +kernel
theorem dX4_firstAt_10 : decode cX4_firstAt 10 = .ok (.if_icmp .ge 12, 3) := by decide +kernel
theorem dX4_firstAt_13 : decode cX4_firstAt 13 = .ok (.aload_n 0, 1) := by decide +kernel
theorem dX4_firstAt_14 : decode cX4_firstAt 14 = .ok (.getfield 9, 3) := by decide +kernel
theorem dX4_firstAt_17 : decode cX4_firstAt 17 = .ok (.iload_n 1, 1) := by decide +kernel
theorem dX4_firstAt_18 : decode cX4_firstAt 18 = .ok (.iaload, 1) := by decide +kernel
theorem dX4_firstAt_19 : decode cX4_firstAt 19 = .ok (.goto 4, 3) := by decide +kernel
theorem dX4_firstAt_22 : decode cX4_firstAt 22 = .ok (.iconst 0, 1) := by decide +kernel
theorem dX4_firstAt_23 : decode cX4_firstAt 23 = .ok (.ireturn, 1) := by decide +kernel
theorem dX4_secondAt_0 : decode cX4_secondAt 0 = .ok (.iload_n 1, 1) := by decide +kernel
theorem dX4_secondAt_1 : decode cX4_secondAt 1 = .ok (.ifCond .lt 21, 3) := by decide +kernel
theorem dX4_secondAt_4 : decode cX4_secondAt 4 = .ok (.iload_n 1, 1) := by decide +kernel
theorem dX4_secondAt_5 : decode cX4_secondAt 5 = .ok (.aload_n 0, 1) := by decide +kernel
theorem dX4_secondAt_6 : decode cX4_secondAt 6 = .ok (.getfield 15, 3) := by decide +kernel
theorem dX4_secondAt_9 : decode cX4_secondAt 9 = .ok (.arraylength, 1) := by decide +kernel
theorem dX4_secondAt_10 : decode cX4_secondAt 10 = .ok (.if_icmp .ge 12, 3) := by decide +kernel
theorem dX4_secondAt_13 : decode cX4_secondAt 13 = .ok (.aload_n 0, 1) := by decide +kernel
theorem dX4_secondAt_14 : decode cX4_secondAt 14 = .ok (.getfield 15, 3) := by decide +kernel
theorem dX4_secondAt_17 : decode cX4_secondAt 17 = .ok (.iload_n 1, 1) := by decide +kernel
theorem dX4_secondAt_18 : decode cX4_secondAt 18 = .ok (.iaload, 1) := by decide +kernel
theorem dX4_secondAt_19 : decode cX4_secondAt 19 = .ok (.goto 4, 3) := by decide +kernel
theorem dX4_secondAt_22 : decode cX4_secondAt 22 = .ok (.iconst 0, 1) := by decide +kernel
theorem dX4_secondAt_23 : decode cX4_secondAt 23 = .ok (.ireturn, 1) := by decide +kernel
set_option maxRecDepth 20000 in
theorem ggX5_init_X8_evenShare : GoodIn wsX5_init wsX8_evenShare := goodIn_r _ [12, 13, 14] (by decide +kernel) (by decide +kernel)
set_option maxRecDepth 20000 in
theorem gX5_init_X8_evenShare_n28 : GoodIn wsX5_init (wsX8_evenShare) := ggX5_init_X8_evenShare
theorem dX5_init_0 : decode cX5_init 0 = .ok (.aload_n 0, 1) := by decide +kernel
theorem dX5_init_1 : decode cX5_init 1 = .ok (.invokespecial 3, 3) := by decide +kernel
theorem dX5_init_4 : decode cX5_init 4 = .ok (.aload_n 0, 1) := by decide +kernel
theorem dX5_init_5 : decode cX5_init 5 = .ok (.iload_n 1, 1) := by decide +kernel
theorem dX5_init_6 : decode cX5_init 6 = .ok (.putfield 9, 3) := by decide +kernel
theorem dX5_init_9 : decode cX5_init 9 = .ok (.aload_n 0, 1) := by decide +kernel
theorem dX5_init_10 : decode cX5_init 10 = .ok (.bipush 7, 2) := by decide +kernel
theorem dX5_init_12 : decode cX5_init 12 = .ok (.newarray .long, 2) := by decide +kernel
theorem dX5_init_14 : decode cX5_init 14 = .ok (.putfield 15, 3) := by decide +kernel
theorem dX5_init_17 : decode cX5_init 17 = .ok (.aload_n 0, 1) := by decide +kernel
theorem dX5_init_18 : decode cX5_init 18 = .ok (.bipush 7, 2) := by decide +kernel
theorem dX5_init_20 : decode cX5_init 20 = .ok (.newarray .long, 2) := by decide +kernel
theorem dX5_init_22 : decode cX5_init 22 = .ok (.putfield 19, 3) := by decide +kernel
theorem dX5_init_25 : decode cX5_init 25 = .ok (.aload_n 0, 1) := by decide +kernel
theorem dX5_init_26 : decode cX5_init 26 = .ok (.bipush 8, 2) := by decide +kernel
theorem dX5_init_28 : decode cX5_init 28 = .ok (.newarray .long, 2) := by decide +kernel
theorem dX5_init_30 : decode cX5_init 30 = .ok (.putfield 22, 3) := by decide +kernel
theorem dX5_init_33 : decode cX5_init 33 = .ok (.aload_n 0, 1) := by decide +kernel
theorem dX5_init_34 : decode cX5_init 34 = .ok (.iconst 0, 1) := by decide +kernel
theorem dX5_init_35 : decode cX5_init 35 = .ok (.putfield 25, 3) := by decide +kernel
theorem dX5_init_38 : decode cX5_init 38 = .ok (.iconst 0, 1) := by decide +kernel
theorem dX5_init_39 : decode cX5_init 39 = .ok (.istore_n 2, 1) := by decide +kernel
theorem dX5_init_40 : decode cX5_init 40 = .ok (.iload_n 2, 1) := by decide +kernel
theorem dX5_init_41 : decode cX5_init 41 = .ok (.aload_n 0, 1) := by decide +kernel
theorem dX5_init_42 : decode cX5_init 42 = .ok (.getfield 15, 3) := by decide +kernel
theorem dX5_init_45 : decode cX5_init 45 = .ok (.arraylength, 1) := by decide +kernel
theorem dX5_init_46 : decode cX5_init 46 = .ok (.if_icmp .ge 19, 3) := by decide +kernel
theorem dX5_init_49 : decode cX5_init 49 = .ok (.aload_n 0, 1) := by decide +kernel
theorem dX5_init_50 : decode cX5_init 50 = .ok (.getfield 15, 3) := by decide +kernel
theorem dX5_init_53 : decode cX5_init 53 = .ok (.iload_n 2, 1) := by decide +kernel
theorem dX5_init_54 : decode cX5_init 54 = .ok (.iload_n 2, 1) := by decide +kernel
theorem dX5_init_55 : decode cX5_init 55 = .ok (.invokestatic 28, 3) := by decide +kernel
theorem dX5_init_58 : decode cX5_init 58 = .ok (.lastore, 1) := by decide +kernel
theorem dX5_init_59 : decode cX5_init 59 = .ok (.iinc 2 1, 3) := by decide +kernel
theorem dX5_init_62 : decode cX5_init 62 = .ok (.goto (-22), 3) := by decide +kernel
theorem dX5_init_65 : decode cX5_init 65 = .ok (.return_, 1) := by decide +kernel
theorem dX5_ownMean_0 : decode cX5_ownMean 0 = .ok (.lconst 0, 1) := by decide +kernel
theorem dX5_ownMean_1 : decode cX5_ownMean 1 = .ok (.lstore_n 1, 1) := by decide +kernel
theorem dX5_ownMean_2 : decode cX5_ownMean 2 = .ok (.iconst 0, 1) := by decide +kernel
theorem dX5_ownMean_3 : decode cX5_ownMean 3 = .ok (.istore_n 3, 1) := by decide +kernel
theorem dX5_ownMean_4 : decode cX5_ownMean 4 = .ok (.iload_n 3, 1) := by decide +kernel
theorem dX5_ownMean_5 : decode cX5_ownMean 5 = .ok (.aload_n 0, 1) := by decide +kernel
theorem dX5_ownMean_6 : decode cX5_ownMean 6 = .ok (.getfield 15, 3) := by decide +kernel
theorem dX5_ownMean_9 : decode cX5_ownMean 9 = .ok (.arraylength, 1) := by decide +kernel
theorem dX5_ownMean_10 : decode cX5_ownMean 10 = .ok (.if_icmp .ge 21, 3) := by decide +kernel
theorem dX5_ownMean_13 : decode cX5_ownMean 13 = .ok (.lload_n 1, 1) := by decide +kernel
theorem dX5_ownMean_14 : decode cX5_ownMean 14 = .ok (.iload_n 3, 1) := by decide +kernel
theorem dX5_ownMean_15 : decode cX5_ownMean 15 = .ok (.i2l, 1) := by decide +kernel
theorem dX5_ownMean_16 : decode cX5_ownMean 16 = .ok (.aload_n 0, 1) := by decide +kernel
theorem dX5_ownMean_17 : decode cX5_ownMean 17 = .ok (.getfield 15, 3) := by decide +kernel
theorem dX5_ownMean_20 : decode cX5_ownMean 20 = .ok (.iload_n 3, 1) := by decide +kernel
theorem dX5_ownMean_21 : decode cX5_ownMean 21 = .ok (.laload, 1) := by decide +kernel
theorem dX5_ownMean_22 : decode cX5_ownMean 22 = .ok (.lmul, 1) := by decide +kernel
theorem dX5_ownMean_23 : decode cX5_ownMean 23 = .ok (.ladd, 1) := by decide +kernel
theorem dX5_ownMean_24 : decode cX5_ownMean 24 = .ok (.lstore_n 1, 1) := by decide +kernel
theorem dX5_ownMean_25 : decode cX5_ownMean 25 = .ok (.iinc 3 1, 3) := by decide +kernel
theorem dX5_ownMean_28 : decode cX5_ownMean 28 = .ok (.goto (-24), 3) := by decide +kernel
theorem dX5_ownMean_31 : decode cX5_ownMean 31 = .ok (.lload_n 1, 1) := by decide +kernel
theorem dX5_ownMean_32 : decode cX5_ownMean 32 = .ok (.lreturn, 1) := by decide +kernel
set_option maxRecDepth 20000 in
theorem ggX5_drawToTheMiddle_X8_evenShare : GoodIn wsX5_drawToTheMiddle wsX8_evenShare := goodIn_r _ [6, 7, 8] (by decide +kernel) (by decide +kernel)
set_option maxRecDepth 20000 in
theorem gX5_drawToTheMiddle_X8_evenShare_n28 : GoodIn wsX5_drawToTheMiddle (wsX8_evenShare) := ggX5_drawToTheMiddle_X8_evenShare
theorem dX5_drawToTheMiddle_0 : decode cX5_drawToTheMiddle 0 = .ok (.ldc2_w 32, 3) := by decide +kernel
theorem dX5_drawToTheMiddle_3 : decode cX5_drawToTheMiddle 3 = .ok (.lstore_n 1, 1) := by decide +kernel
theorem dX5_drawToTheMiddle_4 : decode cX5_drawToTheMiddle 4 = .ok (.iconst 0, 1) := by decide +kernel
theorem dX5_drawToTheMiddle_5 : decode cX5_drawToTheMiddle 5 = .ok (.istore_n 3, 1) := by decide +kernel
theorem dX5_drawToTheMiddle_6 : decode cX5_drawToTheMiddle 6 = .ok (.iload_n 3, 1) := by decide +kernel
theorem dX5_drawToTheMiddle_7 : decode cX5_drawToTheMiddle 7 = .ok (.aload_n 0, 1) := by decide +kernel
theorem dX5_drawToTheMiddle_8 : decode cX5_drawToTheMiddle 8 = .ok (.getfield 15, 3) := by decide +kernel
theorem dX5_drawToTheMiddle_11 : decode cX5_drawToTheMiddle 11 = .ok (.arraylength, 1) := by decide +kernel
theorem dX5_drawToTheMiddle_12 : decode cX5_drawToTheMiddle 12 = .ok (.if_icmp .ge 39, 3) := by decide +kernel
theorem dX5_drawToTheMiddle_15 : decode cX5_drawToTheMiddle 15 = .ok (.aload_n 0, 1) := by decide +kernel
theorem dX5_drawToTheMiddle_16 : decode cX5_drawToTheMiddle 16 = .ok (.getfield 15, 3) := by decide +kernel
theorem dX5_drawToTheMiddle_19 : decode cX5_drawToTheMiddle 19 = .ok (.iload_n 3, 1) := by decide +kernel
theorem dX5_drawToTheMiddle_20 : decode cX5_drawToTheMiddle 20 = .ok (.aload_n 0, 1) := by decide +kernel
theorem dX5_drawToTheMiddle_21 : decode cX5_drawToTheMiddle 21 = .ok (.getfield 15, 3) := by decide +kernel
theorem dX5_drawToTheMiddle_24 : decode cX5_drawToTheMiddle 24 = .ok (.iload_n 3, 1) := by decide +kernel
theorem dX5_drawToTheMiddle_25 : decode cX5_drawToTheMiddle 25 = .ok (.laload, 1) := by decide +kernel
theorem dX5_drawToTheMiddle_26 : decode cX5_drawToTheMiddle 26 = .ok (.iload_n 3, 1) := by decide +kernel
theorem dX5_drawToTheMiddle_27 : decode cX5_drawToTheMiddle 27 = .ok (.invokestatic 28, 3) := by decide +kernel
theorem dX5_drawToTheMiddle_30 : decode cX5_drawToTheMiddle 30 = .ok (.ladd, 1) := by decide +kernel
theorem dX5_drawToTheMiddle_31 : decode cX5_drawToTheMiddle 31 = .ok (.ldc2_w 34, 3) := by decide +kernel
theorem dX5_drawToTheMiddle_34 : decode cX5_drawToTheMiddle 34 = .ok (.ldiv, 1) := by decide +kernel
theorem dX5_drawToTheMiddle_35 : decode cX5_drawToTheMiddle 35 = .ok (.lastore, 1) := by decide +kernel
theorem dX5_drawToTheMiddle_36 : decode cX5_drawToTheMiddle 36 = .ok (.lload_n 1, 1) := by decide +kernel
theorem dX5_drawToTheMiddle_37 : decode cX5_drawToTheMiddle 37 = .ok (.aload_n 0, 1) := by decide +kernel
theorem dX5_drawToTheMiddle_38 : decode cX5_drawToTheMiddle 38 = .ok (.getfield 15, 3) := by decide +kernel
theorem dX5_drawToTheMiddle_41 : decode cX5_drawToTheMiddle 41 = .ok (.iload_n 3, 1) := by decide +kernel
theorem dX5_drawToTheMiddle_42 : decode cX5_drawToTheMiddle 42 = .ok (.laload, 1) := by decide +kernel
theorem dX5_drawToTheMiddle_43 : decode cX5_drawToTheMiddle 43 = .ok (.lsub, 1) := by decide +kernel
theorem dX5_drawToTheMiddle_44 : decode cX5_drawToTheMiddle 44 = .ok (.lstore_n 1, 1) := by decide +kernel
theorem dX5_drawToTheMiddle_45 : decode cX5_drawToTheMiddle 45 = .ok (.iinc 3 1, 3) := by decide +kernel
theorem dX5_drawToTheMiddle_48 : decode cX5_drawToTheMiddle 48 = .ok (.goto (-42), 3) := by decide +kernel
theorem dX5_drawToTheMiddle_51 : decode cX5_drawToTheMiddle 51 = .ok (.aload_n 0, 1) := by decide +kernel
theorem dX5_drawToTheMiddle_52 : decode cX5_drawToTheMiddle 52 = .ok (.getfield 15, 3) := by decide +kernel
theorem dX5_drawToTheMiddle_55 : decode cX5_drawToTheMiddle 55 = .ok (.iconst 3, 1) := by decide +kernel
theorem dX5_drawToTheMiddle_56 : decode cX5_drawToTheMiddle 56 = .ok (.dup2, 1) := by decide +kernel
theorem dX5_drawToTheMiddle_57 : decode cX5_drawToTheMiddle 57 = .ok (.laload, 1) := by decide +kernel
theorem dX5_drawToTheMiddle_58 : decode cX5_drawToTheMiddle 58 = .ok (.lload_n 1, 1) := by decide +kernel
theorem dX5_drawToTheMiddle_59 : decode cX5_drawToTheMiddle 59 = .ok (.ladd, 1) := by decide +kernel
theorem dX5_drawToTheMiddle_60 : decode cX5_drawToTheMiddle 60 = .ok (.lastore, 1) := by decide +kernel
theorem dX5_drawToTheMiddle_61 : decode cX5_drawToTheMiddle 61 = .ok (.return_, 1) := by decide +kernel
set_option maxRecDepth 20000 in
theorem ggX5_reckonNext_X5_moveNext : GoodIn wsX5_reckonNext wsX5_moveNext := goodIn_r _ [8, 1, 9, 10, 11, 12, 7, 13, 14, 15, 16, 17, 18] (by decide +kernel) (by decide +kernel)
set_option maxRecDepth 20000 in
theorem gX5_reckonNext_X5_moveNext : GoodIn wsX5_reckonNext (wsV RX5 36 RX5 yX5_moveNext wsX5_moveNext) := goodIn_app (goodIn_of _ (by decide +kernel)) ggX5_reckonNext_X5_moveNext
theorem dX5_reckonNext_0 : decode cX5_reckonNext 0 = .ok (.iconst 0, 1) := by decide +kernel
theorem dX5_reckonNext_1 : decode cX5_reckonNext 1 = .ok (.istore_n 2, 1) := by decide +kernel
theorem dX5_reckonNext_2 : decode cX5_reckonNext 2 = .ok (.iload_n 2, 1) := by decide +kernel
theorem dX5_reckonNext_3 : decode cX5_reckonNext 3 = .ok (.aload_n 0, 1) := by decide +kernel
theorem dX5_reckonNext_4 : decode cX5_reckonNext 4 = .ok (.getfield 19, 3) := by decide +kernel
theorem dX5_reckonNext_7 : decode cX5_reckonNext 7 = .ok (.arraylength, 1) := by decide +kernel
theorem dX5_reckonNext_8 : decode cX5_reckonNext 8 = .ok (.if_icmp .ge 30, 3) := by decide +kernel
theorem dX5_reckonNext_11 : decode cX5_reckonNext 11 = .ok (.iload_n 2, 1) := by decide +kernel
theorem dX5_reckonNext_12 : decode cX5_reckonNext 12 = .ok (.aload_n 0, 1) := by decide +kernel
theorem dX5_reckonNext_13 : decode cX5_reckonNext 13 = .ok (.getfield 15, 3) := by decide +kernel
theorem dX5_reckonNext_16 : decode cX5_reckonNext 16 = .ok (.arraylength, 1) := by decide +kernel
theorem dX5_reckonNext_17 : decode cX5_reckonNext 17 = .ok (.if_icmp .ge 21, 3) := by decide +kernel
theorem dX5_reckonNext_20 : decode cX5_reckonNext 20 = .ok (.aload_n 0, 1) := by decide +kernel
theorem dX5_reckonNext_21 : decode cX5_reckonNext 21 = .ok (.getfield 19, 3) := by decide +kernel
theorem dX5_reckonNext_24 : decode cX5_reckonNext 24 = .ok (.iload_n 2, 1) := by decide +kernel
theorem dX5_reckonNext_25 : decode cX5_reckonNext 25 = .ok (.aload_n 0, 1) := by decide +kernel
theorem dX5_reckonNext_26 : decode cX5_reckonNext 26 = .ok (.getfield 15, 3) := by decide +kernel
theorem dX5_reckonNext_29 : decode cX5_reckonNext 29 = .ok (.iload_n 2, 1) := by decide +kernel
theorem dX5_reckonNext_30 : decode cX5_reckonNext 30 = .ok (.laload, 1) := by decide +kernel
theorem dX5_reckonNext_31 : decode cX5_reckonNext 31 = .ok (.lastore, 1) := by decide +kernel
theorem dX5_reckonNext_32 : decode cX5_reckonNext 32 = .ok (.iinc 2 1, 3) := by decide +kernel
theorem dX5_reckonNext_35 : decode cX5_reckonNext 35 = .ok (.goto (-33), 3) := by decide +kernel
theorem dX5_reckonNext_38 : decode cX5_reckonNext 38 = .ok (.aload_n 0, 1) := by decide +kernel
theorem dX5_reckonNext_39 : decode cX5_reckonNext 39 = .ok (.aload_n 1, 1) := by decide +kernel
theorem dX5_reckonNext_40 : decode cX5_reckonNext 40 = .ok (.invokevirtual 36, 3) := by decide +kernel
theorem dX5_reckonNext_43 : decode cX5_reckonNext 43 = .ok (.aload_n 0, 1) := by decide +kernel
theorem dX5_reckonNext_44 : decode cX5_reckonNext 44 = .ok (.getfield 9, 3) := by decide +kernel
theorem dX5_reckonNext_47 : decode cX5_reckonNext 47 = .ok (.iconst 1, 1) := by decide +kernel
theorem dX5_reckonNext_48 : decode cX5_reckonNext 48 = .ok (.if_icmp .ne 8, 3) := by decide +kernel
theorem dX5_reckonNext_51 : decode cX5_reckonNext 51 = .ok (.aload_n 0, 1) := by decide +kernel
theorem dX5_reckonNext_52 : decode cX5_reckonNext 52 = .ok (.aload_n 1, 1) := by decide +kernel
theorem dX5_reckonNext_53 : decode cX5_reckonNext 53 = .ok (.invokevirtual 36, 3) := by decide +kernel
theorem dX5_reckonNext_56 : decode cX5_reckonNext 56 = .ok (.return_, 1) := by decide +kernel
set_option maxRecDepth 20000 in
theorem ggX5_moveNext_X5_greatestNext : GoodIn wsX5_moveNext wsX5_greatestNext := goodIn_r _ [7, 1, 8, 9, 10, 11, 12] (by decide +kernel) (by decide +kernel)
set_option maxRecDepth 20000 in
theorem gX5_moveNext_X5_greatestNext : GoodIn wsX5_moveNext (wsV RX5 40 RX5 yX5_greatestNext wsX5_greatestNext) := goodIn_app (goodIn_of _ (by decide +kernel)) ggX5_moveNext_X5_greatestNext
theorem dX5_moveNext_0 : decode cX5_moveNext 0 = .ok (.lconst 0, 1) := by decide +kernel
theorem dX5_moveNext_1 : decode cX5_moveNext 1 = .ok (.lstore_n 2, 1) := by decide +kernel
theorem dX5_moveNext_2 : decode cX5_moveNext 2 = .ok (.iconst 0, 1) := by decide +kernel
theorem dX5_moveNext_3 : decode cX5_moveNext 3 = .ok (.istore 4, 2) := by decide +kernel
theorem dX5_moveNext_5 : decode cX5_moveNext 5 = .ok (.iload 4, 2) := by decide +kernel
theorem dX5_moveNext_7 : decode cX5_moveNext 7 = .ok (.aload_n 0, 1) := by decide +kernel
theorem dX5_moveNext_8 : decode cX5_moveNext 8 = .ok (.getfield 19, 3) := by decide +kernel
theorem dX5_moveNext_11 : decode cX5_moveNext 11 = .ok (.arraylength, 1) := by decide +kernel
theorem dX5_moveNext_12 : decode cX5_moveNext 12 = .ok (.if_icmp .ge 31, 3) := by decide +kernel
theorem dX5_moveNext_15 : decode cX5_moveNext 15 = .ok (.iload 4, 2) := by decide +kernel
theorem dX5_moveNext_17 : decode cX5_moveNext 17 = .ok (.aload_n 1, 1) := by decide +kernel
theorem dX5_moveNext_18 : decode cX5_moveNext 18 = .ok (.arraylength, 1) := by decide +kernel
theorem dX5_moveNext_19 : decode cX5_moveNext 19 = .ok (.if_icmp .ge 24, 3) := by decide +kernel
theorem dX5_moveNext_22 : decode cX5_moveNext 22 = .ok (.lload_n 2, 1) := by decide +kernel
theorem dX5_moveNext_23 : decode cX5_moveNext 23 = .ok (.aload_n 0, 1) := by decide +kernel
theorem dX5_moveNext_24 : decode cX5_moveNext 24 = .ok (.getfield 19, 3) := by decide +kernel
theorem dX5_moveNext_27 : decode cX5_moveNext 27 = .ok (.iload 4, 2) := by decide +kernel
theorem dX5_moveNext_29 : decode cX5_moveNext 29 = .ok (.laload, 1) := by decide +kernel
theorem dX5_moveNext_30 : decode cX5_moveNext 30 = .ok (.aload_n 1, 1) := by decide +kernel
theorem dX5_moveNext_31 : decode cX5_moveNext 31 = .ok (.iload 4, 2) := by decide +kernel
theorem dX5_moveNext_33 : decode cX5_moveNext 33 = .ok (.laload, 1) := by decide +kernel
theorem dX5_moveNext_34 : decode cX5_moveNext 34 = .ok (.lmul, 1) := by decide +kernel
theorem dX5_moveNext_35 : decode cX5_moveNext 35 = .ok (.ladd, 1) := by decide +kernel
theorem dX5_moveNext_36 : decode cX5_moveNext 36 = .ok (.lstore_n 2, 1) := by decide +kernel
theorem dX5_moveNext_37 : decode cX5_moveNext 37 = .ok (.iinc 4 1, 3) := by decide +kernel
theorem dX5_moveNext_40 : decode cX5_moveNext 40 = .ok (.goto (-35), 3) := by decide +kernel
theorem dX5_moveNext_43 : decode cX5_moveNext 43 = .ok (.lload_n 2, 1) := by decide +kernel
theorem dX5_moveNext_44 : decode cX5_moveNext 44 = .ok (.lconst 0, 1) := by decide +kernel
theorem dX5_moveNext_45 : decode cX5_moveNext 45 = .ok (.lcmp, 1) := by decide +kernel
theorem dX5_moveNext_46 : decode cX5_moveNext 46 = .ok (.ifCond .gt 4, 3) := by decide +kernel
theorem dX5_moveNext_49 : decode cX5_moveNext 49 = .ok (.return_, 1) := by decide +kernel
theorem dX5_moveNext_50 : decode cX5_moveNext 50 = .ok (.ldc2_w 32, 3) := by decide +kernel
theorem dX5_moveNext_53 : decode cX5_moveNext 53 = .ok (.lstore 4, 2) := by decide +kernel
theorem dX5_moveNext_55 : decode cX5_moveNext 55 = .ok (.iconst 0, 1) := by decide +kernel
theorem dX5_moveNext_56 : decode cX5_moveNext 56 = .ok (.istore 6, 2) := by decide +kernel
theorem dX5_moveNext_58 : decode cX5_moveNext 58 = .ok (.iload 6, 2) := by decide +kernel
theorem dX5_moveNext_60 : decode cX5_moveNext 60 = .ok (.aload_n 0, 1) := by decide +kernel
theorem dX5_moveNext_61 : decode cX5_moveNext 61 = .ok (.getfield 19, 3) := by decide +kernel
theorem dX5_moveNext_64 : decode cX5_moveNext 64 = .ok (.arraylength, 1) := by decide +kernel
theorem dX5_moveNext_65 : decode cX5_moveNext 65 = .ok (.if_icmp .ge 53, 3) := by decide +kernel
theorem dX5_moveNext_68 : decode cX5_moveNext 68 = .ok (.iload 6, 2) := by decide +kernel
theorem dX5_moveNext_70 : decode cX5_moveNext 70 = .ok (.aload_n 1, 1) := by decide +kernel
theorem dX5_moveNext_71 : decode cX5_moveNext 71 = .ok (.arraylength, 1) := by decide +kernel
theorem dX5_moveNext_72 : decode cX5_moveNext 72 = .ok (.if_icmp .ge 46, 3) := by decide +kernel
theorem dX5_moveNext_75 : decode cX5_moveNext 75 = .ok (.aload_n 0, 1) := by decide +kernel
theorem dX5_moveNext_76 : decode cX5_moveNext 76 = .ok (.getfield 19, 3) := by decide +kernel
theorem dX5_moveNext_79 : decode cX5_moveNext 79 = .ok (.iload 6, 2) := by decide +kernel
theorem dX5_moveNext_81 : decode cX5_moveNext 81 = .ok (.aload_n 0, 1) := by decide +kernel
theorem dX5_moveNext_82 : decode cX5_moveNext 82 = .ok (.getfield 19, 3) := by decide +kernel
theorem dX5_moveNext_85 : decode cX5_moveNext 85 = .ok (.iload 6, 2) := by decide +kernel
theorem dX5_moveNext_87 : decode cX5_moveNext 87 = .ok (.laload, 1) := by decide +kernel
theorem dX5_moveNext_88 : decode cX5_moveNext 88 = .ok (.aload_n 1, 1) := by decide +kernel
theorem dX5_moveNext_89 : decode cX5_moveNext 89 = .ok (.iload 6, 2) := by decide +kernel
theorem dX5_moveNext_91 : decode cX5_moveNext 91 = .ok (.laload, 1) := by decide +kernel
theorem dX5_moveNext_92 : decode cX5_moveNext 92 = .ok (.lmul, 1) := by decide +kernel
theorem dX5_moveNext_93 : decode cX5_moveNext 93 = .ok (.ldc2_w 32, 3) := by decide +kernel
theorem dX5_moveNext_96 : decode cX5_moveNext 96 = .ok (.lmul, 1) := by decide +kernel
theorem dX5_moveNext_97 : decode cX5_moveNext 97 = .ok (.lload_n 2, 1) := by decide +kernel
theorem dX5_moveNext_98 : decode cX5_moveNext 98 = .ok (.ldiv, 1) := by decide +kernel
theorem dX5_moveNext_99 : decode cX5_moveNext 99 = .ok (.lastore, 1) := by decide +kernel
theorem dX5_moveNext_100 : decode cX5_moveNext 100 = .ok (.lload 4, 2) := by decide +kernel
theorem dX5_moveNext_102 : decode cX5_moveNext 102 = .ok (.aload_n 0, 1) := by decide +kernel
theorem dX5_moveNext_103 : decode cX5_moveNext 103 = .ok (.getfield 19, 3) := by decide +kernel
theorem dX5_moveNext_106 : decode cX5_moveNext 106 = .ok (.iload 6, 2) := by decide +kernel
theorem dX5_moveNext_108 : decode cX5_moveNext 108 = .ok (.laload, 1) := by decide +kernel
theorem dX5_moveNext_109 : decode cX5_moveNext 109 = .ok (.lsub, 1) := by decide +kernel
theorem dX5_moveNext_110 : decode cX5_moveNext 110 = .ok (.lstore 4, 2) := by decide +kernel
theorem dX5_moveNext_112 : decode cX5_moveNext 112 = .ok (.iinc 6 1, 3) := by decide +kernel
theorem dX5_moveNext_115 : decode cX5_moveNext 115 = .ok (.goto (-57), 3) := by decide +kernel
theorem dX5_moveNext_118 : decode cX5_moveNext 118 = .ok (.aload_n 0, 1) := by decide +kernel
theorem dX5_moveNext_119 : decode cX5_moveNext 119 = .ok (.getfield 19, 3) := by decide +kernel
theorem dX5_moveNext_122 : decode cX5_moveNext 122 = .ok (.aload_n 0, 1) := by decide +kernel
theorem dX5_moveNext_123 : decode cX5_moveNext 123 = .ok (.invokevirtual 40, 3) := by decide +kernel
theorem dX5_moveNext_126 : decode cX5_moveNext 126 = .ok (.dup2, 1) := by decide +kernel
theorem dX5_moveNext_127 : decode cX5_moveNext 127 = .ok (.laload, 1) := by decide +kernel
theorem dX5_moveNext_128 : decode cX5_moveNext 128 = .ok (.lload 4, 2) := by decide +kernel
theorem dX5_moveNext_130 : decode cX5_moveNext 130 = .ok (.ladd, 1) := by decide +kernel
theorem dX5_moveNext_131 : decode cX5_moveNext 131 = .ok (.lastore, 1) := by decide +kernel
theorem dX5_moveNext_132 : decode cX5_moveNext 132 = .ok (.return_, 1) := by decide +kernel
theorem dX5_greatestNext_0 : decode cX5_greatestNext 0 = .ok (.iconst 0, 1) := by decide +kernel
theorem dX5_greatestNext_1 : decode cX5_greatestNext 1 = .ok (.istore_n 1, 1) := by decide +kernel
theorem dX5_greatestNext_2 : decode cX5_greatestNext 2 = .ok (.iconst 1, 1) := by decide +kernel
theorem dX5_greatestNext_3 : decode cX5_greatestNext 3 = .ok (.istore_n 2, 1) := by decide +kernel
theorem dX5_greatestNext_4 : decode cX5_greatestNext 4 = .ok (.iload_n 2, 1) := by decide +kernel
theorem dX5_greatestNext_5 : decode cX5_greatestNext 5 = .ok (.aload_n 0, 1) := by decide +kernel
theorem dX5_greatestNext_6 : decode cX5_greatestNext 6 = .ok (.getfield 19, 3) := by decide +kernel
theorem dX5_greatestNext_9 : decode cX5_greatestNext 9 = .ok (.arraylength, 1) := by decide +kernel
theorem dX5_greatestNext_10 : decode cX5_greatestNext 10 = .ok (.if_icmp .ge 27, 3) := by decide +kernel
theorem dX5_greatestNext_13 : decode cX5_greatestNext 13 = .ok (.aload_n 0, 1) := by decide +kernel
theorem dX5_greatestNext_14 : decode cX5_greatestNext 14 = .ok (.getfield 19, 3) := by decide +kernel
theorem dX5_greatestNext_17 : decode cX5_greatestNext 17 = .ok (.iload_n 2, 1) := by decide +kernel
theorem dX5_greatestNext_18 : decode cX5_greatestNext 18 = .ok (.laload, 1) := by decide +kernel
theorem dX5_greatestNext_19 : decode cX5_greatestNext 19 = .ok (.aload_n 0, 1) := by decide +kernel
theorem dX5_greatestNext_20 : decode cX5_greatestNext 20 = .ok (.getfield 19, 3) := by decide +kernel
theorem dX5_greatestNext_23 : decode cX5_greatestNext 23 = .ok (.iload_n 1, 1) := by decide +kernel
theorem dX5_greatestNext_24 : decode cX5_greatestNext 24 = .ok (.laload, 1) := by decide +kernel
theorem dX5_greatestNext_25 : decode cX5_greatestNext 25 = .ok (.lcmp, 1) := by decide +kernel
theorem dX5_greatestNext_26 : decode cX5_greatestNext 26 = .ok (.ifCond .le 5, 3) := by decide +kernel
theorem dX5_greatestNext_29 : decode cX5_greatestNext 29 = .ok (.iload_n 2, 1) := by decide +kernel
theorem dX5_greatestNext_30 : decode cX5_greatestNext 30 = .ok (.istore_n 1, 1) := by decide +kernel
theorem dX5_greatestNext_31 : decode cX5_greatestNext 31 = .ok (.iinc 2 1, 3) := by decide +kernel
theorem dX5_greatestNext_34 : decode cX5_greatestNext 34 = .ok (.goto (-30), 3) := by decide +kernel
theorem dX5_greatestNext_37 : decode cX5_greatestNext 37 = .ok (.iload_n 1, 1) := by decide +kernel
theorem dX5_greatestNext_38 : decode cX5_greatestNext 38 = .ok (.ireturn, 1) := by decide +kernel
theorem dX5_settle_0 : decode cX5_settle 0 = .ok (.iconst 0, 1) := by decide +kernel
theorem dX5_settle_1 : decode cX5_settle 1 = .ok (.istore_n 1, 1) := by decide +kernel
theorem dX5_settle_2 : decode cX5_settle 2 = .ok (.iload_n 1, 1) := by decide +kernel
theorem dX5_settle_3 : decode cX5_settle 3 = .ok (.aload_n 0, 1) := by decide +kernel
theorem dX5_settle_4 : decode cX5_settle 4 = .ok (.getfield 15, 3) := by decide +kernel
theorem dX5_settle_7 : decode cX5_settle 7 = .ok (.arraylength, 1) := by decide +kernel
theorem dX5_settle_8 : decode cX5_settle 8 = .ok (.if_icmp .ge 30, 3) := by decide +kernel
theorem dX5_settle_11 : decode cX5_settle 11 = .ok (.iload_n 1, 1) := by decide +kernel
theorem dX5_settle_12 : decode cX5_settle 12 = .ok (.aload_n 0, 1) := by decide +kernel
theorem dX5_settle_13 : decode cX5_settle 13 = .ok (.getfield 19, 3) := by decide +kernel
theorem dX5_settle_16 : decode cX5_settle 16 = .ok (.arraylength, 1) := by decide +kernel
theorem dX5_settle_17 : decode cX5_settle 17 = .ok (.if_icmp .ge 21, 3) := by decide +kernel
theorem dX5_settle_20 : decode cX5_settle 20 = .ok (.aload_n 0, 1) := by decide +kernel
theorem dX5_settle_21 : decode cX5_settle 21 = .ok (.getfield 15, 3) := by decide +kernel
theorem dX5_settle_24 : decode cX5_settle 24 = .ok (.iload_n 1, 1) := by decide +kernel
theorem dX5_settle_25 : decode cX5_settle 25 = .ok (.aload_n 0, 1) := by decide +kernel
theorem dX5_settle_26 : decode cX5_settle 26 = .ok (.getfield 19, 3) := by decide +kernel
theorem dX5_settle_29 : decode cX5_settle 29 = .ok (.iload_n 1, 1) := by decide +kernel
theorem dX5_settle_30 : decode cX5_settle 30 = .ok (.laload, 1) := by decide +kernel
theorem dX5_settle_31 : decode cX5_settle 31 = .ok (.lastore, 1) := by decide +kernel
theorem dX5_settle_32 : decode cX5_settle 32 = .ok (.iinc 1 1, 3) := by decide +kernel
theorem dX5_settle_35 : decode cX5_settle 35 = .ok (.goto (-33), 3) := by decide +kernel
theorem dX5_settle_38 : decode cX5_settle 38 = .ok (.return_, 1) := by decide +kernel
theorem dX5_keepSurprise_0 : decode cX5_keepSurprise 0 = .ok (.aload_n 0, 1) := by decide +kernel
theorem dX5_keepSurprise_1 : decode cX5_keepSurprise 1 = .ok (.getfield 25, 3) := by decide +kernel
theorem dX5_keepSurprise_4 : decode cX5_keepSurprise 4 = .ok (.aload_n 0, 1) := by decide +kernel
theorem dX5_keepSurprise_5 : decode cX5_keepSurprise 5 = .ok (.getfield 22, 3) := by decide +kernel
theorem dX5_keepSurprise_8 : decode cX5_keepSurprise 8 = .ok (.arraylength, 1) := by decide +kernel
theorem dX5_keepSurprise_9 : decode cX5_keepSurprise 9 = .ok (.if_icmp .lt 45, 3) := by decide +kernel
theorem dX5_keepSurprise_12 : decode cX5_keepSurprise 12 = .ok (.iconst 1, 1) := by decide +kernel
theorem dX5_keepSurprise_13 : decode cX5_keepSurprise 13 = .ok (.istore_n 3, 1) := by decide +kernel
theorem dX5_keepSurprise_14 : decode cX5_keepSurprise 14 = .ok (.iload_n 3, 1) := by decide +kernel
theorem dX5_keepSurprise_15 : decode cX5_keepSurprise 15 = .ok (.aload_n 0, 1) := by decide +kernel
theorem dX5_keepSurprise_16 : decode cX5_keepSurprise 16 = .ok (.getfield 22, 3) := by decide +kernel
theorem dX5_keepSurprise_19 : decode cX5_keepSurprise 19 = .ok (.arraylength, 1) := by decide +kernel
theorem dX5_keepSurprise_20 : decode cX5_keepSurprise 20 = .ok (.if_icmp .ge 23, 3) := by decide +kernel
theorem dX5_keepSurprise_23 : decode cX5_keepSurprise 23 = .ok (.aload_n 0, 1) := by decide +kernel
theorem dX5_keepSurprise_24 : decode cX5_keepSurprise 24 = .ok (.getfield 22, 3) := by decide +kernel
theorem dX5_keepSurprise_27 : decode cX5_keepSurprise 27 = .ok (.iload_n 3, 1) := by decide +kernel
theorem dX5_keepSurprise_28 : decode cX5_keepSurprise 28 = .ok (.iconst 1, 1) := by decide +kernel
theorem dX5_keepSurprise_29 : decode cX5_keepSurprise 29 = .ok (.isub, 1) := by decide +kernel
theorem dX5_keepSurprise_30 : decode cX5_keepSurprise 30 = .ok (.aload_n 0, 1) := by decide +kernel
theorem dX5_keepSurprise_31 : decode cX5_keepSurprise 31 = .ok (.getfield 22, 3) := by decide +kernel
theorem dX5_keepSurprise_34 : decode cX5_keepSurprise 34 = .ok (.iload_n 3, 1) := by decide +kernel
theorem dX5_keepSurprise_35 : decode cX5_keepSurprise 35 = .ok (.laload, 1) := by decide +kernel
theorem dX5_keepSurprise_36 : decode cX5_keepSurprise 36 = .ok (.lastore, 1) := by decide +kernel
theorem dX5_keepSurprise_37 : decode cX5_keepSurprise 37 = .ok (.iinc 3 1, 3) := by decide +kernel
theorem dX5_keepSurprise_40 : decode cX5_keepSurprise 40 = .ok (.goto (-26), 3) := by decide +kernel
theorem dX5_keepSurprise_43 : decode cX5_keepSurprise 43 = .ok (.aload_n 0, 1) := by decide +kernel
theorem dX5_keepSurprise_44 : decode cX5_keepSurprise 44 = .ok (.aload_n 0, 1) := by decide +kernel
theorem dX5_keepSurprise_45 : decode cX5_keepSurprise 45 = .ok (.getfield 22, 3) := by decide +kernel
theorem dX5_keepSurprise_48 : decode cX5_keepSurprise 48 = .ok (.arraylength, 1) := by decide +kernel
theorem dX5_keepSurprise_49 : decode cX5_keepSurprise 49 = .ok (.iconst 1, 1) := by decide +kernel
theorem dX5_keepSurprise_50 : decode cX5_keepSurprise 50 = .ok (.isub, 1) := by decide +kernel
theorem dX5_keepSurprise_51 : decode cX5_keepSurprise 51 = .ok (.putfield 25, 3) := by decide +kernel
theorem dX5_keepSurprise_54 : decode cX5_keepSurprise 54 = .ok (.aload_n 0, 1) := by decide +kernel
theorem dX5_keepSurprise_55 : decode cX5_keepSurprise 55 = .ok (.getfield 22, 3) := by decide +kernel
theorem dX5_keepSurprise_58 : decode cX5_keepSurprise 58 = .ok (.aload_n 0, 1) := by decide +kernel
theorem dX5_keepSurprise_59 : decode cX5_keepSurprise 59 = .ok (.getfield 25, 3) := by decide +kernel
theorem dX5_keepSurprise_62 : decode cX5_keepSurprise 62 = .ok (.lload_n 1, 1) := by decide +kernel
theorem dX5_keepSurprise_63 : decode cX5_keepSurprise 63 = .ok (.lastore, 1) := by decide +kernel
theorem dX5_keepSurprise_64 : decode cX5_keepSurprise 64 = .ok (.aload_n 0, 1) := by decide +kernel
theorem dX5_keepSurprise_65 : decode cX5_keepSurprise 65 = .ok (.dup, 1) := by decide +kernel
theorem dX5_keepSurprise_66 : decode cX5_keepSurprise 66 = .ok (.getfield 25, 3) := by decide +kernel
theorem dX5_keepSurprise_69 : decode cX5_keepSurprise 69 = .ok (.iconst 1, 1) := by decide +kernel
theorem dX5_keepSurprise_70 : decode cX5_keepSurprise 70 = .ok (.iadd, 1) := by decide +kernel
theorem dX5_keepSurprise_71 : decode cX5_keepSurprise 71 = .ok (.putfield 25, 3) := by decide +kernel
theorem dX5_keepSurprise_74 : decode cX5_keepSurprise 74 = .ok (.return_, 1) := by decide +kernel
theorem dX5_sumOfSurprises_0 : decode cX5_sumOfSurprises 0 = .ok (.lconst 0, 1) := by decide +kernel
theorem dX5_sumOfSurprises_1 : decode cX5_sumOfSurprises 1 = .ok (.lstore_n 1, 1) := by decide +kernel
theorem dX5_sumOfSurprises_2 : decode cX5_sumOfSurprises 2 = .ok (.iconst 0, 1) := by decide +kernel
theorem dX5_sumOfSurprises_3 : decode cX5_sumOfSurprises 3 = .ok (.istore_n 3, 1) := by decide +kernel
theorem dX5_sumOfSurprises_4 : decode cX5_sumOfSurprises 4 = .ok (.iload_n 3, 1) := by decide +kernel
theorem dX5_sumOfSurprises_5 : decode cX5_sumOfSurprises 5 = .ok (.aload_n 0, 1) := by decide +kernel
theorem dX5_sumOfSurprises_6 : decode cX5_sumOfSurprises 6 = .ok (.getfield 25, 3) := by decide +kernel
theorem dX5_sumOfSurprises_9 : decode cX5_sumOfSurprises 9 = .ok (.if_icmp .ge 27, 3) := by decide +kernel
theorem dX5_sumOfSurprises_12 : decode cX5_sumOfSurprises 12 = .ok (.iload_n 3, 1) := by decide +kernel
theorem dX5_sumOfSurprises_13 : decode cX5_sumOfSurprises 13 = .ok (.aload_n 0, 1) := by decide +kernel
theorem dX5_sumOfSurprises_14 : decode cX5_sumOfSurprises 14 = .ok (.getfield 22, 3) := by decide +kernel
theorem dX5_sumOfSurprises_17 : decode cX5_sumOfSurprises 17 = .ok (.arraylength, 1) := by decide +kernel
theorem dX5_sumOfSurprises_18 : decode cX5_sumOfSurprises 18 = .ok (.if_icmp .ge 18, 3) := by decide +kernel
theorem dX5_sumOfSurprises_21 : decode cX5_sumOfSurprises 21 = .ok (.lload_n 1, 1) := by decide +kernel
theorem dX5_sumOfSurprises_22 : decode cX5_sumOfSurprises 22 = .ok (.aload_n 0, 1) := by decide +kernel
theorem dX5_sumOfSurprises_23 : decode cX5_sumOfSurprises 23 = .ok (.getfield 22, 3) := by decide +kernel
theorem dX5_sumOfSurprises_26 : decode cX5_sumOfSurprises 26 = .ok (.iload_n 3, 1) := by decide +kernel
theorem dX5_sumOfSurprises_27 : decode cX5_sumOfSurprises 27 = .ok (.laload, 1) := by decide +kernel
theorem dX5_sumOfSurprises_28 : decode cX5_sumOfSurprises 28 = .ok (.ladd, 1) := by decide +kernel
theorem dX5_sumOfSurprises_29 : decode cX5_sumOfSurprises 29 = .ok (.lstore_n 1, 1) := by decide +kernel
theorem dX5_sumOfSurprises_30 : decode cX5_sumOfSurprises 30 = .ok (.iinc 3 1, 3) := by decide +kernel
theorem dX5_sumOfSurprises_33 : decode cX5_sumOfSurprises 33 = .ok (.goto (-29), 3) := by decide +kernel
theorem dX5_sumOfSurprises_36 : decode cX5_sumOfSurprises 36 = .ok (.lload_n 1, 1) := by decide +kernel
theorem dX5_sumOfSurprises_37 : decode cX5_sumOfSurprises 37 = .ok (.lreturn, 1) := by decide +kernel
theorem dX6_init_0 : decode cX6_init 0 = .ok (.aload_n 0, 1) := by decide +kernel
theorem dX6_init_1 : decode cX6_init 1 = .ok (.invokespecial 3, 3) := by decide +kernel
theorem dX6_init_4 : decode cX6_init 4 = .ok (.aload_n 0, 1) := by decide +kernel
theorem dX6_init_5 : decode cX6_init 5 = .ok (.bipush 16, 2) := by decide +kernel
theorem dX6_init_7 : decode cX6_init 7 = .ok (.anewarray 9, 3) := by decide +kernel
theorem dX6_init_10 : decode cX6_init 10 = .ok (.putfield 11, 3) := by decide +kernel
theorem dX6_init_13 : decode cX6_init 13 = .ok (.aload_n 0, 1) := by decide +kernel
theorem dX6_init_14 : decode cX6_init 14 = .ok (.bipush 7, 2) := by decide +kernel
theorem dX6_init_16 : decode cX6_init 16 = .ok (.newarray .long, 2) := by decide +kernel
theorem dX6_init_18 : decode cX6_init 18 = .ok (.putfield 17, 3) := by decide +kernel
theorem dX6_init_21 : decode cX6_init 21 = .ok (.aload_n 0, 1) := by decide +kernel
theorem dX6_init_22 : decode cX6_init 22 = .ok (.iconst 0, 1) := by decide +kernel
theorem dX6_init_23 : decode cX6_init 23 = .ok (.putfield 21, 3) := by decide +kernel
theorem dX6_init_26 : decode cX6_init 26 = .ok (.return_, 1) := by decide +kernel
theorem dX6_at_0 : decode cX6_at 0 = .ok (.iload_n 1, 1) := by decide +kernel
theorem dX6_at_1 : decode cX6_at 1 = .ok (.ifCond .lt 20, 3) := by decide +kernel
theorem dX6_at_4 : decode cX6_at 4 = .ok (.iload_n 1, 1) := by decide +kernel
theorem dX6_at_5 : decode cX6_at 5 = .ok (.aload_n 0, 1) := by decide +kernel
theorem dX6_at_6 : decode cX6_at 6 = .ok (.getfield 21, 3) := by decide +kernel
theorem dX6_at_9 : decode cX6_at 9 = .ok (.if_icmp .ge 12, 3) := by decide +kernel
theorem dX6_at_12 : decode cX6_at 12 = .ok (.iload_n 1, 1) := by decide +kernel
theorem dX6_at_13 : decode cX6_at 13 = .ok (.aload_n 0, 1) := by decide +kernel
theorem dX6_at_14 : decode cX6_at 14 = .ok (.getfield 11, 3) := by decide +kernel
theorem dX6_at_17 : decode cX6_at 17 = .ok (.arraylength, 1) := by decide +kernel
theorem dX6_at_18 : decode cX6_at 18 = .ok (.if_icmp .lt 5, 3) := by decide +kernel
theorem dX6_at_21 : decode cX6_at 21 = .ok (.aconst_null, 1) := by decide +kernel
theorem dX6_at_22 : decode cX6_at 22 = .ok (.areturn, 1) := by decide +kernel
theorem dX6_at_23 : decode cX6_at 23 = .ok (.aload_n 0, 1) := by decide +kernel
theorem dX6_at_24 : decode cX6_at 24 = .ok (.getfield 11, 3) := by decide +kernel
theorem dX6_at_27 : decode cX6_at 27 = .ok (.iload_n 1, 1) := by decide +kernel
theorem dX6_at_28 : decode cX6_at 28 = .ok (.aaload, 1) := by decide +kernel
theorem dX6_at_29 : decode cX6_at 29 = .ok (.areturn, 1) := by decide +kernel
set_option maxRecDepth 20000 in
theorem ggX6_admit_X5_init : GoodIn wsX6_admit wsX5_init := goodIn_r _ [8, 9, 10, 11, 12, 13, 14, 15, 16, 17, 18, 19, 20, 21, 22, 26, 27, 28, 29, 30] (by decide +kernel) (by decide +kernel)
set_option maxRecDepth 20000 in
theorem gX6_admit_X5_init : GoodIn wsX6_admit (wsX5_init) := ggX6_admit_X5_init
theorem dX6_admit_0 : decode cX6_admit 0 = .ok (.aload_n 0, 1) := by decide +kernel
theorem dX6_admit_1 : decode cX6_admit 1 = .ok (.getfield 21, 3) := by decide +kernel
theorem dX6_admit_4 : decode cX6_admit 4 = .ok (.ifCond .lt 15, 3) := by decide +kernel
theorem dX6_admit_7 : decode cX6_admit 7 = .ok (.aload_n 0, 1) := by decide +kernel
theorem dX6_admit_8 : decode cX6_admit 8 = .ok (.getfield 21, 3) := by decide +kernel
theorem dX6_admit_11 : decode cX6_admit 11 = .ok (.aload_n 0, 1) := by decide +kernel
theorem dX6_admit_12 : decode cX6_admit 12 = .ok (.getfield 11, 3) := by decide +kernel
theorem dX6_admit_15 : decode cX6_admit 15 = .ok (.arraylength, 1) := by decide +kernel
theorem dX6_admit_16 : decode cX6_admit 16 = .ok (.if_icmp .lt 5, 3) := by decide +kernel
theorem dX6_admit_19 : decode cX6_admit 19 = .ok (.iconst (-1), 1) := by decide +kernel
theorem dX6_admit_20 : decode cX6_admit 20 = .ok (.ireturn, 1) := by decide +kernel
theorem dX6_admit_21 : decode cX6_admit 21 = .ok (.aload_n 0, 1) := by decide +kernel
theorem dX6_admit_22 : decode cX6_admit 22 = .ok (.getfield 11, 3) := by decide +kernel
theorem dX6_admit_25 : decode cX6_admit 25 = .ok (.aload_n 0, 1) := by decide +kernel
theorem dX6_admit_26 : decode cX6_admit 26 = .ok (.getfield 21, 3) := by decide +kernel
theorem dX6_admit_29 : decode cX6_admit 29 = .ok (.new 9, 3) := by decide +kernel
theorem dX6_admit_32 : decode cX6_admit 32 = .ok (.dup, 1) := by decide +kernel
theorem dX6_admit_33 : decode cX6_admit 33 = .ok (.iload_n 1, 1) := by decide +kernel
theorem dX6_admit_34 : decode cX6_admit 34 = .ok (.invokespecial 25, 3) := by decide +kernel
theorem dX6_admit_37 : decode cX6_admit 37 = .ok (.aastore, 1) := by decide +kernel
theorem dX6_admit_38 : decode cX6_admit 38 = .ok (.aload_n 0, 1) := by decide +kernel
theorem dX6_admit_39 : decode cX6_admit 39 = .ok (.dup, 1) := by decide +kernel
theorem dX6_admit_40 : decode cX6_admit 40 = .ok (.getfield 21, 3) := by decide +kernel
theorem dX6_admit_43 : decode cX6_admit 43 = .ok (.iconst 1, 1) := by decide +kernel
theorem dX6_admit_44 : decode cX6_admit 44 = .ok (.iadd, 1) := by decide +kernel
theorem dX6_admit_45 : decode cX6_admit 45 = .ok (.putfield 21, 3) := by decide +kernel
theorem dX6_admit_48 : decode cX6_admit 48 = .ok (.aload_n 0, 1) := by decide +kernel
theorem dX6_admit_49 : decode cX6_admit 49 = .ok (.getfield 21, 3) := by decide +kernel
theorem dX6_admit_52 : decode cX6_admit 52 = .ok (.iconst 1, 1) := by decide +kernel
theorem dX6_admit_53 : decode cX6_admit 53 = .ok (.isub, 1) := by decide +kernel
theorem dX6_admit_54 : decode cX6_admit 54 = .ok (.ireturn, 1) := by decide +kernel
set_option maxRecDepth 20000 in
theorem ggX6_drawToTheMiddle_X6_at : GoodIn wsX6_drawToTheMiddle wsX6_at := goodIn_r _ [6, 7, 1, 21, 22, 23] (by decide +kernel) (by decide +kernel)
set_option maxRecDepth 20000 in
theorem gX6_drawToTheMiddle_X6_at : GoodIn wsX6_drawToTheMiddle (wsV RX6 28 RX6 yX6_at wsX6_at) := goodIn_app (goodIn_of _ (by decide +kernel)) ggX6_drawToTheMiddle_X6_at
set_option maxRecDepth 20000 in
theorem ggX6_drawToTheMiddle_X5_drawToTheMiddle : GoodIn wsX6_drawToTheMiddle wsX5_drawToTheMiddle := goodIn_r _ [12, 13, 14, 15, 16, 17, 18, 19, 20, 24, 25, 26, 27, 28] (by decide +kernel) (by decide +kernel)
set_option maxRecDepth 20000 in
theorem gX6_drawToTheMiddle_X5_drawToTheMiddle : GoodIn wsX6_drawToTheMiddle (wsV RX6 32 RX5 yX5_drawToTheMiddle wsX5_drawToTheMiddle) := goodIn_app (goodIn_of _ (by decide +kernel)) ggX6_drawToTheMiddle_X5_drawToTheMiddle
theorem dX6_drawToTheMiddle_0 : decode cX6_drawToTheMiddle 0 = .ok (.iconst 0, 1) := by decide +kernel
theorem dX6_drawToTheMiddle_1 : decode cX6_drawToTheMiddle 1 = .ok (.istore_n 1, 1) := by decide +kernel
theorem dX6_drawToTheMiddle_2 : decode cX6_drawToTheMiddle 2 = .ok (.iload_n 1, 1) := by decide +kernel
theorem dX6_drawToTheMiddle_3 : decode cX6_drawToTheMiddle 3 = .ok (.aload_n 0, 1) := by decide +kernel
theorem dX6_drawToTheMiddle_4 : decode cX6_drawToTheMiddle 4 = .ok (.getfield 11, 3) := by decide +kernel
theorem dX6_drawToTheMiddle_7 : decode cX6_drawToTheMiddle 7 = .ok (.arraylength, 1) := by decide +kernel
theorem dX6_drawToTheMiddle_8 : decode cX6_drawToTheMiddle 8 = .ok (.if_icmp .ge 23, 3) := by decide +kernel
theorem dX6_drawToTheMiddle_11 : decode cX6_drawToTheMiddle 11 = .ok (.aload_n 0, 1) := by decide +kernel
theorem dX6_drawToTheMiddle_12 : decode cX6_drawToTheMiddle 12 = .ok (.iload_n 1, 1) := by decide +kernel
theorem dX6_drawToTheMiddle_13 : decode cX6_drawToTheMiddle 13 = .ok (.invokevirtual 28, 3) := by decide +kernel
theorem dX6_drawToTheMiddle_16 : decode cX6_drawToTheMiddle 16 = .ok (.astore_n 2, 1) := by decide +kernel
theorem dX6_drawToTheMiddle_17 : decode cX6_drawToTheMiddle 17 = .ok (.aload_n 2, 1) := by decide +kernel
theorem dX6_drawToTheMiddle_18 : decode cX6_drawToTheMiddle 18 = .ok (.ifnull 7, 3) := by decide +kernel
theorem dX6_drawToTheMiddle_21 : decode cX6_drawToTheMiddle 21 = .ok (.aload_n 2, 1) := by decide +kernel
theorem dX6_drawToTheMiddle_22 : decode cX6_drawToTheMiddle 22 = .ok (.invokevirtual 32, 3) := by decide +kernel
theorem dX6_drawToTheMiddle_25 : decode cX6_drawToTheMiddle 25 = .ok (.iinc 1 1, 3) := by decide +kernel
theorem dX6_drawToTheMiddle_28 : decode cX6_drawToTheMiddle 28 = .ok (.goto (-26), 3) := by decide +kernel
theorem dX6_drawToTheMiddle_31 : decode cX6_drawToTheMiddle 31 = .ok (.return_, 1) := by decide +kernel
set_option maxRecDepth 20000 in
theorem ggX6_meansOf_X6_at : GoodIn wsX6_meansOf wsX6_at := goodIn_r _ [6, 7, 1, 17, 18, 19] (by decide +kernel) (by decide +kernel)
set_option maxRecDepth 20000 in
theorem gX6_meansOf_X6_at : GoodIn wsX6_meansOf (wsV RX6 28 RX6 yX6_at wsX6_at) := goodIn_app (goodIn_of _ (by decide +kernel)) ggX6_meansOf_X6_at
set_option maxRecDepth 20000 in
theorem ggX6_meansOf_X8_hasBit : GoodIn wsX6_meansOf wsX8_hasBit := goodIn_r _ [10] (by decide +kernel) (by decide +kernel)
set_option maxRecDepth 20000 in
theorem gX6_meansOf_X8_hasBit_n35 : GoodIn wsX6_meansOf (wsX8_hasBit) := ggX6_meansOf_X8_hasBit
set_option maxRecDepth 20000 in
theorem ggX6_meansOf_X5_ownMean : GoodIn wsX6_meansOf wsX5_ownMean := goodIn_r _ [15, 16, 20, 21, 22, 23, 24] (by decide +kernel) (by decide +kernel)
set_option maxRecDepth 20000 in
theorem gX6_meansOf_X5_ownMean : GoodIn wsX6_meansOf (wsV RX6 39 RX5 yX5_ownMean wsX5_ownMean) := goodIn_app (goodIn_of _ (by decide +kernel)) ggX6_meansOf_X5_ownMean
theorem dX6_meansOf_0 : decode cX6_meansOf 0 = .ok (.lconst 0, 1) := by decide +kernel
theorem dX6_meansOf_1 : decode cX6_meansOf 1 = .ok (.lstore_n 2, 1) := by decide +kernel
theorem dX6_meansOf_2 : decode cX6_meansOf 2 = .ok (.iconst 0, 1) := by decide +kernel
theorem dX6_meansOf_3 : decode cX6_meansOf 3 = .ok (.istore 4, 2) := by decide +kernel
theorem dX6_meansOf_5 : decode cX6_meansOf 5 = .ok (.iload 4, 2) := by decide +kernel
theorem dX6_meansOf_7 : decode cX6_meansOf 7 = .ok (.aload_n 0, 1) := by decide +kernel
theorem dX6_meansOf_8 : decode cX6_meansOf 8 = .ok (.getfield 11, 3) := by decide +kernel
theorem dX6_meansOf_11 : decode cX6_meansOf 11 = .ok (.arraylength, 1) := by decide +kernel
theorem dX6_meansOf_12 : decode cX6_meansOf 12 = .ok (.if_icmp .ge 39, 3) := by decide +kernel
theorem dX6_meansOf_15 : decode cX6_meansOf 15 = .ok (.aload_n 0, 1) := by decide +kernel
theorem dX6_meansOf_16 : decode cX6_meansOf 16 = .ok (.iload 4, 2) := by decide +kernel
theorem dX6_meansOf_18 : decode cX6_meansOf 18 = .ok (.invokevirtual 28, 3) := by decide +kernel
theorem dX6_meansOf_21 : decode cX6_meansOf 21 = .ok (.astore 5, 2) := by decide +kernel
theorem dX6_meansOf_23 : decode cX6_meansOf 23 = .ok (.aload 5, 2) := by decide +kernel
theorem dX6_meansOf_25 : decode cX6_meansOf 25 = .ok (.ifnull 20, 3) := by decide +kernel
theorem dX6_meansOf_28 : decode cX6_meansOf 28 = .ok (.iload_n 1, 1) := by decide +kernel
theorem dX6_meansOf_29 : decode cX6_meansOf 29 = .ok (.iload 4, 2) := by decide +kernel
theorem dX6_meansOf_31 : decode cX6_meansOf 31 = .ok (.invokestatic 35, 3) := by decide +kernel
theorem dX6_meansOf_34 : decode cX6_meansOf 34 = .ok (.ifCond .eq 11, 3) := by decide +kernel
theorem dX6_meansOf_37 : decode cX6_meansOf 37 = .ok (.lload_n 2, 1) := by decide +kernel
theorem dX6_meansOf_38 : decode cX6_meansOf 38 = .ok (.aload 5, 2) := by decide +kernel
theorem dX6_meansOf_40 : decode cX6_meansOf 40 = .ok (.invokevirtual 39, 3) := by decide +kernel
theorem dX6_meansOf_43 : decode cX6_meansOf 43 = .ok (.ladd, 1) := by decide +kernel
theorem dX6_meansOf_44 : decode cX6_meansOf 44 = .ok (.lstore_n 2, 1) := by decide +kernel
theorem dX6_meansOf_45 : decode cX6_meansOf 45 = .ok (.iinc 4 1, 3) := by decide +kernel
theorem dX6_meansOf_48 : decode cX6_meansOf 48 = .ok (.goto (-43), 3) := by decide +kernel
theorem dX6_meansOf_51 : decode cX6_meansOf 51 = .ok (.lload_n 2, 1) := by decide +kernel
theorem dX6_meansOf_52 : decode cX6_meansOf 52 = .ok (.lreturn, 1) := by decide +kernel
set_option maxRecDepth 20000 in
theorem ggX6_undoubted_X6_at : GoodIn wsX6_undoubted wsX6_at := goodIn_r _ [7, 8, 1, 14, 15, 16] (by decide +kernel) (by decide +kernel)
set_option maxRecDepth 20000 in
theorem gX6_undoubted_X6_at : GoodIn wsX6_undoubted (wsV RX6 28 RX6 yX6_at wsX6_at) := goodIn_app (goodIn_of _ (by decide +kernel)) ggX6_undoubted_X6_at
set_option maxRecDepth 20000 in
theorem ggX6_undoubted_X8_hasBit : GoodIn wsX6_undoubted wsX8_hasBit := goodIn_r _ [11] (by decide +kernel) (by decide +kernel)
set_option maxRecDepth 20000 in
theorem gX6_undoubted_X8_hasBit_n35 : GoodIn wsX6_undoubted (wsX8_hasBit) := ggX6_undoubted_X8_hasBit
set_option maxRecDepth 20000 in
theorem ggX6_undoubted_X8_bitOf : GoodIn wsX6_undoubted wsX8_bitOf := goodIn_r _ [13] (by decide +kernel) (by decide +kernel)
set_option maxRecDepth 20000 in
theorem gX6_undoubted_X8_bitOf_n46 : GoodIn wsX6_undoubted (wsX8_bitOf) := ggX6_undoubted_X8_bitOf
theorem dX6_undoubted_0 : decode cX6_undoubted 0 = .ok (.iconst 0, 1) := by decide +kernel
theorem dX6_undoubted_1 : decode cX6_undoubted 1 = .ok (.istore_n 2, 1) := by decide +kernel
theorem dX6_undoubted_2 : decode cX6_undoubted 2 = .ok (.iconst 0, 1) := by decide +kernel
theorem dX6_undoubted_3 : decode cX6_undoubted 3 = .ok (.istore_n 3, 1) := by decide +kernel
theorem dX6_undoubted_4 : decode cX6_undoubted 4 = .ok (.iload_n 3, 1) := by decide +kernel
theorem dX6_undoubted_5 : decode cX6_undoubted 5 = .ok (.aload_n 0, 1) := by decide +kernel
theorem dX6_undoubted_6 : decode cX6_undoubted 6 = .ok (.getfield 11, 3) := by decide +kernel
theorem dX6_undoubted_9 : decode cX6_undoubted 9 = .ok (.arraylength, 1) := by decide +kernel
theorem dX6_undoubted_10 : decode cX6_undoubted 10 = .ok (.if_icmp .ge 45, 3) := by decide +kernel
theorem dX6_undoubted_13 : decode cX6_undoubted 13 = .ok (.aload_n 0, 1) := by decide +kernel
theorem dX6_undoubted_14 : decode cX6_undoubted 14 = .ok (.iload_n 3, 1) := by decide +kernel
theorem dX6_undoubted_15 : decode cX6_undoubted 15 = .ok (.invokevirtual 28, 3) := by decide +kernel
theorem dX6_undoubted_18 : decode cX6_undoubted 18 = .ok (.astore 4, 2) := by decide +kernel
theorem dX6_undoubted_20 : decode cX6_undoubted 20 = .ok (.aload 4, 2) := by decide +kernel
theorem dX6_undoubted_22 : decode cX6_undoubted 22 = .ok (.ifnull 27, 3) := by decide +kernel
theorem dX6_undoubted_25 : decode cX6_undoubted 25 = .ok (.iload_n 1, 1) := by decide +kernel
theorem dX6_undoubted_26 : decode cX6_undoubted 26 = .ok (.iload_n 3, 1) := by decide +kernel
theorem dX6_undoubted_27 : decode cX6_undoubted 27 = .ok (.invokestatic 35, 3) := by decide +kernel
theorem dX6_undoubted_30 : decode cX6_undoubted 30 = .ok (.ifCond .eq 19, 3) := by decide +kernel
theorem dX6_undoubted_33 : decode cX6_undoubted 33 = .ok (.aload 4, 2) := by decide +kernel
theorem dX6_undoubted_35 : decode cX6_undoubted 35 = .ok (.getfield 43, 3) := by decide +kernel
theorem dX6_undoubted_38 : decode cX6_undoubted 38 = .ok (.iconst 2, 1) := by decide +kernel
theorem dX6_undoubted_39 : decode cX6_undoubted 39 = .ok (.if_icmp .eq 10, 3) := by decide +kernel
theorem dX6_undoubted_42 : decode cX6_undoubted 42 = .ok (.iload_n 2, 1) := by decide +kernel
theorem dX6_undoubted_43 : decode cX6_undoubted 43 = .ok (.iload_n 3, 1) := by decide +kernel
theorem dX6_undoubted_44 : decode cX6_undoubted 44 = .ok (.invokestatic 46, 3) := by decide +kernel
theorem dX6_undoubted_47 : decode cX6_undoubted 47 = .ok (.ior, 1) := by decide +kernel
theorem dX6_undoubted_48 : decode cX6_undoubted 48 = .ok (.istore_n 2, 1) := by decide +kernel
theorem dX6_undoubted_49 : decode cX6_undoubted 49 = .ok (.iinc 3 1, 3) := by decide +kernel
theorem dX6_undoubted_52 : decode cX6_undoubted 52 = .ok (.goto (-48), 3) := by decide +kernel
theorem dX6_undoubted_55 : decode cX6_undoubted 55 = .ok (.iload_n 2, 1) := by decide +kernel
theorem dX6_undoubted_56 : decode cX6_undoubted 56 = .ok (.ireturn, 1) := by decide +kernel
set_option maxRecDepth 20000 in
theorem ggX6_chanceAt_X6_at : GoodIn wsX6_chanceAt wsX6_at := goodIn_r _ [7, 8, 1, 18, 19, 20] (by decide +kernel) (by decide +kernel)
set_option maxRecDepth 20000 in
theorem gX6_chanceAt_X6_at : GoodIn wsX6_chanceAt (wsV RX6 28 RX6 yX6_at wsX6_at) := goodIn_app (goodIn_of _ (by decide +kernel)) ggX6_chanceAt_X6_at
set_option maxRecDepth 20000 in
theorem ggX6_chanceAt_X8_hasBit : GoodIn wsX6_chanceAt wsX8_hasBit := goodIn_r _ [11] (by decide +kernel) (by decide +kernel)
set_option maxRecDepth 20000 in
theorem gX6_chanceAt_X8_hasBit_n35 : GoodIn wsX6_chanceAt (wsX8_hasBit) := ggX6_chanceAt_X8_hasBit
set_option maxRecDepth 20000 in
theorem ggX6_chanceAt_X6_oddsAgainst : GoodIn wsX6_chanceAt wsX6_oddsAgainst := goodIn_r _ [14, 15, 16, 17, 21, 22, 23, 24, 25] (by decide +kernel) (by decide +kernel)
set_option maxRecDepth 20000 in
theorem gX6_chanceAt_X6_oddsAgainst : GoodIn wsX6_chanceAt (va_wsS RX6 50 yX6_oddsAgainst wsX6_oddsAgainst) := goodIn_app (goodIn_of _ (by decide +kernel)) ggX6_chanceAt_X6_oddsAgainst
theorem dX6_chanceAt_0 : decode cX6_chanceAt 0 = .ok (.lconst 0, 1) := by decide +kernel
theorem dX6_chanceAt_1 : decode cX6_chanceAt 1 = .ok (.lstore_n 3, 1) := by decide +kernel
theorem dX6_chanceAt_2 : decode cX6_chanceAt 2 = .ok (.lconst 0, 1) := by decide +kernel
theorem dX6_chanceAt_3 : decode cX6_chanceAt 3 = .ok (.lstore 5, 2) := by decide +kernel
theorem dX6_chanceAt_5 : decode cX6_chanceAt 5 = .ok (.iconst 0, 1) := by decide +kernel
theorem dX6_chanceAt_6 : decode cX6_chanceAt 6 = .ok (.istore 7, 2) := by decide +kernel
theorem dX6_chanceAt_8 : decode cX6_chanceAt 8 = .ok (.iload 7, 2) := by decide +kernel
theorem dX6_chanceAt_10 : decode cX6_chanceAt 10 = .ok (.aload_n 0, 1) := by decide +kernel
theorem dX6_chanceAt_11 : decode cX6_chanceAt 11 = .ok (.getfield 11, 3) := by decide +kernel
theorem dX6_chanceAt_14 : decode cX6_chanceAt 14 = .ok (.arraylength, 1) := by decide +kernel
theorem dX6_chanceAt_15 : decode cX6_chanceAt 15 = .ok (.if_icmp .ge 46, 3) := by decide +kernel
theorem dX6_chanceAt_18 : decode cX6_chanceAt 18 = .ok (.aload_n 0, 1) := by decide +kernel
theorem dX6_chanceAt_19 : decode cX6_chanceAt 19 = .ok (.iload 7, 2) := by decide +kernel
theorem dX6_chanceAt_21 : decode cX6_chanceAt 21 = .ok (.invokevirtual 28, 3) := by decide +kernel
theorem dX6_chanceAt_24 : decode cX6_chanceAt 24 = .ok (.astore 8, 2) := by decide +kernel
theorem dX6_chanceAt_26 : decode cX6_chanceAt 26 = .ok (.aload 8, 2) := by decide +kernel
theorem dX6_chanceAt_28 : decode cX6_chanceAt 28 = .ok (.ifnull 27, 3) := by decide +kernel
theorem dX6_chanceAt_31 : decode cX6_chanceAt 31 = .ok (.iload_n 2, 1) := by decide +kernel
theorem dX6_chanceAt_32 : decode cX6_chanceAt 32 = .ok (.iload 7, 2) := by decide +kernel
theorem dX6_chanceAt_34 : decode cX6_chanceAt 34 = .ok (.invokestatic 35, 3) := by decide +kernel
theorem dX6_chanceAt_37 : decode cX6_chanceAt 37 = .ok (.ifCond .eq 18, 3) := by decide +kernel
theorem dX6_chanceAt_40 : decode cX6_chanceAt 40 = .ok (.lload_n 3, 1) := by decide +kernel
theorem dX6_chanceAt_41 : decode cX6_chanceAt 41 = .ok (.iload_n 1, 1) := by decide +kernel
theorem dX6_chanceAt_42 : decode cX6_chanceAt 42 = .ok (.aload 8, 2) := by decide +kernel
theorem dX6_chanceAt_44 : decode cX6_chanceAt 44 = .ok (.invokestatic 50, 3) := by decide +kernel
theorem dX6_chanceAt_47 : decode cX6_chanceAt 47 = .ok (.ladd, 1) := by decide +kernel
theorem dX6_chanceAt_48 : decode cX6_chanceAt 48 = .ok (.lstore_n 3, 1) := by decide +kernel
theorem dX6_chanceAt_49 : decode cX6_chanceAt 49 = .ok (.lload 5, 2) := by decide +kernel
theorem dX6_chanceAt_51 : decode cX6_chanceAt 51 = .ok (.lconst 1, 1) := by decide +kernel
theorem dX6_chanceAt_52 : decode cX6_chanceAt 52 = .ok (.ladd, 1) := by decide +kernel
theorem dX6_chanceAt_53 : decode cX6_chanceAt 53 = .ok (.lstore 5, 2) := by decide +kernel
theorem dX6_chanceAt_55 : decode cX6_chanceAt 55 = .ok (.iinc 7 1, 3) := by decide +kernel
theorem dX6_chanceAt_58 : decode cX6_chanceAt 58 = .ok (.goto (-50), 3) := by decide +kernel
theorem dX6_chanceAt_61 : decode cX6_chanceAt 61 = .ok (.lload 5, 2) := by decide +kernel
theorem dX6_chanceAt_63 : decode cX6_chanceAt 63 = .ok (.lconst 0, 1) := by decide +kernel
theorem dX6_chanceAt_64 : decode cX6_chanceAt 64 = .ok (.lcmp, 1) := by decide +kernel
theorem dX6_chanceAt_65 : decode cX6_chanceAt 65 = .ok (.ifCond .le 14, 3) := by decide +kernel
theorem dX6_chanceAt_68 : decode cX6_chanceAt 68 = .ok (.lload_n 3, 1) := by decide +kernel
theorem dX6_chanceAt_69 : decode cX6_chanceAt 69 = .ok (.ldc2_w 54, 3) := by decide +kernel
theorem dX6_chanceAt_72 : decode cX6_chanceAt 72 = .ok (.lload 5, 2) := by decide +kernel
theorem dX6_chanceAt_74 : decode cX6_chanceAt 74 = .ok (.lmul, 1) := by decide +kernel
theorem dX6_chanceAt_75 : decode cX6_chanceAt 75 = .ok (.ldiv, 1) := by decide +kernel
theorem dX6_chanceAt_76 : decode cX6_chanceAt 76 = .ok (.goto 4, 3) := by decide +kernel
theorem dX6_chanceAt_79 : decode cX6_chanceAt 79 = .ok (.lconst 0, 1) := by decide +kernel
theorem dX6_chanceAt_80 : decode cX6_chanceAt 80 = .ok (.lreturn, 1) := by decide +kernel
theorem dX6_oddsAgainst_0 : decode cX6_oddsAgainst 0 = .ok (.lconst 0, 1) := by decide +kernel
theorem dX6_oddsAgainst_1 : decode cX6_oddsAgainst 1 = .ok (.lstore_n 2, 1) := by decide +kernel
theorem dX6_oddsAgainst_2 : decode cX6_oddsAgainst 2 = .ok (.iconst 0, 1) := by decide +kernel
theorem dX6_oddsAgainst_3 : decode cX6_oddsAgainst 3 = .ok (.istore 4, 2) := by decide +kernel
theorem dX6_oddsAgainst_5 : decode cX6_oddsAgainst 5 = .ok (.iload 4, 2) := by decide +kernel
theorem dX6_oddsAgainst_7 : decode cX6_oddsAgainst 7 = .ok (.aload_n 1, 1) := by decide +kernel
theorem dX6_oddsAgainst_8 : decode cX6_oddsAgainst 8 = .ok (.getfield 56, 3) := by decide +kernel
theorem dX6_oddsAgainst_11 : decode cX6_oddsAgainst 11 = .ok (.arraylength, 1) := by decide +kernel
theorem dX6_oddsAgainst_12 : decode cX6_oddsAgainst 12 = .ok (.if_icmp .ge 33, 3) := by decide +kernel
theorem dX6_oddsAgainst_15 : decode cX6_oddsAgainst 15 = .ok (.lload_n 2, 1) := by decide +kernel
theorem dX6_oddsAgainst_16 : decode cX6_oddsAgainst 16 = .ok (.aload_n 1, 1) := by decide +kernel
theorem dX6_oddsAgainst_17 : decode cX6_oddsAgainst 17 = .ok (.getfield 56, 3) := by decide +kernel
theorem dX6_oddsAgainst_20 : decode cX6_oddsAgainst 20 = .ok (.iload 4, 2) := by decide +kernel
theorem dX6_oddsAgainst_22 : decode cX6_oddsAgainst 22 = .ok (.laload, 1) := by decide +kernel
theorem dX6_oddsAgainst_23 : decode cX6_oddsAgainst 23 = .ok (.ldc2_w 59, 3) := by decide +kernel
theorem dX6_oddsAgainst_26 : decode cX6_oddsAgainst 26 = .ok (.ldc2_w 61, 3) := by decide +kernel
theorem dX6_oddsAgainst_29 : decode cX6_oddsAgainst 29 = .ok (.iload_n 0, 1) := by decide +kernel
theorem dX6_oddsAgainst_30 : decode cX6_oddsAgainst 30 = .ok (.iload 4, 2) := by decide +kernel
theorem dX6_oddsAgainst_32 : decode cX6_oddsAgainst 32 = .ok (.isub, 1) := by decide +kernel
theorem dX6_oddsAgainst_33 : decode cX6_oddsAgainst 33 = .ok (.i2l, 1) := by decide +kernel
theorem dX6_oddsAgainst_34 : decode cX6_oddsAgainst 34 = .ok (.lmul, 1) := by decide +kernel
theorem dX6_oddsAgainst_35 : decode cX6_oddsAgainst 35 = .ok (.ladd, 1) := by decide +kernel
theorem dX6_oddsAgainst_36 : decode cX6_oddsAgainst 36 = .ok (.lmul, 1) := by decide +kernel
theorem dX6_oddsAgainst_37 : decode cX6_oddsAgainst 37 = .ok (.ladd, 1) := by decide +kernel
theorem dX6_oddsAgainst_38 : decode cX6_oddsAgainst 38 = .ok (.lstore_n 2, 1) := by decide +kernel
theorem dX6_oddsAgainst_39 : decode cX6_oddsAgainst 39 = .ok (.iinc 4 1, 3) := by decide +kernel
theorem dX6_oddsAgainst_42 : decode cX6_oddsAgainst 42 = .ok (.goto (-37), 3) := by decide +kernel
theorem dX6_oddsAgainst_45 : decode cX6_oddsAgainst 45 = .ok (.lload_n 2, 1) := by decide +kernel
theorem dX6_oddsAgainst_46 : decode cX6_oddsAgainst 46 = .ok (.lreturn, 1) := by decide +kernel
set_option maxRecDepth 20000 in
theorem ggX6_chanceOf_X6_chanceAt : GoodIn wsX6_chanceOf wsX6_chanceAt := goodIn_r _ [7, 8, 9, 10, 11, 12, 6, 13, 14, 15, 16, 17, 18, 19, 20, 1, 21, 22, 28, 29, 30, 23, 24, 25, 26, 27] (by decide +kernel) (by decide +kernel)
set_option maxRecDepth 20000 in
theorem gX6_chanceOf_X6_chanceAt : GoodIn wsX6_chanceOf (wsV RX6 63 RX6 yX6_chanceAt wsX6_chanceAt) := goodIn_app (goodIn_of _ (by decide +kernel)) ggX6_chanceOf_X6_chanceAt
theorem dX6_chanceOf_0 : decode cX6_chanceOf 0 = .ok (.lconst 0, 1) := by decide +kernel
theorem dX6_chanceOf_1 : decode cX6_chanceOf 1 = .ok (.lstore_n 3, 1) := by decide +kernel
theorem dX6_chanceOf_2 : decode cX6_chanceOf 2 = .ok (.iconst 0, 1) := by decide +kernel
theorem dX6_chanceOf_3 : decode cX6_chanceOf 3 = .ok (.istore 5, 2) := by decide +kernel
theorem dX6_chanceOf_5 : decode cX6_chanceOf 5 = .ok (.iload 5, 2) := by decide +kernel
theorem dX6_chanceOf_7 : decode cX6_chanceOf 7 = .ok (.aload_n 1, 1) := by decide +kernel
theorem dX6_chanceOf_8 : decode cX6_chanceOf 8 = .ok (.getfield 56, 3) := by decide +kernel
theorem dX6_chanceOf_11 : decode cX6_chanceOf 11 = .ok (.arraylength, 1) := by decide +kernel
theorem dX6_chanceOf_12 : decode cX6_chanceOf 12 = .ok (.if_icmp .ge 27, 3) := by decide +kernel
theorem dX6_chanceOf_15 : decode cX6_chanceOf 15 = .ok (.lload_n 3, 1) := by decide +kernel
theorem dX6_chanceOf_16 : decode cX6_chanceOf 16 = .ok (.aload_n 1, 1) := by decide +kernel
theorem dX6_chanceOf_17 : decode cX6_chanceOf 17 = .ok (.getfield 56, 3) := by decide +kernel
theorem dX6_chanceOf_20 : decode cX6_chanceOf 20 = .ok (.iload 5, 2) := by decide +kernel
theorem dX6_chanceOf_22 : decode cX6_chanceOf 22 = .ok (.laload, 1) := by decide +kernel
theorem dX6_chanceOf_23 : decode cX6_chanceOf 23 = .ok (.aload_n 0, 1) := by decide +kernel
theorem dX6_chanceOf_24 : decode cX6_chanceOf 24 = .ok (.iload 5, 2) := by decide +kernel
theorem dX6_chanceOf_26 : decode cX6_chanceOf 26 = .ok (.iload_n 2, 1) := by decide +kernel
theorem dX6_chanceOf_27 : decode cX6_chanceOf 27 = .ok (.invokevirtual 63, 3) := by decide +kernel
theorem dX6_chanceOf_30 : decode cX6_chanceOf 30 = .ok (.lmul, 1) := by decide +kernel
theorem dX6_chanceOf_31 : decode cX6_chanceOf 31 = .ok (.ladd, 1) := by decide +kernel
theorem dX6_chanceOf_32 : decode cX6_chanceOf 32 = .ok (.lstore_n 3, 1) := by decide +kernel
theorem dX6_chanceOf_33 : decode cX6_chanceOf 33 = .ok (.iinc 5 1, 3) := by decide +kernel
theorem dX6_chanceOf_36 : decode cX6_chanceOf 36 = .ok (.goto (-31), 3) := by decide +kernel
theorem dX6_chanceOf_39 : decode cX6_chanceOf 39 = .ok (.lload_n 3, 1) := by decide +kernel
theorem dX6_chanceOf_40 : decode cX6_chanceOf 40 = .ok (.ldc2_w 67, 3) := by decide +kernel
theorem dX6_chanceOf_43 : decode cX6_chanceOf 43 = .ok (.ldiv, 1) := by decide +kernel
theorem dX6_chanceOf_44 : decode cX6_chanceOf 44 = .ok (.lreturn, 1) := by decide +kernel
set_option maxRecDepth 20000 in
theorem ggX6_teamChance_X6_at : GoodIn wsX6_teamChance wsX6_at := goodIn_r _ [6, 7, 1, 27, 28, 29] (by decide +kernel) (by decide +kernel)
set_option maxRecDepth 20000 in
theorem gX6_teamChance_X6_at : GoodIn wsX6_teamChance (wsV RX6 28 RX6 yX6_at wsX6_at) := goodIn_app (goodIn_of _ (by decide +kernel)) ggX6_teamChance_X6_at
set_option maxRecDepth 20000 in
theorem ggX6_teamChance_X8_hasBit : GoodIn wsX6_teamChance wsX8_hasBit := goodIn_r _ [10] (by decide +kernel) (by decide +kernel)
set_option maxRecDepth 20000 in
theorem gX6_teamChance_X8_hasBit_n35 : GoodIn wsX6_teamChance (wsX8_hasBit) := ggX6_teamChance_X8_hasBit
set_option maxRecDepth 20000 in
theorem ggX6_teamChance_X6_chanceOf : GoodIn wsX6_teamChance wsX6_chanceOf := goodIn_r _ [14, 15, 16, 17, 18, 19, 5, 20, 1, 21, 2, 3, 4, 6, 7, 8, 9, 10, 22, 23, 24, 25, 26, 30, 31, 32, 33, 34, 27, 28, 29] (by decide +kernel) (by decide +kernel)
set_option maxRecDepth 20000 in
theorem gX6_teamChance_X6_chanceOf : GoodIn wsX6_teamChance (wsV RX6 69 RX6 yX6_chanceOf wsX6_chanceOf) := goodIn_app (goodIn_of _ (by decide +kernel)) ggX6_teamChance_X6_chanceOf
theorem dX6_teamChance_0 : decode cX6_teamChance 0 = .ok (.lconst 0, 1) := by decide +kernel
theorem dX6_teamChance_1 : decode cX6_teamChance 1 = .ok (.lstore_n 3, 1) := by decide +kernel
theorem dX6_teamChance_2 : decode cX6_teamChance 2 = .ok (.lconst 0, 1) := by decide +kernel
theorem dX6_teamChance_3 : decode cX6_teamChance 3 = .ok (.lstore 5, 2) := by decide +kernel
theorem dX6_teamChance_5 : decode cX6_teamChance 5 = .ok (.iconst 0, 1) := by decide +kernel
theorem dX6_teamChance_6 : decode cX6_teamChance 6 = .ok (.istore 7, 2) := by decide +kernel
theorem dX6_teamChance_8 : decode cX6_teamChance 8 = .ok (.iload 7, 2) := by decide +kernel
theorem dX6_teamChance_10 : decode cX6_teamChance 10 = .ok (.aload_n 0, 1) := by decide +kernel
theorem dX6_teamChance_11 : decode cX6_teamChance 11 = .ok (.getfield 11, 3) := by decide +kernel
theorem dX6_teamChance_14 : decode cX6_teamChance 14 = .ok (.arraylength, 1) := by decide +kernel
theorem dX6_teamChance_15 : decode cX6_teamChance 15 = .ok (.if_icmp .ge 47, 3) := by decide +kernel
theorem dX6_teamChance_18 : decode cX6_teamChance 18 = .ok (.aload_n 0, 1) := by decide +kernel
theorem dX6_teamChance_19 : decode cX6_teamChance 19 = .ok (.iload 7, 2) := by decide +kernel
theorem dX6_teamChance_21 : decode cX6_teamChance 21 = .ok (.invokevirtual 28, 3) := by decide +kernel
theorem dX6_teamChance_24 : decode cX6_teamChance 24 = .ok (.astore 8, 2) := by decide +kernel
theorem dX6_teamChance_26 : decode cX6_teamChance 26 = .ok (.aload 8, 2) := by decide +kernel
theorem dX6_teamChance_28 : decode cX6_teamChance 28 = .ok (.ifnull 28, 3) := by decide +kernel
theorem dX6_teamChance_31 : decode cX6_teamChance 31 = .ok (.iload_n 1, 1) := by decide +kernel
theorem dX6_teamChance_32 : decode cX6_teamChance 32 = .ok (.iload 7, 2) := by decide +kernel
theorem dX6_teamChance_34 : decode cX6_teamChance 34 = .ok (.invokestatic 35, 3) := by decide +kernel
theorem dX6_teamChance_37 : decode cX6_teamChance 37 = .ok (.ifCond .eq 19, 3) := by decide +kernel
theorem dX6_teamChance_40 : decode cX6_teamChance 40 = .ok (.lload_n 3, 1) := by decide +kernel
theorem dX6_teamChance_41 : decode cX6_teamChance 41 = .ok (.aload_n 0, 1) := by decide +kernel
theorem dX6_teamChance_42 : decode cX6_teamChance 42 = .ok (.aload 8, 2) := by decide +kernel
theorem dX6_teamChance_44 : decode cX6_teamChance 44 = .ok (.iload_n 2, 1) := by decide +kernel
theorem dX6_teamChance_45 : decode cX6_teamChance 45 = .ok (.invokevirtual 69, 3) := by decide +kernel
theorem dX6_teamChance_48 : decode cX6_teamChance 48 = .ok (.ladd, 1) := by decide +kernel
theorem dX6_teamChance_49 : decode cX6_teamChance 49 = .ok (.lstore_n 3, 1) := by decide +kernel
theorem dX6_teamChance_50 : decode cX6_teamChance 50 = .ok (.lload 5, 2) := by decide +kernel
theorem dX6_teamChance_52 : decode cX6_teamChance 52 = .ok (.lconst 1, 1) := by decide +kernel
theorem dX6_teamChance_53 : decode cX6_teamChance 53 = .ok (.ladd, 1) := by decide +kernel
theorem dX6_teamChance_54 : decode cX6_teamChance 54 = .ok (.lstore 5, 2) := by decide +kernel
theorem dX6_teamChance_56 : decode cX6_teamChance 56 = .ok (.iinc 7 1, 3) := by decide +kernel
theorem dX6_teamChance_59 : decode cX6_teamChance 59 = .ok (.goto (-51), 3) := by decide +kernel
theorem dX6_teamChance_62 : decode cX6_teamChance 62 = .ok (.lload 5, 2) := by decide +kernel
theorem dX6_teamChance_64 : decode cX6_teamChance 64 = .ok (.lconst 0, 1) := by decide +kernel
theorem dX6_teamChance_65 : decode cX6_teamChance 65 = .ok (.lcmp, 1) := by decide +kernel
theorem dX6_teamChance_66 : decode cX6_teamChance 66 = .ok (.ifCond .le 10, 3) := by decide +kernel
theorem dX6_teamChance_69 : decode cX6_teamChance 69 = .ok (.lload_n 3, 1) := by decide +kernel
theorem dX6_teamChance_70 : decode cX6_teamChance 70 = .ok (.lload 5, 2) := by decide +kernel
theorem dX6_teamChance_72 : decode cX6_teamChance 72 = .ok (.ldiv, 1) := by decide +kernel
theorem dX6_teamChance_73 : decode cX6_teamChance 73 = .ok (.goto 4, 3) := by decide +kernel
theorem dX6_teamChance_76 : decode cX6_teamChance 76 = .ok (.lconst 0, 1) := by decide +kernel
theorem dX6_teamChance_77 : decode cX6_teamChance 77 = .ok (.lreturn, 1) := by decide +kernel
set_option maxRecDepth 20000 in
theorem ggX6_reckon_X6_undoubted : GoodIn wsX6_reckon wsX6_undoubted := goodIn_r _ [7, 8, 9, 10, 11, 12, 6, 13, 14, 15, 16, 17, 18, 19, 62, 63, 64, 65, 66, 67, 68, 69] (by decide +kernel) (by decide +kernel)
set_option maxRecDepth 20000 in
theorem gX6_reckon_X6_undoubted : GoodIn wsX6_reckon (wsV RX6 73 RX6 yX6_undoubted wsX6_undoubted) := goodIn_app (goodIn_of _ (by decide +kernel)) ggX6_reckon_X6_undoubted
set_option maxRecDepth 20000 in
theorem ggX6_reckon_X6_chanceOf : GoodIn wsX6_reckon wsX6_chanceOf := goodIn_r _ [23, 24, 25, 26, 27, 28, 6, 29, 8, 30, 10, 11, 12, 13, 14, 15, 16, 17, 31, 32, 33, 34, 35, 65, 66, 67, 68, 69, 62, 63, 64] (by decide +kernel) (by decide +kernel)
set_option maxRecDepth 20000 in
theorem gX6_reckon_X6_chanceOf : GoodIn wsX6_reckon (wsV RX6 69 RX6 yX6_chanceOf wsX6_chanceOf) := goodIn_app (goodIn_of _ (by decide +kernel)) ggX6_reckon_X6_chanceOf
set_option maxRecDepth 20000 in
theorem ggX6_reckon_X5_keepSurprise : GoodIn wsX6_reckon wsX5_keepSurprise := goodIn_r _ [40, 41, 42, 65, 66, 67, 68, 69] (by decide +kernel) (by decide +kernel)
set_option maxRecDepth 20000 in
theorem gX6_reckon_X5_keepSurprise : GoodIn wsX6_reckon (wsV RX6 78 RX5 yX5_keepSurprise wsX5_keepSurprise) := goodIn_app (goodIn_of _ (by decide +kernel)) ggX6_reckon_X5_keepSurprise
set_option maxRecDepth 20000 in
theorem ggX6_reckon_X6_chanceAt : GoodIn wsX6_reckon wsX6_chanceAt := goodIn_r _ [29, 8, 30, 10, 11, 12, 6, 13, 14, 15, 16, 17, 31, 32, 33, 24, 34, 35, 62, 63, 64, 65, 66, 67, 68, 69] (by decide +kernel) (by decide +kernel)
set_option maxRecDepth 20000 in
theorem gX6_reckon_X6_chanceAt : GoodIn wsX6_reckon (wsV RX6 63 RX6 yX6_chanceAt wsX6_chanceAt) := goodIn_app (goodIn_of _ (by decide +kernel)) ggX6_reckon_X6_chanceAt
set_option maxRecDepth 20000 in
theorem ggX6_reckon_X6_factorOf : GoodIn wsX6_reckon wsX6_factorOf := goodIn_r _ [45, 25] (by decide +kernel) (by decide +kernel)
set_option maxRecDepth 20000 in
theorem gX6_reckon_X6_factorOf : GoodIn wsX6_reckon (va_wsS RX6 82 yX6_factorOf wsX6_factorOf) := goodIn_app (goodIn_of _ (by decide +kernel)) ggX6_reckon_X6_factorOf
set_option maxRecDepth 20000 in
theorem ggX6_reckon_X5_reckonNext : GoodIn wsX6_reckon wsX5_reckonNext := goodIn_r _ [49, 50, 51, 52, 53, 54, 55, 39, 56, 57, 58, 59, 60, 61, 65, 66, 67, 68, 69] (by decide +kernel) (by decide +kernel)
set_option maxRecDepth 20000 in
theorem gX6_reckon_X5_reckonNext : GoodIn wsX6_reckon (wsV RX6 86 RX5 yX5_reckonNext wsX5_reckonNext) := goodIn_app (goodIn_of _ (by decide +kernel)) ggX6_reckon_X5_reckonNext
theorem dX6_reckon_0 : decode cX6_reckon 0 = .ok (.aload_n 0, 1) := by decide +kernel
theorem dX6_reckon_1 : decode cX6_reckon 1 = .ok (.iload_n 2, 1) := by decide +kernel
theorem dX6_reckon_2 : decode cX6_reckon 2 = .ok (.invokevirtual 73, 3) := by decide +kernel
theorem dX6_reckon_5 : decode cX6_reckon 5 = .ok (.istore 4, 2) := by decide +kernel
theorem dX6_reckon_7 : decode cX6_reckon 7 = .ok (.iload 4, 2) := by decide +kernel
theorem dX6_reckon_9 : decode cX6_reckon 9 = .ok (.ifCond .ne 5, 3) := by decide +kernel
theorem dX6_reckon_12 : decode cX6_reckon 12 = .ok (.iconst 0, 1) := by decide +kernel
theorem dX6_reckon_13 : decode cX6_reckon 13 = .ok (.ireturn, 1) := by decide +kernel
theorem dX6_reckon_14 : decode cX6_reckon 14 = .ok (.aload_n 1, 1) := by decide +kernel
theorem dX6_reckon_15 : decode cX6_reckon 15 = .ok (.ldc2_w 76, 3) := by decide +kernel
theorem dX6_reckon_18 : decode cX6_reckon 18 = .ok (.iload_n 3, 1) := by decide +kernel
theorem dX6_reckon_19 : decode cX6_reckon 19 = .ok (.i2l, 1) := by decide +kernel
theorem dX6_reckon_20 : decode cX6_reckon 20 = .ok (.lmul, 1) := by decide +kernel
theorem dX6_reckon_21 : decode cX6_reckon 21 = .ok (.aload_n 0, 1) := by decide +kernel
theorem dX6_reckon_22 : decode cX6_reckon 22 = .ok (.aload_n 1, 1) := by decide +kernel
theorem dX6_reckon_23 : decode cX6_reckon 23 = .ok (.iload 4, 2) := by decide +kernel
theorem dX6_reckon_25 : decode cX6_reckon 25 = .ok (.invokevirtual 69, 3) := by decide +kernel
theorem dX6_reckon_28 : decode cX6_reckon 28 = .ok (.lsub, 1) := by decide +kernel
theorem dX6_reckon_29 : decode cX6_reckon 29 = .ok (.invokevirtual 78, 3) := by decide +kernel
theorem dX6_reckon_32 : decode cX6_reckon 32 = .ok (.iconst 0, 1) := by decide +kernel
theorem dX6_reckon_33 : decode cX6_reckon 33 = .ok (.istore 5, 2) := by decide +kernel
theorem dX6_reckon_35 : decode cX6_reckon 35 = .ok (.iload 5, 2) := by decide +kernel
theorem dX6_reckon_37 : decode cX6_reckon 37 = .ok (.aload_n 0, 1) := by decide +kernel
theorem dX6_reckon_38 : decode cX6_reckon 38 = .ok (.getfield 17, 3) := by decide +kernel
theorem dX6_reckon_41 : decode cX6_reckon 41 = .ok (.arraylength, 1) := by decide +kernel
theorem dX6_reckon_42 : decode cX6_reckon 42 = .ok (.if_icmp .ge 28, 3) := by decide +kernel
theorem dX6_reckon_45 : decode cX6_reckon 45 = .ok (.aload_n 0, 1) := by decide +kernel
theorem dX6_reckon_46 : decode cX6_reckon 46 = .ok (.getfield 17, 3) := by decide +kernel
theorem dX6_reckon_49 : decode cX6_reckon 49 = .ok (.iload 5, 2) := by decide +kernel
theorem dX6_reckon_51 : decode cX6_reckon 51 = .ok (.aload_n 0, 1) := by decide +kernel
theorem dX6_reckon_52 : decode cX6_reckon 52 = .ok (.iload 5, 2) := by decide +kernel
theorem dX6_reckon_54 : decode cX6_reckon 54 = .ok (.iload 4, 2) := by decide +kernel
theorem dX6_reckon_56 : decode cX6_reckon 56 = .ok (.invokevirtual 63, 3) := by decide +kernel
theorem dX6_reckon_59 : decode cX6_reckon 59 = .ok (.iload_n 3, 1) := by decide +kernel
theorem dX6_reckon_60 : decode cX6_reckon 60 = .ok (.invokestatic 82, 3) := by decide +kernel
theorem dX6_reckon_63 : decode cX6_reckon 63 = .ok (.lastore, 1) := by decide +kernel
theorem dX6_reckon_64 : decode cX6_reckon 64 = .ok (.iinc 5 1, 3) := by decide +kernel
theorem dX6_reckon_67 : decode cX6_reckon 67 = .ok (.goto (-32), 3) := by decide +kernel
theorem dX6_reckon_70 : decode cX6_reckon 70 = .ok (.aload_n 1, 1) := by decide +kernel
theorem dX6_reckon_71 : decode cX6_reckon 71 = .ok (.aload_n 0, 1) := by decide +kernel
theorem dX6_reckon_72 : decode cX6_reckon 72 = .ok (.getfield 17, 3) := by decide +kernel
theorem dX6_reckon_75 : decode cX6_reckon 75 = .ok (.invokevirtual 86, 3) := by decide +kernel
theorem dX6_reckon_78 : decode cX6_reckon 78 = .ok (.iconst 1, 1) := by decide +kernel
theorem dX6_reckon_79 : decode cX6_reckon 79 = .ok (.ireturn, 1) := by decide +kernel
theorem dX6_factorOf_0 : decode cX6_factorOf 0 = .ok (.iload_n 2, 1) := by decide +kernel
theorem dX6_factorOf_1 : decode cX6_factorOf 1 = .ok (.iconst 2, 1) := by decide +kernel
theorem dX6_factorOf_2 : decode cX6_factorOf 2 = .ok (.if_icmp .ne 5, 3) := by decide +kernel
theorem dX6_factorOf_5 : decode cX6_factorOf 5 = .ok (.lload_n 0, 1) := by decide +kernel
theorem dX6_factorOf_6 : decode cX6_factorOf 6 = .ok (.lreturn, 1) := by decide +kernel
theorem dX6_factorOf_7 : decode cX6_factorOf 7 = .ok (.iload_n 2, 1) := by decide +kernel
theorem dX6_factorOf_8 : decode cX6_factorOf 8 = .ok (.iconst 1, 1) := by decide +kernel
theorem dX6_factorOf_9 : decode cX6_factorOf 9 = .ok (.if_icmp .ne 15, 3) := by decide +kernel
theorem dX6_factorOf_12 : decode cX6_factorOf 12 = .ok (.lload_n 0, 1) := by decide +kernel
theorem dX6_factorOf_13 : decode cX6_factorOf 13 = .ok (.ldc2_w 67, 3) := by decide +kernel
theorem dX6_factorOf_16 : decode cX6_factorOf 16 = .ok (.lload_n 0, 1) := by decide +kernel
theorem dX6_factorOf_17 : decode cX6_factorOf 17 = .ok (.lsub, 1) := by decide +kernel
theorem dX6_factorOf_18 : decode cX6_factorOf 18 = .ok (.lmul, 1) := by decide +kernel
theorem dX6_factorOf_19 : decode cX6_factorOf 19 = .ok (.ldc2_w 67, 3) := by decide +kernel
theorem dX6_factorOf_22 : decode cX6_factorOf 22 = .ok (.ldiv, 1) := by decide +kernel
theorem dX6_factorOf_23 : decode cX6_factorOf 23 = .ok (.lreturn, 1) := by decide +kernel
theorem dX6_factorOf_24 : decode cX6_factorOf 24 = .ok (.ldc2_w 67, 3) := by decide +kernel
theorem dX6_factorOf_27 : decode cX6_factorOf 27 = .ok (.lload_n 0, 1) := by decide +kernel
theorem dX6_factorOf_28 : decode cX6_factorOf 28 = .ok (.lsub, 1) := by decide +kernel
theorem dX6_factorOf_29 : decode cX6_factorOf 29 = .ok (.lreturn, 1) := by decide +kernel
set_option maxRecDepth 20000 in
theorem ggX6_reckonTeam_X6_at : GoodIn wsX6_reckonTeam wsX6_at := goodIn_r _ [6, 7, 1, 66, 67, 68] (by decide +kernel) (by decide +kernel)
set_option maxRecDepth 20000 in
theorem gX6_reckonTeam_X6_at : GoodIn wsX6_reckonTeam (wsV RX6 28 RX6 yX6_at wsX6_at) := goodIn_app (goodIn_of _ (by decide +kernel)) ggX6_reckonTeam_X6_at
set_option maxRecDepth 20000 in
theorem ggX6_reckonTeam_X8_hasBit : GoodIn wsX6_reckonTeam wsX8_hasBit := goodIn_r _ [10] (by decide +kernel) (by decide +kernel)
set_option maxRecDepth 20000 in
theorem gX6_reckonTeam_X8_hasBit_n35 : GoodIn wsX6_reckonTeam (wsX8_hasBit) := ggX6_reckonTeam_X8_hasBit
set_option maxRecDepth 20000 in
theorem ggX6_reckonTeam_X6_reckon : GoodIn wsX6_reckonTeam wsX6_reckon := goodIn_r _ [14, 15, 16, 17, 18, 19, 5, 20, 1, 21, 2, 3, 4, 6, 7, 8, 9, 10, 22, 23, 24, 25, 26, 27, 28, 29, 30, 31, 32, 33, 34, 35, 36, 37, 38, 39, 40, 41, 42, 43, 44, 45, 46, 47, 48, 49, 50, 51, 52, 53, 54, 55, 56, 57, 58, 59, 60, 61, 62, 63, 64, 65, 66, 67, 68, 69, 70, 71, 72, 73] (by decide +kernel) (by decide +kernel)
set_option maxRecDepth 20000 in
theorem gX6_reckonTeam_X6_reckon : GoodIn wsX6_reckonTeam (wsV RX6 90 RX6 yX6_reckon wsX6_reckon) := goodIn_app (goodIn_of _ (by decide +kernel)) ggX6_reckonTeam_X6_reckon
set_option maxRecDepth 20000 in
theorem ggX6_reckonTeam_X8_bitOf : GoodIn wsX6_reckonTeam wsX8_bitOf := goodIn_r _ [23] (by decide +kernel) (by decide +kernel)
set_option maxRecDepth 20000 in
theorem gX6_reckonTeam_X8_bitOf_n46 : GoodIn wsX6_reckonTeam (wsX8_bitOf) := ggX6_reckonTeam_X8_bitOf
theorem dX6_reckonTeam_0 : decode cX6_reckonTeam 0 = .ok (.iconst 0, 1) := by decide +kernel
theorem dX6_reckonTeam_1 : decode cX6_reckonTeam 1 = .ok (.istore 4, 2) := by decide +kernel
theorem dX6_reckonTeam_3 : decode cX6_reckonTeam 3 = .ok (.iconst 0, 1) := by decide +kernel
theorem dX6_reckonTeam_4 : decode cX6_reckonTeam 4 = .ok (.istore 5, 2) := by decide +kernel
theorem dX6_reckonTeam_6 : decode cX6_reckonTeam 6 = .ok (.iload 5, 2) := by decide +kernel
theorem dX6_reckonTeam_8 : decode cX6_reckonTeam 8 = .ok (.aload_n 0, 1) := by decide +kernel
theorem dX6_reckonTeam_9 : decode cX6_reckonTeam 9 = .ok (.getfield 11, 3) := by decide +kernel
theorem dX6_reckonTeam_12 : decode cX6_reckonTeam 12 = .ok (.arraylength, 1) := by decide +kernel
theorem dX6_reckonTeam_13 : decode cX6_reckonTeam 13 = .ok (.if_icmp .ge 52, 3) := by decide +kernel
theorem dX6_reckonTeam_16 : decode cX6_reckonTeam 16 = .ok (.aload_n 0, 1) := by decide +kernel
theorem dX6_reckonTeam_17 : decode cX6_reckonTeam 17 = .ok (.iload 5, 2) := by decide +kernel
theorem dX6_reckonTeam_19 : decode cX6_reckonTeam 19 = .ok (.invokevirtual 28, 3) := by decide +kernel
theorem dX6_reckonTeam_22 : decode cX6_reckonTeam 22 = .ok (.astore 6, 2) := by decide +kernel
theorem dX6_reckonTeam_24 : decode cX6_reckonTeam 24 = .ok (.aload 6, 2) := by decide +kernel
theorem dX6_reckonTeam_26 : decode cX6_reckonTeam 26 = .ok (.ifnull 33, 3) := by decide +kernel
theorem dX6_reckonTeam_29 : decode cX6_reckonTeam 29 = .ok (.iload_n 1, 1) := by decide +kernel
theorem dX6_reckonTeam_30 : decode cX6_reckonTeam 30 = .ok (.iload 5, 2) := by decide +kernel
theorem dX6_reckonTeam_32 : decode cX6_reckonTeam 32 = .ok (.invokestatic 35, 3) := by decide +kernel
theorem dX6_reckonTeam_35 : decode cX6_reckonTeam 35 = .ok (.ifCond .eq 24, 3) := by decide +kernel
theorem dX6_reckonTeam_38 : decode cX6_reckonTeam 38 = .ok (.aload_n 0, 1) := by decide +kernel
theorem dX6_reckonTeam_39 : decode cX6_reckonTeam 39 = .ok (.aload 6, 2) := by decide +kernel
theorem dX6_reckonTeam_41 : decode cX6_reckonTeam 41 = .ok (.iload_n 2, 1) := by decide +kernel
theorem dX6_reckonTeam_42 : decode cX6_reckonTeam 42 = .ok (.iload_n 3, 1) := by decide +kernel
theorem dX6_reckonTeam_43 : decode cX6_reckonTeam 43 = .ok (.invokevirtual 90, 3) := by decide +kernel
theorem dX6_reckonTeam_46 : decode cX6_reckonTeam 46 = .ok (.ifCond .eq 13, 3) := by decide +kernel
theorem dX6_reckonTeam_49 : decode cX6_reckonTeam 49 = .ok (.iload 4, 2) := by decide +kernel
theorem dX6_reckonTeam_51 : decode cX6_reckonTeam 51 = .ok (.iload 5, 2) := by decide +kernel
theorem dX6_reckonTeam_53 : decode cX6_reckonTeam 53 = .ok (.invokestatic 46, 3) := by decide +kernel
theorem dX6_reckonTeam_56 : decode cX6_reckonTeam 56 = .ok (.ior, 1) := by decide +kernel
theorem dX6_reckonTeam_57 : decode cX6_reckonTeam 57 = .ok (.istore 4, 2) := by decide +kernel
theorem dX6_reckonTeam_59 : decode cX6_reckonTeam 59 = .ok (.iinc 5 1, 3) := by decide +kernel
theorem dX6_reckonTeam_62 : decode cX6_reckonTeam 62 = .ok (.goto (-56), 3) := by decide +kernel
theorem dX6_reckonTeam_65 : decode cX6_reckonTeam 65 = .ok (.iload 4, 2) := by decide +kernel
theorem dX6_reckonTeam_67 : decode cX6_reckonTeam 67 = .ok (.ireturn, 1) := by decide +kernel
set_option maxRecDepth 20000 in
theorem ggX6_settleTeam_X6_at : GoodIn wsX6_settleTeam wsX6_at := goodIn_r _ [6, 7, 1, 18, 19, 20] (by decide +kernel) (by decide +kernel)
set_option maxRecDepth 20000 in
theorem gX6_settleTeam_X6_at : GoodIn wsX6_settleTeam (wsV RX6 28 RX6 yX6_at wsX6_at) := goodIn_app (goodIn_of _ (by decide +kernel)) ggX6_settleTeam_X6_at
set_option maxRecDepth 20000 in
theorem ggX6_settleTeam_X8_hasBit : GoodIn wsX6_settleTeam wsX8_hasBit := goodIn_r _ [10] (by decide +kernel) (by decide +kernel)
set_option maxRecDepth 20000 in
theorem gX6_settleTeam_X8_hasBit_n35 : GoodIn wsX6_settleTeam (wsX8_hasBit) := ggX6_settleTeam_X8_hasBit
set_option maxRecDepth 20000 in
theorem ggX6_settleTeam_X5_settle : GoodIn wsX6_settleTeam wsX5_settle := goodIn_r _ [15, 16, 17, 21, 22, 23, 24, 25] (by decide +kernel) (by decide +kernel)
set_option maxRecDepth 20000 in
theorem gX6_settleTeam_X5_settle : GoodIn wsX6_settleTeam (wsV RX6 94 RX5 yX5_settle wsX5_settle) := goodIn_app (goodIn_of _ (by decide +kernel)) ggX6_settleTeam_X5_settle
theorem dX6_settleTeam_0 : decode cX6_settleTeam 0 = .ok (.iconst 0, 1) := by decide +kernel
theorem dX6_settleTeam_1 : decode cX6_settleTeam 1 = .ok (.istore_n 2, 1) := by decide +kernel
theorem dX6_settleTeam_2 : decode cX6_settleTeam 2 = .ok (.iload_n 2, 1) := by decide +kernel
theorem dX6_settleTeam_3 : decode cX6_settleTeam 3 = .ok (.aload_n 0, 1) := by decide +kernel
theorem dX6_settleTeam_4 : decode cX6_settleTeam 4 = .ok (.getfield 11, 3) := by decide +kernel
theorem dX6_settleTeam_7 : decode cX6_settleTeam 7 = .ok (.arraylength, 1) := by decide +kernel
theorem dX6_settleTeam_8 : decode cX6_settleTeam 8 = .ok (.if_icmp .ge 31, 3) := by decide +kernel
theorem dX6_settleTeam_11 : decode cX6_settleTeam 11 = .ok (.aload_n 0, 1) := by decide +kernel
theorem dX6_settleTeam_12 : decode cX6_settleTeam 12 = .ok (.iload_n 2, 1) := by decide +kernel
theorem dX6_settleTeam_13 : decode cX6_settleTeam 13 = .ok (.invokevirtual 28, 3) := by decide +kernel
theorem dX6_settleTeam_16 : decode cX6_settleTeam 16 = .ok (.astore_n 3, 1) := by decide +kernel
theorem dX6_settleTeam_17 : decode cX6_settleTeam 17 = .ok (.aload_n 3, 1) := by decide +kernel
theorem dX6_settleTeam_18 : decode cX6_settleTeam 18 = .ok (.ifnull 15, 3) := by decide +kernel
theorem dX6_settleTeam_21 : decode cX6_settleTeam 21 = .ok (.iload_n 1, 1) := by decide +kernel
theorem dX6_settleTeam_22 : decode cX6_settleTeam 22 = .ok (.iload_n 2, 1) := by decide +kernel
theorem dX6_settleTeam_23 : decode cX6_settleTeam 23 = .ok (.invokestatic 35, 3) := by decide +kernel
theorem dX6_settleTeam_26 : decode cX6_settleTeam 26 = .ok (.ifCond .eq 7, 3) := by decide +kernel
theorem dX6_settleTeam_29 : decode cX6_settleTeam 29 = .ok (.aload_n 3, 1) := by decide +kernel
theorem dX6_settleTeam_30 : decode cX6_settleTeam 30 = .ok (.invokevirtual 94, 3) := by decide +kernel
theorem dX6_settleTeam_33 : decode cX6_settleTeam 33 = .ok (.iinc 2 1, 3) := by decide +kernel
theorem dX6_settleTeam_36 : decode cX6_settleTeam 36 = .ok (.goto (-34), 3) := by decide +kernel
theorem dX6_settleTeam_39 : decode cX6_settleTeam 39 = .ok (.return_, 1) := by decide +kernel
theorem dX7_init_0 : decode cX7_init 0 = .ok (.aload_n 0, 1) := by decide +kernel
theorem dX7_init_1 : decode cX7_init 1 = .ok (.invokespecial 3, 3) := by decide +kernel
theorem dX7_init_4 : decode cX7_init 4 = .ok (.aload_n 0, 1) := by decide +kernel
theorem dX7_init_5 : decode cX7_init 5 = .ok (.bipush 10, 2) := by decide +kernel
theorem dX7_init_7 : decode cX7_init 7 = .ok (.newarray .int, 2) := by decide +kernel
theorem dX7_init_9 : decode cX7_init 9 = .ok (.putfield 9, 3) := by decide +kernel
theorem dX7_init_12 : decode cX7_init 12 = .ok (.aload_n 0, 1) := by decide +kernel
theorem dX7_init_13 : decode cX7_init 13 = .ok (.bipush 10, 2) := by decide +kernel
theorem dX7_init_15 : decode cX7_init 15 = .ok (.newarray .long, 2) := by decide +kernel
theorem dX7_init_17 : decode cX7_init 17 = .ok (.putfield 15, 3) := by decide +kernel
theorem dX7_init_20 : decode cX7_init 20 = .ok (.aload_n 0, 1) := by decide +kernel
theorem dX7_init_21 : decode cX7_init 21 = .ok (.iconst 0, 1) := by decide +kernel
theorem dX7_init_22 : decode cX7_init 22 = .ok (.putfield 19, 3) := by decide +kernel
theorem dX7_init_25 : decode cX7_init 25 = .ok (.return_, 1) := by decide +kernel
set_option maxRecDepth 20000 in
theorem ggX7_copyOf_X7_partyAt : GoodIn wsX7_copyOf wsX7_partyAt := goodIn_r _ [8, 3, 1, 13, 14, 15] (by decide +kernel) (by decide +kernel)
set_option maxRecDepth 20000 in
theorem gX7_copyOf_X7_partyAt : GoodIn wsX7_copyOf (wsV RX7 23 RX7 yX7_partyAt wsX7_partyAt) := goodIn_app (goodIn_of _ (by decide +kernel)) ggX7_copyOf_X7_partyAt
set_option maxRecDepth 20000 in
theorem ggX7_copyOf_X7_sinceAt : GoodIn wsX7_copyOf wsX7_sinceAt := goodIn_r _ [12, 3, 2, 13, 14, 15] (by decide +kernel) (by decide +kernel)
set_option maxRecDepth 20000 in
theorem gX7_copyOf_X7_sinceAt : GoodIn wsX7_copyOf (wsV RX7 27 RX7 yX7_sinceAt wsX7_sinceAt) := goodIn_app (goodIn_of _ (by decide +kernel)) ggX7_copyOf_X7_sinceAt
theorem dX7_copyOf_0 : decode cX7_copyOf 0 = .ok (.iconst 0, 1) := by decide +kernel
theorem dX7_copyOf_1 : decode cX7_copyOf 1 = .ok (.istore_n 2, 1) := by decide +kernel
theorem dX7_copyOf_2 : decode cX7_copyOf 2 = .ok (.iload_n 2, 1) := by decide +kernel
theorem dX7_copyOf_3 : decode cX7_copyOf 3 = .ok (.aload_n 0, 1) := by decide +kernel
theorem dX7_copyOf_4 : decode cX7_copyOf 4 = .ok (.getfield 9, 3) := by decide +kernel
theorem dX7_copyOf_7 : decode cX7_copyOf 7 = .ok (.arraylength, 1) := by decide +kernel
theorem dX7_copyOf_8 : decode cX7_copyOf 8 = .ok (.if_icmp .ge 31, 3) := by decide +kernel
theorem dX7_copyOf_11 : decode cX7_copyOf 11 = .ok (.aload_n 0, 1) := by decide +kernel
theorem dX7_copyOf_12 : decode cX7_copyOf 12 = .ok (.getfield 9, 3) := by decide +kernel
theorem dX7_copyOf_15 : decode cX7_copyOf 15 = .ok (.iload_n 2, 1) := by decide +kernel
theorem dX7_copyOf_16 : decode cX7_copyOf 16 = .ok (.aload_n 1, 1) := by decide +kernel
theorem dX7_copyOf_17 : decode cX7_copyOf 17 = .ok (.iload_n 2, 1) := by decide +kernel
theorem dX7_copyOf_18 : decode cX7_copyOf 18 = .ok (.invokevirtual 23, 3) := by decide +kernel
theorem dX7_copyOf_21 : decode cX7_copyOf 21 = .ok (.iastore, 1) := by decide +kernel
theorem dX7_copyOf_22 : decode cX7_copyOf 22 = .ok (.aload_n 0, 1) := by decide +kernel
theorem dX7_copyOf_23 : decode cX7_copyOf 23 = .ok (.getfield 15, 3) := by decide +kernel
theorem dX7_copyOf_26 : decode cX7_copyOf 26 = .ok (.iload_n 2, 1) := by decide +kernel
theorem dX7_copyOf_27 : decode cX7_copyOf 27 = .ok (.aload_n 1, 1) := by decide +kernel
theorem dX7_copyOf_28 : decode cX7_copyOf 28 = .ok (.iload_n 2, 1) := by decide +kernel
theorem dX7_copyOf_29 : decode cX7_copyOf 29 = .ok (.invokevirtual 27, 3) := by decide +kernel
theorem dX7_copyOf_32 : decode cX7_copyOf 32 = .ok (.lastore, 1) := by decide +kernel
theorem dX7_copyOf_33 : decode cX7_copyOf 33 = .ok (.iinc 2 1, 3) := by decide +kernel
theorem dX7_copyOf_36 : decode cX7_copyOf 36 = .ok (.goto (-34), 3) := by decide +kernel
theorem dX7_copyOf_39 : decode cX7_copyOf 39 = .ok (.aload_n 0, 1) := by decide +kernel
theorem dX7_copyOf_40 : decode cX7_copyOf 40 = .ok (.aload_n 1, 1) := by decide +kernel
theorem dX7_copyOf_41 : decode cX7_copyOf 41 = .ok (.getfield 19, 3) := by decide +kernel
theorem dX7_copyOf_44 : decode cX7_copyOf 44 = .ok (.putfield 19, 3) := by decide +kernel
theorem dX7_copyOf_47 : decode cX7_copyOf 47 = .ok (.return_, 1) := by decide +kernel
theorem dX7_join_0 : decode cX7_join 0 = .ok (.aload_n 0, 1) := by decide +kernel
theorem dX7_join_1 : decode cX7_join 1 = .ok (.getfield 19, 3) := by decide +kernel
theorem dX7_join_4 : decode cX7_join 4 = .ok (.ifCond .lt 27, 3) := by decide +kernel
theorem dX7_join_7 : decode cX7_join 7 = .ok (.aload_n 0, 1) := by decide +kernel
theorem dX7_join_8 : decode cX7_join 8 = .ok (.getfield 19, 3) := by decide +kernel
theorem dX7_join_11 : decode cX7_join 11 = .ok (.aload_n 0, 1) := by decide +kernel
theorem dX7_join_12 : decode cX7_join 12 = .ok (.getfield 9, 3) := by decide +kernel
theorem dX7_join_15 : decode cX7_join 15 = .ok (.arraylength, 1) := by decide +kernel
theorem dX7_join_16 : decode cX7_join 16 = .ok (.if_icmp .ge 15, 3) := by decide +kernel
theorem dX7_join_19 : decode cX7_join 19 = .ok (.aload_n 0, 1) := by decide +kernel
theorem dX7_join_20 : decode cX7_join 20 = .ok (.getfield 19, 3) := by decide +kernel
theorem dX7_join_23 : decode cX7_join 23 = .ok (.aload_n 0, 1) := by decide +kernel
theorem dX7_join_24 : decode cX7_join 24 = .ok (.getfield 15, 3) := by decide +kernel
theorem dX7_join_27 : decode cX7_join 27 = .ok (.arraylength, 1) := by decide +kernel
theorem dX7_join_28 : decode cX7_join 28 = .ok (.if_icmp .lt 5, 3) := by decide +kernel
theorem dX7_join_31 : decode cX7_join 31 = .ok (.iconst 0, 1) := by decide +kernel
theorem dX7_join_32 : decode cX7_join 32 = .ok (.ireturn, 1) := by decide +kernel
theorem dX7_join_33 : decode cX7_join 33 = .ok (.aload_n 0, 1) := by decide +kernel
theorem dX7_join_34 : decode cX7_join 34 = .ok (.getfield 9, 3) := by decide +kernel
theorem dX7_join_37 : decode cX7_join 37 = .ok (.aload_n 0, 1) := by decide +kernel
theorem dX7_join_38 : decode cX7_join 38 = .ok (.getfield 19, 3) := by decide +kernel
theorem dX7_join_41 : decode cX7_join 41 = .ok (.iload_n 1, 1) := by decide +kernel
theorem dX7_join_42 : decode cX7_join 42 = .ok (.iastore, 1) := by decide +kernel
theorem dX7_join_43 : decode cX7_join 43 = .ok (.aload_n 0, 1) := by decide +kernel
theorem dX7_join_44 : decode cX7_join 44 = .ok (.getfield 15, 3) := by decide +kernel
theorem dX7_join_47 : decode cX7_join 47 = .ok (.aload_n 0, 1) := by decide +kernel
theorem dX7_join_48 : decode cX7_join 48 = .ok (.getfield 19, 3) := by decide +kernel
theorem dX7_join_51 : decode cX7_join 51 = .ok (.lload_n 2, 1) := by decide +kernel
theorem dX7_join_52 : decode cX7_join 52 = .ok (.lastore, 1) := by decide +kernel
theorem dX7_join_53 : decode cX7_join 53 = .ok (.aload_n 0, 1) := by decide +kernel
theorem dX7_join_54 : decode cX7_join 54 = .ok (.dup, 1) := by decide +kernel
theorem dX7_join_55 : decode cX7_join 55 = .ok (.getfield 19, 3) := by decide +kernel
theorem dX7_join_58 : decode cX7_join 58 = .ok (.iconst 1, 1) := by decide +kernel
theorem dX7_join_59 : decode cX7_join 59 = .ok (.iadd, 1) := by decide +kernel
theorem dX7_join_60 : decode cX7_join 60 = .ok (.putfield 19, 3) := by decide +kernel
theorem dX7_join_63 : decode cX7_join 63 = .ok (.iconst 1, 1) := by decide +kernel
theorem dX7_join_64 : decode cX7_join 64 = .ok (.ireturn, 1) := by decide +kernel
theorem dX7_partyAt_0 : decode cX7_partyAt 0 = .ok (.iload_n 1, 1) := by decide +kernel
theorem dX7_partyAt_1 : decode cX7_partyAt 1 = .ok (.ifCond .lt 29, 3) := by decide +kernel
theorem dX7_partyAt_4 : decode cX7_partyAt 4 = .ok (.iload_n 1, 1) := by decide +kernel
theorem dX7_partyAt_5 : decode cX7_partyAt 5 = .ok (.aload_n 0, 1) := by decide +kernel
theorem dX7_partyAt_6 : decode cX7_partyAt 6 = .ok (.getfield 19, 3) := by decide +kernel
theorem dX7_partyAt_9 : decode cX7_partyAt 9 = .ok (.if_icmp .ge 21, 3) := by decide +kernel
theorem dX7_partyAt_12 : decode cX7_partyAt 12 = .ok (.iload_n 1, 1) := by decide +kernel
theorem dX7_partyAt_13 : decode cX7_partyAt 13 = .ok (.aload_n 0, 1) := by decide +kernel
theorem dX7_partyAt_14 : decode cX7_partyAt 14 = .ok (.getfield 9, 3) := by decide +kernel
theorem dX7_partyAt_17 : decode cX7_partyAt 17 = .ok (.arraylength, 1) := by decide +kernel
theorem dX7_partyAt_18 : decode cX7_partyAt 18 = .ok (.if_icmp .ge 12, 3) := by decide +kernel
theorem dX7_partyAt_21 : decode cX7_partyAt 21 = .ok (.aload_n 0, 1) := by decide +kernel
theorem dX7_partyAt_22 : decode cX7_partyAt 22 = .ok (.getfield 9, 3) := by decide +kernel
theorem dX7_partyAt_25 : decode cX7_partyAt 25 = .ok (.iload_n 1, 1) := by decide +kernel
theorem dX7_partyAt_26 : decode cX7_partyAt 26 = .ok (.iaload, 1) := by decide +kernel
theorem dX7_partyAt_27 : decode cX7_partyAt 27 = .ok (.goto 4, 3) := by decide +kernel
theorem dX7_partyAt_30 : decode cX7_partyAt 30 = .ok (.iconst 0, 1) := by decide +kernel
theorem dX7_partyAt_31 : decode cX7_partyAt 31 = .ok (.ireturn, 1) := by decide +kernel
theorem dX7_sinceAt_0 : decode cX7_sinceAt 0 = .ok (.iload_n 1, 1) := by decide +kernel
theorem dX7_sinceAt_1 : decode cX7_sinceAt 1 = .ok (.ifCond .lt 29, 3) := by decide +kernel
theorem dX7_sinceAt_4 : decode cX7_sinceAt 4 = .ok (.iload_n 1, 1) := by decide +kernel
theorem dX7_sinceAt_5 : decode cX7_sinceAt 5 = .ok (.aload_n 0, 1) := by decide +kernel
theorem dX7_sinceAt_6 : decode cX7_sinceAt 6 = .ok (.getfield 19, 3) := by decide +kernel
theorem dX7_sinceAt_9 : decode cX7_sinceAt 9 = .ok (.if_icmp .ge 21, 3) := by decide +kernel
theorem dX7_sinceAt_12 : decode cX7_sinceAt 12 = .ok (.iload_n 1, 1) := by decide +kernel
theorem dX7_sinceAt_13 : decode cX7_sinceAt 13 = .ok (.aload_n 0, 1) := by decide +kernel
theorem dX7_sinceAt_14 : decode cX7_sinceAt 14 = .ok (.getfield 15, 3) := by decide +kernel
theorem dX7_sinceAt_17 : decode cX7_sinceAt 17 = .ok (.arraylength, 1) := by decide +kernel
theorem dX7_sinceAt_18 : decode cX7_sinceAt 18 = .ok (.if_icmp .ge 12, 3) := by decide +kernel
theorem dX7_sinceAt_21 : decode cX7_sinceAt 21 = .ok (.aload_n 0, 1) := by decide +kernel
theorem dX7_sinceAt_22 : decode cX7_sinceAt 22 = .ok (.getfield 15, 3) := by decide +kernel
theorem dX7_sinceAt_25 : decode cX7_sinceAt 25 = .ok (.iload_n 1, 1) := by decide +kernel
theorem dX7_sinceAt_26 : decode cX7_sinceAt 26 = .ok (.laload, 1) := by decide +kernel
theorem dX7_sinceAt_27 : decode cX7_sinceAt 27 = .ok (.goto 4, 3) := by decide +kernel
theorem dX7_sinceAt_30 : decode cX7_sinceAt 30 = .ok (.lconst 0, 1) := by decide +kernel
theorem dX7_sinceAt_31 : decode cX7_sinceAt 31 = .ok (.lreturn, 1) := by decide +kernel
set_option maxRecDepth 20000 in
theorem ggX7_everybody_X7_playersAt : GoodIn wsX7_everybody wsX7_playersAt := goodIn_r _ [5, 6, 7, 8, 9, 10, 11, 12, 4, 13, 14, 15, 16, 17] (by decide +kernel) (by decide +kernel)
set_option maxRecDepth 20000 in
theorem gX7_everybody_X7_playersAt : GoodIn wsX7_everybody (wsV RX7 31 RX7 yX7_playersAt wsX7_playersAt) := goodIn_app (goodIn_of _ (by decide +kernel)) ggX7_everybody_X7_playersAt
theorem dX7_everybody_0 : decode cX7_everybody 0 = .ok (.aload_n 0, 1) := by decide +kernel
theorem dX7_everybody_1 : decode cX7_everybody 1 = .ok (.iconst (-1), 1) := by decide +kernel
theorem dX7_everybody_2 : decode cX7_everybody 2 = .ok (.invokevirtual 31, 3) := by decide +kernel
theorem dX7_everybody_5 : decode cX7_everybody 5 = .ok (.ireturn, 1) := by decide +kernel
set_option maxRecDepth 20000 in
theorem ggX7_playersAt_X8_hasBit : GoodIn wsX7_playersAt wsX8_hasBit := goodIn_r _ [4] (by decide +kernel) (by decide +kernel)
set_option maxRecDepth 20000 in
theorem gX7_playersAt_X8_hasBit_n34 : GoodIn wsX7_playersAt (wsX8_hasBit) := ggX7_playersAt_X8_hasBit
set_option maxRecDepth 20000 in
theorem ggX7_playersAt_X7_partyAt : GoodIn wsX7_playersAt wsX7_partyAt := goodIn_r _ [9, 10, 1, 11, 12, 13] (by decide +kernel) (by decide +kernel)
set_option maxRecDepth 20000 in
theorem gX7_playersAt_X7_partyAt : GoodIn wsX7_playersAt (wsV RX7 23 RX7 yX7_partyAt wsX7_partyAt) := goodIn_app (goodIn_of _ (by decide +kernel)) ggX7_playersAt_X7_partyAt
theorem dX7_playersAt_0 : decode cX7_playersAt 0 = .ok (.iconst 0, 1) := by decide +kernel
theorem dX7_playersAt_1 : decode cX7_playersAt 1 = .ok (.istore_n 2, 1) := by decide +kernel
theorem dX7_playersAt_2 : decode cX7_playersAt 2 = .ok (.iconst 0, 1) := by decide +kernel
theorem dX7_playersAt_3 : decode cX7_playersAt 3 = .ok (.istore_n 3, 1) := by decide +kernel
theorem dX7_playersAt_4 : decode cX7_playersAt 4 = .ok (.iload_n 3, 1) := by decide +kernel
theorem dX7_playersAt_5 : decode cX7_playersAt 5 = .ok (.aload_n 0, 1) := by decide +kernel
theorem dX7_playersAt_6 : decode cX7_playersAt 6 = .ok (.getfield 9, 3) := by decide +kernel
theorem dX7_playersAt_9 : decode cX7_playersAt 9 = .ok (.arraylength, 1) := by decide +kernel
theorem dX7_playersAt_10 : decode cX7_playersAt 10 = .ok (.if_icmp .ge 25, 3) := by decide +kernel
theorem dX7_playersAt_13 : decode cX7_playersAt 13 = .ok (.iload_n 1, 1) := by decide +kernel
theorem dX7_playersAt_14 : decode cX7_playersAt 14 = .ok (.iload_n 3, 1) := by decide +kernel
theorem dX7_playersAt_15 : decode cX7_playersAt 15 = .ok (.invokestatic 34, 3) := by decide +kernel
theorem dX7_playersAt_18 : decode cX7_playersAt 18 = .ok (.ifCond .eq 11, 3) := by decide +kernel
theorem dX7_playersAt_21 : decode cX7_playersAt 21 = .ok (.iload_n 2, 1) := by decide +kernel
theorem dX7_playersAt_22 : decode cX7_playersAt 22 = .ok (.aload_n 0, 1) := by decide +kernel
theorem dX7_playersAt_23 : decode cX7_playersAt 23 = .ok (.iload_n 3, 1) := by decide +kernel
theorem dX7_playersAt_24 : decode cX7_playersAt 24 = .ok (.invokevirtual 23, 3) := by decide +kernel
theorem dX7_playersAt_27 : decode cX7_playersAt 27 = .ok (.ior, 1) := by decide +kernel
theorem dX7_playersAt_28 : decode cX7_playersAt 28 = .ok (.istore_n 2, 1) := by decide +kernel
theorem dX7_playersAt_29 : decode cX7_playersAt 29 = .ok (.iinc 3 1, 3) := by decide +kernel
theorem dX7_playersAt_32 : decode cX7_playersAt 32 = .ok (.goto (-28), 3) := by decide +kernel
theorem dX7_playersAt_35 : decode cX7_playersAt 35 = .ok (.iload_n 2, 1) := by decide +kernel
theorem dX7_playersAt_36 : decode cX7_playersAt 36 = .ok (.ireturn, 1) := by decide +kernel
set_option maxRecDepth 20000 in
theorem ggX7_placeOf_X7_partyAt : GoodIn wsX7_placeOf wsX7_partyAt := goodIn_r _ [6, 7, 1, 8, 9, 10] (by decide +kernel) (by decide +kernel)
set_option maxRecDepth 20000 in
theorem gX7_placeOf_X7_partyAt : GoodIn wsX7_placeOf (wsV RX7 23 RX7 yX7_partyAt wsX7_partyAt) := goodIn_app (goodIn_of _ (by decide +kernel)) ggX7_placeOf_X7_partyAt
theorem dX7_placeOf_0 : decode cX7_placeOf 0 = .ok (.iconst 0, 1) := by decide +kernel
theorem dX7_placeOf_1 : decode cX7_placeOf 1 = .ok (.istore_n 2, 1) := by decide +kernel
theorem dX7_placeOf_2 : decode cX7_placeOf 2 = .ok (.iload_n 2, 1) := by decide +kernel
theorem dX7_placeOf_3 : decode cX7_placeOf 3 = .ok (.aload_n 0, 1) := by decide +kernel
theorem dX7_placeOf_4 : decode cX7_placeOf 4 = .ok (.getfield 9, 3) := by decide +kernel
theorem dX7_placeOf_7 : decode cX7_placeOf 7 = .ok (.arraylength, 1) := by decide +kernel
theorem dX7_placeOf_8 : decode cX7_placeOf 8 = .ok (.if_icmp .ge 21, 3) := by decide +kernel
theorem dX7_placeOf_11 : decode cX7_placeOf 11 = .ok (.aload_n 0, 1) := by decide +kernel
theorem dX7_placeOf_12 : decode cX7_placeOf 12 = .ok (.iload_n 2, 1) := by decide +kernel
theorem dX7_placeOf_13 : decode cX7_placeOf 13 = .ok (.invokevirtual 23, 3) := by decide +kernel
theorem dX7_placeOf_16 : decode cX7_placeOf 16 = .ok (.iload_n 1, 1) := by decide +kernel
theorem dX7_placeOf_17 : decode cX7_placeOf 17 = .ok (.iand, 1) := by decide +kernel
theorem dX7_placeOf_18 : decode cX7_placeOf 18 = .ok (.ifCond .eq 5, 3) := by decide +kernel
theorem dX7_placeOf_21 : decode cX7_placeOf 21 = .ok (.iload_n 2, 1) := by decide +kernel
theorem dX7_placeOf_22 : decode cX7_placeOf 22 = .ok (.ireturn, 1) := by decide +kernel
theorem dX7_placeOf_23 : decode cX7_placeOf 23 = .ok (.iinc 2 1, 3) := by decide +kernel
theorem dX7_placeOf_26 : decode cX7_placeOf 26 = .ok (.goto (-24), 3) := by decide +kernel
theorem dX7_placeOf_29 : decode cX7_placeOf 29 = .ok (.iconst (-1), 1) := by decide +kernel
theorem dX7_placeOf_30 : decode cX7_placeOf 30 = .ok (.ireturn, 1) := by decide +kernel
set_option maxRecDepth 20000 in
theorem ggX7_release_X8_hasBit : GoodIn wsX7_release wsX8_hasBit := goodIn_r _ [6] (by decide +kernel) (by decide +kernel)
set_option maxRecDepth 20000 in
theorem gX7_release_X8_hasBit_n34 : GoodIn wsX7_release (wsX8_hasBit) := ggX7_release_X8_hasBit
theorem dX7_release_0 : decode cX7_release 0 = .ok (.iconst 0, 1) := by decide +kernel
theorem dX7_release_1 : decode cX7_release 1 = .ok (.istore_n 2, 1) := by decide +kernel
theorem dX7_release_2 : decode cX7_release 2 = .ok (.iconst 0, 1) := by decide +kernel
theorem dX7_release_3 : decode cX7_release 3 = .ok (.istore_n 3, 1) := by decide +kernel
theorem dX7_release_4 : decode cX7_release 4 = .ok (.iload_n 3, 1) := by decide +kernel
theorem dX7_release_5 : decode cX7_release 5 = .ok (.aload_n 0, 1) := by decide +kernel
theorem dX7_release_6 : decode cX7_release 6 = .ok (.getfield 19, 3) := by decide +kernel
theorem dX7_release_9 : decode cX7_release 9 = .ok (.if_icmp .ge 62, 3) := by decide +kernel
theorem dX7_release_12 : decode cX7_release 12 = .ok (.iload_n 3, 1) := by decide +kernel
theorem dX7_release_13 : decode cX7_release 13 = .ok (.aload_n 0, 1) := by decide +kernel
theorem dX7_release_14 : decode cX7_release 14 = .ok (.getfield 9, 3) := by decide +kernel
theorem dX7_release_17 : decode cX7_release 17 = .ok (.arraylength, 1) := by decide +kernel
theorem dX7_release_18 : decode cX7_release 18 = .ok (.if_icmp .ge 53, 3) := by decide +kernel
theorem dX7_release_21 : decode cX7_release 21 = .ok (.iload_n 3, 1) := by decide +kernel
theorem dX7_release_22 : decode cX7_release 22 = .ok (.aload_n 0, 1) := by decide +kernel
theorem dX7_release_23 : decode cX7_release 23 = .ok (.getfield 15, 3) := by decide +kernel
theorem dX7_release_26 : decode cX7_release 26 = .ok (.arraylength, 1) := by decide +kernel
theorem dX7_release_27 : decode cX7_release 27 = .ok (.if_icmp .ge 44, 3) := by decide +kernel
theorem dX7_release_30 : decode cX7_release 30 = .ok (.iload_n 1, 1) := by decide +kernel
theorem dX7_release_31 : decode cX7_release 31 = .ok (.iload_n 3, 1) := by decide +kernel
theorem dX7_release_32 : decode cX7_release 32 = .ok (.invokestatic 34, 3) := by decide +kernel
theorem dX7_release_35 : decode cX7_release 35 = .ok (.ifCond .ne 30, 3) := by decide +kernel
theorem dX7_release_38 : decode cX7_release 38 = .ok (.aload_n 0, 1) := by decide +kernel
theorem dX7_release_39 : decode cX7_release 39 = .ok (.getfield 9, 3) := by decide +kernel
theorem dX7_release_42 : decode cX7_release 42 = .ok (.iload_n 2, 1) := by decide +kernel
theorem dX7_release_43 : decode cX7_release 43 = .ok (.aload_n 0, 1) := by decide +kernel
theorem dX7_release_44 : decode cX7_release 44 = .ok (.getfield 9, 3) := by decide +kernel
theorem dX7_release_47 : decode cX7_release 47 = .ok (.iload_n 3, 1) := by decide +kernel
theorem dX7_release_48 : decode cX7_release 48 = .ok (.iaload, 1) := by decide +kernel
theorem dX7_release_49 : decode cX7_release 49 = .ok (.iastore, 1) := by decide +kernel
theorem dX7_release_50 : decode cX7_release 50 = .ok (.aload_n 0, 1) := by decide +kernel
theorem dX7_release_51 : decode cX7_release 51 = .ok (.getfield 15, 3) := by decide +kernel
theorem dX7_release_54 : decode cX7_release 54 = .ok (.iload_n 2, 1) := by decide +kernel
theorem dX7_release_55 : decode cX7_release 55 = .ok (.aload_n 0, 1) := by decide +kernel
theorem dX7_release_56 : decode cX7_release 56 = .ok (.getfield 15, 3) := by decide +kernel
theorem dX7_release_59 : decode cX7_release 59 = .ok (.iload_n 3, 1) := by decide +kernel
theorem dX7_release_60 : decode cX7_release 60 = .ok (.laload, 1) := by decide +kernel
theorem dX7_release_61 : decode cX7_release 61 = .ok (.lastore, 1) := by decide +kernel
theorem dX7_release_62 : decode cX7_release 62 = .ok (.iinc 2 1, 3) := by decide +kernel
theorem dX7_release_65 : decode cX7_release 65 = .ok (.iinc 3 1, 3) := by decide +kernel
theorem dX7_release_68 : decode cX7_release 68 = .ok (.goto (-64), 3) := by decide +kernel
theorem dX7_release_71 : decode cX7_release 71 = .ok (.aload_n 0, 1) := by decide +kernel
theorem dX7_release_72 : decode cX7_release 72 = .ok (.iload_n 2, 1) := by decide +kernel
theorem dX7_release_73 : decode cX7_release 73 = .ok (.putfield 19, 3) := by decide +kernel
theorem dX7_release_76 : decode cX7_release 76 = .ok (.return_, 1) := by decide +kernel
set_option maxRecDepth 20000 in
theorem ggX8_init_X6_init : GoodIn wsX8_init wsX6_init := goodIn_r _ [39, 40, 2, 3, 41, 42, 29, 43, 44, 97, 98, 99] (by decide +kernel) (by decide +kernel)
set_option maxRecDepth 20000 in
theorem gX8_init_X6_init : GoodIn wsX8_init (wsX6_init) := ggX8_init_X6_init
set_option maxRecDepth 20000 in
theorem ggX8_init_X7_init : GoodIn wsX8_init wsX7_init := goodIn_r _ [47, 48, 2, 3, 49, 50, 29, 51, 52, 113, 114, 115] (by decide +kernel) (by decide +kernel)
set_option maxRecDepth 20000 in
theorem gX8_init_X7_init : GoodIn wsX8_init (wsX7_init) := ggX8_init_X7_init
set_option maxRecDepth 20000 in
theorem ggX8_init_X3_init : GoodIn wsX8_init wsX3_init := goodIn_r _ [55, 56, 2, 3, 49, 57, 29, 58, 59, 60, 61, 62, 116, 117, 118, 119, 120, 121] (by decide +kernel) (by decide +kernel)
set_option maxRecDepth 20000 in
theorem gX8_init_X3_init : GoodIn wsX8_init (wsX3_init) := ggX8_init_X3_init
set_option maxRecDepth 20000 in
theorem ggX8_init_X4_init : GoodIn wsX8_init wsX4_init := goodIn_r _ [65, 66, 2, 3, 49, 67, 68, 69, 122, 123, 124] (by decide +kernel) (by decide +kernel)
set_option maxRecDepth 20000 in
theorem gX8_init_X4_init : GoodIn wsX8_init (wsX4_init) := ggX8_init_X4_init
set_option maxRecDepth 20000 in
theorem ggX8_init_X2_init : GoodIn wsX8_init wsX2_init := goodIn_r _ [72, 73, 2, 3, 74, 75, 76, 77, 78, 79, 80, 81, 82, 83, 84, 85, 86, 125, 126, 130, 131, 132, 133] (by decide +kernel) (by decide +kernel)
set_option maxRecDepth 20000 in
theorem gX8_init_X2_init : GoodIn wsX8_init (wsX2_init) := ggX8_init_X2_init
set_option maxRecDepth 20000 in
theorem ggX8_init_X0_init : GoodIn wsX8_init wsX0_init := goodIn_r _ [89, 90, 2, 3, 91, 92, 93, 94, 95, 96, 127, 128, 129] (by decide +kernel) (by decide +kernel)
set_option maxRecDepth 20000 in
theorem gX8_init_X0_init : GoodIn wsX8_init (wsX0_init) := ggX8_init_X0_init
