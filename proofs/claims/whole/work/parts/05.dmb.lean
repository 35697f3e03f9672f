set_option maxRecDepth 20000 in
theorem gX9_pairing_X9_finding : GoodIn wsX9_pairing (wsV RX9 111 RX9 yX9_finding wsX9_finding) := goodIn_app (goodIn_of _ (by decide +kernel)) ggX9_pairing_X9_finding
set_option maxRecDepth 20000 in
theorem ggX9_pairing_X9_partyOf : GoodIn wsX9_pairing wsX9_partyOf := goodIn_r _ [25, 26, 27, 60, 61, 62, 63, 64, 65, 66, 67, 68, 69, 70, 71, 72, 73, 74, 75, 76, 77, 78, 79, 80, 81, 82, 83, 84, 85, 86, 87, 88, 89, 90, 91, 92] (by decide +kernel) (by decide +kernel)
set_option maxRecDepth 20000 in
theorem gX9_pairing_X9_partyOf : GoodIn wsX9_pairing (wsV RX9 164 RX9 yX9_partyOf wsX9_partyOf) := goodIn_app (goodIn_of _ (by decide +kernel)) ggX9_pairing_X9_partyOf
set_option maxRecDepth 20000 in
theorem ggX9_pairing_X9_laySets : GoodIn wsX9_pairing wsX9_laySets := goodIn_r _ [31, 26, 32, 33, 12, 34, 35, 36, 10, 37, 27, 38, 39, 40, 41, 42, 43, 44, 45, 60, 61, 62, 63, 64, 65, 66, 67, 68, 69, 70, 71, 72, 73, 74, 75, 76, 77, 78, 79, 80, 81, 82, 83, 84, 85, 86, 87, 88, 89, 90, 91, 92] (by decide +kernel) (by decide +kernel)
set_option maxRecDepth 20000 in
theorem gX9_pairing_X9_laySets : GoodIn wsX9_pairing (wsV RX9 195 RX9 yX9_laySets wsX9_laySets) := goodIn_app (goodIn_of _ (by decide +kernel)) ggX9_pairing_X9_laySets
set_option maxRecDepth 20000 in
theorem ggX9_pairing_X9_findPairing : GoodIn wsX9_pairing wsX9_findPairing := goodIn_r _ [49, 5, 26, 32, 50, 33, 4, 6, 51, 52, 53, 10, 54, 55, 56, 57, 58, 59, 60, 61, 62, 63, 64, 65, 66, 67, 68, 69, 70, 71, 72, 73, 74, 75, 76, 77, 78, 79, 80, 81, 82, 83, 84, 85, 86, 87, 88, 89, 90, 91, 92] (by decide +kernel) (by decide +kernel)
set_option maxRecDepth 20000 in
theorem gX9_pairing_X9_findPairing : GoodIn wsX9_pairing (wsV RX9 198 RX9 yX9_findPairing wsX9_findPairing) := goodIn_app (goodIn_of _ (by decide +kernel)) ggX9_pairing_X9_findPairing
set_option maxRecDepth 20000 in
theorem ggX9_pairing_X9_playersOf : GoodIn wsX9_pairing wsX9_playersOf := goodIn_r _ [37, 26, 27, 60, 61, 62, 63, 64, 65, 66, 67, 68, 69, 70, 71, 72, 73, 74, 75, 76, 77, 78, 79, 80, 81, 82, 83, 84, 85, 86, 87, 88, 89, 90, 91, 92] (by decide +kernel) (by decide +kernel)
set_option maxRecDepth 20000 in
theorem gX9_pairing_X9_playersOf : GoodIn wsX9_pairing (wsV RX9 182 RX9 yX9_playersOf wsX9_playersOf) := goodIn_app (goodIn_of _ (by decide +kernel)) ggX9_pairing_X9_playersOf
theorem dX9_pairing_0 : decode cX9_pairing 0 = .ok (.aload_n 0, 1) := by decide +kernel
theorem dX9_pairing_1 : decode cX9_pairing 1 = .ok (.iload_n 1, 1) := by decide +kernel
theorem dX9_pairing_2 : decode cX9_pairing 2 = .ok (.invokevirtual 121, 3) := by decide +kernel
theorem dX9_pairing_5 : decode cX9_pairing 5 = .ok (.ifCond .eq 15, 3) := by decide +kernel
theorem dX9_pairing_8 : decode cX9_pairing 8 = .ok (.iload_n 2, 1) := by decide +kernel
theorem dX9_pairing_9 : decode cX9_pairing 9 = .ok (.i2l, 1) := by decide +kernel
theorem dX9_pairing_10 : decode cX9_pairing 10 = .ok (.lconst 0, 1) := by decide +kernel
theorem dX9_pairing_11 : decode cX9_pairing 11 = .ok (.ldc2_w 107, 3) := by decide +kernel
theorem dX9_pairing_14 : decode cX9_pairing 14 = .ok (.invokestatic 97, 3) := by decide +kernel
theorem dX9_pairing_17 : decode cX9_pairing 17 = .ok (.ifCond .ne 11, 3) := by decide +kernel
theorem dX9_pairing_20 : decode cX9_pairing 20 = .ok (.aload_n 0, 1) := by decide +kernel
theorem dX9_pairing_21 : decode cX9_pairing 21 = .ok (.ldc2_w 109, 3) := by decide +kernel
theorem dX9_pairing_24 : decode cX9_pairing 24 = .ok (.invokevirtual 111, 3) := by decide +kernel
theorem dX9_pairing_27 : decode cX9_pairing 27 = .ok (.lreturn, 1) := by decide +kernel
theorem dX9_pairing_28 : decode cX9_pairing 28 = .ok (.aload_n 0, 1) := by decide +kernel
theorem dX9_pairing_29 : decode cX9_pairing 29 = .ok (.iload_n 1, 1) := by decide +kernel
theorem dX9_pairing_30 : decode cX9_pairing 30 = .ok (.invokevirtual 164, 3) := by decide +kernel
theorem dX9_pairing_33 : decode cX9_pairing 33 = .ok (.istore_n 3, 1) := by decide +kernel
theorem dX9_pairing_34 : decode cX9_pairing 34 = .ok (.iload_n 3, 1) := by decide +kernel
theorem dX9_pairing_35 : decode cX9_pairing 35 = .ok (.ifCond .ge 11, 3) := by decide +kernel
theorem dX9_pairing_38 : decode cX9_pairing 38 = .ok (.aload_n 0, 1) := by decide +kernel
theorem dX9_pairing_39 : decode cX9_pairing 39 = .ok (.ldc2_w 173, 3) := by decide +kernel
theorem dX9_pairing_42 : decode cX9_pairing 42 = .ok (.invokevirtual 111, 3) := by decide +kernel
theorem dX9_pairing_45 : decode cX9_pairing 45 = .ok (.lreturn, 1) := by decide +kernel
theorem dX9_pairing_46 : decode cX9_pairing 46 = .ok (.aload_n 0, 1) := by decide +kernel
theorem dX9_pairing_47 : decode cX9_pairing 47 = .ok (.invokevirtual 195, 3) := by decide +kernel
theorem dX9_pairing_50 : decode cX9_pairing 50 = .ok (.aload_n 0, 1) := by decide +kernel
theorem dX9_pairing_51 : decode cX9_pairing 51 = .ok (.iload_n 3, 1) := by decide +kernel
theorem dX9_pairing_52 : decode cX9_pairing 52 = .ok (.sipush 1023, 3) := by decide +kernel
theorem dX9_pairing_55 : decode cX9_pairing 55 = .ok (.invokevirtual 198, 3) := by decide +kernel
theorem dX9_pairing_58 : decode cX9_pairing 58 = .ok (.ifCond .ne 11, 3) := by decide +kernel
theorem dX9_pairing_61 : decode cX9_pairing 61 = .ok (.aload_n 0, 1) := by decide +kernel
theorem dX9_pairing_62 : decode cX9_pairing 62 = .ok (.ldc2_w 173, 3) := by decide +kernel
theorem dX9_pairing_65 : decode cX9_pairing 65 = .ok (.invokevirtual 111, 3) := by decide +kernel
theorem dX9_pairing_68 : decode cX9_pairing 68 = .ok (.lreturn, 1) := by decide +kernel
theorem dX9_pairing_69 : decode cX9_pairing 69 = .ok (.iload_n 2, 1) := by decide +kernel
theorem dX9_pairing_70 : decode cX9_pairing 70 = .ok (.ifCond .ne 10, 3) := by decide +kernel
theorem dX9_pairing_73 : decode cX9_pairing 73 = .ok (.aload_n 0, 1) := by decide +kernel
theorem dX9_pairing_74 : decode cX9_pairing 74 = .ok (.getfield 188, 3) := by decide +kernel
theorem dX9_pairing_77 : decode cX9_pairing 77 = .ok (.goto 24, 3) := by decide +kernel
theorem dX9_pairing_80 : decode cX9_pairing 80 = .ok (.aload_n 0, 1) := by decide +kernel
theorem dX9_pairing_81 : decode cX9_pairing 81 = .ok (.iload_n 2, 1) := by decide +kernel
theorem dX9_pairing_82 : decode cX9_pairing 82 = .ok (.iconst 1, 1) := by decide +kernel
theorem dX9_pairing_83 : decode cX9_pairing 83 = .ok (.if_icmp .ne 10, 3) := by decide +kernel
theorem dX9_pairing_86 : decode cX9_pairing 86 = .ok (.aload_n 0, 1) := by decide +kernel
theorem dX9_pairing_87 : decode cX9_pairing 87 = .ok (.getfield 185, 3) := by decide +kernel
theorem dX9_pairing_90 : decode cX9_pairing 90 = .ok (.goto 7, 3) := by decide +kernel
theorem dX9_pairing_93 : decode cX9_pairing 93 = .ok (.aload_n 0, 1) := by decide +kernel
theorem dX9_pairing_94 : decode cX9_pairing 94 = .ok (.getfield 192, 3) := by decide +kernel
theorem dX9_pairing_97 : decode cX9_pairing 97 = .ok (.invokevirtual 182, 3) := by decide +kernel
theorem dX9_pairing_100 : decode cX9_pairing 100 = .ok (.i2l, 1) := by decide +kernel
theorem dX9_pairing_101 : decode cX9_pairing 101 = .ok (.lreturn, 1) := by decide +kernel
theorem dX9_playing_0 : decode cX9_playing 0 = .ok (.iconst 0, 1) := by decide +kernel
theorem dX9_playing_1 : decode cX9_playing 1 = .ok (.istore_n 1, 1) := by decide +kernel
theorem dX9_playing_2 : decode cX9_playing 2 = .ok (.iconst 0, 1) := by decide +kernel
theorem dX9_playing_3 : decode cX9_playing 3 = .ok (.istore_n 2, 1) := by decide +kernel
theorem dX9_playing_4 : decode cX9_playing 4 = .ok (.iload_n 2, 1) := by decide +kernel
theorem dX9_playing_5 : decode cX9_playing 5 = .ok (.iconst 5, 1) := by decide +kernel
theorem dX9_playing_6 : decode cX9_playing 6 = .ok (.if_icmp .ge 26, 3) := by decide +kernel
theorem dX9_playing_9 : decode cX9_playing 9 = .ok (.iload_n 1, 1) := by decide +kernel
theorem dX9_playing_10 : decode cX9_playing 10 = .ok (.aload_n 0, 1) := by decide +kernel
theorem dX9_playing_11 : decode cX9_playing 11 = .ok (.getfield 48, 3) := by decide +kernel
theorem dX9_playing_14 : decode cX9_playing 14 = .ok (.iload_n 2, 1) := by decide +kernel
theorem dX9_playing_15 : decode cX9_playing 15 = .ok (.baload, 1) := by decide +kernel
theorem dX9_playing_16 : decode cX9_playing 16 = .ok (.ifCond .eq 7, 3) := by decide +kernel
theorem dX9_playing_19 : decode cX9_playing 19 = .ok (.iconst 1, 1) := by decide +kernel
theorem dX9_playing_20 : decode cX9_playing 20 = .ok (.goto 4, 3) := by decide +kernel
theorem dX9_playing_23 : decode cX9_playing 23 = .ok (.iconst 0, 1) := by decide +kernel
theorem dX9_playing_24 : decode cX9_playing 24 = .ok (.iadd, 1) := by decide +kernel
theorem dX9_playing_25 : decode cX9_playing 25 = .ok (.istore_n 1, 1) := by decide +kernel
theorem dX9_playing_26 : decode cX9_playing 26 = .ok (.iinc 2 1, 3) := by decide +kernel
theorem dX9_playing_29 : decode cX9_playing 29 = .ok (.goto (-25), 3) := by decide +kernel
theorem dX9_playing_32 : decode cX9_playing 32 = .ok (.iload_n 1, 1) := by decide +kernel
theorem dX9_playing_33 : decode cX9_playing 33 = .ok (.ireturn, 1) := by decide +kernel
set_option maxRecDepth 20000 in
theorem ggX9_plan_X9_laySets : GoodIn wsX9_plan wsX9_laySets := goodIn_r _ [11, 2, 12, 13, 14, 15, 16, 17, 10, 18, 19, 20, 21, 22, 23, 24, 25, 26, 27, 48, 49, 50, 51, 52, 53, 54, 55, 56, 57, 58, 59, 60, 61, 62, 63, 64, 65, 66, 67, 68, 69, 70, 71, 72, 73, 74, 75, 76, 77, 78, 79, 80] (by decide +kernel) (by decide +kernel)
set_option maxRecDepth 20000 in
theorem gX9_plan_X9_laySets : GoodIn wsX9_plan (wsV RX9 195 RX9 yX9_laySets wsX9_laySets) := goodIn_app (goodIn_of _ (by decide +kernel)) ggX9_plan_X9_laySets
set_option maxRecDepth 20000 in
theorem ggX9_plan_X9_playing : GoodIn wsX9_plan wsX9_playing := goodIn_r _ [31, 32, 48, 49, 50, 51, 52, 53, 54, 55, 56, 57, 58, 59, 60, 61, 62, 63, 64, 65, 66, 67, 68, 69, 70, 71, 72, 73, 74, 75, 76, 77, 78, 79, 80] (by decide +kernel) (by decide +kernel)
set_option maxRecDepth 20000 in
theorem gX9_plan_X9_playing : GoodIn wsX9_plan (wsV RX9 205 RX9 yX9_playing wsX9_playing) := goodIn_app (goodIn_of _ (by decide +kernel)) ggX9_plan_X9_playing
set_option maxRecDepth 20000 in
theorem ggX9_plan_X9_findPairing : GoodIn wsX9_plan wsX9_findPairing := goodIn_r _ [36, 4, 2, 12, 37, 13, 38, 6, 39, 40, 41, 10, 42, 43, 44, 45, 46, 47, 48, 49, 50, 51, 52, 53, 54, 55, 56, 57, 58, 59, 60, 61, 62, 63, 64, 65, 66, 67, 68, 69, 70, 71, 72, 73, 74, 75, 76, 77, 78, 79, 80] (by decide +kernel) (by decide +kernel)
set_option maxRecDepth 20000 in
theorem gX9_plan_X9_findPairing : GoodIn wsX9_plan (wsV RX9 198 RX9 yX9_findPairing wsX9_findPairing) := goodIn_app (goodIn_of _ (by decide +kernel)) ggX9_plan_X9_findPairing
theorem dX9_plan_0 : decode cX9_plan 0 = .ok (.aload_n 0, 1) := by decide +kernel
theorem dX9_plan_1 : decode cX9_plan 1 = .ok (.invokevirtual 195, 3) := by decide +kernel
theorem dX9_plan_4 : decode cX9_plan 4 = .ok (.aload_n 0, 1) := by decide +kernel
theorem dX9_plan_5 : decode cX9_plan 5 = .ok (.iconst 0, 1) := by decide +kernel
theorem dX9_plan_6 : decode cX9_plan 6 = .ok (.putfield 202, 3) := by decide +kernel
theorem dX9_plan_9 : decode cX9_plan 9 = .ok (.iconst 1, 1) := by decide +kernel
theorem dX9_plan_10 : decode cX9_plan 10 = .ok (.aload_n 0, 1) := by decide +kernel
theorem dX9_plan_11 : decode cX9_plan 11 = .ok (.getfield 159, 3) := by decide +kernel
theorem dX9_plan_14 : decode cX9_plan 14 = .ok (.ishl, 1) := by decide +kernel
theorem dX9_plan_15 : decode cX9_plan 15 = .ok (.iconst 1, 1) := by decide +kernel
theorem dX9_plan_16 : decode cX9_plan 16 = .ok (.isub, 1) := by decide +kernel
theorem dX9_plan_17 : decode cX9_plan 17 = .ok (.istore_n 1, 1) := by decide +kernel
theorem dX9_plan_18 : decode cX9_plan 18 = .ok (.iconst 5, 1) := by decide +kernel
theorem dX9_plan_19 : decode cX9_plan 19 = .ok (.aload_n 0, 1) := by decide +kernel
theorem dX9_plan_20 : decode cX9_plan 20 = .ok (.invokevirtual 205, 3) := by decide +kernel
theorem dX9_plan_23 : decode cX9_plan 23 = .ok (.isub, 1) := by decide +kernel
theorem dX9_plan_24 : decode cX9_plan 24 = .ok (.istore_n 2, 1) := by decide +kernel
theorem dX9_plan_25 : decode cX9_plan 25 = .ok (.iconst 1, 1) := by decide +kernel
theorem dX9_plan_26 : decode cX9_plan 26 = .ok (.istore_n 3, 1) := by decide +kernel
theorem dX9_plan_27 : decode cX9_plan 27 = .ok (.iload_n 3, 1) := by decide +kernel
theorem dX9_plan_28 : decode cX9_plan 28 = .ok (.ifCond .eq 118, 3) := by decide +kernel
theorem dX9_plan_31 : decode cX9_plan 31 = .ok (.aload_n 0, 1) := by decide +kernel
theorem dX9_plan_32 : decode cX9_plan 32 = .ok (.getfield 202, 3) := by decide +kernel
theorem dX9_plan_35 : decode cX9_plan 35 = .ok (.iload_n 2, 1) := by decide +kernel
theorem dX9_plan_36 : decode cX9_plan 36 = .ok (.if_icmp .ge 110, 3) := by decide +kernel
theorem dX9_plan_39 : decode cX9_plan 39 = .ok (.iconst 0, 1) := by decide +kernel
theorem dX9_plan_40 : decode cX9_plan 40 = .ok (.istore_n 3, 1) := by decide +kernel
theorem dX9_plan_41 : decode cX9_plan 41 = .ok (.iconst 0, 1) := by decide +kernel
theorem dX9_plan_42 : decode cX9_plan 42 = .ok (.istore 4, 2) := by decide +kernel
theorem dX9_plan_44 : decode cX9_plan 44 = .ok (.iload 4, 2) := by decide +kernel
theorem dX9_plan_46 : decode cX9_plan 46 = .ok (.aload_n 0, 1) := by decide +kernel
theorem dX9_plan_47 : decode cX9_plan 47 = .ok (.getfield 159, 3) := by decide +kernel
theorem dX9_plan_50 : decode cX9_plan 50 = .ok (.if_icmp .ge 39, 3) := by decide +kernel
theorem dX9_plan_53 : decode cX9_plan 53 = .ok (.iload_n 3, 1) := by decide +kernel
theorem dX9_plan_54 : decode cX9_plan 54 = .ok (.ifCond .ne 35, 3) := by decide +kernel
theorem dX9_plan_57 : decode cX9_plan 57 = .ok (.iload_n 1, 1) := by decide +kernel
theorem dX9_plan_58 : decode cX9_plan 58 = .ok (.iload 4, 2) := by decide +kernel
theorem dX9_plan_60 : decode cX9_plan 60 = .ok (.ishr, 1) := by decide +kernel
theorem dX9_plan_61 : decode cX9_plan 61 = .ok (.iconst 1, 1) := by decide +kernel
theorem dX9_plan_62 : decode cX9_plan 62 = .ok (.iand, 1) := by decide +kernel
theorem dX9_plan_63 : decode cX9_plan 63 = .ok (.iconst 1, 1) := by decide +kernel
theorem dX9_plan_64 : decode cX9_plan 64 = .ok (.if_icmp .ne 17, 3) := by decide +kernel
theorem dX9_plan_67 : decode cX9_plan 67 = .ok (.aload_n 0, 1) := by decide +kernel
theorem dX9_plan_68 : decode cX9_plan 68 = .ok (.iload 4, 2) := by decide +kernel
theorem dX9_plan_70 : decode cX9_plan 70 = .ok (.iload_n 1, 1) := by decide +kernel
theorem dX9_plan_71 : decode cX9_plan 71 = .ok (.invokevirtual 198, 3) := by decide +kernel
theorem dX9_plan_74 : decode cX9_plan 74 = .ok (.ifCond .eq 7, 3) := by decide +kernel
theorem dX9_plan_77 : decode cX9_plan 77 = .ok (.iconst 1, 1) := by decide +kernel
theorem dX9_plan_78 : decode cX9_plan 78 = .ok (.goto 4, 3) := by decide +kernel
theorem dX9_plan_81 : decode cX9_plan 81 = .ok (.iconst 0, 1) := by decide +kernel
theorem dX9_plan_82 : decode cX9_plan 82 = .ok (.istore_n 3, 1) := by decide +kernel
theorem dX9_plan_83 : decode cX9_plan 83 = .ok (.iinc 4 1, 3) := by decide +kernel
theorem dX9_plan_86 : decode cX9_plan 86 = .ok (.goto (-42), 3) := by decide +kernel
theorem dX9_plan_89 : decode cX9_plan 89 = .ok (.iload_n 3, 1) := by decide +kernel
theorem dX9_plan_90 : decode cX9_plan 90 = .ok (.ifCond .eq (-63), 3) := by decide +kernel
theorem dX9_plan_93 : decode cX9_plan 93 = .ok (.aload_n 0, 1) := by decide +kernel
theorem dX9_plan_94 : decode cX9_plan 94 = .ok (.getfield 80, 3) := by decide +kernel
theorem dX9_plan_97 : decode cX9_plan 97 = .ok (.aload_n 0, 1) := by decide +kernel
theorem dX9_plan_98 : decode cX9_plan 98 = .ok (.getfield 202, 3) := by decide +kernel
theorem dX9_plan_101 : decode cX9_plan 101 = .ok (.aload_n 0, 1) := by decide +kernel
theorem dX9_plan_102 : decode cX9_plan 102 = .ok (.getfield 185, 3) := by decide +kernel
theorem dX9_plan_105 : decode cX9_plan 105 = .ok (.iastore, 1) := by decide +kernel
theorem dX9_plan_106 : decode cX9_plan 106 = .ok (.aload_n 0, 1) := by decide +kernel
theorem dX9_plan_107 : decode cX9_plan 107 = .ok (.getfield 83, 3) := by decide +kernel
theorem dX9_plan_110 : decode cX9_plan 110 = .ok (.aload_n 0, 1) := by decide +kernel
theorem dX9_plan_111 : decode cX9_plan 111 = .ok (.getfield 202, 3) := by decide +kernel
theorem dX9_plan_114 : decode cX9_plan 114 = .ok (.aload_n 0, 1) := by decide +kernel
theorem dX9_plan_115 : decode cX9_plan 115 = .ok (.getfield 192, 3) := by decide +kernel
theorem dX9_plan_118 : decode cX9_plan 118 = .ok (.iastore, 1) := by decide +kernel
theorem dX9_plan_119 : decode cX9_plan 119 = .ok (.aload_n 0, 1) := by decide +kernel
theorem dX9_plan_120 : decode cX9_plan 120 = .ok (.dup, 1) := by decide +kernel
theorem dX9_plan_121 : decode cX9_plan 121 = .ok (.getfield 202, 3) := by decide +kernel
theorem dX9_plan_124 : decode cX9_plan 124 = .ok (.iconst 1, 1) := by decide +kernel
theorem dX9_plan_125 : decode cX9_plan 125 = .ok (.iadd, 1) := by decide +kernel
theorem dX9_plan_126 : decode cX9_plan 126 = .ok (.putfield 202, 3) := by decide +kernel
theorem dX9_plan_129 : decode cX9_plan 129 = .ok (.iload_n 1, 1) := by decide +kernel
theorem dX9_plan_130 : decode cX9_plan 130 = .ok (.aload_n 0, 1) := by decide +kernel
theorem dX9_plan_131 : decode cX9_plan 131 = .ok (.getfield 185, 3) := by decide +kernel
theorem dX9_plan_134 : decode cX9_plan 134 = .ok (.aload_n 0, 1) := by decide +kernel
theorem dX9_plan_135 : decode cX9_plan 135 = .ok (.getfield 192, 3) := by decide +kernel
theorem dX9_plan_138 : decode cX9_plan 138 = .ok (.ior, 1) := by decide +kernel
theorem dX9_plan_139 : decode cX9_plan 139 = .ok (.iconst (-1), 1) := by decide +kernel
theorem dX9_plan_140 : decode cX9_plan 140 = .ok (.ixor, 1) := by decide +kernel
theorem dX9_plan_141 : decode cX9_plan 141 = .ok (.iand, 1) := by decide +kernel
theorem dX9_plan_142 : decode cX9_plan 142 = .ok (.istore_n 1, 1) := by decide +kernel
theorem dX9_plan_143 : decode cX9_plan 143 = .ok (.goto (-116), 3) := by decide +kernel
theorem dX9_plan_146 : decode cX9_plan 146 = .ok (.return_, 1) := by decide +kernel
set_option maxRecDepth 20000 in
theorem ggX9_tick_X9_plan : GoodIn wsX9_tick wsX9_plan := goodIn_r _ [15, 1, 10, 4, 16, 6, 17, 18, 19, 20, 14, 21, 22, 23, 24, 25, 26, 27, 28, 29, 30, 31, 32, 33, 34, 35, 36, 37, 38, 39, 40, 41, 2, 42, 43, 44, 45, 46, 47, 48, 49, 50, 51, 52, 53, 9, 54, 55, 60, 61, 62, 63, 64, 65, 66, 67, 68, 69, 70, 71, 72, 73, 74, 75, 76, 77, 78, 79, 80, 81, 82, 83, 84, 85, 86, 87, 88, 89, 90, 91, 92] (by decide +kernel) (by decide +kernel)
set_option maxRecDepth 20000 in
theorem gX9_tick_X9_plan : GoodIn wsX9_tick (wsV RX9 209 RX9 yX9_plan wsX9_plan) := goodIn_app (goodIn_of _ (by decide +kernel)) ggX9_tick_X9_plan
set_option maxRecDepth 20000 in
theorem ggX9_tick_X9_playersOf : GoodIn wsX9_tick wsX9_playersOf := goodIn_r _ [28, 10, 29, 60, 61, 62, 63, 64, 65, 66, 67, 68, 69, 70, 71, 72, 73, 74, 75, 76, 77, 78, 79, 80, 81, 82, 83, 84, 85, 86, 87, 88, 89, 90, 91, 92] (by decide +kernel) (by decide +kernel)
set_option maxRecDepth 20000 in
theorem gX9_tick_X9_playersOf : GoodIn wsX9_tick (wsV RX9 182 RX9 yX9_playersOf wsX9_playersOf) := goodIn_app (goodIn_of _ (by decide +kernel)) ggX9_tick_X9_playersOf
set_option maxRecDepth 20000 in
theorem ggX9_tick_X9_takeOut : GoodIn wsX9_tick wsX9_takeOut := goodIn_r _ [59, 10, 29, 54, 60, 61, 62, 63, 64, 65, 66, 67, 68, 69, 70, 71, 72, 73, 74, 75, 76, 77, 78, 79, 80, 81, 82, 83, 84, 85, 86, 87, 88, 89, 90, 91, 92] (by decide +kernel) (by decide +kernel)
set_option maxRecDepth 20000 in
theorem gX9_tick_X9_takeOut : GoodIn wsX9_tick (wsV RX9 175 RX9 yX9_takeOut wsX9_takeOut) := goodIn_app (goodIn_of _ (by decide +kernel)) ggX9_tick_X9_takeOut
theorem dX9_tick_0 : decode cX9_tick 0 = .ok (.aload_n 0, 1) := by decide +kernel
theorem dX9_tick_1 : decode cX9_tick 1 = .ok (.invokevirtual 209, 3) := by decide +kernel
theorem dX9_tick_4 : decode cX9_tick 4 = .ok (.iconst 0, 1) := by decide +kernel
theorem dX9_tick_5 : decode cX9_tick 5 = .ok (.istore_n 1, 1) := by decide +kernel
theorem dX9_tick_6 : decode cX9_tick 6 = .ok (.iconst 0, 1) := by decide +kernel
theorem dX9_tick_7 : decode cX9_tick 7 = .ok (.istore_n 2, 1) := by decide +kernel
theorem dX9_tick_8 : decode cX9_tick 8 = .ok (.iload_n 2, 1) := by decide +kernel
theorem dX9_tick_9 : decode cX9_tick 9 = .ok (.aload_n 0, 1) := by decide +kernel
theorem dX9_tick_10 : decode cX9_tick 10 = .ok (.getfield 202, 3) := by decide +kernel
theorem dX9_tick_13 : decode cX9_tick 13 = .ok (.if_icmp .ge 98, 3) := by decide +kernel
theorem dX9_tick_16 : decode cX9_tick 16 = .ok (.iconst 0, 1) := by decide +kernel
theorem dX9_tick_17 : decode cX9_tick 17 = .ok (.istore_n 3, 1) := by decide +kernel
theorem dX9_tick_18 : decode cX9_tick 18 = .ok (.aload_n 0, 1) := by decide +kernel
theorem dX9_tick_19 : decode cX9_tick 19 = .ok (.getfield 48, 3) := by decide +kernel
theorem dX9_tick_22 : decode cX9_tick 22 = .ok (.iload_n 3, 1) := by decide +kernel
theorem dX9_tick_23 : decode cX9_tick 23 = .ok (.baload, 1) := by decide +kernel
theorem dX9_tick_24 : decode cX9_tick 24 = .ok (.ifCond .eq 9, 3) := by decide +kernel
theorem dX9_tick_27 : decode cX9_tick 27 = .ok (.iinc 3 1, 3) := by decide +kernel
theorem dX9_tick_30 : decode cX9_tick 30 = .ok (.goto (-12), 3) := by decide +kernel
theorem dX9_tick_33 : decode cX9_tick 33 = .ok (.aload_n 0, 1) := by decide +kernel
theorem dX9_tick_34 : decode cX9_tick 34 = .ok (.getfield 48, 3) := by decide +kernel
theorem dX9_tick_37 : decode cX9_tick 37 = .ok (.iload_n 3, 1) := by decide +kernel
theorem dX9_tick_38 : decode cX9_tick 38 = .ok (.iconst 1, 1) := by decide +kernel
theorem dX9_tick_39 : decode cX9_tick 39 = .ok (.bastore, 1) := by decide +kernel
theorem dX9_tick_40 : decode cX9_tick 40 = .ok (.aload_n 0, 1) := by decide +kernel
theorem dX9_tick_41 : decode cX9_tick 41 = .ok (.getfield 52, 3) := by decide +kernel
theorem dX9_tick_44 : decode cX9_tick 44 = .ok (.iload_n 3, 1) := by decide +kernel
theorem dX9_tick_45 : decode cX9_tick 45 = .ok (.aload_n 0, 1) := by decide +kernel
theorem dX9_tick_46 : decode cX9_tick 46 = .ok (.aload_n 0, 1) := by decide +kernel
theorem dX9_tick_47 : decode cX9_tick 47 = .ok (.getfield 80, 3) := by decide +kernel
theorem dX9_tick_50 : decode cX9_tick 50 = .ok (.iload_n 2, 1) := by decide +kernel
theorem dX9_tick_51 : decode cX9_tick 51 = .ok (.iaload, 1) := by decide +kernel
theorem dX9_tick_52 : decode cX9_tick 52 = .ok (.invokevirtual 182, 3) := by decide +kernel
theorem dX9_tick_55 : decode cX9_tick 55 = .ok (.iastore, 1) := by decide +kernel
theorem dX9_tick_56 : decode cX9_tick 56 = .ok (.aload_n 0, 1) := by decide +kernel
theorem dX9_tick_57 : decode cX9_tick 57 = .ok (.getfield 55, 3) := by decide +kernel
theorem dX9_tick_60 : decode cX9_tick 60 = .ok (.iload_n 3, 1) := by decide +kernel
theorem dX9_tick_61 : decode cX9_tick 61 = .ok (.aload_n 0, 1) := by decide +kernel
theorem dX9_tick_62 : decode cX9_tick 62 = .ok (.aload_n 0, 1) := by decide +kernel
theorem dX9_tick_63 : decode cX9_tick 63 = .ok (.getfield 83, 3) := by decide +kernel
theorem dX9_tick_66 : decode cX9_tick 66 = .ok (.iload_n 2, 1) := by decide +kernel
theorem dX9_tick_67 : decode cX9_tick 67 = .ok (.iaload, 1) := by decide +kernel
theorem dX9_tick_68 : decode cX9_tick 68 = .ok (.invokevirtual 182, 3) := by decide +kernel
theorem dX9_tick_71 : decode cX9_tick 71 = .ok (.iastore, 1) := by decide +kernel
theorem dX9_tick_72 : decode cX9_tick 72 = .ok (.aload_n 0, 1) := by decide +kernel
theorem dX9_tick_73 : decode cX9_tick 73 = .ok (.getfield 58, 3) := by decide +kernel
theorem dX9_tick_76 : decode cX9_tick 76 = .ok (.iload_n 3, 1) := by decide +kernel
theorem dX9_tick_77 : decode cX9_tick 77 = .ok (.iconst 0, 1) := by decide +kernel
theorem dX9_tick_78 : decode cX9_tick 78 = .ok (.iastore, 1) := by decide +kernel
theorem dX9_tick_79 : decode cX9_tick 79 = .ok (.aload_n 0, 1) := by decide +kernel
theorem dX9_tick_80 : decode cX9_tick 80 = .ok (.getfield 61, 3) := by decide +kernel
theorem dX9_tick_83 : decode cX9_tick 83 = .ok (.iload_n 3, 1) := by decide +kernel
theorem dX9_tick_84 : decode cX9_tick 84 = .ok (.aload_n 0, 1) := by decide +kernel
theorem dX9_tick_85 : decode cX9_tick 85 = .ok (.getfield 89, 3) := by decide +kernel
theorem dX9_tick_88 : decode cX9_tick 88 = .ok (.iastore, 1) := by decide +kernel
theorem dX9_tick_89 : decode cX9_tick 89 = .ok (.iload_n 1, 1) := by decide +kernel
theorem dX9_tick_90 : decode cX9_tick 90 = .ok (.aload_n 0, 1) := by decide +kernel
theorem dX9_tick_91 : decode cX9_tick 91 = .ok (.getfield 80, 3) := by decide +kernel
theorem dX9_tick_94 : decode cX9_tick 94 = .ok (.iload_n 2, 1) := by decide +kernel
theorem dX9_tick_95 : decode cX9_tick 95 = .ok (.iaload, 1) := by decide +kernel
theorem dX9_tick_96 : decode cX9_tick 96 = .ok (.aload_n 0, 1) := by decide +kernel
theorem dX9_tick_97 : decode cX9_tick 97 = .ok (.getfield 83, 3) := by decide +kernel
theorem dX9_tick_100 : decode cX9_tick 100 = .ok (.iload_n 2, 1) := by decide +kernel
theorem dX9_tick_101 : decode cX9_tick 101 = .ok (.iaload, 1) := by decide +kernel
theorem dX9_tick_102 : decode cX9_tick 102 = .ok (.ior, 1) := by decide +kernel
theorem dX9_tick_103 : decode cX9_tick 103 = .ok (.ior, 1) := by decide +kernel
theorem dX9_tick_104 : decode cX9_tick 104 = .ok (.istore_n 1, 1) := by decide +kernel
theorem dX9_tick_105 : decode cX9_tick 105 = .ok (.iinc 2 1, 3) := by decide +kernel
theorem dX9_tick_108 : decode cX9_tick 108 = .ok (.goto (-100), 3) := by decide +kernel
theorem dX9_tick_111 : decode cX9_tick 111 = .ok (.aload_n 0, 1) := by decide +kernel
theorem dX9_tick_112 : decode cX9_tick 112 = .ok (.getfield 159, 3) := by decide +kernel
theorem dX9_tick_115 : decode cX9_tick 115 = .ok (.iconst 1, 1) := by decide +kernel
theorem dX9_tick_116 : decode cX9_tick 116 = .ok (.isub, 1) := by decide +kernel
theorem dX9_tick_117 : decode cX9_tick 117 = .ok (.istore_n 2, 1) := by decide +kernel
theorem dX9_tick_118 : decode cX9_tick 118 = .ok (.iload_n 2, 1) := by decide +kernel
theorem dX9_tick_119 : decode cX9_tick 119 = .ok (.ifCond .lt 23, 3) := by decide +kernel
theorem dX9_tick_122 : decode cX9_tick 122 = .ok (.iload_n 1, 1) := by decide +kernel
theorem dX9_tick_123 : decode cX9_tick 123 = .ok (.iload_n 2, 1) := by decide +kernel
theorem dX9_tick_124 : decode cX9_tick 124 = .ok (.ishr, 1) := by decide +kernel
theorem dX9_tick_125 : decode cX9_tick 125 = .ok (.iconst 1, 1) := by decide +kernel
theorem dX9_tick_126 : decode cX9_tick 126 = .ok (.iand, 1) := by decide +kernel
theorem dX9_tick_127 : decode cX9_tick 127 = .ok (.iconst 1, 1) := by decide +kernel
theorem dX9_tick_128 : decode cX9_tick 128 = .ok (.if_icmp .ne 8, 3) := by decide +kernel
theorem dX9_tick_131 : decode cX9_tick 131 = .ok (.aload_n 0, 1) := by decide +kernel
theorem dX9_tick_132 : decode cX9_tick 132 = .ok (.iload_n 2, 1) := by decide +kernel
theorem dX9_tick_133 : decode cX9_tick 133 = .ok (.invokevirtual 175, 3) := by decide +kernel
theorem dX9_tick_136 : decode cX9_tick 136 = .ok (.iinc 2 (-1), 3) := by decide +kernel
theorem dX9_tick_139 : decode cX9_tick 139 = .ok (.goto (-21), 3) := by decide +kernel
theorem dX9_tick_142 : decode cX9_tick 142 = .ok (.aload_n 0, 1) := by decide +kernel
theorem dX9_tick_143 : decode cX9_tick 143 = .ok (.dup, 1) := by decide +kernel
theorem dX9_tick_144 : decode cX9_tick 144 = .ok (.getfield 89, 3) := by decide +kernel
theorem dX9_tick_147 : decode cX9_tick 147 = .ok (.iconst 1, 1) := by decide +kernel
theorem dX9_tick_148 : decode cX9_tick 148 = .ok (.iadd, 1) := by decide +kernel
theorem dX9_tick_149 : decode cX9_tick 149 = .ok (.putfield 89, 3) := by decide +kernel
theorem dX9_tick_152 : decode cX9_tick 152 = .ok (.aload_n 0, 1) := by decide +kernel
theorem dX9_tick_153 : decode cX9_tick 153 = .ok (.getfield 202, 3) := by decide +kernel
theorem dX9_tick_156 : decode cX9_tick 156 = .ok (.i2l, 1) := by decide +kernel
theorem dX9_tick_157 : decode cX9_tick 157 = .ok (.lreturn, 1) := by decide +kernel
set_option maxRecDepth 20000 in
theorem ggX9_isPlaceOfMatch_X9_in : GoodIn wsX9_isPlaceOfMatch wsX9_in := goodIn_r _ [5] (by decide +kernel) (by decide +kernel)
set_option maxRecDepth 20000 in
theorem gX9_isPlaceOfMatch_X9_in : GoodIn wsX9_isPlaceOfMatch (va_wsS RX9 97 yX9_in wsX9_in) := goodIn_app (goodIn_of _ (by decide +kernel)) ggX9_isPlaceOfMatch_X9_in
theorem dX9_isPlaceOfMatch_0 : decode cX9_isPlaceOfMatch 0 = .ok (.iload_n 0, 1) := by decide +kernel
theorem dX9_isPlaceOfMatch_1 : decode cX9_isPlaceOfMatch 1 = .ok (.i2l, 1) := by decide +kernel
theorem dX9_isPlaceOfMatch_2 : decode cX9_isPlaceOfMatch 2 = .ok (.lconst 0, 1) := by decide +kernel
theorem dX9_isPlaceOfMatch_3 : decode cX9_isPlaceOfMatch 3 = .ok (.ldc2_w 212, 3) := by decide +kernel
theorem dX9_isPlaceOfMatch_6 : decode cX9_isPlaceOfMatch 6 = .ok (.invokestatic 97, 3) := by decide +kernel
theorem dX9_isPlaceOfMatch_9 : decode cX9_isPlaceOfMatch 9 = .ok (.ireturn, 1) := by decide +kernel
set_option maxRecDepth 20000 in
theorem ggX9_match_X9_isPlaceOfMatch : GoodIn wsX9_match wsX9_isPlaceOfMatch := goodIn_r _ [12, 1, 13, 14, 11, 15] (by decide +kernel) (by decide +kernel)
set_option maxRecDepth 20000 in
theorem gX9_match_X9_isPlaceOfMatch : GoodIn wsX9_match (va_wsS RX9 214 yX9_isPlaceOfMatch wsX9_isPlaceOfMatch) := goodIn_app (goodIn_of _ (by decide +kernel)) ggX9_match_X9_isPlaceOfMatch
set_option maxRecDepth 20000 in
theorem ggX9_match_X9_in : GoodIn wsX9_match wsX9_in := goodIn_r _ [15] (by decide +kernel) (by decide +kernel)
set_option maxRecDepth 20000 in
theorem gX9_match_X9_in : GoodIn wsX9_match (va_wsS RX9 97 yX9_in wsX9_in) := goodIn_app (goodIn_of _ (by decide +kernel)) ggX9_match_X9_in
set_option maxRecDepth 20000 in
theorem ggX9_match_X9_finding : GoodIn wsX9_match wsX9_finding := goodIn_r _ [19, 20, 21, 46, 47, 48, 49, 50, 51, 52, 53, 54, 55, 56, 57, 58, 59, 60, 61, 62, 63, 64, 65, 66, 67, 68, 69, 70, 71, 72, 73, 74, 75, 76, 77, 78] (by decide +kernel) (by decide +kernel)
set_option maxRecDepth 20000 in
theorem gX9_match_X9_finding : GoodIn wsX9_match (wsV RX9 111 RX9 yX9_finding wsX9_finding) := goodIn_app (goodIn_of _ (by decide +kernel)) ggX9_match_X9_finding
set_option maxRecDepth 20000 in
theorem ggX9_match_X9_layAside : GoodIn wsX9_match wsX9_layAside := goodIn_r _ [25, 26, 27, 46, 47, 48, 49, 50, 51, 52, 53, 54, 55, 56, 57, 58, 59, 60, 61, 62, 63, 64, 65, 66, 67, 68, 69, 70, 71, 72, 73, 74, 75, 76, 77, 78] (by decide +kernel) (by decide +kernel)
set_option maxRecDepth 20000 in
theorem gX9_match_X9_layAside : GoodIn wsX9_match (wsV RX9 148 RX9 yX9_layAside wsX9_layAside) := goodIn_app (goodIn_of _ (by decide +kernel)) ggX9_match_X9_layAside
set_option maxRecDepth 20000 in
theorem ggX9_match_X9_teamChance : GoodIn wsX9_match wsX9_teamChance := goodIn_r _ [31, 32, 33, 34, 35, 11, 36, 26, 37, 38, 39, 40, 41, 42, 43, 44, 45, 46, 47, 48, 49, 50, 51, 52, 53, 54, 55, 56, 57, 58, 59, 60, 61, 62, 63, 64, 65, 66, 67, 68, 69, 70, 71, 72, 73, 74, 75, 76, 77, 78] (by decide +kernel) (by decide +kernel)
set_option maxRecDepth 20000 in
theorem gX9_match_X9_teamChance : GoodIn wsX9_match (wsV RX9 217 RX9 yX9_teamChance wsX9_teamChance) := goodIn_app (goodIn_of _ (by decide +kernel)) ggX9_match_X9_teamChance
theorem dX9_match_0 : decode cX9_match 0 = .ok (.iload_n 1, 1) := by decide +kernel
theorem dX9_match_1 : decode cX9_match 1 = .ok (.invokestatic 214, 3) := by decide +kernel
theorem dX9_match_4 : decode cX9_match 4 = .ok (.ifCond .eq 15, 3) := by decide +kernel
theorem dX9_match_7 : decode cX9_match 7 = .ok (.iload_n 2, 1) := by decide +kernel
theorem dX9_match_8 : decode cX9_match 8 = .ok (.i2l, 1) := by decide +kernel
theorem dX9_match_9 : decode cX9_match 9 = .ok (.lconst 0, 1) := by decide +kernel
theorem dX9_match_10 : decode cX9_match 10 = .ok (.ldc2_w 212, 3) := by decide +kernel
theorem dX9_match_13 : decode cX9_match 13 = .ok (.invokestatic 97, 3) := by decide +kernel
theorem dX9_match_16 : decode cX9_match 16 = .ok (.ifCond .ne 11, 3) := by decide +kernel
theorem dX9_match_19 : decode cX9_match 19 = .ok (.aload_n 0, 1) := by decide +kernel
theorem dX9_match_20 : decode cX9_match 20 = .ok (.ldc2_w 109, 3) := by decide +kernel
theorem dX9_match_23 : decode cX9_match 23 = .ok (.invokevirtual 111, 3) := by decide +kernel
theorem dX9_match_26 : decode cX9_match 26 = .ok (.lreturn, 1) := by decide +kernel
theorem dX9_match_27 : decode cX9_match 27 = .ok (.aload_n 0, 1) := by decide +kernel
theorem dX9_match_28 : decode cX9_match 28 = .ok (.getfield 48, 3) := by decide +kernel
theorem dX9_match_31 : decode cX9_match 31 = .ok (.iload_n 1, 1) := by decide +kernel
theorem dX9_match_32 : decode cX9_match 32 = .ok (.baload, 1) := by decide +kernel
theorem dX9_match_33 : decode cX9_match 33 = .ok (.ifCond .ne 11, 3) := by decide +kernel
theorem dX9_match_36 : decode cX9_match 36 = .ok (.aload_n 0, 1) := by decide +kernel
theorem dX9_match_37 : decode cX9_match 37 = .ok (.ldc2_w 173, 3) := by decide +kernel
theorem dX9_match_40 : decode cX9_match 40 = .ok (.invokevirtual 111, 3) := by decide +kernel
theorem dX9_match_43 : decode cX9_match 43 = .ok (.lreturn, 1) := by decide +kernel
theorem dX9_match_44 : decode cX9_match 44 = .ok (.iload_n 2, 1) := by decide +kernel
theorem dX9_match_45 : decode cX9_match 45 = .ok (.iconst 4, 1) := by decide +kernel
theorem dX9_match_46 : decode cX9_match 46 = .ok (.if_icmp .ne 24, 3) := by decide +kernel
theorem dX9_match_49 : decode cX9_match 49 = .ok (.aload_n 0, 1) := by decide +kernel
theorem dX9_match_50 : decode cX9_match 50 = .ok (.invokevirtual 148, 3) := by decide +kernel
theorem dX9_match_53 : decode cX9_match 53 = .ok (.aload_n 0, 1) := by decide +kernel
theorem dX9_match_54 : decode cX9_match 54 = .ok (.aload_n 0, 1) := by decide +kernel
theorem dX9_match_55 : decode cX9_match 55 = .ok (.getfield 52, 3) := by decide +kernel
theorem dX9_match_58 : decode cX9_match 58 = .ok (.iload_n 1, 1) := by decide +kernel
theorem dX9_match_59 : decode cX9_match 59 = .ok (.iaload, 1) := by decide +kernel
theorem dX9_match_60 : decode cX9_match 60 = .ok (.aload_n 0, 1) := by decide +kernel
theorem dX9_match_61 : decode cX9_match 61 = .ok (.getfield 55, 3) := by decide +kernel
theorem dX9_match_64 : decode cX9_match 64 = .ok (.iload_n 1, 1) := by decide +kernel
theorem dX9_match_65 : decode cX9_match 65 = .ok (.iaload, 1) := by decide +kernel
theorem dX9_match_66 : decode cX9_match 66 = .ok (.invokevirtual 217, 3) := by decide +kernel
theorem dX9_match_69 : decode cX9_match 69 = .ok (.lreturn, 1) := by decide +kernel
theorem dX9_match_70 : decode cX9_match 70 = .ok (.iload_n 2, 1) := by decide +kernel
theorem dX9_match_71 : decode cX9_match 71 = .ok (.ifCond .ne 13, 3) := by decide +kernel
theorem dX9_match_74 : decode cX9_match 74 = .ok (.aload_n 0, 1) := by decide +kernel
theorem dX9_match_75 : decode cX9_match 75 = .ok (.getfield 52, 3) := by decide +kernel
theorem dX9_match_78 : decode cX9_match 78 = .ok (.iload_n 1, 1) := by decide +kernel
theorem dX9_match_79 : decode cX9_match 79 = .ok (.iaload, 1) := by decide +kernel
theorem dX9_match_80 : decode cX9_match 80 = .ok (.i2l, 1) := by decide +kernel
theorem dX9_match_81 : decode cX9_match 81 = .ok (.goto 40, 3) := by decide +kernel
theorem dX9_match_84 : decode cX9_match 84 = .ok (.iload_n 2, 1) := by decide +kernel
theorem dX9_match_85 : decode cX9_match 85 = .ok (.iconst 1, 1) := by decide +kernel
theorem dX9_match_86 : decode cX9_match 86 = .ok (.if_icmp .ne 13, 3) := by decide +kernel
theorem dX9_match_89 : decode cX9_match 89 = .ok (.aload_n 0, 1) := by decide +kernel
theorem dX9_match_90 : decode cX9_match 90 = .ok (.getfield 55, 3) := by decide +kernel
theorem dX9_match_93 : decode cX9_match 93 = .ok (.iload_n 1, 1) := by decide +kernel
theorem dX9_match_94 : decode cX9_match 94 = .ok (.iaload, 1) := by decide +kernel
theorem dX9_match_95 : decode cX9_match 95 = .ok (.i2l, 1) := by decide +kernel
theorem dX9_match_96 : decode cX9_match 96 = .ok (.goto 25, 3) := by decide +kernel
theorem dX9_match_99 : decode cX9_match 99 = .ok (.iload_n 2, 1) := by decide +kernel
theorem dX9_match_100 : decode cX9_match 100 = .ok (.iconst 2, 1) := by decide +kernel
theorem dX9_match_101 : decode cX9_match 101 = .ok (.if_icmp .ne 13, 3) := by decide +kernel
theorem dX9_match_104 : decode cX9_match 104 = .ok (.aload_n 0, 1) := by decide +kernel
theorem dX9_match_105 : decode cX9_match 105 = .ok (.getfield 58, 3) := by decide +kernel
theorem dX9_match_108 : decode cX9_match 108 = .ok (.iload_n 1, 1) := by decide +kernel
theorem dX9_match_109 : decode cX9_match 109 = .ok (.iaload, 1) := by decide +kernel
theorem dX9_match_110 : decode cX9_match 110 = .ok (.i2l, 1) := by decide +kernel
theorem dX9_match_111 : decode cX9_match 111 = .ok (.goto 10, 3) := by decide +kernel
theorem dX9_match_114 : decode cX9_match 114 = .ok (.aload_n 0, 1) := by decide +kernel
theorem dX9_match_115 : decode cX9_match 115 = .ok (.getfield 61, 3) := by decide +kernel
theorem dX9_match_118 : decode cX9_match 118 = .ok (.iload_n 1, 1) := by decide +kernel
theorem dX9_match_119 : decode cX9_match 119 = .ok (.iaload, 1) := by decide +kernel
theorem dX9_match_120 : decode cX9_match 120 = .ok (.i2l, 1) := by decide +kernel
theorem dX9_match_121 : decode cX9_match 121 = .ok (.lreturn, 1) := by decide +kernel
theorem dX9_undoubted_0 : decode cX9_undoubted 0 = .ok (.iconst 0, 1) := by decide +kernel
theorem dX9_undoubted_1 : decode cX9_undoubted 1 = .ok (.istore_n 2, 1) := by decide +kernel
theorem dX9_undoubted_2 : decode cX9_undoubted 2 = .ok (.iconst 0, 1) := by decide +kernel
theorem dX9_undoubted_3 : decode cX9_undoubted 3 = .ok (.istore_n 3, 1) := by decide +kernel
theorem dX9_undoubted_4 : decode cX9_undoubted 4 = .ok (.iload_n 3, 1) := by decide +kernel
theorem dX9_undoubted_5 : decode cX9_undoubted 5 = .ok (.aload_n 0, 1) := by decide +kernel
theorem dX9_undoubted_6 : decode cX9_undoubted 6 = .ok (.getfield 94, 3) := by decide +kernel
theorem dX9_undoubted_9 : decode cX9_undoubted 9 = .ok (.if_icmp .ge 38, 3) := by decide +kernel
theorem dX9_undoubted_12 : decode cX9_undoubted 12 = .ok (.iload_n 2, 1) := by decide +kernel
theorem dX9_undoubted_13 : decode cX9_undoubted 13 = .ok (.iload_n 1, 1) := by decide +kernel
theorem dX9_undoubted_14 : decode cX9_undoubted 14 = .ok (.iload_n 3, 1) := by decide +kernel
theorem dX9_undoubted_15 : decode cX9_undoubted 15 = .ok (.ishr, 1) := by decide +kernel
theorem dX9_undoubted_16 : decode cX9_undoubted 16 = .ok (.iconst 1, 1) := by decide +kernel
theorem dX9_undoubted_17 : decode cX9_undoubted 17 = .ok (.iand, 1) := by decide +kernel
theorem dX9_undoubted_18 : decode cX9_undoubted 18 = .ok (.iconst 1, 1) := by decide +kernel
theorem dX9_undoubted_19 : decode cX9_undoubted 19 = .ok (.if_icmp .ne 19, 3) := by decide +kernel
theorem dX9_undoubted_22 : decode cX9_undoubted 22 = .ok (.aload_n 0, 1) := by decide +kernel
theorem dX9_undoubted_23 : decode cX9_undoubted 23 = .ok (.getfield 13, 3) := by decide +kernel
theorem dX9_undoubted_26 : decode cX9_undoubted 26 = .ok (.iload_n 3, 1) := by decide +kernel
theorem dX9_undoubted_27 : decode cX9_undoubted 27 = .ok (.iaload, 1) := by decide +kernel
theorem dX9_undoubted_28 : decode cX9_undoubted 28 = .ok (.iconst 2, 1) := by decide +kernel
theorem dX9_undoubted_29 : decode cX9_undoubted 29 = .ok (.if_icmp .eq 9, 3) := by decide +kernel
theorem dX9_undoubted_32 : decode cX9_undoubted 32 = .ok (.iconst 1, 1) := by decide +kernel
theorem dX9_undoubted_33 : decode cX9_undoubted 33 = .ok (.iload_n 3, 1) := by decide +kernel
theorem dX9_undoubted_34 : decode cX9_undoubted 34 = .ok (.ishl, 1) := by decide +kernel
theorem dX9_undoubted_35 : decode cX9_undoubted 35 = .ok (.goto 4, 3) := by decide +kernel
theorem dX9_undoubted_38 : decode cX9_undoubted 38 = .ok (.iconst 0, 1) := by decide +kernel
theorem dX9_undoubted_39 : decode cX9_undoubted 39 = .ok (.ior, 1) := by decide +kernel
theorem dX9_undoubted_40 : decode cX9_undoubted 40 = .ok (.istore_n 2, 1) := by decide +kernel
theorem dX9_undoubted_41 : decode cX9_undoubted 41 = .ok (.iinc 3 1, 3) := by decide +kernel
theorem dX9_undoubted_44 : decode cX9_undoubted 44 = .ok (.goto (-40), 3) := by decide +kernel
theorem dX9_undoubted_47 : decode cX9_undoubted 47 = .ok (.iload_n 2, 1) := by decide +kernel
theorem dX9_undoubted_48 : decode cX9_undoubted 48 = .ok (.ireturn, 1) := by decide +kernel
theorem dX9_keepSurprise_0 : decode cX9_keepSurprise 0 = .ok (.aload_n 0, 1) := by decide +kernel
theorem dX9_keepSurprise_1 : decode cX9_keepSurprise 1 = .ok (.getfield 23, 3) := by decide +kernel
theorem dX9_keepSurprise_4 : decode cX9_keepSurprise 4 = .ok (.iload_n 1, 1) := by decide +kernel
theorem dX9_keepSurprise_5 : decode cX9_keepSurprise 5 = .ok (.iaload, 1) := by decide +kernel
theorem dX9_keepSurprise_6 : decode cX9_keepSurprise 6 = .ok (.bipush 8, 2) := by decide +kernel
theorem dX9_keepSurprise_8 : decode cX9_keepSurprise 8 = .ok (.if_icmp .ne 55, 3) := by decide +kernel
theorem dX9_keepSurprise_11 : decode cX9_keepSurprise 11 = .ok (.iconst 1, 1) := by decide +kernel
theorem dX9_keepSurprise_12 : decode cX9_keepSurprise 12 = .ok (.istore 4, 2) := by decide +kernel
theorem dX9_keepSurprise_14 : decode cX9_keepSurprise 14 = .ok (.iload 4, 2) := by decide +kernel
theorem dX9_keepSurprise_16 : decode cX9_keepSurprise 16 = .ok (.bipush 8, 2) := by decide +kernel
theorem dX9_keepSurprise_18 : decode cX9_keepSurprise 18 = .ok (.if_icmp .ge 35, 3) := by decide +kernel
theorem dX9_keepSurprise_21 : decode cX9_keepSurprise 21 = .ok (.aload_n 0, 1) := by decide +kernel
theorem dX9_keepSurprise_22 : decode cX9_keepSurprise 22 = .ok (.getfield 20, 3) := by decide +kernel
theorem dX9_keepSurprise_25 : decode cX9_keepSurprise 25 = .ok (.bipush 8, 2) := by decide +kernel
theorem dX9_keepSurprise_27 : decode cX9_keepSurprise 27 = .ok (.iload_n 1, 1) := by decide +kernel
theorem dX9_keepSurprise_28 : decode cX9_keepSurprise 28 = .ok (.imul, 1) := by decide +kernel
theorem dX9_keepSurprise_29 : decode cX9_keepSurprise 29 = .ok (.iload 4, 2) := by decide +kernel
theorem dX9_keepSurprise_31 : decode cX9_keepSurprise 31 = .ok (.iadd, 1) := by decide +kernel
theorem dX9_keepSurprise_32 : decode cX9_keepSurprise 32 = .ok (.iconst 1, 1) := by decide +kernel
theorem dX9_keepSurprise_33 : decode cX9_keepSurprise 33 = .ok (.isub, 1) := by decide +kernel
theorem dX9_keepSurprise_34 : decode cX9_keepSurprise 34 = .ok (.aload_n 0, 1) := by decide +kernel
theorem dX9_keepSurprise_35 : decode cX9_keepSurprise 35 = .ok (.getfield 20, 3) := by decide +kernel
theorem dX9_keepSurprise_38 : decode cX9_keepSurprise 38 = .ok (.bipush 8, 2) := by decide +kernel
theorem dX9_keepSurprise_40 : decode cX9_keepSurprise 40 = .ok (.iload_n 1, 1) := by decide +kernel
theorem dX9_keepSurprise_41 : decode cX9_keepSurprise 41 = .ok (.imul, 1) := by decide +kernel
theorem dX9_keepSurprise_42 : decode cX9_keepSurprise 42 = .ok (.iload 4, 2) := by decide +kernel
theorem dX9_keepSurprise_44 : decode cX9_keepSurprise 44 = .ok (.iadd, 1) := by decide +kernel
theorem dX9_keepSurprise_45 : decode cX9_keepSurprise 45 = .ok (.laload, 1) := by decide +kernel
theorem dX9_keepSurprise_46 : decode cX9_keepSurprise 46 = .ok (.lastore, 1) := by decide +kernel
theorem dX9_keepSurprise_47 : decode cX9_keepSurprise 47 = .ok (.iinc 4 1, 3) := by decide +kernel
theorem dX9_keepSurprise_50 : decode cX9_keepSurprise 50 = .ok (.goto (-36), 3) := by decide +kernel
theorem dX9_keepSurprise_53 : decode cX9_keepSurprise 53 = .ok (.aload_n 0, 1) := by decide +kernel
theorem dX9_keepSurprise_54 : decode cX9_keepSurprise 54 = .ok (.getfield 23, 3) := by decide +kernel
theorem dX9_keepSurprise_57 : decode cX9_keepSurprise 57 = .ok (.iload_n 1, 1) := by decide +kernel
theorem dX9_keepSurprise_58 : decode cX9_keepSurprise 58 = .ok (.dup2, 1) := by decide +kernel
theorem dX9_keepSurprise_59 : decode cX9_keepSurprise 59 = .ok (.iaload, 1) := by decide +kernel
theorem dX9_keepSurprise_60 : decode cX9_keepSurprise 60 = .ok (.iconst 1, 1) := by decide +kernel
theorem dX9_keepSurprise_61 : decode cX9_keepSurprise 61 = .ok (.isub, 1) := by decide +kernel
theorem dX9_keepSurprise_62 : decode cX9_keepSurprise 62 = .ok (.iastore, 1) := by decide +kernel
theorem dX9_keepSurprise_63 : decode cX9_keepSurprise 63 = .ok (.aload_n 0, 1) := by decide +kernel
theorem dX9_keepSurprise_64 : decode cX9_keepSurprise 64 = .ok (.getfield 20, 3) := by decide +kernel
theorem dX9_keepSurprise_67 : decode cX9_keepSurprise 67 = .ok (.bipush 8, 2) := by decide +kernel
theorem dX9_keepSurprise_69 : decode cX9_keepSurprise 69 = .ok (.iload_n 1, 1) := by decide +kernel
theorem dX9_keepSurprise_70 : decode cX9_keepSurprise 70 = .ok (.imul, 1) := by decide +kernel
theorem dX9_keepSurprise_71 : decode cX9_keepSurprise 71 = .ok (.aload_n 0, 1) := by decide +kernel
theorem dX9_keepSurprise_72 : decode cX9_keepSurprise 72 = .ok (.getfield 23, 3) := by decide +kernel
theorem dX9_keepSurprise_75 : decode cX9_keepSurprise 75 = .ok (.iload_n 1, 1) := by decide +kernel
theorem dX9_keepSurprise_76 : decode cX9_keepSurprise 76 = .ok (.iaload, 1) := by decide +kernel
theorem dX9_keepSurprise_77 : decode cX9_keepSurprise 77 = .ok (.iadd, 1) := by decide +kernel
theorem dX9_keepSurprise_78 : decode cX9_keepSurprise 78 = .ok (.lload_n 2, 1) := by decide +kernel
theorem dX9_keepSurprise_79 : decode cX9_keepSurprise 79 = .ok (.lastore, 1) := by decide +kernel
theorem dX9_keepSurprise_80 : decode cX9_keepSurprise 80 = .ok (.aload_n 0, 1) := by decide +kernel
theorem dX9_keepSurprise_81 : decode cX9_keepSurprise 81 = .ok (.getfield 23, 3) := by decide +kernel
theorem dX9_keepSurprise_84 : decode cX9_keepSurprise 84 = .ok (.iload_n 1, 1) := by decide +kernel
theorem dX9_keepSurprise_85 : decode cX9_keepSurprise 85 = .ok (.dup2, 1) := by decide +kernel
theorem dX9_keepSurprise_86 : decode cX9_keepSurprise 86 = .ok (.iaload, 1) := by decide +kernel
theorem dX9_keepSurprise_87 : decode cX9_keepSurprise 87 = .ok (.iconst 1, 1) := by decide +kernel
theorem dX9_keepSurprise_88 : decode cX9_keepSurprise 88 = .ok (.iadd, 1) := by decide +kernel
theorem dX9_keepSurprise_89 : decode cX9_keepSurprise 89 = .ok (.iastore, 1) := by decide +kernel
theorem dX9_keepSurprise_90 : decode cX9_keepSurprise 90 = .ok (.return_, 1) := by decide +kernel
set_option maxRecDepth 20000 in
theorem ggX9_moveTable_X9_chanceAt : GoodIn wsX9_moveTable wsX9_chanceAt := goodIn_r _ [8, 9, 10, 11, 12, 13, 7, 14, 15, 16, 17, 18, 19, 20, 21, 22, 23, 24, 25, 26, 27, 28, 29, 30, 31, 32, 33, 34, 35, 36, 37, 38, 39, 40, 41, 42, 43, 44, 45, 46, 47] (by decide +kernel) (by decide +kernel)
set_option maxRecDepth 20000 in
theorem gX9_moveTable_X9_chanceAt : GoodIn wsX9_moveTable (wsV RX9 139 RX9 yX9_chanceAt wsX9_chanceAt) := goodIn_app (goodIn_of _ (by decide +kernel)) ggX9_moveTable_X9_chanceAt
theorem dX9_moveTable_0 : decode cX9_moveTable 0 = .ok (.lconst 0, 1) := by decide +kernel
theorem dX9_moveTable_1 : decode cX9_moveTable 1 = .ok (.lstore 4, 2) := by decide +kernel
theorem dX9_moveTable_3 : decode cX9_moveTable 3 = .ok (.iconst 0, 1) := by decide +kernel
theorem dX9_moveTable_4 : decode cX9_moveTable 4 = .ok (.istore 6, 2) := by decide +kernel
theorem dX9_moveTable_6 : decode cX9_moveTable 6 = .ok (.iload 6, 2) := by decide +kernel
theorem dX9_moveTable_8 : decode cX9_moveTable 8 = .ok (.bipush 7, 2) := by decide +kernel
theorem dX9_moveTable_10 : decode cX9_moveTable 10 = .ok (.if_icmp .ge 90, 3) := by decide +kernel
theorem dX9_moveTable_13 : decode cX9_moveTable 13 = .ok (.aload_n 0, 1) := by decide +kernel
theorem dX9_moveTable_14 : decode cX9_moveTable 14 = .ok (.iload 6, 2) := by decide +kernel
theorem dX9_moveTable_16 : decode cX9_moveTable 16 = .ok (.iload_n 3, 1) := by decide +kernel
theorem dX9_moveTable_17 : decode cX9_moveTable 17 = .ok (.invokevirtual 139, 3) := by decide +kernel
theorem dX9_moveTable_20 : decode cX9_moveTable 20 = .ok (.lstore 7, 2) := by decide +kernel
theorem dX9_moveTable_22 : decode cX9_moveTable 22 = .ok (.iload_n 2, 1) := by decide +kernel
theorem dX9_moveTable_23 : decode cX9_moveTable 23 = .ok (.iconst 2, 1) := by decide +kernel
theorem dX9_moveTable_24 : decode cX9_moveTable 24 = .ok (.if_icmp .ne 8, 3) := by decide +kernel
theorem dX9_moveTable_27 : decode cX9_moveTable 27 = .ok (.lload 7, 2) := by decide +kernel
theorem dX9_moveTable_29 : decode cX9_moveTable 29 = .ok (.goto 29, 3) := by decide +kernel
theorem dX9_moveTable_32 : decode cX9_moveTable 32 = .ok (.iload_n 2, 1) := by decide +kernel
theorem dX9_moveTable_33 : decode cX9_moveTable 33 = .ok (.ifCond .ne 12, 3) := by decide +kernel
theorem dX9_moveTable_36 : decode cX9_moveTable 36 = .ok (.ldc2_w 143, 3) := by decide +kernel
theorem dX9_moveTable_39 : decode cX9_moveTable 39 = .ok (.lload 7, 2) := by decide +kernel
theorem dX9_moveTable_41 : decode cX9_moveTable 41 = .ok (.lsub, 1) := by decide +kernel
theorem dX9_moveTable_42 : decode cX9_moveTable 42 = .ok (.goto 16, 3) := by decide +kernel
theorem dX9_moveTable_45 : decode cX9_moveTable 45 = .ok (.lload 7, 2) := by decide +kernel
theorem dX9_moveTable_47 : decode cX9_moveTable 47 = .ok (.ldc2_w 143, 3) := by decide +kernel
theorem dX9_moveTable_50 : decode cX9_moveTable 50 = .ok (.lload 7, 2) := by decide +kernel
theorem dX9_moveTable_52 : decode cX9_moveTable 52 = .ok (.lsub, 1) := by decide +kernel
theorem dX9_moveTable_53 : decode cX9_moveTable 53 = .ok (.lmul, 1) := by decide +kernel
theorem dX9_moveTable_54 : decode cX9_moveTable 54 = .ok (.ldc2_w 143, 3) := by decide +kernel
theorem dX9_moveTable_57 : decode cX9_moveTable 57 = .ok (.ldiv, 1) := by decide +kernel
theorem dX9_moveTable_58 : decode cX9_moveTable 58 = .ok (.lstore 9, 2) := by decide +kernel
theorem dX9_moveTable_60 : decode cX9_moveTable 60 = .ok (.aload_n 0, 1) := by decide +kernel
theorem dX9_moveTable_61 : decode cX9_moveTable 61 = .ok (.getfield 86, 3) := by decide +kernel
theorem dX9_moveTable_64 : decode cX9_moveTable 64 = .ok (.iload 6, 2) := by decide +kernel
theorem dX9_moveTable_66 : decode cX9_moveTable 66 = .ok (.aload_n 0, 1) := by decide +kernel
theorem dX9_moveTable_67 : decode cX9_moveTable 67 = .ok (.getfield 16, 3) := by decide +kernel
theorem dX9_moveTable_70 : decode cX9_moveTable 70 = .ok (.bipush 7, 2) := by decide +kernel
theorem dX9_moveTable_72 : decode cX9_moveTable 72 = .ok (.iload_n 1, 1) := by decide +kernel
theorem dX9_moveTable_73 : decode cX9_moveTable 73 = .ok (.imul, 1) := by decide +kernel
theorem dX9_moveTable_74 : decode cX9_moveTable 74 = .ok (.iload 6, 2) := by decide +kernel
theorem dX9_moveTable_76 : decode cX9_moveTable 76 = .ok (.iadd, 1) := by decide +kernel
theorem dX9_moveTable_77 : decode cX9_moveTable 77 = .ok (.laload, 1) := by decide +kernel
theorem dX9_moveTable_78 : decode cX9_moveTable 78 = .ok (.lload 9, 2) := by decide +kernel
theorem dX9_moveTable_80 : decode cX9_moveTable 80 = .ok (.lmul, 1) := by decide +kernel
theorem dX9_moveTable_81 : decode cX9_moveTable 81 = .ok (.lastore, 1) := by decide +kernel
theorem dX9_moveTable_82 : decode cX9_moveTable 82 = .ok (.lload 4, 2) := by decide +kernel
theorem dX9_moveTable_84 : decode cX9_moveTable 84 = .ok (.aload_n 0, 1) := by decide +kernel
theorem dX9_moveTable_85 : decode cX9_moveTable 85 = .ok (.getfield 86, 3) := by decide +kernel
theorem dX9_moveTable_88 : decode cX9_moveTable 88 = .ok (.iload 6, 2) := by decide +kernel
theorem dX9_moveTable_90 : decode cX9_moveTable 90 = .ok (.laload, 1) := by decide +kernel
theorem dX9_moveTable_91 : decode cX9_moveTable 91 = .ok (.ladd, 1) := by decide +kernel
theorem dX9_moveTable_92 : decode cX9_moveTable 92 = .ok (.lstore 4, 2) := by decide +kernel
theorem dX9_moveTable_94 : decode cX9_moveTable 94 = .ok (.iinc 6 1, 3) := by decide +kernel
theorem dX9_moveTable_97 : decode cX9_moveTable 97 = .ok (.goto (-91), 3) := by decide +kernel
theorem dX9_moveTable_100 : decode cX9_moveTable 100 = .ok (.lload 4, 2) := by decide +kernel
theorem dX9_moveTable_102 : decode cX9_moveTable 102 = .ok (.lconst 0, 1) := by decide +kernel
theorem dX9_moveTable_103 : decode cX9_moveTable 103 = .ok (.lcmp, 1) := by decide +kernel
theorem dX9_moveTable_104 : decode cX9_moveTable 104 = .ok (.ifCond .ne 4, 3) := by decide +kernel
theorem dX9_moveTable_107 : decode cX9_moveTable 107 = .ok (.return_, 1) := by decide +kernel
theorem dX9_moveTable_108 : decode cX9_moveTable 108 = .ok (.ldc2_w 143, 3) := by decide +kernel
theorem dX9_moveTable_111 : decode cX9_moveTable 111 = .ok (.lstore 6, 2) := by decide +kernel
theorem dX9_moveTable_113 : decode cX9_moveTable 113 = .ok (.iconst 0, 1) := by decide +kernel
theorem dX9_moveTable_114 : decode cX9_moveTable 114 = .ok (.istore 8, 2) := by decide +kernel
theorem dX9_moveTable_116 : decode cX9_moveTable 116 = .ok (.iconst 0, 1) := by decide +kernel
theorem dX9_moveTable_117 : decode cX9_moveTable 117 = .ok (.istore 9, 2) := by decide +kernel
theorem dX9_moveTable_119 : decode cX9_moveTable 119 = .ok (.iload 9, 2) := by decide +kernel
theorem dX9_moveTable_121 : decode cX9_moveTable 121 = .ok (.bipush 7, 2) := by decide +kernel
theorem dX9_moveTable_123 : decode cX9_moveTable 123 = .ok (.if_icmp .ge 73, 3) := by decide +kernel
theorem dX9_moveTable_126 : decode cX9_moveTable 126 = .ok (.aload_n 0, 1) := by decide +kernel
theorem dX9_moveTable_127 : decode cX9_moveTable 127 = .ok (.getfield 86, 3) := by decide +kernel
theorem dX9_moveTable_130 : decode cX9_moveTable 130 = .ok (.iload 9, 2) := by decide +kernel
theorem dX9_moveTable_132 : decode cX9_moveTable 132 = .ok (.laload, 1) := by decide +kernel
theorem dX9_moveTable_133 : decode cX9_moveTable 133 = .ok (.ldc2_w 143, 3) := by decide +kernel
theorem dX9_moveTable_136 : decode cX9_moveTable 136 = .ok (.lmul, 1) := by decide +kernel
theorem dX9_moveTable_137 : decode cX9_moveTable 137 = .ok (.lload 4, 2) := by decide +kernel
theorem dX9_moveTable_139 : decode cX9_moveTable 139 = .ok (.ldiv, 1) := by decide +kernel
theorem dX9_moveTable_140 : decode cX9_moveTable 140 = .ok (.lstore 10, 2) := by decide +kernel
theorem dX9_moveTable_142 : decode cX9_moveTable 142 = .ok (.aload_n 0, 1) := by decide +kernel
theorem dX9_moveTable_143 : decode cX9_moveTable 143 = .ok (.getfield 16, 3) := by decide +kernel
theorem dX9_moveTable_146 : decode cX9_moveTable 146 = .ok (.bipush 7, 2) := by decide +kernel
theorem dX9_moveTable_148 : decode cX9_moveTable 148 = .ok (.iload_n 1, 1) := by decide +kernel
theorem dX9_moveTable_149 : decode cX9_moveTable 149 = .ok (.imul, 1) := by decide +kernel
theorem dX9_moveTable_150 : decode cX9_moveTable 150 = .ok (.iload 9, 2) := by decide +kernel
theorem dX9_moveTable_152 : decode cX9_moveTable 152 = .ok (.iadd, 1) := by decide +kernel
theorem dX9_moveTable_153 : decode cX9_moveTable 153 = .ok (.lload 10, 2) := by decide +kernel
theorem dX9_moveTable_155 : decode cX9_moveTable 155 = .ok (.lastore, 1) := by decide +kernel
theorem dX9_moveTable_156 : decode cX9_moveTable 156 = .ok (.lload 6, 2) := by decide +kernel
theorem dX9_moveTable_158 : decode cX9_moveTable 158 = .ok (.lload 10, 2) := by decide +kernel
theorem dX9_moveTable_160 : decode cX9_moveTable 160 = .ok (.lsub, 1) := by decide +kernel
theorem dX9_moveTable_161 : decode cX9_moveTable 161 = .ok (.lstore 6, 2) := by decide +kernel
theorem dX9_moveTable_163 : decode cX9_moveTable 163 = .ok (.lload 10, 2) := by decide +kernel
theorem dX9_moveTable_165 : decode cX9_moveTable 165 = .ok (.aload_n 0, 1) := by decide +kernel
theorem dX9_moveTable_166 : decode cX9_moveTable 166 = .ok (.getfield 16, 3) := by decide +kernel
theorem dX9_moveTable_169 : decode cX9_moveTable 169 = .ok (.bipush 7, 2) := by decide +kernel
theorem dX9_moveTable_171 : decode cX9_moveTable 171 = .ok (.iload_n 1, 1) := by decide +kernel
theorem dX9_moveTable_172 : decode cX9_moveTable 172 = .ok (.imul, 1) := by decide +kernel
theorem dX9_moveTable_173 : decode cX9_moveTable 173 = .ok (.iload 8, 2) := by decide +kernel
theorem dX9_moveTable_175 : decode cX9_moveTable 175 = .ok (.iadd, 1) := by decide +kernel
theorem dX9_moveTable_176 : decode cX9_moveTable 176 = .ok (.laload, 1) := by decide +kernel
theorem dX9_moveTable_177 : decode cX9_moveTable 177 = .ok (.lcmp, 1) := by decide +kernel
theorem dX9_moveTable_178 : decode cX9_moveTable 178 = .ok (.ifCond .le 8, 3) := by decide +kernel
theorem dX9_moveTable_181 : decode cX9_moveTable 181 = .ok (.iload 9, 2) := by decide +kernel
theorem dX9_moveTable_183 : decode cX9_moveTable 183 = .ok (.goto 5, 3) := by decide +kernel
theorem dX9_moveTable_186 : decode cX9_moveTable 186 = .ok (.iload 8, 2) := by decide +kernel
theorem dX9_moveTable_188 : decode cX9_moveTable 188 = .ok (.istore 8, 2) := by decide +kernel
theorem dX9_moveTable_190 : decode cX9_moveTable 190 = .ok (.iinc 9 1, 3) := by decide +kernel
theorem dX9_moveTable_193 : decode cX9_moveTable 193 = .ok (.goto (-74), 3) := by decide +kernel
theorem dX9_moveTable_196 : decode cX9_moveTable 196 = .ok (.aload_n 0, 1) := by decide +kernel
theorem dX9_moveTable_197 : decode cX9_moveTable 197 = .ok (.getfield 16, 3) := by decide +kernel
theorem dX9_moveTable_200 : decode cX9_moveTable 200 = .ok (.bipush 7, 2) := by decide +kernel
theorem dX9_moveTable_202 : decode cX9_moveTable 202 = .ok (.iload_n 1, 1) := by decide +kernel
theorem dX9_moveTable_203 : decode cX9_moveTable 203 = .ok (.imul, 1) := by decide +kernel
theorem dX9_moveTable_204 : decode cX9_moveTable 204 = .ok (.iload 8, 2) := by decide +kernel
theorem dX9_moveTable_206 : decode cX9_moveTable 206 = .ok (.iadd, 1) := by decide +kernel
theorem dX9_moveTable_207 : decode cX9_moveTable 207 = .ok (.dup2, 1) := by decide +kernel
theorem dX9_moveTable_208 : decode cX9_moveTable 208 = .ok (.laload, 1) := by decide +kernel
theorem dX9_moveTable_209 : decode cX9_moveTable 209 = .ok (.lload 6, 2) := by decide +kernel
theorem dX9_moveTable_211 : decode cX9_moveTable 211 = .ok (.ladd, 1) := by decide +kernel
theorem dX9_moveTable_212 : decode cX9_moveTable 212 = .ok (.lastore, 1) := by decide +kernel
theorem dX9_moveTable_213 : decode cX9_moveTable 213 = .ok (.return_, 1) := by decide +kernel
set_option maxRecDepth 20000 in
theorem ggX9_takeResult_X9_undoubted : GoodIn wsX9_takeResult wsX9_undoubted := goodIn_r _ [7, 8, 2, 35, 36, 37, 38, 39, 40, 41, 42, 43, 44, 45, 46, 47, 48, 49, 50, 51, 52, 53, 54, 55, 56, 57, 58, 59, 60, 61, 62, 63, 64, 65, 66, 67] (by decide +kernel) (by decide +kernel)
set_option maxRecDepth 20000 in
theorem gX9_takeResult_X9_undoubted : GoodIn wsX9_takeResult (wsV RX9 220 RX9 yX9_undoubted wsX9_undoubted) := goodIn_app (goodIn_of _ (by decide +kernel)) ggX9_takeResult_X9_undoubted
set_option maxRecDepth 20000 in
theorem ggX9_takeResult_X9_chanceOf : GoodIn wsX9_takeResult wsX9_chanceOf := goodIn_r _ [12, 13, 14, 15, 16, 17, 6, 18, 8, 19, 20, 21, 22, 35, 36, 37, 38, 39, 40, 41, 42, 43, 44, 45, 46, 47, 48, 49, 50, 51, 52, 53, 54, 55, 56, 57, 58, 59, 60, 61, 62, 63, 64, 65, 66, 67] (by decide +kernel) (by decide +kernel)
set_option maxRecDepth 20000 in
theorem gX9_takeResult_X9_chanceOf : GoodIn wsX9_takeResult (wsV RX9 145 RX9 yX9_chanceOf wsX9_chanceOf) := goodIn_app (goodIn_of _ (by decide +kernel)) ggX9_takeResult_X9_chanceOf
set_option maxRecDepth 20000 in
theorem ggX9_takeResult_X9_keepSurprise : GoodIn wsX9_takeResult wsX9_keepSurprise := goodIn_r _ [26, 27, 28, 35, 36, 37, 38, 39, 40, 41, 42, 43, 44, 45, 46, 47, 48, 49, 50, 51, 52, 53, 54, 55, 56, 57, 58, 59, 60, 61, 62, 63, 64, 65, 66, 67] (by decide +kernel) (by decide +kernel)
set_option maxRecDepth 20000 in
theorem gX9_takeResult_X9_keepSurprise : GoodIn wsX9_takeResult (wsV RX9 225 RX9 yX9_keepSurprise wsX9_keepSurprise) := goodIn_app (goodIn_of _ (by decide +kernel)) ggX9_takeResult_X9_keepSurprise
set_option maxRecDepth 20000 in
theorem ggX9_takeResult_X9_moveTable : GoodIn wsX9_takeResult wsX9_moveTable := goodIn_r _ [32, 14, 33, 34, 15, 16, 17, 6, 18, 8, 13, 19, 20, 21, 22, 35, 36, 37, 38, 39, 40, 41, 42, 43, 44, 45, 46, 47, 48, 49, 50, 51, 52, 53, 54, 55, 56, 57, 58, 59, 60, 61, 62, 63, 64, 65, 66, 67] (by decide +kernel) (by decide +kernel)
set_option maxRecDepth 20000 in
theorem gX9_takeResult_X9_moveTable : GoodIn wsX9_takeResult (wsV RX9 229 RX9 yX9_moveTable wsX9_moveTable) := goodIn_app (goodIn_of _ (by decide +kernel)) ggX9_takeResult_X9_moveTable
theorem dX9_takeResult_0 : decode cX9_takeResult 0 = .ok (.aload_n 0, 1) := by decide +kernel
theorem dX9_takeResult_1 : decode cX9_takeResult 1 = .ok (.iload_n 3, 1) := by decide +kernel
theorem dX9_takeResult_2 : decode cX9_takeResult 2 = .ok (.invokevirtual 220, 3) := by decide +kernel
theorem dX9_takeResult_5 : decode cX9_takeResult 5 = .ok (.istore 4, 2) := by decide +kernel
theorem dX9_takeResult_7 : decode cX9_takeResult 7 = .ok (.iload 4, 2) := by decide +kernel
theorem dX9_takeResult_9 : decode cX9_takeResult 9 = .ok (.ifCond .ne 5, 3) := by decide +kernel
theorem dX9_takeResult_12 : decode cX9_takeResult 12 = .ok (.iconst 0, 1) := by decide +kernel
theorem dX9_takeResult_13 : decode cX9_takeResult 13 = .ok (.ireturn, 1) := by decide +kernel
theorem dX9_takeResult_14 : decode cX9_takeResult 14 = .ok (.aload_n 0, 1) := by decide +kernel
theorem dX9_takeResult_15 : decode cX9_takeResult 15 = .ok (.iload_n 1, 1) := by decide +kernel
theorem dX9_takeResult_16 : decode cX9_takeResult 16 = .ok (.ldc2_w 223, 3) := by decide +kernel
theorem dX9_takeResult_19 : decode cX9_takeResult 19 = .ok (.iload_n 2, 1) := by decide +kernel
theorem dX9_takeResult_20 : decode cX9_takeResult 20 = .ok (.i2l, 1) := by decide +kernel
theorem dX9_takeResult_21 : decode cX9_takeResult 21 = .ok (.lmul, 1) := by decide +kernel
theorem dX9_takeResult_22 : decode cX9_takeResult 22 = .ok (.aload_n 0, 1) := by decide +kernel
theorem dX9_takeResult_23 : decode cX9_takeResult 23 = .ok (.iload_n 1, 1) := by decide +kernel
theorem dX9_takeResult_24 : decode cX9_takeResult 24 = .ok (.iload 4, 2) := by decide +kernel
theorem dX9_takeResult_26 : decode cX9_takeResult 26 = .ok (.invokevirtual 145, 3) := by decide +kernel
theorem dX9_takeResult_29 : decode cX9_takeResult 29 = .ok (.lsub, 1) := by decide +kernel
theorem dX9_takeResult_30 : decode cX9_takeResult 30 = .ok (.invokevirtual 225, 3) := by decide +kernel
theorem dX9_takeResult_33 : decode cX9_takeResult 33 = .ok (.aload_n 0, 1) := by decide +kernel
theorem dX9_takeResult_34 : decode cX9_takeResult 34 = .ok (.iload_n 1, 1) := by decide +kernel
theorem dX9_takeResult_35 : decode cX9_takeResult 35 = .ok (.iload_n 2, 1) := by decide +kernel
theorem dX9_takeResult_36 : decode cX9_takeResult 36 = .ok (.iload 4, 2) := by decide +kernel
theorem dX9_takeResult_38 : decode cX9_takeResult 38 = .ok (.invokevirtual 229, 3) := by decide +kernel
theorem dX9_takeResult_41 : decode cX9_takeResult 41 = .ok (.aload_n 0, 1) := by decide +kernel
theorem dX9_takeResult_42 : decode cX9_takeResult 42 = .ok (.getfield 13, 3) := by decide +kernel
theorem dX9_takeResult_45 : decode cX9_takeResult 45 = .ok (.iload_n 1, 1) := by decide +kernel
theorem dX9_takeResult_46 : decode cX9_takeResult 46 = .ok (.iaload, 1) := by decide +kernel
theorem dX9_takeResult_47 : decode cX9_takeResult 47 = .ok (.iconst 1, 1) := by decide +kernel
theorem dX9_takeResult_48 : decode cX9_takeResult 48 = .ok (.if_icmp .ne 11, 3) := by decide +kernel
theorem dX9_takeResult_51 : decode cX9_takeResult 51 = .ok (.aload_n 0, 1) := by decide +kernel
theorem dX9_takeResult_52 : decode cX9_takeResult 52 = .ok (.iload_n 1, 1) := by decide +kernel
theorem dX9_takeResult_53 : decode cX9_takeResult 53 = .ok (.iload_n 2, 1) := by decide +kernel
theorem dX9_takeResult_54 : decode cX9_takeResult 54 = .ok (.iload 4, 2) := by decide +kernel
theorem dX9_takeResult_56 : decode cX9_takeResult 56 = .ok (.invokevirtual 229, 3) := by decide +kernel
theorem dX9_takeResult_59 : decode cX9_takeResult 59 = .ok (.iconst 1, 1) := by decide +kernel
theorem dX9_takeResult_60 : decode cX9_takeResult 60 = .ok (.ireturn, 1) := by decide +kernel
set_option maxRecDepth 20000 in
theorem ggX9_endMatch_X9_layAside : GoodIn wsX9_endMatch wsX9_layAside := goodIn_r _ [11, 12, 13, 48, 49, 50, 51, 52, 53, 54, 55, 56, 57, 58, 59, 60, 61, 62, 63, 64, 65, 66, 67, 68, 69, 70, 71, 72, 73, 74, 75, 76, 77, 78, 79, 80] (by decide +kernel) (by decide +kernel)
set_option maxRecDepth 20000 in
theorem gX9_endMatch_X9_layAside : GoodIn wsX9_endMatch (wsV RX9 148 RX9 yX9_layAside wsX9_layAside) := goodIn_app (goodIn_of _ (by decide +kernel)) ggX9_endMatch_X9_layAside
set_option maxRecDepth 20000 in
theorem ggX9_endMatch_X9_takeResult : GoodIn wsX9_endMatch wsX9_takeResult := goodIn_r _ [17, 18, 19, 20, 21, 22, 10, 23, 1, 24, 25, 26, 27, 12, 28, 29, 30, 31, 32, 33, 34, 35, 36, 37, 38, 39, 40, 41, 42, 43, 44, 45, 46, 47, 13, 48, 49, 50, 51, 52, 53, 54, 55, 56, 57, 58, 59, 60, 61, 62, 63, 64, 65, 66, 67, 68, 69, 70, 71, 72, 73, 74, 75, 76, 77, 78, 79, 80] (by decide +kernel) (by decide +kernel)
set_option maxRecDepth 20000 in
theorem gX9_endMatch_X9_takeResult : GoodIn wsX9_endMatch (wsV RX9 233 RX9 yX9_takeResult wsX9_takeResult) := goodIn_app (goodIn_of _ (by decide +kernel)) ggX9_endMatch_X9_takeResult
theorem dX9_endMatch_0 : decode cX9_endMatch 0 = .ok (.aload_n 0, 1) := by decide +kernel
theorem dX9_endMatch_1 : decode cX9_endMatch 1 = .ok (.invokevirtual 148, 3) := by decide +kernel
theorem dX9_endMatch_4 : decode cX9_endMatch 4 = .ok (.iconst 0, 1) := by decide +kernel
theorem dX9_endMatch_5 : decode cX9_endMatch 5 = .ok (.istore_n 3, 1) := by decide +kernel
theorem dX9_endMatch_6 : decode cX9_endMatch 6 = .ok (.iconst 0, 1) := by decide +kernel
theorem dX9_endMatch_7 : decode cX9_endMatch 7 = .ok (.istore 4, 2) := by decide +kernel
theorem dX9_endMatch_9 : decode cX9_endMatch 9 = .ok (.iload 4, 2) := by decide +kernel
theorem dX9_endMatch_11 : decode cX9_endMatch 11 = .ok (.aload_n 0, 1) := by decide +kernel
theorem dX9_endMatch_12 : decode cX9_endMatch 12 = .ok (.getfield 94, 3) := by decide +kernel
theorem dX9_endMatch_15 : decode cX9_endMatch 15 = .ok (.if_icmp .ge 126, 3) := by decide +kernel
theorem dX9_endMatch_18 : decode cX9_endMatch 18 = .ok (.aload_n 0, 1) := by decide +kernel
theorem dX9_endMatch_19 : decode cX9_endMatch 19 = .ok (.getfield 52, 3) := by decide +kernel
theorem dX9_endMatch_22 : decode cX9_endMatch 22 = .ok (.iload_n 1, 1) := by decide +kernel
theorem dX9_endMatch_23 : decode cX9_endMatch 23 = .ok (.iaload, 1) := by decide +kernel
theorem dX9_endMatch_24 : decode cX9_endMatch 24 = .ok (.iload 4, 2) := by decide +kernel
theorem dX9_endMatch_26 : decode cX9_endMatch 26 = .ok (.ishr, 1) := by decide +kernel
theorem dX9_endMatch_27 : decode cX9_endMatch 27 = .ok (.iconst 1, 1) := by decide +kernel
theorem dX9_endMatch_28 : decode cX9_endMatch 28 = .ok (.iand, 1) := by decide +kernel
theorem dX9_endMatch_29 : decode cX9_endMatch 29 = .ok (.iconst 1, 1) := by decide +kernel
theorem dX9_endMatch_30 : decode cX9_endMatch 30 = .ok (.if_icmp .ne 7, 3) := by decide +kernel
theorem dX9_endMatch_33 : decode cX9_endMatch 33 = .ok (.iconst 1, 1) := by decide +kernel
theorem dX9_endMatch_34 : decode cX9_endMatch 34 = .ok (.goto 4, 3) := by decide +kernel
theorem dX9_endMatch_37 : decode cX9_endMatch 37 = .ok (.iconst 0, 1) := by decide +kernel
theorem dX9_endMatch_38 : decode cX9_endMatch 38 = .ok (.istore 5, 2) := by decide +kernel
theorem dX9_endMatch_40 : decode cX9_endMatch 40 = .ok (.aload_n 0, 1) := by decide +kernel
theorem dX9_endMatch_41 : decode cX9_endMatch 41 = .ok (.getfield 55, 3) := by decide +kernel
theorem dX9_endMatch_44 : decode cX9_endMatch 44 = .ok (.iload_n 1, 1) := by decide +kernel
theorem dX9_endMatch_45 : decode cX9_endMatch 45 = .ok (.iaload, 1) := by decide +kernel
theorem dX9_endMatch_46 : decode cX9_endMatch 46 = .ok (.iload 4, 2) := by decide +kernel
theorem dX9_endMatch_48 : decode cX9_endMatch 48 = .ok (.ishr, 1) := by decide +kernel
theorem dX9_endMatch_49 : decode cX9_endMatch 49 = .ok (.iconst 1, 1) := by decide +kernel
theorem dX9_endMatch_50 : decode cX9_endMatch 50 = .ok (.iand, 1) := by decide +kernel
theorem dX9_endMatch_51 : decode cX9_endMatch 51 = .ok (.iconst 1, 1) := by decide +kernel
theorem dX9_endMatch_52 : decode cX9_endMatch 52 = .ok (.if_icmp .ne 7, 3) := by decide +kernel
theorem dX9_endMatch_55 : decode cX9_endMatch 55 = .ok (.iconst 1, 1) := by decide +kernel
theorem dX9_endMatch_56 : decode cX9_endMatch 56 = .ok (.goto 4, 3) := by decide +kernel
theorem dX9_endMatch_59 : decode cX9_endMatch 59 = .ok (.iconst 0, 1) := by decide +kernel
theorem dX9_endMatch_60 : decode cX9_endMatch 60 = .ok (.istore 6, 2) := by decide +kernel
theorem dX9_endMatch_62 : decode cX9_endMatch 62 = .ok (.iload 5, 2) := by decide +kernel
theorem dX9_endMatch_64 : decode cX9_endMatch 64 = .ok (.ifCond .ne 8, 3) := by decide +kernel
theorem dX9_endMatch_67 : decode cX9_endMatch 67 = .ok (.iload 6, 2) := by decide +kernel
theorem dX9_endMatch_69 : decode cX9_endMatch 69 = .ok (.ifCond .eq 66, 3) := by decide +kernel
theorem dX9_endMatch_72 : decode cX9_endMatch 72 = .ok (.aload_n 0, 1) := by decide +kernel
theorem dX9_endMatch_73 : decode cX9_endMatch 73 = .ok (.getfield 58, 3) := by decide +kernel
theorem dX9_endMatch_76 : decode cX9_endMatch 76 = .ok (.iload_n 1, 1) := by decide +kernel
theorem dX9_endMatch_77 : decode cX9_endMatch 77 = .ok (.iaload, 1) := by decide +kernel
theorem dX9_endMatch_78 : decode cX9_endMatch 78 = .ok (.iload 4, 2) := by decide +kernel
theorem dX9_endMatch_80 : decode cX9_endMatch 80 = .ok (.ishr, 1) := by decide +kernel
theorem dX9_endMatch_81 : decode cX9_endMatch 81 = .ok (.iconst 1, 1) := by decide +kernel
theorem dX9_endMatch_82 : decode cX9_endMatch 82 = .ok (.iand, 1) := by decide +kernel
theorem dX9_endMatch_83 : decode cX9_endMatch 83 = .ok (.ifCond .ne 52, 3) := by decide +kernel
theorem dX9_endMatch_86 : decode cX9_endMatch 86 = .ok (.iload_n 3, 1) := by decide +kernel
theorem dX9_endMatch_87 : decode cX9_endMatch 87 = .ok (.aload_n 0, 1) := by decide +kernel
theorem dX9_endMatch_88 : decode cX9_endMatch 88 = .ok (.iload 4, 2) := by decide +kernel
theorem dX9_endMatch_90 : decode cX9_endMatch 90 = .ok (.iload 5, 2) := by decide +kernel
theorem dX9_endMatch_92 : decode cX9_endMatch 92 = .ok (.ifCond .eq 7, 3) := by decide +kernel
theorem dX9_endMatch_95 : decode cX9_endMatch 95 = .ok (.iload_n 2, 1) := by decide +kernel
theorem dX9_endMatch_96 : decode cX9_endMatch 96 = .ok (.goto 6, 3) := by decide +kernel
theorem dX9_endMatch_99 : decode cX9_endMatch 99 = .ok (.iconst 2, 1) := by decide +kernel
theorem dX9_endMatch_100 : decode cX9_endMatch 100 = .ok (.iload_n 2, 1) := by decide +kernel
theorem dX9_endMatch_101 : decode cX9_endMatch 101 = .ok (.isub, 1) := by decide +kernel
theorem dX9_endMatch_102 : decode cX9_endMatch 102 = .ok (.iload 5, 2) := by decide +kernel
theorem dX9_endMatch_104 : decode cX9_endMatch 104 = .ok (.ifCond .eq 12, 3) := by decide +kernel
theorem dX9_endMatch_107 : decode cX9_endMatch 107 = .ok (.aload_n 0, 1) := by decide +kernel
theorem dX9_endMatch_108 : decode cX9_endMatch 108 = .ok (.getfield 55, 3) := by decide +kernel
theorem dX9_endMatch_111 : decode cX9_endMatch 111 = .ok (.iload_n 1, 1) := by decide +kernel
theorem dX9_endMatch_112 : decode cX9_endMatch 112 = .ok (.iaload, 1) := by decide +kernel
theorem dX9_endMatch_113 : decode cX9_endMatch 113 = .ok (.goto 9, 3) := by decide +kernel
theorem dX9_endMatch_116 : decode cX9_endMatch 116 = .ok (.aload_n 0, 1) := by decide +kernel
theorem dX9_endMatch_117 : decode cX9_endMatch 117 = .ok (.getfield 52, 3) := by decide +kernel
theorem dX9_endMatch_120 : decode cX9_endMatch 120 = .ok (.iload_n 1, 1) := by decide +kernel
theorem dX9_endMatch_121 : decode cX9_endMatch 121 = .ok (.iaload, 1) := by decide +kernel
theorem dX9_endMatch_122 : decode cX9_endMatch 122 = .ok (.invokevirtual 233, 3) := by decide +kernel
theorem dX9_endMatch_125 : decode cX9_endMatch 125 = .ok (.ifCond .eq 7, 3) := by decide +kernel
theorem dX9_endMatch_128 : decode cX9_endMatch 128 = .ok (.iconst 1, 1) := by decide +kernel
theorem dX9_endMatch_129 : decode cX9_endMatch 129 = .ok (.goto 4, 3) := by decide +kernel
theorem dX9_endMatch_132 : decode cX9_endMatch 132 = .ok (.iconst 0, 1) := by decide +kernel
theorem dX9_endMatch_133 : decode cX9_endMatch 133 = .ok (.iadd, 1) := by decide +kernel
theorem dX9_endMatch_134 : decode cX9_endMatch 134 = .ok (.istore_n 3, 1) := by decide +kernel
theorem dX9_endMatch_135 : decode cX9_endMatch 135 = .ok (.iinc 4 1, 3) := by decide +kernel
theorem dX9_endMatch_138 : decode cX9_endMatch 138 = .ok (.goto (-129), 3) := by decide +kernel
theorem dX9_endMatch_141 : decode cX9_endMatch 141 = .ok (.aload_n 0, 1) := by decide +kernel
theorem dX9_endMatch_142 : decode cX9_endMatch 142 = .ok (.getfield 48, 3) := by decide +kernel
theorem dX9_endMatch_145 : decode cX9_endMatch 145 = .ok (.iload_n 1, 1) := by decide +kernel
theorem dX9_endMatch_146 : decode cX9_endMatch 146 = .ok (.iconst 0, 1) := by decide +kernel
theorem dX9_endMatch_147 : decode cX9_endMatch 147 = .ok (.bastore, 1) := by decide +kernel
theorem dX9_endMatch_148 : decode cX9_endMatch 148 = .ok (.aload_n 0, 1) := by decide +kernel
theorem dX9_endMatch_149 : decode cX9_endMatch 149 = .ok (.dup, 1) := by decide +kernel
theorem dX9_endMatch_150 : decode cX9_endMatch 150 = .ok (.getfield 237, 3) := by decide +kernel
theorem dX9_endMatch_153 : decode cX9_endMatch 153 = .ok (.iconst 1, 1) := by decide +kernel
theorem dX9_endMatch_154 : decode cX9_endMatch 154 = .ok (.iadd, 1) := by decide +kernel
theorem dX9_endMatch_155 : decode cX9_endMatch 155 = .ok (.putfield 237, 3) := by decide +kernel
theorem dX9_endMatch_158 : decode cX9_endMatch 158 = .ok (.iload_n 3, 1) := by decide +kernel
theorem dX9_endMatch_159 : decode cX9_endMatch 159 = .ok (.ireturn, 1) := by decide +kernel
set_option maxRecDepth 20000 in
theorem ggX9_end_X9_isPlaceOfMatch : GoodIn wsX9_end wsX9_isPlaceOfMatch := goodIn_r _ [8, 9, 10, 11, 7, 12] (by decide +kernel) (by decide +kernel)
set_option maxRecDepth 20000 in
theorem gX9_end_X9_isPlaceOfMatch : GoodIn wsX9_end (va_wsS RX9 214 yX9_isPlaceOfMatch wsX9_isPlaceOfMatch) := goodIn_app (goodIn_of _ (by decide +kernel)) ggX9_end_X9_isPlaceOfMatch
set_option maxRecDepth 20000 in
theorem ggX9_end_X9_in : GoodIn wsX9_end wsX9_in := goodIn_r _ [12] (by decide +kernel) (by decide +kernel)
set_option maxRecDepth 20000 in
theorem gX9_end_X9_in : GoodIn wsX9_end (va_wsS RX9 97 yX9_in wsX9_in) := goodIn_app (goodIn_of _ (by decide +kernel)) ggX9_end_X9_in
set_option maxRecDepth 20000 in
theorem ggX9_end_X9_finding : GoodIn wsX9_end wsX9_finding := goodIn_r _ [16, 17, 18, 68, 69, 70, 71, 72, 73, 74, 75, 76, 77, 78, 79, 80, 81, 82, 83, 84, 85, 86, 87, 88, 89, 90, 91, 92, 93, 94, 95, 96, 97, 98, 99, 100] (by decide +kernel) (by decide +kernel)
set_option maxRecDepth 20000 in
theorem gX9_end_X9_finding : GoodIn wsX9_end (wsV RX9 111 RX9 yX9_finding wsX9_finding) := goodIn_app (goodIn_of _ (by decide +kernel)) ggX9_end_X9_finding
set_option maxRecDepth 20000 in
theorem ggX9_end_X9_endMatch : GoodIn wsX9_end wsX9_endMatch := goodIn_r _ [22, 23, 24, 25, 26, 3, 27, 28, 29, 30, 7, 31, 32, 33, 34, 35, 36, 37, 38, 39, 40, 41, 42, 43, 44, 45, 46, 47, 48, 49, 50, 51, 52, 53, 54, 55, 56, 57, 58, 59, 60, 61, 62, 63, 64, 65, 66, 67, 68, 69, 70, 71, 72, 73, 74, 75, 76, 77, 78, 79, 80, 81, 82, 83, 84, 85, 86, 87, 88, 89, 90, 91, 92, 93, 94, 95, 96, 97, 98, 99, 100] (by decide +kernel) (by decide +kernel)
set_option maxRecDepth 20000 in
theorem gX9_end_X9_endMatch : GoodIn wsX9_end (wsV RX9 240 RX9 yX9_endMatch wsX9_endMatch) := goodIn_app (goodIn_of _ (by decide +kernel)) ggX9_end_X9_endMatch
theorem dX9_end_0 : decode cX9_end 0 = .ok (.iload_n 1, 1) := by decide +kernel
theorem dX9_end_1 : decode cX9_end 1 = .ok (.invokestatic 214, 3) := by decide +kernel
theorem dX9_end_4 : decode cX9_end 4 = .ok (.ifCond .eq 15, 3) := by decide +kernel
theorem dX9_end_7 : decode cX9_end 7 = .ok (.iload_n 2, 1) := by decide +kernel
theorem dX9_end_8 : decode cX9_end 8 = .ok (.i2l, 1) := by decide +kernel
theorem dX9_end_9 : decode cX9_end 9 = .ok (.lconst 0, 1) := by decide +kernel
theorem dX9_end_10 : decode cX9_end 10 = .ok (.ldc2_w 107, 3) := by decide +kernel
theorem dX9_end_13 : decode cX9_end 13 = .ok (.invokestatic 97, 3) := by decide +kernel
theorem dX9_end_16 : decode cX9_end 16 = .ok (.ifCond .ne 11, 3) := by decide +kernel
theorem dX9_end_19 : decode cX9_end 19 = .ok (.aload_n 0, 1) := by decide +kernel
theorem dX9_end_20 : decode cX9_end 20 = .ok (.ldc2_w 109, 3) := by decide +kernel
theorem dX9_end_23 : decode cX9_end 23 = .ok (.invokevirtual 111, 3) := by decide +kernel
theorem dX9_end_26 : decode cX9_end 26 = .ok (.lreturn, 1) := by decide +kernel
theorem dX9_end_27 : decode cX9_end 27 = .ok (.aload_n 0, 1) := by decide +kernel
theorem dX9_end_28 : decode cX9_end 28 = .ok (.getfield 48, 3) := by decide +kernel
theorem dX9_end_31 : decode cX9_end 31 = .ok (.iload_n 1, 1) := by decide +kernel
theorem dX9_end_32 : decode cX9_end 32 = .ok (.baload, 1) := by decide +kernel
theorem dX9_end_33 : decode cX9_end 33 = .ok (.ifCond .eq 13, 3) := by decide +kernel
theorem dX9_end_36 : decode cX9_end 36 = .ok (.aload_n 0, 1) := by decide +kernel
theorem dX9_end_37 : decode cX9_end 37 = .ok (.iload_n 1, 1) := by decide +kernel
theorem dX9_end_38 : decode cX9_end 38 = .ok (.iload_n 2, 1) := by decide +kernel
theorem dX9_end_39 : decode cX9_end 39 = .ok (.invokevirtual 240, 3) := by decide +kernel
theorem dX9_end_42 : decode cX9_end 42 = .ok (.i2l, 1) := by decide +kernel
theorem dX9_end_43 : decode cX9_end 43 = .ok (.goto 10, 3) := by decide +kernel
theorem dX9_end_46 : decode cX9_end 46 = .ok (.aload_n 0, 1) := by decide +kernel
theorem dX9_end_47 : decode cX9_end 47 = .ok (.ldc2_w 173, 3) := by decide +kernel
theorem dX9_end_50 : decode cX9_end 50 = .ok (.invokevirtual 111, 3) := by decide +kernel
theorem dX9_end_53 : decode cX9_end 53 = .ok (.lreturn, 1) := by decide +kernel
set_option maxRecDepth 20000 in
theorem ggX9_drop_X9_isPlayer : GoodIn wsX9_drop wsX9_isPlayer := goodIn_r _ [10, 11, 12, 13, 9, 14, 71, 72, 73, 74, 75, 76, 77, 78, 79, 80, 81, 82, 83, 84, 85, 86, 87, 88, 89, 90, 91, 92, 93, 94, 95, 96, 97, 98, 99, 100, 101, 102, 103] (by decide +kernel) (by decide +kernel)
set_option maxRecDepth 20000 in
theorem gX9_drop_X9_isPlayer : GoodIn wsX9_drop (wsV RX9 121 RX9 yX9_isPlayer wsX9_isPlayer) := goodIn_app (goodIn_of _ (by decide +kernel)) ggX9_drop_X9_isPlayer
set_option maxRecDepth 20000 in
theorem ggX9_drop_X9_finding : GoodIn wsX9_drop wsX9_finding := goodIn_r _ [18, 19, 20, 71, 72, 73, 74, 75, 76, 77, 78, 79, 80, 81, 82, 83, 84, 85, 86, 87, 88, 89, 90, 91, 92, 93, 94, 95, 96, 97, 98, 99, 100, 101, 102, 103] (by decide +kernel) (by decide +kernel)
set_option maxRecDepth 20000 in
theorem gX9_drop_X9_finding : GoodIn wsX9_drop (wsV RX9 111 RX9 yX9_finding wsX9_finding) := goodIn_app (goodIn_of _ (by decide +kernel)) ggX9_drop_X9_finding
set_option maxRecDepth 20000 in
theorem ggX9_drop_X9_matchOf : GoodIn wsX9_drop wsX9_matchOf := goodIn_r _ [24, 25, 3, 4, 5, 71, 72, 73, 74, 75, 76, 77, 78, 79, 80, 81, 82, 83, 84, 85, 86, 87, 88, 89, 90, 91, 92, 93, 94, 95, 96, 97, 98, 99, 100, 101, 102, 103] (by decide +kernel) (by decide +kernel)
set_option maxRecDepth 20000 in
theorem gX9_drop_X9_matchOf : GoodIn wsX9_drop (wsV RX9 167 RX9 yX9_matchOf wsX9_matchOf) := goodIn_app (goodIn_of _ (by decide +kernel)) ggX9_drop_X9_matchOf
set_option maxRecDepth 20000 in
theorem ggX9_drop_X9_layAside : GoodIn wsX9_drop wsX9_layAside := goodIn_r _ [29, 30, 31, 71, 72, 73, 74, 75, 76, 77, 78, 79, 80, 81, 82, 83, 84, 85, 86, 87, 88, 89, 90, 91, 92, 93, 94, 95, 96, 97, 98, 99, 100, 101, 102, 103] (by decide +kernel) (by decide +kernel)
set_option maxRecDepth 20000 in
theorem gX9_drop_X9_layAside : GoodIn wsX9_drop (wsV RX9 148 RX9 yX9_layAside wsX9_layAside) := goodIn_app (goodIn_of _ (by decide +kernel)) ggX9_drop_X9_layAside
set_option maxRecDepth 20000 in
theorem ggX9_drop_X9_takeResult : GoodIn wsX9_drop wsX9_takeResult := goodIn_r _ [35, 36, 37, 38, 39, 40, 9, 41, 11, 42, 43, 44, 45, 30, 46, 47, 48, 49, 50, 51, 52, 53, 54, 55, 56, 57, 58, 59, 60, 61, 62, 63, 64, 65, 31, 71, 72, 73, 74, 75, 76, 77, 78, 79, 80, 81, 82, 83, 84, 85, 86, 87, 88, 89, 90, 91, 92, 93, 94, 95, 96, 97, 98, 99, 100, 101, 102, 103] (by decide +kernel) (by decide +kernel)
set_option maxRecDepth 20000 in
theorem gX9_drop_X9_takeResult : GoodIn wsX9_drop (wsV RX9 233 RX9 yX9_takeResult wsX9_takeResult) := goodIn_app (goodIn_of _ (by decide +kernel)) ggX9_drop_X9_takeResult
set_option maxRecDepth 20000 in
theorem ggX9_drop_X9_endMatch : GoodIn wsX9_drop wsX9_endMatch := goodIn_r _ [69, 11, 3, 4, 5, 25, 70, 26, 27, 28, 9, 29, 30, 31, 32, 33, 34, 35, 36, 37, 38, 39, 40, 41, 42, 43, 44, 45, 46, 47, 48, 49, 50, 51, 52, 53, 54, 55, 56, 57, 58, 59, 60, 61, 62, 63, 64, 65, 71, 72, 73, 74, 75, 76, 77, 78, 79, 80, 81, 82, 83, 84, 85, 86, 87, 88, 89, 90, 91, 92, 93, 94, 95, 96, 97, 98, 99, 100, 101, 102, 103] (by decide +kernel) (by decide +kernel)
set_option maxRecDepth 20000 in
theorem gX9_drop_X9_endMatch : GoodIn wsX9_drop (wsV RX9 240 RX9 yX9_endMatch wsX9_endMatch) := goodIn_app (goodIn_of _ (by decide +kernel)) ggX9_drop_X9_endMatch
theorem dX9_drop_0 : decode cX9_drop 0 = .ok (.aload_n 0, 1) := by decide +kernel
theorem dX9_drop_1 : decode cX9_drop 1 = .ok (.iload_n 1, 1) := by decide +kernel
theorem dX9_drop_2 : decode cX9_drop 2 = .ok (.invokevirtual 121, 3) := by decide +kernel
theorem dX9_drop_5 : decode cX9_drop 5 = .ok (.ifCond .ne 11, 3) := by decide +kernel
theorem dX9_drop_8 : decode cX9_drop 8 = .ok (.aload_n 0, 1) := by decide +kernel
theorem dX9_drop_9 : decode cX9_drop 9 = .ok (.ldc2_w 109, 3) := by decide +kernel
theorem dX9_drop_12 : decode cX9_drop 12 = .ok (.invokevirtual 111, 3) := by decide +kernel
theorem dX9_drop_15 : decode cX9_drop 15 = .ok (.lreturn, 1) := by decide +kernel
theorem dX9_drop_16 : decode cX9_drop 16 = .ok (.aload_n 0, 1) := by decide +kernel
theorem dX9_drop_17 : decode cX9_drop 17 = .ok (.iload_n 1, 1) := by decide +kernel
theorem dX9_drop_18 : decode cX9_drop 18 = .ok (.invokevirtual 167, 3) := by decide +kernel
theorem dX9_drop_21 : decode cX9_drop 21 = .ok (.istore_n 2, 1) := by decide +kernel
theorem dX9_drop_22 : decode cX9_drop 22 = .ok (.iload_n 2, 1) := by decide +kernel
theorem dX9_drop_23 : decode cX9_drop 23 = .ok (.ifCond .ge 11, 3) := by decide +kernel
theorem dX9_drop_26 : decode cX9_drop 26 = .ok (.aload_n 0, 1) := by decide +kernel
theorem dX9_drop_27 : decode cX9_drop 27 = .ok (.ldc2_w 173, 3) := by decide +kernel
theorem dX9_drop_30 : decode cX9_drop 30 = .ok (.invokevirtual 111, 3) := by decide +kernel
theorem dX9_drop_33 : decode cX9_drop 33 = .ok (.lreturn, 1) := by decide +kernel
theorem dX9_drop_34 : decode cX9_drop 34 = .ok (.aload_n 0, 1) := by decide +kernel
theorem dX9_drop_35 : decode cX9_drop 35 = .ok (.getfield 52, 3) := by decide +kernel
theorem dX9_drop_38 : decode cX9_drop 38 = .ok (.iload_n 2, 1) := by decide +kernel
theorem dX9_drop_39 : decode cX9_drop 39 = .ok (.iaload, 1) := by decide +kernel
theorem dX9_drop_40 : decode cX9_drop 40 = .ok (.iload_n 1, 1) := by decide +kernel
theorem dX9_drop_41 : decode cX9_drop 41 = .ok (.ishr, 1) := by decide +kernel
theorem dX9_drop_42 : decode cX9_drop 42 = .ok (.iconst 1, 1) := by decide +kernel
theorem dX9_drop_43 : decode cX9_drop 43 = .ok (.iand, 1) := by decide +kernel
theorem dX9_drop_44 : decode cX9_drop 44 = .ok (.iconst 1, 1) := by decide +kernel
theorem dX9_drop_45 : decode cX9_drop 45 = .ok (.if_icmp .ne 7, 3) := by decide +kernel
theorem dX9_drop_48 : decode cX9_drop 48 = .ok (.iconst 1, 1) := by decide +kernel
theorem dX9_drop_49 : decode cX9_drop 49 = .ok (.goto 4, 3) := by decide +kernel
theorem dX9_drop_52 : decode cX9_drop 52 = .ok (.iconst 0, 1) := by decide +kernel
theorem dX9_drop_53 : decode cX9_drop 53 = .ok (.istore_n 3, 1) := by decide +kernel
theorem dX9_drop_54 : decode cX9_drop 54 = .ok (.aload_n 0, 1) := by decide +kernel
theorem dX9_drop_55 : decode cX9_drop 55 = .ok (.invokevirtual 148, 3) := by decide +kernel
theorem dX9_drop_58 : decode cX9_drop 58 = .ok (.aload_n 0, 1) := by decide +kernel
theorem dX9_drop_59 : decode cX9_drop 59 = .ok (.iload_n 1, 1) := by decide +kernel
theorem dX9_drop_60 : decode cX9_drop 60 = .ok (.iconst 0, 1) := by decide +kernel
theorem dX9_drop_61 : decode cX9_drop 61 = .ok (.iload_n 3, 1) := by decide +kernel
theorem dX9_drop_62 : decode cX9_drop 62 = .ok (.ifCond .eq 12, 3) := by decide +kernel
theorem dX9_drop_65 : decode cX9_drop 65 = .ok (.aload_n 0, 1) := by decide +kernel
theorem dX9_drop_66 : decode cX9_drop 66 = .ok (.getfield 55, 3) := by decide +kernel
theorem dX9_drop_69 : decode cX9_drop 69 = .ok (.iload_n 2, 1) := by decide +kernel
theorem dX9_drop_70 : decode cX9_drop 70 = .ok (.iaload, 1) := by decide +kernel
theorem dX9_drop_71 : decode cX9_drop 71 = .ok (.goto 9, 3) := by decide +kernel
theorem dX9_drop_74 : decode cX9_drop 74 = .ok (.aload_n 0, 1) := by decide +kernel
theorem dX9_drop_75 : decode cX9_drop 75 = .ok (.getfield 52, 3) := by decide +kernel
theorem dX9_drop_78 : decode cX9_drop 78 = .ok (.iload_n 2, 1) := by decide +kernel
theorem dX9_drop_79 : decode cX9_drop 79 = .ok (.iaload, 1) := by decide +kernel
theorem dX9_drop_80 : decode cX9_drop 80 = .ok (.invokevirtual 233, 3) := by decide +kernel
theorem dX9_drop_83 : decode cX9_drop 83 = .ok (.istore 4, 2) := by decide +kernel
theorem dX9_drop_85 : decode cX9_drop 85 = .ok (.aload_n 0, 1) := by decide +kernel
theorem dX9_drop_86 : decode cX9_drop 86 = .ok (.getfield 58, 3) := by decide +kernel
theorem dX9_drop_89 : decode cX9_drop 89 = .ok (.iload_n 2, 1) := by decide +kernel
theorem dX9_drop_90 : decode cX9_drop 90 = .ok (.dup2, 1) := by decide +kernel
theorem dX9_drop_91 : decode cX9_drop 91 = .ok (.iaload, 1) := by decide +kernel
theorem dX9_drop_92 : decode cX9_drop 92 = .ok (.iconst 1, 1) := by decide +kernel
theorem dX9_drop_93 : decode cX9_drop 93 = .ok (.iload_n 1, 1) := by decide +kernel
theorem dX9_drop_94 : decode cX9_drop 94 = .ok (.ishl, 1) := by decide +kernel
theorem dX9_drop_95 : decode cX9_drop 95 = .ok (.ior, 1) := by decide +kernel
theorem dX9_drop_96 : decode cX9_drop 96 = .ok (.iastore, 1) := by decide +kernel
theorem dX9_drop_97 : decode cX9_drop 97 = .ok (.iload_n 3, 1) := by decide +kernel
theorem dX9_drop_98 : decode cX9_drop 98 = .ok (.ifCond .eq 12, 3) := by decide +kernel
theorem dX9_drop_101 : decode cX9_drop 101 = .ok (.aload_n 0, 1) := by decide +kernel
theorem dX9_drop_102 : decode cX9_drop 102 = .ok (.getfield 52, 3) := by decide +kernel
theorem dX9_drop_105 : decode cX9_drop 105 = .ok (.iload_n 2, 1) := by decide +kernel
theorem dX9_drop_106 : decode cX9_drop 106 = .ok (.iaload, 1) := by decide +kernel
theorem dX9_drop_107 : decode cX9_drop 107 = .ok (.goto 9, 3) := by decide +kernel
theorem dX9_drop_110 : decode cX9_drop 110 = .ok (.aload_n 0, 1) := by decide +kernel
theorem dX9_drop_111 : decode cX9_drop 111 = .ok (.getfield 55, 3) := by decide +kernel
theorem dX9_drop_114 : decode cX9_drop 114 = .ok (.iload_n 2, 1) := by decide +kernel
theorem dX9_drop_115 : decode cX9_drop 115 = .ok (.iaload, 1) := by decide +kernel
theorem dX9_drop_116 : decode cX9_drop 116 = .ok (.istore 5, 2) := by decide +kernel
theorem dX9_drop_118 : decode cX9_drop 118 = .ok (.iload 5, 2) := by decide +kernel
theorem dX9_drop_120 : decode cX9_drop 120 = .ok (.aload_n 0, 1) := by decide +kernel
theorem dX9_drop_121 : decode cX9_drop 121 = .ok (.getfield 58, 3) := by decide +kernel
theorem dX9_drop_124 : decode cX9_drop 124 = .ok (.iload_n 2, 1) := by decide +kernel
theorem dX9_drop_125 : decode cX9_drop 125 = .ok (.iaload, 1) := by decide +kernel
theorem dX9_drop_126 : decode cX9_drop 126 = .ok (.iconst (-1), 1) := by decide +kernel
theorem dX9_drop_127 : decode cX9_drop 127 = .ok (.ixor, 1) := by decide +kernel
theorem dX9_drop_128 : decode cX9_drop 128 = .ok (.iand, 1) := by decide +kernel
theorem dX9_drop_129 : decode cX9_drop 129 = .ok (.ifCond .eq 5, 3) := by decide +kernel
theorem dX9_drop_132 : decode cX9_drop 132 = .ok (.lconst 0, 1) := by decide +kernel
theorem dX9_drop_133 : decode cX9_drop 133 = .ok (.lreturn, 1) := by decide +kernel
theorem dX9_drop_134 : decode cX9_drop 134 = .ok (.aload_n 0, 1) := by decide +kernel
theorem dX9_drop_135 : decode cX9_drop 135 = .ok (.iload_n 2, 1) := by decide +kernel
theorem dX9_drop_136 : decode cX9_drop 136 = .ok (.iload_n 3, 1) := by decide +kernel
theorem dX9_drop_137 : decode cX9_drop 137 = .ok (.ifCond .eq 7, 3) := by decide +kernel
theorem dX9_drop_140 : decode cX9_drop 140 = .ok (.iconst 0, 1) := by decide +kernel
theorem dX9_drop_141 : decode cX9_drop 141 = .ok (.goto 4, 3) := by decide +kernel
theorem dX9_drop_144 : decode cX9_drop 144 = .ok (.iconst 2, 1) := by decide +kernel
theorem dX9_drop_145 : decode cX9_drop 145 = .ok (.invokevirtual 240, 3) := by decide +kernel
theorem dX9_drop_148 : decode cX9_drop 148 = .ok (.istore 6, 2) := by decide +kernel
theorem dX9_drop_150 : decode cX9_drop 150 = .ok (.lconst 1, 1) := by decide +kernel
theorem dX9_drop_151 : decode cX9_drop 151 = .ok (.lreturn, 1) := by decide +kernel
theorem dX9_surpriseSum_0 : decode cX9_surpriseSum 0 = .ok (.lconst 0, 1) := by decide +kernel
theorem dX9_surpriseSum_1 : decode cX9_surpriseSum 1 = .ok (.lstore_n 2, 1) := by decide +kernel
theorem dX9_surpriseSum_2 : decode cX9_surpriseSum 2 = .ok (.iconst 0, 1) := by decide +kernel
theorem dX9_surpriseSum_3 : decode cX9_surpriseSum 3 = .ok (.istore 4, 2) := by decide +kernel
theorem dX9_surpriseSum_5 : decode cX9_surpriseSum 5 = .ok (.iload 4, 2) := by decide +kernel
theorem dX9_surpriseSum_7 : decode cX9_surpriseSum 7 = .ok (.aload_n 0, 1) := by decide +kernel
theorem dX9_surpriseSum_8 : decode cX9_surpriseSum 8 = .ok (.getfield 23, 3) := by decide +kernel
theorem dX9_surpriseSum_11 : decode cX9_surpriseSum 11 = .ok (.iload_n 1, 1) := by decide +kernel
theorem dX9_surpriseSum_12 : decode cX9_surpriseSum 12 = .ok (.iaload, 1) := by decide +kernel
theorem dX9_surpriseSum_13 : decode cX9_surpriseSum 13 = .ok (.if_icmp .ge 24, 3) := by decide +kernel
theorem dX9_surpriseSum_16 : decode cX9_surpriseSum 16 = .ok (.lload_n 2, 1) := by decide +kernel
theorem dX9_surpriseSum_17 : decode cX9_surpriseSum 17 = .ok (.aload_n 0, 1) := by decide +kernel
theorem dX9_surpriseSum_18 : decode cX9_surpriseSum 18 = .ok (.getfield 20, 3) := by decide +kernel
theorem dX9_surpriseSum_21 : decode cX9_surpriseSum 21 = .ok (.bipush 8, 2) := by decide +kernel
theorem dX9_surpriseSum_23 : decode cX9_surpriseSum 23 = .ok (.iload_n 1, 1) := by decide +kernel
theorem dX9_surpriseSum_24 : decode cX9_surpriseSum 24 = .ok (.imul, 1) := by decide +kernel
theorem dX9_surpriseSum_25 : decode cX9_surpriseSum 25 = .ok (.iload 4, 2) := by decide +kernel
theorem dX9_surpriseSum_27 : decode cX9_surpriseSum 27 = .ok (.iadd, 1) := by decide +kernel
theorem dX9_surpriseSum_28 : decode cX9_surpriseSum 28 = .ok (.laload, 1) := by decide +kernel
theorem dX9_surpriseSum_29 : decode cX9_surpriseSum 29 = .ok (.ladd, 1) := by decide +kernel
theorem dX9_surpriseSum_30 : decode cX9_surpriseSum 30 = .ok (.lstore_n 2, 1) := by decide +kernel
theorem dX9_surpriseSum_31 : decode cX9_surpriseSum 31 = .ok (.iinc 4 1, 3) := by decide +kernel
theorem dX9_surpriseSum_34 : decode cX9_surpriseSum 34 = .ok (.goto (-29), 3) := by decide +kernel
theorem dX9_surpriseSum_37 : decode cX9_surpriseSum 37 = .ok (.lload_n 2, 1) := by decide +kernel
theorem dX9_surpriseSum_38 : decode cX9_surpriseSum 38 = .ok (.lreturn, 1) := by decide +kernel
set_option maxRecDepth 20000 in
theorem ggX9_surprise_X9_isPlayer : GoodIn wsX9_surprise wsX9_isPlayer := goodIn_r _ [10, 11, 12, 13, 9, 14, 25, 26, 27, 28, 29, 30, 31, 32, 33, 34, 35, 36, 37, 38, 39, 40, 41, 42, 43, 44, 45, 46, 47, 48, 49, 50, 51, 52, 53, 54, 55, 56, 57] (by decide +kernel) (by decide +kernel)
set_option maxRecDepth 20000 in
theorem gX9_surprise_X9_isPlayer : GoodIn wsX9_surprise (wsV RX9 121 RX9 yX9_isPlayer wsX9_isPlayer) := goodIn_app (goodIn_of _ (by decide +kernel)) ggX9_surprise_X9_isPlayer
set_option maxRecDepth 20000 in
theorem ggX9_surprise_X9_finding : GoodIn wsX9_surprise wsX9_finding := goodIn_r _ [18, 19, 20, 25, 26, 27, 28, 29, 30, 31, 32, 33, 34, 35, 36, 37, 38, 39, 40, 41, 42, 43, 44, 45, 46, 47, 48, 49, 50, 51, 52, 53, 54, 55, 56, 57] (by decide +kernel) (by decide +kernel)
set_option maxRecDepth 20000 in
theorem gX9_surprise_X9_finding : GoodIn wsX9_surprise (wsV RX9 111 RX9 yX9_finding wsX9_finding) := goodIn_app (goodIn_of _ (by decide +kernel)) ggX9_surprise_X9_finding
set_option maxRecDepth 20000 in
theorem ggX9_surprise_X9_in : GoodIn wsX9_surprise wsX9_in := goodIn_r _ [14] (by decide +kernel) (by decide +kernel)
set_option maxRecDepth 20000 in
theorem gX9_surprise_X9_in : GoodIn wsX9_surprise (va_wsS RX9 97 yX9_in wsX9_in) := goodIn_app (goodIn_of _ (by decide +kernel)) ggX9_surprise_X9_in
set_option maxRecDepth 20000 in
theorem ggX9_surprise_X9_surpriseSum : GoodIn wsX9_surprise wsX9_surpriseSum := goodIn_r _ [24, 3, 5, 25, 26, 27, 28, 29, 30, 31, 32, 33, 34, 35, 36, 37, 38, 39, 40, 41, 42, 43, 44, 45, 46, 47, 48, 49, 50, 51, 52, 53, 54, 55, 56, 57] (by decide +kernel) (by decide +kernel)
set_option maxRecDepth 20000 in
theorem gX9_surprise_X9_surpriseSum : GoodIn wsX9_surprise (wsV RX9 246 RX9 yX9_surpriseSum wsX9_surpriseSum) := goodIn_app (goodIn_of _ (by decide +kernel)) ggX9_surprise_X9_surpriseSum
theorem dX9_surprise_0 : decode cX9_surprise 0 = .ok (.aload_n 0, 1) := by decide +kernel
theorem dX9_surprise_1 : decode cX9_surprise 1 = .ok (.iload_n 1, 1) := by decide +kernel
theorem dX9_surprise_2 : decode cX9_surprise 2 = .ok (.invokevirtual 121, 3) := by decide +kernel
theorem dX9_surprise_5 : decode cX9_surprise 5 = .ok (.ifCond .ne 11, 3) := by decide +kernel
theorem dX9_surprise_8 : decode cX9_surprise 8 = .ok (.aload_n 0, 1) := by decide +kernel
theorem dX9_surprise_9 : decode cX9_surprise 9 = .ok (.ldc2_w 109, 3) := by decide +kernel
theorem dX9_surprise_12 : decode cX9_surprise 12 = .ok (.invokevirtual 111, 3) := by decide +kernel
theorem dX9_surprise_15 : decode cX9_surprise 15 = .ok (.lreturn, 1) := by decide +kernel
theorem dX9_surprise_16 : decode cX9_surprise 16 = .ok (.iload_n 2, 1) := by decide +kernel
theorem dX9_surprise_17 : decode cX9_surprise 17 = .ok (.i2l, 1) := by decide +kernel
theorem dX9_surprise_18 : decode cX9_surprise 18 = .ok (.ldc2_w 244, 3) := by decide +kernel
theorem dX9_surprise_21 : decode cX9_surprise 21 = .ok (.aload_n 0, 1) := by decide +kernel
theorem dX9_surprise_22 : decode cX9_surprise 22 = .ok (.getfield 23, 3) := by decide +kernel
theorem dX9_surprise_25 : decode cX9_surprise 25 = .ok (.iload_n 1, 1) := by decide +kernel
theorem dX9_surprise_26 : decode cX9_surprise 26 = .ok (.iaload, 1) := by decide +kernel
theorem dX9_surprise_27 : decode cX9_surprise 27 = .ok (.iconst 1, 1) := by decide +kernel
theorem dX9_surprise_28 : decode cX9_surprise 28 = .ok (.isub, 1) := by decide +kernel
theorem dX9_surprise_29 : decode cX9_surprise 29 = .ok (.i2l, 1) := by decide +kernel
theorem dX9_surprise_30 : decode cX9_surprise 30 = .ok (.invokestatic 97, 3) := by decide +kernel
theorem dX9_surprise_33 : decode cX9_surprise 33 = .ok (.ifCond .eq 12, 3) := by decide +kernel
theorem dX9_surprise_36 : decode cX9_surprise 36 = .ok (.aload_n 0, 1) := by decide +kernel
theorem dX9_surprise_37 : decode cX9_surprise 37 = .ok (.getfield 23, 3) := by decide +kernel
theorem dX9_surprise_40 : decode cX9_surprise 40 = .ok (.iload_n 1, 1) := by decide +kernel
theorem dX9_surprise_41 : decode cX9_surprise 41 = .ok (.iaload, 1) := by decide +kernel
theorem dX9_surprise_42 : decode cX9_surprise 42 = .ok (.ifCond .ne 11, 3) := by decide +kernel
theorem dX9_surprise_45 : decode cX9_surprise 45 = .ok (.aload_n 0, 1) := by decide +kernel
theorem dX9_surprise_46 : decode cX9_surprise 46 = .ok (.ldc2_w 173, 3) := by decide +kernel
theorem dX9_surprise_49 : decode cX9_surprise 49 = .ok (.invokevirtual 111, 3) := by decide +kernel
theorem dX9_surprise_52 : decode cX9_surprise 52 = .ok (.lreturn, 1) := by decide +kernel
theorem dX9_surprise_53 : decode cX9_surprise 53 = .ok (.iload_n 2, 1) := by decide +kernel
theorem dX9_surprise_54 : decode cX9_surprise 54 = .ok (.iconst (-1), 1) := by decide +kernel
theorem dX9_surprise_55 : decode cX9_surprise 55 = .ok (.if_icmp .ne 11, 3) := by decide +kernel
theorem dX9_surprise_58 : decode cX9_surprise 58 = .ok (.aload_n 0, 1) := by decide +kernel
theorem dX9_surprise_59 : decode cX9_surprise 59 = .ok (.iload_n 1, 1) := by decide +kernel
theorem dX9_surprise_60 : decode cX9_surprise 60 = .ok (.invokevirtual 246, 3) := by decide +kernel
theorem dX9_surprise_63 : decode cX9_surprise 63 = .ok (.goto 14, 3) := by decide +kernel
theorem dX9_surprise_66 : decode cX9_surprise 66 = .ok (.aload_n 0, 1) := by decide +kernel
theorem dX9_surprise_67 : decode cX9_surprise 67 = .ok (.getfield 20, 3) := by decide +kernel
theorem dX9_surprise_70 : decode cX9_surprise 70 = .ok (.bipush 8, 2) := by decide +kernel
theorem dX9_surprise_72 : decode cX9_surprise 72 = .ok (.iload_n 1, 1) := by decide +kernel
theorem dX9_surprise_73 : decode cX9_surprise 73 = .ok (.imul, 1) := by decide +kernel
theorem dX9_surprise_74 : decode cX9_surprise 74 = .ok (.iload_n 2, 1) := by decide +kernel
theorem dX9_surprise_75 : decode cX9_surprise 75 = .ok (.iadd, 1) := by decide +kernel
theorem dX9_surprise_76 : decode cX9_surprise 76 = .ok (.laload, 1) := by decide +kernel
theorem dX9_surprise_77 : decode cX9_surprise 77 = .ok (.lreturn, 1) := by decide +kernel
set_option maxRecDepth 20000 in
theorem ggX9_sinking_X9_surpriseSum : GoodIn wsX9_sinking wsX9_surpriseSum := goodIn_r _ [8, 2, 9, 10, 11, 12, 13, 14, 15, 16, 17, 18, 19, 20, 21, 22, 23, 24, 25, 26, 27, 28, 29, 30, 31, 32, 33, 34, 35, 36, 37, 38, 39, 40, 41, 42] (by decide +kernel) (by decide +kernel)
set_option maxRecDepth 20000 in
theorem gX9_sinking_X9_surpriseSum : GoodIn wsX9_sinking (wsV RX9 246 RX9 yX9_surpriseSum wsX9_surpriseSum) := goodIn_app (goodIn_of _ (by decide +kernel)) ggX9_sinking_X9_surpriseSum
theorem dX9_sinking_0 : decode cX9_sinking 0 = .ok (.iconst 0, 1) := by decide +kernel
theorem dX9_sinking_1 : decode cX9_sinking 1 = .ok (.istore_n 1, 1) := by decide +kernel
theorem dX9_sinking_2 : decode cX9_sinking 2 = .ok (.iconst 0, 1) := by decide +kernel
theorem dX9_sinking_3 : decode cX9_sinking 3 = .ok (.istore_n 2, 1) := by decide +kernel
theorem dX9_sinking_4 : decode cX9_sinking 4 = .ok (.iload_n 2, 1) := by decide +kernel
theorem dX9_sinking_5 : decode cX9_sinking 5 = .ok (.aload_n 0, 1) := by decide +kernel
theorem dX9_sinking_6 : decode cX9_sinking 6 = .ok (.getfield 94, 3) := by decide +kernel
theorem dX9_sinking_9 : decode cX9_sinking 9 = .ok (.if_icmp .ge 44, 3) := by decide +kernel
theorem dX9_sinking_12 : decode cX9_sinking 12 = .ok (.iload_n 1, 1) := by decide +kernel
theorem dX9_sinking_13 : decode cX9_sinking 13 = .ok (.aload_n 0, 1) := by decide +kernel
theorem dX9_sinking_14 : decode cX9_sinking 14 = .ok (.getfield 23, 3) := by decide +kernel
theorem dX9_sinking_17 : decode cX9_sinking 17 = .ok (.iload_n 2, 1) := by decide +kernel
theorem dX9_sinking_18 : decode cX9_sinking 18 = .ok (.iaload, 1) := by decide +kernel
theorem dX9_sinking_19 : decode cX9_sinking 19 = .ok (.iconst 5, 1) := by decide +kernel
theorem dX9_sinking_20 : decode cX9_sinking 20 = .ok (.if_icmp .lt 24, 3) := by decide +kernel
theorem dX9_sinking_23 : decode cX9_sinking 23 = .ok (.aload_n 0, 1) := by decide +kernel
theorem dX9_sinking_24 : decode cX9_sinking 24 = .ok (.iload_n 2, 1) := by decide +kernel
theorem dX9_sinking_25 : decode cX9_sinking 25 = .ok (.invokevirtual 246, 3) := by decide +kernel
theorem dX9_sinking_28 : decode cX9_sinking 28 = .ok (.aload_n 0, 1) := by decide +kernel
theorem dX9_sinking_29 : decode cX9_sinking 29 = .ok (.getfield 65, 3) := by decide +kernel
theorem dX9_sinking_32 : decode cX9_sinking 32 = .ok (.ineg, 1) := by decide +kernel
theorem dX9_sinking_33 : decode cX9_sinking 33 = .ok (.i2l, 1) := by decide +kernel
theorem dX9_sinking_34 : decode cX9_sinking 34 = .ok (.lcmp, 1) := by decide +kernel
theorem dX9_sinking_35 : decode cX9_sinking 35 = .ok (.ifCond .ge 9, 3) := by decide +kernel
theorem dX9_sinking_38 : decode cX9_sinking 38 = .ok (.iconst 1, 1) := by decide +kernel
theorem dX9_sinking_39 : decode cX9_sinking 39 = .ok (.iload_n 2, 1) := by decide +kernel
theorem dX9_sinking_40 : decode cX9_sinking 40 = .ok (.ishl, 1) := by decide +kernel
theorem dX9_sinking_41 : decode cX9_sinking 41 = .ok (.goto 4, 3) := by decide +kernel
theorem dX9_sinking_44 : decode cX9_sinking 44 = .ok (.iconst 0, 1) := by decide +kernel
theorem dX9_sinking_45 : decode cX9_sinking 45 = .ok (.ior, 1) := by decide +kernel
theorem dX9_sinking_46 : decode cX9_sinking 46 = .ok (.istore_n 1, 1) := by decide +kernel
theorem dX9_sinking_47 : decode cX9_sinking 47 = .ok (.iinc 2 1, 3) := by decide +kernel
theorem dX9_sinking_50 : decode cX9_sinking 50 = .ok (.goto (-46), 3) := by decide +kernel
theorem dX9_sinking_53 : decode cX9_sinking 53 = .ok (.iload_n 1, 1) := by decide +kernel
theorem dX9_sinking_54 : decode cX9_sinking 54 = .ok (.i2l, 1) := by decide +kernel
theorem dX9_sinking_55 : decode cX9_sinking 55 = .ok (.lreturn, 1) := by decide +kernel
set_option maxRecDepth 20000 in
theorem ggX9_limit_X9_in : GoodIn wsX9_limit wsX9_in := goodIn_r _ [7] (by decide +kernel) (by decide +kernel)
set_option maxRecDepth 20000 in
theorem gX9_limit_X9_in : GoodIn wsX9_limit (va_wsS RX9 97 yX9_in wsX9_in) := goodIn_app (goodIn_of _ (by decide +kernel)) ggX9_limit_X9_in
set_option maxRecDepth 20000 in
theorem ggX9_limit_X9_finding : GoodIn wsX9_limit wsX9_finding := goodIn_r _ [11, 12, 13, 14, 15, 16, 17, 18, 19, 20, 21, 22, 23, 24, 25, 26, 27, 28, 29, 30, 31, 32, 33, 34, 35, 36, 37, 38, 39, 40, 41, 42, 43, 44, 45, 46] (by decide +kernel) (by decide +kernel)
set_option maxRecDepth 20000 in
theorem gX9_limit_X9_finding : GoodIn wsX9_limit (wsV RX9 111 RX9 yX9_finding wsX9_finding) := goodIn_app (goodIn_of _ (by decide +kernel)) ggX9_limit_X9_finding
theorem dX9_limit_0 : decode cX9_limit 0 = .ok (.iload_n 1, 1) := by decide +kernel
theorem dX9_limit_1 : decode cX9_limit 1 = .ok (.i2l, 1) := by decide +kernel
theorem dX9_limit_2 : decode cX9_limit 2 = .ok (.lconst 0, 1) := by decide +kernel
theorem dX9_limit_3 : decode cX9_limit 3 = .ok (.ldc2_w 249, 3) := by decide +kernel
theorem dX9_limit_6 : decode cX9_limit 6 = .ok (.invokestatic 97, 3) := by decide +kernel
theorem dX9_limit_9 : decode cX9_limit 9 = .ok (.ifCond .ne 11, 3) := by decide +kernel
theorem dX9_limit_12 : decode cX9_limit 12 = .ok (.aload_n 0, 1) := by decide +kernel
theorem dX9_limit_13 : decode cX9_limit 13 = .ok (.ldc2_w 109, 3) := by decide +kernel
theorem dX9_limit_16 : decode cX9_limit 16 = .ok (.invokevirtual 111, 3) := by decide +kernel
theorem dX9_limit_19 : decode cX9_limit 19 = .ok (.lreturn, 1) := by decide +kernel
theorem dX9_limit_20 : decode cX9_limit 20 = .ok (.aload_n 0, 1) := by decide +kernel
theorem dX9_limit_21 : decode cX9_limit 21 = .ok (.getfield 65, 3) := by decide +kernel
theorem dX9_limit_24 : decode cX9_limit 24 = .ok (.istore_n 2, 1) := by decide +kernel
theorem dX9_limit_25 : decode cX9_limit 25 = .ok (.aload_n 0, 1) := by decide +kernel
theorem dX9_limit_26 : decode cX9_limit 26 = .ok (.iload_n 1, 1) := by decide +kernel
theorem dX9_limit_27 : decode cX9_limit 27 = .ok (.putfield 65, 3) := by decide +kernel
theorem dX9_limit_30 : decode cX9_limit 30 = .ok (.iload_n 2, 1) := by decide +kernel
theorem dX9_limit_31 : decode cX9_limit 31 = .ok (.i2l, 1) := by decide +kernel
theorem dX9_limit_32 : decode cX9_limit 32 = .ok (.lreturn, 1) := by decide +kernel
set_option maxRecDepth 20000 in
theorem ggX9_tell_X9_finding : GoodIn wsX9_tell wsX9_finding := goodIn_r _ [8, 9, 10, 11, 12, 13, 14, 15, 16, 17, 18, 19, 20, 21, 22, 23, 24, 25, 26, 27, 28, 29, 30, 31, 32, 33, 34, 35, 36, 37, 38, 39, 40, 41, 42, 43] (by decide +kernel) (by decide +kernel)
set_option maxRecDepth 20000 in
theorem gX9_tell_X9_finding : GoodIn wsX9_tell (wsV RX9 111 RX9 yX9_finding wsX9_finding) := goodIn_app (goodIn_of _ (by decide +kernel)) ggX9_tell_X9_finding
theorem dX9_tell_0 : decode cX9_tell 0 = .ok (.aload_n 0, 1) := by decide +kernel
theorem dX9_tell_1 : decode cX9_tell 1 = .ok (.getfield 251, 3) := by decide +kernel
theorem dX9_tell_4 : decode cX9_tell 4 = .ok (.bipush 20, 2) := by decide +kernel
theorem dX9_tell_6 : decode cX9_tell 6 = .ok (.if_icmp .ne 11, 3) := by decide +kernel
theorem dX9_tell_9 : decode cX9_tell 9 = .ok (.aload_n 0, 1) := by decide +kernel
theorem dX9_tell_10 : decode cX9_tell 10 = .ok (.ldc2_w 115, 3) := by decide +kernel
theorem dX9_tell_13 : decode cX9_tell 13 = .ok (.invokevirtual 111, 3) := by decide +kernel
theorem dX9_tell_16 : decode cX9_tell 16 = .ok (.lreturn, 1) := by decide +kernel
theorem dX9_tell_17 : decode cX9_tell 17 = .ok (.aload_n 0, 1) := by decide +kernel
theorem dX9_tell_18 : decode cX9_tell 18 = .ok (.getfield 68, 3) := by decide +kernel
theorem dX9_tell_21 : decode cX9_tell 21 = .ok (.aload_n 0, 1) := by decide +kernel
theorem dX9_tell_22 : decode cX9_tell 22 = .ok (.getfield 251, 3) := by decide +kernel
theorem dX9_tell_25 : decode cX9_tell 25 = .ok (.iload_n 1, 1) := by decide +kernel
theorem dX9_tell_26 : decode cX9_tell 26 = .ok (.iastore, 1) := by decide +kernel
theorem dX9_tell_27 : decode cX9_tell 27 = .ok (.aload_n 0, 1) := by decide +kernel
theorem dX9_tell_28 : decode cX9_tell 28 = .ok (.dup, 1) := by decide +kernel
theorem dX9_tell_29 : decode cX9_tell 29 = .ok (.getfield 251, 3) := by decide +kernel
theorem dX9_tell_32 : decode cX9_tell 32 = .ok (.iconst 1, 1) := by decide +kernel
theorem dX9_tell_33 : decode cX9_tell 33 = .ok (.iadd, 1) := by decide +kernel
theorem dX9_tell_34 : decode cX9_tell 34 = .ok (.putfield 251, 3) := by decide +kernel
theorem dX9_tell_37 : decode cX9_tell 37 = .ok (.aload_n 0, 1) := by decide +kernel
theorem dX9_tell_38 : decode cX9_tell 38 = .ok (.getfield 251, 3) := by decide +kernel
theorem dX9_tell_41 : decode cX9_tell 41 = .ok (.i2l, 1) := by decide +kernel
theorem dX9_tell_42 : decode cX9_tell 42 = .ok (.lreturn, 1) := by decide +kernel
set_option maxRecDepth 20000 in
theorem ggX9_check_X9_plan : GoodIn wsX9_check wsX9_plan := goodIn_r _ [11, 2, 12, 4, 13, 5, 14, 15, 16, 17, 10, 18, 19, 20, 21, 22, 23, 24, 25, 26, 27, 28, 29, 30, 31, 32, 33, 34, 35, 36, 37, 38, 39, 40, 41, 42, 43, 44, 45, 46, 47, 48, 49, 50, 51, 52, 53, 54, 55, 56, 57, 58, 59, 60, 61, 62, 63, 64, 65, 66, 67, 68, 69, 70, 71, 72, 73, 74, 75, 76, 77, 78, 79, 80, 81, 82, 83, 84, 85, 86, 87] (by decide +kernel) (by decide +kernel)
set_option maxRecDepth 20000 in
theorem gX9_check_X9_plan : GoodIn wsX9_check (wsV RX9 209 RX9 yX9_plan wsX9_plan) := goodIn_app (goodIn_of _ (by decide +kernel)) ggX9_check_X9_plan
set_option maxRecDepth 20000 in
theorem ggX9_check_X9_playersOf : GoodIn wsX9_check wsX9_playersOf := goodIn_r _ [25, 12, 26, 55, 56, 57, 58, 59, 60, 61, 62, 63, 64, 65, 66, 67, 68, 69, 70, 71, 72, 73, 74, 75, 76, 77, 78, 79, 80, 81, 82, 83, 84, 85, 86, 87] (by decide +kernel) (by decide +kernel)
set_option maxRecDepth 20000 in
theorem gX9_check_X9_playersOf : GoodIn wsX9_check (wsV RX9 182 RX9 yX9_playersOf wsX9_playersOf) := goodIn_app (goodIn_of _ (by decide +kernel)) ggX9_check_X9_playersOf
theorem dX9_check_0 : decode cX9_check 0 = .ok (.aload_n 0, 1) := by decide +kernel
theorem dX9_check_1 : decode cX9_check 1 = .ok (.getfield 251, 3) := by decide +kernel
theorem dX9_check_4 : decode cX9_check 4 = .ok (.istore_n 1, 1) := by decide +kernel
theorem dX9_check_5 : decode cX9_check 5 = .ok (.aload_n 0, 1) := by decide +kernel
theorem dX9_check_6 : decode cX9_check 6 = .ok (.iconst 0, 1) := by decide +kernel
theorem dX9_check_7 : decode cX9_check 7 = .ok (.putfield 251, 3) := by decide +kernel
theorem dX9_check_10 : decode cX9_check 10 = .ok (.aload_n 0, 1) := by decide +kernel
theorem dX9_check_11 : decode cX9_check 11 = .ok (.invokevirtual 209, 3) := by decide +kernel
theorem dX9_check_14 : decode cX9_check 14 = .ok (.iconst 0, 1) := by decide +kernel
theorem dX9_check_15 : decode cX9_check 15 = .ok (.istore_n 2, 1) := by decide +kernel
theorem dX9_check_16 : decode cX9_check 16 = .ok (.iload_n 2, 1) := by decide +kernel
theorem dX9_check_17 : decode cX9_check 17 = .ok (.aload_n 0, 1) := by decide +kernel
theorem dX9_check_18 : decode cX9_check 18 = .ok (.getfield 202, 3) := by decide +kernel
theorem dX9_check_21 : decode cX9_check 21 = .ok (.if_icmp .ge 77, 3) := by decide +kernel
theorem dX9_check_24 : decode cX9_check 24 = .ok (.iconst 2, 1) := by decide +kernel
theorem dX9_check_25 : decode cX9_check 25 = .ok (.iload_n 2, 1) := by decide +kernel
theorem dX9_check_26 : decode cX9_check 26 = .ok (.imul, 1) := by decide +kernel
theorem dX9_check_27 : decode cX9_check 27 = .ok (.iconst 1, 1) := by decide +kernel
theorem dX9_check_28 : decode cX9_check 28 = .ok (.iadd, 1) := by decide +kernel
theorem dX9_check_29 : decode cX9_check 29 = .ok (.iload_n 1, 1) := by decide +kernel
theorem dX9_check_30 : decode cX9_check 30 = .ok (.if_icmp .ge 51, 3) := by decide +kernel
theorem dX9_check_33 : decode cX9_check 33 = .ok (.aload_n 0, 1) := by decide +kernel
theorem dX9_check_34 : decode cX9_check 34 = .ok (.getfield 68, 3) := by decide +kernel
theorem dX9_check_37 : decode cX9_check 37 = .ok (.iconst 2, 1) := by decide +kernel
theorem dX9_check_38 : decode cX9_check 38 = .ok (.iload_n 2, 1) := by decide +kernel
theorem dX9_check_39 : decode cX9_check 39 = .ok (.imul, 1) := by decide +kernel
theorem dX9_check_40 : decode cX9_check 40 = .ok (.iaload, 1) := by decide +kernel
theorem dX9_check_41 : decode cX9_check 41 = .ok (.aload_n 0, 1) := by decide +kernel
theorem dX9_check_42 : decode cX9_check 42 = .ok (.aload_n 0, 1) := by decide +kernel
theorem dX9_check_43 : decode cX9_check 43 = .ok (.getfield 80, 3) := by decide +kernel
theorem dX9_check_46 : decode cX9_check 46 = .ok (.iload_n 2, 1) := by decide +kernel
theorem dX9_check_47 : decode cX9_check 47 = .ok (.iaload, 1) := by decide +kernel
theorem dX9_check_48 : decode cX9_check 48 = .ok (.invokevirtual 182, 3) := by decide +kernel
theorem dX9_check_51 : decode cX9_check 51 = .ok (.if_icmp .ne 30, 3) := by decide +kernel
theorem dX9_check_54 : decode cX9_check 54 = .ok (.aload_n 0, 1) := by decide +kernel
theorem dX9_check_55 : decode cX9_check 55 = .ok (.getfield 68, 3) := by decide +kernel
theorem dX9_check_58 : decode cX9_check 58 = .ok (.iconst 2, 1) := by decide +kernel
theorem dX9_check_59 : decode cX9_check 59 = .ok (.iload_n 2, 1) := by decide +kernel
theorem dX9_check_60 : decode cX9_check 60 = .ok (.imul, 1) := by decide +kernel
theorem dX9_check_61 : decode cX9_check 61 = .ok (.iconst 1, 1) := by decide +kernel
theorem dX9_check_62 : decode cX9_check 62 = .ok (.iadd, 1) := by decide +kernel
theorem dX9_check_63 : decode cX9_check 63 = .ok (.iaload, 1) := by decide +kernel
theorem dX9_check_64 : decode cX9_check 64 = .ok (.aload_n 0, 1) := by decide +kernel
theorem dX9_check_65 : decode cX9_check 65 = .ok (.aload_n 0, 1) := by decide +kernel
theorem dX9_check_66 : decode cX9_check 66 = .ok (.getfield 83, 3) := by decide +kernel
theorem dX9_check_69 : decode cX9_check 69 = .ok (.iload_n 2, 1) := by decide +kernel
theorem dX9_check_70 : decode cX9_check 70 = .ok (.iaload, 1) := by decide +kernel
theorem dX9_check_71 : decode cX9_check 71 = .ok (.invokevirtual 182, 3) := by decide +kernel
theorem dX9_check_74 : decode cX9_check 74 = .ok (.if_icmp .ne 7, 3) := by decide +kernel
theorem dX9_check_77 : decode cX9_check 77 = .ok (.iconst 1, 1) := by decide +kernel
theorem dX9_check_78 : decode cX9_check 78 = .ok (.goto 4, 3) := by decide +kernel
theorem dX9_check_81 : decode cX9_check 81 = .ok (.iconst 0, 1) := by decide +kernel
theorem dX9_check_82 : decode cX9_check 82 = .ok (.istore_n 3, 1) := by decide +kernel
theorem dX9_check_83 : decode cX9_check 83 = .ok (.iload_n 3, 1) := by decide +kernel
theorem dX9_check_84 : decode cX9_check 84 = .ok (.ifCond .ne 8, 3) := by decide +kernel
theorem dX9_check_87 : decode cX9_check 87 = .ok (.lconst 1, 1) := by decide +kernel
theorem dX9_check_88 : decode cX9_check 88 = .ok (.iload_n 2, 1) := by decide +kernel
theorem dX9_check_89 : decode cX9_check 89 = .ok (.i2l, 1) := by decide +kernel
theorem dX9_check_90 : decode cX9_check 90 = .ok (.ladd, 1) := by decide +kernel
theorem dX9_check_91 : decode cX9_check 91 = .ok (.lreturn, 1) := by decide +kernel
theorem dX9_check_92 : decode cX9_check 92 = .ok (.iinc 2 1, 3) := by decide +kernel
theorem dX9_check_95 : decode cX9_check 95 = .ok (.goto (-79), 3) := by decide +kernel
theorem dX9_check_98 : decode cX9_check 98 = .ok (.iload_n 1, 1) := by decide +kernel
theorem dX9_check_99 : decode cX9_check 99 = .ok (.iconst 2, 1) := by decide +kernel
theorem dX9_check_100 : decode cX9_check 100 = .ok (.aload_n 0, 1) := by decide +kernel
theorem dX9_check_101 : decode cX9_check 101 = .ok (.getfield 202, 3) := by decide +kernel
theorem dX9_check_104 : decode cX9_check 104 = .ok (.imul, 1) := by decide +kernel
theorem dX9_check_105 : decode cX9_check 105 = .ok (.if_icmp .le 9, 3) := by decide +kernel
theorem dX9_check_108 : decode cX9_check 108 = .ok (.ldc2_w 254, 3) := by decide +kernel
theorem dX9_check_111 : decode cX9_check 111 = .ok (.goto 4, 3) := by decide +kernel
theorem dX9_check_114 : decode cX9_check 114 = .ok (.lconst 0, 1) := by decide +kernel
theorem dX9_check_115 : decode cX9_check 115 = .ok (.lreturn, 1) := by decide +kernel
set_option maxRecDepth 20000 in
theorem ggX9_count_X9_playing : GoodIn wsX9_count wsX9_playing := goodIn_r _ [12, 13, 20, 21, 22, 23, 24, 25, 26, 27, 28, 29, 30, 31, 32, 33, 34, 35, 36, 37, 38, 39, 40, 41, 42, 43, 44, 45, 46, 47, 48, 49, 50, 51, 52] (by decide +kernel) (by decide +kernel)
set_option maxRecDepth 20000 in
theorem gX9_count_X9_playing : GoodIn wsX9_count (wsV RX9 205 RX9 yX9_playing wsX9_playing) := goodIn_app (goodIn_of _ (by decide +kernel)) ggX9_count_X9_playing
set_option maxRecDepth 20000 in
theorem ggX9_count_X9_finding : GoodIn wsX9_count wsX9_finding := goodIn_r _ [17, 18, 19, 20, 21, 22, 23, 24, 25, 26, 27, 28, 29, 30, 31, 32, 33, 34, 35, 36, 37, 38, 39, 40, 41, 42, 43, 44, 45, 46, 47, 48, 49, 50, 51, 52] (by decide +kernel) (by decide +kernel)
set_option maxRecDepth 20000 in
theorem gX9_count_X9_finding : GoodIn wsX9_count (wsV RX9 111 RX9 yX9_finding wsX9_finding) := goodIn_app (goodIn_of _ (by decide +kernel)) ggX9_count_X9_finding
theorem dX9_count_0 : decode cX9_count 0 = .ok (.iload_n 1, 1) := by decide +kernel
theorem dX9_count_1 : decode cX9_count 1 = .ok (.tableswitch 85 0 6 #[43, 49, 55, 61, 67, 73, 79], 43) := by decide +kernel
theorem dX9_count_44 : decode cX9_count 44 = .ok (.aload_n 0, 1) := by decide +kernel
theorem dX9_count_45 : decode cX9_count 45 = .ok (.getfield 94, 3) := by decide +kernel
theorem dX9_count_48 : decode cX9_count 48 = .ok (.i2l, 1) := by decide +kernel
theorem dX9_count_49 : decode cX9_count 49 = .ok (.lreturn, 1) := by decide +kernel
theorem dX9_count_50 : decode cX9_count 50 = .ok (.aload_n 0, 1) := by decide +kernel
theorem dX9_count_51 : decode cX9_count 51 = .ok (.getfield 89, 3) := by decide +kernel
theorem dX9_count_54 : decode cX9_count 54 = .ok (.i2l, 1) := by decide +kernel
theorem dX9_count_55 : decode cX9_count 55 = .ok (.lreturn, 1) := by decide +kernel
theorem dX9_count_56 : decode cX9_count 56 = .ok (.aload_n 0, 1) := by decide +kernel
theorem dX9_count_57 : decode cX9_count 57 = .ok (.getfield 159, 3) := by decide +kernel
theorem dX9_count_60 : decode cX9_count 60 = .ok (.i2l, 1) := by decide +kernel
theorem dX9_count_61 : decode cX9_count 61 = .ok (.lreturn, 1) := by decide +kernel
theorem dX9_count_62 : decode cX9_count 62 = .ok (.aload_n 0, 1) := by decide +kernel
theorem dX9_count_63 : decode cX9_count 63 = .ok (.invokevirtual 205, 3) := by decide +kernel
theorem dX9_count_66 : decode cX9_count 66 = .ok (.i2l, 1) := by decide +kernel
theorem dX9_count_67 : decode cX9_count 67 = .ok (.lreturn, 1) := by decide +kernel
theorem dX9_count_68 : decode cX9_count 68 = .ok (.aload_n 0, 1) := by decide +kernel
theorem dX9_count_69 : decode cX9_count 69 = .ok (.getfield 237, 3) := by decide +kernel
theorem dX9_count_72 : decode cX9_count 72 = .ok (.i2l, 1) := by decide +kernel
theorem dX9_count_73 : decode cX9_count 73 = .ok (.lreturn, 1) := by decide +kernel
theorem dX9_count_74 : decode cX9_count 74 = .ok (.aload_n 0, 1) := by decide +kernel
theorem dX9_count_75 : decode cX9_count 75 = .ok (.getfield 251, 3) := by decide +kernel
theorem dX9_count_78 : decode cX9_count 78 = .ok (.i2l, 1) := by decide +kernel
theorem dX9_count_79 : decode cX9_count 79 = .ok (.lreturn, 1) := by decide +kernel
theorem dX9_count_80 : decode cX9_count 80 = .ok (.aload_n 0, 1) := by decide +kernel
theorem dX9_count_81 : decode cX9_count 81 = .ok (.getfield 26, 3) := by decide +kernel
theorem dX9_count_84 : decode cX9_count 84 = .ok (.i2l, 1) := by decide +kernel
theorem dX9_count_85 : decode cX9_count 85 = .ok (.lreturn, 1) := by decide +kernel
theorem dX9_count_86 : decode cX9_count 86 = .ok (.aload_n 0, 1) := by decide +kernel
theorem dX9_count_87 : decode cX9_count 87 = .ok (.ldc2_w 109, 3) := by decide +kernel
theorem dX9_count_90 : decode cX9_count 90 = .ok (.invokevirtual 111, 3) := by decide +kernel
theorem dX9_count_93 : decode cX9_count 93 = .ok (.lreturn, 1) := by decide +kernel
set_option maxRecDepth 20000 in
theorem ggX9_found_X9_in : GoodIn wsX9_found wsX9_in := goodIn_r _ [7] (by decide +kernel) (by decide +kernel)
set_option maxRecDepth 20000 in
theorem gX9_found_X9_in : GoodIn wsX9_found (va_wsS RX9 97 yX9_in wsX9_in) := goodIn_app (goodIn_of _ (by decide +kernel)) ggX9_found_X9_in
set_option maxRecDepth 20000 in
theorem ggX9_found_X9_finding : GoodIn wsX9_found wsX9_finding := goodIn_r _ [11, 2, 12, 13, 14, 15, 16, 17, 18, 19, 20, 21, 22, 23, 24, 25, 26, 27, 28, 29, 30, 31, 32, 33, 34, 35, 36, 37, 38, 39, 40, 41, 42, 43, 44, 45] (by decide +kernel) (by decide +kernel)
set_option maxRecDepth 20000 in
theorem gX9_found_X9_finding : GoodIn wsX9_found (wsV RX9 111 RX9 yX9_finding wsX9_finding) := goodIn_app (goodIn_of _ (by decide +kernel)) ggX9_found_X9_finding
theorem dX9_found_0 : decode cX9_found 0 = .ok (.iload_n 1, 1) := by decide +kernel
theorem dX9_found_1 : decode cX9_found 1 = .ok (.i2l, 1) := by decide +kernel
theorem dX9_found_2 : decode cX9_found 2 = .ok (.lconst 1, 1) := by decide +kernel
theorem dX9_found_3 : decode cX9_found 3 = .ok (.ldc2_w 256, 3) := by decide +kernel
theorem dX9_found_6 : decode cX9_found 6 = .ok (.invokestatic 97, 3) := by decide +kernel
theorem dX9_found_9 : decode cX9_found 9 = .ok (.ifCond .eq 13, 3) := by decide +kernel
theorem dX9_found_12 : decode cX9_found 12 = .ok (.aload_n 0, 1) := by decide +kernel
theorem dX9_found_13 : decode cX9_found 13 = .ok (.getfield 9, 3) := by decide +kernel
theorem dX9_found_16 : decode cX9_found 16 = .ok (.iload_n 1, 1) := by decide +kernel
theorem dX9_found_17 : decode cX9_found 17 = .ok (.iaload, 1) := by decide +kernel
theorem dX9_found_18 : decode cX9_found 18 = .ok (.i2l, 1) := by decide +kernel
theorem dX9_found_19 : decode cX9_found 19 = .ok (.goto 10, 3) := by decide +kernel
theorem dX9_found_22 : decode cX9_found 22 = .ok (.aload_n 0, 1) := by decide +kernel
theorem dX9_found_23 : decode cX9_found 23 = .ok (.ldc2_w 109, 3) := by decide +kernel
theorem dX9_found_26 : decode cX9_found 26 = .ok (.invokevirtual 111, 3) := by decide +kernel
theorem dX9_found_29 : decode cX9_found 29 = .ok (.lreturn, 1) := by decide +kernel
theorem dJ6_bitCount_0f7a4_0 : decode cJ6_bitCount_0f7a4 0 = .ok (.iload_n 0, 1) := by decide +kernel
theorem dJ6_bitCount_0f7a4_1 : decode cJ6_bitCount_0f7a4 1 = .ok (.iload_n 0, 1) := by decide +kernel
theorem dJ6_bitCount_0f7a4_2 : decode cJ6_bitCount_0f7a4 2 = .ok (.iconst 1, 1) := by decide +kernel
theorem dJ6_bitCount_0f7a4_3 : decode cJ6_bitCount_0f7a4 3 = .ok (.iushr, 1) := by decide +kernel
theorem dJ6_bitCount_0f7a4_4 : decode cJ6_bitCount_0f7a4 4 = .ok (.ldc_w 265, 3) := by decide +kernel
theorem dJ6_bitCount_0f7a4_7 : decode cJ6_bitCount_0f7a4 7 = .ok (.iand, 1) := by decide +kernel
theorem dJ6_bitCount_0f7a4_8 : decode cJ6_bitCount_0f7a4 8 = .ok (.isub, 1) := by decide +kernel
theorem dJ6_bitCount_0f7a4_9 : decode cJ6_bitCount_0f7a4 9 = .ok (.istore_n 0, 1) := by decide +kernel
theorem dJ6_bitCount_0f7a4_10 : decode cJ6_bitCount_0f7a4 10 = .ok (.iload_n 0, 1) := by decide +kernel
theorem dJ6_bitCount_0f7a4_11 : decode cJ6_bitCount_0f7a4 11 = .ok (.ldc_w 266, 3) := by decide +kernel
theorem dJ6_bitCount_0f7a4_14 : decode cJ6_bitCount_0f7a4 14 = .ok (.iand, 1) := by decide +kernel
theorem dJ6_bitCount_0f7a4_15 : decode cJ6_bitCount_0f7a4 15 = .ok (.iload_n 0, 1) := by decide +kernel
theorem dJ6_bitCount_0f7a4_16 : decode cJ6_bitCount_0f7a4 16 = .ok (.iconst 2, 1) := by decide +kernel
theorem dJ6_bitCount_0f7a4_17 : decode cJ6_bitCount_0f7a4 17 = .ok (.iushr, 1) := by decide +kernel
theorem dJ6_bitCount_0f7a4_18 : decode cJ6_bitCount_0f7a4 18 = .ok (.ldc_w 266, 3) := by decide +kernel
theorem dJ6_bitCount_0f7a4_21 : decode cJ6_bitCount_0f7a4 21 = .ok (.iand, 1) := by decide +kernel
theorem dJ6_bitCount_0f7a4_22 : decode cJ6_bitCount_0f7a4 22 = .ok (.iadd, 1) := by decide +kernel
theorem dJ6_bitCount_0f7a4_23 : decode cJ6_bitCount_0f7a4 23 = .ok (.istore_n 0, 1) := by decide +kernel
theorem dJ6_bitCount_0f7a4_24 : decode cJ6_bitCount_0f7a4 24 = .ok (.iload_n 0, 1) := by decide +kernel
theorem dJ6_bitCount_0f7a4_25 : decode cJ6_bitCount_0f7a4 25 = .ok (.iload_n 0, 1) := by decide +kernel
theorem dJ6_bitCount_0f7a4_26 : decode cJ6_bitCount_0f7a4 26 = .ok (.iconst 4, 1) := by decide +kernel
theorem dJ6_bitCount_0f7a4_27 : decode cJ6_bitCount_0f7a4 27 = .ok (.iushr, 1) := by decide +kernel
theorem dJ6_bitCount_0f7a4_28 : decode cJ6_bitCount_0f7a4 28 = .ok (.iadd, 1) := by decide +kernel
theorem dJ6_bitCount_0f7a4_29 : decode cJ6_bitCount_0f7a4 29 = .ok (.ldc_w 267, 3) := by decide +kernel
theorem dJ6_bitCount_0f7a4_32 : decode cJ6_bitCount_0f7a4 32 = .ok (.iand, 1) := by decide +kernel
theorem dJ6_bitCount_0f7a4_33 : decode cJ6_bitCount_0f7a4 33 = .ok (.istore_n 0, 1) := by decide +kernel
theorem dJ6_bitCount_0f7a4_34 : decode cJ6_bitCount_0f7a4 34 = .ok (.iload_n 0, 1) := by decide +kernel
theorem dJ6_bitCount_0f7a4_35 : decode cJ6_bitCount_0f7a4 35 = .ok (.iload_n 0, 1) := by decide +kernel
theorem dJ6_bitCount_0f7a4_36 : decode cJ6_bitCount_0f7a4 36 = .ok (.bipush 8, 2) := by decide +kernel
theorem dJ6_bitCount_0f7a4_38 : decode cJ6_bitCount_0f7a4 38 = .ok (.iushr, 1) := by decide +kernel
theorem dJ6_bitCount_0f7a4_39 : decode cJ6_bitCount_0f7a4 39 = .ok (.iadd, 1) := by decide +kernel
theorem dJ6_bitCount_0f7a4_40 : decode cJ6_bitCount_0f7a4 40 = .ok (.istore_n 0, 1) := by decide +kernel
theorem dJ6_bitCount_0f7a4_41 : decode cJ6_bitCount_0f7a4 41 = .ok (.iload_n 0, 1) := by decide +kernel
theorem dJ6_bitCount_0f7a4_42 : decode cJ6_bitCount_0f7a4 42 = .ok (.iload_n 0, 1) := by decide +kernel
theorem dJ6_bitCount_0f7a4_43 : decode cJ6_bitCount_0f7a4 43 = .ok (.bipush 16, 2) := by decide +kernel
theorem dJ6_bitCount_0f7a4_45 : decode cJ6_bitCount_0f7a4 45 = .ok (.iushr, 1) := by decide +kernel
theorem dJ6_bitCount_0f7a4_46 : decode cJ6_bitCount_0f7a4 46 = .ok (.iadd, 1) := by decide +kernel
theorem dJ6_bitCount_0f7a4_47 : decode cJ6_bitCount_0f7a4 47 = .ok (.istore_n 0, 1) := by decide +kernel
theorem dJ6_bitCount_0f7a4_48 : decode cJ6_bitCount_0f7a4 48 = .ok (.iload_n 0, 1) := by decide +kernel
theorem dJ6_bitCount_0f7a4_49 : decode cJ6_bitCount_0f7a4 49 = .ok (.bipush 63, 2) := by decide +kernel
theorem dJ6_bitCount_0f7a4_51 : decode cJ6_bitCount_0f7a4 51 = .ok (.iand, 1) := by decide +kernel
theorem dJ6_bitCount_0f7a4_52 : decode cJ6_bitCount_0f7a4 52 = .ok (.ireturn, 1) := by decide +kernel
theorem dJ9_abs_067f4_0 : decode cJ9_abs_067f4 0 = .ok (.lload_n 0, 1) := by decide +kernel
theorem dJ9_abs_067f4_1 : decode cJ9_abs_067f4 1 = .ok (.lconst 0, 1) := by decide +kernel
theorem dJ9_abs_067f4_2 : decode cJ9_abs_067f4 2 = .ok (.lcmp, 1) := by decide +kernel
theorem dJ9_abs_067f4_3 : decode cJ9_abs_067f4 3 = .ok (.ifCond .ge 8, 3) := by decide +kernel
theorem dJ9_abs_067f4_6 : decode cJ9_abs_067f4 6 = .ok (.lload_n 0, 1) := by decide +kernel
theorem dJ9_abs_067f4_7 : decode cJ9_abs_067f4 7 = .ok (.lneg, 1) := by decide +kernel
theorem dJ9_abs_067f4_8 : decode cJ9_abs_067f4 8 = .ok (.goto 4, 3) := by decide +kernel
theorem dJ9_abs_067f4_11 : decode cJ9_abs_067f4 11 = .ok (.lload_n 0, 1) := by decide +kernel
theorem dJ9_abs_067f4_12 : decode cJ9_abs_067f4 12 = .ok (.lreturn, 1) := by decide +kernel
theorem dJ9_min_7cf53_0 : decode cJ9_min_7cf53 0 = .ok (.iload_n 0, 1) := by decide +kernel
theorem dJ9_min_7cf53_1 : decode cJ9_min_7cf53 1 = .ok (.iload_n 1, 1) := by decide +kernel
theorem dJ9_min_7cf53_2 : decode cJ9_min_7cf53 2 = .ok (.if_icmp .gt 7, 3) := by decide +kernel
theorem dJ9_min_7cf53_5 : decode cJ9_min_7cf53 5 = .ok (.iload_n 0, 1) := by decide +kernel
theorem dJ9_min_7cf53_6 : decode cJ9_min_7cf53 6 = .ok (.goto 4, 3) := by decide +kernel
theorem dJ9_min_7cf53_9 : decode cJ9_min_7cf53 9 = .ok (.iload_n 1, 1) := by decide +kernel
theorem dJ9_min_7cf53_10 : decode cJ9_min_7cf53 10 = .ok (.ireturn, 1) := by decide +kernel
theorem dJ9_min_f86c9_0 : decode cJ9_min_f86c9 0 = .ok (.lload_n 0, 1) := by decide +kernel
theorem dJ9_min_f86c9_1 : decode cJ9_min_f86c9 1 = .ok (.lload_n 2, 1) := by decide +kernel
theorem dJ9_min_f86c9_2 : decode cJ9_min_f86c9 2 = .ok (.lcmp, 1) := by decide +kernel
theorem dJ9_min_f86c9_3 : decode cJ9_min_f86c9 3 = .ok (.ifCond .gt 7, 3) := by decide +kernel
theorem dJ9_min_f86c9_6 : decode cJ9_min_f86c9 6 = .ok (.lload_n 0, 1) := by decide +kernel
theorem dJ9_min_f86c9_7 : decode cJ9_min_f86c9 7 = .ok (.goto 4, 3) := by decide +kernel
theorem dJ9_min_f86c9_10 : decode cJ9_min_f86c9 10 = .ok (.lload_n 2, 1) := by decide +kernel
theorem dJ9_min_f86c9_11 : decode cJ9_min_f86c9 11 = .ok (.lreturn, 1) := by decide +kernel
