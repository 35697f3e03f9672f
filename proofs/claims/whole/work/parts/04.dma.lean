theorem dX9_init_0 : decode cX9_init 0 = .ok (.aload_n 0, 1) := by decide +kernel
theorem dX9_init_1 : decode cX9_init 1 = .ok (.invokespecial 3, 3) := by decide +kernel
theorem dX9_init_4 : decode cX9_init 4 = .ok (.aload_n 0, 1) := by decide +kernel
theorem dX9_init_5 : decode cX9_init 5 = .ok (.bipush 6, 2) := by decide +kernel
theorem dX9_init_7 : decode cX9_init 7 = .ok (.newarray .int, 2) := by decide +kernel
theorem dX9_init_9 : decode cX9_init 9 = .ok (.putfield 9, 3) := by decide +kernel
theorem dX9_init_12 : decode cX9_init 12 = .ok (.aload_n 0, 1) := by decide +kernel
theorem dX9_init_13 : decode cX9_init 13 = .ok (.bipush 16, 2) := by decide +kernel
theorem dX9_init_15 : decode cX9_init 15 = .ok (.newarray .int, 2) := by decide +kernel
theorem dX9_init_17 : decode cX9_init 17 = .ok (.putfield 13, 3) := by decide +kernel
theorem dX9_init_20 : decode cX9_init 20 = .ok (.aload_n 0, 1) := by decide +kernel
theorem dX9_init_21 : decode cX9_init 21 = .ok (.bipush 112, 2) := by decide +kernel
theorem dX9_init_23 : decode cX9_init 23 = .ok (.newarray .long, 2) := by decide +kernel
theorem dX9_init_25 : decode cX9_init 25 = .ok (.putfield 16, 3) := by decide +kernel
theorem dX9_init_28 : decode cX9_init 28 = .ok (.aload_n 0, 1) := by decide +kernel
theorem dX9_init_29 : decode cX9_init 29 = .ok (.sipush 128, 3) := by decide +kernel
theorem dX9_init_32 : decode cX9_init 32 = .ok (.newarray .long, 2) := by decide +kernel
theorem dX9_init_34 : decode cX9_init 34 = .ok (.putfield 20, 3) := by decide +kernel
theorem dX9_init_37 : decode cX9_init 37 = .ok (.aload_n 0, 1) := by decide +kernel
theorem dX9_init_38 : decode cX9_init 38 = .ok (.bipush 16, 2) := by decide +kernel
theorem dX9_init_40 : decode cX9_init 40 = .ok (.newarray .int, 2) := by decide +kernel
theorem dX9_init_42 : decode cX9_init 42 = .ok (.putfield 23, 3) := by decide +kernel
theorem dX9_init_45 : decode cX9_init 45 = .ok (.aload_n 0, 1) := by decide +kernel
theorem dX9_init_46 : decode cX9_init 46 = .ok (.iconst 2, 1) := by decide +kernel
theorem dX9_init_47 : decode cX9_init 47 = .ok (.putfield 26, 3) := by decide +kernel
theorem dX9_init_50 : decode cX9_init 50 = .ok (.aload_n 0, 1) := by decide +kernel
theorem dX9_init_51 : decode cX9_init 51 = .ok (.ldc 30, 2) := by decide +kernel
theorem dX9_init_53 : decode cX9_init 53 = .ok (.putfield 31, 3) := by decide +kernel
theorem dX9_init_56 : decode cX9_init 56 = .ok (.aload_n 0, 1) := by decide +kernel
theorem dX9_init_57 : decode cX9_init 57 = .ok (.ldc 34, 2) := by decide +kernel
theorem dX9_init_59 : decode cX9_init 59 = .ok (.putfield 35, 3) := by decide +kernel
theorem dX9_init_62 : decode cX9_init 62 = .ok (.aload_n 0, 1) := by decide +kernel
theorem dX9_init_63 : decode cX9_init 63 = .ok (.ldc 38, 2) := by decide +kernel
theorem dX9_init_65 : decode cX9_init 65 = .ok (.putfield 39, 3) := by decide +kernel
theorem dX9_init_68 : decode cX9_init 68 = .ok (.aload_n 0, 1) := by decide +kernel
theorem dX9_init_69 : decode cX9_init 69 = .ok (.bipush 10, 2) := by decide +kernel
theorem dX9_init_71 : decode cX9_init 71 = .ok (.newarray .int, 2) := by decide +kernel
theorem dX9_init_73 : decode cX9_init 73 = .ok (.putfield 42, 3) := by decide +kernel
theorem dX9_init_76 : decode cX9_init 76 = .ok (.aload_n 0, 1) := by decide +kernel
theorem dX9_init_77 : decode cX9_init 77 = .ok (.bipush 10, 2) := by decide +kernel
theorem dX9_init_79 : decode cX9_init 79 = .ok (.newarray .int, 2) := by decide +kernel
theorem dX9_init_81 : decode cX9_init 81 = .ok (.putfield 45, 3) := by decide +kernel
theorem dX9_init_84 : decode cX9_init 84 = .ok (.aload_n 0, 1) := by decide +kernel
theorem dX9_init_85 : decode cX9_init 85 = .ok (.iconst 5, 1) := by decide +kernel
theorem dX9_init_86 : decode cX9_init 86 = .ok (.newarray .boolean, 2) := by decide +kernel
theorem dX9_init_88 : decode cX9_init 88 = .ok (.putfield 48, 3) := by decide +kernel
theorem dX9_init_91 : decode cX9_init 91 = .ok (.aload_n 0, 1) := by decide +kernel
theorem dX9_init_92 : decode cX9_init 92 = .ok (.iconst 5, 1) := by decide +kernel
theorem dX9_init_93 : decode cX9_init 93 = .ok (.newarray .int, 2) := by decide +kernel
theorem dX9_init_95 : decode cX9_init 95 = .ok (.putfield 52, 3) := by decide +kernel
theorem dX9_init_98 : decode cX9_init 98 = .ok (.aload_n 0, 1) := by decide +kernel
theorem dX9_init_99 : decode cX9_init 99 = .ok (.iconst 5, 1) := by decide +kernel
theorem dX9_init_100 : decode cX9_init 100 = .ok (.newarray .int, 2) := by decide +kernel
theorem dX9_init_102 : decode cX9_init 102 = .ok (.putfield 55, 3) := by decide +kernel
theorem dX9_init_105 : decode cX9_init 105 = .ok (.aload_n 0, 1) := by decide +kernel
theorem dX9_init_106 : decode cX9_init 106 = .ok (.iconst 5, 1) := by decide +kernel
theorem dX9_init_107 : decode cX9_init 107 = .ok (.newarray .int, 2) := by decide +kernel
theorem dX9_init_109 : decode cX9_init 109 = .ok (.putfield 58, 3) := by decide +kernel
theorem dX9_init_112 : decode cX9_init 112 = .ok (.aload_n 0, 1) := by decide +kernel
theorem dX9_init_113 : decode cX9_init 113 = .ok (.iconst 5, 1) := by decide +kernel
theorem dX9_init_114 : decode cX9_init 114 = .ok (.newarray .int, 2) := by decide +kernel
theorem dX9_init_116 : decode cX9_init 116 = .ok (.putfield 61, 3) := by decide +kernel
theorem dX9_init_119 : decode cX9_init 119 = .ok (.aload_n 0, 1) := by decide +kernel
theorem dX9_init_120 : decode cX9_init 120 = .ok (.ldc 64, 2) := by decide +kernel
theorem dX9_init_122 : decode cX9_init 122 = .ok (.putfield 65, 3) := by decide +kernel
theorem dX9_init_125 : decode cX9_init 125 = .ok (.aload_n 0, 1) := by decide +kernel
theorem dX9_init_126 : decode cX9_init 126 = .ok (.bipush 20, 2) := by decide +kernel
theorem dX9_init_128 : decode cX9_init 128 = .ok (.newarray .int, 2) := by decide +kernel
theorem dX9_init_130 : decode cX9_init 130 = .ok (.putfield 68, 3) := by decide +kernel
theorem dX9_init_133 : decode cX9_init 133 = .ok (.aload_n 0, 1) := by decide +kernel
theorem dX9_init_134 : decode cX9_init 134 = .ok (.bipush 112, 2) := by decide +kernel
theorem dX9_init_136 : decode cX9_init 136 = .ok (.newarray .long, 2) := by decide +kernel
theorem dX9_init_138 : decode cX9_init 138 = .ok (.putfield 71, 3) := by decide +kernel
theorem dX9_init_141 : decode cX9_init 141 = .ok (.aload_n 0, 1) := by decide +kernel
theorem dX9_init_142 : decode cX9_init 142 = .ok (.sipush 1024, 3) := by decide +kernel
theorem dX9_init_145 : decode cX9_init 145 = .ok (.newarray .int, 2) := by decide +kernel
theorem dX9_init_147 : decode cX9_init 147 = .ok (.putfield 74, 3) := by decide +kernel
theorem dX9_init_150 : decode cX9_init 150 = .ok (.aload_n 0, 1) := by decide +kernel
theorem dX9_init_151 : decode cX9_init 151 = .ok (.sipush 1024, 3) := by decide +kernel
theorem dX9_init_154 : decode cX9_init 154 = .ok (.newarray .long, 2) := by decide +kernel
theorem dX9_init_156 : decode cX9_init 156 = .ok (.putfield 77, 3) := by decide +kernel
theorem dX9_init_159 : decode cX9_init 159 = .ok (.aload_n 0, 1) := by decide +kernel
theorem dX9_init_160 : decode cX9_init 160 = .ok (.iconst 5, 1) := by decide +kernel
theorem dX9_init_161 : decode cX9_init 161 = .ok (.newarray .int, 2) := by decide +kernel
theorem dX9_init_163 : decode cX9_init 163 = .ok (.putfield 80, 3) := by decide +kernel
theorem dX9_init_166 : decode cX9_init 166 = .ok (.aload_n 0, 1) := by decide +kernel
theorem dX9_init_167 : decode cX9_init 167 = .ok (.iconst 5, 1) := by decide +kernel
theorem dX9_init_168 : decode cX9_init 168 = .ok (.newarray .int, 2) := by decide +kernel
theorem dX9_init_170 : decode cX9_init 170 = .ok (.putfield 83, 3) := by decide +kernel
theorem dX9_init_173 : decode cX9_init 173 = .ok (.aload_n 0, 1) := by decide +kernel
theorem dX9_init_174 : decode cX9_init 174 = .ok (.bipush 7, 2) := by decide +kernel
theorem dX9_init_176 : decode cX9_init 176 = .ok (.newarray .long, 2) := by decide +kernel
theorem dX9_init_178 : decode cX9_init 178 = .ok (.putfield 86, 3) := by decide +kernel
theorem dX9_init_181 : decode cX9_init 181 = .ok (.aload_n 0, 1) := by decide +kernel
theorem dX9_init_182 : decode cX9_init 182 = .ok (.iconst 0, 1) := by decide +kernel
theorem dX9_init_183 : decode cX9_init 183 = .ok (.putfield 89, 3) := by decide +kernel
theorem dX9_init_186 : decode cX9_init 186 = .ok (.return_, 1) := by decide +kernel
theorem dX9_in_0 : decode cX9_in 0 = .ok (.lload_n 0, 1) := by decide +kernel
theorem dX9_in_1 : decode cX9_in 1 = .ok (.lload_n 2, 1) := by decide +kernel
theorem dX9_in_2 : decode cX9_in 2 = .ok (.lcmp, 1) := by decide +kernel
theorem dX9_in_3 : decode cX9_in 3 = .ok (.ifCond .lt 14, 3) := by decide +kernel
theorem dX9_in_6 : decode cX9_in 6 = .ok (.lload_n 0, 1) := by decide +kernel
theorem dX9_in_7 : decode cX9_in 7 = .ok (.lload 4, 2) := by decide +kernel
theorem dX9_in_9 : decode cX9_in 9 = .ok (.lcmp, 1) := by decide +kernel
theorem dX9_in_10 : decode cX9_in 10 = .ok (.ifCond .gt 7, 3) := by decide +kernel
theorem dX9_in_13 : decode cX9_in 13 = .ok (.iconst 1, 1) := by decide +kernel
theorem dX9_in_14 : decode cX9_in 14 = .ok (.goto 4, 3) := by decide +kernel
theorem dX9_in_17 : decode cX9_in 17 = .ok (.iconst 0, 1) := by decide +kernel
theorem dX9_in_18 : decode cX9_in 18 = .ok (.ireturn, 1) := by decide +kernel
theorem dX9_finding_0 : decode cX9_finding 0 = .ok (.aload_n 0, 1) := by decide +kernel
theorem dX9_finding_1 : decode cX9_finding 1 = .ok (.getfield 9, 3) := by decide +kernel
theorem dX9_finding_4 : decode cX9_finding 4 = .ok (.ldc2_w 92, 3) := by decide +kernel
theorem dX9_finding_7 : decode cX9_finding 7 = .ok (.lload_n 1, 1) := by decide +kernel
theorem dX9_finding_8 : decode cX9_finding 8 = .ok (.lsub, 1) := by decide +kernel
theorem dX9_finding_9 : decode cX9_finding 9 = .ok (.l2i, 1) := by decide +kernel
theorem dX9_finding_10 : decode cX9_finding 10 = .ok (.dup2, 1) := by decide +kernel
theorem dX9_finding_11 : decode cX9_finding 11 = .ok (.iaload, 1) := by decide +kernel
theorem dX9_finding_12 : decode cX9_finding 12 = .ok (.iconst 1, 1) := by decide +kernel
theorem dX9_finding_13 : decode cX9_finding 13 = .ok (.iadd, 1) := by decide +kernel
theorem dX9_finding_14 : decode cX9_finding 14 = .ok (.iastore, 1) := by decide +kernel
theorem dX9_finding_15 : decode cX9_finding 15 = .ok (.lload_n 1, 1) := by decide +kernel
theorem dX9_finding_16 : decode cX9_finding 16 = .ok (.lreturn, 1) := by decide +kernel
set_option maxRecDepth 20000 in
theorem ggX9_isPlayer_X9_in : GoodIn wsX9_isPlayer wsX9_in := goodIn_r _ [5] (by decide +kernel) (by decide +kernel)
set_option maxRecDepth 20000 in
theorem gX9_isPlayer_X9_in : GoodIn wsX9_isPlayer (va_wsS RX9 97 yX9_in wsX9_in) := goodIn_app (goodIn_of _ (by decide +kernel)) ggX9_isPlayer_X9_in
theorem dX9_isPlayer_0 : decode cX9_isPlayer 0 = .ok (.iload_n 1, 1) := by decide +kernel
theorem dX9_isPlayer_1 : decode cX9_isPlayer 1 = .ok (.i2l, 1) := by decide +kernel
theorem dX9_isPlayer_2 : decode cX9_isPlayer 2 = .ok (.lconst 0, 1) := by decide +kernel
theorem dX9_isPlayer_3 : decode cX9_isPlayer 3 = .ok (.aload_n 0, 1) := by decide +kernel
theorem dX9_isPlayer_4 : decode cX9_isPlayer 4 = .ok (.getfield 94, 3) := by decide +kernel
theorem dX9_isPlayer_7 : decode cX9_isPlayer 7 = .ok (.iconst 1, 1) := by decide +kernel
theorem dX9_isPlayer_8 : decode cX9_isPlayer 8 = .ok (.isub, 1) := by decide +kernel
theorem dX9_isPlayer_9 : decode cX9_isPlayer 9 = .ok (.i2l, 1) := by decide +kernel
theorem dX9_isPlayer_10 : decode cX9_isPlayer 10 = .ok (.invokestatic 97, 3) := by decide +kernel
theorem dX9_isPlayer_13 : decode cX9_isPlayer 13 = .ok (.ireturn, 1) := by decide +kernel
set_option maxRecDepth 20000 in
theorem ggX9_isLevel_X9_in : GoodIn wsX9_isLevel wsX9_in := goodIn_r _ [5] (by decide +kernel) (by decide +kernel)
set_option maxRecDepth 20000 in
theorem gX9_isLevel_X9_in : GoodIn wsX9_isLevel (va_wsS RX9 97 yX9_in wsX9_in) := goodIn_app (goodIn_of _ (by decide +kernel)) ggX9_isLevel_X9_in
theorem dX9_isLevel_0 : decode cX9_isLevel 0 = .ok (.iload_n 0, 1) := by decide +kernel
theorem dX9_isLevel_1 : decode cX9_isLevel 1 = .ok (.i2l, 1) := by decide +kernel
theorem dX9_isLevel_2 : decode cX9_isLevel 2 = .ok (.lconst 0, 1) := by decide +kernel
theorem dX9_isLevel_3 : decode cX9_isLevel 3 = .ok (.ldc2_w 101, 3) := by decide +kernel
theorem dX9_isLevel_6 : decode cX9_isLevel 6 = .ok (.invokestatic 97, 3) := by decide +kernel
theorem dX9_isLevel_9 : decode cX9_isLevel 9 = .ok (.ireturn, 1) := by decide +kernel
theorem dX9_ones_0 : decode cX9_ones 0 = .ok (.iconst 0, 1) := by decide +kernel
theorem dX9_ones_1 : decode cX9_ones 1 = .ok (.istore_n 1, 1) := by decide +kernel
theorem dX9_ones_2 : decode cX9_ones 2 = .ok (.iconst 0, 1) := by decide +kernel
theorem dX9_ones_3 : decode cX9_ones 3 = .ok (.istore_n 2, 1) := by decide +kernel
theorem dX9_ones_4 : decode cX9_ones 4 = .ok (.iload_n 2, 1) := by decide +kernel
theorem dX9_ones_5 : decode cX9_ones 5 = .ok (.bipush 16, 2) := by decide +kernel
theorem dX9_ones_7 : decode cX9_ones 7 = .ok (.if_icmp .ge 17, 3) := by decide +kernel
theorem dX9_ones_10 : decode cX9_ones 10 = .ok (.iload_n 1, 1) := by decide +kernel
theorem dX9_ones_11 : decode cX9_ones 11 = .ok (.iload_n 0, 1) := by decide +kernel
theorem dX9_ones_12 : decode cX9_ones 12 = .ok (.iload_n 2, 1) := by decide +kernel
theorem dX9_ones_13 : decode cX9_ones 13 = .ok (.ishr, 1) := by decide +kernel
theorem dX9_ones_14 : decode cX9_ones 14 = .ok (.iconst 1, 1) := by decide +kernel
theorem dX9_ones_15 : decode cX9_ones 15 = .ok (.iand, 1) := by decide +kernel
theorem dX9_ones_16 : decode cX9_ones 16 = .ok (.iadd, 1) := by decide +kernel
theorem dX9_ones_17 : decode cX9_ones 17 = .ok (.istore_n 1, 1) := by decide +kernel
theorem dX9_ones_18 : decode cX9_ones 18 = .ok (.iinc 2 1, 3) := by decide +kernel
theorem dX9_ones_21 : decode cX9_ones 21 = .ok (.goto (-17), 3) := by decide +kernel
theorem dX9_ones_24 : decode cX9_ones 24 = .ok (.iload_n 1, 1) := by decide +kernel
theorem dX9_ones_25 : decode cX9_ones 25 = .ok (.ireturn, 1) := by decide +kernel
theorem dX9_middle_0 : decode cX9_middle 0 = .ok (.iload_n 0, 1) := by decide +kernel
theorem dX9_middle_1 : decode cX9_middle 1 = .ok (.iconst 3, 1) := by decide +kernel
theorem dX9_middle_2 : decode cX9_middle 2 = .ok (.if_icmp .ne 9, 3) := by decide +kernel
theorem dX9_middle_5 : decode cX9_middle 5 = .ok (.ldc2_w 103, 3) := by decide +kernel
theorem dX9_middle_8 : decode cX9_middle 8 = .ok (.goto 6, 3) := by decide +kernel
theorem dX9_middle_11 : decode cX9_middle 11 = .ok (.ldc2_w 105, 3) := by decide +kernel
theorem dX9_middle_14 : decode cX9_middle 14 = .ok (.lreturn, 1) := by decide +kernel
set_option maxRecDepth 20000 in
theorem ggX9_player_X9_in : GoodIn wsX9_player wsX9_in := goodIn_r _ [10] (by decide +kernel) (by decide +kernel)
set_option maxRecDepth 20000 in
theorem gX9_player_X9_in : GoodIn wsX9_player (va_wsS RX9 97 yX9_in wsX9_in) := goodIn_app (goodIn_of _ (by decide +kernel)) ggX9_player_X9_in
set_option maxRecDepth 20000 in
theorem ggX9_player_X9_finding : GoodIn wsX9_player wsX9_finding := goodIn_r _ [14, 15, 16, 22, 23, 24, 25, 26, 27, 28, 29, 30, 31, 32, 33, 34, 35, 36, 37, 38, 39, 40, 41, 42, 43, 44, 45, 46, 47, 48, 49, 50, 51, 52, 53, 54] (by decide +kernel) (by decide +kernel)
set_option maxRecDepth 20000 in
theorem gX9_player_X9_finding : GoodIn wsX9_player (wsV RX9 111 RX9 yX9_finding wsX9_finding) := goodIn_app (goodIn_of _ (by decide +kernel)) ggX9_player_X9_finding
set_option maxRecDepth 20000 in
theorem ggX9_player_X9_middle : GoodIn wsX9_player wsX9_middle := goodIn_r _ [19, 20, 21] (by decide +kernel) (by decide +kernel)
set_option maxRecDepth 20000 in
theorem gX9_player_X9_middle : GoodIn wsX9_player (va_wsS RX9 117 yX9_middle wsX9_middle) := goodIn_app (goodIn_of _ (by decide +kernel)) ggX9_player_X9_middle
theorem dX9_player_0 : decode cX9_player 0 = .ok (.iload_n 1, 1) := by decide +kernel
theorem dX9_player_1 : decode cX9_player 1 = .ok (.i2l, 1) := by decide +kernel
theorem dX9_player_2 : decode cX9_player 2 = .ok (.lconst 0, 1) := by decide +kernel
theorem dX9_player_3 : decode cX9_player 3 = .ok (.ldc2_w 107, 3) := by decide +kernel
theorem dX9_player_6 : decode cX9_player 6 = .ok (.invokestatic 97, 3) := by decide +kernel
theorem dX9_player_9 : decode cX9_player 9 = .ok (.ifCond .ne 11, 3) := by decide +kernel
theorem dX9_player_12 : decode cX9_player 12 = .ok (.aload_n 0, 1) := by decide +kernel
theorem dX9_player_13 : decode cX9_player 13 = .ok (.ldc2_w 109, 3) := by decide +kernel
theorem dX9_player_16 : decode cX9_player 16 = .ok (.invokevirtual 111, 3) := by decide +kernel
theorem dX9_player_19 : decode cX9_player 19 = .ok (.lreturn, 1) := by decide +kernel
theorem dX9_player_20 : decode cX9_player 20 = .ok (.aload_n 0, 1) := by decide +kernel
theorem dX9_player_21 : decode cX9_player 21 = .ok (.getfield 94, 3) := by decide +kernel
theorem dX9_player_24 : decode cX9_player 24 = .ok (.bipush 16, 2) := by decide +kernel
theorem dX9_player_26 : decode cX9_player 26 = .ok (.if_icmp .ne 11, 3) := by decide +kernel
theorem dX9_player_29 : decode cX9_player 29 = .ok (.aload_n 0, 1) := by decide +kernel
theorem dX9_player_30 : decode cX9_player 30 = .ok (.ldc2_w 115, 3) := by decide +kernel
theorem dX9_player_33 : decode cX9_player 33 = .ok (.invokevirtual 111, 3) := by decide +kernel
theorem dX9_player_36 : decode cX9_player 36 = .ok (.lreturn, 1) := by decide +kernel
theorem dX9_player_37 : decode cX9_player 37 = .ok (.aload_n 0, 1) := by decide +kernel
theorem dX9_player_38 : decode cX9_player 38 = .ok (.getfield 13, 3) := by decide +kernel
theorem dX9_player_41 : decode cX9_player 41 = .ok (.aload_n 0, 1) := by decide +kernel
theorem dX9_player_42 : decode cX9_player 42 = .ok (.getfield 94, 3) := by decide +kernel
theorem dX9_player_45 : decode cX9_player 45 = .ok (.iload_n 1, 1) := by decide +kernel
theorem dX9_player_46 : decode cX9_player 46 = .ok (.iastore, 1) := by decide +kernel
theorem dX9_player_47 : decode cX9_player 47 = .ok (.iconst 0, 1) := by decide +kernel
theorem dX9_player_48 : decode cX9_player 48 = .ok (.istore_n 2, 1) := by decide +kernel
theorem dX9_player_49 : decode cX9_player 49 = .ok (.iload_n 2, 1) := by decide +kernel
theorem dX9_player_50 : decode cX9_player 50 = .ok (.bipush 7, 2) := by decide +kernel
theorem dX9_player_52 : decode cX9_player 52 = .ok (.if_icmp .ge 27, 3) := by decide +kernel
theorem dX9_player_55 : decode cX9_player 55 = .ok (.aload_n 0, 1) := by decide +kernel
theorem dX9_player_56 : decode cX9_player 56 = .ok (.getfield 16, 3) := by decide +kernel
theorem dX9_player_59 : decode cX9_player 59 = .ok (.bipush 7, 2) := by decide +kernel
theorem dX9_player_61 : decode cX9_player 61 = .ok (.aload_n 0, 1) := by decide +kernel
theorem dX9_player_62 : decode cX9_player 62 = .ok (.getfield 94, 3) := by decide +kernel
theorem dX9_player_65 : decode cX9_player 65 = .ok (.imul, 1) := by decide +kernel
theorem dX9_player_66 : decode cX9_player 66 = .ok (.iload_n 2, 1) := by decide +kernel
theorem dX9_player_67 : decode cX9_player 67 = .ok (.iadd, 1) := by decide +kernel
theorem dX9_player_68 : decode cX9_player 68 = .ok (.iload_n 2, 1) := by decide +kernel
theorem dX9_player_69 : decode cX9_player 69 = .ok (.invokestatic 117, 3) := by decide +kernel
theorem dX9_player_72 : decode cX9_player 72 = .ok (.lastore, 1) := by decide +kernel
theorem dX9_player_73 : decode cX9_player 73 = .ok (.iinc 2 1, 3) := by decide +kernel
theorem dX9_player_76 : decode cX9_player 76 = .ok (.goto (-27), 3) := by decide +kernel
theorem dX9_player_79 : decode cX9_player 79 = .ok (.aload_n 0, 1) := by decide +kernel
theorem dX9_player_80 : decode cX9_player 80 = .ok (.dup, 1) := by decide +kernel
theorem dX9_player_81 : decode cX9_player 81 = .ok (.getfield 94, 3) := by decide +kernel
theorem dX9_player_84 : decode cX9_player 84 = .ok (.iconst 1, 1) := by decide +kernel
theorem dX9_player_85 : decode cX9_player 85 = .ok (.iadd, 1) := by decide +kernel
theorem dX9_player_86 : decode cX9_player 86 = .ok (.putfield 94, 3) := by decide +kernel
theorem dX9_player_89 : decode cX9_player 89 = .ok (.aload_n 0, 1) := by decide +kernel
theorem dX9_player_90 : decode cX9_player 90 = .ok (.getfield 94, 3) := by decide +kernel
theorem dX9_player_93 : decode cX9_player 93 = .ok (.iconst 1, 1) := by decide +kernel
theorem dX9_player_94 : decode cX9_player 94 = .ok (.isub, 1) := by decide +kernel
theorem dX9_player_95 : decode cX9_player 95 = .ok (.i2l, 1) := by decide +kernel
theorem dX9_player_96 : decode cX9_player 96 = .ok (.lreturn, 1) := by decide +kernel
set_option maxRecDepth 20000 in
theorem ggX9_become_X9_isPlayer : GoodIn wsX9_become wsX9_isPlayer := goodIn_r _ [8, 9, 10, 11, 7, 12, 19, 20, 21, 22, 23, 24, 25, 26, 27, 28, 29, 30, 31, 32, 33, 34, 35, 36, 37, 38, 39, 40, 41, 42, 43, 44, 45, 46, 47, 48, 49, 50, 51] (by decide +kernel) (by decide +kernel)
set_option maxRecDepth 20000 in
theorem gX9_become_X9_isPlayer : GoodIn wsX9_become (wsV RX9 121 RX9 yX9_isPlayer wsX9_isPlayer) := goodIn_app (goodIn_of _ (by decide +kernel)) ggX9_become_X9_isPlayer
set_option maxRecDepth 20000 in
theorem ggX9_become_X9_in : GoodIn wsX9_become wsX9_in := goodIn_r _ [12] (by decide +kernel) (by decide +kernel)
set_option maxRecDepth 20000 in
theorem gX9_become_X9_in : GoodIn wsX9_become (va_wsS RX9 97 yX9_in wsX9_in) := goodIn_app (goodIn_of _ (by decide +kernel)) ggX9_become_X9_in
set_option maxRecDepth 20000 in
theorem ggX9_become_X9_finding : GoodIn wsX9_become wsX9_finding := goodIn_r _ [16, 17, 18, 19, 20, 21, 22, 23, 24, 25, 26, 27, 28, 29, 30, 31, 32, 33, 34, 35, 36, 37, 38, 39, 40, 41, 42, 43, 44, 45, 46, 47, 48, 49, 50, 51] (by decide +kernel) (by decide +kernel)
set_option maxRecDepth 20000 in
theorem gX9_become_X9_finding : GoodIn wsX9_become (wsV RX9 111 RX9 yX9_finding wsX9_finding) := goodIn_app (goodIn_of _ (by decide +kernel)) ggX9_become_X9_finding
theorem dX9_become_0 : decode cX9_become 0 = .ok (.aload_n 0, 1) := by decide +kernel
theorem dX9_become_1 : decode cX9_become 1 = .ok (.iload_n 1, 1) := by decide +kernel
theorem dX9_become_2 : decode cX9_become 2 = .ok (.invokevirtual 121, 3) := by decide +kernel
theorem dX9_become_5 : decode cX9_become 5 = .ok (.ifCond .eq 15, 3) := by decide +kernel
theorem dX9_become_8 : decode cX9_become 8 = .ok (.iload_n 2, 1) := by decide +kernel
theorem dX9_become_9 : decode cX9_become 9 = .ok (.i2l, 1) := by decide +kernel
theorem dX9_become_10 : decode cX9_become 10 = .ok (.lconst 0, 1) := by decide +kernel
theorem dX9_become_11 : decode cX9_become 11 = .ok (.ldc2_w 107, 3) := by decide +kernel
theorem dX9_become_14 : decode cX9_become 14 = .ok (.invokestatic 97, 3) := by decide +kernel
theorem dX9_become_17 : decode cX9_become 17 = .ok (.ifCond .ne 11, 3) := by decide +kernel
theorem dX9_become_20 : decode cX9_become 20 = .ok (.aload_n 0, 1) := by decide +kernel
theorem dX9_become_21 : decode cX9_become 21 = .ok (.ldc2_w 109, 3) := by decide +kernel
theorem dX9_become_24 : decode cX9_become 24 = .ok (.invokevirtual 111, 3) := by decide +kernel
theorem dX9_become_27 : decode cX9_become 27 = .ok (.lreturn, 1) := by decide +kernel
theorem dX9_become_28 : decode cX9_become 28 = .ok (.aload_n 0, 1) := by decide +kernel
theorem dX9_become_29 : decode cX9_become 29 = .ok (.getfield 13, 3) := by decide +kernel
theorem dX9_become_32 : decode cX9_become 32 = .ok (.iload_n 1, 1) := by decide +kernel
theorem dX9_become_33 : decode cX9_become 33 = .ok (.iaload, 1) := by decide +kernel
theorem dX9_become_34 : decode cX9_become 34 = .ok (.istore_n 3, 1) := by decide +kernel
theorem dX9_become_35 : decode cX9_become 35 = .ok (.aload_n 0, 1) := by decide +kernel
theorem dX9_become_36 : decode cX9_become 36 = .ok (.getfield 13, 3) := by decide +kernel
theorem dX9_become_39 : decode cX9_become 39 = .ok (.iload_n 1, 1) := by decide +kernel
theorem dX9_become_40 : decode cX9_become 40 = .ok (.iload_n 2, 1) := by decide +kernel
theorem dX9_become_41 : decode cX9_become 41 = .ok (.iastore, 1) := by decide +kernel
theorem dX9_become_42 : decode cX9_become 42 = .ok (.iload_n 3, 1) := by decide +kernel
theorem dX9_become_43 : decode cX9_become 43 = .ok (.i2l, 1) := by decide +kernel
theorem dX9_become_44 : decode cX9_become 44 = .ok (.lreturn, 1) := by decide +kernel
theorem dX9_meanOf_0 : decode cX9_meanOf 0 = .ok (.lconst 0, 1) := by decide +kernel
theorem dX9_meanOf_1 : decode cX9_meanOf 1 = .ok (.lstore_n 2, 1) := by decide +kernel
theorem dX9_meanOf_2 : decode cX9_meanOf 2 = .ok (.iconst 0, 1) := by decide +kernel
theorem dX9_meanOf_3 : decode cX9_meanOf 3 = .ok (.istore 4, 2) := by decide +kernel
theorem dX9_meanOf_5 : decode cX9_meanOf 5 = .ok (.iload 4, 2) := by decide +kernel
theorem dX9_meanOf_7 : decode cX9_meanOf 7 = .ok (.bipush 7, 2) := by decide +kernel
theorem dX9_meanOf_9 : decode cX9_meanOf 9 = .ok (.if_icmp .ge 28, 3) := by decide +kernel
theorem dX9_meanOf_12 : decode cX9_meanOf 12 = .ok (.lload_n 2, 1) := by decide +kernel
theorem dX9_meanOf_13 : decode cX9_meanOf 13 = .ok (.iload 4, 2) := by decide +kernel
theorem dX9_meanOf_15 : decode cX9_meanOf 15 = .ok (.i2l, 1) := by decide +kernel
theorem dX9_meanOf_16 : decode cX9_meanOf 16 = .ok (.aload_n 0, 1) := by decide +kernel
theorem dX9_meanOf_17 : decode cX9_meanOf 17 = .ok (.getfield 16, 3) := by decide +kernel
theorem dX9_meanOf_20 : decode cX9_meanOf 20 = .ok (.bipush 7, 2) := by decide +kernel
theorem dX9_meanOf_22 : decode cX9_meanOf 22 = .ok (.iload_n 1, 1) := by decide +kernel
theorem dX9_meanOf_23 : decode cX9_meanOf 23 = .ok (.imul, 1) := by decide +kernel
theorem dX9_meanOf_24 : decode cX9_meanOf 24 = .ok (.iload 4, 2) := by decide +kernel
theorem dX9_meanOf_26 : decode cX9_meanOf 26 = .ok (.iadd, 1) := by decide +kernel
theorem dX9_meanOf_27 : decode cX9_meanOf 27 = .ok (.laload, 1) := by decide +kernel
theorem dX9_meanOf_28 : decode cX9_meanOf 28 = .ok (.lmul, 1) := by decide +kernel
theorem dX9_meanOf_29 : decode cX9_meanOf 29 = .ok (.ladd, 1) := by decide +kernel
theorem dX9_meanOf_30 : decode cX9_meanOf 30 = .ok (.lstore_n 2, 1) := by decide +kernel
theorem dX9_meanOf_31 : decode cX9_meanOf 31 = .ok (.iinc 4 1, 3) := by decide +kernel
theorem dX9_meanOf_34 : decode cX9_meanOf 34 = .ok (.goto (-29), 3) := by decide +kernel
theorem dX9_meanOf_37 : decode cX9_meanOf 37 = .ok (.lload_n 2, 1) := by decide +kernel
theorem dX9_meanOf_38 : decode cX9_meanOf 38 = .ok (.lreturn, 1) := by decide +kernel
set_option maxRecDepth 20000 in
theorem ggX9_as_X9_isPlayer : GoodIn wsX9_as wsX9_isPlayer := goodIn_r _ [9, 10, 11, 12, 8, 13, 25, 26, 27, 28, 29, 30, 31, 32, 33, 34, 35, 36, 37, 38, 39, 40, 41, 42, 43, 44, 45, 46, 47, 48, 49, 50, 51, 52, 53, 54, 55, 56, 57] (by decide +kernel) (by decide +kernel)
set_option maxRecDepth 20000 in
theorem gX9_as_X9_isPlayer : GoodIn wsX9_as (wsV RX9 121 RX9 yX9_isPlayer wsX9_isPlayer) := goodIn_app (goodIn_of _ (by decide +kernel)) ggX9_as_X9_isPlayer
set_option maxRecDepth 20000 in
theorem ggX9_as_X9_in : GoodIn wsX9_as wsX9_in := goodIn_r _ [13] (by decide +kernel) (by decide +kernel)
set_option maxRecDepth 20000 in
theorem gX9_as_X9_in : GoodIn wsX9_as (va_wsS RX9 97 yX9_in wsX9_in) := goodIn_app (goodIn_of _ (by decide +kernel)) ggX9_as_X9_in
set_option maxRecDepth 20000 in
theorem ggX9_as_X9_finding : GoodIn wsX9_as wsX9_finding := goodIn_r _ [17, 18, 19, 25, 26, 27, 28, 29, 30, 31, 32, 33, 34, 35, 36, 37, 38, 39, 40, 41, 42, 43, 44, 45, 46, 47, 48, 49, 50, 51, 52, 53, 54, 55, 56, 57] (by decide +kernel) (by decide +kernel)
set_option maxRecDepth 20000 in
theorem gX9_as_X9_finding : GoodIn wsX9_as (wsV RX9 111 RX9 yX9_finding wsX9_finding) := goodIn_app (goodIn_of _ (by decide +kernel)) ggX9_as_X9_finding
set_option maxRecDepth 20000 in
theorem ggX9_as_X9_meanOf : GoodIn wsX9_as wsX9_meanOf := goodIn_r _ [23, 24, 25, 26, 27, 28, 29, 30, 31, 32, 33, 34, 35, 36, 37, 38, 39, 40, 41, 42, 43, 44, 45, 46, 47, 48, 49, 50, 51, 52, 53, 54, 55, 56, 57] (by decide +kernel) (by decide +kernel)
set_option maxRecDepth 20000 in
theorem gX9_as_X9_meanOf : GoodIn wsX9_as (wsV RX9 125 RX9 yX9_meanOf wsX9_meanOf) := goodIn_app (goodIn_of _ (by decide +kernel)) ggX9_as_X9_meanOf
theorem dX9_as_0 : decode cX9_as 0 = .ok (.aload_n 0, 1) := by decide +kernel
theorem dX9_as_1 : decode cX9_as 1 = .ok (.iload_n 1, 1) := by decide +kernel
theorem dX9_as_2 : decode cX9_as 2 = .ok (.invokevirtual 121, 3) := by decide +kernel
theorem dX9_as_5 : decode cX9_as 5 = .ok (.ifCond .eq 15, 3) := by decide +kernel
theorem dX9_as_8 : decode cX9_as 8 = .ok (.iload_n 2, 1) := by decide +kernel
theorem dX9_as_9 : decode cX9_as 9 = .ok (.i2l, 1) := by decide +kernel
theorem dX9_as_10 : decode cX9_as 10 = .ok (.lconst 0, 1) := by decide +kernel
theorem dX9_as_11 : decode cX9_as 11 = .ok (.ldc2_w 107, 3) := by decide +kernel
theorem dX9_as_14 : decode cX9_as 14 = .ok (.invokestatic 97, 3) := by decide +kernel
theorem dX9_as_17 : decode cX9_as 17 = .ok (.ifCond .ne 11, 3) := by decide +kernel
theorem dX9_as_20 : decode cX9_as 20 = .ok (.aload_n 0, 1) := by decide +kernel
theorem dX9_as_21 : decode cX9_as 21 = .ok (.ldc2_w 109, 3) := by decide +kernel
theorem dX9_as_24 : decode cX9_as 24 = .ok (.invokevirtual 111, 3) := by decide +kernel
theorem dX9_as_27 : decode cX9_as 27 = .ok (.lreturn, 1) := by decide +kernel
theorem dX9_as_28 : decode cX9_as 28 = .ok (.iload_n 2, 1) := by decide +kernel
theorem dX9_as_29 : decode cX9_as 29 = .ok (.ifCond .eq 13, 3) := by decide +kernel
theorem dX9_as_32 : decode cX9_as 32 = .ok (.aload_n 0, 1) := by decide +kernel
theorem dX9_as_33 : decode cX9_as 33 = .ok (.getfield 13, 3) := by decide +kernel
theorem dX9_as_36 : decode cX9_as 36 = .ok (.iload_n 1, 1) := by decide +kernel
theorem dX9_as_37 : decode cX9_as 37 = .ok (.iaload, 1) := by decide +kernel
theorem dX9_as_38 : decode cX9_as 38 = .ok (.iload_n 2, 1) := by decide +kernel
theorem dX9_as_39 : decode cX9_as 39 = .ok (.if_icmp .ne 11, 3) := by decide +kernel
theorem dX9_as_42 : decode cX9_as 42 = .ok (.aload_n 0, 1) := by decide +kernel
theorem dX9_as_43 : decode cX9_as 43 = .ok (.iload_n 1, 1) := by decide +kernel
theorem dX9_as_44 : decode cX9_as 44 = .ok (.invokevirtual 125, 3) := by decide +kernel
theorem dX9_as_47 : decode cX9_as 47 = .ok (.goto 10, 3) := by decide +kernel
theorem dX9_as_50 : decode cX9_as 50 = .ok (.aload_n 0, 1) := by decide +kernel
theorem dX9_as_51 : decode cX9_as 51 = .ok (.ldc2_w 128, 3) := by decide +kernel
theorem dX9_as_54 : decode cX9_as 54 = .ok (.invokevirtual 111, 3) := by decide +kernel
theorem dX9_as_57 : decode cX9_as 57 = .ok (.lreturn, 1) := by decide +kernel
set_option maxRecDepth 20000 in
theorem ggX9_share_X9_isPlayer : GoodIn wsX9_share wsX9_isPlayer := goodIn_r _ [7, 8, 9, 10, 6, 11, 22, 23, 24, 25, 26, 27, 28, 29, 30, 31, 32, 33, 34, 35, 36, 37, 38, 39, 40, 41, 42, 43, 44, 45, 46, 47, 48, 49, 50, 51, 52, 53, 54] (by decide +kernel) (by decide +kernel)
set_option maxRecDepth 20000 in
theorem gX9_share_X9_isPlayer : GoodIn wsX9_share (wsV RX9 121 RX9 yX9_isPlayer wsX9_isPlayer) := goodIn_app (goodIn_of _ (by decide +kernel)) ggX9_share_X9_isPlayer
set_option maxRecDepth 20000 in
theorem ggX9_share_X9_isLevel : GoodIn wsX9_share wsX9_isLevel := goodIn_r _ [14, 15, 9, 10, 6, 11] (by decide +kernel) (by decide +kernel)
set_option maxRecDepth 20000 in
theorem gX9_share_X9_isLevel : GoodIn wsX9_share (va_wsS RX9 130 yX9_isLevel wsX9_isLevel) := goodIn_app (goodIn_of _ (by decide +kernel)) ggX9_share_X9_isLevel
set_option maxRecDepth 20000 in
theorem ggX9_share_X9_finding : GoodIn wsX9_share wsX9_finding := goodIn_r _ [19, 20, 21, 22, 23, 24, 25, 26, 27, 28, 29, 30, 31, 32, 33, 34, 35, 36, 37, 38, 39, 40, 41, 42, 43, 44, 45, 46, 47, 48, 49, 50, 51, 52, 53, 54] (by decide +kernel) (by decide +kernel)
set_option maxRecDepth 20000 in
theorem gX9_share_X9_finding : GoodIn wsX9_share (wsV RX9 111 RX9 yX9_finding wsX9_finding) := goodIn_app (goodIn_of _ (by decide +kernel)) ggX9_share_X9_finding
theorem dX9_share_0 : decode cX9_share 0 = .ok (.aload_n 0, 1) := by decide +kernel
theorem dX9_share_1 : decode cX9_share 1 = .ok (.iload_n 1, 1) := by decide +kernel
theorem dX9_share_2 : decode cX9_share 2 = .ok (.invokevirtual 121, 3) := by decide +kernel
theorem dX9_share_5 : decode cX9_share 5 = .ok (.ifCond .eq 24, 3) := by decide +kernel
theorem dX9_share_8 : decode cX9_share 8 = .ok (.iload_n 2, 1) := by decide +kernel
theorem dX9_share_9 : decode cX9_share 9 = .ok (.invokestatic 130, 3) := by decide +kernel
theorem dX9_share_12 : decode cX9_share 12 = .ok (.ifCond .eq 17, 3) := by decide +kernel
theorem dX9_share_15 : decode cX9_share 15 = .ok (.aload_n 0, 1) := by decide +kernel
theorem dX9_share_16 : decode cX9_share 16 = .ok (.getfield 16, 3) := by decide +kernel
theorem dX9_share_19 : decode cX9_share 19 = .ok (.bipush 7, 2) := by decide +kernel
theorem dX9_share_21 : decode cX9_share 21 = .ok (.iload_n 1, 1) := by decide +kernel
theorem dX9_share_22 : decode cX9_share 22 = .ok (.imul, 1) := by decide +kernel
theorem dX9_share_23 : decode cX9_share 23 = .ok (.iload_n 2, 1) := by decide +kernel
theorem dX9_share_24 : decode cX9_share 24 = .ok (.iadd, 1) := by decide +kernel
theorem dX9_share_25 : decode cX9_share 25 = .ok (.laload, 1) := by decide +kernel
theorem dX9_share_26 : decode cX9_share 26 = .ok (.goto 10, 3) := by decide +kernel
theorem dX9_share_29 : decode cX9_share 29 = .ok (.aload_n 0, 1) := by decide +kernel
theorem dX9_share_30 : decode cX9_share 30 = .ok (.ldc2_w 109, 3) := by decide +kernel
theorem dX9_share_33 : decode cX9_share 33 = .ok (.invokevirtual 111, 3) := by decide +kernel
theorem dX9_share_36 : decode cX9_share 36 = .ok (.lreturn, 1) := by decide +kernel
set_option maxRecDepth 20000 in
theorem ggX9_shift_X9_isPlayer : GoodIn wsX9_shift wsX9_isPlayer := goodIn_r _ [7, 8, 9, 10, 6, 11, 22, 23, 24, 25, 26, 27, 28, 29, 30, 31, 32, 33, 34, 35, 36, 37, 38, 39, 40, 41, 42, 43, 44, 45, 46, 47, 48, 49, 50, 51, 52, 53, 54] (by decide +kernel) (by decide +kernel)
set_option maxRecDepth 20000 in
theorem gX9_shift_X9_isPlayer : GoodIn wsX9_shift (wsV RX9 121 RX9 yX9_isPlayer wsX9_isPlayer) := goodIn_app (goodIn_of _ (by decide +kernel)) ggX9_shift_X9_isPlayer
set_option maxRecDepth 20000 in
theorem ggX9_shift_X9_isLevel : GoodIn wsX9_shift wsX9_isLevel := goodIn_r _ [14, 15, 9, 10, 6, 11] (by decide +kernel) (by decide +kernel)
set_option maxRecDepth 20000 in
theorem gX9_shift_X9_isLevel : GoodIn wsX9_shift (va_wsS RX9 130 yX9_isLevel wsX9_isLevel) := goodIn_app (goodIn_of _ (by decide +kernel)) ggX9_shift_X9_isLevel
set_option maxRecDepth 20000 in
theorem ggX9_shift_X9_in : GoodIn wsX9_shift wsX9_in := goodIn_r _ [11] (by decide +kernel) (by decide +kernel)
set_option maxRecDepth 20000 in
theorem gX9_shift_X9_in : GoodIn wsX9_shift (va_wsS RX9 97 yX9_in wsX9_in) := goodIn_app (goodIn_of _ (by decide +kernel)) ggX9_shift_X9_in
set_option maxRecDepth 20000 in
theorem ggX9_shift_X9_finding : GoodIn wsX9_shift wsX9_finding := goodIn_r _ [19, 20, 21, 22, 23, 24, 25, 26, 27, 28, 29, 30, 31, 32, 33, 34, 35, 36, 37, 38, 39, 40, 41, 42, 43, 44, 45, 46, 47, 48, 49, 50, 51, 52, 53, 54] (by decide +kernel) (by decide +kernel)
set_option maxRecDepth 20000 in
theorem gX9_shift_X9_finding : GoodIn wsX9_shift (wsV RX9 111 RX9 yX9_finding wsX9_finding) := goodIn_app (goodIn_of _ (by decide +kernel)) ggX9_shift_X9_finding
theorem dX9_shift_0 : decode cX9_shift 0 = .ok (.aload_n 0, 1) := by decide +kernel
theorem dX9_shift_1 : decode cX9_shift 1 = .ok (.iload_n 1, 1) := by decide +kernel
theorem dX9_shift_2 : decode cX9_shift 2 = .ok (.invokevirtual 121, 3) := by decide +kernel
theorem dX9_shift_5 : decode cX9_shift 5 = .ok (.ifCond .eq 38, 3) := by decide +kernel
theorem dX9_shift_8 : decode cX9_shift 8 = .ok (.iload_n 2, 1) := by decide +kernel
theorem dX9_shift_9 : decode cX9_shift 9 = .ok (.invokestatic 130, 3) := by decide +kernel
theorem dX9_shift_12 : decode cX9_shift 12 = .ok (.ifCond .eq 31, 3) := by decide +kernel
theorem dX9_shift_15 : decode cX9_shift 15 = .ok (.iload_n 3, 1) := by decide +kernel
theorem dX9_shift_16 : decode cX9_shift 16 = .ok (.invokestatic 130, 3) := by decide +kernel
theorem dX9_shift_19 : decode cX9_shift 19 = .ok (.ifCond .eq 24, 3) := by decide +kernel
theorem dX9_shift_22 : decode cX9_shift 22 = .ok (.iload 4, 2) := by decide +kernel
theorem dX9_shift_24 : decode cX9_shift 24 = .ok (.i2l, 1) := by decide +kernel
theorem dX9_shift_25 : decode cX9_shift 25 = .ok (.lconst 0, 1) := by decide +kernel
theorem dX9_shift_26 : decode cX9_shift 26 = .ok (.aload_n 0, 1) := by decide +kernel
theorem dX9_shift_27 : decode cX9_shift 27 = .ok (.getfield 16, 3) := by decide +kernel
theorem dX9_shift_30 : decode cX9_shift 30 = .ok (.bipush 7, 2) := by decide +kernel
theorem dX9_shift_32 : decode cX9_shift 32 = .ok (.iload_n 1, 1) := by decide +kernel
theorem dX9_shift_33 : decode cX9_shift 33 = .ok (.imul, 1) := by decide +kernel
theorem dX9_shift_34 : decode cX9_shift 34 = .ok (.iload_n 2, 1) := by decide +kernel
theorem dX9_shift_35 : decode cX9_shift 35 = .ok (.iadd, 1) := by decide +kernel
theorem dX9_shift_36 : decode cX9_shift 36 = .ok (.laload, 1) := by decide +kernel
theorem dX9_shift_37 : decode cX9_shift 37 = .ok (.invokestatic 97, 3) := by decide +kernel
theorem dX9_shift_40 : decode cX9_shift 40 = .ok (.ifCond .ne 11, 3) := by decide +kernel
theorem dX9_shift_43 : decode cX9_shift 43 = .ok (.aload_n 0, 1) := by decide +kernel
theorem dX9_shift_44 : decode cX9_shift 44 = .ok (.ldc2_w 109, 3) := by decide +kernel
theorem dX9_shift_47 : decode cX9_shift 47 = .ok (.invokevirtual 111, 3) := by decide +kernel
theorem dX9_shift_50 : decode cX9_shift 50 = .ok (.lreturn, 1) := by decide +kernel
theorem dX9_shift_51 : decode cX9_shift 51 = .ok (.aload_n 0, 1) := by decide +kernel
theorem dX9_shift_52 : decode cX9_shift 52 = .ok (.getfield 16, 3) := by decide +kernel
theorem dX9_shift_55 : decode cX9_shift 55 = .ok (.bipush 7, 2) := by decide +kernel
theorem dX9_shift_57 : decode cX9_shift 57 = .ok (.iload_n 1, 1) := by decide +kernel
theorem dX9_shift_58 : decode cX9_shift 58 = .ok (.imul, 1) := by decide +kernel
theorem dX9_shift_59 : decode cX9_shift 59 = .ok (.iload_n 2, 1) := by decide +kernel
theorem dX9_shift_60 : decode cX9_shift 60 = .ok (.iadd, 1) := by decide +kernel
theorem dX9_shift_61 : decode cX9_shift 61 = .ok (.dup2, 1) := by decide +kernel
theorem dX9_shift_62 : decode cX9_shift 62 = .ok (.laload, 1) := by decide +kernel
theorem dX9_shift_63 : decode cX9_shift 63 = .ok (.iload 4, 2) := by decide +kernel
theorem dX9_shift_65 : decode cX9_shift 65 = .ok (.i2l, 1) := by decide +kernel
theorem dX9_shift_66 : decode cX9_shift 66 = .ok (.lsub, 1) := by decide +kernel
theorem dX9_shift_67 : decode cX9_shift 67 = .ok (.lastore, 1) := by decide +kernel
theorem dX9_shift_68 : decode cX9_shift 68 = .ok (.aload_n 0, 1) := by decide +kernel
theorem dX9_shift_69 : decode cX9_shift 69 = .ok (.getfield 16, 3) := by decide +kernel
theorem dX9_shift_72 : decode cX9_shift 72 = .ok (.bipush 7, 2) := by decide +kernel
theorem dX9_shift_74 : decode cX9_shift 74 = .ok (.iload_n 1, 1) := by decide +kernel
theorem dX9_shift_75 : decode cX9_shift 75 = .ok (.imul, 1) := by decide +kernel
theorem dX9_shift_76 : decode cX9_shift 76 = .ok (.iload_n 3, 1) := by decide +kernel
theorem dX9_shift_77 : decode cX9_shift 77 = .ok (.iadd, 1) := by decide +kernel
theorem dX9_shift_78 : decode cX9_shift 78 = .ok (.dup2, 1) := by decide +kernel
theorem dX9_shift_79 : decode cX9_shift 79 = .ok (.laload, 1) := by decide +kernel
theorem dX9_shift_80 : decode cX9_shift 80 = .ok (.iload 4, 2) := by decide +kernel
theorem dX9_shift_82 : decode cX9_shift 82 = .ok (.i2l, 1) := by decide +kernel
theorem dX9_shift_83 : decode cX9_shift 83 = .ok (.ladd, 1) := by decide +kernel
theorem dX9_shift_84 : decode cX9_shift 84 = .ok (.lastore, 1) := by decide +kernel
theorem dX9_shift_85 : decode cX9_shift 85 = .ok (.aload_n 0, 1) := by decide +kernel
theorem dX9_shift_86 : decode cX9_shift 86 = .ok (.getfield 16, 3) := by decide +kernel
theorem dX9_shift_89 : decode cX9_shift 89 = .ok (.bipush 7, 2) := by decide +kernel
theorem dX9_shift_91 : decode cX9_shift 91 = .ok (.iload_n 1, 1) := by decide +kernel
theorem dX9_shift_92 : decode cX9_shift 92 = .ok (.imul, 1) := by decide +kernel
theorem dX9_shift_93 : decode cX9_shift 93 = .ok (.iload_n 3, 1) := by decide +kernel
theorem dX9_shift_94 : decode cX9_shift 94 = .ok (.iadd, 1) := by decide +kernel
theorem dX9_shift_95 : decode cX9_shift 95 = .ok (.laload, 1) := by decide +kernel
theorem dX9_shift_96 : decode cX9_shift 96 = .ok (.lreturn, 1) := by decide +kernel
set_option maxRecDepth 20000 in
theorem ggX9_mean_X9_isPlayer : GoodIn wsX9_mean wsX9_isPlayer := goodIn_r _ [6, 7, 8, 9, 5, 10, 22, 23, 24, 25, 26, 27, 28, 29, 30, 31, 32, 33, 34, 35, 36, 37, 38, 39, 40, 41, 42, 43, 44, 45, 46, 47, 48, 49, 50, 51, 52, 53, 54] (by decide +kernel) (by decide +kernel)
set_option maxRecDepth 20000 in
theorem gX9_mean_X9_isPlayer : GoodIn wsX9_mean (wsV RX9 121 RX9 yX9_isPlayer wsX9_isPlayer) := goodIn_app (goodIn_of _ (by decide +kernel)) ggX9_mean_X9_isPlayer
set_option maxRecDepth 20000 in
theorem ggX9_mean_X9_meanOf : GoodIn wsX9_mean wsX9_meanOf := goodIn_r _ [14, 15, 22, 23, 24, 25, 26, 27, 28, 29, 30, 31, 32, 33, 34, 35, 36, 37, 38, 39, 40, 41, 42, 43, 44, 45, 46, 47, 48, 49, 50, 51, 52, 53, 54] (by decide +kernel) (by decide +kernel)
set_option maxRecDepth 20000 in
theorem gX9_mean_X9_meanOf : GoodIn wsX9_mean (wsV RX9 125 RX9 yX9_meanOf wsX9_meanOf) := goodIn_app (goodIn_of _ (by decide +kernel)) ggX9_mean_X9_meanOf
set_option maxRecDepth 20000 in
theorem ggX9_mean_X9_finding : GoodIn wsX9_mean wsX9_finding := goodIn_r _ [19, 20, 21, 22, 23, 24, 25, 26, 27, 28, 29, 30, 31, 32, 33, 34, 35, 36, 37, 38, 39, 40, 41, 42, 43, 44, 45, 46, 47, 48, 49, 50, 51, 52, 53, 54] (by decide +kernel) (by decide +kernel)
set_option maxRecDepth 20000 in
theorem gX9_mean_X9_finding : GoodIn wsX9_mean (wsV RX9 111 RX9 yX9_finding wsX9_finding) := goodIn_app (goodIn_of _ (by decide +kernel)) ggX9_mean_X9_finding
theorem dX9_mean_0 : decode cX9_mean 0 = .ok (.aload_n 0, 1) := by decide +kernel
theorem dX9_mean_1 : decode cX9_mean 1 = .ok (.iload_n 1, 1) := by decide +kernel
theorem dX9_mean_2 : decode cX9_mean 2 = .ok (.invokevirtual 121, 3) := by decide +kernel
theorem dX9_mean_5 : decode cX9_mean 5 = .ok (.ifCond .eq 11, 3) := by decide +kernel
theorem dX9_mean_8 : decode cX9_mean 8 = .ok (.aload_n 0, 1) := by decide +kernel
theorem dX9_mean_9 : decode cX9_mean 9 = .ok (.iload_n 1, 1) := by decide +kernel
theorem dX9_mean_10 : decode cX9_mean 10 = .ok (.invokevirtual 125, 3) := by decide +kernel
theorem dX9_mean_13 : decode cX9_mean 13 = .ok (.goto 10, 3) := by decide +kernel
theorem dX9_mean_16 : decode cX9_mean 16 = .ok (.aload_n 0, 1) := by decide +kernel
theorem dX9_mean_17 : decode cX9_mean 17 = .ok (.ldc2_w 109, 3) := by decide +kernel
theorem dX9_mean_20 : decode cX9_mean 20 = .ok (.invokevirtual 111, 3) := by decide +kernel
theorem dX9_mean_23 : decode cX9_mean 23 = .ok (.lreturn, 1) := by decide +kernel
theorem dX9_layAside_0 : decode cX9_layAside 0 = .ok (.iconst 0, 1) := by decide +kernel
theorem dX9_layAside_1 : decode cX9_layAside 1 = .ok (.istore_n 1, 1) := by decide +kernel
theorem dX9_layAside_2 : decode cX9_layAside 2 = .ok (.iload_n 1, 1) := by decide +kernel
theorem dX9_layAside_3 : decode cX9_layAside 3 = .ok (.bipush 112, 2) := by decide +kernel
theorem dX9_layAside_5 : decode cX9_layAside 5 = .ok (.if_icmp .ge 21, 3) := by decide +kernel
theorem dX9_layAside_8 : decode cX9_layAside 8 = .ok (.aload_n 0, 1) := by decide +kernel
theorem dX9_layAside_9 : decode cX9_layAside 9 = .ok (.getfield 71, 3) := by decide +kernel
theorem dX9_layAside_12 : decode cX9_layAside 12 = .ok (.iload_n 1, 1) := by decide +kernel
theorem dX9_layAside_13 : decode cX9_layAside 13 = .ok (.aload_n 0, 1) := by decide +kernel
theorem dX9_layAside_14 : decode cX9_layAside 14 = .ok (.getfield 16, 3) := by decide +kernel
theorem dX9_layAside_17 : decode cX9_layAside 17 = .ok (.iload_n 1, 1) := by decide +kernel
theorem dX9_layAside_18 : decode cX9_layAside 18 = .ok (.laload, 1) := by decide +kernel
theorem dX9_layAside_19 : decode cX9_layAside 19 = .ok (.lastore, 1) := by decide +kernel
theorem dX9_layAside_20 : decode cX9_layAside 20 = .ok (.iinc 1 1, 3) := by decide +kernel
theorem dX9_layAside_23 : decode cX9_layAside 23 = .ok (.goto (-21), 3) := by decide +kernel
theorem dX9_layAside_26 : decode cX9_layAside 26 = .ok (.return_, 1) := by decide +kernel
set_option maxRecDepth 20000 in
theorem ggX9_chanceAt_X9_ones : GoodIn wsX9_chanceAt wsX9_ones := goodIn_r _ [7] (by decide +kernel) (by decide +kernel)
set_option maxRecDepth 20000 in
theorem gX9_chanceAt_X9_ones : GoodIn wsX9_chanceAt (va_wsS RX9 135 yX9_ones wsX9_ones) := goodIn_app (goodIn_of _ (by decide +kernel)) ggX9_chanceAt_X9_ones
theorem dX9_chanceAt_0 : decode cX9_chanceAt 0 = .ok (.lconst 0, 1) := by decide +kernel
theorem dX9_chanceAt_1 : decode cX9_chanceAt 1 = .ok (.lstore_n 3, 1) := by decide +kernel
theorem dX9_chanceAt_2 : decode cX9_chanceAt 2 = .ok (.iconst 0, 1) := by decide +kernel
theorem dX9_chanceAt_3 : decode cX9_chanceAt 3 = .ok (.istore 5, 2) := by decide +kernel
theorem dX9_chanceAt_5 : decode cX9_chanceAt 5 = .ok (.iload 5, 2) := by decide +kernel
theorem dX9_chanceAt_7 : decode cX9_chanceAt 7 = .ok (.aload_n 0, 1) := by decide +kernel
theorem dX9_chanceAt_8 : decode cX9_chanceAt 8 = .ok (.getfield 94, 3) := by decide +kernel
theorem dX9_chanceAt_11 : decode cX9_chanceAt 11 = .ok (.if_icmp .ge 64, 3) := by decide +kernel
theorem dX9_chanceAt_14 : decode cX9_chanceAt 14 = .ok (.iconst 0, 1) := by decide +kernel
theorem dX9_chanceAt_15 : decode cX9_chanceAt 15 = .ok (.istore 6, 2) := by decide +kernel
theorem dX9_chanceAt_17 : decode cX9_chanceAt 17 = .ok (.iload 6, 2) := by decide +kernel
theorem dX9_chanceAt_19 : decode cX9_chanceAt 19 = .ok (.bipush 7, 2) := by decide +kernel
theorem dX9_chanceAt_21 : decode cX9_chanceAt 21 = .ok (.if_icmp .ge 48, 3) := by decide +kernel
theorem dX9_chanceAt_24 : decode cX9_chanceAt 24 = .ok (.iload_n 2, 1) := by decide +kernel
theorem dX9_chanceAt_25 : decode cX9_chanceAt 25 = .ok (.iload 5, 2) := by decide +kernel
theorem dX9_chanceAt_27 : decode cX9_chanceAt 27 = .ok (.ishr, 1) := by decide +kernel
theorem dX9_chanceAt_28 : decode cX9_chanceAt 28 = .ok (.iconst 1, 1) := by decide +kernel
theorem dX9_chanceAt_29 : decode cX9_chanceAt 29 = .ok (.iand, 1) := by decide +kernel
theorem dX9_chanceAt_30 : decode cX9_chanceAt 30 = .ok (.iconst 1, 1) := by decide +kernel
theorem dX9_chanceAt_31 : decode cX9_chanceAt 31 = .ok (.if_icmp .ne 38, 3) := by decide +kernel
theorem dX9_chanceAt_34 : decode cX9_chanceAt 34 = .ok (.lload_n 3, 1) := by decide +kernel
theorem dX9_chanceAt_35 : decode cX9_chanceAt 35 = .ok (.aload_n 0, 1) := by decide +kernel
theorem dX9_chanceAt_36 : decode cX9_chanceAt 36 = .ok (.getfield 71, 3) := by decide +kernel
theorem dX9_chanceAt_39 : decode cX9_chanceAt 39 = .ok (.bipush 7, 2) := by decide +kernel
theorem dX9_chanceAt_41 : decode cX9_chanceAt 41 = .ok (.iload 5, 2) := by decide +kernel
theorem dX9_chanceAt_43 : decode cX9_chanceAt 43 = .ok (.imul, 1) := by decide +kernel
theorem dX9_chanceAt_44 : decode cX9_chanceAt 44 = .ok (.iload 6, 2) := by decide +kernel
theorem dX9_chanceAt_46 : decode cX9_chanceAt 46 = .ok (.iadd, 1) := by decide +kernel
theorem dX9_chanceAt_47 : decode cX9_chanceAt 47 = .ok (.laload, 1) := by decide +kernel
theorem dX9_chanceAt_48 : decode cX9_chanceAt 48 = .ok (.sipush 500, 3) := by decide +kernel
theorem dX9_chanceAt_51 : decode cX9_chanceAt 51 = .ok (.bipush 70, 2) := by decide +kernel
theorem dX9_chanceAt_53 : decode cX9_chanceAt 53 = .ok (.iload_n 1, 1) := by decide +kernel
theorem dX9_chanceAt_54 : decode cX9_chanceAt 54 = .ok (.iload 6, 2) := by decide +kernel
theorem dX9_chanceAt_56 : decode cX9_chanceAt 56 = .ok (.isub, 1) := by decide +kernel
theorem dX9_chanceAt_57 : decode cX9_chanceAt 57 = .ok (.imul, 1) := by decide +kernel
theorem dX9_chanceAt_58 : decode cX9_chanceAt 58 = .ok (.iadd, 1) := by decide +kernel
theorem dX9_chanceAt_59 : decode cX9_chanceAt 59 = .ok (.i2l, 1) := by decide +kernel
theorem dX9_chanceAt_60 : decode cX9_chanceAt 60 = .ok (.lmul, 1) := by decide +kernel
theorem dX9_chanceAt_61 : decode cX9_chanceAt 61 = .ok (.ladd, 1) := by decide +kernel
theorem dX9_chanceAt_62 : decode cX9_chanceAt 62 = .ok (.lstore_n 3, 1) := by decide +kernel
theorem dX9_chanceAt_63 : decode cX9_chanceAt 63 = .ok (.iinc 6 1, 3) := by decide +kernel
theorem dX9_chanceAt_66 : decode cX9_chanceAt 66 = .ok (.goto (-49), 3) := by decide +kernel
theorem dX9_chanceAt_69 : decode cX9_chanceAt 69 = .ok (.iinc 5 1, 3) := by decide +kernel
theorem dX9_chanceAt_72 : decode cX9_chanceAt 72 = .ok (.goto (-67), 3) := by decide +kernel
theorem dX9_chanceAt_75 : decode cX9_chanceAt 75 = .ok (.lload_n 3, 1) := by decide +kernel
theorem dX9_chanceAt_76 : decode cX9_chanceAt 76 = .ok (.ldc2_w 133, 3) := by decide +kernel
theorem dX9_chanceAt_79 : decode cX9_chanceAt 79 = .ok (.iload_n 2, 1) := by decide +kernel
theorem dX9_chanceAt_80 : decode cX9_chanceAt 80 = .ok (.invokestatic 135, 3) := by decide +kernel
theorem dX9_chanceAt_83 : decode cX9_chanceAt 83 = .ok (.i2l, 1) := by decide +kernel
theorem dX9_chanceAt_84 : decode cX9_chanceAt 84 = .ok (.lmul, 1) := by decide +kernel
theorem dX9_chanceAt_85 : decode cX9_chanceAt 85 = .ok (.ldiv, 1) := by decide +kernel
theorem dX9_chanceAt_86 : decode cX9_chanceAt 86 = .ok (.lreturn, 1) := by decide +kernel
set_option maxRecDepth 20000 in
theorem ggX9_chanceOf_X9_chanceAt : GoodIn wsX9_chanceOf wsX9_chanceAt := goodIn_r _ [7, 8, 1, 9, 10, 11, 6, 12, 13, 14, 15, 16, 17, 18, 19, 20, 21, 22, 23, 24, 25, 26, 27, 28, 29, 30, 31, 32, 33, 34, 35, 36, 37, 38, 39, 40, 41, 42, 43, 44, 45] (by decide +kernel) (by decide +kernel)
set_option maxRecDepth 20000 in
theorem gX9_chanceOf_X9_chanceAt : GoodIn wsX9_chanceOf (wsV RX9 139 RX9 yX9_chanceAt wsX9_chanceAt) := goodIn_app (goodIn_of _ (by decide +kernel)) ggX9_chanceOf_X9_chanceAt
theorem dX9_chanceOf_0 : decode cX9_chanceOf 0 = .ok (.lconst 0, 1) := by decide +kernel
theorem dX9_chanceOf_1 : decode cX9_chanceOf 1 = .ok (.lstore_n 3, 1) := by decide +kernel
theorem dX9_chanceOf_2 : decode cX9_chanceOf 2 = .ok (.iconst 0, 1) := by decide +kernel
theorem dX9_chanceOf_3 : decode cX9_chanceOf 3 = .ok (.istore 5, 2) := by decide +kernel
theorem dX9_chanceOf_5 : decode cX9_chanceOf 5 = .ok (.iload 5, 2) := by decide +kernel
theorem dX9_chanceOf_7 : decode cX9_chanceOf 7 = .ok (.bipush 7, 2) := by decide +kernel
theorem dX9_chanceOf_9 : decode cX9_chanceOf 9 = .ok (.if_icmp .ge 32, 3) := by decide +kernel
theorem dX9_chanceOf_12 : decode cX9_chanceOf 12 = .ok (.lload_n 3, 1) := by decide +kernel
theorem dX9_chanceOf_13 : decode cX9_chanceOf 13 = .ok (.aload_n 0, 1) := by decide +kernel
theorem dX9_chanceOf_14 : decode cX9_chanceOf 14 = .ok (.getfield 71, 3) := by decide +kernel
theorem dX9_chanceOf_17 : decode cX9_chanceOf 17 = .ok (.bipush 7, 2) := by decide +kernel
theorem dX9_chanceOf_19 : decode cX9_chanceOf 19 = .ok (.iload_n 1, 1) := by decide +kernel
theorem dX9_chanceOf_20 : decode cX9_chanceOf 20 = .ok (.imul, 1) := by decide +kernel
theorem dX9_chanceOf_21 : decode cX9_chanceOf 21 = .ok (.iload 5, 2) := by decide +kernel
theorem dX9_chanceOf_23 : decode cX9_chanceOf 23 = .ok (.iadd, 1) := by decide +kernel
theorem dX9_chanceOf_24 : decode cX9_chanceOf 24 = .ok (.laload, 1) := by decide +kernel
theorem dX9_chanceOf_25 : decode cX9_chanceOf 25 = .ok (.aload_n 0, 1) := by decide +kernel
theorem dX9_chanceOf_26 : decode cX9_chanceOf 26 = .ok (.iload 5, 2) := by decide +kernel
theorem dX9_chanceOf_28 : decode cX9_chanceOf 28 = .ok (.iload_n 2, 1) := by decide +kernel
theorem dX9_chanceOf_29 : decode cX9_chanceOf 29 = .ok (.invokevirtual 139, 3) := by decide +kernel
theorem dX9_chanceOf_32 : decode cX9_chanceOf 32 = .ok (.lmul, 1) := by decide +kernel
theorem dX9_chanceOf_33 : decode cX9_chanceOf 33 = .ok (.ladd, 1) := by decide +kernel
theorem dX9_chanceOf_34 : decode cX9_chanceOf 34 = .ok (.lstore_n 3, 1) := by decide +kernel
theorem dX9_chanceOf_35 : decode cX9_chanceOf 35 = .ok (.iinc 5 1, 3) := by decide +kernel
theorem dX9_chanceOf_38 : decode cX9_chanceOf 38 = .ok (.goto (-33), 3) := by decide +kernel
theorem dX9_chanceOf_41 : decode cX9_chanceOf 41 = .ok (.lload_n 3, 1) := by decide +kernel
theorem dX9_chanceOf_42 : decode cX9_chanceOf 42 = .ok (.ldc2_w 143, 3) := by decide +kernel
theorem dX9_chanceOf_45 : decode cX9_chanceOf 45 = .ok (.ldiv, 1) := by decide +kernel
theorem dX9_chanceOf_46 : decode cX9_chanceOf 46 = .ok (.lreturn, 1) := by decide +kernel
set_option maxRecDepth 20000 in
theorem ggX9_teamChance_X9_chanceOf : GoodIn wsX9_teamChance wsX9_chanceOf := goodIn_r _ [6, 7, 8, 9, 10, 11, 5, 12, 1, 13, 14, 15, 16, 17, 18, 19, 20, 21, 22, 23, 24, 25, 26, 27, 28, 29, 30, 31, 32, 33, 34, 35, 36, 37, 38, 39, 40, 41, 42, 43, 44, 45, 46, 47, 48, 49] (by decide +kernel) (by decide +kernel)
set_option maxRecDepth 20000 in
theorem gX9_teamChance_X9_chanceOf : GoodIn wsX9_teamChance (wsV RX9 145 RX9 yX9_chanceOf wsX9_chanceOf) := goodIn_app (goodIn_of _ (by decide +kernel)) ggX9_teamChance_X9_chanceOf
set_option maxRecDepth 20000 in
theorem ggX9_teamChance_X9_ones : GoodIn wsX9_teamChance wsX9_ones := goodIn_r _ [16] (by decide +kernel) (by decide +kernel)
set_option maxRecDepth 20000 in
theorem gX9_teamChance_X9_ones : GoodIn wsX9_teamChance (va_wsS RX9 135 yX9_ones wsX9_ones) := goodIn_app (goodIn_of _ (by decide +kernel)) ggX9_teamChance_X9_ones
theorem dX9_teamChance_0 : decode cX9_teamChance 0 = .ok (.lconst 0, 1) := by decide +kernel
theorem dX9_teamChance_1 : decode cX9_teamChance 1 = .ok (.lstore_n 3, 1) := by decide +kernel
theorem dX9_teamChance_2 : decode cX9_teamChance 2 = .ok (.iconst 0, 1) := by decide +kernel
theorem dX9_teamChance_3 : decode cX9_teamChance 3 = .ok (.istore 5, 2) := by decide +kernel
theorem dX9_teamChance_5 : decode cX9_teamChance 5 = .ok (.iload 5, 2) := by decide +kernel
theorem dX9_teamChance_7 : decode cX9_teamChance 7 = .ok (.aload_n 0, 1) := by decide +kernel
theorem dX9_teamChance_8 : decode cX9_teamChance 8 = .ok (.getfield 94, 3) := by decide +kernel
theorem dX9_teamChance_11 : decode cX9_teamChance 11 = .ok (.if_icmp .ge 33, 3) := by decide +kernel
theorem dX9_teamChance_14 : decode cX9_teamChance 14 = .ok (.lload_n 3, 1) := by decide +kernel
theorem dX9_teamChance_15 : decode cX9_teamChance 15 = .ok (.iload_n 1, 1) := by decide +kernel
theorem dX9_teamChance_16 : decode cX9_teamChance 16 = .ok (.iload 5, 2) := by decide +kernel
theorem dX9_teamChance_18 : decode cX9_teamChance 18 = .ok (.ishr, 1) := by decide +kernel
theorem dX9_teamChance_19 : decode cX9_teamChance 19 = .ok (.iconst 1, 1) := by decide +kernel
theorem dX9_teamChance_20 : decode cX9_teamChance 20 = .ok (.iand, 1) := by decide +kernel
theorem dX9_teamChance_21 : decode cX9_teamChance 21 = .ok (.iconst 1, 1) := by decide +kernel
theorem dX9_teamChance_22 : decode cX9_teamChance 22 = .ok (.if_icmp .ne 13, 3) := by decide +kernel
theorem dX9_teamChance_25 : decode cX9_teamChance 25 = .ok (.aload_n 0, 1) := by decide +kernel
theorem dX9_teamChance_26 : decode cX9_teamChance 26 = .ok (.iload 5, 2) := by decide +kernel
theorem dX9_teamChance_28 : decode cX9_teamChance 28 = .ok (.iload_n 2, 1) := by decide +kernel
theorem dX9_teamChance_29 : decode cX9_teamChance 29 = .ok (.invokevirtual 145, 3) := by decide +kernel
theorem dX9_teamChance_32 : decode cX9_teamChance 32 = .ok (.goto 4, 3) := by decide +kernel
theorem dX9_teamChance_35 : decode cX9_teamChance 35 = .ok (.lconst 0, 1) := by decide +kernel
theorem dX9_teamChance_36 : decode cX9_teamChance 36 = .ok (.ladd, 1) := by decide +kernel
theorem dX9_teamChance_37 : decode cX9_teamChance 37 = .ok (.lstore_n 3, 1) := by decide +kernel
theorem dX9_teamChance_38 : decode cX9_teamChance 38 = .ok (.iinc 5 1, 3) := by decide +kernel
theorem dX9_teamChance_41 : decode cX9_teamChance 41 = .ok (.goto (-36), 3) := by decide +kernel
theorem dX9_teamChance_44 : decode cX9_teamChance 44 = .ok (.lload_n 3, 1) := by decide +kernel
theorem dX9_teamChance_45 : decode cX9_teamChance 45 = .ok (.iload_n 1, 1) := by decide +kernel
theorem dX9_teamChance_46 : decode cX9_teamChance 46 = .ok (.invokestatic 135, 3) := by decide +kernel
theorem dX9_teamChance_49 : decode cX9_teamChance 49 = .ok (.i2l, 1) := by decide +kernel
theorem dX9_teamChance_50 : decode cX9_teamChance 50 = .ok (.ldiv, 1) := by decide +kernel
theorem dX9_teamChance_51 : decode cX9_teamChance 51 = .ok (.lreturn, 1) := by decide +kernel
set_option maxRecDepth 20000 in
theorem ggX9_chance_X9_isPlayer : GoodIn wsX9_chance wsX9_isPlayer := goodIn_r _ [6, 7, 8, 9, 5, 10, 36, 37, 38, 39, 40, 41, 42, 43, 44, 45, 46, 47, 48, 49, 50, 51, 52, 53, 54, 55, 56, 57, 58, 59, 60, 61, 62, 63, 64, 65, 66, 67, 68] (by decide +kernel) (by decide +kernel)
set_option maxRecDepth 20000 in
theorem gX9_chance_X9_isPlayer : GoodIn wsX9_chance (wsV RX9 121 RX9 yX9_isPlayer wsX9_isPlayer) := goodIn_app (goodIn_of _ (by decide +kernel)) ggX9_chance_X9_isPlayer
set_option maxRecDepth 20000 in
theorem ggX9_chance_X9_finding : GoodIn wsX9_chance wsX9_finding := goodIn_r _ [14, 15, 16, 36, 37, 38, 39, 40, 41, 42, 43, 44, 45, 46, 47, 48, 49, 50, 51, 52, 53, 54, 55, 56, 57, 58, 59, 60, 61, 62, 63, 64, 65, 66, 67, 68] (by decide +kernel) (by decide +kernel)
set_option maxRecDepth 20000 in
theorem gX9_chance_X9_finding : GoodIn wsX9_chance (wsV RX9 111 RX9 yX9_finding wsX9_finding) := goodIn_app (goodIn_of _ (by decide +kernel)) ggX9_chance_X9_finding
set_option maxRecDepth 20000 in
theorem ggX9_chance_X9_layAside : GoodIn wsX9_chance wsX9_layAside := goodIn_r _ [20, 21, 22, 36, 37, 38, 39, 40, 41, 42, 43, 44, 45, 46, 47, 48, 49, 50, 51, 52, 53, 54, 55, 56, 57, 58, 59, 60, 61, 62, 63, 64, 65, 66, 67, 68] (by decide +kernel) (by decide +kernel)
set_option maxRecDepth 20000 in
theorem gX9_chance_X9_layAside : GoodIn wsX9_chance (wsV RX9 148 RX9 yX9_layAside wsX9_layAside) := goodIn_app (goodIn_of _ (by decide +kernel)) ggX9_chance_X9_layAside
set_option maxRecDepth 20000 in
theorem ggX9_chance_X9_chanceOf : GoodIn wsX9_chance wsX9_chanceOf := goodIn_r _ [26, 21, 27, 28, 29, 30, 5, 31, 7, 32, 33, 34, 35, 36, 37, 38, 39, 40, 41, 42, 43, 44, 45, 46, 47, 48, 49, 50, 51, 52, 53, 54, 55, 56, 57, 58, 59, 60, 61, 62, 63, 64, 65, 66, 67, 68] (by decide +kernel) (by decide +kernel)
set_option maxRecDepth 20000 in
theorem gX9_chance_X9_chanceOf : GoodIn wsX9_chance (wsV RX9 145 RX9 yX9_chanceOf wsX9_chanceOf) := goodIn_app (goodIn_of _ (by decide +kernel)) ggX9_chance_X9_chanceOf
theorem dX9_chance_0 : decode cX9_chance 0 = .ok (.aload_n 0, 1) := by decide +kernel
theorem dX9_chance_1 : decode cX9_chance 1 = .ok (.iload_n 1, 1) := by decide +kernel
theorem dX9_chance_2 : decode cX9_chance 2 = .ok (.invokevirtual 121, 3) := by decide +kernel
theorem dX9_chance_5 : decode cX9_chance 5 = .ok (.ifCond .eq 16, 3) := by decide +kernel
theorem dX9_chance_8 : decode cX9_chance 8 = .ok (.aload_n 0, 1) := by decide +kernel
theorem dX9_chance_9 : decode cX9_chance 9 = .ok (.iload_n 2, 1) := by decide +kernel
theorem dX9_chance_10 : decode cX9_chance 10 = .ok (.invokevirtual 121, 3) := by decide +kernel
theorem dX9_chance_13 : decode cX9_chance 13 = .ok (.ifCond .eq 8, 3) := by decide +kernel
theorem dX9_chance_16 : decode cX9_chance 16 = .ok (.iload_n 1, 1) := by decide +kernel
theorem dX9_chance_17 : decode cX9_chance 17 = .ok (.iload_n 2, 1) := by decide +kernel
theorem dX9_chance_18 : decode cX9_chance 18 = .ok (.if_icmp .ne 11, 3) := by decide +kernel
theorem dX9_chance_21 : decode cX9_chance 21 = .ok (.aload_n 0, 1) := by decide +kernel
theorem dX9_chance_22 : decode cX9_chance 22 = .ok (.ldc2_w 109, 3) := by decide +kernel
theorem dX9_chance_25 : decode cX9_chance 25 = .ok (.invokevirtual 111, 3) := by decide +kernel
theorem dX9_chance_28 : decode cX9_chance 28 = .ok (.lreturn, 1) := by decide +kernel
theorem dX9_chance_29 : decode cX9_chance 29 = .ok (.aload_n 0, 1) := by decide +kernel
theorem dX9_chance_30 : decode cX9_chance 30 = .ok (.invokevirtual 148, 3) := by decide +kernel
theorem dX9_chance_33 : decode cX9_chance 33 = .ok (.aload_n 0, 1) := by decide +kernel
theorem dX9_chance_34 : decode cX9_chance 34 = .ok (.iload_n 1, 1) := by decide +kernel
theorem dX9_chance_35 : decode cX9_chance 35 = .ok (.iconst 1, 1) := by decide +kernel
theorem dX9_chance_36 : decode cX9_chance 36 = .ok (.iload_n 2, 1) := by decide +kernel
theorem dX9_chance_37 : decode cX9_chance 37 = .ok (.ishl, 1) := by decide +kernel
theorem dX9_chance_38 : decode cX9_chance 38 = .ok (.invokevirtual 145, 3) := by decide +kernel
theorem dX9_chance_41 : decode cX9_chance 41 = .ok (.lreturn, 1) := by decide +kernel
theorem dX9_somePlays_0 : decode cX9_somePlays 0 = .ok (.iconst 0, 1) := by decide +kernel
theorem dX9_somePlays_1 : decode cX9_somePlays 1 = .ok (.istore_n 1, 1) := by decide +kernel
theorem dX9_somePlays_2 : decode cX9_somePlays 2 = .ok (.iconst 0, 1) := by decide +kernel
theorem dX9_somePlays_3 : decode cX9_somePlays 3 = .ok (.istore_n 2, 1) := by decide +kernel
theorem dX9_somePlays_4 : decode cX9_somePlays 4 = .ok (.iload_n 2, 1) := by decide +kernel
theorem dX9_somePlays_5 : decode cX9_somePlays 5 = .ok (.iconst 5, 1) := by decide +kernel
theorem dX9_somePlays_6 : decode cX9_somePlays 6 = .ok (.if_icmp .ge 28, 3) := by decide +kernel
theorem dX9_somePlays_9 : decode cX9_somePlays 9 = .ok (.iload_n 1, 1) := by decide +kernel
theorem dX9_somePlays_10 : decode cX9_somePlays 10 = .ok (.ifCond .ne 12, 3) := by decide +kernel
theorem dX9_somePlays_13 : decode cX9_somePlays 13 = .ok (.aload_n 0, 1) := by decide +kernel
theorem dX9_somePlays_14 : decode cX9_somePlays 14 = .ok (.getfield 48, 3) := by decide +kernel
theorem dX9_somePlays_17 : decode cX9_somePlays 17 = .ok (.iload_n 2, 1) := by decide +kernel
theorem dX9_somePlays_18 : decode cX9_somePlays 18 = .ok (.baload, 1) := by decide +kernel
theorem dX9_somePlays_19 : decode cX9_somePlays 19 = .ok (.ifCond .eq 7, 3) := by decide +kernel
theorem dX9_somePlays_22 : decode cX9_somePlays 22 = .ok (.iconst 1, 1) := by decide +kernel
theorem dX9_somePlays_23 : decode cX9_somePlays 23 = .ok (.goto 4, 3) := by decide +kernel
theorem dX9_somePlays_26 : decode cX9_somePlays 26 = .ok (.iconst 0, 1) := by decide +kernel
theorem dX9_somePlays_27 : decode cX9_somePlays 27 = .ok (.istore_n 1, 1) := by decide +kernel
theorem dX9_somePlays_28 : decode cX9_somePlays 28 = .ok (.iinc 2 1, 3) := by decide +kernel
theorem dX9_somePlays_31 : decode cX9_somePlays 31 = .ok (.goto (-27), 3) := by decide +kernel
theorem dX9_somePlays_34 : decode cX9_somePlays 34 = .ok (.iload_n 1, 1) := by decide +kernel
theorem dX9_somePlays_35 : decode cX9_somePlays 35 = .ok (.ireturn, 1) := by decide +kernel
set_option maxRecDepth 20000 in
theorem ggX9_season_X9_somePlays : GoodIn wsX9_season wsX9_somePlays := goodIn_r _ [10, 11, 23, 24, 25, 26, 27, 28, 29, 30, 31, 32, 33, 34, 35, 36, 37, 38, 39, 40, 41, 42, 43, 44, 45, 46, 47, 48, 49, 50, 51, 52, 53, 54, 55] (by decide +kernel) (by decide +kernel)
set_option maxRecDepth 20000 in
theorem gX9_season_X9_somePlays : GoodIn wsX9_season (wsV RX9 151 RX9 yX9_somePlays wsX9_somePlays) := goodIn_app (goodIn_of _ (by decide +kernel)) ggX9_season_X9_somePlays
set_option maxRecDepth 20000 in
theorem ggX9_season_X9_finding : GoodIn wsX9_season wsX9_finding := goodIn_r _ [15, 16, 17, 23, 24, 25, 26, 27, 28, 29, 30, 31, 32, 33, 34, 35, 36, 37, 38, 39, 40, 41, 42, 43, 44, 45, 46, 47, 48, 49, 50, 51, 52, 53, 54, 55] (by decide +kernel) (by decide +kernel)
set_option maxRecDepth 20000 in
theorem gX9_season_X9_finding : GoodIn wsX9_season (wsV RX9 111 RX9 yX9_finding wsX9_finding) := goodIn_app (goodIn_of _ (by decide +kernel)) ggX9_season_X9_finding
set_option maxRecDepth 20000 in
theorem ggX9_season_X9_middle : GoodIn wsX9_season wsX9_middle := goodIn_r _ [20, 21, 22] (by decide +kernel) (by decide +kernel)
set_option maxRecDepth 20000 in
theorem gX9_season_X9_middle : GoodIn wsX9_season (va_wsS RX9 117 yX9_middle wsX9_middle) := goodIn_app (goodIn_of _ (by decide +kernel)) ggX9_season_X9_middle
theorem dX9_season_0 : decode cX9_season 0 = .ok (.aload_n 0, 1) := by decide +kernel
theorem dX9_season_1 : decode cX9_season 1 = .ok (.invokevirtual 151, 3) := by decide +kernel
theorem dX9_season_4 : decode cX9_season 4 = .ok (.ifCond .eq 11, 3) := by decide +kernel
theorem dX9_season_7 : decode cX9_season 7 = .ok (.aload_n 0, 1) := by decide +kernel
theorem dX9_season_8 : decode cX9_season 8 = .ok (.ldc2_w 155, 3) := by decide +kernel
theorem dX9_season_11 : decode cX9_season 11 = .ok (.invokevirtual 111, 3) := by decide +kernel
theorem dX9_season_14 : decode cX9_season 14 = .ok (.lreturn, 1) := by decide +kernel
theorem dX9_season_15 : decode cX9_season 15 = .ok (.iconst 0, 1) := by decide +kernel
theorem dX9_season_16 : decode cX9_season 16 = .ok (.istore_n 1, 1) := by decide +kernel
theorem dX9_season_17 : decode cX9_season 17 = .ok (.iload_n 1, 1) := by decide +kernel
theorem dX9_season_18 : decode cX9_season 18 = .ok (.aload_n 0, 1) := by decide +kernel
theorem dX9_season_19 : decode cX9_season 19 = .ok (.getfield 94, 3) := by decide +kernel
theorem dX9_season_22 : decode cX9_season 22 = .ok (.if_icmp .ge 87, 3) := by decide +kernel
theorem dX9_season_25 : decode cX9_season 25 = .ok (.ldc2_w 143, 3) := by decide +kernel
theorem dX9_season_28 : decode cX9_season 28 = .ok (.lstore_n 2, 1) := by decide +kernel
theorem dX9_season_29 : decode cX9_season 29 = .ok (.iconst 0, 1) := by decide +kernel
theorem dX9_season_30 : decode cX9_season 30 = .ok (.istore 4, 2) := by decide +kernel
theorem dX9_season_32 : decode cX9_season 32 = .ok (.iload 4, 2) := by decide +kernel
theorem dX9_season_34 : decode cX9_season 34 = .ok (.bipush 7, 2) := by decide +kernel
theorem dX9_season_36 : decode cX9_season 36 = .ok (.if_icmp .ge 52, 3) := by decide +kernel
theorem dX9_season_39 : decode cX9_season 39 = .ok (.aload_n 0, 1) := by decide +kernel
theorem dX9_season_40 : decode cX9_season 40 = .ok (.getfield 16, 3) := by decide +kernel
theorem dX9_season_43 : decode cX9_season 43 = .ok (.bipush 7, 2) := by decide +kernel
theorem dX9_season_45 : decode cX9_season 45 = .ok (.iload_n 1, 1) := by decide +kernel
theorem dX9_season_46 : decode cX9_season 46 = .ok (.imul, 1) := by decide +kernel
theorem dX9_season_47 : decode cX9_season 47 = .ok (.iload 4, 2) := by decide +kernel
theorem dX9_season_49 : decode cX9_season 49 = .ok (.iadd, 1) := by decide +kernel
theorem dX9_season_50 : decode cX9_season 50 = .ok (.laload, 1) := by decide +kernel
theorem dX9_season_51 : decode cX9_season 51 = .ok (.iload 4, 2) := by decide +kernel
theorem dX9_season_53 : decode cX9_season 53 = .ok (.invokestatic 117, 3) := by decide +kernel
theorem dX9_season_56 : decode cX9_season 56 = .ok (.ladd, 1) := by decide +kernel
theorem dX9_season_57 : decode cX9_season 57 = .ok (.ldc2_w 107, 3) := by decide +kernel
theorem dX9_season_60 : decode cX9_season 60 = .ok (.ldiv, 1) := by decide +kernel
theorem dX9_season_61 : decode cX9_season 61 = .ok (.lstore 5, 2) := by decide +kernel
theorem dX9_season_63 : decode cX9_season 63 = .ok (.aload_n 0, 1) := by decide +kernel
theorem dX9_season_64 : decode cX9_season 64 = .ok (.getfield 16, 3) := by decide +kernel
theorem dX9_season_67 : decode cX9_season 67 = .ok (.bipush 7, 2) := by decide +kernel
theorem dX9_season_69 : decode cX9_season 69 = .ok (.iload_n 1, 1) := by decide +kernel
theorem dX9_season_70 : decode cX9_season 70 = .ok (.imul, 1) := by decide +kernel
theorem dX9_season_71 : decode cX9_season 71 = .ok (.iload 4, 2) := by decide +kernel
theorem dX9_season_73 : decode cX9_season 73 = .ok (.iadd, 1) := by decide +kernel
theorem dX9_season_74 : decode cX9_season 74 = .ok (.lload 5, 2) := by decide +kernel
theorem dX9_season_76 : decode cX9_season 76 = .ok (.lastore, 1) := by decide +kernel
theorem dX9_season_77 : decode cX9_season 77 = .ok (.lload_n 2, 1) := by decide +kernel
theorem dX9_season_78 : decode cX9_season 78 = .ok (.lload 5, 2) := by decide +kernel
theorem dX9_season_80 : decode cX9_season 80 = .ok (.lsub, 1) := by decide +kernel
theorem dX9_season_81 : decode cX9_season 81 = .ok (.lstore_n 2, 1) := by decide +kernel
theorem dX9_season_82 : decode cX9_season 82 = .ok (.iinc 4 1, 3) := by decide +kernel
theorem dX9_season_85 : decode cX9_season 85 = .ok (.goto (-53), 3) := by decide +kernel
theorem dX9_season_88 : decode cX9_season 88 = .ok (.aload_n 0, 1) := by decide +kernel
theorem dX9_season_89 : decode cX9_season 89 = .ok (.getfield 16, 3) := by decide +kernel
theorem dX9_season_92 : decode cX9_season 92 = .ok (.bipush 7, 2) := by decide +kernel
theorem dX9_season_94 : decode cX9_season 94 = .ok (.iload_n 1, 1) := by decide +kernel
theorem dX9_season_95 : decode cX9_season 95 = .ok (.imul, 1) := by decide +kernel
theorem dX9_season_96 : decode cX9_season 96 = .ok (.iconst 3, 1) := by decide +kernel
theorem dX9_season_97 : decode cX9_season 97 = .ok (.iadd, 1) := by decide +kernel
theorem dX9_season_98 : decode cX9_season 98 = .ok (.dup2, 1) := by decide +kernel
theorem dX9_season_99 : decode cX9_season 99 = .ok (.laload, 1) := by decide +kernel
theorem dX9_season_100 : decode cX9_season 100 = .ok (.lload_n 2, 1) := by decide +kernel
theorem dX9_season_101 : decode cX9_season 101 = .ok (.ladd, 1) := by decide +kernel
theorem dX9_season_102 : decode cX9_season 102 = .ok (.lastore, 1) := by decide +kernel
theorem dX9_season_103 : decode cX9_season 103 = .ok (.iinc 1 1, 3) := by decide +kernel
theorem dX9_season_106 : decode cX9_season 106 = .ok (.goto (-89), 3) := by decide +kernel
theorem dX9_season_109 : decode cX9_season 109 = .ok (.aload_n 0, 1) := by decide +kernel
theorem dX9_season_110 : decode cX9_season 110 = .ok (.getfield 94, 3) := by decide +kernel
theorem dX9_season_113 : decode cX9_season 113 = .ok (.i2l, 1) := by decide +kernel
theorem dX9_season_114 : decode cX9_season 114 = .ok (.lreturn, 1) := by decide +kernel
set_option maxRecDepth 20000 in
theorem ggX9_size_X9_in : GoodIn wsX9_size wsX9_in := goodIn_r _ [9] (by decide +kernel) (by decide +kernel)
set_option maxRecDepth 20000 in
theorem gX9_size_X9_in : GoodIn wsX9_size (va_wsS RX9 97 yX9_in wsX9_in) := goodIn_app (goodIn_of _ (by decide +kernel)) ggX9_size_X9_in
set_option maxRecDepth 20000 in
theorem ggX9_size_X9_finding : GoodIn wsX9_size wsX9_finding := goodIn_r _ [13, 14, 15, 21, 22, 23, 24, 25, 26, 27, 28, 29, 30, 31, 32, 33, 34, 35, 36, 37, 38, 39, 40, 41, 42, 43, 44, 45, 46, 47, 48, 49, 50, 51, 52, 53] (by decide +kernel) (by decide +kernel)
set_option maxRecDepth 20000 in
theorem gX9_size_X9_finding : GoodIn wsX9_size (wsV RX9 111 RX9 yX9_finding wsX9_finding) := goodIn_app (goodIn_of _ (by decide +kernel)) ggX9_size_X9_finding
set_option maxRecDepth 20000 in
theorem ggX9_size_X9_somePlays : GoodIn wsX9_size wsX9_somePlays := goodIn_r _ [19, 20, 21, 22, 23, 24, 25, 26, 27, 28, 29, 30, 31, 32, 33, 34, 35, 36, 37, 38, 39, 40, 41, 42, 43, 44, 45, 46, 47, 48, 49, 50, 51, 52, 53] (by decide +kernel) (by decide +kernel)
set_option maxRecDepth 20000 in
theorem gX9_size_X9_somePlays : GoodIn wsX9_size (wsV RX9 151 RX9 yX9_somePlays wsX9_somePlays) := goodIn_app (goodIn_of _ (by decide +kernel)) ggX9_size_X9_somePlays
theorem dX9_size_0 : decode cX9_size 0 = .ok (.iload_n 1, 1) := by decide +kernel
theorem dX9_size_1 : decode cX9_size 1 = .ok (.i2l, 1) := by decide +kernel
theorem dX9_size_2 : decode cX9_size 2 = .ok (.lconst 1, 1) := by decide +kernel
theorem dX9_size_3 : decode cX9_size 3 = .ok (.ldc2_w 157, 3) := by decide +kernel
theorem dX9_size_6 : decode cX9_size 6 = .ok (.invokestatic 97, 3) := by decide +kernel
theorem dX9_size_9 : decode cX9_size 9 = .ok (.ifCond .ne 11, 3) := by decide +kernel
theorem dX9_size_12 : decode cX9_size 12 = .ok (.aload_n 0, 1) := by decide +kernel
theorem dX9_size_13 : decode cX9_size 13 = .ok (.ldc2_w 109, 3) := by decide +kernel
theorem dX9_size_16 : decode cX9_size 16 = .ok (.invokevirtual 111, 3) := by decide +kernel
theorem dX9_size_19 : decode cX9_size 19 = .ok (.lreturn, 1) := by decide +kernel
theorem dX9_size_20 : decode cX9_size 20 = .ok (.aload_n 0, 1) := by decide +kernel
theorem dX9_size_21 : decode cX9_size 21 = .ok (.invokevirtual 151, 3) := by decide +kernel
theorem dX9_size_24 : decode cX9_size 24 = .ok (.ifCond .ne 10, 3) := by decide +kernel
theorem dX9_size_27 : decode cX9_size 27 = .ok (.aload_n 0, 1) := by decide +kernel
theorem dX9_size_28 : decode cX9_size 28 = .ok (.getfield 159, 3) := by decide +kernel
theorem dX9_size_31 : decode cX9_size 31 = .ok (.ifCond .le 11, 3) := by decide +kernel
theorem dX9_size_34 : decode cX9_size 34 = .ok (.aload_n 0, 1) := by decide +kernel
theorem dX9_size_35 : decode cX9_size 35 = .ok (.ldc2_w 155, 3) := by decide +kernel
theorem dX9_size_38 : decode cX9_size 38 = .ok (.invokevirtual 111, 3) := by decide +kernel
theorem dX9_size_41 : decode cX9_size 41 = .ok (.lreturn, 1) := by decide +kernel
theorem dX9_size_42 : decode cX9_size 42 = .ok (.aload_n 0, 1) := by decide +kernel
theorem dX9_size_43 : decode cX9_size 43 = .ok (.getfield 26, 3) := by decide +kernel
theorem dX9_size_46 : decode cX9_size 46 = .ok (.istore_n 2, 1) := by decide +kernel
theorem dX9_size_47 : decode cX9_size 47 = .ok (.aload_n 0, 1) := by decide +kernel
theorem dX9_size_48 : decode cX9_size 48 = .ok (.iload_n 1, 1) := by decide +kernel
theorem dX9_size_49 : decode cX9_size 49 = .ok (.putfield 26, 3) := by decide +kernel
theorem dX9_size_52 : decode cX9_size 52 = .ok (.iload_n 2, 1) := by decide +kernel
theorem dX9_size_53 : decode cX9_size 53 = .ok (.i2l, 1) := by decide +kernel
theorem dX9_size_54 : decode cX9_size 54 = .ok (.lreturn, 1) := by decide +kernel
set_option maxRecDepth 20000 in
theorem ggX9_bounds_X9_in : GoodIn wsX9_bounds wsX9_in := goodIn_r _ [9] (by decide +kernel) (by decide +kernel)
set_option maxRecDepth 20000 in
theorem gX9_bounds_X9_in : GoodIn wsX9_bounds (va_wsS RX9 97 yX9_in wsX9_in) := goodIn_app (goodIn_of _ (by decide +kernel)) ggX9_bounds_X9_in
set_option maxRecDepth 20000 in
theorem ggX9_bounds_X9_finding : GoodIn wsX9_bounds wsX9_finding := goodIn_r _ [13, 14, 15, 16, 17, 18, 19, 20, 21, 22, 23, 24, 25, 26, 27, 28, 29, 30, 31, 32, 33, 34, 35, 36, 37, 38, 39, 40, 41, 42, 43, 44, 45, 46, 47, 48] (by decide +kernel) (by decide +kernel)
set_option maxRecDepth 20000 in
theorem gX9_bounds_X9_finding : GoodIn wsX9_bounds (wsV RX9 111 RX9 yX9_finding wsX9_finding) := goodIn_app (goodIn_of _ (by decide +kernel)) ggX9_bounds_X9_finding
theorem dX9_bounds_0 : decode cX9_bounds 0 = .ok (.iload_n 1, 1) := by decide +kernel
theorem dX9_bounds_1 : decode cX9_bounds 1 = .ok (.i2l, 1) := by decide +kernel
theorem dX9_bounds_2 : decode cX9_bounds 2 = .ok (.lconst 0, 1) := by decide +kernel
theorem dX9_bounds_3 : decode cX9_bounds 3 = .ok (.ldc2_w 162, 3) := by decide +kernel
theorem dX9_bounds_6 : decode cX9_bounds 6 = .ok (.invokestatic 97, 3) := by decide +kernel
theorem dX9_bounds_9 : decode cX9_bounds 9 = .ok (.ifCond .eq 27, 3) := by decide +kernel
theorem dX9_bounds_12 : decode cX9_bounds 12 = .ok (.iload_n 2, 1) := by decide +kernel
theorem dX9_bounds_13 : decode cX9_bounds 13 = .ok (.i2l, 1) := by decide +kernel
theorem dX9_bounds_14 : decode cX9_bounds 14 = .ok (.lconst 0, 1) := by decide +kernel
theorem dX9_bounds_15 : decode cX9_bounds 15 = .ok (.ldc2_w 162, 3) := by decide +kernel
theorem dX9_bounds_18 : decode cX9_bounds 18 = .ok (.invokestatic 97, 3) := by decide +kernel
theorem dX9_bounds_21 : decode cX9_bounds 21 = .ok (.ifCond .eq 15, 3) := by decide +kernel
theorem dX9_bounds_24 : decode cX9_bounds 24 = .ok (.iload_n 3, 1) := by decide +kernel
theorem dX9_bounds_25 : decode cX9_bounds 25 = .ok (.i2l, 1) := by decide +kernel
theorem dX9_bounds_26 : decode cX9_bounds 26 = .ok (.lconst 0, 1) := by decide +kernel
theorem dX9_bounds_27 : decode cX9_bounds 27 = .ok (.ldc2_w 162, 3) := by decide +kernel
theorem dX9_bounds_30 : decode cX9_bounds 30 = .ok (.invokestatic 97, 3) := by decide +kernel
theorem dX9_bounds_33 : decode cX9_bounds 33 = .ok (.ifCond .ne 11, 3) := by decide +kernel
theorem dX9_bounds_36 : decode cX9_bounds 36 = .ok (.aload_n 0, 1) := by decide +kernel
theorem dX9_bounds_37 : decode cX9_bounds 37 = .ok (.ldc2_w 109, 3) := by decide +kernel
theorem dX9_bounds_40 : decode cX9_bounds 40 = .ok (.invokevirtual 111, 3) := by decide +kernel
theorem dX9_bounds_43 : decode cX9_bounds 43 = .ok (.lreturn, 1) := by decide +kernel
theorem dX9_bounds_44 : decode cX9_bounds 44 = .ok (.aload_n 0, 1) := by decide +kernel
theorem dX9_bounds_45 : decode cX9_bounds 45 = .ok (.iload_n 1, 1) := by decide +kernel
theorem dX9_bounds_46 : decode cX9_bounds 46 = .ok (.putfield 31, 3) := by decide +kernel
theorem dX9_bounds_49 : decode cX9_bounds 49 = .ok (.aload_n 0, 1) := by decide +kernel
theorem dX9_bounds_50 : decode cX9_bounds 50 = .ok (.iload_n 2, 1) := by decide +kernel
theorem dX9_bounds_51 : decode cX9_bounds 51 = .ok (.putfield 35, 3) := by decide +kernel
theorem dX9_bounds_54 : decode cX9_bounds 54 = .ok (.aload_n 0, 1) := by decide +kernel
theorem dX9_bounds_55 : decode cX9_bounds 55 = .ok (.iload_n 3, 1) := by decide +kernel
theorem dX9_bounds_56 : decode cX9_bounds 56 = .ok (.putfield 39, 3) := by decide +kernel
theorem dX9_bounds_59 : decode cX9_bounds 59 = .ok (.lconst 1, 1) := by decide +kernel
theorem dX9_bounds_60 : decode cX9_bounds 60 = .ok (.lreturn, 1) := by decide +kernel
theorem dX9_partyOf_0 : decode cX9_partyOf 0 = .ok (.iconst 0, 1) := by decide +kernel
theorem dX9_partyOf_1 : decode cX9_partyOf 1 = .ok (.istore_n 2, 1) := by decide +kernel
theorem dX9_partyOf_2 : decode cX9_partyOf 2 = .ok (.iload_n 2, 1) := by decide +kernel
theorem dX9_partyOf_3 : decode cX9_partyOf 3 = .ok (.aload_n 0, 1) := by decide +kernel
theorem dX9_partyOf_4 : decode cX9_partyOf 4 = .ok (.getfield 159, 3) := by decide +kernel
theorem dX9_partyOf_7 : decode cX9_partyOf 7 = .ok (.if_icmp .ge 25, 3) := by decide +kernel
theorem dX9_partyOf_10 : decode cX9_partyOf 10 = .ok (.aload_n 0, 1) := by decide +kernel
theorem dX9_partyOf_11 : decode cX9_partyOf 11 = .ok (.getfield 42, 3) := by decide +kernel
theorem dX9_partyOf_14 : decode cX9_partyOf 14 = .ok (.iload_n 2, 1) := by decide +kernel
theorem dX9_partyOf_15 : decode cX9_partyOf 15 = .ok (.iaload, 1) := by decide +kernel
theorem dX9_partyOf_16 : decode cX9_partyOf 16 = .ok (.iload_n 1, 1) := by decide +kernel
theorem dX9_partyOf_17 : decode cX9_partyOf 17 = .ok (.ishr, 1) := by decide +kernel
theorem dX9_partyOf_18 : decode cX9_partyOf 18 = .ok (.iconst 1, 1) := by decide +kernel
theorem dX9_partyOf_19 : decode cX9_partyOf 19 = .ok (.iand, 1) := by decide +kernel
theorem dX9_partyOf_20 : decode cX9_partyOf 20 = .ok (.iconst 1, 1) := by decide +kernel
theorem dX9_partyOf_21 : decode cX9_partyOf 21 = .ok (.if_icmp .ne 5, 3) := by decide +kernel
theorem dX9_partyOf_24 : decode cX9_partyOf 24 = .ok (.iload_n 2, 1) := by decide +kernel
theorem dX9_partyOf_25 : decode cX9_partyOf 25 = .ok (.ireturn, 1) := by decide +kernel
theorem dX9_partyOf_26 : decode cX9_partyOf 26 = .ok (.iinc 2 1, 3) := by decide +kernel
theorem dX9_partyOf_29 : decode cX9_partyOf 29 = .ok (.goto (-27), 3) := by decide +kernel
theorem dX9_partyOf_32 : decode cX9_partyOf 32 = .ok (.iconst (-1), 1) := by decide +kernel
theorem dX9_partyOf_33 : decode cX9_partyOf 33 = .ok (.ireturn, 1) := by decide +kernel
theorem dX9_matchOf_0 : decode cX9_matchOf 0 = .ok (.iconst 0, 1) := by decide +kernel
theorem dX9_matchOf_1 : decode cX9_matchOf 1 = .ok (.istore_n 2, 1) := by decide +kernel
theorem dX9_matchOf_2 : decode cX9_matchOf 2 = .ok (.iload_n 2, 1) := by decide +kernel
theorem dX9_matchOf_3 : decode cX9_matchOf 3 = .ok (.iconst 5, 1) := by decide +kernel
theorem dX9_matchOf_4 : decode cX9_matchOf 4 = .ok (.if_icmp .ge 49, 3) := by decide +kernel
theorem dX9_matchOf_7 : decode cX9_matchOf 7 = .ok (.aload_n 0, 1) := by decide +kernel
theorem dX9_matchOf_8 : decode cX9_matchOf 8 = .ok (.getfield 48, 3) := by decide +kernel
theorem dX9_matchOf_11 : decode cX9_matchOf 11 = .ok (.iload_n 2, 1) := by decide +kernel
theorem dX9_matchOf_12 : decode cX9_matchOf 12 = .ok (.baload, 1) := by decide +kernel
theorem dX9_matchOf_13 : decode cX9_matchOf 13 = .ok (.ifCond .eq 34, 3) := by decide +kernel
theorem dX9_matchOf_16 : decode cX9_matchOf 16 = .ok (.aload_n 0, 1) := by decide +kernel
theorem dX9_matchOf_17 : decode cX9_matchOf 17 = .ok (.getfield 52, 3) := by decide +kernel
theorem dX9_matchOf_20 : decode cX9_matchOf 20 = .ok (.iload_n 2, 1) := by decide +kernel
theorem dX9_matchOf_21 : decode cX9_matchOf 21 = .ok (.iaload, 1) := by decide +kernel
theorem dX9_matchOf_22 : decode cX9_matchOf 22 = .ok (.aload_n 0, 1) := by decide +kernel
theorem dX9_matchOf_23 : decode cX9_matchOf 23 = .ok (.getfield 55, 3) := by decide +kernel
theorem dX9_matchOf_26 : decode cX9_matchOf 26 = .ok (.iload_n 2, 1) := by decide +kernel
theorem dX9_matchOf_27 : decode cX9_matchOf 27 = .ok (.iaload, 1) := by decide +kernel
theorem dX9_matchOf_28 : decode cX9_matchOf 28 = .ok (.ior, 1) := by decide +kernel
theorem dX9_matchOf_29 : decode cX9_matchOf 29 = .ok (.aload_n 0, 1) := by decide +kernel
theorem dX9_matchOf_30 : decode cX9_matchOf 30 = .ok (.getfield 58, 3) := by decide +kernel
theorem dX9_matchOf_33 : decode cX9_matchOf 33 = .ok (.iload_n 2, 1) := by decide +kernel
theorem dX9_matchOf_34 : decode cX9_matchOf 34 = .ok (.iaload, 1) := by decide +kernel
theorem dX9_matchOf_35 : decode cX9_matchOf 35 = .ok (.iconst (-1), 1) := by decide +kernel
theorem dX9_matchOf_36 : decode cX9_matchOf 36 = .ok (.ixor, 1) := by decide +kernel
theorem dX9_matchOf_37 : decode cX9_matchOf 37 = .ok (.iand, 1) := by decide +kernel
theorem dX9_matchOf_38 : decode cX9_matchOf 38 = .ok (.iconst 1, 1) := by decide +kernel
theorem dX9_matchOf_39 : decode cX9_matchOf 39 = .ok (.iload_n 1, 1) := by decide +kernel
theorem dX9_matchOf_40 : decode cX9_matchOf 40 = .ok (.ishl, 1) := by decide +kernel
theorem dX9_matchOf_41 : decode cX9_matchOf 41 = .ok (.iand, 1) := by decide +kernel
theorem dX9_matchOf_42 : decode cX9_matchOf 42 = .ok (.ifCond .eq 5, 3) := by decide +kernel
theorem dX9_matchOf_45 : decode cX9_matchOf 45 = .ok (.iload_n 2, 1) := by decide +kernel
theorem dX9_matchOf_46 : decode cX9_matchOf 46 = .ok (.ireturn, 1) := by decide +kernel
theorem dX9_matchOf_47 : decode cX9_matchOf 47 = .ok (.iinc 2 1, 3) := by decide +kernel
theorem dX9_matchOf_50 : decode cX9_matchOf 50 = .ok (.goto (-48), 3) := by decide +kernel
theorem dX9_matchOf_53 : decode cX9_matchOf 53 = .ok (.iconst (-1), 1) := by decide +kernel
theorem dX9_matchOf_54 : decode cX9_matchOf 54 = .ok (.ireturn, 1) := by decide +kernel
set_option maxRecDepth 20000 in
theorem ggX9_isBusy_X9_partyOf : GoodIn wsX9_isBusy wsX9_partyOf := goodIn_r _ [5, 6, 7, 16, 17, 18, 19, 20, 21, 22, 23, 24, 25, 26, 27, 28, 29, 30, 31, 32, 33, 34, 35, 36, 37, 38, 39, 40, 41, 42, 43, 44, 45, 46, 47, 48] (by decide +kernel) (by decide +kernel)
set_option maxRecDepth 20000 in
theorem gX9_isBusy_X9_partyOf : GoodIn wsX9_isBusy (wsV RX9 164 RX9 yX9_partyOf wsX9_partyOf) := goodIn_app (goodIn_of _ (by decide +kernel)) ggX9_isBusy_X9_partyOf
set_option maxRecDepth 20000 in
theorem ggX9_isBusy_X9_matchOf : GoodIn wsX9_isBusy wsX9_matchOf := goodIn_r _ [11, 12, 13, 14, 15, 16, 17, 18, 19, 20, 21, 22, 23, 24, 25, 26, 27, 28, 29, 30, 31, 32, 33, 34, 35, 36, 37, 38, 39, 40, 41, 42, 43, 44, 45, 46, 47, 48] (by decide +kernel) (by decide +kernel)
set_option maxRecDepth 20000 in
theorem gX9_isBusy_X9_matchOf : GoodIn wsX9_isBusy (wsV RX9 167 RX9 yX9_matchOf wsX9_matchOf) := goodIn_app (goodIn_of _ (by decide +kernel)) ggX9_isBusy_X9_matchOf
theorem dX9_isBusy_0 : decode cX9_isBusy 0 = .ok (.aload_n 0, 1) := by decide +kernel
theorem dX9_isBusy_1 : decode cX9_isBusy 1 = .ok (.iload_n 1, 1) := by decide +kernel
theorem dX9_isBusy_2 : decode cX9_isBusy 2 = .ok (.invokevirtual 164, 3) := by decide +kernel
theorem dX9_isBusy_5 : decode cX9_isBusy 5 = .ok (.ifCond .ge 11, 3) := by decide +kernel
theorem dX9_isBusy_8 : decode cX9_isBusy 8 = .ok (.aload_n 0, 1) := by decide +kernel
theorem dX9_isBusy_9 : decode cX9_isBusy 9 = .ok (.iload_n 1, 1) := by decide +kernel
theorem dX9_isBusy_10 : decode cX9_isBusy 10 = .ok (.invokevirtual 167, 3) := by decide +kernel
theorem dX9_isBusy_13 : decode cX9_isBusy 13 = .ok (.ifCond .lt 7, 3) := by decide +kernel
theorem dX9_isBusy_16 : decode cX9_isBusy 16 = .ok (.iconst 1, 1) := by decide +kernel
theorem dX9_isBusy_17 : decode cX9_isBusy 17 = .ok (.goto 4, 3) := by decide +kernel
theorem dX9_isBusy_20 : decode cX9_isBusy 20 = .ok (.iconst 0, 1) := by decide +kernel
theorem dX9_isBusy_21 : decode cX9_isBusy 21 = .ok (.ireturn, 1) := by decide +kernel
set_option maxRecDepth 20000 in
theorem ggX9_wait_X9_isPlayer : GoodIn wsX9_wait wsX9_isPlayer := goodIn_r _ [14, 15, 16, 17, 13, 18, 41, 42, 43, 44, 45, 46, 47, 48, 49, 50, 51, 52, 53, 54, 55, 56, 57, 58, 59, 60, 61, 62, 63, 64, 65, 66, 67, 68, 69, 70, 71, 72, 73] (by decide +kernel) (by decide +kernel)
set_option maxRecDepth 20000 in
theorem gX9_wait_X9_isPlayer : GoodIn wsX9_wait (wsV RX9 121 RX9 yX9_isPlayer wsX9_isPlayer) := goodIn_app (goodIn_of _ (by decide +kernel)) ggX9_wait_X9_isPlayer
set_option maxRecDepth 20000 in
theorem ggX9_wait_X9_finding : GoodIn wsX9_wait wsX9_finding := goodIn_r _ [22, 23, 24, 41, 42, 43, 44, 45, 46, 47, 48, 49, 50, 51, 52, 53, 54, 55, 56, 57, 58, 59, 60, 61, 62, 63, 64, 65, 66, 67, 68, 69, 70, 71, 72, 73] (by decide +kernel) (by decide +kernel)
set_option maxRecDepth 20000 in
theorem gX9_wait_X9_finding : GoodIn wsX9_wait (wsV RX9 111 RX9 yX9_finding wsX9_finding) := goodIn_app (goodIn_of _ (by decide +kernel)) ggX9_wait_X9_finding
set_option maxRecDepth 20000 in
theorem ggX9_wait_X9_isBusy : GoodIn wsX9_wait wsX9_isBusy := goodIn_r _ [28, 29, 30, 31, 13, 32, 5, 7, 33, 34, 35, 36, 37, 38, 39, 40, 41, 42, 43, 44, 45, 46, 47, 48, 49, 50, 51, 52, 53, 54, 55, 56, 57, 58, 59, 60, 61, 62, 63, 64, 65, 66, 67, 68, 69, 70, 71, 72, 73] (by decide +kernel) (by decide +kernel)
set_option maxRecDepth 20000 in
theorem gX9_wait_X9_isBusy : GoodIn wsX9_wait (wsV RX9 170 RX9 yX9_isBusy wsX9_isBusy) := goodIn_app (goodIn_of _ (by decide +kernel)) ggX9_wait_X9_isBusy
theorem dX9_wait_0 : decode cX9_wait 0 = .ok (.aload_n 0, 1) := by decide +kernel
theorem dX9_wait_1 : decode cX9_wait 1 = .ok (.iload_n 1, 1) := by decide +kernel
theorem dX9_wait_2 : decode cX9_wait 2 = .ok (.invokevirtual 121, 3) := by decide +kernel
theorem dX9_wait_5 : decode cX9_wait 5 = .ok (.ifCond .eq 33, 3) := by decide +kernel
theorem dX9_wait_8 : decode cX9_wait 8 = .ok (.iload_n 2, 1) := by decide +kernel
theorem dX9_wait_9 : decode cX9_wait 9 = .ok (.iconst (-1), 1) := by decide +kernel
theorem dX9_wait_10 : decode cX9_wait 10 = .ok (.if_icmp .eq 11, 3) := by decide +kernel
theorem dX9_wait_13 : decode cX9_wait 13 = .ok (.aload_n 0, 1) := by decide +kernel
theorem dX9_wait_14 : decode cX9_wait 14 = .ok (.iload_n 2, 1) := by decide +kernel
theorem dX9_wait_15 : decode cX9_wait 15 = .ok (.invokevirtual 121, 3) := by decide +kernel
theorem dX9_wait_18 : decode cX9_wait 18 = .ok (.ifCond .eq 20, 3) := by decide +kernel
theorem dX9_wait_21 : decode cX9_wait 21 = .ok (.iload_n 3, 1) := by decide +kernel
theorem dX9_wait_22 : decode cX9_wait 22 = .ok (.iconst (-1), 1) := by decide +kernel
theorem dX9_wait_23 : decode cX9_wait 23 = .ok (.if_icmp .eq 11, 3) := by decide +kernel
theorem dX9_wait_26 : decode cX9_wait 26 = .ok (.aload_n 0, 1) := by decide +kernel
theorem dX9_wait_27 : decode cX9_wait 27 = .ok (.iload_n 3, 1) := by decide +kernel
theorem dX9_wait_28 : decode cX9_wait 28 = .ok (.invokevirtual 121, 3) := by decide +kernel
theorem dX9_wait_31 : decode cX9_wait 31 = .ok (.ifCond .eq 7, 3) := by decide +kernel
theorem dX9_wait_34 : decode cX9_wait 34 = .ok (.iconst 1, 1) := by decide +kernel
theorem dX9_wait_35 : decode cX9_wait 35 = .ok (.goto 4, 3) := by decide +kernel
theorem dX9_wait_38 : decode cX9_wait 38 = .ok (.iconst 0, 1) := by decide +kernel
theorem dX9_wait_39 : decode cX9_wait 39 = .ok (.istore 4, 2) := by decide +kernel
theorem dX9_wait_41 : decode cX9_wait 41 = .ok (.iload 4, 2) := by decide +kernel
theorem dX9_wait_43 : decode cX9_wait 43 = .ok (.ifCond .eq 33, 3) := by decide +kernel
theorem dX9_wait_46 : decode cX9_wait 46 = .ok (.iload_n 2, 1) := by decide +kernel
theorem dX9_wait_47 : decode cX9_wait 47 = .ok (.iconst (-1), 1) := by decide +kernel
theorem dX9_wait_48 : decode cX9_wait 48 = .ok (.if_icmp .ne 8, 3) := by decide +kernel
theorem dX9_wait_51 : decode cX9_wait 51 = .ok (.iload_n 3, 1) := by decide +kernel
theorem dX9_wait_52 : decode cX9_wait 52 = .ok (.iconst (-1), 1) := by decide +kernel
theorem dX9_wait_53 : decode cX9_wait 53 = .ok (.if_icmp .ne 23, 3) := by decide +kernel
theorem dX9_wait_56 : decode cX9_wait 56 = .ok (.iload_n 1, 1) := by decide +kernel
theorem dX9_wait_57 : decode cX9_wait 57 = .ok (.iload_n 2, 1) := by decide +kernel
theorem dX9_wait_58 : decode cX9_wait 58 = .ok (.if_icmp .eq 18, 3) := by decide +kernel
theorem dX9_wait_61 : decode cX9_wait 61 = .ok (.iload_n 1, 1) := by decide +kernel
theorem dX9_wait_62 : decode cX9_wait 62 = .ok (.iload_n 3, 1) := by decide +kernel
theorem dX9_wait_63 : decode cX9_wait 63 = .ok (.if_icmp .eq 13, 3) := by decide +kernel
theorem dX9_wait_66 : decode cX9_wait 66 = .ok (.iload_n 2, 1) := by decide +kernel
theorem dX9_wait_67 : decode cX9_wait 67 = .ok (.iload_n 3, 1) := by decide +kernel
theorem dX9_wait_68 : decode cX9_wait 68 = .ok (.if_icmp .ne 16, 3) := by decide +kernel
theorem dX9_wait_71 : decode cX9_wait 71 = .ok (.iload_n 2, 1) := by decide +kernel
theorem dX9_wait_72 : decode cX9_wait 72 = .ok (.iconst (-1), 1) := by decide +kernel
theorem dX9_wait_73 : decode cX9_wait 73 = .ok (.if_icmp .eq 11, 3) := by decide +kernel
theorem dX9_wait_76 : decode cX9_wait 76 = .ok (.aload_n 0, 1) := by decide +kernel
theorem dX9_wait_77 : decode cX9_wait 77 = .ok (.ldc2_w 109, 3) := by decide +kernel
theorem dX9_wait_80 : decode cX9_wait 80 = .ok (.invokevirtual 111, 3) := by decide +kernel
theorem dX9_wait_83 : decode cX9_wait 83 = .ok (.lreturn, 1) := by decide +kernel
theorem dX9_wait_84 : decode cX9_wait 84 = .ok (.iconst 1, 1) := by decide +kernel
theorem dX9_wait_85 : decode cX9_wait 85 = .ok (.iload_n 2, 1) := by decide +kernel
theorem dX9_wait_86 : decode cX9_wait 86 = .ok (.iconst (-1), 1) := by decide +kernel
theorem dX9_wait_87 : decode cX9_wait 87 = .ok (.if_icmp .ne 7, 3) := by decide +kernel
theorem dX9_wait_90 : decode cX9_wait 90 = .ok (.iconst 0, 1) := by decide +kernel
theorem dX9_wait_91 : decode cX9_wait 91 = .ok (.goto 4, 3) := by decide +kernel
theorem dX9_wait_94 : decode cX9_wait 94 = .ok (.iconst 1, 1) := by decide +kernel
theorem dX9_wait_95 : decode cX9_wait 95 = .ok (.iadd, 1) := by decide +kernel
theorem dX9_wait_96 : decode cX9_wait 96 = .ok (.iload_n 3, 1) := by decide +kernel
theorem dX9_wait_97 : decode cX9_wait 97 = .ok (.iconst (-1), 1) := by decide +kernel
theorem dX9_wait_98 : decode cX9_wait 98 = .ok (.if_icmp .ne 7, 3) := by decide +kernel
theorem dX9_wait_101 : decode cX9_wait 101 = .ok (.iconst 0, 1) := by decide +kernel
theorem dX9_wait_102 : decode cX9_wait 102 = .ok (.goto 4, 3) := by decide +kernel
theorem dX9_wait_105 : decode cX9_wait 105 = .ok (.iconst 1, 1) := by decide +kernel
theorem dX9_wait_106 : decode cX9_wait 106 = .ok (.iadd, 1) := by decide +kernel
theorem dX9_wait_107 : decode cX9_wait 107 = .ok (.istore 5, 2) := by decide +kernel
theorem dX9_wait_109 : decode cX9_wait 109 = .ok (.iload 5, 2) := by decide +kernel
theorem dX9_wait_111 : decode cX9_wait 111 = .ok (.aload_n 0, 1) := by decide +kernel
theorem dX9_wait_112 : decode cX9_wait 112 = .ok (.getfield 26, 3) := by decide +kernel
theorem dX9_wait_115 : decode cX9_wait 115 = .ok (.if_icmp .le 11, 3) := by decide +kernel
theorem dX9_wait_118 : decode cX9_wait 118 = .ok (.aload_n 0, 1) := by decide +kernel
theorem dX9_wait_119 : decode cX9_wait 119 = .ok (.ldc2_w 128, 3) := by decide +kernel
theorem dX9_wait_122 : decode cX9_wait 122 = .ok (.invokevirtual 111, 3) := by decide +kernel
theorem dX9_wait_125 : decode cX9_wait 125 = .ok (.lreturn, 1) := by decide +kernel
theorem dX9_wait_126 : decode cX9_wait 126 = .ok (.aload_n 0, 1) := by decide +kernel
theorem dX9_wait_127 : decode cX9_wait 127 = .ok (.iload_n 1, 1) := by decide +kernel
theorem dX9_wait_128 : decode cX9_wait 128 = .ok (.invokevirtual 170, 3) := by decide +kernel
theorem dX9_wait_131 : decode cX9_wait 131 = .ok (.ifCond .ne 29, 3) := by decide +kernel
theorem dX9_wait_134 : decode cX9_wait 134 = .ok (.iload_n 2, 1) := by decide +kernel
theorem dX9_wait_135 : decode cX9_wait 135 = .ok (.iconst (-1), 1) := by decide +kernel
theorem dX9_wait_136 : decode cX9_wait 136 = .ok (.if_icmp .eq 11, 3) := by decide +kernel
theorem dX9_wait_139 : decode cX9_wait 139 = .ok (.aload_n 0, 1) := by decide +kernel
theorem dX9_wait_140 : decode cX9_wait 140 = .ok (.iload_n 2, 1) := by decide +kernel
theorem dX9_wait_141 : decode cX9_wait 141 = .ok (.invokevirtual 170, 3) := by decide +kernel
theorem dX9_wait_144 : decode cX9_wait 144 = .ok (.ifCond .ne 16, 3) := by decide +kernel
theorem dX9_wait_147 : decode cX9_wait 147 = .ok (.iload_n 3, 1) := by decide +kernel
theorem dX9_wait_148 : decode cX9_wait 148 = .ok (.iconst (-1), 1) := by decide +kernel
theorem dX9_wait_149 : decode cX9_wait 149 = .ok (.if_icmp .eq 19, 3) := by decide +kernel
theorem dX9_wait_152 : decode cX9_wait 152 = .ok (.aload_n 0, 1) := by decide +kernel
theorem dX9_wait_153 : decode cX9_wait 153 = .ok (.iload_n 3, 1) := by decide +kernel
theorem dX9_wait_154 : decode cX9_wait 154 = .ok (.invokevirtual 170, 3) := by decide +kernel
theorem dX9_wait_157 : decode cX9_wait 157 = .ok (.ifCond .eq 11, 3) := by decide +kernel
theorem dX9_wait_160 : decode cX9_wait 160 = .ok (.aload_n 0, 1) := by decide +kernel
theorem dX9_wait_161 : decode cX9_wait 161 = .ok (.ldc2_w 155, 3) := by decide +kernel
theorem dX9_wait_164 : decode cX9_wait 164 = .ok (.invokevirtual 111, 3) := by decide +kernel
theorem dX9_wait_167 : decode cX9_wait 167 = .ok (.lreturn, 1) := by decide +kernel
theorem dX9_wait_168 : decode cX9_wait 168 = .ok (.aload_n 0, 1) := by decide +kernel
theorem dX9_wait_169 : decode cX9_wait 169 = .ok (.getfield 159, 3) := by decide +kernel
theorem dX9_wait_172 : decode cX9_wait 172 = .ok (.bipush 10, 2) := by decide +kernel
theorem dX9_wait_174 : decode cX9_wait 174 = .ok (.if_icmp .ne 11, 3) := by decide +kernel
theorem dX9_wait_177 : decode cX9_wait 177 = .ok (.aload_n 0, 1) := by decide +kernel
theorem dX9_wait_178 : decode cX9_wait 178 = .ok (.ldc2_w 115, 3) := by decide +kernel
theorem dX9_wait_181 : decode cX9_wait 181 = .ok (.invokevirtual 111, 3) := by decide +kernel
theorem dX9_wait_184 : decode cX9_wait 184 = .ok (.lreturn, 1) := by decide +kernel
theorem dX9_wait_185 : decode cX9_wait 185 = .ok (.aload_n 0, 1) := by decide +kernel
theorem dX9_wait_186 : decode cX9_wait 186 = .ok (.getfield 42, 3) := by decide +kernel
theorem dX9_wait_189 : decode cX9_wait 189 = .ok (.aload_n 0, 1) := by decide +kernel
theorem dX9_wait_190 : decode cX9_wait 190 = .ok (.getfield 159, 3) := by decide +kernel
theorem dX9_wait_193 : decode cX9_wait 193 = .ok (.iconst 1, 1) := by decide +kernel
theorem dX9_wait_194 : decode cX9_wait 194 = .ok (.iload_n 1, 1) := by decide +kernel
theorem dX9_wait_195 : decode cX9_wait 195 = .ok (.ishl, 1) := by decide +kernel
theorem dX9_wait_196 : decode cX9_wait 196 = .ok (.iload_n 2, 1) := by decide +kernel
theorem dX9_wait_197 : decode cX9_wait 197 = .ok (.iconst (-1), 1) := by decide +kernel
theorem dX9_wait_198 : decode cX9_wait 198 = .ok (.if_icmp .ne 7, 3) := by decide +kernel
theorem dX9_wait_201 : decode cX9_wait 201 = .ok (.iconst 0, 1) := by decide +kernel
theorem dX9_wait_202 : decode cX9_wait 202 = .ok (.goto 6, 3) := by decide +kernel
theorem dX9_wait_205 : decode cX9_wait 205 = .ok (.iconst 1, 1) := by decide +kernel
theorem dX9_wait_206 : decode cX9_wait 206 = .ok (.iload_n 2, 1) := by decide +kernel
theorem dX9_wait_207 : decode cX9_wait 207 = .ok (.ishl, 1) := by decide +kernel
theorem dX9_wait_208 : decode cX9_wait 208 = .ok (.ior, 1) := by decide +kernel
theorem dX9_wait_209 : decode cX9_wait 209 = .ok (.iload_n 3, 1) := by decide +kernel
theorem dX9_wait_210 : decode cX9_wait 210 = .ok (.iconst (-1), 1) := by decide +kernel
theorem dX9_wait_211 : decode cX9_wait 211 = .ok (.if_icmp .ne 7, 3) := by decide +kernel
theorem dX9_wait_214 : decode cX9_wait 214 = .ok (.iconst 0, 1) := by decide +kernel
theorem dX9_wait_215 : decode cX9_wait 215 = .ok (.goto 6, 3) := by decide +kernel
theorem dX9_wait_218 : decode cX9_wait 218 = .ok (.iconst 1, 1) := by decide +kernel
theorem dX9_wait_219 : decode cX9_wait 219 = .ok (.iload_n 3, 1) := by decide +kernel
theorem dX9_wait_220 : decode cX9_wait 220 = .ok (.ishl, 1) := by decide +kernel
theorem dX9_wait_221 : decode cX9_wait 221 = .ok (.ior, 1) := by decide +kernel
theorem dX9_wait_222 : decode cX9_wait 222 = .ok (.iastore, 1) := by decide +kernel
theorem dX9_wait_223 : decode cX9_wait 223 = .ok (.aload_n 0, 1) := by decide +kernel
theorem dX9_wait_224 : decode cX9_wait 224 = .ok (.getfield 45, 3) := by decide +kernel
theorem dX9_wait_227 : decode cX9_wait 227 = .ok (.aload_n 0, 1) := by decide +kernel
theorem dX9_wait_228 : decode cX9_wait 228 = .ok (.getfield 159, 3) := by decide +kernel
theorem dX9_wait_231 : decode cX9_wait 231 = .ok (.aload_n 0, 1) := by decide +kernel
theorem dX9_wait_232 : decode cX9_wait 232 = .ok (.getfield 89, 3) := by decide +kernel
theorem dX9_wait_235 : decode cX9_wait 235 = .ok (.iastore, 1) := by decide +kernel
theorem dX9_wait_236 : decode cX9_wait 236 = .ok (.aload_n 0, 1) := by decide +kernel
theorem dX9_wait_237 : decode cX9_wait 237 = .ok (.dup, 1) := by decide +kernel
theorem dX9_wait_238 : decode cX9_wait 238 = .ok (.getfield 159, 3) := by decide +kernel
theorem dX9_wait_241 : decode cX9_wait 241 = .ok (.iconst 1, 1) := by decide +kernel
theorem dX9_wait_242 : decode cX9_wait 242 = .ok (.iadd, 1) := by decide +kernel
theorem dX9_wait_243 : decode cX9_wait 243 = .ok (.putfield 159, 3) := by decide +kernel
theorem dX9_wait_246 : decode cX9_wait 246 = .ok (.aload_n 0, 1) := by decide +kernel
theorem dX9_wait_247 : decode cX9_wait 247 = .ok (.getfield 159, 3) := by decide +kernel
theorem dX9_wait_250 : decode cX9_wait 250 = .ok (.i2l, 1) := by decide +kernel
theorem dX9_wait_251 : decode cX9_wait 251 = .ok (.lreturn, 1) := by decide +kernel
theorem dX9_takeOut_0 : decode cX9_takeOut 0 = .ok (.aload_n 0, 1) := by decide +kernel
theorem dX9_takeOut_1 : decode cX9_takeOut 1 = .ok (.dup, 1) := by decide +kernel
theorem dX9_takeOut_2 : decode cX9_takeOut 2 = .ok (.getfield 159, 3) := by decide +kernel
theorem dX9_takeOut_5 : decode cX9_takeOut 5 = .ok (.iconst 1, 1) := by decide +kernel
theorem dX9_takeOut_6 : decode cX9_takeOut 6 = .ok (.isub, 1) := by decide +kernel
theorem dX9_takeOut_7 : decode cX9_takeOut 7 = .ok (.putfield 159, 3) := by decide +kernel
theorem dX9_takeOut_10 : decode cX9_takeOut 10 = .ok (.iload_n 1, 1) := by decide +kernel
theorem dX9_takeOut_11 : decode cX9_takeOut 11 = .ok (.istore_n 2, 1) := by decide +kernel
theorem dX9_takeOut_12 : decode cX9_takeOut 12 = .ok (.iload_n 2, 1) := by decide +kernel
theorem dX9_takeOut_13 : decode cX9_takeOut 13 = .ok (.aload_n 0, 1) := by decide +kernel
theorem dX9_takeOut_14 : decode cX9_takeOut 14 = .ok (.getfield 159, 3) := by decide +kernel
theorem dX9_takeOut_17 : decode cX9_takeOut 17 = .ok (.if_icmp .ge 37, 3) := by decide +kernel
theorem dX9_takeOut_20 : decode cX9_takeOut 20 = .ok (.aload_n 0, 1) := by decide +kernel
theorem dX9_takeOut_21 : decode cX9_takeOut 21 = .ok (.getfield 42, 3) := by decide +kernel
theorem dX9_takeOut_24 : decode cX9_takeOut 24 = .ok (.iload_n 2, 1) := by decide +kernel
theorem dX9_takeOut_25 : decode cX9_takeOut 25 = .ok (.aload_n 0, 1) := by decide +kernel
theorem dX9_takeOut_26 : decode cX9_takeOut 26 = .ok (.getfield 42, 3) := by decide +kernel
theorem dX9_takeOut_29 : decode cX9_takeOut 29 = .ok (.iload_n 2, 1) := by decide +kernel
theorem dX9_takeOut_30 : decode cX9_takeOut 30 = .ok (.iconst 1, 1) := by decide +kernel
theorem dX9_takeOut_31 : decode cX9_takeOut 31 = .ok (.iadd, 1) := by decide +kernel
theorem dX9_takeOut_32 : decode cX9_takeOut 32 = .ok (.iaload, 1) := by decide +kernel
theorem dX9_takeOut_33 : decode cX9_takeOut 33 = .ok (.iastore, 1) := by decide +kernel
theorem dX9_takeOut_34 : decode cX9_takeOut 34 = .ok (.aload_n 0, 1) := by decide +kernel
theorem dX9_takeOut_35 : decode cX9_takeOut 35 = .ok (.getfield 45, 3) := by decide +kernel
theorem dX9_takeOut_38 : decode cX9_takeOut 38 = .ok (.iload_n 2, 1) := by decide +kernel
theorem dX9_takeOut_39 : decode cX9_takeOut 39 = .ok (.aload_n 0, 1) := by decide +kernel
theorem dX9_takeOut_40 : decode cX9_takeOut 40 = .ok (.getfield 45, 3) := by decide +kernel
theorem dX9_takeOut_43 : decode cX9_takeOut 43 = .ok (.iload_n 2, 1) := by decide +kernel
theorem dX9_takeOut_44 : decode cX9_takeOut 44 = .ok (.iconst 1, 1) := by decide +kernel
theorem dX9_takeOut_45 : decode cX9_takeOut 45 = .ok (.iadd, 1) := by decide +kernel
theorem dX9_takeOut_46 : decode cX9_takeOut 46 = .ok (.iaload, 1) := by decide +kernel
theorem dX9_takeOut_47 : decode cX9_takeOut 47 = .ok (.iastore, 1) := by decide +kernel
theorem dX9_takeOut_48 : decode cX9_takeOut 48 = .ok (.iinc 2 1, 3) := by decide +kernel
theorem dX9_takeOut_51 : decode cX9_takeOut 51 = .ok (.goto (-39), 3) := by decide +kernel
theorem dX9_takeOut_54 : decode cX9_takeOut 54 = .ok (.return_, 1) := by decide +kernel
set_option maxRecDepth 20000 in
theorem ggX9_leave_X9_isPlayer : GoodIn wsX9_leave wsX9_isPlayer := goodIn_r _ [8, 9, 10, 11, 7, 12, 29, 30, 31, 32, 33, 34, 35, 36, 37, 38, 39, 40, 41, 42, 43, 44, 45, 46, 47, 48, 49, 50, 51, 52, 53, 54, 55, 56, 57, 58, 59, 60, 61] (by decide +kernel) (by decide +kernel)
set_option maxRecDepth 20000 in
theorem gX9_leave_X9_isPlayer : GoodIn wsX9_leave (wsV RX9 121 RX9 yX9_isPlayer wsX9_isPlayer) := goodIn_app (goodIn_of _ (by decide +kernel)) ggX9_leave_X9_isPlayer
set_option maxRecDepth 20000 in
theorem ggX9_leave_X9_finding : GoodIn wsX9_leave wsX9_finding := goodIn_r _ [16, 17, 18, 29, 30, 31, 32, 33, 34, 35, 36, 37, 38, 39, 40, 41, 42, 43, 44, 45, 46, 47, 48, 49, 50, 51, 52, 53, 54, 55, 56, 57, 58, 59, 60, 61] (by decide +kernel) (by decide +kernel)
set_option maxRecDepth 20000 in
theorem gX9_leave_X9_finding : GoodIn wsX9_leave (wsV RX9 111 RX9 yX9_finding wsX9_finding) := goodIn_app (goodIn_of _ (by decide +kernel)) ggX9_leave_X9_finding
set_option maxRecDepth 20000 in
theorem ggX9_leave_X9_partyOf : GoodIn wsX9_leave wsX9_partyOf := goodIn_r _ [22, 3, 23, 29, 30, 31, 32, 33, 34, 35, 36, 37, 38, 39, 40, 41, 42, 43, 44, 45, 46, 47, 48, 49, 50, 51, 52, 53, 54, 55, 56, 57, 58, 59, 60, 61] (by decide +kernel) (by decide +kernel)
set_option maxRecDepth 20000 in
theorem gX9_leave_X9_partyOf : GoodIn wsX9_leave (wsV RX9 164 RX9 yX9_partyOf wsX9_partyOf) := goodIn_app (goodIn_of _ (by decide +kernel)) ggX9_leave_X9_partyOf
set_option maxRecDepth 20000 in
theorem ggX9_leave_X9_takeOut : GoodIn wsX9_leave wsX9_takeOut := goodIn_r _ [27, 3, 23, 28, 29, 30, 31, 32, 33, 34, 35, 36, 37, 38, 39, 40, 41, 42, 43, 44, 45, 46, 47, 48, 49, 50, 51, 52, 53, 54, 55, 56, 57, 58, 59, 60, 61] (by decide +kernel) (by decide +kernel)
set_option maxRecDepth 20000 in
theorem gX9_leave_X9_takeOut : GoodIn wsX9_leave (wsV RX9 175 RX9 yX9_takeOut wsX9_takeOut) := goodIn_app (goodIn_of _ (by decide +kernel)) ggX9_leave_X9_takeOut
theorem dX9_leave_0 : decode cX9_leave 0 = .ok (.aload_n 0, 1) := by decide +kernel
theorem dX9_leave_1 : decode cX9_leave 1 = .ok (.iload_n 1, 1) := by decide +kernel
theorem dX9_leave_2 : decode cX9_leave 2 = .ok (.invokevirtual 121, 3) := by decide +kernel
theorem dX9_leave_5 : decode cX9_leave 5 = .ok (.ifCond .ne 11, 3) := by decide +kernel
theorem dX9_leave_8 : decode cX9_leave 8 = .ok (.aload_n 0, 1) := by decide +kernel
theorem dX9_leave_9 : decode cX9_leave 9 = .ok (.ldc2_w 109, 3) := by decide +kernel
theorem dX9_leave_12 : decode cX9_leave 12 = .ok (.invokevirtual 111, 3) := by decide +kernel
theorem dX9_leave_15 : decode cX9_leave 15 = .ok (.lreturn, 1) := by decide +kernel
theorem dX9_leave_16 : decode cX9_leave 16 = .ok (.aload_n 0, 1) := by decide +kernel
theorem dX9_leave_17 : decode cX9_leave 17 = .ok (.iload_n 1, 1) := by decide +kernel
theorem dX9_leave_18 : decode cX9_leave 18 = .ok (.invokevirtual 164, 3) := by decide +kernel
theorem dX9_leave_21 : decode cX9_leave 21 = .ok (.istore_n 2, 1) := by decide +kernel
theorem dX9_leave_22 : decode cX9_leave 22 = .ok (.iload_n 2, 1) := by decide +kernel
theorem dX9_leave_23 : decode cX9_leave 23 = .ok (.ifCond .ge 11, 3) := by decide +kernel
theorem dX9_leave_26 : decode cX9_leave 26 = .ok (.aload_n 0, 1) := by decide +kernel
theorem dX9_leave_27 : decode cX9_leave 27 = .ok (.ldc2_w 173, 3) := by decide +kernel
theorem dX9_leave_30 : decode cX9_leave 30 = .ok (.invokevirtual 111, 3) := by decide +kernel
theorem dX9_leave_33 : decode cX9_leave 33 = .ok (.lreturn, 1) := by decide +kernel
theorem dX9_leave_34 : decode cX9_leave 34 = .ok (.aload_n 0, 1) := by decide +kernel
theorem dX9_leave_35 : decode cX9_leave 35 = .ok (.iload_n 2, 1) := by decide +kernel
theorem dX9_leave_36 : decode cX9_leave 36 = .ok (.invokevirtual 175, 3) := by decide +kernel
theorem dX9_leave_39 : decode cX9_leave 39 = .ok (.aload_n 0, 1) := by decide +kernel
theorem dX9_leave_40 : decode cX9_leave 40 = .ok (.getfield 159, 3) := by decide +kernel
theorem dX9_leave_43 : decode cX9_leave 43 = .ok (.i2l, 1) := by decide +kernel
theorem dX9_leave_44 : decode cX9_leave 44 = .ok (.lreturn, 1) := by decide +kernel
theorem dX9_boundOf_0 : decode cX9_boundOf 0 = .ok (.aload_n 0, 1) := by decide +kernel
theorem dX9_boundOf_1 : decode cX9_boundOf 1 = .ok (.getfield 31, 3) := by decide +kernel
theorem dX9_boundOf_4 : decode cX9_boundOf 4 = .ok (.i2l, 1) := by decide +kernel
theorem dX9_boundOf_5 : decode cX9_boundOf 5 = .ok (.aload_n 0, 1) := by decide +kernel
theorem dX9_boundOf_6 : decode cX9_boundOf 6 = .ok (.getfield 35, 3) := by decide +kernel
theorem dX9_boundOf_9 : decode cX9_boundOf 9 = .ok (.i2l, 1) := by decide +kernel
theorem dX9_boundOf_10 : decode cX9_boundOf 10 = .ok (.aload_n 0, 1) := by decide +kernel
theorem dX9_boundOf_11 : decode cX9_boundOf 11 = .ok (.getfield 89, 3) := by decide +kernel
theorem dX9_boundOf_14 : decode cX9_boundOf 14 = .ok (.aload_n 0, 1) := by decide +kernel
theorem dX9_boundOf_15 : decode cX9_boundOf 15 = .ok (.getfield 45, 3) := by decide +kernel
theorem dX9_boundOf_18 : decode cX9_boundOf 18 = .ok (.iload_n 1, 1) := by decide +kernel
theorem dX9_boundOf_19 : decode cX9_boundOf 19 = .ok (.iaload, 1) := by decide +kernel
theorem dX9_boundOf_20 : decode cX9_boundOf 20 = .ok (.isub, 1) := by decide +kernel
theorem dX9_boundOf_21 : decode cX9_boundOf 21 = .ok (.i2l, 1) := by decide +kernel
theorem dX9_boundOf_22 : decode cX9_boundOf 22 = .ok (.lmul, 1) := by decide +kernel
theorem dX9_boundOf_23 : decode cX9_boundOf 23 = .ok (.ladd, 1) := by decide +kernel
theorem dX9_boundOf_24 : decode cX9_boundOf 24 = .ok (.lstore_n 2, 1) := by decide +kernel
theorem dX9_boundOf_25 : decode cX9_boundOf 25 = .ok (.lload_n 2, 1) := by decide +kernel
theorem dX9_boundOf_26 : decode cX9_boundOf 26 = .ok (.aload_n 0, 1) := by decide +kernel
theorem dX9_boundOf_27 : decode cX9_boundOf 27 = .ok (.getfield 39, 3) := by decide +kernel
theorem dX9_boundOf_30 : decode cX9_boundOf 30 = .ok (.i2l, 1) := by decide +kernel
theorem dX9_boundOf_31 : decode cX9_boundOf 31 = .ok (.lcmp, 1) := by decide +kernel
theorem dX9_boundOf_32 : decode cX9_boundOf 32 = .ok (.ifCond .ge 7, 3) := by decide +kernel
theorem dX9_boundOf_35 : decode cX9_boundOf 35 = .ok (.lload_n 2, 1) := by decide +kernel
theorem dX9_boundOf_36 : decode cX9_boundOf 36 = .ok (.goto 8, 3) := by decide +kernel
theorem dX9_boundOf_39 : decode cX9_boundOf 39 = .ok (.aload_n 0, 1) := by decide +kernel
theorem dX9_boundOf_40 : decode cX9_boundOf 40 = .ok (.getfield 39, 3) := by decide +kernel
theorem dX9_boundOf_43 : decode cX9_boundOf 43 = .ok (.i2l, 1) := by decide +kernel
theorem dX9_boundOf_44 : decode cX9_boundOf 44 = .ok (.lreturn, 1) := by decide +kernel
set_option maxRecDepth 20000 in
theorem ggX9_waited_X9_isPlayer : GoodIn wsX9_waited wsX9_isPlayer := goodIn_r _ [9, 10, 11, 12, 8, 13, 33, 34, 35, 36, 37, 38, 39, 40, 41, 42, 43, 44, 45, 46, 47, 48, 49, 50, 51, 52, 53, 54, 55, 56, 57, 58, 59, 60, 61, 62, 63, 64, 65] (by decide +kernel) (by decide +kernel)
set_option maxRecDepth 20000 in
theorem gX9_waited_X9_isPlayer : GoodIn wsX9_waited (wsV RX9 121 RX9 yX9_isPlayer wsX9_isPlayer) := goodIn_app (goodIn_of _ (by decide +kernel)) ggX9_waited_X9_isPlayer
set_option maxRecDepth 20000 in
theorem ggX9_waited_X9_finding : GoodIn wsX9_waited wsX9_finding := goodIn_r _ [17, 18, 19, 33, 34, 35, 36, 37, 38, 39, 40, 41, 42, 43, 44, 45, 46, 47, 48, 49, 50, 51, 52, 53, 54, 55, 56, 57, 58, 59, 60, 61, 62, 63, 64, 65] (by decide +kernel) (by decide +kernel)
set_option maxRecDepth 20000 in
theorem gX9_waited_X9_finding : GoodIn wsX9_waited (wsV RX9 111 RX9 yX9_finding wsX9_finding) := goodIn_app (goodIn_of _ (by decide +kernel)) ggX9_waited_X9_finding
set_option maxRecDepth 20000 in
theorem ggX9_waited_X9_partyOf : GoodIn wsX9_waited wsX9_partyOf := goodIn_r _ [23, 24, 25, 33, 34, 35, 36, 37, 38, 39, 40, 41, 42, 43, 44, 45, 46, 47, 48, 49, 50, 51, 52, 53, 54, 55, 56, 57, 58, 59, 60, 61, 62, 63, 64, 65] (by decide +kernel) (by decide +kernel)
set_option maxRecDepth 20000 in
theorem gX9_waited_X9_partyOf : GoodIn wsX9_waited (wsV RX9 164 RX9 yX9_partyOf wsX9_partyOf) := goodIn_app (goodIn_of _ (by decide +kernel)) ggX9_waited_X9_partyOf
set_option maxRecDepth 20000 in
theorem ggX9_waited_X9_boundOf : GoodIn wsX9_waited wsX9_boundOf := goodIn_r _ [29, 30, 31, 3, 4, 32, 33, 34, 35, 36, 37, 38, 39, 40, 41, 42, 43, 44, 45, 46, 47, 48, 49, 50, 51, 52, 53, 54, 55, 56, 57, 58, 59, 60, 61, 62, 63, 64, 65] (by decide +kernel) (by decide +kernel)
set_option maxRecDepth 20000 in
theorem gX9_waited_X9_boundOf : GoodIn wsX9_waited (wsV RX9 179 RX9 yX9_boundOf wsX9_boundOf) := goodIn_app (goodIn_of _ (by decide +kernel)) ggX9_waited_X9_boundOf
theorem dX9_waited_0 : decode cX9_waited 0 = .ok (.aload_n 0, 1) := by decide +kernel
theorem dX9_waited_1 : decode cX9_waited 1 = .ok (.iload_n 1, 1) := by decide +kernel
theorem dX9_waited_2 : decode cX9_waited 2 = .ok (.invokevirtual 121, 3) := by decide +kernel
theorem dX9_waited_5 : decode cX9_waited 5 = .ok (.ifCond .ne 11, 3) := by decide +kernel
theorem dX9_waited_8 : decode cX9_waited 8 = .ok (.aload_n 0, 1) := by decide +kernel
theorem dX9_waited_9 : decode cX9_waited 9 = .ok (.ldc2_w 109, 3) := by decide +kernel
theorem dX9_waited_12 : decode cX9_waited 12 = .ok (.invokevirtual 111, 3) := by decide +kernel
theorem dX9_waited_15 : decode cX9_waited 15 = .ok (.lreturn, 1) := by decide +kernel
theorem dX9_waited_16 : decode cX9_waited 16 = .ok (.aload_n 0, 1) := by decide +kernel
theorem dX9_waited_17 : decode cX9_waited 17 = .ok (.iload_n 1, 1) := by decide +kernel
theorem dX9_waited_18 : decode cX9_waited 18 = .ok (.invokevirtual 164, 3) := by decide +kernel
theorem dX9_waited_21 : decode cX9_waited 21 = .ok (.istore_n 3, 1) := by decide +kernel
theorem dX9_waited_22 : decode cX9_waited 22 = .ok (.iload_n 3, 1) := by decide +kernel
theorem dX9_waited_23 : decode cX9_waited 23 = .ok (.ifCond .ge 11, 3) := by decide +kernel
theorem dX9_waited_26 : decode cX9_waited 26 = .ok (.aload_n 0, 1) := by decide +kernel
theorem dX9_waited_27 : decode cX9_waited 27 = .ok (.ldc2_w 173, 3) := by decide +kernel
theorem dX9_waited_30 : decode cX9_waited 30 = .ok (.invokevirtual 111, 3) := by decide +kernel
theorem dX9_waited_33 : decode cX9_waited 33 = .ok (.lreturn, 1) := by decide +kernel
theorem dX9_waited_34 : decode cX9_waited 34 = .ok (.iload_n 2, 1) := by decide +kernel
theorem dX9_waited_35 : decode cX9_waited 35 = .ok (.ifCond .eq 11, 3) := by decide +kernel
theorem dX9_waited_38 : decode cX9_waited 38 = .ok (.aload_n 0, 1) := by decide +kernel
theorem dX9_waited_39 : decode cX9_waited 39 = .ok (.iload_n 3, 1) := by decide +kernel
theorem dX9_waited_40 : decode cX9_waited 40 = .ok (.invokevirtual 179, 3) := by decide +kernel
theorem dX9_waited_43 : decode cX9_waited 43 = .ok (.goto 15, 3) := by decide +kernel
theorem dX9_waited_46 : decode cX9_waited 46 = .ok (.aload_n 0, 1) := by decide +kernel
theorem dX9_waited_47 : decode cX9_waited 47 = .ok (.getfield 89, 3) := by decide +kernel
theorem dX9_waited_50 : decode cX9_waited 50 = .ok (.aload_n 0, 1) := by decide +kernel
theorem dX9_waited_51 : decode cX9_waited 51 = .ok (.getfield 45, 3) := by decide +kernel
theorem dX9_waited_54 : decode cX9_waited 54 = .ok (.iload_n 3, 1) := by decide +kernel
theorem dX9_waited_55 : decode cX9_waited 55 = .ok (.iaload, 1) := by decide +kernel
theorem dX9_waited_56 : decode cX9_waited 56 = .ok (.isub, 1) := by decide +kernel
theorem dX9_waited_57 : decode cX9_waited 57 = .ok (.i2l, 1) := by decide +kernel
theorem dX9_waited_58 : decode cX9_waited 58 = .ok (.lreturn, 1) := by decide +kernel
theorem dX9_playersOf_0 : decode cX9_playersOf 0 = .ok (.iconst 0, 1) := by decide +kernel
theorem dX9_playersOf_1 : decode cX9_playersOf 1 = .ok (.istore_n 2, 1) := by decide +kernel
theorem dX9_playersOf_2 : decode cX9_playersOf 2 = .ok (.iconst 0, 1) := by decide +kernel
theorem dX9_playersOf_3 : decode cX9_playersOf 3 = .ok (.istore_n 3, 1) := by decide +kernel
theorem dX9_playersOf_4 : decode cX9_playersOf 4 = .ok (.iload_n 3, 1) := by decide +kernel
theorem dX9_playersOf_5 : decode cX9_playersOf 5 = .ok (.aload_n 0, 1) := by decide +kernel
theorem dX9_playersOf_6 : decode cX9_playersOf 6 = .ok (.getfield 159, 3) := by decide +kernel
theorem dX9_playersOf_9 : decode cX9_playersOf 9 = .ok (.if_icmp .ge 31, 3) := by decide +kernel
theorem dX9_playersOf_12 : decode cX9_playersOf 12 = .ok (.iload_n 2, 1) := by decide +kernel
theorem dX9_playersOf_13 : decode cX9_playersOf 13 = .ok (.iload_n 1, 1) := by decide +kernel
theorem dX9_playersOf_14 : decode cX9_playersOf 14 = .ok (.iload_n 3, 1) := by decide +kernel
theorem dX9_playersOf_15 : decode cX9_playersOf 15 = .ok (.ishr, 1) := by decide +kernel
theorem dX9_playersOf_16 : decode cX9_playersOf 16 = .ok (.iconst 1, 1) := by decide +kernel
theorem dX9_playersOf_17 : decode cX9_playersOf 17 = .ok (.iand, 1) := by decide +kernel
theorem dX9_playersOf_18 : decode cX9_playersOf 18 = .ok (.iconst 1, 1) := by decide +kernel
theorem dX9_playersOf_19 : decode cX9_playersOf 19 = .ok (.if_icmp .ne 12, 3) := by decide +kernel
theorem dX9_playersOf_22 : decode cX9_playersOf 22 = .ok (.aload_n 0, 1) := by decide +kernel
theorem dX9_playersOf_23 : decode cX9_playersOf 23 = .ok (.getfield 42, 3) := by decide +kernel
theorem dX9_playersOf_26 : decode cX9_playersOf 26 = .ok (.iload_n 3, 1) := by decide +kernel
theorem dX9_playersOf_27 : decode cX9_playersOf 27 = .ok (.iaload, 1) := by decide +kernel
theorem dX9_playersOf_28 : decode cX9_playersOf 28 = .ok (.goto 4, 3) := by decide +kernel
theorem dX9_playersOf_31 : decode cX9_playersOf 31 = .ok (.iconst 0, 1) := by decide +kernel
theorem dX9_playersOf_32 : decode cX9_playersOf 32 = .ok (.ior, 1) := by decide +kernel
theorem dX9_playersOf_33 : decode cX9_playersOf 33 = .ok (.istore_n 2, 1) := by decide +kernel
theorem dX9_playersOf_34 : decode cX9_playersOf 34 = .ok (.iinc 3 1, 3) := by decide +kernel
theorem dX9_playersOf_37 : decode cX9_playersOf 37 = .ok (.goto (-33), 3) := by decide +kernel
theorem dX9_playersOf_40 : decode cX9_playersOf 40 = .ok (.iload_n 2, 1) := by decide +kernel
theorem dX9_playersOf_41 : decode cX9_playersOf 41 = .ok (.ireturn, 1) := by decide +kernel
set_option maxRecDepth 20000 in
theorem ggX9_laySets_X9_playersOf : GoodIn wsX9_laySets wsX9_playersOf := goodIn_r _ [9, 1, 10, 19, 20, 21, 22, 23, 24, 25, 26, 27, 28, 29, 30, 31, 32, 33, 34, 35, 36, 37, 38, 39, 40, 41, 42, 43, 44, 45, 46, 47, 48, 49, 50, 51] (by decide +kernel) (by decide +kernel)
set_option maxRecDepth 20000 in
theorem gX9_laySets_X9_playersOf : GoodIn wsX9_laySets (wsV RX9 182 RX9 yX9_playersOf wsX9_playersOf) := goodIn_app (goodIn_of _ (by decide +kernel)) ggX9_laySets_X9_playersOf
set_option maxRecDepth 20000 in
theorem ggX9_laySets_X9_ones : GoodIn wsX9_laySets wsX9_ones := goodIn_r _ [13] (by decide +kernel) (by decide +kernel)
set_option maxRecDepth 20000 in
theorem gX9_laySets_X9_ones : GoodIn wsX9_laySets (va_wsS RX9 135 yX9_ones wsX9_ones) := goodIn_app (goodIn_of _ (by decide +kernel)) ggX9_laySets_X9_ones
set_option maxRecDepth 20000 in
theorem ggX9_laySets_X9_meanOf : GoodIn wsX9_laySets wsX9_meanOf := goodIn_r _ [17, 18, 19, 20, 21, 22, 23, 24, 25, 26, 27, 28, 29, 30, 31, 32, 33, 34, 35, 36, 37, 38, 39, 40, 41, 42, 43, 44, 45, 46, 47, 48, 49, 50, 51] (by decide +kernel) (by decide +kernel)
set_option maxRecDepth 20000 in
theorem gX9_laySets_X9_meanOf : GoodIn wsX9_laySets (wsV RX9 125 RX9 yX9_meanOf wsX9_meanOf) := goodIn_app (goodIn_of _ (by decide +kernel)) ggX9_laySets_X9_meanOf
theorem dX9_laySets_0 : decode cX9_laySets 0 = .ok (.iconst 0, 1) := by decide +kernel
theorem dX9_laySets_1 : decode cX9_laySets 1 = .ok (.istore_n 1, 1) := by decide +kernel
theorem dX9_laySets_2 : decode cX9_laySets 2 = .ok (.iload_n 1, 1) := by decide +kernel
theorem dX9_laySets_3 : decode cX9_laySets 3 = .ok (.iconst 1, 1) := by decide +kernel
theorem dX9_laySets_4 : decode cX9_laySets 4 = .ok (.aload_n 0, 1) := by decide +kernel
theorem dX9_laySets_5 : decode cX9_laySets 5 = .ok (.getfield 159, 3) := by decide +kernel
theorem dX9_laySets_8 : decode cX9_laySets 8 = .ok (.ishl, 1) := by decide +kernel
theorem dX9_laySets_9 : decode cX9_laySets 9 = .ok (.if_icmp .ge 75, 3) := by decide +kernel
theorem dX9_laySets_12 : decode cX9_laySets 12 = .ok (.aload_n 0, 1) := by decide +kernel
theorem dX9_laySets_13 : decode cX9_laySets 13 = .ok (.iload_n 1, 1) := by decide +kernel
theorem dX9_laySets_14 : decode cX9_laySets 14 = .ok (.invokevirtual 182, 3) := by decide +kernel
theorem dX9_laySets_17 : decode cX9_laySets 17 = .ok (.istore_n 2, 1) := by decide +kernel
theorem dX9_laySets_18 : decode cX9_laySets 18 = .ok (.aload_n 0, 1) := by decide +kernel
theorem dX9_laySets_19 : decode cX9_laySets 19 = .ok (.getfield 74, 3) := by decide +kernel
theorem dX9_laySets_22 : decode cX9_laySets 22 = .ok (.iload_n 1, 1) := by decide +kernel
theorem dX9_laySets_23 : decode cX9_laySets 23 = .ok (.iload_n 2, 1) := by decide +kernel
theorem dX9_laySets_24 : decode cX9_laySets 24 = .ok (.invokestatic 135, 3) := by decide +kernel
theorem dX9_laySets_27 : decode cX9_laySets 27 = .ok (.iastore, 1) := by decide +kernel
theorem dX9_laySets_28 : decode cX9_laySets 28 = .ok (.aload_n 0, 1) := by decide +kernel
theorem dX9_laySets_29 : decode cX9_laySets 29 = .ok (.getfield 77, 3) := by decide +kernel
theorem dX9_laySets_32 : decode cX9_laySets 32 = .ok (.iload_n 1, 1) := by decide +kernel
theorem dX9_laySets_33 : decode cX9_laySets 33 = .ok (.lconst 0, 1) := by decide +kernel
theorem dX9_laySets_34 : decode cX9_laySets 34 = .ok (.lastore, 1) := by decide +kernel
theorem dX9_laySets_35 : decode cX9_laySets 35 = .ok (.iconst 0, 1) := by decide +kernel
theorem dX9_laySets_36 : decode cX9_laySets 36 = .ok (.istore_n 3, 1) := by decide +kernel
theorem dX9_laySets_37 : decode cX9_laySets 37 = .ok (.iload_n 3, 1) := by decide +kernel
theorem dX9_laySets_38 : decode cX9_laySets 38 = .ok (.aload_n 0, 1) := by decide +kernel
theorem dX9_laySets_39 : decode cX9_laySets 39 = .ok (.getfield 94, 3) := by decide +kernel
theorem dX9_laySets_42 : decode cX9_laySets 42 = .ok (.if_icmp .ge 36, 3) := by decide +kernel
theorem dX9_laySets_45 : decode cX9_laySets 45 = .ok (.aload_n 0, 1) := by decide +kernel
theorem dX9_laySets_46 : decode cX9_laySets 46 = .ok (.getfield 77, 3) := by decide +kernel
theorem dX9_laySets_49 : decode cX9_laySets 49 = .ok (.iload_n 1, 1) := by decide +kernel
theorem dX9_laySets_50 : decode cX9_laySets 50 = .ok (.dup2, 1) := by decide +kernel
theorem dX9_laySets_51 : decode cX9_laySets 51 = .ok (.laload, 1) := by decide +kernel
theorem dX9_laySets_52 : decode cX9_laySets 52 = .ok (.iload_n 2, 1) := by decide +kernel
theorem dX9_laySets_53 : decode cX9_laySets 53 = .ok (.iload_n 3, 1) := by decide +kernel
theorem dX9_laySets_54 : decode cX9_laySets 54 = .ok (.ishr, 1) := by decide +kernel
theorem dX9_laySets_55 : decode cX9_laySets 55 = .ok (.iconst 1, 1) := by decide +kernel
theorem dX9_laySets_56 : decode cX9_laySets 56 = .ok (.iand, 1) := by decide +kernel
theorem dX9_laySets_57 : decode cX9_laySets 57 = .ok (.iconst 1, 1) := by decide +kernel
theorem dX9_laySets_58 : decode cX9_laySets 58 = .ok (.if_icmp .ne 11, 3) := by decide +kernel
theorem dX9_laySets_61 : decode cX9_laySets 61 = .ok (.aload_n 0, 1) := by decide +kernel
theorem dX9_laySets_62 : decode cX9_laySets 62 = .ok (.iload_n 3, 1) := by decide +kernel
theorem dX9_laySets_63 : decode cX9_laySets 63 = .ok (.invokevirtual 125, 3) := by decide +kernel
theorem dX9_laySets_66 : decode cX9_laySets 66 = .ok (.goto 4, 3) := by decide +kernel
theorem dX9_laySets_69 : decode cX9_laySets 69 = .ok (.lconst 0, 1) := by decide +kernel
theorem dX9_laySets_70 : decode cX9_laySets 70 = .ok (.ladd, 1) := by decide +kernel
theorem dX9_laySets_71 : decode cX9_laySets 71 = .ok (.lastore, 1) := by decide +kernel
theorem dX9_laySets_72 : decode cX9_laySets 72 = .ok (.iinc 3 1, 3) := by decide +kernel
theorem dX9_laySets_75 : decode cX9_laySets 75 = .ok (.goto (-38), 3) := by decide +kernel
theorem dX9_laySets_78 : decode cX9_laySets 78 = .ok (.iinc 1 1, 3) := by decide +kernel
theorem dX9_laySets_81 : decode cX9_laySets 81 = .ok (.goto (-79), 3) := by decide +kernel
theorem dX9_laySets_84 : decode cX9_laySets 84 = .ok (.return_, 1) := by decide +kernel
set_option maxRecDepth 20000 in
theorem ggX9_findPairing_X9_boundOf : GoodIn wsX9_findPairing wsX9_boundOf := goodIn_r _ [12, 13, 14, 15, 16, 17, 18, 19, 20, 21, 22, 23, 24, 25, 26, 27, 28, 29, 30, 31, 32, 33, 34, 35, 36, 37, 38, 39, 40, 41, 42, 43, 44, 45, 46, 47, 48, 49, 50] (by decide +kernel) (by decide +kernel)
set_option maxRecDepth 20000 in
theorem gX9_findPairing_X9_boundOf : GoodIn wsX9_findPairing (wsV RX9 179 RX9 yX9_boundOf wsX9_boundOf) := goodIn_app (goodIn_of _ (by decide +kernel)) ggX9_findPairing_X9_boundOf
theorem dX9_findPairing_0 : decode cX9_findPairing 0 = .ok (.aload_n 0, 1) := by decide +kernel
theorem dX9_findPairing_1 : decode cX9_findPairing 1 = .ok (.iconst (-1), 1) := by decide +kernel
theorem dX9_findPairing_2 : decode cX9_findPairing 2 = .ok (.putfield 185, 3) := by decide +kernel
theorem dX9_findPairing_5 : decode cX9_findPairing 5 = .ok (.iconst 0, 1) := by decide +kernel
theorem dX9_findPairing_6 : decode cX9_findPairing 6 = .ok (.istore_n 3, 1) := by decide +kernel
theorem dX9_findPairing_7 : decode cX9_findPairing 7 = .ok (.iload_n 3, 1) := by decide +kernel
theorem dX9_findPairing_8 : decode cX9_findPairing 8 = .ok (.iconst 1, 1) := by decide +kernel
theorem dX9_findPairing_9 : decode cX9_findPairing 9 = .ok (.aload_n 0, 1) := by decide +kernel
theorem dX9_findPairing_10 : decode cX9_findPairing 10 = .ok (.getfield 159, 3) := by decide +kernel
theorem dX9_findPairing_13 : decode cX9_findPairing 13 = .ok (.ishl, 1) := by decide +kernel
theorem dX9_findPairing_14 : decode cX9_findPairing 14 = .ok (.if_icmp .ge 173, 3) := by decide +kernel
theorem dX9_findPairing_17 : decode cX9_findPairing 17 = .ok (.iload_n 3, 1) := by decide +kernel
theorem dX9_findPairing_18 : decode cX9_findPairing 18 = .ok (.iload_n 2, 1) := by decide +kernel
theorem dX9_findPairing_19 : decode cX9_findPairing 19 = .ok (.iconst (-1), 1) := by decide +kernel
theorem dX9_findPairing_20 : decode cX9_findPairing 20 = .ok (.ixor, 1) := by decide +kernel
theorem dX9_findPairing_21 : decode cX9_findPairing 21 = .ok (.iand, 1) := by decide +kernel
theorem dX9_findPairing_22 : decode cX9_findPairing 22 = .ok (.ifCond .ne 159, 3) := by decide +kernel
theorem dX9_findPairing_25 : decode cX9_findPairing 25 = .ok (.iload_n 3, 1) := by decide +kernel
theorem dX9_findPairing_26 : decode cX9_findPairing 26 = .ok (.iload_n 1, 1) := by decide +kernel
theorem dX9_findPairing_27 : decode cX9_findPairing 27 = .ok (.ishr, 1) := by decide +kernel
theorem dX9_findPairing_28 : decode cX9_findPairing 28 = .ok (.iconst 1, 1) := by decide +kernel
theorem dX9_findPairing_29 : decode cX9_findPairing 29 = .ok (.iand, 1) := by decide +kernel
theorem dX9_findPairing_30 : decode cX9_findPairing 30 = .ok (.iconst 1, 1) := by decide +kernel
theorem dX9_findPairing_31 : decode cX9_findPairing 31 = .ok (.if_icmp .ne 150, 3) := by decide +kernel
theorem dX9_findPairing_34 : decode cX9_findPairing 34 = .ok (.aload_n 0, 1) := by decide +kernel
theorem dX9_findPairing_35 : decode cX9_findPairing 35 = .ok (.getfield 74, 3) := by decide +kernel
theorem dX9_findPairing_38 : decode cX9_findPairing 38 = .ok (.iload_n 3, 1) := by decide +kernel
theorem dX9_findPairing_39 : decode cX9_findPairing 39 = .ok (.iaload, 1) := by decide +kernel
theorem dX9_findPairing_40 : decode cX9_findPairing 40 = .ok (.aload_n 0, 1) := by decide +kernel
theorem dX9_findPairing_41 : decode cX9_findPairing 41 = .ok (.getfield 26, 3) := by decide +kernel
theorem dX9_findPairing_44 : decode cX9_findPairing 44 = .ok (.if_icmp .ne 137, 3) := by decide +kernel
theorem dX9_findPairing_47 : decode cX9_findPairing 47 = .ok (.iconst 0, 1) := by decide +kernel
theorem dX9_findPairing_48 : decode cX9_findPairing 48 = .ok (.istore 4, 2) := by decide +kernel
theorem dX9_findPairing_50 : decode cX9_findPairing 50 = .ok (.iload 4, 2) := by decide +kernel
theorem dX9_findPairing_52 : decode cX9_findPairing 52 = .ok (.iconst 1, 1) := by decide +kernel
theorem dX9_findPairing_53 : decode cX9_findPairing 53 = .ok (.aload_n 0, 1) := by decide +kernel
theorem dX9_findPairing_54 : decode cX9_findPairing 54 = .ok (.getfield 159, 3) := by decide +kernel
theorem dX9_findPairing_57 : decode cX9_findPairing 57 = .ok (.ishl, 1) := by decide +kernel
theorem dX9_findPairing_58 : decode cX9_findPairing 58 = .ok (.if_icmp .ge 123, 3) := by decide +kernel
theorem dX9_findPairing_61 : decode cX9_findPairing 61 = .ok (.iload 4, 2) := by decide +kernel
theorem dX9_findPairing_63 : decode cX9_findPairing 63 = .ok (.iload_n 2, 1) := by decide +kernel
theorem dX9_findPairing_64 : decode cX9_findPairing 64 = .ok (.iconst (-1), 1) := by decide +kernel
theorem dX9_findPairing_65 : decode cX9_findPairing 65 = .ok (.ixor, 1) := by decide +kernel
theorem dX9_findPairing_66 : decode cX9_findPairing 66 = .ok (.iand, 1) := by decide +kernel
theorem dX9_findPairing_67 : decode cX9_findPairing 67 = .ok (.ifCond .ne 108, 3) := by decide +kernel
theorem dX9_findPairing_70 : decode cX9_findPairing 70 = .ok (.iload_n 3, 1) := by decide +kernel
theorem dX9_findPairing_71 : decode cX9_findPairing 71 = .ok (.iload 4, 2) := by decide +kernel
theorem dX9_findPairing_73 : decode cX9_findPairing 73 = .ok (.iand, 1) := by decide +kernel
theorem dX9_findPairing_74 : decode cX9_findPairing 74 = .ok (.ifCond .ne 101, 3) := by decide +kernel
theorem dX9_findPairing_77 : decode cX9_findPairing 77 = .ok (.aload_n 0, 1) := by decide +kernel
theorem dX9_findPairing_78 : decode cX9_findPairing 78 = .ok (.getfield 74, 3) := by decide +kernel
theorem dX9_findPairing_81 : decode cX9_findPairing 81 = .ok (.iload 4, 2) := by decide +kernel
theorem dX9_findPairing_83 : decode cX9_findPairing 83 = .ok (.iaload, 1) := by decide +kernel
theorem dX9_findPairing_84 : decode cX9_findPairing 84 = .ok (.aload_n 0, 1) := by decide +kernel
theorem dX9_findPairing_85 : decode cX9_findPairing 85 = .ok (.getfield 26, 3) := by decide +kernel
theorem dX9_findPairing_88 : decode cX9_findPairing 88 = .ok (.if_icmp .ne 87, 3) := by decide +kernel
theorem dX9_findPairing_91 : decode cX9_findPairing 91 = .ok (.aload_n 0, 1) := by decide +kernel
theorem dX9_findPairing_92 : decode cX9_findPairing 92 = .ok (.getfield 77, 3) := by decide +kernel
theorem dX9_findPairing_95 : decode cX9_findPairing 95 = .ok (.iload_n 3, 1) := by decide +kernel
theorem dX9_findPairing_96 : decode cX9_findPairing 96 = .ok (.laload, 1) := by decide +kernel
theorem dX9_findPairing_97 : decode cX9_findPairing 97 = .ok (.aload_n 0, 1) := by decide +kernel
theorem dX9_findPairing_98 : decode cX9_findPairing 98 = .ok (.getfield 77, 3) := by decide +kernel
theorem dX9_findPairing_101 : decode cX9_findPairing 101 = .ok (.iload 4, 2) := by decide +kernel
theorem dX9_findPairing_103 : decode cX9_findPairing 103 = .ok (.laload, 1) := by decide +kernel
theorem dX9_findPairing_104 : decode cX9_findPairing 104 = .ok (.lcmp, 1) := by decide +kernel
theorem dX9_findPairing_105 : decode cX9_findPairing 105 = .ok (.ifCond .ge 20, 3) := by decide +kernel
theorem dX9_findPairing_108 : decode cX9_findPairing 108 = .ok (.aload_n 0, 1) := by decide +kernel
theorem dX9_findPairing_109 : decode cX9_findPairing 109 = .ok (.getfield 77, 3) := by decide +kernel
theorem dX9_findPairing_112 : decode cX9_findPairing 112 = .ok (.iload 4, 2) := by decide +kernel
theorem dX9_findPairing_114 : decode cX9_findPairing 114 = .ok (.laload, 1) := by decide +kernel
theorem dX9_findPairing_115 : decode cX9_findPairing 115 = .ok (.aload_n 0, 1) := by decide +kernel
theorem dX9_findPairing_116 : decode cX9_findPairing 116 = .ok (.getfield 77, 3) := by decide +kernel
theorem dX9_findPairing_119 : decode cX9_findPairing 119 = .ok (.iload_n 3, 1) := by decide +kernel
theorem dX9_findPairing_120 : decode cX9_findPairing 120 = .ok (.laload, 1) := by decide +kernel
theorem dX9_findPairing_121 : decode cX9_findPairing 121 = .ok (.lsub, 1) := by decide +kernel
theorem dX9_findPairing_122 : decode cX9_findPairing 122 = .ok (.goto 17, 3) := by decide +kernel
theorem dX9_findPairing_125 : decode cX9_findPairing 125 = .ok (.aload_n 0, 1) := by decide +kernel
theorem dX9_findPairing_126 : decode cX9_findPairing 126 = .ok (.getfield 77, 3) := by decide +kernel
theorem dX9_findPairing_129 : decode cX9_findPairing 129 = .ok (.iload_n 3, 1) := by decide +kernel
theorem dX9_findPairing_130 : decode cX9_findPairing 130 = .ok (.laload, 1) := by decide +kernel
theorem dX9_findPairing_131 : decode cX9_findPairing 131 = .ok (.aload_n 0, 1) := by decide +kernel
theorem dX9_findPairing_132 : decode cX9_findPairing 132 = .ok (.getfield 77, 3) := by decide +kernel
theorem dX9_findPairing_135 : decode cX9_findPairing 135 = .ok (.iload 4, 2) := by decide +kernel
theorem dX9_findPairing_137 : decode cX9_findPairing 137 = .ok (.laload, 1) := by decide +kernel
theorem dX9_findPairing_138 : decode cX9_findPairing 138 = .ok (.lsub, 1) := by decide +kernel
theorem dX9_findPairing_139 : decode cX9_findPairing 139 = .ok (.lstore 5, 2) := by decide +kernel
theorem dX9_findPairing_141 : decode cX9_findPairing 141 = .ok (.aload_n 0, 1) := by decide +kernel
theorem dX9_findPairing_142 : decode cX9_findPairing 142 = .ok (.getfield 185, 3) := by decide +kernel
theorem dX9_findPairing_145 : decode cX9_findPairing 145 = .ok (.ifCond .lt 13, 3) := by decide +kernel
theorem dX9_findPairing_148 : decode cX9_findPairing 148 = .ok (.lload 5, 2) := by decide +kernel
theorem dX9_findPairing_150 : decode cX9_findPairing 150 = .ok (.aload_n 0, 1) := by decide +kernel
theorem dX9_findPairing_151 : decode cX9_findPairing 151 = .ok (.getfield 188, 3) := by decide +kernel
theorem dX9_findPairing_154 : decode cX9_findPairing 154 = .ok (.lcmp, 1) := by decide +kernel
theorem dX9_findPairing_155 : decode cX9_findPairing 155 = .ok (.ifCond .ge 20, 3) := by decide +kernel
theorem dX9_findPairing_158 : decode cX9_findPairing 158 = .ok (.aload_n 0, 1) := by decide +kernel
theorem dX9_findPairing_159 : decode cX9_findPairing 159 = .ok (.iload_n 3, 1) := by decide +kernel
theorem dX9_findPairing_160 : decode cX9_findPairing 160 = .ok (.putfield 185, 3) := by decide +kernel
theorem dX9_findPairing_163 : decode cX9_findPairing 163 = .ok (.aload_n 0, 1) := by decide +kernel
theorem dX9_findPairing_164 : decode cX9_findPairing 164 = .ok (.iload 4, 2) := by decide +kernel
theorem dX9_findPairing_166 : decode cX9_findPairing 166 = .ok (.putfield 192, 3) := by decide +kernel
theorem dX9_findPairing_169 : decode cX9_findPairing 169 = .ok (.aload_n 0, 1) := by decide +kernel
theorem dX9_findPairing_170 : decode cX9_findPairing 170 = .ok (.lload 5, 2) := by decide +kernel
theorem dX9_findPairing_172 : decode cX9_findPairing 172 = .ok (.putfield 188, 3) := by decide +kernel
theorem dX9_findPairing_175 : decode cX9_findPairing 175 = .ok (.iinc 4 1, 3) := by decide +kernel
theorem dX9_findPairing_178 : decode cX9_findPairing 178 = .ok (.goto (-128), 3) := by decide +kernel
theorem dX9_findPairing_181 : decode cX9_findPairing 181 = .ok (.iinc 3 1, 3) := by decide +kernel
theorem dX9_findPairing_184 : decode cX9_findPairing 184 = .ok (.goto (-177), 3) := by decide +kernel
theorem dX9_findPairing_187 : decode cX9_findPairing 187 = .ok (.aload_n 0, 1) := by decide +kernel
theorem dX9_findPairing_188 : decode cX9_findPairing 188 = .ok (.getfield 185, 3) := by decide +kernel
theorem dX9_findPairing_191 : decode cX9_findPairing 191 = .ok (.ifCond .lt 20, 3) := by decide +kernel
theorem dX9_findPairing_194 : decode cX9_findPairing 194 = .ok (.aload_n 0, 1) := by decide +kernel
theorem dX9_findPairing_195 : decode cX9_findPairing 195 = .ok (.getfield 188, 3) := by decide +kernel
theorem dX9_findPairing_198 : decode cX9_findPairing 198 = .ok (.aload_n 0, 1) := by decide +kernel
theorem dX9_findPairing_199 : decode cX9_findPairing 199 = .ok (.iload_n 1, 1) := by decide +kernel
theorem dX9_findPairing_200 : decode cX9_findPairing 200 = .ok (.invokevirtual 179, 3) := by decide +kernel
theorem dX9_findPairing_203 : decode cX9_findPairing 203 = .ok (.lcmp, 1) := by decide +kernel
theorem dX9_findPairing_204 : decode cX9_findPairing 204 = .ok (.ifCond .gt 7, 3) := by decide +kernel
theorem dX9_findPairing_207 : decode cX9_findPairing 207 = .ok (.iconst 1, 1) := by decide +kernel
theorem dX9_findPairing_208 : decode cX9_findPairing 208 = .ok (.goto 4, 3) := by decide +kernel
theorem dX9_findPairing_211 : decode cX9_findPairing 211 = .ok (.iconst 0, 1) := by decide +kernel
theorem dX9_findPairing_212 : decode cX9_findPairing 212 = .ok (.ireturn, 1) := by decide +kernel
set_option maxRecDepth 20000 in
theorem ggX9_pairing_X9_isPlayer : GoodIn wsX9_pairing wsX9_isPlayer := goodIn_r _ [11, 12, 13, 14, 10, 15, 60, 61, 62, 63, 64, 65, 66, 67, 68, 69, 70, 71, 72, 73, 74, 75, 76, 77, 78, 79, 80, 81, 82, 83, 84, 85, 86, 87, 88, 89, 90, 91, 92] (by decide +kernel) (by decide +kernel)
set_option maxRecDepth 20000 in
theorem gX9_pairing_X9_isPlayer : GoodIn wsX9_pairing (wsV RX9 121 RX9 yX9_isPlayer wsX9_isPlayer) := goodIn_app (goodIn_of _ (by decide +kernel)) ggX9_pairing_X9_isPlayer
set_option maxRecDepth 20000 in
theorem ggX9_pairing_X9_in : GoodIn wsX9_pairing wsX9_in := goodIn_r _ [15] (by decide +kernel) (by decide +kernel)
set_option maxRecDepth 20000 in
theorem gX9_pairing_X9_in : GoodIn wsX9_pairing (va_wsS RX9 97 yX9_in wsX9_in) := goodIn_app (goodIn_of _ (by decide +kernel)) ggX9_pairing_X9_in
set_option maxRecDepth 20000 in
theorem ggX9_pairing_X9_finding : GoodIn wsX9_pairing wsX9_finding := goodIn_r _ [19, 20, 21, 60, 61, 62, 63, 64, 65, 66, 67, 68, 69, 70, 71, 72, 73, 74, 75, 76, 77, 78, 79, 80, 81, 82, 83, 84, 85, 86, 87, 88, 89, 90, 91, 92] (by decide +kernel) (by decide +kernel)
