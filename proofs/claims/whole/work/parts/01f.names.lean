theorem dX5_passOn_143 : decode cX5_passOn 143 = .ok (.goto 4, 3) := by decide +kernel
theorem dX5_passOn_146 : decode cX5_passOn 146 = .ok (.iconst 0, 1) := by decide +kernel
theorem dX5_passOn_147 : decode cX5_passOn 147 = .ok (.ior, 1) := by decide +kernel
theorem dX5_passOn_148 : decode cX5_passOn 148 = .ok (.iastore, 1) := by decide +kernel
theorem dX5_passOn_149 : decode cX5_passOn 149 = .ok (.aload_n 0, 1) := by decide +kernel
theorem dX5_passOn_150 : decode cX5_passOn 150 = .ok (.getfield 28, 3) := by decide +kernel
theorem dX5_passOn_153 : decode cX5_passOn 153 = .ok (.iload_n 2, 1) := by decide +kernel
theorem dX5_passOn_154 : decode cX5_passOn 154 = .ok (.bipush 15, 2) := by decide +kernel
theorem dX5_passOn_156 : decode cX5_passOn 156 = .ok (.iadd, 1) := by decide +kernel
theorem dX5_passOn_157 : decode cX5_passOn 157 = .ok (.dup2, 1) := by decide +kernel
theorem dX5_passOn_158 : decode cX5_passOn 158 = .ok (.iaload, 1) := by decide +kernel
theorem dX5_passOn_159 : decode cX5_passOn 159 = .ok (.iconst 1, 1) := by decide +kernel
theorem dX5_passOn_160 : decode cX5_passOn 160 = .ok (.iadd, 1) := by decide +kernel
theorem dX5_passOn_161 : decode cX5_passOn 161 = .ok (.iastore, 1) := by decide +kernel
theorem dX5_passOn_162 : decode cX5_passOn 162 = .ok (.iload 4, 2) := by decide +kernel
theorem dX5_passOn_164 : decode cX5_passOn 164 = .ok (.ireturn, 1) := by decide +kernel
set_option maxRecDepth 20000 in
theorem ggX5_nextBar_X5_isSilent : GoodIn wsX5_nextBar wsX5_isSilent := goodIn_r _ [6, 1, 7, 8, 9, 10, 5, 11, 12, 13, 14, 15, 16, 17, 18, 19, 20, 21, 22, 23, 24, 25, 26, 27, 28, 29, 30, 31, 32, 33, 34, 35, 36, 37, 38, 39, 40, 41, 42, 43, 44, 45, 46, 47, 48] (by decide +kernel) (by decide +kernel)
set_option maxRecDepth 20000 in
theorem gX5_nextBar_X5_isSilent : GoodIn wsX5_nextBar (wsV RX5 120 RX5 yX5_isSilent wsX5_isSilent) := goodIn_app (goodIn_of _ (by decide +kernel)) ggX5_nextBar_X5_isSilent
theorem dX5_nextBar_0 : decode cX5_nextBar 0 = .ok (.aload_n 0, 1) := by decide +kernel
theorem dX5_nextBar_1 : decode cX5_nextBar 1 = .ok (.iload_n 1, 1) := by decide +kernel
theorem dX5_nextBar_2 : decode cX5_nextBar 2 = .ok (.invokevirtual 120, 3) := by decide +kernel
theorem dX5_nextBar_5 : decode cX5_nextBar 5 = .ok (.ifCond .eq 8, 3) := by decide +kernel
theorem dX5_nextBar_8 : decode cX5_nextBar 8 = .ok (.bipush (-9), 2) := by decide +kernel
theorem dX5_nextBar_10 : decode cX5_nextBar 10 = .ok (.goto 15, 3) := by decide +kernel
theorem dX5_nextBar_13 : decode cX5_nextBar 13 = .ok (.aload_n 0, 1) := by decide +kernel
theorem dX5_nextBar_14 : decode cX5_nextBar 14 = .ok (.getfield 28, 3) := by decide +kernel
theorem dX5_nextBar_17 : decode cX5_nextBar 17 = .ok (.bipush 16, 2) := by decide +kernel
theorem dX5_nextBar_19 : decode cX5_nextBar 19 = .ok (.iload_n 1, 1) := by decide +kernel
theorem dX5_nextBar_20 : decode cX5_nextBar 20 = .ok (.imul, 1) := by decide +kernel
theorem dX5_nextBar_21 : decode cX5_nextBar 21 = .ok (.bipush 12, 2) := by decide +kernel
theorem dX5_nextBar_23 : decode cX5_nextBar 23 = .ok (.iadd, 1) := by decide +kernel
theorem dX5_nextBar_24 : decode cX5_nextBar 24 = .ok (.iaload, 1) := by decide +kernel
theorem dX5_nextBar_25 : decode cX5_nextBar 25 = .ok (.ireturn, 1) := by decide +kernel
set_option maxRecDepth 20000 in
theorem ggX5_player_X5_isPlayer : GoodIn wsX5_player wsX5_isPlayer := goodIn_r _ [9, 10, 11, 12, 8, 13, 14, 15, 16, 17, 18, 19, 20, 21, 22, 23, 24, 25, 26, 27, 28, 29, 30, 31, 32, 33, 34, 35, 36, 37, 38, 39, 40, 41, 42] (by decide +kernel) (by decide +kernel)
set_option maxRecDepth 20000 in
theorem gX5_player_X5_isPlayer : GoodIn wsX5_player (wsV RX5 112 RX5 yX5_isPlayer wsX5_isPlayer) := goodIn_app (goodIn_of _ (by decide +kernel)) ggX5_player_X5_isPlayer
theorem dX5_player_0 : decode cX5_player 0 = .ok (.aload_n 0, 1) := by decide +kernel
theorem dX5_player_1 : decode cX5_player 1 = .ok (.iload_n 1, 1) := by decide +kernel
theorem dX5_player_2 : decode cX5_player 2 = .ok (.invokevirtual 112, 3) := by decide +kernel
theorem dX5_player_5 : decode cX5_player 5 = .ok (.ifCond .ne 5, 3) := by decide +kernel
theorem dX5_player_8 : decode cX5_player 8 = .ok (.iconst (-1), 1) := by decide +kernel
theorem dX5_player_9 : decode cX5_player 9 = .ok (.ireturn, 1) := by decide +kernel
theorem dX5_player_10 : decode cX5_player 10 = .ok (.iload_n 2, 1) := by decide +kernel
theorem dX5_player_11 : decode cX5_player 11 = .ok (.tableswitch 71 0 4 #[33, 40, 50, 57, 64], 33) := by decide +kernel
theorem dX5_player_44 : decode cX5_player 44 = .ok (.aload_n 0, 1) := by decide +kernel
theorem dX5_player_45 : decode cX5_player 45 = .ok (.getfield 7, 3) := by decide +kernel
theorem dX5_player_48 : decode cX5_player 48 = .ok (.iload_n 1, 1) := by decide +kernel
theorem dX5_player_49 : decode cX5_player 49 = .ok (.iaload, 1) := by decide +kernel
theorem dX5_player_50 : decode cX5_player 50 = .ok (.ireturn, 1) := by decide +kernel
theorem dX5_player_51 : decode cX5_player 51 = .ok (.aload_n 0, 1) := by decide +kernel
theorem dX5_player_52 : decode cX5_player 52 = .ok (.getfield 28, 3) := by decide +kernel
theorem dX5_player_55 : decode cX5_player 55 = .ok (.bipush 6, 2) := by decide +kernel
theorem dX5_player_57 : decode cX5_player 57 = .ok (.iload_n 1, 1) := by decide +kernel
theorem dX5_player_58 : decode cX5_player 58 = .ok (.iadd, 1) := by decide +kernel
theorem dX5_player_59 : decode cX5_player 59 = .ok (.iaload, 1) := by decide +kernel
theorem dX5_player_60 : decode cX5_player 60 = .ok (.ireturn, 1) := by decide +kernel
theorem dX5_player_61 : decode cX5_player 61 = .ok (.aload_n 0, 1) := by decide +kernel
theorem dX5_player_62 : decode cX5_player 62 = .ok (.getfield 16, 3) := by decide +kernel
theorem dX5_player_65 : decode cX5_player 65 = .ok (.iload_n 1, 1) := by decide +kernel
theorem dX5_player_66 : decode cX5_player 66 = .ok (.iaload, 1) := by decide +kernel
theorem dX5_player_67 : decode cX5_player 67 = .ok (.ireturn, 1) := by decide +kernel
theorem dX5_player_68 : decode cX5_player 68 = .ok (.aload_n 0, 1) := by decide +kernel
theorem dX5_player_69 : decode cX5_player 69 = .ok (.getfield 19, 3) := by decide +kernel
theorem dX5_player_72 : decode cX5_player 72 = .ok (.iload_n 1, 1) := by decide +kernel
theorem dX5_player_73 : decode cX5_player 73 = .ok (.iaload, 1) := by decide +kernel
theorem dX5_player_74 : decode cX5_player 74 = .ok (.ireturn, 1) := by decide +kernel
theorem dX5_player_75 : decode cX5_player 75 = .ok (.aload_n 0, 1) := by decide +kernel
theorem dX5_player_76 : decode cX5_player 76 = .ok (.getfield 28, 3) := by decide +kernel
theorem dX5_player_79 : decode cX5_player 79 = .ok (.iload_n 1, 1) := by decide +kernel
theorem dX5_player_80 : decode cX5_player 80 = .ok (.iaload, 1) := by decide +kernel
theorem dX5_player_81 : decode cX5_player 81 = .ok (.ireturn, 1) := by decide +kernel
theorem dX5_player_82 : decode cX5_player 82 = .ok (.bipush (-2), 2) := by decide +kernel
theorem dX5_player_84 : decode cX5_player 84 = .ok (.ireturn, 1) := by decide +kernel
set_option maxRecDepth 20000 in
theorem ggX5_score_X5_in : GoodIn wsX5_score wsX5_in := goodIn_r _ [8] (by decide +kernel) (by decide +kernel)
set_option maxRecDepth 20000 in
theorem gX5_score_X5_in : GoodIn wsX5_score (va_wsS RX5 61 yX5_in wsX5_in) := goodIn_app (goodIn_of _ (by decide +kernel)) ggX5_score_X5_in
theorem dX5_score_0 : decode cX5_score 0 = .ok (.iload_n 1, 1) := by decide +kernel
theorem dX5_score_1 : decode cX5_score 1 = .ok (.i2l, 1) := by decide +kernel
theorem dX5_score_2 : decode cX5_score 2 = .ok (.lconst 0, 1) := by decide +kernel
theorem dX5_score_3 : decode cX5_score 3 = .ok (.aload_n 0, 1) := by decide +kernel
theorem dX5_score_4 : decode cX5_score 4 = .ok (.getfield 96, 3) := by decide +kernel
theorem dX5_score_7 : decode cX5_score 7 = .ok (.iconst 1, 1) := by decide +kernel
theorem dX5_score_8 : decode cX5_score 8 = .ok (.isub, 1) := by decide +kernel
theorem dX5_score_9 : decode cX5_score 9 = .ok (.i2l, 1) := by decide +kernel
theorem dX5_score_10 : decode cX5_score 10 = .ok (.invokestatic 61, 3) := by decide +kernel
theorem dX5_score_13 : decode cX5_score 13 = .ok (.ifCond .ne 5, 3) := by decide +kernel
theorem dX5_score_16 : decode cX5_score 16 = .ok (.iconst (-1), 1) := by decide +kernel
theorem dX5_score_17 : decode cX5_score 17 = .ok (.ireturn, 1) := by decide +kernel
theorem dX5_score_18 : decode cX5_score 18 = .ok (.iload_n 2, 1) := by decide +kernel
theorem dX5_score_19 : decode cX5_score 19 = .ok (.ifCond .ne 12, 3) := by decide +kernel
theorem dX5_score_22 : decode cX5_score 22 = .ok (.aload_n 0, 1) := by decide +kernel
theorem dX5_score_23 : decode cX5_score 23 = .ok (.getfield 22, 3) := by decide +kernel
theorem dX5_score_26 : decode cX5_score 26 = .ok (.iload_n 1, 1) := by decide +kernel
theorem dX5_score_27 : decode cX5_score 27 = .ok (.iaload, 1) := by decide +kernel
theorem dX5_score_28 : decode cX5_score 28 = .ok (.goto 38, 3) := by decide +kernel
theorem dX5_score_31 : decode cX5_score 31 = .ok (.iload_n 2, 1) := by decide +kernel
theorem dX5_score_32 : decode cX5_score 32 = .ok (.iconst 1, 1) := by decide +kernel
theorem dX5_score_33 : decode cX5_score 33 = .ok (.if_icmp .ne 12, 3) := by decide +kernel
theorem dX5_score_36 : decode cX5_score 36 = .ok (.aload_n 0, 1) := by decide +kernel
theorem dX5_score_37 : decode cX5_score 37 = .ok (.getfield 25, 3) := by decide +kernel
theorem dX5_score_40 : decode cX5_score 40 = .ok (.iload_n 1, 1) := by decide +kernel
theorem dX5_score_41 : decode cX5_score 41 = .ok (.iaload, 1) := by decide +kernel
theorem dX5_score_42 : decode cX5_score 42 = .ok (.goto 24, 3) := by decide +kernel
theorem dX5_score_45 : decode cX5_score 45 = .ok (.iload_n 2, 1) := by decide +kernel
theorem dX5_score_46 : decode cX5_score 46 = .ok (.iconst 2, 1) := by decide +kernel
theorem dX5_score_47 : decode cX5_score 47 = .ok (.if_icmp .ne 17, 3) := by decide +kernel
theorem dX5_score_50 : decode cX5_score 50 = .ok (.aload_n 0, 1) := by decide +kernel
theorem dX5_score_51 : decode cX5_score 51 = .ok (.getfield 28, 3) := by decide +kernel
theorem dX5_score_54 : decode cX5_score 54 = .ok (.bipush 13, 2) := by decide +kernel
theorem dX5_score_56 : decode cX5_score 56 = .ok (.iaload, 1) := by decide +kernel
theorem dX5_score_57 : decode cX5_score 57 = .ok (.iload_n 1, 1) := by decide +kernel
theorem dX5_score_58 : decode cX5_score 58 = .ok (.ishr, 1) := by decide +kernel
theorem dX5_score_59 : decode cX5_score 59 = .ok (.iconst 1, 1) := by decide +kernel
theorem dX5_score_60 : decode cX5_score 60 = .ok (.iand, 1) := by decide +kernel
theorem dX5_score_61 : decode cX5_score 61 = .ok (.goto 5, 3) := by decide +kernel
theorem dX5_score_64 : decode cX5_score 64 = .ok (.bipush (-2), 2) := by decide +kernel
theorem dX5_score_66 : decode cX5_score 66 = .ok (.ireturn, 1) := by decide +kernel
theorem dX5_keepAct_0 : decode cX5_keepAct 0 = .ok (.iconst 0, 1) := by decide +kernel
theorem dX5_keepAct_1 : decode cX5_keepAct 1 = .ok (.istore_n 1, 1) := by decide +kernel
theorem dX5_keepAct_2 : decode cX5_keepAct 2 = .ok (.iload_n 1, 1) := by decide +kernel
theorem dX5_keepAct_3 : decode cX5_keepAct 3 = .ok (.bipush 16, 2) := by decide +kernel
theorem dX5_keepAct_5 : decode cX5_keepAct 5 = .ok (.if_icmp .ge 29, 3) := by decide +kernel
theorem dX5_keepAct_8 : decode cX5_keepAct 8 = .ok (.aload_n 0, 1) := by decide +kernel
theorem dX5_keepAct_9 : decode cX5_keepAct 9 = .ok (.getfield 40, 3) := by decide +kernel
theorem dX5_keepAct_12 : decode cX5_keepAct 12 = .ok (.bipush 16, 2) := by decide +kernel
theorem dX5_keepAct_14 : decode cX5_keepAct 14 = .ok (.aload_n 0, 1) := by decide +kernel
theorem dX5_keepAct_15 : decode cX5_keepAct 15 = .ok (.getfield 133, 3) := by decide +kernel
theorem dX5_keepAct_18 : decode cX5_keepAct 18 = .ok (.imul, 1) := by decide +kernel
theorem dX5_keepAct_19 : decode cX5_keepAct 19 = .ok (.iload_n 1, 1) := by decide +kernel
theorem dX5_keepAct_20 : decode cX5_keepAct 20 = .ok (.iadd, 1) := by decide +kernel
theorem dX5_keepAct_21 : decode cX5_keepAct 21 = .ok (.aload_n 0, 1) := by decide +kernel
theorem dX5_keepAct_22 : decode cX5_keepAct 22 = .ok (.getfield 28, 3) := by decide +kernel
theorem dX5_keepAct_25 : decode cX5_keepAct 25 = .ok (.iload_n 1, 1) := by decide +kernel
theorem dX5_keepAct_26 : decode cX5_keepAct 26 = .ok (.iaload, 1) := by decide +kernel
theorem dX5_keepAct_27 : decode cX5_keepAct 27 = .ok (.iastore, 1) := by decide +kernel
theorem dX5_keepAct_28 : decode cX5_keepAct 28 = .ok (.iinc 1 1, 3) := by decide +kernel
theorem dX5_keepAct_31 : decode cX5_keepAct 31 = .ok (.goto (-29), 3) := by decide +kernel
theorem dX5_keepAct_34 : decode cX5_keepAct 34 = .ok (.aload_n 0, 1) := by decide +kernel
theorem dX5_keepAct_35 : decode cX5_keepAct 35 = .ok (.aload_n 0, 1) := by decide +kernel
theorem dX5_keepAct_36 : decode cX5_keepAct 36 = .ok (.getfield 133, 3) := by decide +kernel
theorem dX5_keepAct_39 : decode cX5_keepAct 39 = .ok (.iconst 1, 1) := by decide +kernel
theorem dX5_keepAct_40 : decode cX5_keepAct 40 = .ok (.iadd, 1) := by decide +kernel
theorem dX5_keepAct_41 : decode cX5_keepAct 41 = .ok (.bipush 14, 2) := by decide +kernel
theorem dX5_keepAct_43 : decode cX5_keepAct 43 = .ok (.irem, 1) := by decide +kernel
theorem dX5_keepAct_44 : decode cX5_keepAct 44 = .ok (.putfield 133, 3) := by decide +kernel
theorem dX5_keepAct_47 : decode cX5_keepAct 47 = .ok (.aload_n 0, 1) := by decide +kernel
theorem dX5_keepAct_48 : decode cX5_keepAct 48 = .ok (.aload_n 0, 1) := by decide +kernel
theorem dX5_keepAct_49 : decode cX5_keepAct 49 = .ok (.getfield 99, 3) := by decide +kernel
theorem dX5_keepAct_52 : decode cX5_keepAct 52 = .ok (.bipush 14, 2) := by decide +kernel
theorem dX5_keepAct_54 : decode cX5_keepAct 54 = .ok (.if_icmp .ge 12, 3) := by decide +kernel
theorem dX5_keepAct_57 : decode cX5_keepAct 57 = .ok (.aload_n 0, 1) := by decide +kernel
theorem dX5_keepAct_58 : decode cX5_keepAct 58 = .ok (.getfield 99, 3) := by decide +kernel
theorem dX5_keepAct_61 : decode cX5_keepAct 61 = .ok (.iconst 1, 1) := by decide +kernel
theorem dX5_keepAct_62 : decode cX5_keepAct 62 = .ok (.iadd, 1) := by decide +kernel
theorem dX5_keepAct_63 : decode cX5_keepAct 63 = .ok (.goto 5, 3) := by decide +kernel
theorem dX5_keepAct_66 : decode cX5_keepAct 66 = .ok (.bipush 14, 2) := by decide +kernel
theorem dX5_keepAct_68 : decode cX5_keepAct 68 = .ok (.putfield 99, 3) := by decide +kernel
theorem dX5_keepAct_71 : decode cX5_keepAct 71 = .ok (.return_, 1) := by decide +kernel
set_option maxRecDepth 20000 in
theorem ggX5_bar_X5_isSilent : GoodIn wsX5_bar wsX5_isSilent := goodIn_r _ [5, 6, 7, 8, 9, 10, 4, 11, 12, 13, 14, 15, 16, 17, 18, 19, 57, 58, 59, 60, 61, 62, 63, 64, 65, 66, 67, 68, 69, 70, 71, 72, 73, 74, 75, 76, 77, 78, 79, 80, 81, 82, 83, 84, 85] (by decide +kernel) (by decide +kernel)
set_option maxRecDepth 20000 in
theorem gX5_bar_X5_isSilent : GoodIn wsX5_bar (wsV RX5 120 RX5 yX5_isSilent wsX5_isSilent) := goodIn_app (goodIn_of _ (by decide +kernel)) ggX5_bar_X5_isSilent
set_option maxRecDepth 20000 in
theorem ggX5_bar_X5_keepAct : GoodIn wsX5_bar wsX5_keepAct := goodIn_r _ [23, 24, 25, 6, 26, 57, 58, 59, 60, 61, 62, 63, 64, 65, 66, 67, 68, 69, 70, 71, 72, 73, 74, 75, 76, 77, 78, 79, 80, 81, 82, 83, 84, 85] (by decide +kernel) (by decide +kernel)
set_option maxRecDepth 20000 in
theorem gX5_bar_X5_keepAct : GoodIn wsX5_bar (wsV RX5 136 RX5 yX5_keepAct wsX5_keepAct) := goodIn_app (goodIn_of _ (by decide +kernel)) ggX5_bar_X5_keepAct
set_option maxRecDepth 20000 in
theorem ggX5_bar_X5_passOn : GoodIn wsX5_bar wsX5_passOn := goodIn_r _ [30, 6, 31, 32, 7, 1, 2, 3, 4, 5, 8, 9, 10, 11, 12, 13, 14, 15, 16, 17, 18, 19, 33, 34, 35, 36, 37, 38, 39, 40, 41, 42, 43, 44, 45, 46, 47, 48, 49, 50, 51, 52, 53, 54, 55, 56, 57, 58, 59, 60, 61, 62, 63, 64, 65, 66, 67, 68, 69, 70, 71, 72, 73, 74, 75, 76, 77, 78, 79, 80, 81, 82, 83, 84, 85] (by decide +kernel) (by decide +kernel)
set_option maxRecDepth 20000 in
theorem gX5_bar_X5_passOn : GoodIn wsX5_bar (wsV RX5 139 RX5 yX5_passOn wsX5_passOn) := goodIn_app (goodIn_of _ (by decide +kernel)) ggX5_bar_X5_passOn
set_option maxRecDepth 20000 in
theorem ggX5_bar_X5_howMany : GoodIn wsX5_bar wsX5_howMany := goodIn_r _ [11, 12, 13, 14, 4, 15, 16, 6, 17, 18, 19, 57, 58, 59, 60, 61, 62, 63, 64, 65, 66, 67, 68, 69, 70, 71, 72, 73, 74, 75, 76, 77, 78, 79, 80, 81, 82, 83, 84, 85] (by decide +kernel) (by decide +kernel)
set_option maxRecDepth 20000 in
theorem gX5_bar_X5_howMany : GoodIn wsX5_bar (wsV RX5 109 RX5 yX5_howMany wsX5_howMany) := goodIn_app (goodIn_of _ (by decide +kernel)) ggX5_bar_X5_howMany
theorem dX5_bar_0 : decode cX5_bar 0 = .ok (.aload_n 0, 1) := by decide +kernel
theorem dX5_bar_1 : decode cX5_bar 1 = .ok (.iconst 0, 1) := by decide +kernel
theorem dX5_bar_2 : decode cX5_bar 2 = .ok (.invokevirtual 120, 3) := by decide +kernel
theorem dX5_bar_5 : decode cX5_bar 5 = .ok (.ifCond .eq 6, 3) := by decide +kernel
theorem dX5_bar_8 : decode cX5_bar 8 = .ok (.bipush (-3), 2) := by decide +kernel
theorem dX5_bar_10 : decode cX5_bar 10 = .ok (.ireturn, 1) := by decide +kernel
theorem dX5_bar_11 : decode cX5_bar 11 = .ok (.aload_n 0, 1) := by decide +kernel
theorem dX5_bar_12 : decode cX5_bar 12 = .ok (.invokevirtual 136, 3) := by decide +kernel
theorem dX5_bar_15 : decode cX5_bar 15 = .ok (.aload_n 0, 1) := by decide +kernel
theorem dX5_bar_16 : decode cX5_bar 16 = .ok (.iconst 0, 1) := by decide +kernel
theorem dX5_bar_17 : decode cX5_bar 17 = .ok (.invokevirtual 139, 3) := by decide +kernel
theorem dX5_bar_20 : decode cX5_bar 20 = .ok (.pop, 1) := by decide +kernel
theorem dX5_bar_21 : decode cX5_bar 21 = .ok (.aload_n 0, 1) := by decide +kernel
theorem dX5_bar_22 : decode cX5_bar 22 = .ok (.iconst 0, 1) := by decide +kernel
theorem dX5_bar_23 : decode cX5_bar 23 = .ok (.invokevirtual 109, 3) := by decide +kernel
theorem dX5_bar_26 : decode cX5_bar 26 = .ok (.ireturn, 1) := by decide +kernel
theorem dX5_giveOn_0 : decode cX5_giveOn 0 = .ok (.bipush 16, 2) := by decide +kernel
theorem dX5_giveOn_2 : decode cX5_giveOn 2 = .ok (.iload_n 1, 1) := by decide +kernel
theorem dX5_giveOn_3 : decode cX5_giveOn 3 = .ok (.imul, 1) := by decide +kernel
theorem dX5_giveOn_4 : decode cX5_giveOn 4 = .ok (.bipush 14, 2) := by decide +kernel
theorem dX5_giveOn_6 : decode cX5_giveOn 6 = .ok (.iadd, 1) := by decide +kernel
theorem dX5_giveOn_7 : decode cX5_giveOn 7 = .ok (.istore_n 3, 1) := by decide +kernel
theorem dX5_giveOn_8 : decode cX5_giveOn 8 = .ok (.aload_n 0, 1) := by decide +kernel
theorem dX5_giveOn_9 : decode cX5_giveOn 9 = .ok (.getfield 28, 3) := by decide +kernel
theorem dX5_giveOn_12 : decode cX5_giveOn 12 = .ok (.iload_n 3, 1) := by decide +kernel
theorem dX5_giveOn_13 : decode cX5_giveOn 13 = .ok (.aload_n 0, 1) := by decide +kernel
theorem dX5_giveOn_14 : decode cX5_giveOn 14 = .ok (.getfield 28, 3) := by decide +kernel
theorem dX5_giveOn_17 : decode cX5_giveOn 17 = .ok (.iload_n 3, 1) := by decide +kernel
theorem dX5_giveOn_18 : decode cX5_giveOn 18 = .ok (.iaload, 1) := by decide +kernel
theorem dX5_giveOn_19 : decode cX5_giveOn 19 = .ok (.iload_n 2, 1) := by decide +kernel
theorem dX5_giveOn_20 : decode cX5_giveOn 20 = .ok (.iadd, 1) := by decide +kernel
theorem dX5_giveOn_21 : decode cX5_giveOn 21 = .ok (.bipush 99, 2) := by decide +kernel
theorem dX5_giveOn_23 : decode cX5_giveOn 23 = .ok (.if_icmp .le 8, 3) := by decide +kernel
theorem dX5_giveOn_26 : decode cX5_giveOn 26 = .ok (.bipush 99, 2) := by decide +kernel
theorem dX5_giveOn_28 : decode cX5_giveOn 28 = .ok (.goto 11, 3) := by decide +kernel
theorem dX5_giveOn_31 : decode cX5_giveOn 31 = .ok (.aload_n 0, 1) := by decide +kernel
theorem dX5_giveOn_32 : decode cX5_giveOn 32 = .ok (.getfield 28, 3) := by decide +kernel
theorem dX5_giveOn_35 : decode cX5_giveOn 35 = .ok (.iload_n 3, 1) := by decide +kernel
theorem dX5_giveOn_36 : decode cX5_giveOn 36 = .ok (.iaload, 1) := by decide +kernel
theorem dX5_giveOn_37 : decode cX5_giveOn 37 = .ok (.iload_n 2, 1) := by decide +kernel
theorem dX5_giveOn_38 : decode cX5_giveOn 38 = .ok (.iadd, 1) := by decide +kernel
theorem dX5_giveOn_39 : decode cX5_giveOn 39 = .ok (.iastore, 1) := by decide +kernel
theorem dX5_giveOn_40 : decode cX5_giveOn 40 = .ok (.return_, 1) := by decide +kernel
set_option maxRecDepth 20000 in
theorem ggX5_give_X5_in : GoodIn wsX5_give wsX5_in := goodIn_r _ [6] (by decide +kernel) (by decide +kernel)
set_option maxRecDepth 20000 in
theorem gX5_give_X5_in : GoodIn wsX5_give (va_wsS RX5 61 yX5_in wsX5_in) := goodIn_app (goodIn_of _ (by decide +kernel)) ggX5_give_X5_in
set_option maxRecDepth 20000 in
theorem ggX5_give_X5_keepAct : GoodIn wsX5_give wsX5_keepAct := goodIn_r _ [10, 11, 12, 2, 13, 18, 19, 20, 21, 22, 23, 24, 25, 26, 27, 28, 29, 30, 31, 32, 33, 34, 35, 36, 37, 38, 39, 40, 41, 42, 43, 44, 45, 46] (by decide +kernel) (by decide +kernel)
set_option maxRecDepth 20000 in
theorem gX5_give_X5_keepAct : GoodIn wsX5_give (wsV RX5 136 RX5 yX5_keepAct wsX5_keepAct) := goodIn_app (goodIn_of _ (by decide +kernel)) ggX5_give_X5_keepAct
set_option maxRecDepth 20000 in
theorem ggX5_give_X5_giveOn : GoodIn wsX5_give wsX5_giveOn := goodIn_r _ [17, 2, 18, 19, 20, 21, 22, 23, 24, 25, 26, 27, 28, 29, 30, 31, 32, 33, 34, 35, 36, 37, 38, 39, 40, 41, 42, 43, 44, 45, 46] (by decide +kernel) (by decide +kernel)
set_option maxRecDepth 20000 in
theorem gX5_give_X5_giveOn : GoodIn wsX5_give (wsV RX5 144 RX5 yX5_giveOn wsX5_giveOn) := goodIn_app (goodIn_of _ (by decide +kernel)) ggX5_give_X5_giveOn
theorem dX5_give_0 : decode cX5_give 0 = .ok (.iload_n 1, 1) := by decide +kernel
theorem dX5_give_1 : decode cX5_give 1 = .ok (.i2l, 1) := by decide +kernel
theorem dX5_give_2 : decode cX5_give 2 = .ok (.lconst 1, 1) := by decide +kernel
theorem dX5_give_3 : decode cX5_give 3 = .ok (.ldc2_w 142, 3) := by decide +kernel
theorem dX5_give_6 : decode cX5_give 6 = .ok (.invokestatic 61, 3) := by decide +kernel
theorem dX5_give_9 : decode cX5_give 9 = .ok (.ifCond .ne 6, 3) := by decide +kernel
theorem dX5_give_12 : decode cX5_give 12 = .ok (.bipush (-2), 2) := by decide +kernel
theorem dX5_give_14 : decode cX5_give 14 = .ok (.ireturn, 1) := by decide +kernel
theorem dX5_give_15 : decode cX5_give 15 = .ok (.aload_n 0, 1) := by decide +kernel
theorem dX5_give_16 : decode cX5_give 16 = .ok (.invokevirtual 136, 3) := by decide +kernel
theorem dX5_give_19 : decode cX5_give 19 = .ok (.aload_n 0, 1) := by decide +kernel
theorem dX5_give_20 : decode cX5_give 20 = .ok (.iconst 0, 1) := by decide +kernel
theorem dX5_give_21 : decode cX5_give 21 = .ok (.iload_n 1, 1) := by decide +kernel
theorem dX5_give_22 : decode cX5_give 22 = .ok (.invokevirtual 144, 3) := by decide +kernel
theorem dX5_give_25 : decode cX5_give 25 = .ok (.aload_n 0, 1) := by decide +kernel
theorem dX5_give_26 : decode cX5_give 26 = .ok (.getfield 28, 3) := by decide +kernel
theorem dX5_give_29 : decode cX5_give 29 = .ok (.bipush 14, 2) := by decide +kernel
theorem dX5_give_31 : decode cX5_give 31 = .ok (.iaload, 1) := by decide +kernel
theorem dX5_give_32 : decode cX5_give 32 = .ok (.ireturn, 1) := by decide +kernel
set_option maxRecDepth 20000 in
theorem ggX5_canPay_X5_plays : GoodIn wsX5_canPay wsX5_plays := goodIn_r _ [7, 1, 8, 9, 10, 6, 11, 12, 13, 14, 15, 16, 17, 18, 19, 20, 21, 22, 23, 24, 25, 26, 27, 28, 29, 30, 31, 32, 33, 34, 35, 36, 37, 38, 39, 40, 41, 42, 43, 44] (by decide +kernel) (by decide +kernel)
set_option maxRecDepth 20000 in
theorem gX5_canPay_X5_plays : GoodIn wsX5_canPay (wsV RX5 116 RX5 yX5_plays wsX5_plays) := goodIn_app (goodIn_of _ (by decide +kernel)) ggX5_canPay_X5_plays
theorem dX5_canPay_0 : decode cX5_canPay 0 = .ok (.aload_n 0, 1) := by decide +kernel
theorem dX5_canPay_1 : decode cX5_canPay 1 = .ok (.iload_n 1, 1) := by decide +kernel
theorem dX5_canPay_2 : decode cX5_canPay 2 = .ok (.iload_n 2, 1) := by decide +kernel
theorem dX5_canPay_3 : decode cX5_canPay 3 = .ok (.invokevirtual 116, 3) := by decide +kernel
theorem dX5_canPay_6 : decode cX5_canPay 6 = .ok (.ifCond .eq 28, 3) := by decide +kernel
theorem dX5_canPay_9 : decode cX5_canPay 9 = .ok (.aload_n 0, 1) := by decide +kernel
theorem dX5_canPay_10 : decode cX5_canPay 10 = .ok (.getfield 28, 3) := by decide +kernel
theorem dX5_canPay_13 : decode cX5_canPay 13 = .ok (.bipush 16, 2) := by decide +kernel
theorem dX5_canPay_15 : decode cX5_canPay 15 = .ok (.iload_n 1, 1) := by decide +kernel
theorem dX5_canPay_16 : decode cX5_canPay 16 = .ok (.imul, 1) := by decide +kernel
theorem dX5_canPay_17 : decode cX5_canPay 17 = .ok (.bipush 14, 2) := by decide +kernel
theorem dX5_canPay_19 : decode cX5_canPay 19 = .ok (.iadd, 1) := by decide +kernel
theorem dX5_canPay_20 : decode cX5_canPay 20 = .ok (.iaload, 1) := by decide +kernel
theorem dX5_canPay_21 : decode cX5_canPay 21 = .ok (.aload_n 0, 1) := by decide +kernel
theorem dX5_canPay_22 : decode cX5_canPay 22 = .ok (.getfield 7, 3) := by decide +kernel
theorem dX5_canPay_25 : decode cX5_canPay 25 = .ok (.iload_n 2, 1) := by decide +kernel
theorem dX5_canPay_26 : decode cX5_canPay 26 = .ok (.iaload, 1) := by decide +kernel
theorem dX5_canPay_27 : decode cX5_canPay 27 = .ok (.if_icmp .lt 7, 3) := by decide +kernel
theorem dX5_canPay_30 : decode cX5_canPay 30 = .ok (.iconst 1, 1) := by decide +kernel
theorem dX5_canPay_31 : decode cX5_canPay 31 = .ok (.goto 4, 3) := by decide +kernel
theorem dX5_canPay_34 : decode cX5_canPay 34 = .ok (.iconst 0, 1) := by decide +kernel
theorem dX5_canPay_35 : decode cX5_canPay 35 = .ok (.ireturn, 1) := by decide +kernel
theorem dX5_payOn_0 : decode cX5_payOn 0 = .ok (.aload_n 0, 1) := by decide +kernel
theorem dX5_payOn_1 : decode cX5_payOn 1 = .ok (.getfield 28, 3) := by decide +kernel
theorem dX5_payOn_4 : decode cX5_payOn 4 = .ok (.bipush 16, 2) := by decide +kernel
theorem dX5_payOn_6 : decode cX5_payOn 6 = .ok (.iload_n 1, 1) := by decide +kernel
theorem dX5_payOn_7 : decode cX5_payOn 7 = .ok (.imul, 1) := by decide +kernel
theorem dX5_payOn_8 : decode cX5_payOn 8 = .ok (.bipush 14, 2) := by decide +kernel
theorem dX5_payOn_10 : decode cX5_payOn 10 = .ok (.iadd, 1) := by decide +kernel
theorem dX5_payOn_11 : decode cX5_payOn 11 = .ok (.dup2, 1) := by decide +kernel
theorem dX5_payOn_12 : decode cX5_payOn 12 = .ok (.iaload, 1) := by decide +kernel
theorem dX5_payOn_13 : decode cX5_payOn 13 = .ok (.aload_n 0, 1) := by decide +kernel
theorem dX5_payOn_14 : decode cX5_payOn 14 = .ok (.getfield 7, 3) := by decide +kernel
theorem dX5_payOn_17 : decode cX5_payOn 17 = .ok (.iload_n 2, 1) := by decide +kernel
theorem dX5_payOn_18 : decode cX5_payOn 18 = .ok (.iaload, 1) := by decide +kernel
theorem dX5_payOn_19 : decode cX5_payOn 19 = .ok (.isub, 1) := by decide +kernel
theorem dX5_payOn_20 : decode cX5_payOn 20 = .ok (.iastore, 1) := by decide +kernel
theorem dX5_payOn_21 : decode cX5_payOn 21 = .ok (.aload_n 0, 1) := by decide +kernel
theorem dX5_payOn_22 : decode cX5_payOn 22 = .ok (.getfield 28, 3) := by decide +kernel
theorem dX5_payOn_25 : decode cX5_payOn 25 = .ok (.bipush 16, 2) := by decide +kernel
theorem dX5_payOn_27 : decode cX5_payOn 27 = .ok (.iload_n 1, 1) := by decide +kernel
theorem dX5_payOn_28 : decode cX5_payOn 28 = .ok (.imul, 1) := by decide +kernel
theorem dX5_payOn_29 : decode cX5_payOn 29 = .ok (.iload_n 2, 1) := by decide +kernel
theorem dX5_payOn_30 : decode cX5_payOn 30 = .ok (.iadd, 1) := by decide +kernel
theorem dX5_payOn_31 : decode cX5_payOn 31 = .ok (.iconst 1, 1) := by decide +kernel
theorem dX5_payOn_32 : decode cX5_payOn 32 = .ok (.iastore, 1) := by decide +kernel
theorem dX5_payOn_33 : decode cX5_payOn 33 = .ok (.return_, 1) := by decide +kernel
set_option maxRecDepth 20000 in
theorem ggX5_pay_X5_isPlayer : GoodIn wsX5_pay wsX5_isPlayer := goodIn_r _ [6, 7, 8, 9, 5, 10, 31, 32, 33, 34, 35, 36, 37, 38, 39, 40, 41, 42, 43, 44, 45, 46, 47, 48, 49, 50, 51, 52, 53, 54, 55, 56, 57, 58, 59] (by decide +kernel) (by decide +kernel)
set_option maxRecDepth 20000 in
theorem gX5_pay_X5_isPlayer : GoodIn wsX5_pay (wsV RX5 112 RX5 yX5_isPlayer wsX5_isPlayer) := goodIn_app (goodIn_of _ (by decide +kernel)) ggX5_pay_X5_isPlayer
set_option maxRecDepth 20000 in
theorem ggX5_pay_X5_canPay : GoodIn wsX5_pay wsX5_canPay := goodIn_r _ [14, 1, 15, 16, 17, 18, 5, 19, 2, 3, 4, 6, 7, 8, 9, 10, 31, 32, 33, 34, 35, 36, 37, 38, 39, 40, 41, 42, 43, 44, 45, 46, 47, 48, 49, 50, 51, 52, 53, 54, 55, 56, 57, 58, 59] (by decide +kernel) (by decide +kernel)
set_option maxRecDepth 20000 in
theorem gX5_pay_X5_canPay : GoodIn wsX5_pay (wsV RX5 147 RX5 yX5_canPay wsX5_canPay) := goodIn_app (goodIn_of _ (by decide +kernel)) ggX5_pay_X5_canPay
set_option maxRecDepth 20000 in
theorem ggX5_pay_X5_keepAct : GoodIn wsX5_pay wsX5_keepAct := goodIn_r _ [23, 24, 25, 1, 26, 31, 32, 33, 34, 35, 36, 37, 38, 39, 40, 41, 42, 43, 44, 45, 46, 47, 48, 49, 50, 51, 52, 53, 54, 55, 56, 57, 58, 59] (by decide +kernel) (by decide +kernel)
set_option maxRecDepth 20000 in
theorem gX5_pay_X5_keepAct : GoodIn wsX5_pay (wsV RX5 136 RX5 yX5_keepAct wsX5_keepAct) := goodIn_app (goodIn_of _ (by decide +kernel)) ggX5_pay_X5_keepAct
set_option maxRecDepth 20000 in
theorem ggX5_pay_X5_payOn : GoodIn wsX5_pay wsX5_payOn := goodIn_r _ [30, 1, 15, 31, 32, 33, 34, 35, 36, 37, 38, 39, 40, 41, 42, 43, 44, 45, 46, 47, 48, 49, 50, 51, 52, 53, 54, 55, 56, 57, 58, 59] (by decide +kernel) (by decide +kernel)
set_option maxRecDepth 20000 in
theorem gX5_pay_X5_payOn : GoodIn wsX5_pay (wsV RX5 150 RX5 yX5_payOn wsX5_payOn) := goodIn_app (goodIn_of _ (by decide +kernel)) ggX5_pay_X5_payOn
theorem dX5_pay_0 : decode cX5_pay 0 = .ok (.aload_n 0, 1) := by decide +kernel
theorem dX5_pay_1 : decode cX5_pay 1 = .ok (.iload_n 1, 1) := by decide +kernel
theorem dX5_pay_2 : decode cX5_pay 2 = .ok (.invokevirtual 112, 3) := by decide +kernel
theorem dX5_pay_5 : decode cX5_pay 5 = .ok (.ifCond .ne 5, 3) := by decide +kernel
theorem dX5_pay_8 : decode cX5_pay 8 = .ok (.iconst (-1), 1) := by decide +kernel
theorem dX5_pay_9 : decode cX5_pay 9 = .ok (.ireturn, 1) := by decide +kernel
theorem dX5_pay_10 : decode cX5_pay 10 = .ok (.aload_n 0, 1) := by decide +kernel
theorem dX5_pay_11 : decode cX5_pay 11 = .ok (.iconst 0, 1) := by decide +kernel
theorem dX5_pay_12 : decode cX5_pay 12 = .ok (.iload_n 1, 1) := by decide +kernel
theorem dX5_pay_13 : decode cX5_pay 13 = .ok (.invokevirtual 147, 3) := by decide +kernel
theorem dX5_pay_16 : decode cX5_pay 16 = .ok (.ifCond .ne 6, 3) := by decide +kernel
theorem dX5_pay_19 : decode cX5_pay 19 = .ok (.bipush (-3), 2) := by decide +kernel
theorem dX5_pay_21 : decode cX5_pay 21 = .ok (.ireturn, 1) := by decide +kernel
theorem dX5_pay_22 : decode cX5_pay 22 = .ok (.aload_n 0, 1) := by decide +kernel
theorem dX5_pay_23 : decode cX5_pay 23 = .ok (.invokevirtual 136, 3) := by decide +kernel
theorem dX5_pay_26 : decode cX5_pay 26 = .ok (.aload_n 0, 1) := by decide +kernel
theorem dX5_pay_27 : decode cX5_pay 27 = .ok (.iconst 0, 1) := by decide +kernel
theorem dX5_pay_28 : decode cX5_pay 28 = .ok (.iload_n 1, 1) := by decide +kernel
theorem dX5_pay_29 : decode cX5_pay 29 = .ok (.invokevirtual 150, 3) := by decide +kernel
theorem dX5_pay_32 : decode cX5_pay 32 = .ok (.aload_n 0, 1) := by decide +kernel
theorem dX5_pay_33 : decode cX5_pay 33 = .ok (.getfield 28, 3) := by decide +kernel
theorem dX5_pay_36 : decode cX5_pay 36 = .ok (.bipush 14, 2) := by decide +kernel
theorem dX5_pay_38 : decode cX5_pay 38 = .ok (.iaload, 1) := by decide +kernel
theorem dX5_pay_39 : decode cX5_pay 39 = .ok (.ireturn, 1) := by decide +kernel
set_option maxRecDepth 20000 in
theorem ggX5_canRest_X5_isPlayer : GoodIn wsX5_canRest wsX5_isPlayer := goodIn_r _ [7, 8, 9, 10, 6, 11, 12, 13, 14, 15, 16, 17, 18, 19, 20, 21, 22, 23, 24, 25, 26, 27, 28, 29, 30, 31, 32, 33, 34, 35, 36, 37, 38, 39, 40] (by decide +kernel) (by decide +kernel)
set_option maxRecDepth 20000 in
theorem gX5_canRest_X5_isPlayer : GoodIn wsX5_canRest (wsV RX5 112 RX5 yX5_isPlayer wsX5_isPlayer) := goodIn_app (goodIn_of _ (by decide +kernel)) ggX5_canRest_X5_isPlayer
theorem dX5_canRest_0 : decode cX5_canRest 0 = .ok (.aload_n 0, 1) := by decide +kernel
theorem dX5_canRest_1 : decode cX5_canRest 1 = .ok (.iload_n 2, 1) := by decide +kernel
theorem dX5_canRest_2 : decode cX5_canRest 2 = .ok (.invokevirtual 112, 3) := by decide +kernel
theorem dX5_canRest_5 : decode cX5_canRest 5 = .ok (.ifCond .eq 31, 3) := by decide +kernel
theorem dX5_canRest_8 : decode cX5_canRest 8 = .ok (.aload_n 0, 1) := by decide +kernel
theorem dX5_canRest_9 : decode cX5_canRest 9 = .ok (.getfield 28, 3) := by decide +kernel
theorem dX5_canRest_12 : decode cX5_canRest 12 = .ok (.bipush 16, 2) := by decide +kernel
theorem dX5_canRest_14 : decode cX5_canRest 14 = .ok (.iload_n 1, 1) := by decide +kernel
theorem dX5_canRest_15 : decode cX5_canRest 15 = .ok (.imul, 1) := by decide +kernel
theorem dX5_canRest_16 : decode cX5_canRest 16 = .ok (.iload_n 2, 1) := by decide +kernel
theorem dX5_canRest_17 : decode cX5_canRest 17 = .ok (.iadd, 1) := by decide +kernel
theorem dX5_canRest_18 : decode cX5_canRest 18 = .ok (.iaload, 1) := by decide +kernel
theorem dX5_canRest_19 : decode cX5_canRest 19 = .ok (.iconst 2, 1) := by decide +kernel
theorem dX5_canRest_20 : decode cX5_canRest 20 = .ok (.if_icmp .ne 16, 3) := by decide +kernel
theorem dX5_canRest_23 : decode cX5_canRest 23 = .ok (.aload_n 0, 1) := by decide +kernel
theorem dX5_canRest_24 : decode cX5_canRest 24 = .ok (.getfield 13, 3) := by decide +kernel
theorem dX5_canRest_27 : decode cX5_canRest 27 = .ok (.iload_n 2, 1) := by decide +kernel
theorem dX5_canRest_28 : decode cX5_canRest 28 = .ok (.iaload, 1) := by decide +kernel
theorem dX5_canRest_29 : decode cX5_canRest 29 = .ok (.ifCond .le 7, 3) := by decide +kernel
theorem dX5_canRest_32 : decode cX5_canRest 32 = .ok (.iconst 1, 1) := by decide +kernel
theorem dX5_canRest_33 : decode cX5_canRest 33 = .ok (.goto 4, 3) := by decide +kernel
theorem dX5_canRest_36 : decode cX5_canRest 36 = .ok (.iconst 0, 1) := by decide +kernel
theorem dX5_canRest_37 : decode cX5_canRest 37 = .ok (.ireturn, 1) := by decide +kernel
theorem dX5_restOn_0 : decode cX5_restOn 0 = .ok (.aload_n 0, 1) := by decide +kernel
theorem dX5_restOn_1 : decode cX5_restOn 1 = .ok (.getfield 28, 3) := by decide +kernel
theorem dX5_restOn_4 : decode cX5_restOn 4 = .ok (.bipush 16, 2) := by decide +kernel
theorem dX5_restOn_6 : decode cX5_restOn 6 = .ok (.iload_n 1, 1) := by decide +kernel
theorem dX5_restOn_7 : decode cX5_restOn 7 = .ok (.imul, 1) := by decide +kernel
theorem dX5_restOn_8 : decode cX5_restOn 8 = .ok (.iload_n 2, 1) := by decide +kernel
theorem dX5_restOn_9 : decode cX5_restOn 9 = .ok (.iadd, 1) := by decide +kernel
theorem dX5_restOn_10 : decode cX5_restOn 10 = .ok (.iconst 0, 1) := by decide +kernel
theorem dX5_restOn_11 : decode cX5_restOn 11 = .ok (.iastore, 1) := by decide +kernel
theorem dX5_restOn_12 : decode cX5_restOn 12 = .ok (.aload_n 0, 1) := by decide +kernel
theorem dX5_restOn_13 : decode cX5_restOn 13 = .ok (.getfield 28, 3) := by decide +kernel
theorem dX5_restOn_16 : decode cX5_restOn 16 = .ok (.bipush 16, 2) := by decide +kernel
theorem dX5_restOn_18 : decode cX5_restOn 18 = .ok (.iload_n 1, 1) := by decide +kernel
theorem dX5_restOn_19 : decode cX5_restOn 19 = .ok (.imul, 1) := by decide +kernel
theorem dX5_restOn_20 : decode cX5_restOn 20 = .ok (.bipush 6, 2) := by decide +kernel
theorem dX5_restOn_22 : decode cX5_restOn 22 = .ok (.iadd, 1) := by decide +kernel
theorem dX5_restOn_23 : decode cX5_restOn 23 = .ok (.iload_n 2, 1) := by decide +kernel
theorem dX5_restOn_24 : decode cX5_restOn 24 = .ok (.iadd, 1) := by decide +kernel
theorem dX5_restOn_25 : decode cX5_restOn 25 = .ok (.aload_n 0, 1) := by decide +kernel
theorem dX5_restOn_26 : decode cX5_restOn 26 = .ok (.getfield 13, 3) := by decide +kernel
theorem dX5_restOn_29 : decode cX5_restOn 29 = .ok (.iload_n 2, 1) := by decide +kernel
theorem dX5_restOn_30 : decode cX5_restOn 30 = .ok (.iaload, 1) := by decide +kernel
theorem dX5_restOn_31 : decode cX5_restOn 31 = .ok (.iastore, 1) := by decide +kernel
theorem dX5_restOn_32 : decode cX5_restOn 32 = .ok (.return_, 1) := by decide +kernel
set_option maxRecDepth 20000 in
theorem ggX5_rest_X5_isPlayer : GoodIn wsX5_rest wsX5_isPlayer := goodIn_r _ [6, 7, 8, 9, 5, 10, 27, 28, 29, 30, 31, 32, 33, 34, 35, 36, 37, 38, 39, 40, 41, 42, 43, 44, 45, 46, 47, 48, 49, 50, 51, 52, 53, 54, 55] (by decide +kernel) (by decide +kernel)
set_option maxRecDepth 20000 in
theorem gX5_rest_X5_isPlayer : GoodIn wsX5_rest (wsV RX5 112 RX5 yX5_isPlayer wsX5_isPlayer) := goodIn_app (goodIn_of _ (by decide +kernel)) ggX5_rest_X5_isPlayer
set_option maxRecDepth 20000 in
theorem ggX5_rest_X5_canRest : GoodIn wsX5_rest wsX5_canRest := goodIn_r _ [14, 1, 15, 2, 3, 4, 5, 6, 7, 8, 9, 10, 27, 28, 29, 30, 31, 32, 33, 34, 35, 36, 37, 38, 39, 40, 41, 42, 43, 44, 45, 46, 47, 48, 49, 50, 51, 52, 53, 54, 55] (by decide +kernel) (by decide +kernel)
set_option maxRecDepth 20000 in
theorem gX5_rest_X5_canRest : GoodIn wsX5_rest (wsV RX5 153 RX5 yX5_canRest wsX5_canRest) := goodIn_app (goodIn_of _ (by decide +kernel)) ggX5_rest_X5_canRest
set_option maxRecDepth 20000 in
theorem ggX5_rest_X5_keepAct : GoodIn wsX5_rest wsX5_keepAct := goodIn_r _ [19, 20, 21, 1, 22, 27, 28, 29, 30, 31, 32, 33, 34, 35, 36, 37, 38, 39, 40, 41, 42, 43, 44, 45, 46, 47, 48, 49, 50, 51, 52, 53, 54, 55] (by decide +kernel) (by decide +kernel)
set_option maxRecDepth 20000 in
theorem gX5_rest_X5_keepAct : GoodIn wsX5_rest (wsV RX5 136 RX5 yX5_keepAct wsX5_keepAct) := goodIn_app (goodIn_of _ (by decide +kernel)) ggX5_rest_X5_keepAct
set_option maxRecDepth 20000 in
theorem ggX5_rest_X5_restOn : GoodIn wsX5_rest wsX5_restOn := goodIn_r _ [26, 1, 15, 27, 28, 29, 30, 31, 32, 33, 34, 35, 36, 37, 38, 39, 40, 41, 42, 43, 44, 45, 46, 47, 48, 49, 50, 51, 52, 53, 54, 55] (by decide +kernel) (by decide +kernel)
set_option maxRecDepth 20000 in
theorem gX5_rest_X5_restOn : GoodIn wsX5_rest (wsV RX5 156 RX5 yX5_restOn wsX5_restOn) := goodIn_app (goodIn_of _ (by decide +kernel)) ggX5_rest_X5_restOn
theorem dX5_rest_0 : decode cX5_rest 0 = .ok (.aload_n 0, 1) := by decide +kernel
theorem dX5_rest_1 : decode cX5_rest 1 = .ok (.iload_n 1, 1) := by decide +kernel
theorem dX5_rest_2 : decode cX5_rest 2 = .ok (.invokevirtual 112, 3) := by decide +kernel
theorem dX5_rest_5 : decode cX5_rest 5 = .ok (.ifCond .ne 5, 3) := by decide +kernel
theorem dX5_rest_8 : decode cX5_rest 8 = .ok (.iconst (-1), 1) := by decide +kernel
theorem dX5_rest_9 : decode cX5_rest 9 = .ok (.ireturn, 1) := by decide +kernel
theorem dX5_rest_10 : decode cX5_rest 10 = .ok (.aload_n 0, 1) := by decide +kernel
theorem dX5_rest_11 : decode cX5_rest 11 = .ok (.iconst 0, 1) := by decide +kernel
theorem dX5_rest_12 : decode cX5_rest 12 = .ok (.iload_n 1, 1) := by decide +kernel
theorem dX5_rest_13 : decode cX5_rest 13 = .ok (.invokevirtual 153, 3) := by decide +kernel
theorem dX5_rest_16 : decode cX5_rest 16 = .ok (.ifCond .ne 6, 3) := by decide +kernel
theorem dX5_rest_19 : decode cX5_rest 19 = .ok (.bipush (-3), 2) := by decide +kernel
theorem dX5_rest_21 : decode cX5_rest 21 = .ok (.ireturn, 1) := by decide +kernel
theorem dX5_rest_22 : decode cX5_rest 22 = .ok (.aload_n 0, 1) := by decide +kernel
theorem dX5_rest_23 : decode cX5_rest 23 = .ok (.invokevirtual 136, 3) := by decide +kernel
theorem dX5_rest_26 : decode cX5_rest 26 = .ok (.aload_n 0, 1) := by decide +kernel
theorem dX5_rest_27 : decode cX5_rest 27 = .ok (.iconst 0, 1) := by decide +kernel
theorem dX5_rest_28 : decode cX5_rest 28 = .ok (.iload_n 1, 1) := by decide +kernel
theorem dX5_rest_29 : decode cX5_rest 29 = .ok (.invokevirtual 156, 3) := by decide +kernel
theorem dX5_rest_32 : decode cX5_rest 32 = .ok (.aload_n 0, 1) := by decide +kernel
theorem dX5_rest_33 : decode cX5_rest 33 = .ok (.getfield 28, 3) := by decide +kernel
theorem dX5_rest_36 : decode cX5_rest 36 = .ok (.bipush 6, 2) := by decide +kernel
theorem dX5_rest_38 : decode cX5_rest 38 = .ok (.iload_n 1, 1) := by decide +kernel
theorem dX5_rest_39 : decode cX5_rest 39 = .ok (.iadd, 1) := by decide +kernel
theorem dX5_rest_40 : decode cX5_rest 40 = .ok (.iaload, 1) := by decide +kernel
theorem dX5_rest_41 : decode cX5_rest 41 = .ok (.ireturn, 1) := by decide +kernel
theorem dX5_beginOn_0 : decode cX5_beginOn 0 = .ok (.aload_n 0, 1) := by decide +kernel
theorem dX5_beginOn_1 : decode cX5_beginOn 1 = .ok (.getfield 28, 3) := by decide +kernel
theorem dX5_beginOn_4 : decode cX5_beginOn 4 = .ok (.bipush 16, 2) := by decide +kernel
theorem dX5_beginOn_6 : decode cX5_beginOn 6 = .ok (.iload_n 1, 1) := by decide +kernel
theorem dX5_beginOn_7 : decode cX5_beginOn 7 = .ok (.imul, 1) := by decide +kernel
theorem dX5_beginOn_8 : decode cX5_beginOn 8 = .ok (.bipush 12, 2) := by decide +kernel
theorem dX5_beginOn_10 : decode cX5_beginOn 10 = .ok (.iadd, 1) := by decide +kernel
theorem dX5_beginOn_11 : decode cX5_beginOn 11 = .ok (.iconst 0, 1) := by decide +kernel
theorem dX5_beginOn_12 : decode cX5_beginOn 12 = .ok (.iastore, 1) := by decide +kernel
theorem dX5_beginOn_13 : decode cX5_beginOn 13 = .ok (.aload_n 0, 1) := by decide +kernel
theorem dX5_beginOn_14 : decode cX5_beginOn 14 = .ok (.getfield 28, 3) := by decide +kernel
theorem dX5_beginOn_17 : decode cX5_beginOn 17 = .ok (.bipush 16, 2) := by decide +kernel
theorem dX5_beginOn_19 : decode cX5_beginOn 19 = .ok (.iload_n 1, 1) := by decide +kernel
theorem dX5_beginOn_20 : decode cX5_beginOn 20 = .ok (.imul, 1) := by decide +kernel
theorem dX5_beginOn_21 : decode cX5_beginOn 21 = .ok (.bipush 13, 2) := by decide +kernel
theorem dX5_beginOn_23 : decode cX5_beginOn 23 = .ok (.iadd, 1) := by decide +kernel
theorem dX5_beginOn_24 : decode cX5_beginOn 24 = .ok (.iconst 0, 1) := by decide +kernel
theorem dX5_beginOn_25 : decode cX5_beginOn 25 = .ok (.iastore, 1) := by decide +kernel
theorem dX5_beginOn_26 : decode cX5_beginOn 26 = .ok (.return_, 1) := by decide +kernel
set_option maxRecDepth 20000 in
theorem ggX5_encore_X5_keepAct : GoodIn wsX5_encore wsX5_keepAct := goodIn_r _ [6, 7, 8, 9, 10, 27, 28, 29, 30, 31, 32, 33, 34, 35, 36, 37, 38, 39, 40, 41, 42, 43, 44, 45, 46, 47, 48, 49, 50, 51, 52, 53, 54, 55] (by decide +kernel) (by decide +kernel)
set_option maxRecDepth 20000 in
theorem gX5_encore_X5_keepAct : GoodIn wsX5_encore (wsV RX5 136 RX5 yX5_keepAct wsX5_keepAct) := goodIn_app (goodIn_of _ (by decide +kernel)) ggX5_encore_X5_keepAct
set_option maxRecDepth 20000 in
theorem ggX5_encore_X5_beginOn : GoodIn wsX5_encore wsX5_beginOn := goodIn_r _ [14, 9, 27, 28, 29, 30, 31, 32, 33, 34, 35, 36, 37, 38, 39, 40, 41, 42, 43, 44, 45, 46, 47, 48, 49, 50, 51, 52, 53, 54, 55] (by decide +kernel) (by decide +kernel)
set_option maxRecDepth 20000 in
theorem gX5_encore_X5_beginOn : GoodIn wsX5_encore (wsV RX5 159 RX5 yX5_beginOn wsX5_beginOn) := goodIn_app (goodIn_of _ (by decide +kernel)) ggX5_encore_X5_beginOn
set_option maxRecDepth 20000 in
theorem ggX5_encore_X5_howMany : GoodIn wsX5_encore wsX5_howMany := goodIn_r _ [18, 19, 20, 21, 5, 22, 23, 9, 24, 25, 26, 27, 28, 29, 30, 31, 32, 33, 34, 35, 36, 37, 38, 39, 40, 41, 42, 43, 44, 45, 46, 47, 48, 49, 50, 51, 52, 53, 54, 55] (by decide +kernel) (by decide +kernel)
set_option maxRecDepth 20000 in
theorem gX5_encore_X5_howMany : GoodIn wsX5_encore (wsV RX5 109 RX5 yX5_howMany wsX5_howMany) := goodIn_app (goodIn_of _ (by decide +kernel)) ggX5_encore_X5_howMany
theorem dX5_encore_0 : decode cX5_encore 0 = .ok (.aload_n 0, 1) := by decide +kernel
theorem dX5_encore_1 : decode cX5_encore 1 = .ok (.getfield 96, 3) := by decide +kernel
theorem dX5_encore_4 : decode cX5_encore 4 = .ok (.ifCond .ne 6, 3) := by decide +kernel
theorem dX5_encore_7 : decode cX5_encore 7 = .ok (.bipush (-3), 2) := by decide +kernel
theorem dX5_encore_9 : decode cX5_encore 9 = .ok (.ireturn, 1) := by decide +kernel
theorem dX5_encore_10 : decode cX5_encore 10 = .ok (.aload_n 0, 1) := by decide +kernel
theorem dX5_encore_11 : decode cX5_encore 11 = .ok (.invokevirtual 136, 3) := by decide +kernel
theorem dX5_encore_14 : decode cX5_encore 14 = .ok (.aload_n 0, 1) := by decide +kernel
theorem dX5_encore_15 : decode cX5_encore 15 = .ok (.iconst 0, 1) := by decide +kernel
theorem dX5_encore_16 : decode cX5_encore 16 = .ok (.invokevirtual 159, 3) := by decide +kernel
theorem dX5_encore_19 : decode cX5_encore 19 = .ok (.aload_n 0, 1) := by decide +kernel
theorem dX5_encore_20 : decode cX5_encore 20 = .ok (.iconst 0, 1) := by decide +kernel
theorem dX5_encore_21 : decode cX5_encore 21 = .ok (.invokevirtual 109, 3) := by decide +kernel
theorem dX5_encore_24 : decode cX5_encore 24 = .ok (.ireturn, 1) := by decide +kernel
theorem dX5_undo_0 : decode cX5_undo 0 = .ok (.aload_n 0, 1) := by decide +kernel
theorem dX5_undo_1 : decode cX5_undo 1 = .ok (.getfield 99, 3) := by decide +kernel
theorem dX5_undo_4 : decode cX5_undo 4 = .ok (.ifCond .ne 6, 3) := by decide +kernel
theorem dX5_undo_7 : decode cX5_undo 7 = .ok (.bipush (-3), 2) := by decide +kernel
theorem dX5_undo_9 : decode cX5_undo 9 = .ok (.ireturn, 1) := by decide +kernel
theorem dX5_undo_10 : decode cX5_undo 10 = .ok (.aload_n 0, 1) := by decide +kernel
theorem dX5_undo_11 : decode cX5_undo 11 = .ok (.dup, 1) := by decide +kernel
theorem dX5_undo_12 : decode cX5_undo 12 = .ok (.getfield 99, 3) := by decide +kernel
theorem dX5_undo_15 : decode cX5_undo 15 = .ok (.iconst 1, 1) := by decide +kernel
theorem dX5_undo_16 : decode cX5_undo 16 = .ok (.isub, 1) := by decide +kernel
theorem dX5_undo_17 : decode cX5_undo 17 = .ok (.putfield 99, 3) := by decide +kernel
theorem dX5_undo_20 : decode cX5_undo 20 = .ok (.aload_n 0, 1) := by decide +kernel
theorem dX5_undo_21 : decode cX5_undo 21 = .ok (.aload_n 0, 1) := by decide +kernel
theorem dX5_undo_22 : decode cX5_undo 22 = .ok (.getfield 133, 3) := by decide +kernel
theorem dX5_undo_25 : decode cX5_undo 25 = .ok (.bipush 13, 2) := by decide +kernel
theorem dX5_undo_27 : decode cX5_undo 27 = .ok (.iadd, 1) := by decide +kernel
theorem dX5_undo_28 : decode cX5_undo 28 = .ok (.bipush 14, 2) := by decide +kernel
theorem dX5_undo_30 : decode cX5_undo 30 = .ok (.irem, 1) := by decide +kernel
theorem dX5_undo_31 : decode cX5_undo 31 = .ok (.putfield 133, 3) := by decide +kernel
theorem dX5_undo_34 : decode cX5_undo 34 = .ok (.iconst 0, 1) := by decide +kernel
theorem dX5_undo_35 : decode cX5_undo 35 = .ok (.istore_n 1, 1) := by decide +kernel
theorem dX5_undo_36 : decode cX5_undo 36 = .ok (.iload_n 1, 1) := by decide +kernel
theorem dX5_undo_37 : decode cX5_undo 37 = .ok (.bipush 16, 2) := by decide +kernel
theorem dX5_undo_39 : decode cX5_undo 39 = .ok (.if_icmp .ge 29, 3) := by decide +kernel
theorem dX5_undo_42 : decode cX5_undo 42 = .ok (.aload_n 0, 1) := by decide +kernel
theorem dX5_undo_43 : decode cX5_undo 43 = .ok (.getfield 28, 3) := by decide +kernel
theorem dX5_undo_46 : decode cX5_undo 46 = .ok (.iload_n 1, 1) := by decide +kernel
theorem dX5_undo_47 : decode cX5_undo 47 = .ok (.aload_n 0, 1) := by decide +kernel
theorem dX5_undo_48 : decode cX5_undo 48 = .ok (.getfield 40, 3) := by decide +kernel
theorem dX5_undo_51 : decode cX5_undo 51 = .ok (.bipush 16, 2) := by decide +kernel
theorem dX5_undo_53 : decode cX5_undo 53 = .ok (.aload_n 0, 1) := by decide +kernel
theorem dX5_undo_54 : decode cX5_undo 54 = .ok (.getfield 133, 3) := by decide +kernel
theorem dX5_undo_57 : decode cX5_undo 57 = .ok (.imul, 1) := by decide +kernel
theorem dX5_undo_58 : decode cX5_undo 58 = .ok (.iload_n 1, 1) := by decide +kernel
theorem dX5_undo_59 : decode cX5_undo 59 = .ok (.iadd, 1) := by decide +kernel
theorem dX5_undo_60 : decode cX5_undo 60 = .ok (.iaload, 1) := by decide +kernel
theorem dX5_undo_61 : decode cX5_undo 61 = .ok (.iastore, 1) := by decide +kernel
theorem dX5_undo_62 : decode cX5_undo 62 = .ok (.iinc 1 1, 3) := by decide +kernel
theorem dX5_undo_65 : decode cX5_undo 65 = .ok (.goto (-29), 3) := by decide +kernel
theorem dX5_undo_68 : decode cX5_undo 68 = .ok (.aload_n 0, 1) := by decide +kernel
theorem dX5_undo_69 : decode cX5_undo 69 = .ok (.getfield 99, 3) := by decide +kernel
theorem dX5_undo_72 : decode cX5_undo 72 = .ok (.ireturn, 1) := by decide +kernel
theorem dX5_layTrial_0 : decode cX5_layTrial 0 = .ok (.iconst 0, 1) := by decide +kernel
theorem dX5_layTrial_1 : decode cX5_layTrial 1 = .ok (.istore_n 1, 1) := by decide +kernel
theorem dX5_layTrial_2 : decode cX5_layTrial 2 = .ok (.iload_n 1, 1) := by decide +kernel
theorem dX5_layTrial_3 : decode cX5_layTrial 3 = .ok (.bipush 16, 2) := by decide +kernel
theorem dX5_layTrial_5 : decode cX5_layTrial 5 = .ok (.if_icmp .ge 24, 3) := by decide +kernel
theorem dX5_layTrial_8 : decode cX5_layTrial 8 = .ok (.aload_n 0, 1) := by decide +kernel
theorem dX5_layTrial_9 : decode cX5_layTrial 9 = .ok (.getfield 28, 3) := by decide +kernel
theorem dX5_layTrial_12 : decode cX5_layTrial 12 = .ok (.bipush 16, 2) := by decide +kernel
theorem dX5_layTrial_14 : decode cX5_layTrial 14 = .ok (.iload_n 1, 1) := by decide +kernel
theorem dX5_layTrial_15 : decode cX5_layTrial 15 = .ok (.iadd, 1) := by decide +kernel
theorem dX5_layTrial_16 : decode cX5_layTrial 16 = .ok (.aload_n 0, 1) := by decide +kernel
theorem dX5_layTrial_17 : decode cX5_layTrial 17 = .ok (.getfield 28, 3) := by decide +kernel
theorem dX5_layTrial_20 : decode cX5_layTrial 20 = .ok (.iload_n 1, 1) := by decide +kernel
theorem dX5_layTrial_21 : decode cX5_layTrial 21 = .ok (.iaload, 1) := by decide +kernel
theorem dX5_layTrial_22 : decode cX5_layTrial 22 = .ok (.iastore, 1) := by decide +kernel
theorem dX5_layTrial_23 : decode cX5_layTrial 23 = .ok (.iinc 1 1, 3) := by decide +kernel
theorem dX5_layTrial_26 : decode cX5_layTrial 26 = .ok (.goto (-24), 3) := by decide +kernel
theorem dX5_layTrial_29 : decode cX5_layTrial 29 = .ok (.return_, 1) := by decide +kernel
set_option maxRecDepth 20000 in
theorem ggX5_goOn_X5_passOn : GoodIn wsX5_goOn wsX5_passOn := goodIn_r _ [5, 6, 7, 8, 9, 10, 11, 12, 4, 13, 14, 15, 16, 17, 18, 19, 20, 21, 22, 23, 24, 25, 26, 27, 28, 29, 30, 31, 32, 33, 34, 35, 36, 37, 38, 39, 40, 41, 42, 43, 44, 45, 46, 47, 48, 49, 50, 51, 52, 53, 54, 55, 56, 57, 58, 59, 60, 61, 62, 63, 64, 65, 66, 67, 68, 69, 70, 71, 72, 73, 74, 75, 76, 77, 78] (by decide +kernel) (by decide +kernel)
set_option maxRecDepth 20000 in
theorem gX5_goOn_X5_passOn : GoodIn wsX5_goOn (wsV RX5 139 RX5 yX5_passOn wsX5_passOn) := goodIn_app (goodIn_of _ (by decide +kernel)) ggX5_goOn_X5_passOn
theorem dX5_goOn_0 : decode cX5_goOn 0 = .ok (.iconst 0, 1) := by decide +kernel
theorem dX5_goOn_1 : decode cX5_goOn 1 = .ok (.istore_n 2, 1) := by decide +kernel
theorem dX5_goOn_2 : decode cX5_goOn 2 = .ok (.iconst 0, 1) := by decide +kernel
theorem dX5_goOn_3 : decode cX5_goOn 3 = .ok (.istore_n 3, 1) := by decide +kernel
theorem dX5_goOn_4 : decode cX5_goOn 4 = .ok (.iload_n 3, 1) := by decide +kernel
theorem dX5_goOn_5 : decode cX5_goOn 5 = .ok (.iload_n 1, 1) := by decide +kernel
theorem dX5_goOn_6 : decode cX5_goOn 6 = .ok (.if_icmp .ge 17, 3) := by decide +kernel
theorem dX5_goOn_9 : decode cX5_goOn 9 = .ok (.iload_n 2, 1) := by decide +kernel
theorem dX5_goOn_10 : decode cX5_goOn 10 = .ok (.aload_n 0, 1) := by decide +kernel
theorem dX5_goOn_11 : decode cX5_goOn 11 = .ok (.iconst 1, 1) := by decide +kernel
theorem dX5_goOn_12 : decode cX5_goOn 12 = .ok (.invokevirtual 139, 3) := by decide +kernel
theorem dX5_goOn_15 : decode cX5_goOn 15 = .ok (.iadd, 1) := by decide +kernel
theorem dX5_goOn_16 : decode cX5_goOn 16 = .ok (.istore_n 2, 1) := by decide +kernel
theorem dX5_goOn_17 : decode cX5_goOn 17 = .ok (.iinc 3 1, 3) := by decide +kernel
theorem dX5_goOn_20 : decode cX5_goOn 20 = .ok (.goto (-16), 3) := by decide +kernel
theorem dX5_goOn_23 : decode cX5_goOn 23 = .ok (.iload_n 2, 1) := by decide +kernel
theorem dX5_goOn_24 : decode cX5_goOn 24 = .ok (.ireturn, 1) := by decide +kernel
set_option maxRecDepth 20000 in
theorem ggX5_later_X5_in : GoodIn wsX5_later wsX5_in := goodIn_r _ [5] (by decide +kernel) (by decide +kernel)
set_option maxRecDepth 20000 in
theorem gX5_later_X5_in : GoodIn wsX5_later (va_wsS RX5 61 yX5_in wsX5_in) := goodIn_app (goodIn_of _ (by decide +kernel)) ggX5_later_X5_in
set_option maxRecDepth 20000 in
theorem ggX5_later_X5_layTrial : GoodIn wsX5_later wsX5_layTrial := goodIn_r _ [9, 10, 63, 64, 65, 66, 67, 68, 69, 70, 71, 72, 73, 74, 75, 76, 77, 78, 79, 80, 81, 82, 83, 84, 85, 86, 87, 88, 89, 90, 91] (by decide +kernel) (by decide +kernel)
set_option maxRecDepth 20000 in
theorem gX5_later_X5_layTrial : GoodIn wsX5_later (wsV RX5 164 RX5 yX5_layTrial wsX5_layTrial) := goodIn_app (goodIn_of _ (by decide +kernel)) ggX5_later_X5_layTrial
set_option maxRecDepth 20000 in
theorem ggX5_later_X5_goOn : GoodIn wsX5_later wsX5_goOn := goodIn_r _ [14, 15, 16, 17, 4, 18, 10, 19, 20, 21, 22, 23, 24, 25, 26, 27, 28, 29, 30, 31, 32, 33, 34, 35, 36, 37, 38, 39, 40, 41, 42, 43, 44, 45, 46, 47, 48, 49, 50, 51, 2, 3, 5, 52, 53, 54, 55, 56, 57, 58, 63, 64, 65, 66, 67, 68, 69, 70, 71, 72, 73, 74, 75, 76, 77, 78, 79, 80, 81, 82, 83, 84, 85, 86, 87, 88, 89, 90, 91] (by decide +kernel) (by decide +kernel)
set_option maxRecDepth 20000 in
theorem gX5_later_X5_goOn : GoodIn wsX5_later (wsV RX5 167 RX5 yX5_goOn wsX5_goOn) := goodIn_app (goodIn_of _ (by decide +kernel)) ggX5_later_X5_goOn
set_option maxRecDepth 20000 in
theorem ggX5_later_X5_whoIs : GoodIn wsX5_later wsX5_whoIs := goodIn_r _ [33, 34, 10, 63, 64, 65, 66, 67, 68, 69, 70, 71, 72, 73, 74, 75, 76, 77, 78, 79, 80, 81, 82, 83, 84, 85, 86, 87, 88, 89, 90, 91] (by decide +kernel) (by decide +kernel)
set_option maxRecDepth 20000 in
theorem gX5_later_X5_whoIs : GoodIn wsX5_later (wsV RX5 102 RX5 yX5_whoIs wsX5_whoIs) := goodIn_app (goodIn_of _ (by decide +kernel)) ggX5_later_X5_whoIs
set_option maxRecDepth 20000 in
theorem ggX5_later_X5_nextBar : GoodIn wsX5_later wsX5_nextBar := goodIn_r _ [62, 10, 22, 23, 24, 4, 25, 21, 26, 27, 28, 29, 30, 31, 32, 33, 34, 35, 36, 37, 63, 64, 65, 66, 67, 68, 69, 70, 71, 72, 73, 74, 75, 76, 77, 78, 79, 80, 81, 82, 83, 84, 85, 86, 87, 88, 89, 90, 91] (by decide +kernel) (by decide +kernel)
set_option maxRecDepth 20000 in
theorem gX5_later_X5_nextBar : GoodIn wsX5_later (wsV RX5 170 RX5 yX5_nextBar wsX5_nextBar) := goodIn_app (goodIn_of _ (by decide +kernel)) ggX5_later_X5_nextBar
theorem dX5_later_0 : decode cX5_later 0 = .ok (.iload_n 1, 1) := by decide +kernel
theorem dX5_later_1 : decode cX5_later 1 = .ok (.i2l, 1) := by decide +kernel
theorem dX5_later_2 : decode cX5_later 2 = .ok (.lconst 0, 1) := by decide +kernel
theorem dX5_later_3 : decode cX5_later 3 = .ok (.ldc2_w 162, 3) := by decide +kernel
theorem dX5_later_6 : decode cX5_later 6 = .ok (.invokestatic 61, 3) := by decide +kernel
theorem dX5_later_9 : decode cX5_later 9 = .ok (.ifCond .eq 13, 3) := by decide +kernel
theorem dX5_later_12 : decode cX5_later 12 = .ok (.iload_n 2, 1) := by decide +kernel
theorem dX5_later_13 : decode cX5_later 13 = .ok (.i2l, 1) := by decide +kernel
theorem dX5_later_14 : decode cX5_later 14 = .ok (.lconst 0, 1) := by decide +kernel
theorem dX5_later_15 : decode cX5_later 15 = .ok (.lconst 1, 1) := by decide +kernel
theorem dX5_later_16 : decode cX5_later 16 = .ok (.invokestatic 61, 3) := by decide +kernel
theorem dX5_later_19 : decode cX5_later 19 = .ok (.ifCond .ne 6, 3) := by decide +kernel
theorem dX5_later_22 : decode cX5_later 22 = .ok (.bipush (-2), 2) := by decide +kernel
theorem dX5_later_24 : decode cX5_later 24 = .ok (.ireturn, 1) := by decide +kernel
theorem dX5_later_25 : decode cX5_later 25 = .ok (.aload_n 0, 1) := by decide +kernel
theorem dX5_later_26 : decode cX5_later 26 = .ok (.invokevirtual 164, 3) := by decide +kernel
theorem dX5_later_29 : decode cX5_later 29 = .ok (.aload_n 0, 1) := by decide +kernel
theorem dX5_later_30 : decode cX5_later 30 = .ok (.iload_n 1, 1) := by decide +kernel
theorem dX5_later_31 : decode cX5_later 31 = .ok (.invokevirtual 167, 3) := by decide +kernel
theorem dX5_later_34 : decode cX5_later 34 = .ok (.pop, 1) := by decide +kernel
theorem dX5_later_35 : decode cX5_later 35 = .ok (.iload_n 2, 1) := by decide +kernel
theorem dX5_later_36 : decode cX5_later 36 = .ok (.ifCond .ne 12, 3) := by decide +kernel
theorem dX5_later_39 : decode cX5_later 39 = .ok (.aload_n 0, 1) := by decide +kernel
theorem dX5_later_40 : decode cX5_later 40 = .ok (.iconst 1, 1) := by decide +kernel
theorem dX5_later_41 : decode cX5_later 41 = .ok (.iconst 0, 1) := by decide +kernel
theorem dX5_later_42 : decode cX5_later 42 = .ok (.invokevirtual 102, 3) := by decide +kernel
theorem dX5_later_45 : decode cX5_later 45 = .ok (.goto 8, 3) := by decide +kernel
theorem dX5_later_48 : decode cX5_later 48 = .ok (.aload_n 0, 1) := by decide +kernel
theorem dX5_later_49 : decode cX5_later 49 = .ok (.iconst 1, 1) := by decide +kernel
theorem dX5_later_50 : decode cX5_later 50 = .ok (.invokevirtual 170, 3) := by decide +kernel
theorem dX5_later_53 : decode cX5_later 53 = .ok (.ireturn, 1) := by decide +kernel
set_option maxRecDepth 20000 in
theorem ggX5_stops_X5_layTrial : GoodIn wsX5_stops wsX5_layTrial := goodIn_r _ [5, 6, 54, 55, 56, 57, 58, 59, 60, 61, 62, 63, 64, 65, 66, 67, 68, 69, 70, 71, 72, 73, 74, 75, 76, 77, 78, 79, 80, 81, 82] (by decide +kernel) (by decide +kernel)
set_option maxRecDepth 20000 in
theorem gX5_stops_X5_layTrial : GoodIn wsX5_stops (wsV RX5 164 RX5 yX5_layTrial wsX5_layTrial) := goodIn_app (goodIn_of _ (by decide +kernel)) ggX5_stops_X5_layTrial
set_option maxRecDepth 20000 in
theorem ggX5_stops_X5_isSilent : GoodIn wsX5_stops wsX5_isSilent := goodIn_r _ [10, 6, 11, 12, 13, 14, 4, 15, 16, 17, 18, 19, 20, 21, 22, 23, 54, 55, 56, 57, 58, 59, 60, 61, 62, 63, 64, 65, 66, 67, 68, 69, 70, 71, 72, 73, 74, 75, 76, 77, 78, 79, 80, 81, 82] (by decide +kernel) (by decide +kernel)
set_option maxRecDepth 20000 in
theorem gX5_stops_X5_isSilent : GoodIn wsX5_stops (wsV RX5 120 RX5 yX5_isSilent wsX5_isSilent) := goodIn_app (goodIn_of _ (by decide +kernel)) ggX5_stops_X5_isSilent
set_option maxRecDepth 20000 in
theorem ggX5_stops_X5_passOn : GoodIn wsX5_stops wsX5_passOn := goodIn_r _ [27, 6, 28, 29, 11, 7, 8, 9, 4, 10, 12, 13, 14, 15, 16, 17, 18, 19, 20, 21, 22, 23, 30, 31, 32, 33, 34, 35, 36, 37, 38, 39, 40, 41, 42, 43, 44, 45, 46, 47, 48, 49, 50, 51, 52, 53, 54, 55, 56, 57, 58, 59, 60, 61, 62, 63, 64, 65, 66, 67, 68, 69, 70, 71, 72, 73, 74, 75, 76, 77, 78, 79, 80, 81, 82] (by decide +kernel) (by decide +kernel)
set_option maxRecDepth 20000 in
theorem gX5_stops_X5_passOn : GoodIn wsX5_stops (wsV RX5 139 RX5 yX5_passOn wsX5_passOn) := goodIn_app (goodIn_of _ (by decide +kernel)) ggX5_stops_X5_passOn
theorem dX5_stops_0 : decode cX5_stops 0 = .ok (.aload_n 0, 1) := by decide +kernel
theorem dX5_stops_1 : decode cX5_stops 1 = .ok (.invokevirtual 164, 3) := by decide +kernel
theorem dX5_stops_4 : decode cX5_stops 4 = .ok (.iconst 0, 1) := by decide +kernel
theorem dX5_stops_5 : decode cX5_stops 5 = .ok (.istore_n 1, 1) := by decide +kernel
theorem dX5_stops_6 : decode cX5_stops 6 = .ok (.iload_n 1, 1) := by decide +kernel
theorem dX5_stops_7 : decode cX5_stops 7 = .ok (.bipush 31, 2) := by decide +kernel
theorem dX5_stops_9 : decode cX5_stops 9 = .ok (.if_icmp .ge 25, 3) := by decide +kernel
theorem dX5_stops_12 : decode cX5_stops 12 = .ok (.aload_n 0, 1) := by decide +kernel
theorem dX5_stops_13 : decode cX5_stops 13 = .ok (.iconst 1, 1) := by decide +kernel
theorem dX5_stops_14 : decode cX5_stops 14 = .ok (.invokevirtual 120, 3) := by decide +kernel
theorem dX5_stops_17 : decode cX5_stops 17 = .ok (.ifCond .eq 5, 3) := by decide +kernel
theorem dX5_stops_20 : decode cX5_stops 20 = .ok (.iload_n 1, 1) := by decide +kernel
theorem dX5_stops_21 : decode cX5_stops 21 = .ok (.ireturn, 1) := by decide +kernel
theorem dX5_stops_22 : decode cX5_stops 22 = .ok (.aload_n 0, 1) := by decide +kernel
theorem dX5_stops_23 : decode cX5_stops 23 = .ok (.iconst 1, 1) := by decide +kernel
theorem dX5_stops_24 : decode cX5_stops 24 = .ok (.invokevirtual 139, 3) := by decide +kernel
theorem dX5_stops_27 : decode cX5_stops 27 = .ok (.pop, 1) := by decide +kernel
theorem dX5_stops_28 : decode cX5_stops 28 = .ok (.iinc 1 1, 3) := by decide +kernel
theorem dX5_stops_31 : decode cX5_stops 31 = .ok (.goto (-25), 3) := by decide +kernel
theorem dX5_stops_34 : decode cX5_stops 34 = .ok (.bipush (-9), 2) := by decide +kernel
theorem dX5_stops_36 : decode cX5_stops 36 = .ok (.ireturn, 1) := by decide +kernel
set_option maxRecDepth 20000 in
theorem ggX5_makeSome_X5_has : GoodIn wsX5_makeSome wsX5_has := goodIn_r _ [6] (by decide +kernel) (by decide +kernel)
set_option maxRecDepth 20000 in
theorem gX5_makeSome_X5_has : GoodIn wsX5_makeSome (va_wsS RX5 130 yX5_has wsX5_has) := goodIn_app (goodIn_of _ (by decide +kernel)) ggX5_makeSome_X5_has
theorem dX5_makeSome_0 : decode cX5_makeSome 0 = .ok (.iconst 0, 1) := by decide +kernel
theorem dX5_makeSome_1 : decode cX5_makeSome 1 = .ok (.istore_n 3, 1) := by decide +kernel
theorem dX5_makeSome_2 : decode cX5_makeSome 2 = .ok (.iload_n 3, 1) := by decide +kernel
theorem dX5_makeSome_3 : decode cX5_makeSome 3 = .ok (.aload_n 0, 1) := by decide +kernel
theorem dX5_makeSome_4 : decode cX5_makeSome 4 = .ok (.getfield 93, 3) := by decide +kernel
theorem dX5_makeSome_7 : decode cX5_makeSome 7 = .ok (.if_icmp .ge 39, 3) := by decide +kernel
theorem dX5_makeSome_10 : decode cX5_makeSome 10 = .ok (.aload_n 0, 1) := by decide +kernel
theorem dX5_makeSome_11 : decode cX5_makeSome 11 = .ok (.getfield 28, 3) := by decide +kernel
theorem dX5_makeSome_14 : decode cX5_makeSome 14 = .ok (.bipush 16, 2) := by decide +kernel
theorem dX5_makeSome_16 : decode cX5_makeSome 16 = .ok (.iload_n 3, 1) := by decide +kernel
theorem dX5_makeSome_17 : decode cX5_makeSome 17 = .ok (.iadd, 1) := by decide +kernel
theorem dX5_makeSome_18 : decode cX5_makeSome 18 = .ok (.iload_n 1, 1) := by decide +kernel
theorem dX5_makeSome_19 : decode cX5_makeSome 19 = .ok (.iload_n 3, 1) := by decide +kernel
theorem dX5_makeSome_20 : decode cX5_makeSome 20 = .ok (.invokestatic 130, 3) := by decide +kernel
theorem dX5_makeSome_23 : decode cX5_makeSome 23 = .ok (.ifCond .eq 7, 3) := by decide +kernel
theorem dX5_makeSome_26 : decode cX5_makeSome 26 = .ok (.iload_n 2, 1) := by decide +kernel
theorem dX5_makeSome_27 : decode cX5_makeSome 27 = .ok (.goto 12, 3) := by decide +kernel
theorem dX5_makeSome_30 : decode cX5_makeSome 30 = .ok (.aload_n 0, 1) := by decide +kernel
theorem dX5_makeSome_31 : decode cX5_makeSome 31 = .ok (.getfield 28, 3) := by decide +kernel
theorem dX5_makeSome_34 : decode cX5_makeSome 34 = .ok (.bipush 16, 2) := by decide +kernel
theorem dX5_makeSome_36 : decode cX5_makeSome 36 = .ok (.iload_n 3, 1) := by decide +kernel
theorem dX5_makeSome_37 : decode cX5_makeSome 37 = .ok (.iadd, 1) := by decide +kernel
theorem dX5_makeSome_38 : decode cX5_makeSome 38 = .ok (.iaload, 1) := by decide +kernel
theorem dX5_makeSome_39 : decode cX5_makeSome 39 = .ok (.iastore, 1) := by decide +kernel
theorem dX5_makeSome_40 : decode cX5_makeSome 40 = .ok (.iinc 3 1, 3) := by decide +kernel
theorem dX5_makeSome_43 : decode cX5_makeSome 43 = .ok (.goto (-41), 3) := by decide +kernel
theorem dX5_makeSome_46 : decode cX5_makeSome 46 = .ok (.return_, 1) := by decide +kernel
set_option maxRecDepth 20000 in
theorem ggX5_isHushed_X5_layTrial : GoodIn wsX5_isHushed wsX5_layTrial := goodIn_r _ [5, 6, 62, 63, 64, 65, 66, 67, 68, 69, 70, 71, 72, 73, 74, 75, 76, 77, 78, 79, 80, 81, 82, 83, 84, 85, 86, 87, 88, 89, 90] (by decide +kernel) (by decide +kernel)
set_option maxRecDepth 20000 in
theorem gX5_isHushed_X5_layTrial : GoodIn wsX5_isHushed (wsV RX5 164 RX5 yX5_layTrial wsX5_layTrial) := goodIn_app (goodIn_of _ (by decide +kernel)) ggX5_isHushed_X5_layTrial
set_option maxRecDepth 20000 in
theorem ggX5_isHushed_X5_makeSome : GoodIn wsX5_isHushed wsX5_makeSome := goodIn_r _ [10, 11, 6, 12, 13, 4, 14, 62, 63, 64, 65, 66, 67, 68, 69, 70, 71, 72, 73, 74, 75, 76, 77, 78, 79, 80, 81, 82, 83, 84, 85, 86, 87, 88, 89, 90] (by decide +kernel) (by decide +kernel)
set_option maxRecDepth 20000 in
theorem gX5_isHushed_X5_makeSome : GoodIn wsX5_isHushed (wsV RX5 173 RX5 yX5_makeSome wsX5_makeSome) := goodIn_app (goodIn_of _ (by decide +kernel)) ggX5_isHushed_X5_makeSome
set_option maxRecDepth 20000 in
theorem ggX5_isHushed_X5_goOn : GoodIn wsX5_isHushed wsX5_goOn := goodIn_r _ [18, 19, 20, 21, 4, 22, 6, 23, 24, 25, 26, 27, 28, 29, 30, 31, 32, 33, 34, 35, 36, 37, 11, 38, 39, 40, 41, 42, 43, 44, 45, 46, 47, 48, 49, 50, 51, 52, 53, 54, 55, 56, 57, 58, 59, 60, 61, 12, 13, 14, 62, 63, 64, 65, 66, 67, 68, 69, 70, 71, 72, 73, 74, 75, 76, 77, 78, 79, 80, 81, 82, 83, 84, 85, 86, 87, 88, 89, 90] (by decide +kernel) (by decide +kernel)
set_option maxRecDepth 20000 in
theorem gX5_isHushed_X5_goOn : GoodIn wsX5_isHushed (wsV RX5 167 RX5 yX5_goOn wsX5_goOn) := goodIn_app (goodIn_of _ (by decide +kernel)) ggX5_isHushed_X5_goOn
set_option maxRecDepth 20000 in
theorem ggX5_isHushed_X5_isSilent : GoodIn wsX5_isHushed wsX5_isSilent := goodIn_r _ [29, 6, 25, 30, 31, 32, 4, 33, 34, 35, 36, 37, 11, 38, 39, 40, 62, 63, 64, 65, 66, 67, 68, 69, 70, 71, 72, 73, 74, 75, 76, 77, 78, 79, 80, 81, 82, 83, 84, 85, 86, 87, 88, 89, 90] (by decide +kernel) (by decide +kernel)
set_option maxRecDepth 20000 in
theorem gX5_isHushed_X5_isSilent : GoodIn wsX5_isHushed (wsV RX5 120 RX5 yX5_isSilent wsX5_isSilent) := goodIn_app (goodIn_of _ (by decide +kernel)) ggX5_isHushed_X5_isSilent
theorem dX5_isHushed_0 : decode cX5_isHushed 0 = .ok (.aload_n 0, 1) := by decide +kernel
theorem dX5_isHushed_1 : decode cX5_isHushed 1 = .ok (.invokevirtual 164, 3) := by decide +kernel
theorem dX5_isHushed_4 : decode cX5_isHushed 4 = .ok (.aload_n 0, 1) := by decide +kernel
theorem dX5_isHushed_5 : decode cX5_isHushed 5 = .ok (.iload_n 1, 1) := by decide +kernel
theorem dX5_isHushed_6 : decode cX5_isHushed 6 = .ok (.iconst 1, 1) := by decide +kernel
theorem dX5_isHushed_7 : decode cX5_isHushed 7 = .ok (.invokevirtual 173, 3) := by decide +kernel
theorem dX5_isHushed_10 : decode cX5_isHushed 10 = .ok (.aload_n 0, 1) := by decide +kernel
theorem dX5_isHushed_11 : decode cX5_isHushed 11 = .ok (.iload_n 2, 1) := by decide +kernel
theorem dX5_isHushed_12 : decode cX5_isHushed 12 = .ok (.invokevirtual 167, 3) := by decide +kernel
theorem dX5_isHushed_15 : decode cX5_isHushed 15 = .ok (.pop, 1) := by decide +kernel
theorem dX5_isHushed_16 : decode cX5_isHushed 16 = .ok (.aload_n 0, 1) := by decide +kernel
theorem dX5_isHushed_17 : decode cX5_isHushed 17 = .ok (.iconst 1, 1) := by decide +kernel
theorem dX5_isHushed_18 : decode cX5_isHushed 18 = .ok (.invokevirtual 120, 3) := by decide +kernel
theorem dX5_isHushed_21 : decode cX5_isHushed 21 = .ok (.ireturn, 1) := by decide +kernel
set_option maxRecDepth 20000 in
theorem ggX5_priceOf_X5_has : GoodIn wsX5_priceOf wsX5_has := goodIn_r _ [6] (by decide +kernel) (by decide +kernel)
set_option maxRecDepth 20000 in
theorem gX5_priceOf_X5_has : GoodIn wsX5_priceOf (va_wsS RX5 130 yX5_has wsX5_has) := goodIn_app (goodIn_of _ (by decide +kernel)) ggX5_priceOf_X5_has
theorem dX5_priceOf_0 : decode cX5_priceOf 0 = .ok (.iconst 0, 1) := by decide +kernel
theorem dX5_priceOf_1 : decode cX5_priceOf 1 = .ok (.istore_n 2, 1) := by decide +kernel
theorem dX5_priceOf_2 : decode cX5_priceOf 2 = .ok (.iconst 0, 1) := by decide +kernel
theorem dX5_priceOf_3 : decode cX5_priceOf 3 = .ok (.istore_n 3, 1) := by decide +kernel
theorem dX5_priceOf_4 : decode cX5_priceOf 4 = .ok (.iload_n 3, 1) := by decide +kernel
theorem dX5_priceOf_5 : decode cX5_priceOf 5 = .ok (.aload_n 0, 1) := by decide +kernel
theorem dX5_priceOf_6 : decode cX5_priceOf 6 = .ok (.getfield 93, 3) := by decide +kernel
theorem dX5_priceOf_9 : decode cX5_priceOf 9 = .ok (.if_icmp .ge 30, 3) := by decide +kernel
theorem dX5_priceOf_12 : decode cX5_priceOf 12 = .ok (.iload_n 2, 1) := by decide +kernel
theorem dX5_priceOf_13 : decode cX5_priceOf 13 = .ok (.iload_n 1, 1) := by decide +kernel
theorem dX5_priceOf_14 : decode cX5_priceOf 14 = .ok (.iload_n 3, 1) := by decide +kernel
theorem dX5_priceOf_15 : decode cX5_priceOf 15 = .ok (.invokestatic 130, 3) := by decide +kernel
theorem dX5_priceOf_18 : decode cX5_priceOf 18 = .ok (.ifCond .eq 12, 3) := by decide +kernel
theorem dX5_priceOf_21 : decode cX5_priceOf 21 = .ok (.aload_n 0, 1) := by decide +kernel
theorem dX5_priceOf_22 : decode cX5_priceOf 22 = .ok (.getfield 7, 3) := by decide +kernel
theorem dX5_priceOf_25 : decode cX5_priceOf 25 = .ok (.iload_n 3, 1) := by decide +kernel
theorem dX5_priceOf_26 : decode cX5_priceOf 26 = .ok (.iaload, 1) := by decide +kernel
theorem dX5_priceOf_27 : decode cX5_priceOf 27 = .ok (.goto 4, 3) := by decide +kernel
theorem dX5_priceOf_30 : decode cX5_priceOf 30 = .ok (.iconst 0, 1) := by decide +kernel
theorem dX5_priceOf_31 : decode cX5_priceOf 31 = .ok (.iadd, 1) := by decide +kernel
theorem dX5_priceOf_32 : decode cX5_priceOf 32 = .ok (.istore_n 2, 1) := by decide +kernel
theorem dX5_priceOf_33 : decode cX5_priceOf 33 = .ok (.iinc 3 1, 3) := by decide +kernel
theorem dX5_priceOf_36 : decode cX5_priceOf 36 = .ok (.goto (-32), 3) := by decide +kernel
theorem dX5_priceOf_39 : decode cX5_priceOf 39 = .ok (.iload_n 2, 1) := by decide +kernel
theorem dX5_priceOf_40 : decode cX5_priceOf 40 = .ok (.ireturn, 1) := by decide +kernel
set_option maxRecDepth 20000 in
theorem ggX5_cheapest_X5_whoIs : GoodIn wsX5_cheapest wsX5_whoIs := goodIn_r _ [6, 1, 7, 71, 72, 73, 74, 75, 76, 77, 78, 79, 80, 81, 82, 83, 84, 85, 86, 87, 88, 89, 90, 91, 92, 93, 94, 95, 96, 97, 98, 99] (by decide +kernel) (by decide +kernel)
set_option maxRecDepth 20000 in
theorem gX5_cheapest_X5_whoIs : GoodIn wsX5_cheapest (wsV RX5 102 RX5 yX5_whoIs wsX5_whoIs) := goodIn_app (goodIn_of _ (by decide +kernel)) ggX5_cheapest_X5_whoIs
set_option maxRecDepth 20000 in
theorem ggX5_cheapest_X5_priceOf : GoodIn wsX5_cheapest wsX5_priceOf := goodIn_r _ [11, 1, 12, 13, 14, 5, 15, 71, 72, 73, 74, 75, 76, 77, 78, 79, 80, 81, 82, 83, 84, 85, 86, 87, 88, 89, 90, 91, 92, 93, 94, 95, 96, 97, 98, 99] (by decide +kernel) (by decide +kernel)
set_option maxRecDepth 20000 in
theorem gX5_cheapest_X5_priceOf : GoodIn wsX5_cheapest (wsV RX5 176 RX5 yX5_priceOf wsX5_priceOf) := goodIn_app (goodIn_of _ (by decide +kernel)) ggX5_cheapest_X5_priceOf
set_option maxRecDepth 20000 in
theorem ggX5_cheapest_X5_ones : GoodIn wsX5_cheapest wsX5_ones := goodIn_r _ [18] (by decide +kernel) (by decide +kernel)
set_option maxRecDepth 20000 in
theorem gX5_cheapest_X5_ones : GoodIn wsX5_cheapest (va_wsS RX5 105 yX5_ones wsX5_ones) := goodIn_app (goodIn_of _ (by decide +kernel)) ggX5_cheapest_X5_ones
set_option maxRecDepth 20000 in
theorem ggX5_cheapest_X5_isHushed : GoodIn wsX5_cheapest wsX5_isHushed := goodIn_r _ [22, 23, 24, 25, 5, 26, 7, 27, 28, 29, 30, 1, 13, 14, 15, 31, 32, 33, 34, 35, 36, 37, 38, 39, 40, 41, 42, 43, 44, 45, 46, 47, 48, 49, 2, 3, 4, 6, 16, 17, 18, 50, 51, 52, 53, 54, 55, 56, 57, 58, 59, 60, 61, 62, 63, 64, 65, 66, 67, 68, 69, 70, 71, 72, 73, 74, 75, 76, 77, 78, 79, 80, 81, 82, 83, 84, 85, 86, 87, 88, 89, 90, 91, 92, 93, 94, 95, 96, 97, 98, 99] (by decide +kernel) (by decide +kernel)
set_option maxRecDepth 20000 in
theorem gX5_cheapest_X5_isHushed : GoodIn wsX5_cheapest (wsV RX5 179 RX5 yX5_isHushed wsX5_isHushed) := goodIn_app (goodIn_of _ (by decide +kernel)) ggX5_cheapest_X5_isHushed
theorem dX5_cheapest_0 : decode cX5_cheapest 0 = .ok (.aload_n 0, 1) := by decide +kernel
theorem dX5_cheapest_1 : decode cX5_cheapest 1 = .ok (.iconst 0, 1) := by decide +kernel
theorem dX5_cheapest_2 : decode cX5_cheapest 2 = .ok (.iconst 0, 1) := by decide +kernel
theorem dX5_cheapest_3 : decode cX5_cheapest 3 = .ok (.invokevirtual 102, 3) := by decide +kernel
theorem dX5_cheapest_6 : decode cX5_cheapest 6 = .ok (.istore_n 2, 1) := by decide +kernel
theorem dX5_cheapest_7 : decode cX5_cheapest 7 = .ok (.iload_n 2, 1) := by decide +kernel
theorem dX5_cheapest_8 : decode cX5_cheapest 8 = .ok (.istore_n 3, 1) := by decide +kernel
theorem dX5_cheapest_9 : decode cX5_cheapest 9 = .ok (.iconst 0, 1) := by decide +kernel
theorem dX5_cheapest_10 : decode cX5_cheapest 10 = .ok (.istore 4, 2) := by decide +kernel
theorem dX5_cheapest_12 : decode cX5_cheapest 12 = .ok (.iload 4, 2) := by decide +kernel
theorem dX5_cheapest_14 : decode cX5_cheapest 14 = .ok (.iconst 1, 1) := by decide +kernel
theorem dX5_cheapest_15 : decode cX5_cheapest 15 = .ok (.aload_n 0, 1) := by decide +kernel
theorem dX5_cheapest_16 : decode cX5_cheapest 16 = .ok (.getfield 93, 3) := by decide +kernel
theorem dX5_cheapest_19 : decode cX5_cheapest 19 = .ok (.ishl, 1) := by decide +kernel
theorem dX5_cheapest_20 : decode cX5_cheapest 20 = .ok (.if_icmp .ge 101, 3) := by decide +kernel
theorem dX5_cheapest_23 : decode cX5_cheapest 23 = .ok (.aload_n 0, 1) := by decide +kernel
theorem dX5_cheapest_24 : decode cX5_cheapest 24 = .ok (.iload_n 3, 1) := by decide +kernel
theorem dX5_cheapest_25 : decode cX5_cheapest 25 = .ok (.invokevirtual 176, 3) := by decide +kernel
theorem dX5_cheapest_28 : decode cX5_cheapest 28 = .ok (.aload_n 0, 1) := by decide +kernel
theorem dX5_cheapest_29 : decode cX5_cheapest 29 = .ok (.iload 4, 2) := by decide +kernel
theorem dX5_cheapest_31 : decode cX5_cheapest 31 = .ok (.invokevirtual 176, 3) := by decide +kernel
theorem dX5_cheapest_34 : decode cX5_cheapest 34 = .ok (.isub, 1) := by decide +kernel
theorem dX5_cheapest_35 : decode cX5_cheapest 35 = .ok (.istore 5, 2) := by decide +kernel
theorem dX5_cheapest_37 : decode cX5_cheapest 37 = .ok (.iload 5, 2) := by decide +kernel
theorem dX5_cheapest_39 : decode cX5_cheapest 39 = .ok (.ifCond .gt 38, 3) := by decide +kernel
theorem dX5_cheapest_42 : decode cX5_cheapest 42 = .ok (.iload 5, 2) := by decide +kernel
theorem dX5_cheapest_44 : decode cX5_cheapest 44 = .ok (.ifCond .ne 37, 3) := by decide +kernel
theorem dX5_cheapest_47 : decode cX5_cheapest 47 = .ok (.iload 4, 2) := by decide +kernel
theorem dX5_cheapest_49 : decode cX5_cheapest 49 = .ok (.invokestatic 105, 3) := by decide +kernel
theorem dX5_cheapest_52 : decode cX5_cheapest 52 = .ok (.iload_n 3, 1) := by decide +kernel
theorem dX5_cheapest_53 : decode cX5_cheapest 53 = .ok (.invokestatic 105, 3) := by decide +kernel
theorem dX5_cheapest_56 : decode cX5_cheapest 56 = .ok (.if_icmp .lt 21, 3) := by decide +kernel
theorem dX5_cheapest_59 : decode cX5_cheapest 59 = .ok (.iload 4, 2) := by decide +kernel
theorem dX5_cheapest_61 : decode cX5_cheapest 61 = .ok (.invokestatic 105, 3) := by decide +kernel
theorem dX5_cheapest_64 : decode cX5_cheapest 64 = .ok (.iload_n 3, 1) := by decide +kernel
theorem dX5_cheapest_65 : decode cX5_cheapest 65 = .ok (.invokestatic 105, 3) := by decide +kernel
theorem dX5_cheapest_68 : decode cX5_cheapest 68 = .ok (.if_icmp .ne 13, 3) := by decide +kernel
theorem dX5_cheapest_71 : decode cX5_cheapest 71 = .ok (.iload 4, 2) := by decide +kernel
theorem dX5_cheapest_73 : decode cX5_cheapest 73 = .ok (.iload_n 3, 1) := by decide +kernel
theorem dX5_cheapest_74 : decode cX5_cheapest 74 = .ok (.if_icmp .ge 7, 3) := by decide +kernel
theorem dX5_cheapest_77 : decode cX5_cheapest 77 = .ok (.iconst 1, 1) := by decide +kernel
theorem dX5_cheapest_78 : decode cX5_cheapest 78 = .ok (.goto 4, 3) := by decide +kernel
theorem dX5_cheapest_81 : decode cX5_cheapest 81 = .ok (.iconst 0, 1) := by decide +kernel
theorem dX5_cheapest_82 : decode cX5_cheapest 82 = .ok (.istore 6, 2) := by decide +kernel
theorem dX5_cheapest_84 : decode cX5_cheapest 84 = .ok (.iload 4, 2) := by decide +kernel
theorem dX5_cheapest_86 : decode cX5_cheapest 86 = .ok (.iload_n 2, 1) := by decide +kernel
theorem dX5_cheapest_87 : decode cX5_cheapest 87 = .ok (.iconst (-1), 1) := by decide +kernel
theorem dX5_cheapest_88 : decode cX5_cheapest 88 = .ok (.ixor, 1) := by decide +kernel
theorem dX5_cheapest_89 : decode cX5_cheapest 89 = .ok (.iand, 1) := by decide +kernel
theorem dX5_cheapest_90 : decode cX5_cheapest 90 = .ok (.ifCond .ne 23, 3) := by decide +kernel
theorem dX5_cheapest_93 : decode cX5_cheapest 93 = .ok (.iload 6, 2) := by decide +kernel
theorem dX5_cheapest_95 : decode cX5_cheapest 95 = .ok (.ifCond .eq 18, 3) := by decide +kernel
theorem dX5_cheapest_98 : decode cX5_cheapest 98 = .ok (.aload_n 0, 1) := by decide +kernel
theorem dX5_cheapest_99 : decode cX5_cheapest 99 = .ok (.iload 4, 2) := by decide +kernel
theorem dX5_cheapest_101 : decode cX5_cheapest 101 = .ok (.iload_n 1, 1) := by decide +kernel
theorem dX5_cheapest_102 : decode cX5_cheapest 102 = .ok (.invokevirtual 179, 3) := by decide +kernel
theorem dX5_cheapest_105 : decode cX5_cheapest 105 = .ok (.ifCond .eq 8, 3) := by decide +kernel
theorem dX5_cheapest_108 : decode cX5_cheapest 108 = .ok (.iload 4, 2) := by decide +kernel
theorem dX5_cheapest_110 : decode cX5_cheapest 110 = .ok (.goto 4, 3) := by decide +kernel
theorem dX5_cheapest_113 : decode cX5_cheapest 113 = .ok (.iload_n 3, 1) := by decide +kernel
theorem dX5_cheapest_114 : decode cX5_cheapest 114 = .ok (.istore_n 3, 1) := by decide +kernel
theorem dX5_cheapest_115 : decode cX5_cheapest 115 = .ok (.iinc 4 1, 3) := by decide +kernel
theorem dX5_cheapest_118 : decode cX5_cheapest 118 = .ok (.goto (-106), 3) := by decide +kernel
theorem dX5_cheapest_121 : decode cX5_cheapest 121 = .ok (.iload_n 3, 1) := by decide +kernel
theorem dX5_cheapest_122 : decode cX5_cheapest 122 = .ok (.ireturn, 1) := by decide +kernel
set_option maxRecDepth 20000 in
theorem ggX5_hush_X5_in : GoodIn wsX5_hush wsX5_in := goodIn_r _ [5] (by decide +kernel) (by decide +kernel)
set_option maxRecDepth 20000 in
theorem gX5_hush_X5_in : GoodIn wsX5_hush (va_wsS RX5 61 yX5_in wsX5_in) := goodIn_app (goodIn_of _ (by decide +kernel)) ggX5_hush_X5_in
set_option maxRecDepth 20000 in
theorem ggX5_hush_X5_cheapest : GoodIn wsX5_hush wsX5_cheapest := goodIn_r _ [9, 10, 11, 12, 13, 4, 14, 15, 16, 17, 18, 19, 20, 21, 22, 23, 24, 25, 26, 27, 28, 29, 30, 31, 32, 33, 34, 35, 36, 37, 38, 39, 40, 41, 42, 43, 44, 45, 46, 47, 48, 49, 50, 51, 52, 53, 54, 55, 56, 57, 58, 59, 60, 61, 62, 63, 64, 65, 66, 67, 68, 69, 70, 71, 2, 3, 5, 72, 73, 74, 75, 76, 77, 78, 79, 80, 81, 82, 83, 84, 85, 86, 87, 88, 89, 90, 91, 92, 93, 94, 95, 96, 97, 98, 99, 100, 101, 102, 103, 104] (by decide +kernel) (by decide +kernel)
set_option maxRecDepth 20000 in
theorem gX5_hush_X5_cheapest : GoodIn wsX5_hush (wsV RX5 182 RX5 yX5_cheapest wsX5_cheapest) := goodIn_app (goodIn_of _ (by decide +kernel)) ggX5_hush_X5_cheapest
set_option maxRecDepth 20000 in
theorem ggX5_hush_X5_priceOf : GoodIn wsX5_hush wsX5_priceOf := goodIn_r _ [19, 10, 20, 21, 22, 4, 23, 76, 77, 78, 79, 80, 81, 82, 83, 84, 85, 86, 87, 88, 89, 90, 91, 92, 93, 94, 95, 96, 97, 98, 99, 100, 101, 102, 103, 104] (by decide +kernel) (by decide +kernel)
set_option maxRecDepth 20000 in
theorem gX5_hush_X5_priceOf : GoodIn wsX5_hush (wsV RX5 176 RX5 yX5_priceOf wsX5_priceOf) := goodIn_app (goodIn_of _ (by decide +kernel)) ggX5_hush_X5_priceOf
theorem dX5_hush_0 : decode cX5_hush 0 = .ok (.iload_n 1, 1) := by decide +kernel
theorem dX5_hush_1 : decode cX5_hush 1 = .ok (.i2l, 1) := by decide +kernel
theorem dX5_hush_2 : decode cX5_hush 2 = .ok (.lconst 0, 1) := by decide +kernel
theorem dX5_hush_3 : decode cX5_hush 3 = .ok (.ldc2_w 142, 3) := by decide +kernel
theorem dX5_hush_6 : decode cX5_hush 6 = .ok (.invokestatic 61, 3) := by decide +kernel
theorem dX5_hush_9 : decode cX5_hush 9 = .ok (.ifCond .eq 13, 3) := by decide +kernel
theorem dX5_hush_12 : decode cX5_hush 12 = .ok (.iload_n 2, 1) := by decide +kernel
theorem dX5_hush_13 : decode cX5_hush 13 = .ok (.i2l, 1) := by decide +kernel
theorem dX5_hush_14 : decode cX5_hush 14 = .ok (.lconst 0, 1) := by decide +kernel
theorem dX5_hush_15 : decode cX5_hush 15 = .ok (.lconst 1, 1) := by decide +kernel
theorem dX5_hush_16 : decode cX5_hush 16 = .ok (.invokestatic 61, 3) := by decide +kernel
theorem dX5_hush_19 : decode cX5_hush 19 = .ok (.ifCond .ne 6, 3) := by decide +kernel
theorem dX5_hush_22 : decode cX5_hush 22 = .ok (.bipush (-2), 2) := by decide +kernel
theorem dX5_hush_24 : decode cX5_hush 24 = .ok (.ireturn, 1) := by decide +kernel
theorem dX5_hush_25 : decode cX5_hush 25 = .ok (.aload_n 0, 1) := by decide +kernel
theorem dX5_hush_26 : decode cX5_hush 26 = .ok (.iload_n 1, 1) := by decide +kernel
theorem dX5_hush_27 : decode cX5_hush 27 = .ok (.invokevirtual 182, 3) := by decide +kernel
theorem dX5_hush_30 : decode cX5_hush 30 = .ok (.istore_n 3, 1) := by decide +kernel
theorem dX5_hush_31 : decode cX5_hush 31 = .ok (.iload_n 2, 1) := by decide +kernel
theorem dX5_hush_32 : decode cX5_hush 32 = .ok (.ifCond .ne 11, 3) := by decide +kernel
theorem dX5_hush_35 : decode cX5_hush 35 = .ok (.aload_n 0, 1) := by decide +kernel
theorem dX5_hush_36 : decode cX5_hush 36 = .ok (.iload_n 3, 1) := by decide +kernel
theorem dX5_hush_37 : decode cX5_hush 37 = .ok (.invokevirtual 176, 3) := by decide +kernel
theorem dX5_hush_40 : decode cX5_hush 40 = .ok (.goto 4, 3) := by decide +kernel
theorem dX5_hush_43 : decode cX5_hush 43 = .ok (.iload_n 3, 1) := by decide +kernel
theorem dX5_hush_44 : decode cX5_hush 44 = .ok (.ireturn, 1) := by decide +kernel
set_option maxRecDepth 20000 in
theorem ggX5_loud_X5_in : GoodIn wsX5_loud wsX5_in := goodIn_r _ [5] (by decide +kernel) (by decide +kernel)
set_option maxRecDepth 20000 in
theorem gX5_loud_X5_in : GoodIn wsX5_loud (va_wsS RX5 61 yX5_in wsX5_in) := goodIn_app (goodIn_of _ (by decide +kernel)) ggX5_loud_X5_in
set_option maxRecDepth 20000 in
theorem ggX5_loud_X5_canRest : GoodIn wsX5_loud wsX5_canRest := goodIn_r _ [9, 10, 11, 12, 13, 14, 4, 15, 16, 2, 3, 5, 68, 69, 70, 71, 72, 73, 74, 75, 76, 77, 78, 79, 80, 81, 82, 83, 84, 85, 86, 87, 88, 89, 90, 91, 92, 93, 94, 95, 96] (by decide +kernel) (by decide +kernel)
set_option maxRecDepth 20000 in
theorem gX5_loud_X5_canRest : GoodIn wsX5_loud (wsV RX5 153 RX5 yX5_canRest wsX5_canRest) := goodIn_app (goodIn_of _ (by decide +kernel)) ggX5_loud_X5_canRest
set_option maxRecDepth 20000 in
theorem ggX5_loud_X5_layTrial : GoodIn wsX5_loud wsX5_layTrial := goodIn_r _ [20, 10, 68, 69, 70, 71, 72, 73, 74, 75, 76, 77, 78, 79, 80, 81, 82, 83, 84, 85, 86, 87, 88, 89, 90, 91, 92, 93, 94, 95, 96] (by decide +kernel) (by decide +kernel)
set_option maxRecDepth 20000 in
theorem gX5_loud_X5_layTrial : GoodIn wsX5_loud (wsV RX5 164 RX5 yX5_layTrial wsX5_layTrial) := goodIn_app (goodIn_of _ (by decide +kernel)) ggX5_loud_X5_layTrial
set_option maxRecDepth 20000 in
theorem ggX5_loud_X5_restOn : GoodIn wsX5_loud wsX5_restOn := goodIn_r _ [24, 10, 11, 68, 69, 70, 71, 72, 73, 74, 75, 76, 77, 78, 79, 80, 81, 82, 83, 84, 85, 86, 87, 88, 89, 90, 91, 92, 93, 94, 95, 96] (by decide +kernel) (by decide +kernel)
set_option maxRecDepth 20000 in
theorem gX5_loud_X5_restOn : GoodIn wsX5_loud (wsV RX5 156 RX5 yX5_restOn wsX5_restOn) := goodIn_app (goodIn_of _ (by decide +kernel)) ggX5_loud_X5_restOn
set_option maxRecDepth 20000 in
theorem ggX5_loud_X5_goOn : GoodIn wsX5_loud wsX5_goOn := goodIn_r _ [28, 29, 30, 31, 4, 32, 10, 33, 34, 35, 36, 37, 38, 39, 40, 41, 42, 43, 44, 45, 46, 47, 16, 48, 49, 50, 51, 52, 53, 54, 55, 56, 57, 58, 59, 60, 12, 13, 14, 15, 2, 3, 5, 61, 62, 63, 64, 65, 66, 67, 68, 69, 70, 71, 72, 73, 74, 75, 76, 77, 78, 79, 80, 81, 82, 83, 84, 85, 86, 87, 88, 89, 90, 91, 92, 93, 94, 95, 96] (by decide +kernel) (by decide +kernel)
set_option maxRecDepth 20000 in
theorem gX5_loud_X5_goOn : GoodIn wsX5_loud (wsV RX5 167 RX5 yX5_goOn wsX5_goOn) := goodIn_app (goodIn_of _ (by decide +kernel)) ggX5_loud_X5_goOn
theorem dX5_loud_0 : decode cX5_loud 0 = .ok (.iload_n 1, 1) := by decide +kernel
theorem dX5_loud_1 : decode cX5_loud 1 = .ok (.i2l, 1) := by decide +kernel
theorem dX5_loud_2 : decode cX5_loud 2 = .ok (.lconst 1, 1) := by decide +kernel
theorem dX5_loud_3 : decode cX5_loud 3 = .ok (.ldc2_w 185, 3) := by decide +kernel
theorem dX5_loud_6 : decode cX5_loud 6 = .ok (.invokestatic 61, 3) := by decide +kernel
theorem dX5_loud_9 : decode cX5_loud 9 = .ok (.ifCond .eq 13, 3) := by decide +kernel
theorem dX5_loud_12 : decode cX5_loud 12 = .ok (.iload_n 2, 1) := by decide +kernel
theorem dX5_loud_13 : decode cX5_loud 13 = .ok (.i2l, 1) := by decide +kernel
theorem dX5_loud_14 : decode cX5_loud 14 = .ok (.lconst 0, 1) := by decide +kernel
theorem dX5_loud_15 : decode cX5_loud 15 = .ok (.lconst 1, 1) := by decide +kernel
theorem dX5_loud_16 : decode cX5_loud 16 = .ok (.invokestatic 61, 3) := by decide +kernel
theorem dX5_loud_19 : decode cX5_loud 19 = .ok (.ifCond .ne 6, 3) := by decide +kernel
theorem dX5_loud_22 : decode cX5_loud 22 = .ok (.bipush (-2), 2) := by decide +kernel
theorem dX5_loud_24 : decode cX5_loud 24 = .ok (.ireturn, 1) := by decide +kernel
theorem dX5_loud_25 : decode cX5_loud 25 = .ok (.bipush (-9), 2) := by decide +kernel
theorem dX5_loud_27 : decode cX5_loud 27 = .ok (.istore_n 3, 1) := by decide +kernel
theorem dX5_loud_28 : decode cX5_loud 28 = .ok (.bipush (-9), 2) := by decide +kernel
theorem dX5_loud_30 : decode cX5_loud 30 = .ok (.istore 4, 2) := by decide +kernel
theorem dX5_loud_32 : decode cX5_loud 32 = .ok (.iconst 0, 1) := by decide +kernel
theorem dX5_loud_33 : decode cX5_loud 33 = .ok (.istore 5, 2) := by decide +kernel
theorem dX5_loud_35 : decode cX5_loud 35 = .ok (.iload 5, 2) := by decide +kernel
theorem dX5_loud_37 : decode cX5_loud 37 = .ok (.bipush 6, 2) := by decide +kernel
theorem dX5_loud_39 : decode cX5_loud 39 = .ok (.if_icmp .gt 81, 3) := by decide +kernel
theorem dX5_loud_42 : decode cX5_loud 42 = .ok (.iload 5, 2) := by decide +kernel
theorem dX5_loud_44 : decode cX5_loud 44 = .ok (.bipush 6, 2) := by decide +kernel
theorem dX5_loud_46 : decode cX5_loud 46 = .ok (.if_icmp .eq 13, 3) := by decide +kernel
theorem dX5_loud_49 : decode cX5_loud 49 = .ok (.aload_n 0, 1) := by decide +kernel
theorem dX5_loud_50 : decode cX5_loud 50 = .ok (.iconst 0, 1) := by decide +kernel
theorem dX5_loud_51 : decode cX5_loud 51 = .ok (.iload 5, 2) := by decide +kernel
theorem dX5_loud_53 : decode cX5_loud 53 = .ok (.invokevirtual 153, 3) := by decide +kernel
theorem dX5_loud_56 : decode cX5_loud 56 = .ok (.ifCond .eq 58, 3) := by decide +kernel
theorem dX5_loud_59 : decode cX5_loud 59 = .ok (.aload_n 0, 1) := by decide +kernel
theorem dX5_loud_60 : decode cX5_loud 60 = .ok (.invokevirtual 164, 3) := by decide +kernel
theorem dX5_loud_63 : decode cX5_loud 63 = .ok (.iload 5, 2) := by decide +kernel
theorem dX5_loud_65 : decode cX5_loud 65 = .ok (.bipush 6, 2) := by decide +kernel
theorem dX5_loud_67 : decode cX5_loud 67 = .ok (.if_icmp .ge 10, 3) := by decide +kernel
theorem dX5_loud_70 : decode cX5_loud 70 = .ok (.aload_n 0, 1) := by decide +kernel
theorem dX5_loud_71 : decode cX5_loud 71 = .ok (.iconst 1, 1) := by decide +kernel
theorem dX5_loud_72 : decode cX5_loud 72 = .ok (.iload 5, 2) := by decide +kernel
theorem dX5_loud_74 : decode cX5_loud 74 = .ok (.invokevirtual 156, 3) := by decide +kernel
theorem dX5_loud_77 : decode cX5_loud 77 = .ok (.aload_n 0, 1) := by decide +kernel
theorem dX5_loud_78 : decode cX5_loud 78 = .ok (.iload_n 1, 1) := by decide +kernel
theorem dX5_loud_79 : decode cX5_loud 79 = .ok (.invokevirtual 167, 3) := by decide +kernel
theorem dX5_loud_82 : decode cX5_loud 82 = .ok (.istore 6, 2) := by decide +kernel
theorem dX5_loud_84 : decode cX5_loud 84 = .ok (.iload 6, 2) := by decide +kernel
theorem dX5_loud_86 : decode cX5_loud 86 = .ok (.iload 4, 2) := by decide +kernel
theorem dX5_loud_88 : decode cX5_loud 88 = .ok (.if_icmp .le 8, 3) := by decide +kernel
theorem dX5_loud_91 : decode cX5_loud 91 = .ok (.iload 5, 2) := by decide +kernel
theorem dX5_loud_93 : decode cX5_loud 93 = .ok (.goto 4, 3) := by decide +kernel
theorem dX5_loud_96 : decode cX5_loud 96 = .ok (.iload_n 3, 1) := by decide +kernel
theorem dX5_loud_97 : decode cX5_loud 97 = .ok (.istore_n 3, 1) := by decide +kernel
theorem dX5_loud_98 : decode cX5_loud 98 = .ok (.iload 6, 2) := by decide +kernel
theorem dX5_loud_100 : decode cX5_loud 100 = .ok (.iload 4, 2) := by decide +kernel
theorem dX5_loud_102 : decode cX5_loud 102 = .ok (.if_icmp .le 8, 3) := by decide +kernel
theorem dX5_loud_105 : decode cX5_loud 105 = .ok (.iload 6, 2) := by decide +kernel
theorem dX5_loud_107 : decode cX5_loud 107 = .ok (.goto 5, 3) := by decide +kernel
theorem dX5_loud_110 : decode cX5_loud 110 = .ok (.iload 4, 2) := by decide +kernel
theorem dX5_loud_112 : decode cX5_loud 112 = .ok (.istore 4, 2) := by decide +kernel
theorem dX5_loud_114 : decode cX5_loud 114 = .ok (.iinc 5 1, 3) := by decide +kernel
theorem dX5_loud_117 : decode cX5_loud 117 = .ok (.goto (-82), 3) := by decide +kernel
theorem dX5_loud_120 : decode cX5_loud 120 = .ok (.iload_n 2, 1) := by decide +kernel
theorem dX5_loud_121 : decode cX5_loud 121 = .ok (.ifCond .ne 7, 3) := by decide +kernel
theorem dX5_loud_124 : decode cX5_loud 124 = .ok (.iload_n 3, 1) := by decide +kernel
theorem dX5_loud_125 : decode cX5_loud 125 = .ok (.goto 5, 3) := by decide +kernel
theorem dX5_loud_128 : decode cX5_loud 128 = .ok (.iload 4, 2) := by decide +kernel
theorem dX5_loud_130 : decode cX5_loud 130 = .ok (.ireturn, 1) := by decide +kernel
set_option maxRecDepth 20000 in
theorem ggX5_tryThing_X5_isSilent : GoodIn wsX5_tryThing wsX5_isSilent := goodIn_r _ [6, 1, 7, 8, 9, 10, 5, 11, 12, 13, 14, 15, 16, 17, 18, 19, 72, 73, 74, 75, 76, 77, 78, 79, 80, 81, 82, 83, 84, 85, 86, 87, 88, 89, 90, 91, 92, 93, 94, 95, 96, 97, 98, 99, 100] (by decide +kernel) (by decide +kernel)
set_option maxRecDepth 20000 in
theorem gX5_tryThing_X5_isSilent : GoodIn wsX5_tryThing (wsV RX5 120 RX5 yX5_isSilent wsX5_isSilent) := goodIn_app (goodIn_of _ (by decide +kernel)) ggX5_tryThing_X5_isSilent
set_option maxRecDepth 20000 in
theorem ggX5_tryThing_X5_passOn : GoodIn wsX5_tryThing wsX5_passOn := goodIn_r _ [23, 1, 24, 25, 7, 2, 3, 4, 5, 6, 8, 9, 10, 11, 12, 13, 14, 15, 16, 17, 18, 19, 26, 27, 28, 29, 30, 31, 32, 33, 34, 35, 36, 37, 38, 39, 40, 41, 42, 43, 44, 45, 46, 47, 48, 49, 72, 73, 74, 75, 76, 77, 78, 79, 80, 81, 82, 83, 84, 85, 86, 87, 88, 89, 90, 91, 92, 93, 94, 95, 96, 97, 98, 99, 100] (by decide +kernel) (by decide +kernel)
set_option maxRecDepth 20000 in
theorem gX5_tryThing_X5_passOn : GoodIn wsX5_tryThing (wsV RX5 139 RX5 yX5_passOn wsX5_passOn) := goodIn_app (goodIn_of _ (by decide +kernel)) ggX5_tryThing_X5_passOn
set_option maxRecDepth 20000 in
theorem ggX5_tryThing_X5_giveOn : GoodIn wsX5_tryThing wsX5_giveOn := goodIn_r _ [53, 1, 72, 73, 74, 75, 76, 77, 78, 79, 80, 81, 82, 83, 84, 85, 86, 87, 88, 89, 90, 91, 92, 93, 94, 95, 96, 97, 98, 99, 100] (by decide +kernel) (by decide +kernel)
set_option maxRecDepth 20000 in
theorem gX5_tryThing_X5_giveOn : GoodIn wsX5_tryThing (wsV RX5 144 RX5 yX5_giveOn wsX5_giveOn) := goodIn_app (goodIn_of _ (by decide +kernel)) ggX5_tryThing_X5_giveOn
set_option maxRecDepth 20000 in
theorem ggX5_tryThing_X5_canPay : GoodIn wsX5_tryThing wsX5_canPay := goodIn_r _ [57, 1, 58, 43, 44, 45, 5, 46, 36, 37, 38, 39, 16, 40, 41, 42, 72, 73, 74, 75, 76, 77, 78, 79, 80, 81, 82, 83, 84, 85, 86, 87, 88, 89, 90, 91, 92, 93, 94, 95, 96, 97, 98, 99, 100] (by decide +kernel) (by decide +kernel)
set_option maxRecDepth 20000 in
theorem gX5_tryThing_X5_canPay : GoodIn wsX5_tryThing (wsV RX5 147 RX5 yX5_canPay wsX5_canPay) := goodIn_app (goodIn_of _ (by decide +kernel)) ggX5_tryThing_X5_canPay
set_option maxRecDepth 20000 in
theorem ggX5_tryThing_X5_payOn : GoodIn wsX5_tryThing wsX5_payOn := goodIn_r _ [62, 1, 58, 72, 73, 74, 75, 76, 77, 78, 79, 80, 81, 82, 83, 84, 85, 86, 87, 88, 89, 90, 91, 92, 93, 94, 95, 96, 97, 98, 99, 100] (by decide +kernel) (by decide +kernel)
set_option maxRecDepth 20000 in
theorem gX5_tryThing_X5_payOn : GoodIn wsX5_tryThing (wsV RX5 150 RX5 yX5_payOn wsX5_payOn) := goodIn_app (goodIn_of _ (by decide +kernel)) ggX5_tryThing_X5_payOn
set_option maxRecDepth 20000 in
theorem ggX5_tryThing_X5_canRest : GoodIn wsX5_tryThing wsX5_canRest := goodIn_r _ [66, 1, 67, 36, 37, 38, 5, 39, 16, 40, 41, 42, 72, 73, 74, 75, 76, 77, 78, 79, 80, 81, 82, 83, 84, 85, 86, 87, 88, 89, 90, 91, 92, 93, 94, 95, 96, 97, 98, 99, 100] (by decide +kernel) (by decide +kernel)
set_option maxRecDepth 20000 in
theorem gX5_tryThing_X5_canRest : GoodIn wsX5_tryThing (wsV RX5 153 RX5 yX5_canRest wsX5_canRest) := goodIn_app (goodIn_of _ (by decide +kernel)) ggX5_tryThing_X5_canRest
set_option maxRecDepth 20000 in
theorem ggX5_tryThing_X5_restOn : GoodIn wsX5_tryThing wsX5_restOn := goodIn_r _ [71, 1, 67, 72, 73, 74, 75, 76, 77, 78, 79, 80, 81, 82, 83, 84, 85, 86, 87, 88, 89, 90, 91, 92, 93, 94, 95, 96, 97, 98, 99, 100] (by decide +kernel) (by decide +kernel)
set_option maxRecDepth 20000 in
theorem gX5_tryThing_X5_restOn : GoodIn wsX5_tryThing (wsV RX5 156 RX5 yX5_restOn wsX5_restOn) := goodIn_app (goodIn_of _ (by decide +kernel)) ggX5_tryThing_X5_restOn
set_option maxRecDepth 20000 in
theorem ggX5_tryThing_X5_plays : GoodIn wsX5_tryThing wsX5_plays := goodIn_r _ [46, 1, 36, 37, 38, 5, 39, 16, 40, 41, 42, 72, 73, 74, 75, 76, 77, 78, 79, 80, 81, 82, 83, 84, 85, 86, 87, 88, 89, 90, 91, 92, 93, 94, 95, 96, 97, 98, 99, 100] (by decide +kernel) (by decide +kernel)
set_option maxRecDepth 20000 in
theorem gX5_tryThing_X5_plays : GoodIn wsX5_tryThing (wsV RX5 116 RX5 yX5_plays wsX5_plays) := goodIn_app (goodIn_of _ (by decide +kernel)) ggX5_tryThing_X5_plays
theorem dX5_tryThing_0 : decode cX5_tryThing 0 = .ok (.iload_n 1, 1) := by decide +kernel
theorem dX5_tryThing_1 : decode cX5_tryThing 1 = .ok (.tableswitch 204 0 5 #[39, 71, 95, 129, 163, 182], 39) := by decide +kernel
theorem dX5_tryThing_40 : decode cX5_tryThing 40 = .ok (.iload_n 2, 1) := by decide +kernel
theorem dX5_tryThing_41 : decode cX5_tryThing 41 = .ok (.ifCond .ne 19, 3) := by decide +kernel
theorem dX5_tryThing_44 : decode cX5_tryThing 44 = .ok (.iload_n 3, 1) := by decide +kernel
theorem dX5_tryThing_45 : decode cX5_tryThing 45 = .ok (.ifCond .ne 15, 3) := by decide +kernel
theorem dX5_tryThing_48 : decode cX5_tryThing 48 = .ok (.aload_n 0, 1) := by decide +kernel
theorem dX5_tryThing_49 : decode cX5_tryThing 49 = .ok (.iconst 1, 1) := by decide +kernel
theorem dX5_tryThing_50 : decode cX5_tryThing 50 = .ok (.invokevirtual 120, 3) := by decide +kernel
theorem dX5_tryThing_53 : decode cX5_tryThing 53 = .ok (.ifCond .ne 7, 3) := by decide +kernel
theorem dX5_tryThing_56 : decode cX5_tryThing 56 = .ok (.iconst 1, 1) := by decide +kernel
theorem dX5_tryThing_57 : decode cX5_tryThing 57 = .ok (.goto 4, 3) := by decide +kernel
theorem dX5_tryThing_60 : decode cX5_tryThing 60 = .ok (.iconst 0, 1) := by decide +kernel
theorem dX5_tryThing_61 : decode cX5_tryThing 61 = .ok (.istore 4, 2) := by decide +kernel
theorem dX5_tryThing_63 : decode cX5_tryThing 63 = .ok (.aload_n 0, 1) := by decide +kernel
theorem dX5_tryThing_64 : decode cX5_tryThing 64 = .ok (.iconst 1, 1) := by decide +kernel
theorem dX5_tryThing_65 : decode cX5_tryThing 65 = .ok (.invokevirtual 139, 3) := by decide +kernel
theorem dX5_tryThing_68 : decode cX5_tryThing 68 = .ok (.pop, 1) := by decide +kernel
theorem dX5_tryThing_69 : decode cX5_tryThing 69 = .ok (.iload 4, 2) := by decide +kernel
theorem dX5_tryThing_71 : decode cX5_tryThing 71 = .ok (.ireturn, 1) := by decide +kernel
theorem dX5_tryThing_72 : decode cX5_tryThing 72 = .ok (.iload_n 2, 1) := by decide +kernel
theorem dX5_tryThing_73 : decode cX5_tryThing 73 = .ok (.ifCond .ne 11, 3) := by decide +kernel
theorem dX5_tryThing_76 : decode cX5_tryThing 76 = .ok (.iload_n 3, 1) := by decide +kernel
theorem dX5_tryThing_77 : decode cX5_tryThing 77 = .ok (.ifCond .le 7, 3) := by decide +kernel
theorem dX5_tryThing_80 : decode cX5_tryThing 80 = .ok (.iconst 1, 1) := by decide +kernel
theorem dX5_tryThing_81 : decode cX5_tryThing 81 = .ok (.goto 4, 3) := by decide +kernel
theorem dX5_tryThing_84 : decode cX5_tryThing 84 = .ok (.iconst 0, 1) := by decide +kernel
theorem dX5_tryThing_85 : decode cX5_tryThing 85 = .ok (.istore 5, 2) := by decide +kernel
theorem dX5_tryThing_87 : decode cX5_tryThing 87 = .ok (.aload_n 0, 1) := by decide +kernel
theorem dX5_tryThing_88 : decode cX5_tryThing 88 = .ok (.iconst 1, 1) := by decide +kernel
theorem dX5_tryThing_89 : decode cX5_tryThing 89 = .ok (.iload_n 3, 1) := by decide +kernel
theorem dX5_tryThing_90 : decode cX5_tryThing 90 = .ok (.invokevirtual 144, 3) := by decide +kernel
theorem dX5_tryThing_93 : decode cX5_tryThing 93 = .ok (.iload 5, 2) := by decide +kernel
theorem dX5_tryThing_95 : decode cX5_tryThing 95 = .ok (.ireturn, 1) := by decide +kernel
theorem dX5_tryThing_96 : decode cX5_tryThing 96 = .ok (.iload_n 2, 1) := by decide +kernel
theorem dX5_tryThing_97 : decode cX5_tryThing 97 = .ok (.ifCond .ne 16, 3) := by decide +kernel
theorem dX5_tryThing_100 : decode cX5_tryThing 100 = .ok (.aload_n 0, 1) := by decide +kernel
theorem dX5_tryThing_101 : decode cX5_tryThing 101 = .ok (.iconst 1, 1) := by decide +kernel
theorem dX5_tryThing_102 : decode cX5_tryThing 102 = .ok (.iload_n 3, 1) := by decide +kernel
theorem dX5_tryThing_103 : decode cX5_tryThing 103 = .ok (.invokevirtual 147, 3) := by decide +kernel
theorem dX5_tryThing_106 : decode cX5_tryThing 106 = .ok (.ifCond .eq 7, 3) := by decide +kernel
theorem dX5_tryThing_109 : decode cX5_tryThing 109 = .ok (.iconst 1, 1) := by decide +kernel
theorem dX5_tryThing_110 : decode cX5_tryThing 110 = .ok (.goto 4, 3) := by decide +kernel
theorem dX5_tryThing_113 : decode cX5_tryThing 113 = .ok (.iconst 0, 1) := by decide +kernel
theorem dX5_tryThing_114 : decode cX5_tryThing 114 = .ok (.istore 6, 2) := by decide +kernel
theorem dX5_tryThing_116 : decode cX5_tryThing 116 = .ok (.iload 6, 2) := by decide +kernel
theorem dX5_tryThing_118 : decode cX5_tryThing 118 = .ok (.ifCond .eq 9, 3) := by decide +kernel
theorem dX5_tryThing_121 : decode cX5_tryThing 121 = .ok (.aload_n 0, 1) := by decide +kernel
theorem dX5_tryThing_122 : decode cX5_tryThing 122 = .ok (.iconst 1, 1) := by decide +kernel
theorem dX5_tryThing_123 : decode cX5_tryThing 123 = .ok (.iload_n 3, 1) := by decide +kernel
theorem dX5_tryThing_124 : decode cX5_tryThing 124 = .ok (.invokevirtual 150, 3) := by decide +kernel
theorem dX5_tryThing_127 : decode cX5_tryThing 127 = .ok (.iload 6, 2) := by decide +kernel
theorem dX5_tryThing_129 : decode cX5_tryThing 129 = .ok (.ireturn, 1) := by decide +kernel
theorem dX5_tryThing_130 : decode cX5_tryThing 130 = .ok (.iload_n 2, 1) := by decide +kernel
theorem dX5_tryThing_131 : decode cX5_tryThing 131 = .ok (.ifCond .ne 16, 3) := by decide +kernel
theorem dX5_tryThing_134 : decode cX5_tryThing 134 = .ok (.aload_n 0, 1) := by decide +kernel
theorem dX5_tryThing_135 : decode cX5_tryThing 135 = .ok (.iconst 1, 1) := by decide +kernel
theorem dX5_tryThing_136 : decode cX5_tryThing 136 = .ok (.iload_n 3, 1) := by decide +kernel
theorem dX5_tryThing_137 : decode cX5_tryThing 137 = .ok (.invokevirtual 153, 3) := by decide +kernel
theorem dX5_tryThing_140 : decode cX5_tryThing 140 = .ok (.ifCond .eq 7, 3) := by decide +kernel
theorem dX5_tryThing_143 : decode cX5_tryThing 143 = .ok (.iconst 1, 1) := by decide +kernel
theorem dX5_tryThing_144 : decode cX5_tryThing 144 = .ok (.goto 4, 3) := by decide +kernel
theorem dX5_tryThing_147 : decode cX5_tryThing 147 = .ok (.iconst 0, 1) := by decide +kernel
theorem dX5_tryThing_148 : decode cX5_tryThing 148 = .ok (.istore 7, 2) := by decide +kernel
theorem dX5_tryThing_150 : decode cX5_tryThing 150 = .ok (.iload 7, 2) := by decide +kernel
theorem dX5_tryThing_152 : decode cX5_tryThing 152 = .ok (.ifCond .eq 9, 3) := by decide +kernel
theorem dX5_tryThing_155 : decode cX5_tryThing 155 = .ok (.aload_n 0, 1) := by decide +kernel
theorem dX5_tryThing_156 : decode cX5_tryThing 156 = .ok (.iconst 1, 1) := by decide +kernel
theorem dX5_tryThing_157 : decode cX5_tryThing 157 = .ok (.iload_n 3, 1) := by decide +kernel
theorem dX5_tryThing_158 : decode cX5_tryThing 158 = .ok (.invokevirtual 156, 3) := by decide +kernel
theorem dX5_tryThing_161 : decode cX5_tryThing 161 = .ok (.iload 7, 2) := by decide +kernel
theorem dX5_tryThing_163 : decode cX5_tryThing 163 = .ok (.ireturn, 1) := by decide +kernel
theorem dX5_tryThing_164 : decode cX5_tryThing 164 = .ok (.iload_n 2, 1) := by decide +kernel
theorem dX5_tryThing_165 : decode cX5_tryThing 165 = .ok (.ifCond .ne 16, 3) := by decide +kernel
theorem dX5_tryThing_168 : decode cX5_tryThing 168 = .ok (.aload_n 0, 1) := by decide +kernel
theorem dX5_tryThing_169 : decode cX5_tryThing 169 = .ok (.iconst 1, 1) := by decide +kernel
theorem dX5_tryThing_170 : decode cX5_tryThing 170 = .ok (.iload_n 3, 1) := by decide +kernel
