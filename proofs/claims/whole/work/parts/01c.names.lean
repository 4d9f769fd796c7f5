theorem dX4_init_0 : decode cX4_init 0 = .ok (.aload_n 0, 1) := by decide +kernel
theorem dX4_init_1 : decode cX4_init 1 = .ok (.invokespecial 1, 3) := by decide +kernel
theorem dX4_init_4 : decode cX4_init 4 = .ok (.aload_n 0, 1) := by decide +kernel
theorem dX4_init_5 : decode cX4_init 5 = .ok (.bipush 56, 2) := by decide +kernel
theorem dX4_init_7 : decode cX4_init 7 = .ok (.newarray .int, 2) := by decide +kernel
theorem dX4_init_9 : decode cX4_init 9 = .ok (.putfield 9, 3) := by decide +kernel
theorem dX4_init_12 : decode cX4_init 12 = .ok (.aload_n 0, 1) := by decide +kernel
theorem dX4_init_13 : decode cX4_init 13 = .ok (.new 13, 3) := by decide +kernel
theorem dX4_init_16 : decode cX4_init 16 = .ok (.dup, 1) := by decide +kernel
theorem dX4_init_17 : decode cX4_init 17 = .ok (.invokespecial 15, 3) := by decide +kernel
theorem dX4_init_20 : decode cX4_init 20 = .ok (.putfield 16, 3) := by decide +kernel
theorem dX4_init_23 : decode cX4_init 23 = .ok (.aload_n 0, 1) := by decide +kernel
theorem dX4_init_24 : decode cX4_init 24 = .ok (.new 13, 3) := by decide +kernel
theorem dX4_init_27 : decode cX4_init 27 = .ok (.dup, 1) := by decide +kernel
theorem dX4_init_28 : decode cX4_init 28 = .ok (.invokespecial 15, 3) := by decide +kernel
theorem dX4_init_31 : decode cX4_init 31 = .ok (.putfield 20, 3) := by decide +kernel
theorem dX4_init_34 : decode cX4_init 34 = .ok (.aload_n 0, 1) := by decide +kernel
theorem dX4_init_35 : decode cX4_init 35 = .ok (.new 23, 3) := by decide +kernel
theorem dX4_init_38 : decode cX4_init 38 = .ok (.dup, 1) := by decide +kernel
theorem dX4_init_39 : decode cX4_init 39 = .ok (.invokespecial 25, 3) := by decide +kernel
theorem dX4_init_42 : decode cX4_init 42 = .ok (.putfield 26, 3) := by decide +kernel
theorem dX4_init_45 : decode cX4_init 45 = .ok (.aload_n 0, 1) := by decide +kernel
theorem dX4_init_46 : decode cX4_init 46 = .ok (.new 23, 3) := by decide +kernel
theorem dX4_init_49 : decode cX4_init 49 = .ok (.dup, 1) := by decide +kernel
theorem dX4_init_50 : decode cX4_init 50 = .ok (.invokespecial 25, 3) := by decide +kernel
theorem dX4_init_53 : decode cX4_init 53 = .ok (.putfield 30, 3) := by decide +kernel
theorem dX4_init_56 : decode cX4_init 56 = .ok (.aload_n 0, 1) := by decide +kernel
theorem dX4_init_57 : decode cX4_init 57 = .ok (.new 23, 3) := by decide +kernel
theorem dX4_init_60 : decode cX4_init 60 = .ok (.dup, 1) := by decide +kernel
theorem dX4_init_61 : decode cX4_init 61 = .ok (.invokespecial 25, 3) := by decide +kernel
theorem dX4_init_64 : decode cX4_init 64 = .ok (.putfield 33, 3) := by decide +kernel
theorem dX4_init_67 : decode cX4_init 67 = .ok (.aload_n 0, 1) := by decide +kernel
theorem dX4_init_68 : decode cX4_init 68 = .ok (.new 36, 3) := by decide +kernel
theorem dX4_init_71 : decode cX4_init 71 = .ok (.dup, 1) := by decide +kernel
theorem dX4_init_72 : decode cX4_init 72 = .ok (.invokespecial 38, 3) := by decide +kernel
theorem dX4_init_75 : decode cX4_init 75 = .ok (.putfield 39, 3) := by decide +kernel
theorem dX4_init_78 : decode cX4_init 78 = .ok (.aload_n 0, 1) := by decide +kernel
theorem dX4_init_79 : decode cX4_init 79 = .ok (.iconst 2, 1) := by decide +kernel
theorem dX4_init_80 : decode cX4_init 80 = .ok (.anewarray 23, 3) := by decide +kernel
theorem dX4_init_83 : decode cX4_init 83 = .ok (.putfield 43, 3) := by decide +kernel
theorem dX4_init_86 : decode cX4_init 86 = .ok (.aload_n 0, 1) := by decide +kernel
theorem dX4_init_87 : decode cX4_init 87 = .ok (.new 47, 3) := by decide +kernel
theorem dX4_init_90 : decode cX4_init 90 = .ok (.dup, 1) := by decide +kernel
theorem dX4_init_91 : decode cX4_init 91 = .ok (.invokespecial 49, 3) := by decide +kernel
theorem dX4_init_94 : decode cX4_init 94 = .ok (.putfield 50, 3) := by decide +kernel
theorem dX4_init_97 : decode cX4_init 97 = .ok (.aload_n 0, 1) := by decide +kernel
theorem dX4_init_98 : decode cX4_init 98 = .ok (.bipush 64, 2) := by decide +kernel
theorem dX4_init_100 : decode cX4_init 100 = .ok (.newarray .int, 2) := by decide +kernel
theorem dX4_init_102 : decode cX4_init 102 = .ok (.putfield 54, 3) := by decide +kernel
theorem dX4_init_105 : decode cX4_init 105 = .ok (.iconst 0, 1) := by decide +kernel
theorem dX4_init_106 : decode cX4_init 106 = .ok (.istore_n 1, 1) := by decide +kernel
theorem dX4_init_107 : decode cX4_init 107 = .ok (.iload_n 1, 1) := by decide +kernel
theorem dX4_init_108 : decode cX4_init 108 = .ok (.aload_n 0, 1) := by decide +kernel
theorem dX4_init_109 : decode cX4_init 109 = .ok (.getfield 43, 3) := by decide +kernel
theorem dX4_init_112 : decode cX4_init 112 = .ok (.arraylength, 1) := by decide +kernel
theorem dX4_init_113 : decode cX4_init 113 = .ok (.if_icmp .ge 22, 3) := by decide +kernel
theorem dX4_init_116 : decode cX4_init 116 = .ok (.aload_n 0, 1) := by decide +kernel
theorem dX4_init_117 : decode cX4_init 117 = .ok (.getfield 43, 3) := by decide +kernel
theorem dX4_init_120 : decode cX4_init 120 = .ok (.iload_n 1, 1) := by decide +kernel
theorem dX4_init_121 : decode cX4_init 121 = .ok (.new 23, 3) := by decide +kernel
theorem dX4_init_124 : decode cX4_init 124 = .ok (.dup, 1) := by decide +kernel
theorem dX4_init_125 : decode cX4_init 125 = .ok (.invokespecial 25, 3) := by decide +kernel
theorem dX4_init_128 : decode cX4_init 128 = .ok (.aastore, 1) := by decide +kernel
theorem dX4_init_129 : decode cX4_init 129 = .ok (.iinc 1 1, 3) := by decide +kernel
theorem dX4_init_132 : decode cX4_init 132 = .ok (.goto (-25), 3) := by decide +kernel
theorem dX4_init_135 : decode cX4_init 135 = .ok (.return_, 1) := by decide +kernel
set_option maxRecDepth 20000 in
theorem ggX4_write_X4_put : GoodIn wsX4_write wsX4_put := goodIn_r _ [6] (by decide +kernel) (by decide +kernel)
set_option maxRecDepth 20000 in
theorem gX4_write_X4_put : GoodIn wsX4_write (va_wsS RX4 61 yX4_put wsX4_put) := goodIn_app (goodIn_of _ (by decide +kernel)) ggX4_write_X4_put
theorem dX4_write_0 : decode cX4_write 0 = .ok (.iload_n 1, 1) := by decide +kernel
theorem dX4_write_1 : decode cX4_write 1 = .ok (.ifCond .lt 10, 3) := by decide +kernel
theorem dX4_write_4 : decode cX4_write 4 = .ok (.iload_n 1, 1) := by decide +kernel
theorem dX4_write_5 : decode cX4_write 5 = .ok (.sipush 255, 3) := by decide +kernel
theorem dX4_write_8 : decode cX4_write 8 = .ok (.if_icmp .le 6, 3) := by decide +kernel
theorem dX4_write_11 : decode cX4_write 11 = .ok (.bipush (-2), 2) := by decide +kernel
theorem dX4_write_13 : decode cX4_write 13 = .ok (.ireturn, 1) := by decide +kernel
theorem dX4_write_14 : decode cX4_write 14 = .ok (.aload_n 0, 1) := by decide +kernel
theorem dX4_write_15 : decode cX4_write 15 = .ok (.getfield 57, 3) := by decide +kernel
theorem dX4_write_18 : decode cX4_write 18 = .ok (.bipush 56, 2) := by decide +kernel
theorem dX4_write_20 : decode cX4_write 20 = .ok (.if_icmp .lt 6, 3) := by decide +kernel
theorem dX4_write_23 : decode cX4_write 23 = .ok (.bipush (-4), 2) := by decide +kernel
theorem dX4_write_25 : decode cX4_write 25 = .ok (.ireturn, 1) := by decide +kernel
theorem dX4_write_26 : decode cX4_write 26 = .ok (.aload_n 0, 1) := by decide +kernel
theorem dX4_write_27 : decode cX4_write 27 = .ok (.getfield 9, 3) := by decide +kernel
theorem dX4_write_30 : decode cX4_write 30 = .ok (.aload_n 0, 1) := by decide +kernel
theorem dX4_write_31 : decode cX4_write 31 = .ok (.getfield 57, 3) := by decide +kernel
theorem dX4_write_34 : decode cX4_write 34 = .ok (.iload_n 1, 1) := by decide +kernel
theorem dX4_write_35 : decode cX4_write 35 = .ok (.invokestatic 61, 3) := by decide +kernel
theorem dX4_write_38 : decode cX4_write 38 = .ok (.aload_n 0, 1) := by decide +kernel
theorem dX4_write_39 : decode cX4_write 39 = .ok (.dup, 1) := by decide +kernel
theorem dX4_write_40 : decode cX4_write 40 = .ok (.getfield 57, 3) := by decide +kernel
theorem dX4_write_43 : decode cX4_write 43 = .ok (.iconst 1, 1) := by decide +kernel
theorem dX4_write_44 : decode cX4_write 44 = .ok (.iadd, 1) := by decide +kernel
theorem dX4_write_45 : decode cX4_write 45 = .ok (.putfield 57, 3) := by decide +kernel
theorem dX4_write_48 : decode cX4_write 48 = .ok (.aload_n 0, 1) := by decide +kernel
theorem dX4_write_49 : decode cX4_write 49 = .ok (.getfield 57, 3) := by decide +kernel
theorem dX4_write_52 : decode cX4_write 52 = .ok (.ireturn, 1) := by decide +kernel
theorem dX4_wipe_0 : decode cX4_wipe 0 = .ok (.aload_n 0, 1) := by decide +kernel
theorem dX4_wipe_1 : decode cX4_wipe 1 = .ok (.getfield 57, 3) := by decide +kernel
theorem dX4_wipe_4 : decode cX4_wipe 4 = .ok (.istore_n 1, 1) := by decide +kernel
theorem dX4_wipe_5 : decode cX4_wipe 5 = .ok (.aload_n 0, 1) := by decide +kernel
theorem dX4_wipe_6 : decode cX4_wipe 6 = .ok (.iconst 0, 1) := by decide +kernel
theorem dX4_wipe_7 : decode cX4_wipe 7 = .ok (.putfield 57, 3) := by decide +kernel
theorem dX4_wipe_10 : decode cX4_wipe 10 = .ok (.iload_n 1, 1) := by decide +kernel
theorem dX4_wipe_11 : decode cX4_wipe 11 = .ok (.ireturn, 1) := by decide +kernel
set_option maxRecDepth 20000 in
theorem ggX4_fault_X3_read : GoodIn wsX4_fault wsX3_read := goodIn_r _ [8, 9, 10, 11, 12, 13, 14, 15, 16, 7, 17, 18, 19, 20, 21, 22, 23, 24, 25, 26, 27, 28, 29, 30, 31, 32, 33, 34, 35, 36, 37, 51, 52, 53, 54, 55, 56, 57, 58] (by decide +kernel) (by decide +kernel)
set_option maxRecDepth 20000 in
theorem gX4_fault_X3_read : GoodIn wsX4_fault (wsV RX4 65 RX3 yX3_read wsX3_read) := goodIn_app (goodIn_of _ (by decide +kernel)) ggX4_fault_X3_read
theorem dX4_fault_0 : decode cX4_fault 0 = .ok (.aload_n 0, 1) := by decide +kernel
theorem dX4_fault_1 : decode cX4_fault 1 = .ok (.getfield 20, 3) := by decide +kernel
theorem dX4_fault_4 : decode cX4_fault 4 = .ok (.aload_n 0, 1) := by decide +kernel
theorem dX4_fault_5 : decode cX4_fault 5 = .ok (.getfield 9, 3) := by decide +kernel
theorem dX4_fault_8 : decode cX4_fault 8 = .ok (.aload_n 0, 1) := by decide +kernel
theorem dX4_fault_9 : decode cX4_fault 9 = .ok (.getfield 57, 3) := by decide +kernel
theorem dX4_fault_12 : decode cX4_fault 12 = .ok (.invokevirtual 65, 3) := by decide +kernel
theorem dX4_fault_15 : decode cX4_fault 15 = .ok (.ireturn, 1) := by decide +kernel
set_option maxRecDepth 20000 in
theorem ggX4_concert_X3_read : GoodIn wsX4_concert wsX3_read := goodIn_r _ [14, 15, 16, 17, 18, 19, 20, 21, 22, 13, 23, 24, 25, 26, 27, 28, 29, 30, 31, 32, 33, 34, 35, 36, 37, 38, 39, 40, 41, 42, 43, 85, 86, 87, 88, 89, 90, 91, 92] (by decide +kernel) (by decide +kernel)
set_option maxRecDepth 20000 in
theorem gX4_concert_X3_read : GoodIn wsX4_concert (wsV RX4 65 RX3 yX3_read wsX3_read) := goodIn_app (goodIn_of _ (by decide +kernel)) ggX4_concert_X3_read
set_option maxRecDepth 20000 in
theorem ggX4_concert_X2_begin : GoodIn wsX4_concert wsX2_begin := goodIn_r _ [48, 49, 50, 51, 52, 53, 54, 55, 56, 57, 58, 59, 13, 60, 15, 61, 62, 63, 64, 17, 18, 19, 36, 37, 93, 94, 95, 96, 97, 98, 99, 85, 86, 87, 88, 89, 90, 91, 92] (by decide +kernel) (by decide +kernel)
set_option maxRecDepth 20000 in
theorem gX4_concert_X2_begin : GoodIn wsX4_concert (wsV RX4 69 RX2 yX2_begin wsX2_begin) := goodIn_app (goodIn_of _ (by decide +kernel)) ggX4_concert_X2_begin
set_option maxRecDepth 20000 in
theorem ggX4_concert_X0_clear : GoodIn wsX4_concert wsX0_clear := goodIn_r _ [69, 70, 71, 100, 101, 102] (by decide +kernel) (by decide +kernel)
set_option maxRecDepth 20000 in
theorem gX4_concert_X0_clear : GoodIn wsX4_concert (wsV RX4 73 RX0 yX0_clear wsX0_clear) := goodIn_app (goodIn_of _ (by decide +kernel)) ggX4_concert_X0_clear
theorem dX4_concert_0 : decode cX4_concert 0 = .ok (.aload_n 0, 1) := by decide +kernel
theorem dX4_concert_1 : decode cX4_concert 1 = .ok (.getfield 20, 3) := by decide +kernel
theorem dX4_concert_4 : decode cX4_concert 4 = .ok (.aload_n 0, 1) := by decide +kernel
theorem dX4_concert_5 : decode cX4_concert 5 = .ok (.getfield 9, 3) := by decide +kernel
theorem dX4_concert_8 : decode cX4_concert 8 = .ok (.aload_n 0, 1) := by decide +kernel
theorem dX4_concert_9 : decode cX4_concert 9 = .ok (.getfield 57, 3) := by decide +kernel
theorem dX4_concert_12 : decode cX4_concert 12 = .ok (.invokevirtual 65, 3) := by decide +kernel
theorem dX4_concert_15 : decode cX4_concert 15 = .ok (.bipush (-9), 2) := by decide +kernel
theorem dX4_concert_17 : decode cX4_concert 17 = .ok (.if_icmp .eq 6, 3) := by decide +kernel
theorem dX4_concert_20 : decode cX4_concert 20 = .ok (.bipush (-3), 2) := by decide +kernel
theorem dX4_concert_22 : decode cX4_concert 22 = .ok (.ireturn, 1) := by decide +kernel
theorem dX4_concert_23 : decode cX4_concert 23 = .ok (.aload_n 0, 1) := by decide +kernel
theorem dX4_concert_24 : decode cX4_concert 24 = .ok (.getfield 16, 3) := by decide +kernel
theorem dX4_concert_27 : decode cX4_concert 27 = .ok (.astore_n 1, 1) := by decide +kernel
theorem dX4_concert_28 : decode cX4_concert 28 = .ok (.aload_n 0, 1) := by decide +kernel
theorem dX4_concert_29 : decode cX4_concert 29 = .ok (.aload_n 0, 1) := by decide +kernel
theorem dX4_concert_30 : decode cX4_concert 30 = .ok (.getfield 20, 3) := by decide +kernel
theorem dX4_concert_33 : decode cX4_concert 33 = .ok (.putfield 16, 3) := by decide +kernel
theorem dX4_concert_36 : decode cX4_concert 36 = .ok (.aload_n 0, 1) := by decide +kernel
theorem dX4_concert_37 : decode cX4_concert 37 = .ok (.aload_n 1, 1) := by decide +kernel
theorem dX4_concert_38 : decode cX4_concert 38 = .ok (.putfield 20, 3) := by decide +kernel
theorem dX4_concert_41 : decode cX4_concert 41 = .ok (.aload_n 0, 1) := by decide +kernel
theorem dX4_concert_42 : decode cX4_concert 42 = .ok (.getfield 26, 3) := by decide +kernel
theorem dX4_concert_45 : decode cX4_concert 45 = .ok (.aload_n 0, 1) := by decide +kernel
theorem dX4_concert_46 : decode cX4_concert 46 = .ok (.getfield 16, 3) := by decide +kernel
theorem dX4_concert_49 : decode cX4_concert 49 = .ok (.invokevirtual 69, 3) := by decide +kernel
theorem dX4_concert_52 : decode cX4_concert 52 = .ok (.aload_n 0, 1) := by decide +kernel
theorem dX4_concert_53 : decode cX4_concert 53 = .ok (.getfield 39, 3) := by decide +kernel
theorem dX4_concert_56 : decode cX4_concert 56 = .ok (.invokevirtual 73, 3) := by decide +kernel
theorem dX4_concert_59 : decode cX4_concert 59 = .ok (.aload_n 0, 1) := by decide +kernel
theorem dX4_concert_60 : decode cX4_concert 60 = .ok (.iconst 0, 1) := by decide +kernel
theorem dX4_concert_61 : decode cX4_concert 61 = .ok (.putfield 76, 3) := by decide +kernel
theorem dX4_concert_64 : decode cX4_concert 64 = .ok (.bipush 10, 2) := by decide +kernel
theorem dX4_concert_66 : decode cX4_concert 66 = .ok (.aload_n 0, 1) := by decide +kernel
theorem dX4_concert_67 : decode cX4_concert 67 = .ok (.getfield 16, 3) := by decide +kernel
theorem dX4_concert_70 : decode cX4_concert 70 = .ok (.getfield 79, 3) := by decide +kernel
theorem dX4_concert_73 : decode cX4_concert 73 = .ok (.imul, 1) := by decide +kernel
theorem dX4_concert_74 : decode cX4_concert 74 = .ok (.aload_n 0, 1) := by decide +kernel
theorem dX4_concert_75 : decode cX4_concert 75 = .ok (.getfield 16, 3) := by decide +kernel
theorem dX4_concert_78 : decode cX4_concert 78 = .ok (.getfield 82, 3) := by decide +kernel
theorem dX4_concert_81 : decode cX4_concert 81 = .ok (.iadd, 1) := by decide +kernel
theorem dX4_concert_82 : decode cX4_concert 82 = .ok (.ireturn, 1) := by decide +kernel
set_option maxRecDepth 20000 in
theorem ggX4_player_X3_hasPlayer : GoodIn wsX4_player wsX3_hasPlayer := goodIn_r _ [10, 11, 45, 46, 47, 48, 49, 50, 51, 52] (by decide +kernel) (by decide +kernel)
set_option maxRecDepth 20000 in
theorem gX4_player_X3_hasPlayer : GoodIn wsX4_player (wsV RX4 85 RX3 yX3_hasPlayer wsX3_hasPlayer) := goodIn_app (goodIn_of _ (by decide +kernel)) ggX4_player_X3_hasPlayer
set_option maxRecDepth 20000 in
theorem ggX4_player_X4_at : GoodIn wsX4_player wsX4_at := goodIn_r _ [15] (by decide +kernel) (by decide +kernel)
set_option maxRecDepth 20000 in
theorem gX4_player_X4_at : GoodIn wsX4_player (va_wsS RX4 92 yX4_at wsX4_at) := goodIn_app (goodIn_of _ (by decide +kernel)) ggX4_player_X4_at
set_option maxRecDepth 20000 in
theorem ggX4_player_X2_windOf : GoodIn wsX4_player wsX2_windOf := goodIn_r _ [20, 21, 13, 14, 15, 53, 54, 55, 56, 57, 58, 59] (by decide +kernel) (by decide +kernel)
set_option maxRecDepth 20000 in
theorem gX4_player_X2_windOf : GoodIn wsX4_player (wsV RX4 95 RX2 yX2_windOf wsX2_windOf) := goodIn_app (goodIn_of _ (by decide +kernel)) ggX4_player_X2_windOf
set_option maxRecDepth 20000 in
theorem ggX4_player_X2_isPlaying : GoodIn wsX4_player wsX2_isPlaying := goodIn_r _ [25, 26, 53, 54, 55, 56, 57, 58, 59] (by decide +kernel) (by decide +kernel)
set_option maxRecDepth 20000 in
theorem gX4_player_X2_isPlaying : GoodIn wsX4_player (wsV RX4 105 RX2 yX2_isPlaying wsX2_isPlaying) := goodIn_app (goodIn_of _ (by decide +kernel)) ggX4_player_X2_isPlaying
set_option maxRecDepth 20000 in
theorem ggX4_player_X2_isPaid : GoodIn wsX4_player wsX2_isPaid := goodIn_r _ [30, 31, 53, 54, 55, 56, 57, 58, 59] (by decide +kernel) (by decide +kernel)
set_option maxRecDepth 20000 in
theorem gX4_player_X2_isPaid : GoodIn wsX4_player (wsV RX4 108 RX2 yX2_isPaid wsX2_isPaid) := goodIn_app (goodIn_of _ (by decide +kernel)) ggX4_player_X2_isPaid
theorem dX4_player_0 : decode cX4_player 0 = .ok (.aload_n 0, 1) := by decide +kernel
theorem dX4_player_1 : decode cX4_player 1 = .ok (.getfield 16, 3) := by decide +kernel
theorem dX4_player_4 : decode cX4_player 4 = .ok (.iload_n 1, 1) := by decide +kernel
theorem dX4_player_5 : decode cX4_player 5 = .ok (.invokevirtual 85, 3) := by decide +kernel
theorem dX4_player_8 : decode cX4_player 8 = .ok (.ifCond .ne 5, 3) := by decide +kernel
theorem dX4_player_11 : decode cX4_player 11 = .ok (.iconst (-1), 1) := by decide +kernel
theorem dX4_player_12 : decode cX4_player 12 = .ok (.ireturn, 1) := by decide +kernel
theorem dX4_player_13 : decode cX4_player 13 = .ok (.iload_n 2, 1) := by decide +kernel
theorem dX4_player_14 : decode cX4_player 14 = .ok (.tableswitch 111 0 4 #[34, 46, 55, 67, 79], 34) := by decide +kernel
theorem dX4_player_48 : decode cX4_player 48 = .ok (.aload_n 0, 1) := by decide +kernel
theorem dX4_player_49 : decode cX4_player 49 = .ok (.getfield 16, 3) := by decide +kernel
theorem dX4_player_52 : decode cX4_player 52 = .ok (.getfield 89, 3) := by decide +kernel
theorem dX4_player_55 : decode cX4_player 55 = .ok (.iload_n 1, 1) := by decide +kernel
theorem dX4_player_56 : decode cX4_player 56 = .ok (.invokestatic 92, 3) := by decide +kernel
theorem dX4_player_59 : decode cX4_player 59 = .ok (.ireturn, 1) := by decide +kernel
theorem dX4_player_60 : decode cX4_player 60 = .ok (.aload_n 0, 1) := by decide +kernel
theorem dX4_player_61 : decode cX4_player 61 = .ok (.getfield 26, 3) := by decide +kernel
theorem dX4_player_64 : decode cX4_player 64 = .ok (.iload_n 1, 1) := by decide +kernel
theorem dX4_player_65 : decode cX4_player 65 = .ok (.invokevirtual 95, 3) := by decide +kernel
theorem dX4_player_68 : decode cX4_player 68 = .ok (.ireturn, 1) := by decide +kernel
theorem dX4_player_69 : decode cX4_player 69 = .ok (.aload_n 0, 1) := by decide +kernel
theorem dX4_player_70 : decode cX4_player 70 = .ok (.getfield 16, 3) := by decide +kernel
theorem dX4_player_73 : decode cX4_player 73 = .ok (.getfield 99, 3) := by decide +kernel
theorem dX4_player_76 : decode cX4_player 76 = .ok (.iload_n 1, 1) := by decide +kernel
theorem dX4_player_77 : decode cX4_player 77 = .ok (.invokestatic 92, 3) := by decide +kernel
theorem dX4_player_80 : decode cX4_player 80 = .ok (.ireturn, 1) := by decide +kernel
theorem dX4_player_81 : decode cX4_player 81 = .ok (.aload_n 0, 1) := by decide +kernel
theorem dX4_player_82 : decode cX4_player 82 = .ok (.getfield 16, 3) := by decide +kernel
theorem dX4_player_85 : decode cX4_player 85 = .ok (.getfield 102, 3) := by decide +kernel
theorem dX4_player_88 : decode cX4_player 88 = .ok (.iload_n 1, 1) := by decide +kernel
theorem dX4_player_89 : decode cX4_player 89 = .ok (.invokestatic 92, 3) := by decide +kernel
theorem dX4_player_92 : decode cX4_player 92 = .ok (.ireturn, 1) := by decide +kernel
theorem dX4_player_93 : decode cX4_player 93 = .ok (.aload_n 0, 1) := by decide +kernel
theorem dX4_player_94 : decode cX4_player 94 = .ok (.getfield 26, 3) := by decide +kernel
theorem dX4_player_97 : decode cX4_player 97 = .ok (.iload_n 1, 1) := by decide +kernel
theorem dX4_player_98 : decode cX4_player 98 = .ok (.invokevirtual 105, 3) := by decide +kernel
theorem dX4_player_101 : decode cX4_player 101 = .ok (.ifCond .eq 7, 3) := by decide +kernel
theorem dX4_player_104 : decode cX4_player 104 = .ok (.iconst 0, 1) := by decide +kernel
theorem dX4_player_105 : decode cX4_player 105 = .ok (.goto 19, 3) := by decide +kernel
theorem dX4_player_108 : decode cX4_player 108 = .ok (.aload_n 0, 1) := by decide +kernel
theorem dX4_player_109 : decode cX4_player 109 = .ok (.getfield 26, 3) := by decide +kernel
theorem dX4_player_112 : decode cX4_player 112 = .ok (.iload_n 1, 1) := by decide +kernel
theorem dX4_player_113 : decode cX4_player 113 = .ok (.invokevirtual 108, 3) := by decide +kernel
theorem dX4_player_116 : decode cX4_player 116 = .ok (.ifCond .eq 7, 3) := by decide +kernel
theorem dX4_player_119 : decode cX4_player 119 = .ok (.iconst 1, 1) := by decide +kernel
theorem dX4_player_120 : decode cX4_player 120 = .ok (.goto 4, 3) := by decide +kernel
theorem dX4_player_123 : decode cX4_player 123 = .ok (.iconst 2, 1) := by decide +kernel
theorem dX4_player_124 : decode cX4_player 124 = .ok (.ireturn, 1) := by decide +kernel
theorem dX4_player_125 : decode cX4_player 125 = .ok (.bipush (-2), 2) := by decide +kernel
theorem dX4_player_127 : decode cX4_player 127 = .ok (.ireturn, 1) := by decide +kernel
set_option maxRecDepth 20000 in
theorem ggX4_score_X3_hasBar : GoodIn wsX4_score wsX3_hasBar := goodIn_r _ [9, 10, 34, 35, 36, 37, 38, 39, 40, 41] (by decide +kernel) (by decide +kernel)
set_option maxRecDepth 20000 in
theorem gX4_score_X3_hasBar : GoodIn wsX4_score (wsV RX4 111 RX3 yX3_hasBar wsX3_hasBar) := goodIn_app (goodIn_of _ (by decide +kernel)) ggX4_score_X3_hasBar
set_option maxRecDepth 20000 in
theorem ggX4_score_X4_at : GoodIn wsX4_score wsX4_at := goodIn_r _ [14] (by decide +kernel) (by decide +kernel)
set_option maxRecDepth 20000 in
theorem gX4_score_X4_at : GoodIn wsX4_score (va_wsS RX4 92 yX4_at wsX4_at) := goodIn_app (goodIn_of _ (by decide +kernel)) ggX4_score_X4_at
set_option maxRecDepth 20000 in
theorem ggX4_score_X2_isTaken : GoodIn wsX4_score wsX2_isTaken := goodIn_r _ [19, 20, 42, 43, 44, 45, 46, 47, 48] (by decide +kernel) (by decide +kernel)
set_option maxRecDepth 20000 in
theorem gX4_score_X2_isTaken : GoodIn wsX4_score (wsV RX4 118 RX2 yX2_isTaken wsX2_isTaken) := goodIn_app (goodIn_of _ (by decide +kernel)) ggX4_score_X2_isTaken
theorem dX4_score_0 : decode cX4_score 0 = .ok (.aload_n 0, 1) := by decide +kernel
theorem dX4_score_1 : decode cX4_score 1 = .ok (.getfield 16, 3) := by decide +kernel
theorem dX4_score_4 : decode cX4_score 4 = .ok (.iload_n 1, 1) := by decide +kernel
theorem dX4_score_5 : decode cX4_score 5 = .ok (.invokevirtual 111, 3) := by decide +kernel
theorem dX4_score_8 : decode cX4_score 8 = .ok (.ifCond .ne 5, 3) := by decide +kernel
theorem dX4_score_11 : decode cX4_score 11 = .ok (.iconst (-1), 1) := by decide +kernel
theorem dX4_score_12 : decode cX4_score 12 = .ok (.ireturn, 1) := by decide +kernel
theorem dX4_score_13 : decode cX4_score 13 = .ok (.iload_n 2, 1) := by decide +kernel
theorem dX4_score_14 : decode cX4_score 14 = .ok (.tableswitch 67 0 2 #[26, 38, 50], 26) := by decide +kernel
theorem dX4_score_40 : decode cX4_score 40 = .ok (.aload_n 0, 1) := by decide +kernel
theorem dX4_score_41 : decode cX4_score 41 = .ok (.getfield 16, 3) := by decide +kernel
theorem dX4_score_44 : decode cX4_score 44 = .ok (.getfield 114, 3) := by decide +kernel
theorem dX4_score_47 : decode cX4_score 47 = .ok (.iload_n 1, 1) := by decide +kernel
theorem dX4_score_48 : decode cX4_score 48 = .ok (.invokestatic 92, 3) := by decide +kernel
theorem dX4_score_51 : decode cX4_score 51 = .ok (.ireturn, 1) := by decide +kernel
theorem dX4_score_52 : decode cX4_score 52 = .ok (.aload_n 0, 1) := by decide +kernel
theorem dX4_score_53 : decode cX4_score 53 = .ok (.getfield 16, 3) := by decide +kernel
theorem dX4_score_56 : decode cX4_score 56 = .ok (.getfield 115, 3) := by decide +kernel
theorem dX4_score_59 : decode cX4_score 59 = .ok (.iload_n 1, 1) := by decide +kernel
theorem dX4_score_60 : decode cX4_score 60 = .ok (.invokestatic 92, 3) := by decide +kernel
theorem dX4_score_63 : decode cX4_score 63 = .ok (.ireturn, 1) := by decide +kernel
theorem dX4_score_64 : decode cX4_score 64 = .ok (.aload_n 0, 1) := by decide +kernel
theorem dX4_score_65 : decode cX4_score 65 = .ok (.getfield 26, 3) := by decide +kernel
theorem dX4_score_68 : decode cX4_score 68 = .ok (.iload_n 1, 1) := by decide +kernel
theorem dX4_score_69 : decode cX4_score 69 = .ok (.invokevirtual 118, 3) := by decide +kernel
theorem dX4_score_72 : decode cX4_score 72 = .ok (.ifCond .eq 7, 3) := by decide +kernel
theorem dX4_score_75 : decode cX4_score 75 = .ok (.iconst 1, 1) := by decide +kernel
theorem dX4_score_76 : decode cX4_score 76 = .ok (.goto 4, 3) := by decide +kernel
theorem dX4_score_79 : decode cX4_score 79 = .ok (.iconst 0, 1) := by decide +kernel
theorem dX4_score_80 : decode cX4_score 80 = .ok (.ireturn, 1) := by decide +kernel
theorem dX4_score_81 : decode cX4_score 81 = .ok (.bipush (-2), 2) := by decide +kernel
theorem dX4_score_83 : decode cX4_score 83 = .ok (.ireturn, 1) := by decide +kernel
set_option maxRecDepth 20000 in
theorem ggX4_bar_X2_become : GoodIn wsX4_bar wsX2_become := goodIn_r _ [9, 10, 11, 12, 13, 14, 15, 16, 17, 18, 19, 20, 21, 130, 131, 132, 133, 134, 135, 136] (by decide +kernel) (by decide +kernel)
set_option maxRecDepth 20000 in
theorem gX4_bar_X2_become : GoodIn wsX4_bar (wsV RX4 121 RX2 yX2_become wsX2_become) := goodIn_app (goodIn_of _ (by decide +kernel)) ggX4_bar_X2_become
set_option maxRecDepth 20000 in
theorem ggX4_bar_X2_playBar : GoodIn wsX4_bar wsX2_playBar := goodIn_r _ [25, 15, 26, 27, 28, 8, 29, 10, 12, 30, 31, 32, 33, 34, 35, 36, 37, 38, 39, 40, 41, 16, 17, 18, 19, 42, 43, 44, 45, 46, 47, 48, 49, 20, 21, 50, 51, 52, 53, 54, 55, 56, 57, 58, 59, 60, 61, 62, 63, 64, 65, 66, 67, 68, 69, 70, 71, 72, 73, 74, 75, 76, 77, 78, 79, 80, 11, 81, 82, 83, 84, 85, 13, 86, 87, 88, 89, 90, 91, 92, 93, 94, 130, 131, 132, 133, 134, 135, 136, 137, 138, 139, 140, 141, 142, 143, 144] (by decide +kernel) (by decide +kernel)
set_option maxRecDepth 20000 in
theorem gX4_bar_X2_playBar : GoodIn wsX4_bar (wsV RX4 125 RX2 yX2_playBar wsX2_playBar) := goodIn_app (goodIn_of _ (by decide +kernel)) ggX4_bar_X2_playBar
set_option maxRecDepth 20000 in
theorem ggX4_bar_X0_add : GoodIn wsX4_bar wsX0_add := goodIn_r _ [99, 100, 101, 102, 103, 18, 104, 105, 6, 7, 8, 9, 10, 11, 12, 13, 14, 15, 16, 17, 19, 20, 21, 145, 146, 147, 130, 131, 132, 133, 134, 135, 136] (by decide +kernel) (by decide +kernel)
set_option maxRecDepth 20000 in
theorem gX4_bar_X0_add : GoodIn wsX4_bar (wsV RX4 129 RX0 yX0_add wsX0_add) := goodIn_app (goodIn_of _ (by decide +kernel)) ggX4_bar_X0_add
set_option maxRecDepth 20000 in
theorem ggX4_bar_X2_howManyPlay : GoodIn wsX4_bar wsX2_howManyPlay := goodIn_r _ [109, 10, 110, 111, 112, 113, 114, 115, 116, 130, 131, 132, 133, 134, 135, 136] (by decide +kernel) (by decide +kernel)
set_option maxRecDepth 20000 in
theorem gX4_bar_X2_howManyPlay : GoodIn wsX4_bar (wsV RX4 132 RX2 yX2_howManyPlay wsX2_howManyPlay) := goodIn_app (goodIn_of _ (by decide +kernel)) ggX4_bar_X2_howManyPlay
theorem dX4_bar_0 : decode cX4_bar 0 = .ok (.aload_n 0, 1) := by decide +kernel
theorem dX4_bar_1 : decode cX4_bar 1 = .ok (.getfield 30, 3) := by decide +kernel
theorem dX4_bar_4 : decode cX4_bar 4 = .ok (.aload_n 0, 1) := by decide +kernel
theorem dX4_bar_5 : decode cX4_bar 5 = .ok (.getfield 26, 3) := by decide +kernel
theorem dX4_bar_8 : decode cX4_bar 8 = .ok (.invokevirtual 121, 3) := by decide +kernel
theorem dX4_bar_11 : decode cX4_bar 11 = .ok (.aload_n 0, 1) := by decide +kernel
theorem dX4_bar_12 : decode cX4_bar 12 = .ok (.getfield 26, 3) := by decide +kernel
theorem dX4_bar_15 : decode cX4_bar 15 = .ok (.aload_n 0, 1) := by decide +kernel
theorem dX4_bar_16 : decode cX4_bar 16 = .ok (.getfield 16, 3) := by decide +kernel
theorem dX4_bar_19 : decode cX4_bar 19 = .ok (.invokevirtual 125, 3) := by decide +kernel
theorem dX4_bar_22 : decode cX4_bar 22 = .ok (.ifCond .ne 6, 3) := by decide +kernel
theorem dX4_bar_25 : decode cX4_bar 25 = .ok (.bipush (-3), 2) := by decide +kernel
theorem dX4_bar_27 : decode cX4_bar 27 = .ok (.ireturn, 1) := by decide +kernel
theorem dX4_bar_28 : decode cX4_bar 28 = .ok (.aload_n 0, 1) := by decide +kernel
theorem dX4_bar_29 : decode cX4_bar 29 = .ok (.getfield 39, 3) := by decide +kernel
theorem dX4_bar_32 : decode cX4_bar 32 = .ok (.aload_n 0, 1) := by decide +kernel
theorem dX4_bar_33 : decode cX4_bar 33 = .ok (.getfield 30, 3) := by decide +kernel
theorem dX4_bar_36 : decode cX4_bar 36 = .ok (.invokevirtual 129, 3) := by decide +kernel
theorem dX4_bar_39 : decode cX4_bar 39 = .ok (.aload_n 0, 1) := by decide +kernel
theorem dX4_bar_40 : decode cX4_bar 40 = .ok (.getfield 26, 3) := by decide +kernel
theorem dX4_bar_43 : decode cX4_bar 43 = .ok (.invokevirtual 132, 3) := by decide +kernel
theorem dX4_bar_46 : decode cX4_bar 46 = .ok (.ireturn, 1) := by decide +kernel
set_option maxRecDepth 20000 in
theorem ggX4_give_X2_become : GoodIn wsX4_give wsX2_become := goodIn_r _ [9, 10, 11, 12, 13, 14, 15, 16, 17, 18, 19, 20, 21, 54, 55, 56, 57, 58, 59, 60] (by decide +kernel) (by decide +kernel)
set_option maxRecDepth 20000 in
theorem gX4_give_X2_become : GoodIn wsX4_give (wsV RX4 121 RX2 yX2_become wsX2_become) := goodIn_app (goodIn_of _ (by decide +kernel)) ggX4_give_X2_become
set_option maxRecDepth 20000 in
theorem ggX4_give_X2_takeGift : GoodIn wsX4_give wsX2_takeGift := goodIn_r _ [25, 14, 26, 27, 28, 29, 54, 55, 56, 57, 58, 59, 60] (by decide +kernel) (by decide +kernel)
set_option maxRecDepth 20000 in
theorem gX4_give_X2_takeGift : GoodIn wsX4_give (wsV RX4 136 RX2 yX2_takeGift wsX2_takeGift) := goodIn_app (goodIn_of _ (by decide +kernel)) ggX4_give_X2_takeGift
set_option maxRecDepth 20000 in
theorem ggX4_give_X0_add : GoodIn wsX4_give wsX0_add := goodIn_r _ [34, 35, 36, 37, 38, 18, 39, 40, 6, 7, 8, 9, 10, 11, 12, 13, 14, 15, 16, 17, 19, 20, 21, 61, 62, 63, 54, 55, 56, 57, 58, 59, 60] (by decide +kernel) (by decide +kernel)
set_option maxRecDepth 20000 in
theorem gX4_give_X0_add : GoodIn wsX4_give (wsV RX4 129 RX0 yX0_add wsX0_add) := goodIn_app (goodIn_of _ (by decide +kernel)) ggX4_give_X0_add
theorem dX4_give_0 : decode cX4_give 0 = .ok (.aload_n 0, 1) := by decide +kernel
theorem dX4_give_1 : decode cX4_give 1 = .ok (.getfield 30, 3) := by decide +kernel
theorem dX4_give_4 : decode cX4_give 4 = .ok (.aload_n 0, 1) := by decide +kernel
theorem dX4_give_5 : decode cX4_give 5 = .ok (.getfield 26, 3) := by decide +kernel
theorem dX4_give_8 : decode cX4_give 8 = .ok (.invokevirtual 121, 3) := by decide +kernel
theorem dX4_give_11 : decode cX4_give 11 = .ok (.aload_n 0, 1) := by decide +kernel
theorem dX4_give_12 : decode cX4_give 12 = .ok (.getfield 26, 3) := by decide +kernel
theorem dX4_give_15 : decode cX4_give 15 = .ok (.iload_n 1, 1) := by decide +kernel
theorem dX4_give_16 : decode cX4_give 16 = .ok (.invokevirtual 136, 3) := by decide +kernel
theorem dX4_give_19 : decode cX4_give 19 = .ok (.ifCond .ne 6, 3) := by decide +kernel
theorem dX4_give_22 : decode cX4_give 22 = .ok (.bipush (-2), 2) := by decide +kernel
theorem dX4_give_24 : decode cX4_give 24 = .ok (.ireturn, 1) := by decide +kernel
theorem dX4_give_25 : decode cX4_give 25 = .ok (.aload_n 0, 1) := by decide +kernel
theorem dX4_give_26 : decode cX4_give 26 = .ok (.getfield 39, 3) := by decide +kernel
theorem dX4_give_29 : decode cX4_give 29 = .ok (.aload_n 0, 1) := by decide +kernel
theorem dX4_give_30 : decode cX4_give 30 = .ok (.getfield 30, 3) := by decide +kernel
theorem dX4_give_33 : decode cX4_give 33 = .ok (.invokevirtual 129, 3) := by decide +kernel
theorem dX4_give_36 : decode cX4_give 36 = .ok (.aload_n 0, 1) := by decide +kernel
theorem dX4_give_37 : decode cX4_give 37 = .ok (.getfield 26, 3) := by decide +kernel
theorem dX4_give_40 : decode cX4_give 40 = .ok (.getfield 139, 3) := by decide +kernel
theorem dX4_give_43 : decode cX4_give 43 = .ok (.ireturn, 1) := by decide +kernel
set_option maxRecDepth 20000 in
theorem ggX4_pay_X3_hasPlayer : GoodIn wsX4_pay wsX3_hasPlayer := goodIn_r _ [10, 11, 74, 75, 76, 77, 78, 79, 80, 81] (by decide +kernel) (by decide +kernel)
set_option maxRecDepth 20000 in
theorem gX4_pay_X3_hasPlayer : GoodIn wsX4_pay (wsV RX4 85 RX3 yX3_hasPlayer wsX3_hasPlayer) := goodIn_app (goodIn_of _ (by decide +kernel)) ggX4_pay_X3_hasPlayer
set_option maxRecDepth 20000 in
theorem ggX4_pay_X2_become : GoodIn wsX4_pay wsX2_become := goodIn_r _ [16, 17, 18, 19, 20, 21, 22, 23, 24, 25, 26, 27, 28, 67, 68, 69, 70, 71, 72, 73] (by decide +kernel) (by decide +kernel)
set_option maxRecDepth 20000 in
theorem gX4_pay_X2_become : GoodIn wsX4_pay (wsV RX4 121 RX2 yX2_become wsX2_become) := goodIn_app (goodIn_of _ (by decide +kernel)) ggX4_pay_X2_become
set_option maxRecDepth 20000 in
theorem ggX4_pay_X2_payFromHat : GoodIn wsX4_pay wsX2_payFromHat := goodIn_r _ [32, 21, 33, 34, 7, 8, 9, 10, 11, 35, 36, 37, 15, 38, 17, 24, 25, 26, 39, 40, 41, 42, 18, 67, 68, 69, 70, 71, 72, 73, 74, 75, 76, 77, 78, 79, 80, 81] (by decide +kernel) (by decide +kernel)
set_option maxRecDepth 20000 in
theorem gX4_pay_X2_payFromHat : GoodIn wsX4_pay (wsV RX4 142 RX2 yX2_payFromHat wsX2_payFromHat) := goodIn_app (goodIn_of _ (by decide +kernel)) ggX4_pay_X2_payFromHat
set_option maxRecDepth 20000 in
theorem ggX4_pay_X0_add : GoodIn wsX4_pay wsX0_add := goodIn_r _ [47, 48, 49, 50, 51, 25, 52, 53, 13, 14, 15, 16, 17, 18, 19, 20, 21, 22, 23, 24, 26, 27, 28, 82, 83, 84, 67, 68, 69, 70, 71, 72, 73] (by decide +kernel) (by decide +kernel)
set_option maxRecDepth 20000 in
theorem gX4_pay_X0_add : GoodIn wsX4_pay (wsV RX4 129 RX0 yX0_add wsX0_add) := goodIn_app (goodIn_of _ (by decide +kernel)) ggX4_pay_X0_add
theorem dX4_pay_0 : decode cX4_pay 0 = .ok (.aload_n 0, 1) := by decide +kernel
theorem dX4_pay_1 : decode cX4_pay 1 = .ok (.getfield 16, 3) := by decide +kernel
theorem dX4_pay_4 : decode cX4_pay 4 = .ok (.iload_n 1, 1) := by decide +kernel
theorem dX4_pay_5 : decode cX4_pay 5 = .ok (.invokevirtual 85, 3) := by decide +kernel
theorem dX4_pay_8 : decode cX4_pay 8 = .ok (.ifCond .ne 5, 3) := by decide +kernel
theorem dX4_pay_11 : decode cX4_pay 11 = .ok (.iconst (-1), 1) := by decide +kernel
theorem dX4_pay_12 : decode cX4_pay 12 = .ok (.ireturn, 1) := by decide +kernel
theorem dX4_pay_13 : decode cX4_pay 13 = .ok (.aload_n 0, 1) := by decide +kernel
theorem dX4_pay_14 : decode cX4_pay 14 = .ok (.getfield 30, 3) := by decide +kernel
theorem dX4_pay_17 : decode cX4_pay 17 = .ok (.aload_n 0, 1) := by decide +kernel
theorem dX4_pay_18 : decode cX4_pay 18 = .ok (.getfield 26, 3) := by decide +kernel
theorem dX4_pay_21 : decode cX4_pay 21 = .ok (.invokevirtual 121, 3) := by decide +kernel
theorem dX4_pay_24 : decode cX4_pay 24 = .ok (.aload_n 0, 1) := by decide +kernel
theorem dX4_pay_25 : decode cX4_pay 25 = .ok (.getfield 26, 3) := by decide +kernel
theorem dX4_pay_28 : decode cX4_pay 28 = .ok (.aload_n 0, 1) := by decide +kernel
theorem dX4_pay_29 : decode cX4_pay 29 = .ok (.getfield 16, 3) := by decide +kernel
theorem dX4_pay_32 : decode cX4_pay 32 = .ok (.iload_n 1, 1) := by decide +kernel
theorem dX4_pay_33 : decode cX4_pay 33 = .ok (.invokevirtual 142, 3) := by decide +kernel
theorem dX4_pay_36 : decode cX4_pay 36 = .ok (.ifCond .ne 6, 3) := by decide +kernel
theorem dX4_pay_39 : decode cX4_pay 39 = .ok (.bipush (-3), 2) := by decide +kernel
theorem dX4_pay_41 : decode cX4_pay 41 = .ok (.ireturn, 1) := by decide +kernel
theorem dX4_pay_42 : decode cX4_pay 42 = .ok (.aload_n 0, 1) := by decide +kernel
theorem dX4_pay_43 : decode cX4_pay 43 = .ok (.getfield 39, 3) := by decide +kernel
theorem dX4_pay_46 : decode cX4_pay 46 = .ok (.aload_n 0, 1) := by decide +kernel
theorem dX4_pay_47 : decode cX4_pay 47 = .ok (.getfield 30, 3) := by decide +kernel
theorem dX4_pay_50 : decode cX4_pay 50 = .ok (.invokevirtual 129, 3) := by decide +kernel
theorem dX4_pay_53 : decode cX4_pay 53 = .ok (.aload_n 0, 1) := by decide +kernel
theorem dX4_pay_54 : decode cX4_pay 54 = .ok (.getfield 26, 3) := by decide +kernel
theorem dX4_pay_57 : decode cX4_pay 57 = .ok (.getfield 139, 3) := by decide +kernel
theorem dX4_pay_60 : decode cX4_pay 60 = .ok (.ireturn, 1) := by decide +kernel
set_option maxRecDepth 20000 in
theorem ggX4_rest_X3_hasPlayer : GoodIn wsX4_rest wsX3_hasPlayer := goodIn_r _ [9, 10, 74, 75, 76, 77, 78, 79, 80, 81] (by decide +kernel) (by decide +kernel)
set_option maxRecDepth 20000 in
theorem gX4_rest_X3_hasPlayer : GoodIn wsX4_rest (wsV RX4 85 RX3 yX3_hasPlayer wsX3_hasPlayer) := goodIn_app (goodIn_of _ (by decide +kernel)) ggX4_rest_X3_hasPlayer
set_option maxRecDepth 20000 in
theorem ggX4_rest_X2_become : GoodIn wsX4_rest wsX2_become := goodIn_r _ [15, 16, 17, 18, 19, 20, 21, 22, 23, 24, 25, 26, 27, 82, 83, 84, 85, 86, 87, 88] (by decide +kernel) (by decide +kernel)
set_option maxRecDepth 20000 in
theorem gX4_rest_X2_become : GoodIn wsX4_rest (wsV RX4 121 RX2 yX2_become wsX2_become) := goodIn_app (goodIn_of _ (by decide +kernel)) ggX4_rest_X2_become
set_option maxRecDepth 20000 in
theorem ggX4_rest_X2_restPlayer : GoodIn wsX4_rest wsX2_restPlayer := goodIn_r _ [31, 32, 22, 16, 33, 6, 7, 8, 9, 10, 34, 35, 36, 14, 37, 38, 39, 40, 41, 42, 43, 44, 45, 17, 23, 24, 25, 26, 27, 74, 75, 76, 77, 78, 79, 80, 81, 82, 83, 84, 85, 86, 87, 88] (by decide +kernel) (by decide +kernel)
set_option maxRecDepth 20000 in
theorem gX4_rest_X2_restPlayer : GoodIn wsX4_rest (wsV RX4 146 RX2 yX2_restPlayer wsX2_restPlayer) := goodIn_app (goodIn_of _ (by decide +kernel)) ggX4_rest_X2_restPlayer
set_option maxRecDepth 20000 in
theorem ggX4_rest_X0_add : GoodIn wsX4_rest wsX0_add := goodIn_r _ [50, 51, 52, 53, 54, 24, 55, 56, 12, 13, 14, 15, 16, 17, 18, 19, 20, 21, 22, 23, 25, 26, 27, 89, 90, 91, 82, 83, 84, 85, 86, 87, 88] (by decide +kernel) (by decide +kernel)
set_option maxRecDepth 20000 in
theorem gX4_rest_X0_add : GoodIn wsX4_rest (wsV RX4 129 RX0 yX0_add wsX0_add) := goodIn_app (goodIn_of _ (by decide +kernel)) ggX4_rest_X0_add
set_option maxRecDepth 20000 in
theorem ggX4_rest_X2_windOf : GoodIn wsX4_rest wsX2_windOf := goodIn_r _ [60, 22, 23, 24, 25, 82, 83, 84, 85, 86, 87, 88] (by decide +kernel) (by decide +kernel)
set_option maxRecDepth 20000 in
theorem gX4_rest_X2_windOf : GoodIn wsX4_rest (wsV RX4 95 RX2 yX2_windOf wsX2_windOf) := goodIn_app (goodIn_of _ (by decide +kernel)) ggX4_rest_X2_windOf
theorem dX4_rest_0 : decode cX4_rest 0 = .ok (.aload_n 0, 1) := by decide +kernel
theorem dX4_rest_1 : decode cX4_rest 1 = .ok (.getfield 16, 3) := by decide +kernel
theorem dX4_rest_4 : decode cX4_rest 4 = .ok (.iload_n 1, 1) := by decide +kernel
theorem dX4_rest_5 : decode cX4_rest 5 = .ok (.invokevirtual 85, 3) := by decide +kernel
theorem dX4_rest_8 : decode cX4_rest 8 = .ok (.ifCond .ne 5, 3) := by decide +kernel
theorem dX4_rest_11 : decode cX4_rest 11 = .ok (.iconst (-1), 1) := by decide +kernel
theorem dX4_rest_12 : decode cX4_rest 12 = .ok (.ireturn, 1) := by decide +kernel
theorem dX4_rest_13 : decode cX4_rest 13 = .ok (.aload_n 0, 1) := by decide +kernel
theorem dX4_rest_14 : decode cX4_rest 14 = .ok (.getfield 30, 3) := by decide +kernel
theorem dX4_rest_17 : decode cX4_rest 17 = .ok (.aload_n 0, 1) := by decide +kernel
theorem dX4_rest_18 : decode cX4_rest 18 = .ok (.getfield 26, 3) := by decide +kernel
theorem dX4_rest_21 : decode cX4_rest 21 = .ok (.invokevirtual 121, 3) := by decide +kernel
theorem dX4_rest_24 : decode cX4_rest 24 = .ok (.aload_n 0, 1) := by decide +kernel
theorem dX4_rest_25 : decode cX4_rest 25 = .ok (.getfield 26, 3) := by decide +kernel
theorem dX4_rest_28 : decode cX4_rest 28 = .ok (.aload_n 0, 1) := by decide +kernel
theorem dX4_rest_29 : decode cX4_rest 29 = .ok (.getfield 16, 3) := by decide +kernel
theorem dX4_rest_32 : decode cX4_rest 32 = .ok (.iload_n 1, 1) := by decide +kernel
theorem dX4_rest_33 : decode cX4_rest 33 = .ok (.invokevirtual 146, 3) := by decide +kernel
theorem dX4_rest_36 : decode cX4_rest 36 = .ok (.ifCond .ne 6, 3) := by decide +kernel
theorem dX4_rest_39 : decode cX4_rest 39 = .ok (.bipush (-3), 2) := by decide +kernel
theorem dX4_rest_41 : decode cX4_rest 41 = .ok (.ireturn, 1) := by decide +kernel
theorem dX4_rest_42 : decode cX4_rest 42 = .ok (.aload_n 0, 1) := by decide +kernel
theorem dX4_rest_43 : decode cX4_rest 43 = .ok (.getfield 39, 3) := by decide +kernel
theorem dX4_rest_46 : decode cX4_rest 46 = .ok (.aload_n 0, 1) := by decide +kernel
theorem dX4_rest_47 : decode cX4_rest 47 = .ok (.getfield 30, 3) := by decide +kernel
theorem dX4_rest_50 : decode cX4_rest 50 = .ok (.invokevirtual 129, 3) := by decide +kernel
theorem dX4_rest_53 : decode cX4_rest 53 = .ok (.aload_n 0, 1) := by decide +kernel
theorem dX4_rest_54 : decode cX4_rest 54 = .ok (.getfield 26, 3) := by decide +kernel
theorem dX4_rest_57 : decode cX4_rest 57 = .ok (.iload_n 1, 1) := by decide +kernel
theorem dX4_rest_58 : decode cX4_rest 58 = .ok (.invokevirtual 95, 3) := by decide +kernel
theorem dX4_rest_61 : decode cX4_rest 61 = .ok (.ireturn, 1) := by decide +kernel
set_option maxRecDepth 20000 in
theorem ggX4_encore_X2_become : GoodIn wsX4_encore wsX2_become := goodIn_r _ [9, 10, 11, 12, 13, 14, 15, 16, 17, 18, 19, 20, 21, 62, 63, 64, 65, 66, 67, 68] (by decide +kernel) (by decide +kernel)
set_option maxRecDepth 20000 in
theorem gX4_encore_X2_become : GoodIn wsX4_encore (wsV RX4 121 RX2 yX2_become wsX2_become) := goodIn_app (goodIn_of _ (by decide +kernel)) ggX4_encore_X2_become
set_option maxRecDepth 20000 in
theorem ggX4_encore_X2_beginAgain : GoodIn wsX4_encore wsX2_beginAgain := goodIn_r _ [25, 26, 12, 13, 69, 70, 71, 72, 73, 74, 75, 76, 62, 63, 64, 65, 66, 67, 68] (by decide +kernel) (by decide +kernel)
set_option maxRecDepth 20000 in
theorem gX4_encore_X2_beginAgain : GoodIn wsX4_encore (wsV RX4 149 RX2 yX2_beginAgain wsX2_beginAgain) := goodIn_app (goodIn_of _ (by decide +kernel)) ggX4_encore_X2_beginAgain
set_option maxRecDepth 20000 in
theorem ggX4_encore_X0_add : GoodIn wsX4_encore wsX0_add := goodIn_r _ [31, 32, 33, 34, 35, 18, 36, 37, 6, 7, 8, 9, 10, 11, 12, 13, 14, 15, 16, 17, 19, 20, 21, 77, 78, 79, 62, 63, 64, 65, 66, 67, 68] (by decide +kernel) (by decide +kernel)
set_option maxRecDepth 20000 in
theorem gX4_encore_X0_add : GoodIn wsX4_encore (wsV RX4 129 RX0 yX0_add wsX0_add) := goodIn_app (goodIn_of _ (by decide +kernel)) ggX4_encore_X0_add
set_option maxRecDepth 20000 in
theorem ggX4_encore_X2_howManyPlay : GoodIn wsX4_encore wsX2_howManyPlay := goodIn_r _ [41, 10, 42, 43, 44, 45, 46, 47, 48, 62, 63, 64, 65, 66, 67, 68] (by decide +kernel) (by decide +kernel)
set_option maxRecDepth 20000 in
theorem gX4_encore_X2_howManyPlay : GoodIn wsX4_encore (wsV RX4 132 RX2 yX2_howManyPlay wsX2_howManyPlay) := goodIn_app (goodIn_of _ (by decide +kernel)) ggX4_encore_X2_howManyPlay
theorem dX4_encore_0 : decode cX4_encore 0 = .ok (.aload_n 0, 1) := by decide +kernel
theorem dX4_encore_1 : decode cX4_encore 1 = .ok (.getfield 30, 3) := by decide +kernel
theorem dX4_encore_4 : decode cX4_encore 4 = .ok (.aload_n 0, 1) := by decide +kernel
theorem dX4_encore_5 : decode cX4_encore 5 = .ok (.getfield 26, 3) := by decide +kernel
theorem dX4_encore_8 : decode cX4_encore 8 = .ok (.invokevirtual 121, 3) := by decide +kernel
theorem dX4_encore_11 : decode cX4_encore 11 = .ok (.aload_n 0, 1) := by decide +kernel
theorem dX4_encore_12 : decode cX4_encore 12 = .ok (.getfield 26, 3) := by decide +kernel
theorem dX4_encore_15 : decode cX4_encore 15 = .ok (.aload_n 0, 1) := by decide +kernel
theorem dX4_encore_16 : decode cX4_encore 16 = .ok (.getfield 16, 3) := by decide +kernel
theorem dX4_encore_19 : decode cX4_encore 19 = .ok (.invokevirtual 149, 3) := by decide +kernel
theorem dX4_encore_22 : decode cX4_encore 22 = .ok (.ifCond .ne 6, 3) := by decide +kernel
theorem dX4_encore_25 : decode cX4_encore 25 = .ok (.bipush (-3), 2) := by decide +kernel
theorem dX4_encore_27 : decode cX4_encore 27 = .ok (.ireturn, 1) := by decide +kernel
theorem dX4_encore_28 : decode cX4_encore 28 = .ok (.aload_n 0, 1) := by decide +kernel
theorem dX4_encore_29 : decode cX4_encore 29 = .ok (.getfield 39, 3) := by decide +kernel
theorem dX4_encore_32 : decode cX4_encore 32 = .ok (.aload_n 0, 1) := by decide +kernel
theorem dX4_encore_33 : decode cX4_encore 33 = .ok (.getfield 30, 3) := by decide +kernel
theorem dX4_encore_36 : decode cX4_encore 36 = .ok (.invokevirtual 129, 3) := by decide +kernel
theorem dX4_encore_39 : decode cX4_encore 39 = .ok (.aload_n 0, 1) := by decide +kernel
theorem dX4_encore_40 : decode cX4_encore 40 = .ok (.getfield 26, 3) := by decide +kernel
theorem dX4_encore_43 : decode cX4_encore 43 = .ok (.invokevirtual 132, 3) := by decide +kernel
theorem dX4_encore_46 : decode cX4_encore 46 = .ok (.ireturn, 1) := by decide +kernel
set_option maxRecDepth 20000 in
theorem ggX4_undo_X0_takeLast : GoodIn wsX4_undo wsX0_takeLast := goodIn_r _ [8, 9, 10, 11, 12, 13, 14, 15, 16, 17, 18, 19, 20, 21, 22, 23, 24, 25, 26, 27, 28, 29, 30, 44, 45, 46, 47, 48, 49, 50, 51, 52, 53] (by decide +kernel) (by decide +kernel)
set_option maxRecDepth 20000 in
theorem gX4_undo_X0_takeLast : GoodIn wsX4_undo (wsV RX4 152 RX0 yX0_takeLast wsX0_takeLast) := goodIn_app (goodIn_of _ (by decide +kernel)) ggX4_undo_X0_takeLast
theorem dX4_undo_0 : decode cX4_undo 0 = .ok (.aload_n 0, 1) := by decide +kernel
theorem dX4_undo_1 : decode cX4_undo 1 = .ok (.getfield 39, 3) := by decide +kernel
theorem dX4_undo_4 : decode cX4_undo 4 = .ok (.aload_n 0, 1) := by decide +kernel
theorem dX4_undo_5 : decode cX4_undo 5 = .ok (.getfield 26, 3) := by decide +kernel
theorem dX4_undo_8 : decode cX4_undo 8 = .ok (.invokevirtual 152, 3) := by decide +kernel
theorem dX4_undo_11 : decode cX4_undo 11 = .ok (.ifCond .ne 6, 3) := by decide +kernel
theorem dX4_undo_14 : decode cX4_undo 14 = .ok (.bipush (-3), 2) := by decide +kernel
theorem dX4_undo_16 : decode cX4_undo 16 = .ok (.ireturn, 1) := by decide +kernel
theorem dX4_undo_17 : decode cX4_undo 17 = .ok (.aload_n 0, 1) := by decide +kernel
theorem dX4_undo_18 : decode cX4_undo 18 = .ok (.getfield 39, 3) := by decide +kernel
theorem dX4_undo_21 : decode cX4_undo 21 = .ok (.getfield 156, 3) := by decide +kernel
theorem dX4_undo_24 : decode cX4_undo 24 = .ok (.ireturn, 1) := by decide +kernel
set_option maxRecDepth 20000 in
theorem ggX4_later_X2_become : GoodIn wsX4_later wsX2_become := goodIn_r _ [9, 10, 11, 12, 13, 14, 15, 16, 17, 18, 19, 20, 21, 116, 117, 118, 119, 120, 121, 122] (by decide +kernel) (by decide +kernel)
set_option maxRecDepth 20000 in
theorem gX4_later_X2_become : GoodIn wsX4_later (wsV RX4 121 RX2 yX2_become wsX2_become) := goodIn_app (goodIn_of _ (by decide +kernel)) ggX4_later_X2_become
set_option maxRecDepth 20000 in
theorem ggX4_later_X2_playBars : GoodIn wsX4_later wsX2_playBars := goodIn_r _ [25, 26, 27, 28, 8, 29, 15, 30, 31, 32, 33, 10, 12, 34, 35, 36, 37, 38, 39, 40, 41, 42, 43, 44, 45, 16, 17, 18, 19, 46, 47, 48, 49, 50, 51, 52, 53, 20, 21, 54, 55, 56, 57, 58, 59, 60, 61, 62, 63, 64, 65, 66, 67, 68, 69, 70, 71, 72, 73, 74, 75, 76, 77, 78, 79, 80, 81, 82, 83, 84, 11, 85, 86, 87, 88, 89, 13, 90, 91, 92, 93, 94, 95, 96, 97, 98, 116, 117, 118, 119, 120, 121, 122, 123, 124, 125, 126, 127, 128, 129, 130] (by decide +kernel) (by decide +kernel)
set_option maxRecDepth 20000 in
theorem gX4_later_X2_playBars : GoodIn wsX4_later (wsV RX4 159 RX2 yX2_playBars wsX2_playBars) := goodIn_app (goodIn_of _ (by decide +kernel)) ggX4_later_X2_playBars
set_option maxRecDepth 20000 in
theorem ggX4_later_X2_barToCome : GoodIn wsX4_later wsX2_barToCome := goodIn_r _ [102, 12, 30, 31, 32, 8, 33, 10, 34, 116, 117, 118, 119, 120, 121, 122, 123, 124, 125, 126, 127, 128, 129, 130] (by decide +kernel) (by decide +kernel)
set_option maxRecDepth 20000 in
theorem gX4_later_X2_barToCome : GoodIn wsX4_later (wsV RX4 166 RX2 yX2_barToCome wsX2_barToCome) := goodIn_app (goodIn_of _ (by decide +kernel)) ggX4_later_X2_barToCome
theorem dX4_later_0 : decode cX4_later 0 = .ok (.iload_n 1, 1) := by decide +kernel
theorem dX4_later_1 : decode cX4_later 1 = .ok (.ifCond .lt 18, 3) := by decide +kernel
theorem dX4_later_4 : decode cX4_later 4 = .ok (.iload_n 1, 1) := by decide +kernel
theorem dX4_later_5 : decode cX4_later 5 = .ok (.bipush 30, 2) := by decide +kernel
theorem dX4_later_7 : decode cX4_later 7 = .ok (.if_icmp .gt 12, 3) := by decide +kernel
theorem dX4_later_10 : decode cX4_later 10 = .ok (.iload_n 2, 1) := by decide +kernel
theorem dX4_later_11 : decode cX4_later 11 = .ok (.ifCond .lt 8, 3) := by decide +kernel
theorem dX4_later_14 : decode cX4_later 14 = .ok (.iload_n 2, 1) := by decide +kernel
theorem dX4_later_15 : decode cX4_later 15 = .ok (.iconst 1, 1) := by decide +kernel
theorem dX4_later_16 : decode cX4_later 16 = .ok (.if_icmp .le 6, 3) := by decide +kernel
theorem dX4_later_19 : decode cX4_later 19 = .ok (.bipush (-2), 2) := by decide +kernel
theorem dX4_later_21 : decode cX4_later 21 = .ok (.ireturn, 1) := by decide +kernel
theorem dX4_later_22 : decode cX4_later 22 = .ok (.aload_n 0, 1) := by decide +kernel
theorem dX4_later_23 : decode cX4_later 23 = .ok (.getfield 33, 3) := by decide +kernel
theorem dX4_later_26 : decode cX4_later 26 = .ok (.aload_n 0, 1) := by decide +kernel
theorem dX4_later_27 : decode cX4_later 27 = .ok (.getfield 26, 3) := by decide +kernel
theorem dX4_later_30 : decode cX4_later 30 = .ok (.invokevirtual 121, 3) := by decide +kernel
theorem dX4_later_33 : decode cX4_later 33 = .ok (.aload_n 0, 1) := by decide +kernel
theorem dX4_later_34 : decode cX4_later 34 = .ok (.getfield 33, 3) := by decide +kernel
theorem dX4_later_37 : decode cX4_later 37 = .ok (.aload_n 0, 1) := by decide +kernel
theorem dX4_later_38 : decode cX4_later 38 = .ok (.getfield 16, 3) := by decide +kernel
theorem dX4_later_41 : decode cX4_later 41 = .ok (.iload_n 1, 1) := by decide +kernel
theorem dX4_later_42 : decode cX4_later 42 = .ok (.invokevirtual 159, 3) := by decide +kernel
theorem dX4_later_45 : decode cX4_later 45 = .ok (.iload_n 2, 1) := by decide +kernel
theorem dX4_later_46 : decode cX4_later 46 = .ok (.ifCond .ne 13, 3) := by decide +kernel
theorem dX4_later_49 : decode cX4_later 49 = .ok (.aload_n 0, 1) := by decide +kernel
theorem dX4_later_50 : decode cX4_later 50 = .ok (.getfield 33, 3) := by decide +kernel
theorem dX4_later_53 : decode cX4_later 53 = .ok (.getfield 163, 3) := by decide +kernel
theorem dX4_later_56 : decode cX4_later 56 = .ok (.goto 14, 3) := by decide +kernel
theorem dX4_later_59 : decode cX4_later 59 = .ok (.aload_n 0, 1) := by decide +kernel
theorem dX4_later_60 : decode cX4_later 60 = .ok (.getfield 33, 3) := by decide +kernel
theorem dX4_later_63 : decode cX4_later 63 = .ok (.aload_n 0, 1) := by decide +kernel
theorem dX4_later_64 : decode cX4_later 64 = .ok (.getfield 16, 3) := by decide +kernel
theorem dX4_later_67 : decode cX4_later 67 = .ok (.invokevirtual 166, 3) := by decide +kernel
theorem dX4_later_70 : decode cX4_later 70 = .ok (.ireturn, 1) := by decide +kernel
set_option maxRecDepth 20000 in
theorem ggX4_stops_X2_become : GoodIn wsX4_stops wsX2_become := goodIn_r _ [8, 9, 10, 11, 12, 13, 14, 15, 16, 17, 18, 19, 20, 107, 108, 109, 110, 111, 112, 113] (by decide +kernel) (by decide +kernel)
set_option maxRecDepth 20000 in
theorem gX4_stops_X2_become : GoodIn wsX4_stops (wsV RX4 121 RX2 yX2_become wsX2_become) := goodIn_app (goodIn_of _ (by decide +kernel)) ggX4_stops_X2_become
set_option maxRecDepth 20000 in
theorem ggX4_stops_X2_playBar : GoodIn wsX4_stops wsX2_playBar := goodIn_r _ [24, 14, 25, 26, 27, 7, 28, 9, 11, 29, 30, 31, 32, 33, 34, 35, 36, 37, 38, 39, 40, 15, 16, 17, 18, 41, 42, 43, 44, 45, 46, 47, 48, 19, 20, 49, 50, 51, 52, 53, 54, 55, 56, 57, 58, 59, 60, 61, 62, 63, 64, 65, 66, 67, 68, 69, 70, 71, 72, 73, 74, 75, 76, 77, 78, 79, 10, 80, 81, 82, 83, 84, 12, 85, 86, 87, 88, 89, 90, 91, 92, 93, 107, 108, 109, 110, 111, 112, 113, 114, 115, 116, 117, 118, 119, 120, 121] (by decide +kernel) (by decide +kernel)
set_option maxRecDepth 20000 in
theorem gX4_stops_X2_playBar : GoodIn wsX4_stops (wsV RX4 125 RX2 yX2_playBar wsX2_playBar) := goodIn_app (goodIn_of _ (by decide +kernel)) ggX4_stops_X2_playBar
theorem dX4_stops_0 : decode cX4_stops 0 = .ok (.aload_n 0, 1) := by decide +kernel
theorem dX4_stops_1 : decode cX4_stops 1 = .ok (.getfield 33, 3) := by decide +kernel
theorem dX4_stops_4 : decode cX4_stops 4 = .ok (.aload_n 0, 1) := by decide +kernel
theorem dX4_stops_5 : decode cX4_stops 5 = .ok (.getfield 26, 3) := by decide +kernel
theorem dX4_stops_8 : decode cX4_stops 8 = .ok (.invokevirtual 121, 3) := by decide +kernel
theorem dX4_stops_11 : decode cX4_stops 11 = .ok (.iconst 0, 1) := by decide +kernel
theorem dX4_stops_12 : decode cX4_stops 12 = .ok (.istore_n 1, 1) := by decide +kernel
theorem dX4_stops_13 : decode cX4_stops 13 = .ok (.iload_n 1, 1) := by decide +kernel
theorem dX4_stops_14 : decode cX4_stops 14 = .ok (.bipush 30, 2) := by decide +kernel
theorem dX4_stops_16 : decode cX4_stops 16 = .ok (.if_icmp .gt 25, 3) := by decide +kernel
theorem dX4_stops_19 : decode cX4_stops 19 = .ok (.aload_n 0, 1) := by decide +kernel
theorem dX4_stops_20 : decode cX4_stops 20 = .ok (.getfield 33, 3) := by decide +kernel
theorem dX4_stops_23 : decode cX4_stops 23 = .ok (.aload_n 0, 1) := by decide +kernel
theorem dX4_stops_24 : decode cX4_stops 24 = .ok (.getfield 16, 3) := by decide +kernel
theorem dX4_stops_27 : decode cX4_stops 27 = .ok (.invokevirtual 125, 3) := by decide +kernel
theorem dX4_stops_30 : decode cX4_stops 30 = .ok (.ifCond .ne 5, 3) := by decide +kernel
theorem dX4_stops_33 : decode cX4_stops 33 = .ok (.iload_n 1, 1) := by decide +kernel
theorem dX4_stops_34 : decode cX4_stops 34 = .ok (.ireturn, 1) := by decide +kernel
theorem dX4_stops_35 : decode cX4_stops 35 = .ok (.iinc 1 1, 3) := by decide +kernel
theorem dX4_stops_38 : decode cX4_stops 38 = .ok (.goto (-25), 3) := by decide +kernel
theorem dX4_stops_41 : decode cX4_stops 41 = .ok (.bipush (-9), 2) := by decide +kernel
theorem dX4_stops_43 : decode cX4_stops 43 = .ok (.ireturn, 1) := by decide +kernel
set_option maxRecDepth 20000 in
theorem ggX4_hush_X4_cheapestHush : GoodIn wsX4_hush wsX4_cheapestHush := goodIn_r _ [6, 7, 8, 1, 9, 10, 11, 12, 13, 14, 15, 16, 17, 18, 19, 20, 21, 22, 23, 24, 25, 26, 5, 27, 28, 29, 30, 31, 32, 33, 34, 35, 36, 37, 38, 39, 40, 41, 42, 43, 44, 45, 46, 47, 48, 49, 50, 51, 52, 53, 54, 55, 56, 57, 58, 59, 60, 61, 62, 63, 64, 65, 66, 67, 68, 69, 70, 71, 72, 73, 74, 75, 76, 77, 78, 79, 80, 81, 82, 83, 84, 85, 86, 87, 88, 89, 90, 91, 92, 93, 94, 95, 96, 97, 98, 99, 100, 101, 102, 103, 104, 105, 106, 107, 108, 109, 110, 111, 112, 113, 114, 115, 116, 117, 118, 119, 120, 121, 122, 123, 124, 125, 126, 127, 128, 129, 130, 131, 132, 133, 134, 136, 137, 138, 139, 140, 141, 142, 143, 144, 145, 146, 147, 148, 149, 150, 151, 152, 153, 154, 155, 156, 157, 158, 159, 160, 161, 162, 163] (by decide +kernel) (by decide +kernel)
set_option maxRecDepth 20000 in
theorem gX4_hush_X4_cheapestHush : GoodIn wsX4_hush (wsV RX4 170 RX4 yX4_cheapestHush wsX4_cheapestHush) := goodIn_app (goodIn_of _ (by decide +kernel)) ggX4_hush_X4_cheapestHush
set_option maxRecDepth 20000 in
theorem ggX4_hush_X3_priceOf : GoodIn wsX4_hush wsX3_priceOf := goodIn_r _ [23, 24, 25, 26, 5, 27, 156, 157, 158, 159, 160, 161, 162, 163] (by decide +kernel) (by decide +kernel)
set_option maxRecDepth 20000 in
theorem gX4_hush_X3_priceOf : GoodIn wsX4_hush (wsV RX4 173 RX3 yX3_priceOf wsX3_priceOf) := goodIn_app (goodIn_of _ (by decide +kernel)) ggX4_hush_X3_priceOf
theorem dX4_hush_0 : decode cX4_hush 0 = .ok (.iload_n 1, 1) := by decide +kernel
theorem dX4_hush_1 : decode cX4_hush 1 = .ok (.ifCond .lt 18, 3) := by decide +kernel
theorem dX4_hush_4 : decode cX4_hush 4 = .ok (.iload_n 1, 1) := by decide +kernel
theorem dX4_hush_5 : decode cX4_hush 5 = .ok (.bipush 9, 2) := by decide +kernel
theorem dX4_hush_7 : decode cX4_hush 7 = .ok (.if_icmp .gt 12, 3) := by decide +kernel
theorem dX4_hush_10 : decode cX4_hush 10 = .ok (.iload_n 2, 1) := by decide +kernel
theorem dX4_hush_11 : decode cX4_hush 11 = .ok (.ifCond .lt 8, 3) := by decide +kernel
theorem dX4_hush_14 : decode cX4_hush 14 = .ok (.iload_n 2, 1) := by decide +kernel
theorem dX4_hush_15 : decode cX4_hush 15 = .ok (.iconst 1, 1) := by decide +kernel
theorem dX4_hush_16 : decode cX4_hush 16 = .ok (.if_icmp .le 6, 3) := by decide +kernel
theorem dX4_hush_19 : decode cX4_hush 19 = .ok (.bipush (-2), 2) := by decide +kernel
theorem dX4_hush_21 : decode cX4_hush 21 = .ok (.ireturn, 1) := by decide +kernel
theorem dX4_hush_22 : decode cX4_hush 22 = .ok (.aload_n 0, 1) := by decide +kernel
theorem dX4_hush_23 : decode cX4_hush 23 = .ok (.iload_n 1, 1) := by decide +kernel
theorem dX4_hush_24 : decode cX4_hush 24 = .ok (.invokevirtual 170, 3) := by decide +kernel
theorem dX4_hush_27 : decode cX4_hush 27 = .ok (.istore_n 3, 1) := by decide +kernel
theorem dX4_hush_28 : decode cX4_hush 28 = .ok (.iload_n 2, 1) := by decide +kernel
theorem dX4_hush_29 : decode cX4_hush 29 = .ok (.ifCond .ne 14, 3) := by decide +kernel
theorem dX4_hush_32 : decode cX4_hush 32 = .ok (.aload_n 0, 1) := by decide +kernel
theorem dX4_hush_33 : decode cX4_hush 33 = .ok (.getfield 16, 3) := by decide +kernel
theorem dX4_hush_36 : decode cX4_hush 36 = .ok (.iload_n 3, 1) := by decide +kernel
theorem dX4_hush_37 : decode cX4_hush 37 = .ok (.invokevirtual 173, 3) := by decide +kernel
theorem dX4_hush_40 : decode cX4_hush 40 = .ok (.goto 4, 3) := by decide +kernel
theorem dX4_hush_43 : decode cX4_hush 43 = .ok (.iload_n 3, 1) := by decide +kernel
theorem dX4_hush_44 : decode cX4_hush 44 = .ok (.ireturn, 1) := by decide +kernel
set_option maxRecDepth 20000 in
theorem ggX4_loud_X2_become : GoodIn wsX4_loud wsX2_become := goodIn_r _ [8, 9, 10, 11, 12, 13, 14, 15, 16, 17, 18, 19, 20, 127, 128, 129, 130, 131, 132, 133] (by decide +kernel) (by decide +kernel)
set_option maxRecDepth 20000 in
theorem gX4_loud_X2_become : GoodIn wsX4_loud (wsV RX4 121 RX2 yX2_become wsX2_become) := goodIn_app (goodIn_of _ (by decide +kernel)) ggX4_loud_X2_become
set_option maxRecDepth 20000 in
theorem ggX4_loud_X2_restPlayer : GoodIn wsX4_loud wsX2_restPlayer := goodIn_r _ [24, 25, 15, 9, 26, 27, 28, 29, 30, 31, 32, 33, 34, 7, 35, 36, 37, 38, 39, 40, 41, 42, 43, 10, 16, 17, 18, 19, 20, 134, 135, 136, 137, 138, 139, 140, 141, 127, 128, 129, 130, 131, 132, 133] (by decide +kernel) (by decide +kernel)
set_option maxRecDepth 20000 in
theorem gX4_loud_X2_restPlayer : GoodIn wsX4_loud (wsV RX4 146 RX2 yX2_restPlayer wsX2_restPlayer) := goodIn_app (goodIn_of _ (by decide +kernel)) ggX4_loud_X2_restPlayer
set_option maxRecDepth 20000 in
theorem ggX4_loud_X2_playNoise : GoodIn wsX4_loud wsX2_playNoise := goodIn_r _ [47, 48, 11, 49, 50, 51, 7, 52, 9, 53, 16, 17, 18, 54, 55, 56, 57, 58, 59, 60, 61, 62, 63, 64, 65, 66, 67, 68, 14, 69, 70, 71, 72, 73, 74, 75, 76, 77, 78, 15, 36, 37, 38, 39, 79, 80, 81, 82, 19, 20, 83, 84, 85, 86, 87, 88, 89, 90, 91, 26, 27, 28, 29, 30, 31, 92, 93, 94, 95, 96, 97, 98, 99, 32, 33, 34, 35, 40, 41, 42, 43, 10, 100, 101, 102, 103, 104, 12, 105, 106, 107, 108, 109, 110, 111, 112, 113, 134, 135, 136, 137, 138, 139, 140, 141, 127, 128, 129, 130, 131, 132, 133] (by decide +kernel) (by decide +kernel)
set_option maxRecDepth 20000 in
theorem gX4_loud_X2_playNoise : GoodIn wsX4_loud (wsV RX4 176 RX2 yX2_playNoise wsX2_playNoise) := goodIn_app (goodIn_of _ (by decide +kernel)) ggX4_loud_X2_playNoise
theorem dX4_loud_0 : decode cX4_loud 0 = .ok (.iload_n 1, 1) := by decide +kernel
theorem dX4_loud_1 : decode cX4_loud 1 = .ok (.iconst 1, 1) := by decide +kernel
theorem dX4_loud_2 : decode cX4_loud 2 = .ok (.if_icmp .lt 18, 3) := by decide +kernel
theorem dX4_loud_5 : decode cX4_loud 5 = .ok (.iload_n 1, 1) := by decide +kernel
theorem dX4_loud_6 : decode cX4_loud 6 = .ok (.bipush 12, 2) := by decide +kernel
theorem dX4_loud_8 : decode cX4_loud 8 = .ok (.if_icmp .gt 12, 3) := by decide +kernel
theorem dX4_loud_11 : decode cX4_loud 11 = .ok (.iload_n 2, 1) := by decide +kernel
theorem dX4_loud_12 : decode cX4_loud 12 = .ok (.ifCond .lt 8, 3) := by decide +kernel
theorem dX4_loud_15 : decode cX4_loud 15 = .ok (.iload_n 2, 1) := by decide +kernel
theorem dX4_loud_16 : decode cX4_loud 16 = .ok (.iconst 1, 1) := by decide +kernel
theorem dX4_loud_17 : decode cX4_loud 17 = .ok (.if_icmp .le 6, 3) := by decide +kernel
theorem dX4_loud_20 : decode cX4_loud 20 = .ok (.bipush (-2), 2) := by decide +kernel
theorem dX4_loud_22 : decode cX4_loud 22 = .ok (.ireturn, 1) := by decide +kernel
theorem dX4_loud_23 : decode cX4_loud 23 = .ok (.bipush 6, 2) := by decide +kernel
theorem dX4_loud_25 : decode cX4_loud 25 = .ok (.istore_n 3, 1) := by decide +kernel
theorem dX4_loud_26 : decode cX4_loud 26 = .ok (.iconst (-1), 1) := by decide +kernel
theorem dX4_loud_27 : decode cX4_loud 27 = .ok (.istore 4, 2) := by decide +kernel
theorem dX4_loud_29 : decode cX4_loud 29 = .ok (.iconst 0, 1) := by decide +kernel
theorem dX4_loud_30 : decode cX4_loud 30 = .ok (.istore 5, 2) := by decide +kernel
theorem dX4_loud_32 : decode cX4_loud 32 = .ok (.iload 5, 2) := by decide +kernel
theorem dX4_loud_34 : decode cX4_loud 34 = .ok (.bipush 6, 2) := by decide +kernel
theorem dX4_loud_36 : decode cX4_loud 36 = .ok (.if_icmp .gt 71, 3) := by decide +kernel
theorem dX4_loud_39 : decode cX4_loud 39 = .ok (.aload_n 0, 1) := by decide +kernel
theorem dX4_loud_40 : decode cX4_loud 40 = .ok (.getfield 33, 3) := by decide +kernel
theorem dX4_loud_43 : decode cX4_loud 43 = .ok (.aload_n 0, 1) := by decide +kernel
theorem dX4_loud_44 : decode cX4_loud 44 = .ok (.getfield 26, 3) := by decide +kernel
theorem dX4_loud_47 : decode cX4_loud 47 = .ok (.invokevirtual 121, 3) := by decide +kernel
theorem dX4_loud_50 : decode cX4_loud 50 = .ok (.iload 5, 2) := by decide +kernel
theorem dX4_loud_52 : decode cX4_loud 52 = .ok (.bipush 6, 2) := by decide +kernel
theorem dX4_loud_54 : decode cX4_loud 54 = .ok (.if_icmp .eq 19, 3) := by decide +kernel
theorem dX4_loud_57 : decode cX4_loud 57 = .ok (.aload_n 0, 1) := by decide +kernel
theorem dX4_loud_58 : decode cX4_loud 58 = .ok (.getfield 33, 3) := by decide +kernel
theorem dX4_loud_61 : decode cX4_loud 61 = .ok (.aload_n 0, 1) := by decide +kernel
theorem dX4_loud_62 : decode cX4_loud 62 = .ok (.getfield 16, 3) := by decide +kernel
theorem dX4_loud_65 : decode cX4_loud 65 = .ok (.iload 5, 2) := by decide +kernel
theorem dX4_loud_67 : decode cX4_loud 67 = .ok (.invokevirtual 146, 3) := by decide +kernel
theorem dX4_loud_70 : decode cX4_loud 70 = .ok (.ifCond .eq 31, 3) := by decide +kernel
theorem dX4_loud_73 : decode cX4_loud 73 = .ok (.aload_n 0, 1) := by decide +kernel
theorem dX4_loud_74 : decode cX4_loud 74 = .ok (.getfield 33, 3) := by decide +kernel
theorem dX4_loud_77 : decode cX4_loud 77 = .ok (.aload_n 0, 1) := by decide +kernel
theorem dX4_loud_78 : decode cX4_loud 78 = .ok (.getfield 16, 3) := by decide +kernel
theorem dX4_loud_81 : decode cX4_loud 81 = .ok (.iload_n 1, 1) := by decide +kernel
theorem dX4_loud_82 : decode cX4_loud 82 = .ok (.invokevirtual 176, 3) := by decide +kernel
theorem dX4_loud_85 : decode cX4_loud 85 = .ok (.istore 6, 2) := by decide +kernel
theorem dX4_loud_87 : decode cX4_loud 87 = .ok (.iload 6, 2) := by decide +kernel
theorem dX4_loud_89 : decode cX4_loud 89 = .ok (.iload 4, 2) := by decide +kernel
theorem dX4_loud_91 : decode cX4_loud 91 = .ok (.if_icmp .le 10, 3) := by decide +kernel
theorem dX4_loud_94 : decode cX4_loud 94 = .ok (.iload 6, 2) := by decide +kernel
theorem dX4_loud_96 : decode cX4_loud 96 = .ok (.istore 4, 2) := by decide +kernel
theorem dX4_loud_98 : decode cX4_loud 98 = .ok (.iload 5, 2) := by decide +kernel
theorem dX4_loud_100 : decode cX4_loud 100 = .ok (.istore_n 3, 1) := by decide +kernel
theorem dX4_loud_101 : decode cX4_loud 101 = .ok (.iinc 5 1, 3) := by decide +kernel
theorem dX4_loud_104 : decode cX4_loud 104 = .ok (.goto (-72), 3) := by decide +kernel
theorem dX4_loud_107 : decode cX4_loud 107 = .ok (.iload_n 2, 1) := by decide +kernel
theorem dX4_loud_108 : decode cX4_loud 108 = .ok (.ifCond .ne 7, 3) := by decide +kernel
theorem dX4_loud_111 : decode cX4_loud 111 = .ok (.iload_n 3, 1) := by decide +kernel
theorem dX4_loud_112 : decode cX4_loud 112 = .ok (.goto 5, 3) := by decide +kernel
theorem dX4_loud_115 : decode cX4_loud 115 = .ok (.iload 4, 2) := by decide +kernel
theorem dX4_loud_117 : decode cX4_loud 117 = .ok (.ireturn, 1) := by decide +kernel
set_option maxRecDepth 20000 in
theorem ggX4_judge_X2_become : GoodIn wsX4_judge wsX2_become := goodIn_r _ [9, 10, 11, 12, 13, 14, 15, 16, 17, 18, 19, 20, 21, 133, 134, 135, 136, 137, 138, 139] (by decide +kernel) (by decide +kernel)
set_option maxRecDepth 20000 in
theorem gX4_judge_X2_become : GoodIn wsX4_judge (wsV RX4 121 RX2 yX2_become wsX2_become) := goodIn_app (goodIn_of _ (by decide +kernel)) ggX4_judge_X2_become
set_option maxRecDepth 20000 in
theorem ggX4_judge_X2_doIfItCanBe : GoodIn wsX4_judge wsX2_doIfItCanBe := goodIn_r _ [25, 14, 26, 27, 28, 8, 29, 15, 30, 31, 32, 33, 10, 12, 34, 35, 36, 37, 38, 39, 40, 41, 42, 43, 44, 45, 16, 17, 18, 19, 46, 47, 48, 49, 50, 51, 52, 53, 20, 21, 54, 55, 56, 57, 58, 59, 60, 61, 62, 63, 64, 65, 66, 67, 68, 69, 70, 71, 72, 73, 74, 75, 76, 77, 78, 79, 80, 81, 82, 83, 84, 11, 85, 86, 87, 88, 89, 13, 90, 91, 92, 93, 94, 95, 96, 97, 98, 99, 100, 101, 102, 103, 104, 105, 106, 107, 108, 109, 110, 111, 112, 113, 114, 115, 116, 117, 118, 119, 133, 134, 135, 136, 137, 138, 139, 140, 141, 142, 143, 144, 145, 146, 147] (by decide +kernel) (by decide +kernel)
set_option maxRecDepth 20000 in
theorem gX4_judge_X2_doIfItCanBe : GoodIn wsX4_judge (wsV RX4 182 RX2 yX2_doIfItCanBe wsX2_doIfItCanBe) := goodIn_app (goodIn_of _ (by decide +kernel)) ggX4_judge_X2_doIfItCanBe
theorem dX4_judge_0 : decode cX4_judge 0 = .ok (.iload_n 1, 1) := by decide +kernel
theorem dX4_judge_1 : decode cX4_judge 1 = .ok (.iconst 1, 1) := by decide +kernel
theorem dX4_judge_2 : decode cX4_judge 2 = .ok (.if_icmp .lt 8, 3) := by decide +kernel
theorem dX4_judge_5 : decode cX4_judge 5 = .ok (.iload_n 1, 1) := by decide +kernel
theorem dX4_judge_6 : decode cX4_judge 6 = .ok (.iconst 4, 1) := by decide +kernel
theorem dX4_judge_7 : decode cX4_judge 7 = .ok (.if_icmp .le 6, 3) := by decide +kernel
theorem dX4_judge_10 : decode cX4_judge 10 = .ok (.bipush (-2), 2) := by decide +kernel
theorem dX4_judge_12 : decode cX4_judge 12 = .ok (.ireturn, 1) := by decide +kernel
theorem dX4_judge_13 : decode cX4_judge 13 = .ok (.lconst 1, 1) := by decide +kernel
theorem dX4_judge_14 : decode cX4_judge 14 = .ok (.lstore 4, 2) := by decide +kernel
theorem dX4_judge_16 : decode cX4_judge 16 = .ok (.iconst 0, 1) := by decide +kernel
theorem dX4_judge_17 : decode cX4_judge 17 = .ok (.istore 6, 2) := by decide +kernel
theorem dX4_judge_19 : decode cX4_judge 19 = .ok (.iload 6, 2) := by decide +kernel
theorem dX4_judge_21 : decode cX4_judge 21 = .ok (.iload_n 1, 1) := by decide +kernel
theorem dX4_judge_22 : decode cX4_judge 22 = .ok (.if_icmp .ge 17, 3) := by decide +kernel
theorem dX4_judge_25 : decode cX4_judge 25 = .ok (.lload 4, 2) := by decide +kernel
theorem dX4_judge_27 : decode cX4_judge 27 = .ok (.ldc2_w 180, 3) := by decide +kernel
theorem dX4_judge_30 : decode cX4_judge 30 = .ok (.lmul, 1) := by decide +kernel
theorem dX4_judge_31 : decode cX4_judge 31 = .ok (.lstore 4, 2) := by decide +kernel
theorem dX4_judge_33 : decode cX4_judge 33 = .ok (.iinc 6 1, 3) := by decide +kernel
theorem dX4_judge_36 : decode cX4_judge 36 = .ok (.goto (-17), 3) := by decide +kernel
theorem dX4_judge_39 : decode cX4_judge 39 = .ok (.lload_n 2, 1) := by decide +kernel
theorem dX4_judge_40 : decode cX4_judge 40 = .ok (.lconst 0, 1) := by decide +kernel
theorem dX4_judge_41 : decode cX4_judge 41 = .ok (.lcmp, 1) := by decide +kernel
theorem dX4_judge_42 : decode cX4_judge 42 = .ok (.ifCond .lt 10, 3) := by decide +kernel
theorem dX4_judge_45 : decode cX4_judge 45 = .ok (.lload_n 2, 1) := by decide +kernel
theorem dX4_judge_46 : decode cX4_judge 46 = .ok (.lload 4, 2) := by decide +kernel
theorem dX4_judge_48 : decode cX4_judge 48 = .ok (.lcmp, 1) := by decide +kernel
theorem dX4_judge_49 : decode cX4_judge 49 = .ok (.ifCond .lt 6, 3) := by decide +kernel
theorem dX4_judge_52 : decode cX4_judge 52 = .ok (.bipush (-2), 2) := by decide +kernel
theorem dX4_judge_54 : decode cX4_judge 54 = .ok (.ireturn, 1) := by decide +kernel
theorem dX4_judge_55 : decode cX4_judge 55 = .ok (.aload_n 0, 1) := by decide +kernel
theorem dX4_judge_56 : decode cX4_judge 56 = .ok (.getfield 33, 3) := by decide +kernel
theorem dX4_judge_59 : decode cX4_judge 59 = .ok (.aload_n 0, 1) := by decide +kernel
theorem dX4_judge_60 : decode cX4_judge 60 = .ok (.getfield 26, 3) := by decide +kernel
theorem dX4_judge_63 : decode cX4_judge 63 = .ok (.invokevirtual 121, 3) := by decide +kernel
theorem dX4_judge_66 : decode cX4_judge 66 = .ok (.iconst 0, 1) := by decide +kernel
theorem dX4_judge_67 : decode cX4_judge 67 = .ok (.istore 6, 2) := by decide +kernel
theorem dX4_judge_69 : decode cX4_judge 69 = .ok (.iload 6, 2) := by decide +kernel
theorem dX4_judge_71 : decode cX4_judge 71 = .ok (.iload_n 1, 1) := by decide +kernel
theorem dX4_judge_72 : decode cX4_judge 72 = .ok (.if_icmp .ge 50, 3) := by decide +kernel
theorem dX4_judge_75 : decode cX4_judge 75 = .ok (.lload 4, 2) := by decide +kernel
theorem dX4_judge_77 : decode cX4_judge 77 = .ok (.ldc2_w 180, 3) := by decide +kernel
theorem dX4_judge_80 : decode cX4_judge 80 = .ok (.ldiv, 1) := by decide +kernel
theorem dX4_judge_81 : decode cX4_judge 81 = .ok (.lstore 4, 2) := by decide +kernel
theorem dX4_judge_83 : decode cX4_judge 83 = .ok (.lload 4, 2) := by decide +kernel
theorem dX4_judge_85 : decode cX4_judge 85 = .ok (.lconst 1, 1) := by decide +kernel
theorem dX4_judge_86 : decode cX4_judge 86 = .ok (.lcmp, 1) := by decide +kernel
theorem dX4_judge_87 : decode cX4_judge 87 = .ok (.ifCond .lt 26, 3) := by decide +kernel
theorem dX4_judge_90 : decode cX4_judge 90 = .ok (.aload_n 0, 1) := by decide +kernel
theorem dX4_judge_91 : decode cX4_judge 91 = .ok (.getfield 33, 3) := by decide +kernel
theorem dX4_judge_94 : decode cX4_judge 94 = .ok (.aload_n 0, 1) := by decide +kernel
theorem dX4_judge_95 : decode cX4_judge 95 = .ok (.getfield 16, 3) := by decide +kernel
theorem dX4_judge_98 : decode cX4_judge 98 = .ok (.lload_n 2, 1) := by decide +kernel
theorem dX4_judge_99 : decode cX4_judge 99 = .ok (.lload 4, 2) := by decide +kernel
theorem dX4_judge_101 : decode cX4_judge 101 = .ok (.ldiv, 1) := by decide +kernel
theorem dX4_judge_102 : decode cX4_judge 102 = .ok (.ldc2_w 180, 3) := by decide +kernel
theorem dX4_judge_105 : decode cX4_judge 105 = .ok (.lrem, 1) := by decide +kernel
theorem dX4_judge_106 : decode cX4_judge 106 = .ok (.l2i, 1) := by decide +kernel
theorem dX4_judge_107 : decode cX4_judge 107 = .ok (.invokevirtual 182, 3) := by decide +kernel
theorem dX4_judge_110 : decode cX4_judge 110 = .ok (.ifCond .ne 6, 3) := by decide +kernel
theorem dX4_judge_113 : decode cX4_judge 113 = .ok (.iload 6, 2) := by decide +kernel
theorem dX4_judge_115 : decode cX4_judge 115 = .ok (.ireturn, 1) := by decide +kernel
theorem dX4_judge_116 : decode cX4_judge 116 = .ok (.iinc 6 1, 3) := by decide +kernel
theorem dX4_judge_119 : decode cX4_judge 119 = .ok (.goto (-50), 3) := by decide +kernel
theorem dX4_judge_122 : decode cX4_judge 122 = .ok (.bipush (-9), 2) := by decide +kernel
theorem dX4_judge_124 : decode cX4_judge 124 = .ok (.ireturn, 1) := by decide +kernel
set_option maxRecDepth 20000 in
theorem ggX4_hear_X3_hasPlayer : GoodIn wsX4_hear wsX3_hasPlayer := goodIn_r _ [8, 9, 39, 40, 41, 42, 43, 44, 45, 46] (by decide +kernel) (by decide +kernel)
set_option maxRecDepth 20000 in
theorem gX4_hear_X3_hasPlayer : GoodIn wsX4_hear (wsV RX4 85 RX3 yX3_hasPlayer wsX3_hasPlayer) := goodIn_app (goodIn_of _ (by decide +kernel)) ggX4_hear_X3_hasPlayer
set_option maxRecDepth 20000 in
theorem ggX4_hear_X1_add : GoodIn wsX4_hear wsX1_add := goodIn_r _ [14, 15, 16, 17, 18, 19, 20, 21, 35, 36, 37, 38] (by decide +kernel) (by decide +kernel)
set_option maxRecDepth 20000 in
theorem gX4_hear_X1_add : GoodIn wsX4_hear (wsV RX4 186 RX1 yX1_add wsX1_add) := goodIn_app (goodIn_of _ (by decide +kernel)) ggX4_hear_X1_add
theorem dX4_hear_0 : decode cX4_hear 0 = .ok (.aload_n 0, 1) := by decide +kernel
theorem dX4_hear_1 : decode cX4_hear 1 = .ok (.getfield 16, 3) := by decide +kernel
theorem dX4_hear_4 : decode cX4_hear 4 = .ok (.iload_n 1, 1) := by decide +kernel
theorem dX4_hear_5 : decode cX4_hear 5 = .ok (.invokevirtual 85, 3) := by decide +kernel
theorem dX4_hear_8 : decode cX4_hear 8 = .ok (.ifCond .ne 5, 3) := by decide +kernel
theorem dX4_hear_11 : decode cX4_hear 11 = .ok (.iconst (-1), 1) := by decide +kernel
theorem dX4_hear_12 : decode cX4_hear 12 = .ok (.ireturn, 1) := by decide +kernel
theorem dX4_hear_13 : decode cX4_hear 13 = .ok (.iload_n 2, 1) := by decide +kernel
theorem dX4_hear_14 : decode cX4_hear 14 = .ok (.ifCond .lt 18, 3) := by decide +kernel
theorem dX4_hear_17 : decode cX4_hear 17 = .ok (.iload_n 2, 1) := by decide +kernel
theorem dX4_hear_18 : decode cX4_hear 18 = .ok (.bipush 9, 2) := by decide +kernel
theorem dX4_hear_20 : decode cX4_hear 20 = .ok (.if_icmp .gt 12, 3) := by decide +kernel
theorem dX4_hear_23 : decode cX4_hear 23 = .ok (.iload_n 3, 1) := by decide +kernel
theorem dX4_hear_24 : decode cX4_hear 24 = .ok (.ifCond .lt 8, 3) := by decide +kernel
theorem dX4_hear_27 : decode cX4_hear 27 = .ok (.iload_n 3, 1) := by decide +kernel
theorem dX4_hear_28 : decode cX4_hear 28 = .ok (.iconst 1, 1) := by decide +kernel
theorem dX4_hear_29 : decode cX4_hear 29 = .ok (.if_icmp .le 6, 3) := by decide +kernel
theorem dX4_hear_32 : decode cX4_hear 32 = .ok (.bipush (-2), 2) := by decide +kernel
theorem dX4_hear_34 : decode cX4_hear 34 = .ok (.ireturn, 1) := by decide +kernel
theorem dX4_hear_35 : decode cX4_hear 35 = .ok (.aload_n 0, 1) := by decide +kernel
theorem dX4_hear_36 : decode cX4_hear 36 = .ok (.getfield 50, 3) := by decide +kernel
theorem dX4_hear_39 : decode cX4_hear 39 = .ok (.getfield 185, 3) := by decide +kernel
theorem dX4_hear_42 : decode cX4_hear 42 = .ok (.bipush 6, 2) := by decide +kernel
theorem dX4_hear_44 : decode cX4_hear 44 = .ok (.if_icmp .lt 6, 3) := by decide +kernel
theorem dX4_hear_47 : decode cX4_hear 47 = .ok (.bipush (-4), 2) := by decide +kernel
theorem dX4_hear_49 : decode cX4_hear 49 = .ok (.ireturn, 1) := by decide +kernel
theorem dX4_hear_50 : decode cX4_hear 50 = .ok (.aload_n 0, 1) := by decide +kernel
theorem dX4_hear_51 : decode cX4_hear 51 = .ok (.getfield 50, 3) := by decide +kernel
theorem dX4_hear_54 : decode cX4_hear 54 = .ok (.iload_n 1, 1) := by decide +kernel
theorem dX4_hear_55 : decode cX4_hear 55 = .ok (.iload_n 2, 1) := by decide +kernel
theorem dX4_hear_56 : decode cX4_hear 56 = .ok (.iload_n 3, 1) := by decide +kernel
theorem dX4_hear_57 : decode cX4_hear 57 = .ok (.invokevirtual 186, 3) := by decide +kernel
theorem dX4_hear_60 : decode cX4_hear 60 = .ok (.aload_n 0, 1) := by decide +kernel
theorem dX4_hear_61 : decode cX4_hear 61 = .ok (.getfield 50, 3) := by decide +kernel
theorem dX4_hear_64 : decode cX4_hear 64 = .ok (.getfield 185, 3) := by decide +kernel
theorem dX4_hear_67 : decode cX4_hear 67 = .ok (.ireturn, 1) := by decide +kernel
theorem dX4_unhear_0 : decode cX4_unhear 0 = .ok (.aload_n 0, 1) := by decide +kernel
theorem dX4_unhear_1 : decode cX4_unhear 1 = .ok (.getfield 50, 3) := by decide +kernel
theorem dX4_unhear_4 : decode cX4_unhear 4 = .ok (.getfield 185, 3) := by decide +kernel
theorem dX4_unhear_7 : decode cX4_unhear 7 = .ok (.istore_n 1, 1) := by decide +kernel
theorem dX4_unhear_8 : decode cX4_unhear 8 = .ok (.aload_n 0, 1) := by decide +kernel
theorem dX4_unhear_9 : decode cX4_unhear 9 = .ok (.getfield 50, 3) := by decide +kernel
theorem dX4_unhear_12 : decode cX4_unhear 12 = .ok (.iconst 0, 1) := by decide +kernel
theorem dX4_unhear_13 : decode cX4_unhear 13 = .ok (.putfield 185, 3) := by decide +kernel
theorem dX4_unhear_16 : decode cX4_unhear 16 = .ok (.iload_n 1, 1) := by decide +kernel
theorem dX4_unhear_17 : decode cX4_unhear 17 = .ok (.ireturn, 1) := by decide +kernel
set_option maxRecDepth 20000 in
theorem ggX4_pays_X2_isSetOfPlaying : GoodIn wsX4_pays wsX2_isSetOfPlaying := goodIn_r _ [6, 7, 135, 136, 137, 138, 139, 140, 141] (by decide +kernel) (by decide +kernel)
set_option maxRecDepth 20000 in
theorem gX4_pays_X2_isSetOfPlaying : GoodIn wsX4_pays (wsV RX4 189 RX2 yX2_isSetOfPlaying wsX2_isSetOfPlaying) := goodIn_app (goodIn_of _ (by decide +kernel)) ggX4_pays_X2_isSetOfPlaying
set_option maxRecDepth 20000 in
theorem ggX4_pays_X4_explainsHeard : GoodIn wsX4_pays wsX4_explainsHeard := goodIn_r _ [12, 13, 1, 14, 15, 16, 17, 18, 5, 19, 7, 20, 21, 22, 23, 24, 25, 26, 11, 27, 28, 29, 30, 31, 32, 33, 34, 35, 36, 37, 38, 39, 40, 41, 42, 43, 44, 45, 46, 47, 48, 49, 50, 51, 52, 53, 54, 55, 56, 57, 58, 59, 60, 61, 62, 63, 64, 65, 66, 67, 68, 69, 70, 71, 72, 73, 74, 75, 76, 77, 78, 79, 80, 81, 82, 83, 84, 85, 86, 87, 88, 89, 90, 91, 92, 93, 94, 95, 96, 97, 98, 99, 100, 101, 102, 103, 104, 105, 106, 107, 108, 109, 110, 111, 112, 113, 114, 115, 116, 117, 118, 119, 120, 121, 122, 123, 124, 125, 126, 127, 128, 129, 130, 131, 132, 133, 134, 135, 136, 137, 138, 139, 140, 141, 142, 143, 144, 145, 146, 147, 148, 149, 150, 151, 152, 153] (by decide +kernel) (by decide +kernel)
set_option maxRecDepth 20000 in
theorem gX4_pays_X4_explainsHeard : GoodIn wsX4_pays (wsV RX4 192 RX4 yX4_explainsHeard wsX4_explainsHeard) := goodIn_app (goodIn_of _ (by decide +kernel)) ggX4_pays_X4_explainsHeard
theorem dX4_pays_0 : decode cX4_pays 0 = .ok (.iload_n 1, 1) := by decide +kernel
theorem dX4_pays_1 : decode cX4_pays 1 = .ok (.ifCond .lt 8, 3) := by decide +kernel
theorem dX4_pays_4 : decode cX4_pays 4 = .ok (.iload_n 1, 1) := by decide +kernel
theorem dX4_pays_5 : decode cX4_pays 5 = .ok (.iconst 1, 1) := by decide +kernel
