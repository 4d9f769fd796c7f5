theorem dX0_init_0 : decode cX0_init 0 = .ok (.aload_n 0, 1) := by decide +kernel
theorem dX0_init_1 : decode cX0_init 1 = .ok (.invokespecial 3, 3) := by decide +kernel
theorem dX0_init_4 : decode cX0_init 4 = .ok (.aload_n 0, 1) := by decide +kernel
theorem dX0_init_5 : decode cX0_init 5 = .ok (.bipush 14, 2) := by decide +kernel
theorem dX0_init_7 : decode cX0_init 7 = .ok (.anewarray 9, 3) := by decide +kernel
theorem dX0_init_10 : decode cX0_init 10 = .ok (.putfield 11, 3) := by decide +kernel
theorem dX0_init_13 : decode cX0_init 13 = .ok (.iconst 0, 1) := by decide +kernel
theorem dX0_init_14 : decode cX0_init 14 = .ok (.istore_n 1, 1) := by decide +kernel
theorem dX0_init_15 : decode cX0_init 15 = .ok (.iload_n 1, 1) := by decide +kernel
theorem dX0_init_16 : decode cX0_init 16 = .ok (.aload_n 0, 1) := by decide +kernel
theorem dX0_init_17 : decode cX0_init 17 = .ok (.getfield 11, 3) := by decide +kernel
theorem dX0_init_20 : decode cX0_init 20 = .ok (.arraylength, 1) := by decide +kernel
theorem dX0_init_21 : decode cX0_init 21 = .ok (.if_icmp .ge 22, 3) := by decide +kernel
theorem dX0_init_24 : decode cX0_init 24 = .ok (.aload_n 0, 1) := by decide +kernel
theorem dX0_init_25 : decode cX0_init 25 = .ok (.getfield 11, 3) := by decide +kernel
theorem dX0_init_28 : decode cX0_init 28 = .ok (.iload_n 1, 1) := by decide +kernel
theorem dX0_init_29 : decode cX0_init 29 = .ok (.new 9, 3) := by decide +kernel
theorem dX0_init_32 : decode cX0_init 32 = .ok (.dup, 1) := by decide +kernel
theorem dX0_init_33 : decode cX0_init 33 = .ok (.invokespecial 17, 3) := by decide +kernel
theorem dX0_init_36 : decode cX0_init 36 = .ok (.aastore, 1) := by decide +kernel
theorem dX0_init_37 : decode cX0_init 37 = .ok (.iinc 1 1, 3) := by decide +kernel
theorem dX0_init_40 : decode cX0_init 40 = .ok (.goto (-25), 3) := by decide +kernel
theorem dX0_init_43 : decode cX0_init 43 = .ok (.return_, 1) := by decide +kernel
theorem dX0_clear_0 : decode cX0_clear 0 = .ok (.aload_n 0, 1) := by decide +kernel
theorem dX0_clear_1 : decode cX0_clear 1 = .ok (.iconst 0, 1) := by decide +kernel
theorem dX0_clear_2 : decode cX0_clear 2 = .ok (.putfield 18, 3) := by decide +kernel
theorem dX0_clear_5 : decode cX0_clear 5 = .ok (.aload_n 0, 1) := by decide +kernel
theorem dX0_clear_6 : decode cX0_clear 6 = .ok (.iconst 0, 1) := by decide +kernel
theorem dX0_clear_7 : decode cX0_clear 7 = .ok (.putfield 22, 3) := by decide +kernel
theorem dX0_clear_10 : decode cX0_clear 10 = .ok (.return_, 1) := by decide +kernel
set_option maxRecDepth 20000 in
theorem ggX0_add_X4_momentAt : GoodIn wsX0_add wsX4_momentAt := goodIn_r _ [6] (by decide +kernel) (by decide +kernel)
set_option maxRecDepth 20000 in
theorem gX0_add_X4_momentAt_n25 : GoodIn wsX0_add (wsX4_momentAt) := ggX0_add_X4_momentAt
set_option maxRecDepth 20000 in
theorem ggX0_add_X2_become : GoodIn wsX0_add wsX2_become := goodIn_r _ [11, 12, 13, 14, 15, 16, 17, 18, 19, 5, 20, 21, 22, 26, 27, 28, 29, 30, 31, 32] (by decide +kernel) (by decide +kernel)
set_option maxRecDepth 20000 in
theorem gX0_add_X2_become : GoodIn wsX0_add (wsV RX0 29 RX2 yX2_become wsX2_become) := goodIn_app (goodIn_of _ (by decide +kernel)) ggX0_add_X2_become
theorem dX0_add_0 : decode cX0_add 0 = .ok (.aload_n 0, 1) := by decide +kernel
theorem dX0_add_1 : decode cX0_add 1 = .ok (.getfield 11, 3) := by decide +kernel
theorem dX0_add_4 : decode cX0_add 4 = .ok (.aload_n 0, 1) := by decide +kernel
theorem dX0_add_5 : decode cX0_add 5 = .ok (.getfield 18, 3) := by decide +kernel
theorem dX0_add_8 : decode cX0_add 8 = .ok (.aload_n 0, 1) := by decide +kernel
theorem dX0_add_9 : decode cX0_add 9 = .ok (.getfield 22, 3) := by decide +kernel
theorem dX0_add_12 : decode cX0_add 12 = .ok (.iadd, 1) := by decide +kernel
theorem dX0_add_13 : decode cX0_add 13 = .ok (.bipush 14, 2) := by decide +kernel
theorem dX0_add_15 : decode cX0_add 15 = .ok (.irem, 1) := by decide +kernel
theorem dX0_add_16 : decode cX0_add 16 = .ok (.invokestatic 25, 3) := by decide +kernel
theorem dX0_add_19 : decode cX0_add 19 = .ok (.astore_n 2, 1) := by decide +kernel
theorem dX0_add_20 : decode cX0_add 20 = .ok (.aload_n 2, 1) := by decide +kernel
theorem dX0_add_21 : decode cX0_add 21 = .ok (.ifnonnull 4, 3) := by decide +kernel
theorem dX0_add_24 : decode cX0_add 24 = .ok (.return_, 1) := by decide +kernel
theorem dX0_add_25 : decode cX0_add 25 = .ok (.aload_n 2, 1) := by decide +kernel
theorem dX0_add_26 : decode cX0_add 26 = .ok (.aload_n 1, 1) := by decide +kernel
theorem dX0_add_27 : decode cX0_add 27 = .ok (.invokevirtual 29, 3) := by decide +kernel
theorem dX0_add_30 : decode cX0_add 30 = .ok (.aload_n 0, 1) := by decide +kernel
theorem dX0_add_31 : decode cX0_add 31 = .ok (.getfield 22, 3) := by decide +kernel
theorem dX0_add_34 : decode cX0_add 34 = .ok (.bipush 14, 2) := by decide +kernel
theorem dX0_add_36 : decode cX0_add 36 = .ok (.if_icmp .ge 16, 3) := by decide +kernel
theorem dX0_add_39 : decode cX0_add 39 = .ok (.aload_n 0, 1) := by decide +kernel
theorem dX0_add_40 : decode cX0_add 40 = .ok (.dup, 1) := by decide +kernel
theorem dX0_add_41 : decode cX0_add 41 = .ok (.getfield 22, 3) := by decide +kernel
theorem dX0_add_44 : decode cX0_add 44 = .ok (.iconst 1, 1) := by decide +kernel
theorem dX0_add_45 : decode cX0_add 45 = .ok (.iadd, 1) := by decide +kernel
theorem dX0_add_46 : decode cX0_add 46 = .ok (.putfield 22, 3) := by decide +kernel
theorem dX0_add_49 : decode cX0_add 49 = .ok (.goto 16, 3) := by decide +kernel
theorem dX0_add_52 : decode cX0_add 52 = .ok (.aload_n 0, 1) := by decide +kernel
theorem dX0_add_53 : decode cX0_add 53 = .ok (.aload_n 0, 1) := by decide +kernel
theorem dX0_add_54 : decode cX0_add 54 = .ok (.getfield 18, 3) := by decide +kernel
theorem dX0_add_57 : decode cX0_add 57 = .ok (.iconst 1, 1) := by decide +kernel
theorem dX0_add_58 : decode cX0_add 58 = .ok (.iadd, 1) := by decide +kernel
theorem dX0_add_59 : decode cX0_add 59 = .ok (.bipush 14, 2) := by decide +kernel
theorem dX0_add_61 : decode cX0_add 61 = .ok (.irem, 1) := by decide +kernel
theorem dX0_add_62 : decode cX0_add 62 = .ok (.putfield 18, 3) := by decide +kernel
theorem dX0_add_65 : decode cX0_add 65 = .ok (.return_, 1) := by decide +kernel
set_option maxRecDepth 20000 in
theorem ggX0_takeLast_X4_momentAt : GoodIn wsX0_takeLast wsX4_momentAt := goodIn_r _ [6] (by decide +kernel) (by decide +kernel)
set_option maxRecDepth 20000 in
theorem gX0_takeLast_X4_momentAt_n25 : GoodIn wsX0_takeLast (wsX4_momentAt) := ggX0_takeLast_X4_momentAt
set_option maxRecDepth 20000 in
theorem ggX0_takeLast_X2_become : GoodIn wsX0_takeLast wsX2_become := goodIn_r _ [11, 12, 13, 14, 15, 16, 17, 18, 19, 5, 20, 21, 22, 26, 27, 28, 29, 30, 31, 32] (by decide +kernel) (by decide +kernel)
set_option maxRecDepth 20000 in
theorem gX0_takeLast_X2_become : GoodIn wsX0_takeLast (wsV RX0 29 RX2 yX2_become wsX2_become) := goodIn_app (goodIn_of _ (by decide +kernel)) ggX0_takeLast_X2_become
theorem dX0_takeLast_0 : decode cX0_takeLast 0 = .ok (.aload_n 0, 1) := by decide +kernel
theorem dX0_takeLast_1 : decode cX0_takeLast 1 = .ok (.getfield 22, 3) := by decide +kernel
theorem dX0_takeLast_4 : decode cX0_takeLast 4 = .ok (.ifCond .le 27, 3) := by decide +kernel
theorem dX0_takeLast_7 : decode cX0_takeLast 7 = .ok (.aload_n 0, 1) := by decide +kernel
theorem dX0_takeLast_8 : decode cX0_takeLast 8 = .ok (.getfield 11, 3) := by decide +kernel
theorem dX0_takeLast_11 : decode cX0_takeLast 11 = .ok (.aload_n 0, 1) := by decide +kernel
theorem dX0_takeLast_12 : decode cX0_takeLast 12 = .ok (.getfield 18, 3) := by decide +kernel
theorem dX0_takeLast_15 : decode cX0_takeLast 15 = .ok (.aload_n 0, 1) := by decide +kernel
theorem dX0_takeLast_16 : decode cX0_takeLast 16 = .ok (.getfield 22, 3) := by decide +kernel
theorem dX0_takeLast_19 : decode cX0_takeLast 19 = .ok (.iadd, 1) := by decide +kernel
theorem dX0_takeLast_20 : decode cX0_takeLast 20 = .ok (.iconst 1, 1) := by decide +kernel
theorem dX0_takeLast_21 : decode cX0_takeLast 21 = .ok (.isub, 1) := by decide +kernel
theorem dX0_takeLast_22 : decode cX0_takeLast 22 = .ok (.bipush 14, 2) := by decide +kernel
theorem dX0_takeLast_24 : decode cX0_takeLast 24 = .ok (.irem, 1) := by decide +kernel
theorem dX0_takeLast_25 : decode cX0_takeLast 25 = .ok (.invokestatic 25, 3) := by decide +kernel
theorem dX0_takeLast_28 : decode cX0_takeLast 28 = .ok (.goto 4, 3) := by decide +kernel
theorem dX0_takeLast_31 : decode cX0_takeLast 31 = .ok (.aconst_null, 1) := by decide +kernel
theorem dX0_takeLast_32 : decode cX0_takeLast 32 = .ok (.astore_n 2, 1) := by decide +kernel
theorem dX0_takeLast_33 : decode cX0_takeLast 33 = .ok (.aload_n 2, 1) := by decide +kernel
theorem dX0_takeLast_34 : decode cX0_takeLast 34 = .ok (.ifnonnull 5, 3) := by decide +kernel
theorem dX0_takeLast_37 : decode cX0_takeLast 37 = .ok (.iconst 0, 1) := by decide +kernel
theorem dX0_takeLast_38 : decode cX0_takeLast 38 = .ok (.ireturn, 1) := by decide +kernel
theorem dX0_takeLast_39 : decode cX0_takeLast 39 = .ok (.aload_n 1, 1) := by decide +kernel
theorem dX0_takeLast_40 : decode cX0_takeLast 40 = .ok (.aload_n 2, 1) := by decide +kernel
theorem dX0_takeLast_41 : decode cX0_takeLast 41 = .ok (.invokevirtual 29, 3) := by decide +kernel
theorem dX0_takeLast_44 : decode cX0_takeLast 44 = .ok (.aload_n 0, 1) := by decide +kernel
theorem dX0_takeLast_45 : decode cX0_takeLast 45 = .ok (.dup, 1) := by decide +kernel
theorem dX0_takeLast_46 : decode cX0_takeLast 46 = .ok (.getfield 22, 3) := by decide +kernel
theorem dX0_takeLast_49 : decode cX0_takeLast 49 = .ok (.iconst 1, 1) := by decide +kernel
theorem dX0_takeLast_50 : decode cX0_takeLast 50 = .ok (.isub, 1) := by decide +kernel
theorem dX0_takeLast_51 : decode cX0_takeLast 51 = .ok (.putfield 22, 3) := by decide +kernel
theorem dX0_takeLast_54 : decode cX0_takeLast 54 = .ok (.iconst 1, 1) := by decide +kernel
theorem dX0_takeLast_55 : decode cX0_takeLast 55 = .ok (.ireturn, 1) := by decide +kernel
theorem dX1_init_0 : decode cX1_init 0 = .ok (.aload_n 0, 1) := by decide +kernel
theorem dX1_init_1 : decode cX1_init 1 = .ok (.invokespecial 3, 3) := by decide +kernel
theorem dX1_init_4 : decode cX1_init 4 = .ok (.aload_n 0, 1) := by decide +kernel
theorem dX1_init_5 : decode cX1_init 5 = .ok (.bipush 6, 2) := by decide +kernel
theorem dX1_init_7 : decode cX1_init 7 = .ok (.newarray .int, 2) := by decide +kernel
theorem dX1_init_9 : decode cX1_init 9 = .ok (.putfield 9, 3) := by decide +kernel
theorem dX1_init_12 : decode cX1_init 12 = .ok (.aload_n 0, 1) := by decide +kernel
theorem dX1_init_13 : decode cX1_init 13 = .ok (.bipush 6, 2) := by decide +kernel
theorem dX1_init_15 : decode cX1_init 15 = .ok (.newarray .int, 2) := by decide +kernel
theorem dX1_init_17 : decode cX1_init 17 = .ok (.putfield 15, 3) := by decide +kernel
theorem dX1_init_20 : decode cX1_init 20 = .ok (.aload_n 0, 1) := by decide +kernel
theorem dX1_init_21 : decode cX1_init 21 = .ok (.bipush 6, 2) := by decide +kernel
theorem dX1_init_23 : decode cX1_init 23 = .ok (.newarray .int, 2) := by decide +kernel
theorem dX1_init_25 : decode cX1_init 25 = .ok (.putfield 18, 3) := by decide +kernel
theorem dX1_init_28 : decode cX1_init 28 = .ok (.return_, 1) := by decide +kernel
set_option maxRecDepth 20000 in
theorem ggX1_add_X4_put : GoodIn wsX1_add wsX4_put := goodIn_r _ [7] (by decide +kernel) (by decide +kernel)
set_option maxRecDepth 20000 in
theorem gX1_add_X4_put_n25 : GoodIn wsX1_add (wsX4_put) := ggX1_add_X4_put
theorem dX1_add_0 : decode cX1_add 0 = .ok (.aload_n 0, 1) := by decide +kernel
theorem dX1_add_1 : decode cX1_add 1 = .ok (.getfield 9, 3) := by decide +kernel
theorem dX1_add_4 : decode cX1_add 4 = .ok (.aload_n 0, 1) := by decide +kernel
theorem dX1_add_5 : decode cX1_add 5 = .ok (.getfield 21, 3) := by decide +kernel
theorem dX1_add_8 : decode cX1_add 8 = .ok (.iload_n 1, 1) := by decide +kernel
theorem dX1_add_9 : decode cX1_add 9 = .ok (.invokestatic 25, 3) := by decide +kernel
theorem dX1_add_12 : decode cX1_add 12 = .ok (.aload_n 0, 1) := by decide +kernel
theorem dX1_add_13 : decode cX1_add 13 = .ok (.getfield 15, 3) := by decide +kernel
theorem dX1_add_16 : decode cX1_add 16 = .ok (.aload_n 0, 1) := by decide +kernel
theorem dX1_add_17 : decode cX1_add 17 = .ok (.getfield 21, 3) := by decide +kernel
theorem dX1_add_20 : decode cX1_add 20 = .ok (.iload_n 2, 1) := by decide +kernel
theorem dX1_add_21 : decode cX1_add 21 = .ok (.invokestatic 25, 3) := by decide +kernel
theorem dX1_add_24 : decode cX1_add 24 = .ok (.aload_n 0, 1) := by decide +kernel
theorem dX1_add_25 : decode cX1_add 25 = .ok (.getfield 18, 3) := by decide +kernel
theorem dX1_add_28 : decode cX1_add 28 = .ok (.aload_n 0, 1) := by decide +kernel
theorem dX1_add_29 : decode cX1_add 29 = .ok (.getfield 21, 3) := by decide +kernel
theorem dX1_add_32 : decode cX1_add 32 = .ok (.iload_n 3, 1) := by decide +kernel
theorem dX1_add_33 : decode cX1_add 33 = .ok (.invokestatic 25, 3) := by decide +kernel
theorem dX1_add_36 : decode cX1_add 36 = .ok (.aload_n 0, 1) := by decide +kernel
theorem dX1_add_37 : decode cX1_add 37 = .ok (.dup, 1) := by decide +kernel
theorem dX1_add_38 : decode cX1_add 38 = .ok (.getfield 21, 3) := by decide +kernel
theorem dX1_add_41 : decode cX1_add 41 = .ok (.iconst 1, 1) := by decide +kernel
theorem dX1_add_42 : decode cX1_add 42 = .ok (.iadd, 1) := by decide +kernel
theorem dX1_add_43 : decode cX1_add 43 = .ok (.putfield 21, 3) := by decide +kernel
theorem dX1_add_46 : decode cX1_add 46 = .ok (.return_, 1) := by decide +kernel
set_option maxRecDepth 20000 in
theorem ggX1_agrees_X4_at : GoodIn wsX1_agrees wsX4_at := goodIn_r _ [7] (by decide +kernel) (by decide +kernel)
set_option maxRecDepth 20000 in
theorem gX1_agrees_X4_at_n29 : GoodIn wsX1_agrees (wsX4_at) := ggX1_agrees_X4_at
set_option maxRecDepth 20000 in
theorem ggX1_agrees_X3_hasPlayer : GoodIn wsX1_agrees wsX3_hasPlayer := goodIn_r _ [12, 13, 24, 25, 26, 27, 28, 29, 30, 31] (by decide +kernel) (by decide +kernel)
set_option maxRecDepth 20000 in
theorem gX1_agrees_X3_hasPlayer : GoodIn wsX1_agrees (wsV RX1 33 RX3 yX3_hasPlayer wsX3_hasPlayer) := goodIn_app (goodIn_of _ (by decide +kernel)) ggX1_agrees_X3_hasPlayer
set_option maxRecDepth 20000 in
theorem ggX1_agrees_X2_isPlaying : GoodIn wsX1_agrees wsX2_isPlaying := goodIn_r _ [18, 19, 32, 33, 34, 35, 36, 37, 38] (by decide +kernel) (by decide +kernel)
set_option maxRecDepth 20000 in
theorem gX1_agrees_X2_isPlaying : GoodIn wsX1_agrees (wsV RX1 39 RX2 yX2_isPlaying wsX2_isPlaying) := goodIn_app (goodIn_of _ (by decide +kernel)) ggX1_agrees_X2_isPlaying
theorem dX1_agrees_0 : decode cX1_agrees 0 = .ok (.iconst 0, 1) := by decide +kernel
theorem dX1_agrees_1 : decode cX1_agrees 1 = .ok (.istore 4, 2) := by decide +kernel
theorem dX1_agrees_3 : decode cX1_agrees 3 = .ok (.iload 4, 2) := by decide +kernel
theorem dX1_agrees_5 : decode cX1_agrees 5 = .ok (.aload_n 0, 1) := by decide +kernel
theorem dX1_agrees_6 : decode cX1_agrees 6 = .ok (.getfield 21, 3) := by decide +kernel
theorem dX1_agrees_9 : decode cX1_agrees 9 = .ok (.if_icmp .ge 71, 3) := by decide +kernel
theorem dX1_agrees_12 : decode cX1_agrees 12 = .ok (.aload_n 0, 1) := by decide +kernel
theorem dX1_agrees_13 : decode cX1_agrees 13 = .ok (.getfield 9, 3) := by decide +kernel
theorem dX1_agrees_16 : decode cX1_agrees 16 = .ok (.iload 4, 2) := by decide +kernel
theorem dX1_agrees_18 : decode cX1_agrees 18 = .ok (.invokestatic 29, 3) := by decide +kernel
theorem dX1_agrees_21 : decode cX1_agrees 21 = .ok (.istore 5, 2) := by decide +kernel
theorem dX1_agrees_23 : decode cX1_agrees 23 = .ok (.aload_n 0, 1) := by decide +kernel
theorem dX1_agrees_24 : decode cX1_agrees 24 = .ok (.getfield 15, 3) := by decide +kernel
theorem dX1_agrees_27 : decode cX1_agrees 27 = .ok (.iload 4, 2) := by decide +kernel
theorem dX1_agrees_29 : decode cX1_agrees 29 = .ok (.invokestatic 29, 3) := by decide +kernel
theorem dX1_agrees_32 : decode cX1_agrees 32 = .ok (.iload_n 3, 1) := by decide +kernel
theorem dX1_agrees_33 : decode cX1_agrees 33 = .ok (.if_icmp .ne 41, 3) := by decide +kernel
theorem dX1_agrees_36 : decode cX1_agrees 36 = .ok (.aload_n 1, 1) := by decide +kernel
theorem dX1_agrees_37 : decode cX1_agrees 37 = .ok (.iload 5, 2) := by decide +kernel
theorem dX1_agrees_39 : decode cX1_agrees 39 = .ok (.invokevirtual 33, 3) := by decide +kernel
theorem dX1_agrees_42 : decode cX1_agrees 42 = .ok (.ifCond .eq 32, 3) := by decide +kernel
theorem dX1_agrees_45 : decode cX1_agrees 45 = .ok (.aload_n 2, 1) := by decide +kernel
theorem dX1_agrees_46 : decode cX1_agrees 46 = .ok (.iload 5, 2) := by decide +kernel
theorem dX1_agrees_48 : decode cX1_agrees 48 = .ok (.invokevirtual 39, 3) := by decide +kernel
theorem dX1_agrees_51 : decode cX1_agrees 51 = .ok (.aload_n 0, 1) := by decide +kernel
theorem dX1_agrees_52 : decode cX1_agrees 52 = .ok (.getfield 18, 3) := by decide +kernel
theorem dX1_agrees_55 : decode cX1_agrees 55 = .ok (.iload 4, 2) := by decide +kernel
theorem dX1_agrees_57 : decode cX1_agrees 57 = .ok (.invokestatic 29, 3) := by decide +kernel
theorem dX1_agrees_60 : decode cX1_agrees 60 = .ok (.iconst 1, 1) := by decide +kernel
theorem dX1_agrees_61 : decode cX1_agrees 61 = .ok (.if_icmp .ne 7, 3) := by decide +kernel
theorem dX1_agrees_64 : decode cX1_agrees 64 = .ok (.iconst 1, 1) := by decide +kernel
theorem dX1_agrees_65 : decode cX1_agrees 65 = .ok (.goto 4, 3) := by decide +kernel
theorem dX1_agrees_68 : decode cX1_agrees 68 = .ok (.iconst 0, 1) := by decide +kernel
theorem dX1_agrees_69 : decode cX1_agrees 69 = .ok (.if_icmp .eq 5, 3) := by decide +kernel
theorem dX1_agrees_72 : decode cX1_agrees 72 = .ok (.iconst 0, 1) := by decide +kernel
theorem dX1_agrees_73 : decode cX1_agrees 73 = .ok (.ireturn, 1) := by decide +kernel
theorem dX1_agrees_74 : decode cX1_agrees 74 = .ok (.iinc 4 1, 3) := by decide +kernel
theorem dX1_agrees_77 : decode cX1_agrees 77 = .ok (.goto (-74), 3) := by decide +kernel
theorem dX1_agrees_80 : decode cX1_agrees 80 = .ok (.iconst 1, 1) := by decide +kernel
theorem dX1_agrees_81 : decode cX1_agrees 81 = .ok (.ireturn, 1) := by decide +kernel
theorem dX2_init_0 : decode cX2_init 0 = .ok (.aload_n 0, 1) := by decide +kernel
theorem dX2_init_1 : decode cX2_init 1 = .ok (.invokespecial 3, 3) := by decide +kernel
theorem dX2_init_4 : decode cX2_init 4 = .ok (.aload_n 0, 1) := by decide +kernel
theorem dX2_init_5 : decode cX2_init 5 = .ok (.bipush 6, 2) := by decide +kernel
theorem dX2_init_7 : decode cX2_init 7 = .ok (.newarray .int, 2) := by decide +kernel
theorem dX2_init_9 : decode cX2_init 9 = .ok (.putfield 9, 3) := by decide +kernel
theorem dX2_init_12 : decode cX2_init 12 = .ok (.return_, 1) := by decide +kernel
set_option maxRecDepth 20000 in
theorem ggX2_begin_X3_everybody : GoodIn wsX2_begin wsX3_everybody := goodIn_r _ [13, 14, 31, 32, 33, 34, 35, 36, 37, 38] (by decide +kernel) (by decide +kernel)
set_option maxRecDepth 20000 in
theorem gX2_begin_X3_everybody : GoodIn wsX2_begin (wsV RX2 15 RX3 yX3_everybody wsX3_everybody) := goodIn_app (goodIn_of _ (by decide +kernel)) ggX2_begin_X3_everybody
set_option maxRecDepth 20000 in
theorem ggX2_begin_X3_hasPlayer : GoodIn wsX2_begin wsX3_hasPlayer := goodIn_r _ [18, 14, 31, 32, 33, 34, 35, 36, 37, 38] (by decide +kernel) (by decide +kernel)
set_option maxRecDepth 20000 in
theorem gX2_begin_X3_hasPlayer : GoodIn wsX2_begin (wsV RX2 40 RX3 yX3_hasPlayer wsX3_hasPlayer) := goodIn_app (goodIn_of _ (by decide +kernel)) ggX2_begin_X3_hasPlayer
set_option maxRecDepth 20000 in
theorem ggX2_begin_X4_at : GoodIn wsX2_begin wsX4_at := goodIn_r _ [21] (by decide +kernel) (by decide +kernel)
set_option maxRecDepth 20000 in
theorem gX2_begin_X4_at_n47 : GoodIn wsX2_begin (wsX4_at) := ggX2_begin_X4_at
set_option maxRecDepth 20000 in
theorem ggX2_begin_X4_put : GoodIn wsX2_begin wsX4_put := goodIn_r _ [23] (by decide +kernel) (by decide +kernel)
set_option maxRecDepth 20000 in
theorem gX2_begin_X4_put_n51 : GoodIn wsX2_begin (wsX4_put) := ggX2_begin_X4_put
theorem dX2_begin_0 : decode cX2_begin 0 = .ok (.aload_n 0, 1) := by decide +kernel
theorem dX2_begin_1 : decode cX2_begin 1 = .ok (.aload_n 1, 1) := by decide +kernel
theorem dX2_begin_2 : decode cX2_begin 2 = .ok (.invokevirtual 15, 3) := by decide +kernel
theorem dX2_begin_5 : decode cX2_begin 5 = .ok (.putfield 21, 3) := by decide +kernel
theorem dX2_begin_8 : decode cX2_begin 8 = .ok (.aload_n 0, 1) := by decide +kernel
theorem dX2_begin_9 : decode cX2_begin 9 = .ok (.iconst 0, 1) := by decide +kernel
theorem dX2_begin_10 : decode cX2_begin 10 = .ok (.putfield 25, 3) := by decide +kernel
theorem dX2_begin_13 : decode cX2_begin 13 = .ok (.aload_n 0, 1) := by decide +kernel
theorem dX2_begin_14 : decode cX2_begin 14 = .ok (.iconst 0, 1) := by decide +kernel
theorem dX2_begin_15 : decode cX2_begin 15 = .ok (.putfield 28, 3) := by decide +kernel
theorem dX2_begin_18 : decode cX2_begin 18 = .ok (.aload_n 0, 1) := by decide +kernel
theorem dX2_begin_19 : decode cX2_begin 19 = .ok (.iconst 0, 1) := by decide +kernel
theorem dX2_begin_20 : decode cX2_begin 20 = .ok (.putfield 31, 3) := by decide +kernel
theorem dX2_begin_23 : decode cX2_begin 23 = .ok (.aload_n 0, 1) := by decide +kernel
theorem dX2_begin_24 : decode cX2_begin 24 = .ok (.iconst 0, 1) := by decide +kernel
theorem dX2_begin_25 : decode cX2_begin 25 = .ok (.putfield 34, 3) := by decide +kernel
theorem dX2_begin_28 : decode cX2_begin 28 = .ok (.aload_n 0, 1) := by decide +kernel
theorem dX2_begin_29 : decode cX2_begin 29 = .ok (.iconst 0, 1) := by decide +kernel
theorem dX2_begin_30 : decode cX2_begin 30 = .ok (.putfield 37, 3) := by decide +kernel
theorem dX2_begin_33 : decode cX2_begin 33 = .ok (.iconst 0, 1) := by decide +kernel
theorem dX2_begin_34 : decode cX2_begin 34 = .ok (.istore_n 2, 1) := by decide +kernel
theorem dX2_begin_35 : decode cX2_begin 35 = .ok (.iload_n 2, 1) := by decide +kernel
theorem dX2_begin_36 : decode cX2_begin 36 = .ok (.bipush 6, 2) := by decide +kernel
theorem dX2_begin_38 : decode cX2_begin 38 = .ok (.if_icmp .ge 37, 3) := by decide +kernel
theorem dX2_begin_41 : decode cX2_begin 41 = .ok (.aload_n 0, 1) := by decide +kernel
theorem dX2_begin_42 : decode cX2_begin 42 = .ok (.getfield 9, 3) := by decide +kernel
theorem dX2_begin_45 : decode cX2_begin 45 = .ok (.iload_n 2, 1) := by decide +kernel
theorem dX2_begin_46 : decode cX2_begin 46 = .ok (.aload_n 1, 1) := by decide +kernel
theorem dX2_begin_47 : decode cX2_begin 47 = .ok (.iload_n 2, 1) := by decide +kernel
theorem dX2_begin_48 : decode cX2_begin 48 = .ok (.invokevirtual 40, 3) := by decide +kernel
theorem dX2_begin_51 : decode cX2_begin 51 = .ok (.ifCond .eq 14, 3) := by decide +kernel
theorem dX2_begin_54 : decode cX2_begin 54 = .ok (.aload_n 1, 1) := by decide +kernel
theorem dX2_begin_55 : decode cX2_begin 55 = .ok (.getfield 44, 3) := by decide +kernel
theorem dX2_begin_58 : decode cX2_begin 58 = .ok (.iload_n 2, 1) := by decide +kernel
theorem dX2_begin_59 : decode cX2_begin 59 = .ok (.invokestatic 47, 3) := by decide +kernel
theorem dX2_begin_62 : decode cX2_begin 62 = .ok (.goto 4, 3) := by decide +kernel
theorem dX2_begin_65 : decode cX2_begin 65 = .ok (.iconst 0, 1) := by decide +kernel
theorem dX2_begin_66 : decode cX2_begin 66 = .ok (.invokestatic 51, 3) := by decide +kernel
theorem dX2_begin_69 : decode cX2_begin 69 = .ok (.iinc 2 1, 3) := by decide +kernel
theorem dX2_begin_72 : decode cX2_begin 72 = .ok (.goto (-37), 3) := by decide +kernel
theorem dX2_begin_75 : decode cX2_begin 75 = .ok (.return_, 1) := by decide +kernel
set_option maxRecDepth 20000 in
theorem ggX2_become_X4_at : GoodIn wsX2_become wsX4_at := goodIn_r _ [10] (by decide +kernel) (by decide +kernel)
set_option maxRecDepth 20000 in
theorem gX2_become_X4_at_n47 : GoodIn wsX2_become (wsX4_at) := ggX2_become_X4_at
set_option maxRecDepth 20000 in
theorem ggX2_become_X4_put : GoodIn wsX2_become wsX4_put := goodIn_r _ [12] (by decide +kernel) (by decide +kernel)
set_option maxRecDepth 20000 in
theorem gX2_become_X4_put_n51 : GoodIn wsX2_become (wsX4_put) := ggX2_become_X4_put
theorem dX2_become_0 : decode cX2_become 0 = .ok (.aload_n 0, 1) := by decide +kernel
theorem dX2_become_1 : decode cX2_become 1 = .ok (.aload_n 1, 1) := by decide +kernel
theorem dX2_become_2 : decode cX2_become 2 = .ok (.getfield 21, 3) := by decide +kernel
theorem dX2_become_5 : decode cX2_become 5 = .ok (.putfield 21, 3) := by decide +kernel
theorem dX2_become_8 : decode cX2_become 8 = .ok (.aload_n 0, 1) := by decide +kernel
theorem dX2_become_9 : decode cX2_become 9 = .ok (.aload_n 1, 1) := by decide +kernel
theorem dX2_become_10 : decode cX2_become 10 = .ok (.getfield 25, 3) := by decide +kernel
theorem dX2_become_13 : decode cX2_become 13 = .ok (.putfield 25, 3) := by decide +kernel
theorem dX2_become_16 : decode cX2_become 16 = .ok (.aload_n 0, 1) := by decide +kernel
theorem dX2_become_17 : decode cX2_become 17 = .ok (.aload_n 1, 1) := by decide +kernel
theorem dX2_become_18 : decode cX2_become 18 = .ok (.getfield 28, 3) := by decide +kernel
theorem dX2_become_21 : decode cX2_become 21 = .ok (.putfield 28, 3) := by decide +kernel
theorem dX2_become_24 : decode cX2_become 24 = .ok (.aload_n 0, 1) := by decide +kernel
theorem dX2_become_25 : decode cX2_become 25 = .ok (.aload_n 1, 1) := by decide +kernel
theorem dX2_become_26 : decode cX2_become 26 = .ok (.getfield 31, 3) := by decide +kernel
theorem dX2_become_29 : decode cX2_become 29 = .ok (.putfield 31, 3) := by decide +kernel
theorem dX2_become_32 : decode cX2_become 32 = .ok (.aload_n 0, 1) := by decide +kernel
theorem dX2_become_33 : decode cX2_become 33 = .ok (.aload_n 1, 1) := by decide +kernel
theorem dX2_become_34 : decode cX2_become 34 = .ok (.getfield 34, 3) := by decide +kernel
theorem dX2_become_37 : decode cX2_become 37 = .ok (.putfield 34, 3) := by decide +kernel
theorem dX2_become_40 : decode cX2_become 40 = .ok (.aload_n 0, 1) := by decide +kernel
theorem dX2_become_41 : decode cX2_become 41 = .ok (.aload_n 1, 1) := by decide +kernel
theorem dX2_become_42 : decode cX2_become 42 = .ok (.getfield 37, 3) := by decide +kernel
theorem dX2_become_45 : decode cX2_become 45 = .ok (.putfield 37, 3) := by decide +kernel
theorem dX2_become_48 : decode cX2_become 48 = .ok (.iconst 0, 1) := by decide +kernel
theorem dX2_become_49 : decode cX2_become 49 = .ok (.istore_n 2, 1) := by decide +kernel
theorem dX2_become_50 : decode cX2_become 50 = .ok (.iload_n 2, 1) := by decide +kernel
theorem dX2_become_51 : decode cX2_become 51 = .ok (.bipush 6, 2) := by decide +kernel
theorem dX2_become_53 : decode cX2_become 53 = .ok (.if_icmp .ge 25, 3) := by decide +kernel
theorem dX2_become_56 : decode cX2_become 56 = .ok (.aload_n 0, 1) := by decide +kernel
theorem dX2_become_57 : decode cX2_become 57 = .ok (.getfield 9, 3) := by decide +kernel
theorem dX2_become_60 : decode cX2_become 60 = .ok (.iload_n 2, 1) := by decide +kernel
theorem dX2_become_61 : decode cX2_become 61 = .ok (.aload_n 1, 1) := by decide +kernel
theorem dX2_become_62 : decode cX2_become 62 = .ok (.getfield 9, 3) := by decide +kernel
theorem dX2_become_65 : decode cX2_become 65 = .ok (.iload_n 2, 1) := by decide +kernel
theorem dX2_become_66 : decode cX2_become 66 = .ok (.invokestatic 47, 3) := by decide +kernel
theorem dX2_become_69 : decode cX2_become 69 = .ok (.invokestatic 51, 3) := by decide +kernel
theorem dX2_become_72 : decode cX2_become 72 = .ok (.iinc 2 1, 3) := by decide +kernel
theorem dX2_become_75 : decode cX2_become 75 = .ok (.goto (-25), 3) := by decide +kernel
theorem dX2_become_78 : decode cX2_become 78 = .ok (.return_, 1) := by decide +kernel
theorem dX2_isPlaying_0 : decode cX2_isPlaying 0 = .ok (.aload_n 0, 1) := by decide +kernel
theorem dX2_isPlaying_1 : decode cX2_isPlaying 1 = .ok (.getfield 21, 3) := by decide +kernel
theorem dX2_isPlaying_4 : decode cX2_isPlaying 4 = .ok (.iload_n 1, 1) := by decide +kernel
theorem dX2_isPlaying_5 : decode cX2_isPlaying 5 = .ok (.ishr, 1) := by decide +kernel
theorem dX2_isPlaying_6 : decode cX2_isPlaying 6 = .ok (.iconst 1, 1) := by decide +kernel
theorem dX2_isPlaying_7 : decode cX2_isPlaying 7 = .ok (.iand, 1) := by decide +kernel
theorem dX2_isPlaying_8 : decode cX2_isPlaying 8 = .ok (.iconst 1, 1) := by decide +kernel
theorem dX2_isPlaying_9 : decode cX2_isPlaying 9 = .ok (.if_icmp .ne 7, 3) := by decide +kernel
theorem dX2_isPlaying_12 : decode cX2_isPlaying 12 = .ok (.iconst 1, 1) := by decide +kernel
theorem dX2_isPlaying_13 : decode cX2_isPlaying 13 = .ok (.goto 4, 3) := by decide +kernel
theorem dX2_isPlaying_16 : decode cX2_isPlaying 16 = .ok (.iconst 0, 1) := by decide +kernel
theorem dX2_isPlaying_17 : decode cX2_isPlaying 17 = .ok (.ireturn, 1) := by decide +kernel
theorem dX2_isPaid_0 : decode cX2_isPaid 0 = .ok (.aload_n 0, 1) := by decide +kernel
theorem dX2_isPaid_1 : decode cX2_isPaid 1 = .ok (.getfield 25, 3) := by decide +kernel
theorem dX2_isPaid_4 : decode cX2_isPaid 4 = .ok (.iload_n 1, 1) := by decide +kernel
theorem dX2_isPaid_5 : decode cX2_isPaid 5 = .ok (.ishr, 1) := by decide +kernel
theorem dX2_isPaid_6 : decode cX2_isPaid 6 = .ok (.iconst 1, 1) := by decide +kernel
theorem dX2_isPaid_7 : decode cX2_isPaid 7 = .ok (.iand, 1) := by decide +kernel
theorem dX2_isPaid_8 : decode cX2_isPaid 8 = .ok (.iconst 1, 1) := by decide +kernel
theorem dX2_isPaid_9 : decode cX2_isPaid 9 = .ok (.if_icmp .ne 7, 3) := by decide +kernel
theorem dX2_isPaid_12 : decode cX2_isPaid 12 = .ok (.iconst 1, 1) := by decide +kernel
theorem dX2_isPaid_13 : decode cX2_isPaid 13 = .ok (.goto 4, 3) := by decide +kernel
theorem dX2_isPaid_16 : decode cX2_isPaid 16 = .ok (.iconst 0, 1) := by decide +kernel
theorem dX2_isPaid_17 : decode cX2_isPaid 17 = .ok (.ireturn, 1) := by decide +kernel
theorem dX2_isTaken_0 : decode cX2_isTaken 0 = .ok (.aload_n 0, 1) := by decide +kernel
theorem dX2_isTaken_1 : decode cX2_isTaken 1 = .ok (.getfield 31, 3) := by decide +kernel
theorem dX2_isTaken_4 : decode cX2_isTaken 4 = .ok (.iload_n 1, 1) := by decide +kernel
theorem dX2_isTaken_5 : decode cX2_isTaken 5 = .ok (.ishr, 1) := by decide +kernel
theorem dX2_isTaken_6 : decode cX2_isTaken 6 = .ok (.iconst 1, 1) := by decide +kernel
theorem dX2_isTaken_7 : decode cX2_isTaken 7 = .ok (.iand, 1) := by decide +kernel
theorem dX2_isTaken_8 : decode cX2_isTaken 8 = .ok (.iconst 1, 1) := by decide +kernel
theorem dX2_isTaken_9 : decode cX2_isTaken 9 = .ok (.if_icmp .ne 7, 3) := by decide +kernel
theorem dX2_isTaken_12 : decode cX2_isTaken 12 = .ok (.iconst 1, 1) := by decide +kernel
theorem dX2_isTaken_13 : decode cX2_isTaken 13 = .ok (.goto 4, 3) := by decide +kernel
theorem dX2_isTaken_16 : decode cX2_isTaken 16 = .ok (.iconst 0, 1) := by decide +kernel
theorem dX2_isTaken_17 : decode cX2_isTaken 17 = .ok (.ireturn, 1) := by decide +kernel
set_option maxRecDepth 20000 in
theorem ggX2_isTired_X2_isPlaying : GoodIn wsX2_isTired wsX2_isPlaying := goodIn_r _ [5, 6, 12, 13, 14, 15, 16, 17, 18] (by decide +kernel) (by decide +kernel)
set_option maxRecDepth 20000 in
theorem gX2_isTired_X2_isPlaying : GoodIn wsX2_isTired (wsV RX2 55 RX2 yX2_isPlaying wsX2_isPlaying) := goodIn_app (goodIn_of _ (by decide +kernel)) ggX2_isTired_X2_isPlaying
set_option maxRecDepth 20000 in
theorem ggX2_isTired_X2_isPaid : GoodIn wsX2_isTired wsX2_isPaid := goodIn_r _ [10, 11, 12, 13, 14, 15, 16, 17, 18] (by decide +kernel) (by decide +kernel)
set_option maxRecDepth 20000 in
theorem gX2_isTired_X2_isPaid : GoodIn wsX2_isTired (wsV RX2 58 RX2 yX2_isPaid wsX2_isPaid) := goodIn_app (goodIn_of _ (by decide +kernel)) ggX2_isTired_X2_isPaid
theorem dX2_isTired_0 : decode cX2_isTired 0 = .ok (.aload_n 0, 1) := by decide +kernel
theorem dX2_isTired_1 : decode cX2_isTired 1 = .ok (.iload_n 1, 1) := by decide +kernel
theorem dX2_isTired_2 : decode cX2_isTired 2 = .ok (.invokevirtual 55, 3) := by decide +kernel
theorem dX2_isTired_5 : decode cX2_isTired 5 = .ok (.ifCond .ne 15, 3) := by decide +kernel
theorem dX2_isTired_8 : decode cX2_isTired 8 = .ok (.aload_n 0, 1) := by decide +kernel
theorem dX2_isTired_9 : decode cX2_isTired 9 = .ok (.iload_n 1, 1) := by decide +kernel
theorem dX2_isTired_10 : decode cX2_isTired 10 = .ok (.invokevirtual 58, 3) := by decide +kernel
theorem dX2_isTired_13 : decode cX2_isTired 13 = .ok (.ifCond .ne 7, 3) := by decide +kernel
theorem dX2_isTired_16 : decode cX2_isTired 16 = .ok (.iconst 1, 1) := by decide +kernel
theorem dX2_isTired_17 : decode cX2_isTired 17 = .ok (.goto 4, 3) := by decide +kernel
theorem dX2_isTired_20 : decode cX2_isTired 20 = .ok (.iconst 0, 1) := by decide +kernel
theorem dX2_isTired_21 : decode cX2_isTired 21 = .ok (.ireturn, 1) := by decide +kernel
theorem dX2_isSetOfPlaying_0 : decode cX2_isSetOfPlaying 0 = .ok (.iload_n 1, 1) := by decide +kernel
theorem dX2_isSetOfPlaying_1 : decode cX2_isSetOfPlaying 1 = .ok (.aload_n 0, 1) := by decide +kernel
theorem dX2_isSetOfPlaying_2 : decode cX2_isSetOfPlaying 2 = .ok (.getfield 21, 3) := by decide +kernel
theorem dX2_isSetOfPlaying_5 : decode cX2_isSetOfPlaying 5 = .ok (.iconst (-1), 1) := by decide +kernel
theorem dX2_isSetOfPlaying_6 : decode cX2_isSetOfPlaying 6 = .ok (.ixor, 1) := by decide +kernel
theorem dX2_isSetOfPlaying_7 : decode cX2_isSetOfPlaying 7 = .ok (.iand, 1) := by decide +kernel
theorem dX2_isSetOfPlaying_8 : decode cX2_isSetOfPlaying 8 = .ok (.ifCond .ne 7, 3) := by decide +kernel
theorem dX2_isSetOfPlaying_11 : decode cX2_isSetOfPlaying 11 = .ok (.iconst 1, 1) := by decide +kernel
theorem dX2_isSetOfPlaying_12 : decode cX2_isSetOfPlaying 12 = .ok (.goto 4, 3) := by decide +kernel
theorem dX2_isSetOfPlaying_15 : decode cX2_isSetOfPlaying 15 = .ok (.iconst 0, 1) := by decide +kernel
theorem dX2_isSetOfPlaying_16 : decode cX2_isSetOfPlaying 16 = .ok (.ireturn, 1) := by decide +kernel
set_option maxRecDepth 20000 in
theorem ggX2_tired_X3_everybody : GoodIn wsX2_tired wsX3_everybody := goodIn_r _ [7, 8, 16, 17, 18, 19, 20, 21, 22, 23] (by decide +kernel) (by decide +kernel)
set_option maxRecDepth 20000 in
theorem gX2_tired_X3_everybody : GoodIn wsX2_tired (wsV RX2 15 RX3 yX3_everybody wsX3_everybody) := goodIn_app (goodIn_of _ (by decide +kernel)) ggX2_tired_X3_everybody
theorem dX2_tired_0 : decode cX2_tired 0 = .ok (.aload_n 1, 1) := by decide +kernel
theorem dX2_tired_1 : decode cX2_tired 1 = .ok (.invokevirtual 15, 3) := by decide +kernel
theorem dX2_tired_4 : decode cX2_tired 4 = .ok (.aload_n 0, 1) := by decide +kernel
theorem dX2_tired_5 : decode cX2_tired 5 = .ok (.getfield 21, 3) := by decide +kernel
theorem dX2_tired_8 : decode cX2_tired 8 = .ok (.iconst (-1), 1) := by decide +kernel
theorem dX2_tired_9 : decode cX2_tired 9 = .ok (.ixor, 1) := by decide +kernel
theorem dX2_tired_10 : decode cX2_tired 10 = .ok (.iand, 1) := by decide +kernel
theorem dX2_tired_11 : decode cX2_tired 11 = .ok (.aload_n 0, 1) := by decide +kernel
theorem dX2_tired_12 : decode cX2_tired 12 = .ok (.getfield 25, 3) := by decide +kernel
theorem dX2_tired_15 : decode cX2_tired 15 = .ok (.iconst (-1), 1) := by decide +kernel
theorem dX2_tired_16 : decode cX2_tired 16 = .ok (.ixor, 1) := by decide +kernel
theorem dX2_tired_17 : decode cX2_tired 17 = .ok (.iand, 1) := by decide +kernel
theorem dX2_tired_18 : decode cX2_tired 18 = .ok (.ireturn, 1) := by decide +kernel
set_option maxRecDepth 20000 in
theorem ggX2_windOf_X4_at : GoodIn wsX2_windOf wsX4_at := goodIn_r _ [4] (by decide +kernel) (by decide +kernel)
set_option maxRecDepth 20000 in
theorem gX2_windOf_X4_at_n47 : GoodIn wsX2_windOf (wsX4_at) := ggX2_windOf_X4_at
theorem dX2_windOf_0 : decode cX2_windOf 0 = .ok (.aload_n 0, 1) := by decide +kernel
theorem dX2_windOf_1 : decode cX2_windOf 1 = .ok (.getfield 9, 3) := by decide +kernel
theorem dX2_windOf_4 : decode cX2_windOf 4 = .ok (.iload_n 1, 1) := by decide +kernel
theorem dX2_windOf_5 : decode cX2_windOf 5 = .ok (.invokestatic 47, 3) := by decide +kernel
theorem dX2_windOf_8 : decode cX2_windOf 8 = .ok (.ireturn, 1) := by decide +kernel
set_option maxRecDepth 20000 in
theorem ggX2_howManyPlay_J6_bitCount_0f7a4 : GoodIn wsX2_howManyPlay wsJ6_bitCount_0f7a4 := goodIn_r _ [5, 6, 7, 8] (by decide +kernel) (by decide +kernel)
set_option maxRecDepth 20000 in
theorem gX2_howManyPlay_J6_bitCount_0f7a4 : GoodIn wsX2_howManyPlay (va_wsS RX2 61 yJ6_bitCount_0f7a4 wsJ6_bitCount_0f7a4) := goodIn_app (goodIn_of _ (by decide +kernel)) ggX2_howManyPlay_J6_bitCount_0f7a4
theorem dX2_howManyPlay_0 : decode cX2_howManyPlay 0 = .ok (.aload_n 0, 1) := by decide +kernel
theorem dX2_howManyPlay_1 : decode cX2_howManyPlay 1 = .ok (.getfield 21, 3) := by decide +kernel
theorem dX2_howManyPlay_4 : decode cX2_howManyPlay 4 = .ok (.invokestatic 61, 3) := by decide +kernel
theorem dX2_howManyPlay_7 : decode cX2_howManyPlay 7 = .ok (.ireturn, 1) := by decide +kernel
theorem dX2_isSilent_0 : decode cX2_isSilent 0 = .ok (.aload_n 0, 1) := by decide +kernel
theorem dX2_isSilent_1 : decode cX2_isSilent 1 = .ok (.getfield 21, 3) := by decide +kernel
theorem dX2_isSilent_4 : decode cX2_isSilent 4 = .ok (.ifCond .eq 14, 3) := by decide +kernel
theorem dX2_isSilent_7 : decode cX2_isSilent 7 = .ok (.aload_n 0, 1) := by decide +kernel
theorem dX2_isSilent_8 : decode cX2_isSilent 8 = .ok (.getfield 28, 3) := by decide +kernel
theorem dX2_isSilent_11 : decode cX2_isSilent 11 = .ok (.aload_n 1, 1) := by decide +kernel
theorem dX2_isSilent_12 : decode cX2_isSilent 12 = .ok (.getfield 67, 3) := by decide +kernel
theorem dX2_isSilent_15 : decode cX2_isSilent 15 = .ok (.if_icmp .lt 7, 3) := by decide +kernel
theorem dX2_isSilent_18 : decode cX2_isSilent 18 = .ok (.iconst 1, 1) := by decide +kernel
theorem dX2_isSilent_19 : decode cX2_isSilent 19 = .ok (.goto 4, 3) := by decide +kernel
theorem dX2_isSilent_22 : decode cX2_isSilent 22 = .ok (.iconst 0, 1) := by decide +kernel
theorem dX2_isSilent_23 : decode cX2_isSilent 23 = .ok (.ireturn, 1) := by decide +kernel
set_option maxRecDepth 20000 in
theorem ggX2_barToCome_X2_isSilent : GoodIn wsX2_barToCome wsX2_isSilent := goodIn_r _ [6, 7, 1, 8, 9, 10, 11, 12, 13, 14, 15, 16, 17, 18, 19, 20, 21, 22, 23] (by decide +kernel) (by decide +kernel)
set_option maxRecDepth 20000 in
theorem gX2_barToCome_X2_isSilent : GoodIn wsX2_barToCome (wsV RX2 70 RX2 yX2_isSilent wsX2_isSilent) := goodIn_app (goodIn_of _ (by decide +kernel)) ggX2_barToCome_X2_isSilent
theorem dX2_barToCome_0 : decode cX2_barToCome 0 = .ok (.aload_n 0, 1) := by decide +kernel
theorem dX2_barToCome_1 : decode cX2_barToCome 1 = .ok (.aload_n 1, 1) := by decide +kernel
theorem dX2_barToCome_2 : decode cX2_barToCome 2 = .ok (.invokevirtual 70, 3) := by decide +kernel
theorem dX2_barToCome_5 : decode cX2_barToCome 5 = .ok (.ifCond .eq 8, 3) := by decide +kernel
theorem dX2_barToCome_8 : decode cX2_barToCome 8 = .ok (.bipush (-9), 2) := by decide +kernel
theorem dX2_barToCome_10 : decode cX2_barToCome 10 = .ok (.goto 7, 3) := by decide +kernel
theorem dX2_barToCome_13 : decode cX2_barToCome 13 = .ok (.aload_n 0, 1) := by decide +kernel
theorem dX2_barToCome_14 : decode cX2_barToCome 14 = .ok (.getfield 28, 3) := by decide +kernel
theorem dX2_barToCome_17 : decode cX2_barToCome 17 = .ok (.ireturn, 1) := by decide +kernel
set_option maxRecDepth 20000 in
theorem ggX2_playBar_X2_isSilent : GoodIn wsX2_playBar wsX2_isSilent := goodIn_r _ [6, 7, 8, 9, 82, 83, 84, 85, 86, 87, 88, 89, 90, 91, 92, 93, 94, 95, 96] (by decide +kernel) (by decide +kernel)
set_option maxRecDepth 20000 in
theorem gX2_playBar_X2_isSilent : GoodIn wsX2_playBar (wsV RX2 70 RX2 yX2_isSilent wsX2_isSilent) := goodIn_app (goodIn_of _ (by decide +kernel)) ggX2_playBar_X2_isSilent
set_option maxRecDepth 20000 in
theorem ggX2_playBar_X2_spendWind : GoodIn wsX2_playBar wsX2_spendWind := goodIn_r _ [13, 14, 8, 15, 16, 17, 18, 19, 20, 21, 22, 23, 24, 25, 26, 27, 5, 28, 7, 29, 30, 31, 32, 33, 34, 35, 36, 37, 38, 89, 90, 91, 92, 93, 94, 95, 96, 82, 83, 84, 85, 86, 87, 88] (by decide +kernel) (by decide +kernel)
set_option maxRecDepth 20000 in
theorem gX2_playBar_X2_spendWind : GoodIn wsX2_playBar (wsV RX2 74 RX2 yX2_spendWind wsX2_spendWind) := goodIn_app (goodIn_of _ (by decide +kernel)) ggX2_playBar_X2_spendWind
set_option maxRecDepth 20000 in
theorem ggX2_playBar_X2_tireLeaners : GoodIn wsX2_playBar wsX2_tireLeaners := goodIn_r _ [42, 15, 43, 16, 22, 23, 24, 44, 45, 46, 47, 48, 49, 25, 26, 27, 5, 28, 7, 35, 36, 37, 38, 89, 90, 91, 92, 93, 94, 95, 96, 82, 83, 84, 85, 86, 87, 88] (by decide +kernel) (by decide +kernel)
set_option maxRecDepth 20000 in
theorem gX2_playBar_X2_tireLeaners : GoodIn wsX2_playBar (wsV RX2 78 RX2 yX2_tireLeaners wsX2_tireLeaners) := goodIn_app (goodIn_of _ (by decide +kernel)) ggX2_playBar_X2_tireLeaners
set_option maxRecDepth 20000 in
theorem ggX2_playBar_X2_tireLonelyBasses : GoodIn wsX2_playBar wsX2_tireLonelyBasses := goodIn_r _ [53, 15, 16, 7, 25, 26, 27, 5, 28, 22, 23, 24, 89, 90, 91, 92, 93, 94, 95, 96, 82, 83, 84, 85, 86, 87, 88] (by decide +kernel) (by decide +kernel)
set_option maxRecDepth 20000 in
theorem gX2_playBar_X2_tireLonelyBasses : GoodIn wsX2_playBar (wsV RX2 81 RX2 yX2_tireLonelyBasses wsX2_tireLonelyBasses) := goodIn_app (goodIn_of _ (by decide +kernel)) ggX2_playBar_X2_tireLonelyBasses
set_option maxRecDepth 20000 in
theorem ggX2_playBar_X2_wakeDrums : GoodIn wsX2_playBar wsX2_wakeDrums := goodIn_r _ [57, 15, 43, 16, 7, 21, 22, 23, 24, 58, 59, 60, 5, 61, 25, 26, 27, 28, 62, 63, 64, 65, 66, 44, 45, 46, 47, 48, 49, 33, 34, 89, 90, 91, 92, 93, 94, 95, 96, 82, 83, 84, 85, 86, 87, 88] (by decide +kernel) (by decide +kernel)
set_option maxRecDepth 20000 in
theorem gX2_playBar_X2_wakeDrums : GoodIn wsX2_playBar (wsV RX2 84 RX2 yX2_wakeDrums wsX2_wakeDrums) := goodIn_app (goodIn_of _ (by decide +kernel)) ggX2_playBar_X2_wakeDrums
set_option maxRecDepth 20000 in
theorem ggX2_playBar_X2_turnPage : GoodIn wsX2_playBar wsX2_turnPage := goodIn_r _ [70, 71, 8, 72, 22, 23, 24, 73, 74, 75, 47, 76, 77, 78, 79, 80, 5, 81, 89, 90, 91, 92, 93, 94, 95, 96, 82, 83, 84, 85, 86, 87, 88] (by decide +kernel) (by decide +kernel)
set_option maxRecDepth 20000 in
theorem gX2_playBar_X2_turnPage : GoodIn wsX2_playBar (wsV RX2 87 RX2 yX2_turnPage wsX2_turnPage) := goodIn_app (goodIn_of _ (by decide +kernel)) ggX2_playBar_X2_turnPage
theorem dX2_playBar_0 : decode cX2_playBar 0 = .ok (.aload_n 0, 1) := by decide +kernel
theorem dX2_playBar_1 : decode cX2_playBar 1 = .ok (.aload_n 1, 1) := by decide +kernel
theorem dX2_playBar_2 : decode cX2_playBar 2 = .ok (.invokevirtual 70, 3) := by decide +kernel
theorem dX2_playBar_5 : decode cX2_playBar 5 = .ok (.ifCond .eq 5, 3) := by decide +kernel
theorem dX2_playBar_8 : decode cX2_playBar 8 = .ok (.iconst 0, 1) := by decide +kernel
theorem dX2_playBar_9 : decode cX2_playBar 9 = .ok (.ireturn, 1) := by decide +kernel
theorem dX2_playBar_10 : decode cX2_playBar 10 = .ok (.aload_n 0, 1) := by decide +kernel
theorem dX2_playBar_11 : decode cX2_playBar 11 = .ok (.aload_n 1, 1) := by decide +kernel
theorem dX2_playBar_12 : decode cX2_playBar 12 = .ok (.invokevirtual 74, 3) := by decide +kernel
theorem dX2_playBar_15 : decode cX2_playBar 15 = .ok (.aload_n 0, 1) := by decide +kernel
theorem dX2_playBar_16 : decode cX2_playBar 16 = .ok (.aload_n 1, 1) := by decide +kernel
theorem dX2_playBar_17 : decode cX2_playBar 17 = .ok (.invokevirtual 78, 3) := by decide +kernel
theorem dX2_playBar_20 : decode cX2_playBar 20 = .ok (.aload_n 0, 1) := by decide +kernel
theorem dX2_playBar_21 : decode cX2_playBar 21 = .ok (.aload_n 1, 1) := by decide +kernel
theorem dX2_playBar_22 : decode cX2_playBar 22 = .ok (.invokevirtual 81, 3) := by decide +kernel
theorem dX2_playBar_25 : decode cX2_playBar 25 = .ok (.aload_n 0, 1) := by decide +kernel
theorem dX2_playBar_26 : decode cX2_playBar 26 = .ok (.aload_n 1, 1) := by decide +kernel
theorem dX2_playBar_27 : decode cX2_playBar 27 = .ok (.invokevirtual 84, 3) := by decide +kernel
theorem dX2_playBar_30 : decode cX2_playBar 30 = .ok (.aload_n 0, 1) := by decide +kernel
theorem dX2_playBar_31 : decode cX2_playBar 31 = .ok (.aload_n 1, 1) := by decide +kernel
theorem dX2_playBar_32 : decode cX2_playBar 32 = .ok (.invokevirtual 87, 3) := by decide +kernel
theorem dX2_playBar_35 : decode cX2_playBar 35 = .ok (.aload_n 0, 1) := by decide +kernel
theorem dX2_playBar_36 : decode cX2_playBar 36 = .ok (.dup, 1) := by decide +kernel
theorem dX2_playBar_37 : decode cX2_playBar 37 = .ok (.getfield 37, 3) := by decide +kernel
theorem dX2_playBar_40 : decode cX2_playBar 40 = .ok (.iconst 1, 1) := by decide +kernel
theorem dX2_playBar_41 : decode cX2_playBar 41 = .ok (.iadd, 1) := by decide +kernel
theorem dX2_playBar_42 : decode cX2_playBar 42 = .ok (.putfield 37, 3) := by decide +kernel
theorem dX2_playBar_45 : decode cX2_playBar 45 = .ok (.iconst 1, 1) := by decide +kernel
theorem dX2_playBar_46 : decode cX2_playBar 46 = .ok (.ireturn, 1) := by decide +kernel
set_option maxRecDepth 20000 in
theorem ggX2_spendWind_X4_at : GoodIn wsX2_spendWind wsX4_at := goodIn_r _ [12] (by decide +kernel) (by decide +kernel)
set_option maxRecDepth 20000 in
theorem gX2_spendWind_X4_at_n47 : GoodIn wsX2_spendWind (wsX4_at) := ggX2_spendWind_X4_at
set_option maxRecDepth 20000 in
theorem ggX2_spendWind_X2_isPlaying : GoodIn wsX2_spendWind wsX2_isPlaying := goodIn_r _ [17, 18, 37, 38, 39, 40, 41, 42, 43] (by decide +kernel) (by decide +kernel)
set_option maxRecDepth 20000 in
theorem gX2_spendWind_X2_isPlaying : GoodIn wsX2_spendWind (wsV RX2 55 RX2 yX2_isPlaying wsX2_isPlaying) := goodIn_app (goodIn_of _ (by decide +kernel)) ggX2_spendWind_X2_isPlaying
set_option maxRecDepth 20000 in
theorem ggX2_spendWind_X2_windOf : GoodIn wsX2_spendWind wsX2_windOf := goodIn_r _ [22, 9, 10, 11, 12, 37, 38, 39, 40, 41, 42, 43] (by decide +kernel) (by decide +kernel)
set_option maxRecDepth 20000 in
theorem gX2_spendWind_X2_windOf : GoodIn wsX2_spendWind (wsV RX2 99 RX2 yX2_windOf wsX2_windOf) := goodIn_app (goodIn_of _ (by decide +kernel)) ggX2_spendWind_X2_windOf
set_option maxRecDepth 20000 in
theorem ggX2_spendWind_X4_put : GoodIn wsX2_spendWind wsX4_put := goodIn_r _ [24] (by decide +kernel) (by decide +kernel)
set_option maxRecDepth 20000 in
theorem gX2_spendWind_X4_put_n51 : GoodIn wsX2_spendWind (wsX4_put) := ggX2_spendWind_X4_put
set_option maxRecDepth 20000 in
theorem ggX2_spendWind_X2_tire : GoodIn wsX2_spendWind wsX2_tire := goodIn_r _ [28, 18, 37, 38, 39, 40, 41, 42, 43] (by decide +kernel) (by decide +kernel)
set_option maxRecDepth 20000 in
theorem gX2_spendWind_X2_tire : GoodIn wsX2_spendWind (wsV RX2 108 RX2 yX2_tire wsX2_tire) := goodIn_app (goodIn_of _ (by decide +kernel)) ggX2_spendWind_X2_tire
theorem dX2_spendWind_0 : decode cX2_spendWind 0 = .ok (.aload_n 1, 1) := by decide +kernel
theorem dX2_spendWind_1 : decode cX2_spendWind 1 = .ok (.getfield 90, 3) := by decide +kernel
theorem dX2_spendWind_4 : decode cX2_spendWind 4 = .ok (.aload_n 0, 1) := by decide +kernel
theorem dX2_spendWind_5 : decode cX2_spendWind 5 = .ok (.getfield 28, 3) := by decide +kernel
theorem dX2_spendWind_8 : decode cX2_spendWind 8 = .ok (.invokestatic 47, 3) := by decide +kernel
theorem dX2_spendWind_11 : decode cX2_spendWind 11 = .ok (.iconst 5, 1) := by decide +kernel
theorem dX2_spendWind_12 : decode cX2_spendWind 12 = .ok (.if_icmp .lt 7, 3) := by decide +kernel
theorem dX2_spendWind_15 : decode cX2_spendWind 15 = .ok (.iconst 1, 1) := by decide +kernel
theorem dX2_spendWind_16 : decode cX2_spendWind 16 = .ok (.goto 4, 3) := by decide +kernel
theorem dX2_spendWind_19 : decode cX2_spendWind 19 = .ok (.iconst 0, 1) := by decide +kernel
theorem dX2_spendWind_20 : decode cX2_spendWind 20 = .ok (.istore_n 2, 1) := by decide +kernel
theorem dX2_spendWind_21 : decode cX2_spendWind 21 = .ok (.iconst 0, 1) := by decide +kernel
theorem dX2_spendWind_22 : decode cX2_spendWind 22 = .ok (.istore_n 3, 1) := by decide +kernel
theorem dX2_spendWind_23 : decode cX2_spendWind 23 = .ok (.iload_n 3, 1) := by decide +kernel
theorem dX2_spendWind_24 : decode cX2_spendWind 24 = .ok (.aload_n 1, 1) := by decide +kernel
theorem dX2_spendWind_25 : decode cX2_spendWind 25 = .ok (.getfield 93, 3) := by decide +kernel
theorem dX2_spendWind_28 : decode cX2_spendWind 28 = .ok (.if_icmp .ge 76, 3) := by decide +kernel
theorem dX2_spendWind_31 : decode cX2_spendWind 31 = .ok (.aload_n 0, 1) := by decide +kernel
theorem dX2_spendWind_32 : decode cX2_spendWind 32 = .ok (.iload_n 3, 1) := by decide +kernel
theorem dX2_spendWind_33 : decode cX2_spendWind 33 = .ok (.invokevirtual 55, 3) := by decide +kernel
theorem dX2_spendWind_36 : decode cX2_spendWind 36 = .ok (.ifCond .eq 62, 3) := by decide +kernel
theorem dX2_spendWind_39 : decode cX2_spendWind 39 = .ok (.iload_n 2, 1) := by decide +kernel
theorem dX2_spendWind_40 : decode cX2_spendWind 40 = .ok (.ifCond .eq 19, 3) := by decide +kernel
theorem dX2_spendWind_43 : decode cX2_spendWind 43 = .ok (.aload_n 1, 1) := by decide +kernel
theorem dX2_spendWind_44 : decode cX2_spendWind 44 = .ok (.getfield 96, 3) := by decide +kernel
theorem dX2_spendWind_47 : decode cX2_spendWind 47 = .ok (.iload_n 3, 1) := by decide +kernel
theorem dX2_spendWind_48 : decode cX2_spendWind 48 = .ok (.invokestatic 47, 3) := by decide +kernel
theorem dX2_spendWind_51 : decode cX2_spendWind 51 = .ok (.iconst 2, 1) := by decide +kernel
theorem dX2_spendWind_52 : decode cX2_spendWind 52 = .ok (.if_icmp .ne 7, 3) := by decide +kernel
theorem dX2_spendWind_55 : decode cX2_spendWind 55 = .ok (.iconst 2, 1) := by decide +kernel
theorem dX2_spendWind_56 : decode cX2_spendWind 56 = .ok (.goto 4, 3) := by decide +kernel
theorem dX2_spendWind_59 : decode cX2_spendWind 59 = .ok (.iconst 1, 1) := by decide +kernel
theorem dX2_spendWind_60 : decode cX2_spendWind 60 = .ok (.istore 4, 2) := by decide +kernel
theorem dX2_spendWind_62 : decode cX2_spendWind 62 = .ok (.iconst 0, 1) := by decide +kernel
theorem dX2_spendWind_63 : decode cX2_spendWind 63 = .ok (.aload_n 0, 1) := by decide +kernel
theorem dX2_spendWind_64 : decode cX2_spendWind 64 = .ok (.iload_n 3, 1) := by decide +kernel
theorem dX2_spendWind_65 : decode cX2_spendWind 65 = .ok (.invokevirtual 99, 3) := by decide +kernel
theorem dX2_spendWind_68 : decode cX2_spendWind 68 = .ok (.iload 4, 2) := by decide +kernel
theorem dX2_spendWind_70 : decode cX2_spendWind 70 = .ok (.isub, 1) := by decide +kernel
theorem dX2_spendWind_71 : decode cX2_spendWind 71 = .ok (.invokestatic 102, 3) := by decide +kernel
theorem dX2_spendWind_74 : decode cX2_spendWind 74 = .ok (.istore 5, 2) := by decide +kernel
theorem dX2_spendWind_76 : decode cX2_spendWind 76 = .ok (.aload_n 0, 1) := by decide +kernel
theorem dX2_spendWind_77 : decode cX2_spendWind 77 = .ok (.getfield 9, 3) := by decide +kernel
theorem dX2_spendWind_80 : decode cX2_spendWind 80 = .ok (.iload_n 3, 1) := by decide +kernel
theorem dX2_spendWind_81 : decode cX2_spendWind 81 = .ok (.iload 5, 2) := by decide +kernel
theorem dX2_spendWind_83 : decode cX2_spendWind 83 = .ok (.invokestatic 51, 3) := by decide +kernel
theorem dX2_spendWind_86 : decode cX2_spendWind 86 = .ok (.iload 5, 2) := by decide +kernel
theorem dX2_spendWind_88 : decode cX2_spendWind 88 = .ok (.ifCond .ne 10, 3) := by decide +kernel
theorem dX2_spendWind_91 : decode cX2_spendWind 91 = .ok (.aload_n 0, 1) := by decide +kernel
theorem dX2_spendWind_92 : decode cX2_spendWind 92 = .ok (.iconst 1, 1) := by decide +kernel
theorem dX2_spendWind_93 : decode cX2_spendWind 93 = .ok (.iload_n 3, 1) := by decide +kernel
theorem dX2_spendWind_94 : decode cX2_spendWind 94 = .ok (.ishl, 1) := by decide +kernel
theorem dX2_spendWind_95 : decode cX2_spendWind 95 = .ok (.invokevirtual 108, 3) := by decide +kernel
theorem dX2_spendWind_98 : decode cX2_spendWind 98 = .ok (.iinc 3 1, 3) := by decide +kernel
theorem dX2_spendWind_101 : decode cX2_spendWind 101 = .ok (.goto (-78), 3) := by decide +kernel
theorem dX2_spendWind_104 : decode cX2_spendWind 104 = .ok (.return_, 1) := by decide +kernel
set_option maxRecDepth 20000 in
theorem ggX2_tireLeaners_X4_at : GoodIn wsX2_tireLeaners wsX4_at := goodIn_r _ [6] (by decide +kernel) (by decide +kernel)
set_option maxRecDepth 20000 in
theorem gX2_tireLeaners_X4_at_n47 : GoodIn wsX2_tireLeaners (wsX4_at) := ggX2_tireLeaners_X4_at
set_option maxRecDepth 20000 in
theorem ggX2_tireLeaners_X3_hasPlayer : GoodIn wsX2_tireLeaners wsX3_hasPlayer := goodIn_r _ [11, 12, 23, 24, 25, 26, 27, 28, 29, 30] (by decide +kernel) (by decide +kernel)
set_option maxRecDepth 20000 in
theorem gX2_tireLeaners_X3_hasPlayer : GoodIn wsX2_tireLeaners (wsV RX2 40 RX3 yX3_hasPlayer wsX3_hasPlayer) := goodIn_app (goodIn_of _ (by decide +kernel)) ggX2_tireLeaners_X3_hasPlayer
set_option maxRecDepth 20000 in
theorem ggX2_tireLeaners_X2_isPlaying : GoodIn wsX2_tireLeaners wsX2_isPlaying := goodIn_r _ [17, 18, 31, 32, 33, 34, 35, 36, 37] (by decide +kernel) (by decide +kernel)
set_option maxRecDepth 20000 in
theorem gX2_tireLeaners_X2_isPlaying : GoodIn wsX2_tireLeaners (wsV RX2 55 RX2 yX2_isPlaying wsX2_isPlaying) := goodIn_app (goodIn_of _ (by decide +kernel)) ggX2_tireLeaners_X2_isPlaying
set_option maxRecDepth 20000 in
theorem ggX2_tireLeaners_X2_tire : GoodIn wsX2_tireLeaners wsX2_tire := goodIn_r _ [22, 18, 31, 32, 33, 34, 35, 36, 37] (by decide +kernel) (by decide +kernel)
set_option maxRecDepth 20000 in
theorem gX2_tireLeaners_X2_tire : GoodIn wsX2_tireLeaners (wsV RX2 108 RX2 yX2_tire wsX2_tire) := goodIn_app (goodIn_of _ (by decide +kernel)) ggX2_tireLeaners_X2_tire
theorem dX2_tireLeaners_0 : decode cX2_tireLeaners 0 = .ok (.iconst 0, 1) := by decide +kernel
theorem dX2_tireLeaners_1 : decode cX2_tireLeaners 1 = .ok (.istore_n 2, 1) := by decide +kernel
theorem dX2_tireLeaners_2 : decode cX2_tireLeaners 2 = .ok (.iload_n 2, 1) := by decide +kernel
theorem dX2_tireLeaners_3 : decode cX2_tireLeaners 3 = .ok (.aload_n 1, 1) := by decide +kernel
theorem dX2_tireLeaners_4 : decode cX2_tireLeaners 4 = .ok (.getfield 93, 3) := by decide +kernel
theorem dX2_tireLeaners_7 : decode cX2_tireLeaners 7 = .ok (.if_icmp .ge 53, 3) := by decide +kernel
theorem dX2_tireLeaners_10 : decode cX2_tireLeaners 10 = .ok (.aload_n 1, 1) := by decide +kernel
theorem dX2_tireLeaners_11 : decode cX2_tireLeaners 11 = .ok (.getfield 112, 3) := by decide +kernel
theorem dX2_tireLeaners_14 : decode cX2_tireLeaners 14 = .ok (.iload_n 2, 1) := by decide +kernel
theorem dX2_tireLeaners_15 : decode cX2_tireLeaners 15 = .ok (.invokestatic 47, 3) := by decide +kernel
theorem dX2_tireLeaners_18 : decode cX2_tireLeaners 18 = .ok (.istore_n 3, 1) := by decide +kernel
theorem dX2_tireLeaners_19 : decode cX2_tireLeaners 19 = .ok (.aload_n 1, 1) := by decide +kernel
theorem dX2_tireLeaners_20 : decode cX2_tireLeaners 20 = .ok (.getfield 96, 3) := by decide +kernel
theorem dX2_tireLeaners_23 : decode cX2_tireLeaners 23 = .ok (.iload_n 2, 1) := by decide +kernel
theorem dX2_tireLeaners_24 : decode cX2_tireLeaners 24 = .ok (.invokestatic 47, 3) := by decide +kernel
theorem dX2_tireLeaners_27 : decode cX2_tireLeaners 27 = .ok (.iconst 1, 1) := by decide +kernel
theorem dX2_tireLeaners_28 : decode cX2_tireLeaners 28 = .ok (.if_icmp .ne 26, 3) := by decide +kernel
theorem dX2_tireLeaners_31 : decode cX2_tireLeaners 31 = .ok (.aload_n 1, 1) := by decide +kernel
theorem dX2_tireLeaners_32 : decode cX2_tireLeaners 32 = .ok (.iload_n 3, 1) := by decide +kernel
theorem dX2_tireLeaners_33 : decode cX2_tireLeaners 33 = .ok (.invokevirtual 40, 3) := by decide +kernel
theorem dX2_tireLeaners_36 : decode cX2_tireLeaners 36 = .ok (.ifCond .eq 18, 3) := by decide +kernel
theorem dX2_tireLeaners_39 : decode cX2_tireLeaners 39 = .ok (.aload_n 0, 1) := by decide +kernel
theorem dX2_tireLeaners_40 : decode cX2_tireLeaners 40 = .ok (.iload_n 3, 1) := by decide +kernel
theorem dX2_tireLeaners_41 : decode cX2_tireLeaners 41 = .ok (.invokevirtual 55, 3) := by decide +kernel
theorem dX2_tireLeaners_44 : decode cX2_tireLeaners 44 = .ok (.ifCond .ne 10, 3) := by decide +kernel
theorem dX2_tireLeaners_47 : decode cX2_tireLeaners 47 = .ok (.aload_n 0, 1) := by decide +kernel
theorem dX2_tireLeaners_48 : decode cX2_tireLeaners 48 = .ok (.iconst 1, 1) := by decide +kernel
theorem dX2_tireLeaners_49 : decode cX2_tireLeaners 49 = .ok (.iload_n 2, 1) := by decide +kernel
theorem dX2_tireLeaners_50 : decode cX2_tireLeaners 50 = .ok (.ishl, 1) := by decide +kernel
theorem dX2_tireLeaners_51 : decode cX2_tireLeaners 51 = .ok (.invokevirtual 108, 3) := by decide +kernel
theorem dX2_tireLeaners_54 : decode cX2_tireLeaners 54 = .ok (.iinc 2 1, 3) := by decide +kernel
theorem dX2_tireLeaners_57 : decode cX2_tireLeaners 57 = .ok (.goto (-55), 3) := by decide +kernel
theorem dX2_tireLeaners_60 : decode cX2_tireLeaners 60 = .ok (.return_, 1) := by decide +kernel
set_option maxRecDepth 20000 in
theorem ggX2_tireLonelyBasses_X2_isPlaying : GoodIn wsX2_tireLonelyBasses wsX2_isPlaying := goodIn_r _ [8, 3, 20, 21, 22, 23, 24, 25, 26] (by decide +kernel) (by decide +kernel)
set_option maxRecDepth 20000 in
theorem gX2_tireLonelyBasses_X2_isPlaying : GoodIn wsX2_tireLonelyBasses (wsV RX2 55 RX2 yX2_isPlaying wsX2_isPlaying) := goodIn_app (goodIn_of _ (by decide +kernel)) ggX2_tireLonelyBasses_X2_isPlaying
set_option maxRecDepth 20000 in
theorem ggX2_tireLonelyBasses_X4_at : GoodIn wsX2_tireLonelyBasses wsX4_at := goodIn_r _ [11] (by decide +kernel) (by decide +kernel)
set_option maxRecDepth 20000 in
theorem gX2_tireLonelyBasses_X4_at_n47 : GoodIn wsX2_tireLonelyBasses (wsX4_at) := ggX2_tireLonelyBasses_X4_at
theorem dX2_tireLonelyBasses_0 : decode cX2_tireLonelyBasses 0 = .ok (.iconst 0, 1) := by decide +kernel
theorem dX2_tireLonelyBasses_1 : decode cX2_tireLonelyBasses 1 = .ok (.istore_n 2, 1) := by decide +kernel
theorem dX2_tireLonelyBasses_2 : decode cX2_tireLonelyBasses 2 = .ok (.iload_n 2, 1) := by decide +kernel
theorem dX2_tireLonelyBasses_3 : decode cX2_tireLonelyBasses 3 = .ok (.aload_n 1, 1) := by decide +kernel
theorem dX2_tireLonelyBasses_4 : decode cX2_tireLonelyBasses 4 = .ok (.getfield 93, 3) := by decide +kernel
theorem dX2_tireLonelyBasses_7 : decode cX2_tireLonelyBasses 7 = .ok (.if_icmp .ge 30, 3) := by decide +kernel
theorem dX2_tireLonelyBasses_10 : decode cX2_tireLonelyBasses 10 = .ok (.aload_n 0, 1) := by decide +kernel
theorem dX2_tireLonelyBasses_11 : decode cX2_tireLonelyBasses 11 = .ok (.iload_n 2, 1) := by decide +kernel
theorem dX2_tireLonelyBasses_12 : decode cX2_tireLonelyBasses 12 = .ok (.invokevirtual 55, 3) := by decide +kernel
theorem dX2_tireLonelyBasses_15 : decode cX2_tireLonelyBasses 15 = .ok (.ifCond .eq 16, 3) := by decide +kernel
theorem dX2_tireLonelyBasses_18 : decode cX2_tireLonelyBasses 18 = .ok (.aload_n 1, 1) := by decide +kernel
theorem dX2_tireLonelyBasses_19 : decode cX2_tireLonelyBasses 19 = .ok (.getfield 96, 3) := by decide +kernel
theorem dX2_tireLonelyBasses_22 : decode cX2_tireLonelyBasses 22 = .ok (.iload_n 2, 1) := by decide +kernel
theorem dX2_tireLonelyBasses_23 : decode cX2_tireLonelyBasses 23 = .ok (.invokestatic 47, 3) := by decide +kernel
theorem dX2_tireLonelyBasses_26 : decode cX2_tireLonelyBasses 26 = .ok (.iconst 2, 1) := by decide +kernel
theorem dX2_tireLonelyBasses_27 : decode cX2_tireLonelyBasses 27 = .ok (.if_icmp .eq 4, 3) := by decide +kernel
theorem dX2_tireLonelyBasses_30 : decode cX2_tireLonelyBasses 30 = .ok (.return_, 1) := by decide +kernel
theorem dX2_tireLonelyBasses_31 : decode cX2_tireLonelyBasses 31 = .ok (.iinc 2 1, 3) := by decide +kernel
theorem dX2_tireLonelyBasses_34 : decode cX2_tireLonelyBasses 34 = .ok (.goto (-32), 3) := by decide +kernel
theorem dX2_tireLonelyBasses_37 : decode cX2_tireLonelyBasses 37 = .ok (.aload_n 0, 1) := by decide +kernel
theorem dX2_tireLonelyBasses_38 : decode cX2_tireLonelyBasses 38 = .ok (.iconst 0, 1) := by decide +kernel
theorem dX2_tireLonelyBasses_39 : decode cX2_tireLonelyBasses 39 = .ok (.putfield 21, 3) := by decide +kernel
theorem dX2_tireLonelyBasses_42 : decode cX2_tireLonelyBasses 42 = .ok (.return_, 1) := by decide +kernel
set_option maxRecDepth 20000 in
theorem ggX2_wakeDrums_X4_at : GoodIn wsX2_wakeDrums wsX4_at := goodIn_r _ [8] (by decide +kernel) (by decide +kernel)
set_option maxRecDepth 20000 in
theorem gX2_wakeDrums_X4_at_n47 : GoodIn wsX2_wakeDrums (wsX4_at) := ggX2_wakeDrums_X4_at
set_option maxRecDepth 20000 in
theorem ggX2_wakeDrums_X2_isTired : GoodIn wsX2_wakeDrums wsX2_isTired := goodIn_r _ [13, 14, 15, 16, 12, 17, 4, 18, 19, 20, 21, 22, 39, 40, 41, 42, 43, 44, 45] (by decide +kernel) (by decide +kernel)
set_option maxRecDepth 20000 in
theorem gX2_wakeDrums_X2_isTired : GoodIn wsX2_wakeDrums (wsV RX2 115 RX2 yX2_isTired wsX2_isTired) := goodIn_app (goodIn_of _ (by decide +kernel)) ggX2_wakeDrums_X2_isTired
set_option maxRecDepth 20000 in
theorem ggX2_wakeDrums_X3_hasPlayer : GoodIn wsX2_wakeDrums wsX3_hasPlayer := goodIn_r _ [27, 28, 31, 32, 33, 34, 35, 36, 37, 38] (by decide +kernel) (by decide +kernel)
set_option maxRecDepth 20000 in
theorem gX2_wakeDrums_X3_hasPlayer : GoodIn wsX2_wakeDrums (wsV RX2 40 RX3 yX3_hasPlayer wsX3_hasPlayer) := goodIn_app (goodIn_of _ (by decide +kernel)) ggX2_wakeDrums_X3_hasPlayer
set_option maxRecDepth 20000 in
theorem ggX2_wakeDrums_X2_isPlaying : GoodIn wsX2_wakeDrums wsX2_isPlaying := goodIn_r _ [17, 4, 39, 40, 41, 42, 43, 44, 45] (by decide +kernel) (by decide +kernel)
set_option maxRecDepth 20000 in
theorem gX2_wakeDrums_X2_isPlaying : GoodIn wsX2_wakeDrums (wsV RX2 55 RX2 yX2_isPlaying wsX2_isPlaying) := goodIn_app (goodIn_of _ (by decide +kernel)) ggX2_wakeDrums_X2_isPlaying
set_option maxRecDepth 20000 in
theorem ggX2_wakeDrums_X4_put : GoodIn wsX2_wakeDrums wsX4_put := goodIn_r _ [30] (by decide +kernel) (by decide +kernel)
set_option maxRecDepth 20000 in
theorem gX2_wakeDrums_X4_put_n51 : GoodIn wsX2_wakeDrums (wsX4_put) := ggX2_wakeDrums_X4_put
theorem dX2_wakeDrums_0 : decode cX2_wakeDrums 0 = .ok (.iconst 0, 1) := by decide +kernel
theorem dX2_wakeDrums_1 : decode cX2_wakeDrums 1 = .ok (.istore_n 2, 1) := by decide +kernel
theorem dX2_wakeDrums_2 : decode cX2_wakeDrums 2 = .ok (.iload_n 2, 1) := by decide +kernel
theorem dX2_wakeDrums_3 : decode cX2_wakeDrums 3 = .ok (.aload_n 1, 1) := by decide +kernel
theorem dX2_wakeDrums_4 : decode cX2_wakeDrums 4 = .ok (.getfield 93, 3) := by decide +kernel
theorem dX2_wakeDrums_7 : decode cX2_wakeDrums 7 = .ok (.if_icmp .ge 75, 3) := by decide +kernel
theorem dX2_wakeDrums_10 : decode cX2_wakeDrums 10 = .ok (.aload_n 1, 1) := by decide +kernel
theorem dX2_wakeDrums_11 : decode cX2_wakeDrums 11 = .ok (.getfield 112, 3) := by decide +kernel
theorem dX2_wakeDrums_14 : decode cX2_wakeDrums 14 = .ok (.iload_n 2, 1) := by decide +kernel
theorem dX2_wakeDrums_15 : decode cX2_wakeDrums 15 = .ok (.invokestatic 47, 3) := by decide +kernel
theorem dX2_wakeDrums_18 : decode cX2_wakeDrums 18 = .ok (.istore_n 3, 1) := by decide +kernel
theorem dX2_wakeDrums_19 : decode cX2_wakeDrums 19 = .ok (.aload_n 1, 1) := by decide +kernel
theorem dX2_wakeDrums_20 : decode cX2_wakeDrums 20 = .ok (.getfield 96, 3) := by decide +kernel
theorem dX2_wakeDrums_23 : decode cX2_wakeDrums 23 = .ok (.iload_n 2, 1) := by decide +kernel
theorem dX2_wakeDrums_24 : decode cX2_wakeDrums 24 = .ok (.invokestatic 47, 3) := by decide +kernel
theorem dX2_wakeDrums_27 : decode cX2_wakeDrums 27 = .ok (.iconst 3, 1) := by decide +kernel
theorem dX2_wakeDrums_28 : decode cX2_wakeDrums 28 = .ok (.if_icmp .ne 48, 3) := by decide +kernel
theorem dX2_wakeDrums_31 : decode cX2_wakeDrums 31 = .ok (.aload_n 0, 1) := by decide +kernel
theorem dX2_wakeDrums_32 : decode cX2_wakeDrums 32 = .ok (.iload_n 2, 1) := by decide +kernel
theorem dX2_wakeDrums_33 : decode cX2_wakeDrums 33 = .ok (.invokevirtual 115, 3) := by decide +kernel
theorem dX2_wakeDrums_36 : decode cX2_wakeDrums 36 = .ok (.ifCond .eq 40, 3) := by decide +kernel
theorem dX2_wakeDrums_39 : decode cX2_wakeDrums 39 = .ok (.aload_n 1, 1) := by decide +kernel
theorem dX2_wakeDrums_40 : decode cX2_wakeDrums 40 = .ok (.iload_n 3, 1) := by decide +kernel
theorem dX2_wakeDrums_41 : decode cX2_wakeDrums 41 = .ok (.invokevirtual 40, 3) := by decide +kernel
theorem dX2_wakeDrums_44 : decode cX2_wakeDrums 44 = .ok (.ifCond .eq 32, 3) := by decide +kernel
theorem dX2_wakeDrums_47 : decode cX2_wakeDrums 47 = .ok (.aload_n 0, 1) := by decide +kernel
theorem dX2_wakeDrums_48 : decode cX2_wakeDrums 48 = .ok (.iload_n 3, 1) := by decide +kernel
theorem dX2_wakeDrums_49 : decode cX2_wakeDrums 49 = .ok (.invokevirtual 55, 3) := by decide +kernel
theorem dX2_wakeDrums_52 : decode cX2_wakeDrums 52 = .ok (.ifCond .eq 24, 3) := by decide +kernel
theorem dX2_wakeDrums_55 : decode cX2_wakeDrums 55 = .ok (.aload_n 0, 1) := by decide +kernel
theorem dX2_wakeDrums_56 : decode cX2_wakeDrums 56 = .ok (.dup, 1) := by decide +kernel
theorem dX2_wakeDrums_57 : decode cX2_wakeDrums 57 = .ok (.getfield 21, 3) := by decide +kernel
theorem dX2_wakeDrums_60 : decode cX2_wakeDrums 60 = .ok (.iconst 1, 1) := by decide +kernel
theorem dX2_wakeDrums_61 : decode cX2_wakeDrums 61 = .ok (.iload_n 2, 1) := by decide +kernel
theorem dX2_wakeDrums_62 : decode cX2_wakeDrums 62 = .ok (.ishl, 1) := by decide +kernel
theorem dX2_wakeDrums_63 : decode cX2_wakeDrums 63 = .ok (.ior, 1) := by decide +kernel
theorem dX2_wakeDrums_64 : decode cX2_wakeDrums 64 = .ok (.putfield 21, 3) := by decide +kernel
theorem dX2_wakeDrums_67 : decode cX2_wakeDrums 67 = .ok (.aload_n 0, 1) := by decide +kernel
theorem dX2_wakeDrums_68 : decode cX2_wakeDrums 68 = .ok (.getfield 9, 3) := by decide +kernel
theorem dX2_wakeDrums_71 : decode cX2_wakeDrums 71 = .ok (.iload_n 2, 1) := by decide +kernel
theorem dX2_wakeDrums_72 : decode cX2_wakeDrums 72 = .ok (.iconst 2, 1) := by decide +kernel
theorem dX2_wakeDrums_73 : decode cX2_wakeDrums 73 = .ok (.invokestatic 51, 3) := by decide +kernel
theorem dX2_wakeDrums_76 : decode cX2_wakeDrums 76 = .ok (.iinc 2 1, 3) := by decide +kernel
theorem dX2_wakeDrums_79 : decode cX2_wakeDrums 79 = .ok (.goto (-77), 3) := by decide +kernel
theorem dX2_wakeDrums_82 : decode cX2_wakeDrums 82 = .ok (.return_, 1) := by decide +kernel
set_option maxRecDepth 20000 in
theorem ggX2_turnPage_X4_at : GoodIn wsX2_turnPage wsX4_at := goodIn_r _ [6] (by decide +kernel) (by decide +kernel)
set_option maxRecDepth 20000 in
theorem gX2_turnPage_X4_at_n47 : GoodIn wsX2_turnPage (wsX4_at) := ggX2_turnPage_X4_at
set_option maxRecDepth 20000 in
theorem ggX2_turnPage_X3_hasBar : GoodIn wsX2_turnPage wsX3_hasBar := goodIn_r _ [11, 12, 18, 19, 20, 21, 22, 23, 24, 25] (by decide +kernel) (by decide +kernel)
set_option maxRecDepth 20000 in
theorem gX2_turnPage_X3_hasBar : GoodIn wsX2_turnPage (wsV RX2 121 RX3 yX3_hasBar wsX3_hasBar) := goodIn_app (goodIn_of _ (by decide +kernel)) ggX2_turnPage_X3_hasBar
set_option maxRecDepth 20000 in
theorem ggX2_turnPage_X2_isTaken : GoodIn wsX2_turnPage wsX2_isTaken := goodIn_r _ [17, 3, 26, 27, 28, 29, 30, 31, 32] (by decide +kernel) (by decide +kernel)
set_option maxRecDepth 20000 in
theorem gX2_turnPage_X2_isTaken : GoodIn wsX2_turnPage (wsV RX2 124 RX2 yX2_isTaken wsX2_isTaken) := goodIn_app (goodIn_of _ (by decide +kernel)) ggX2_turnPage_X2_isTaken
theorem dX2_turnPage_0 : decode cX2_turnPage 0 = .ok (.aload_n 1, 1) := by decide +kernel
theorem dX2_turnPage_1 : decode cX2_turnPage 1 = .ok (.getfield 118, 3) := by decide +kernel
theorem dX2_turnPage_4 : decode cX2_turnPage 4 = .ok (.aload_n 0, 1) := by decide +kernel
theorem dX2_turnPage_5 : decode cX2_turnPage 5 = .ok (.getfield 28, 3) := by decide +kernel
theorem dX2_turnPage_8 : decode cX2_turnPage 8 = .ok (.invokestatic 47, 3) := by decide +kernel
theorem dX2_turnPage_11 : decode cX2_turnPage 11 = .ok (.iconst 1, 1) := by decide +kernel
theorem dX2_turnPage_12 : decode cX2_turnPage 12 = .ok (.isub, 1) := by decide +kernel
theorem dX2_turnPage_13 : decode cX2_turnPage 13 = .ok (.istore_n 2, 1) := by decide +kernel
theorem dX2_turnPage_14 : decode cX2_turnPage 14 = .ok (.aload_n 1, 1) := by decide +kernel
theorem dX2_turnPage_15 : decode cX2_turnPage 15 = .ok (.iload_n 2, 1) := by decide +kernel
theorem dX2_turnPage_16 : decode cX2_turnPage 16 = .ok (.invokevirtual 121, 3) := by decide +kernel
theorem dX2_turnPage_19 : decode cX2_turnPage 19 = .ok (.ifCond .eq 37, 3) := by decide +kernel
theorem dX2_turnPage_22 : decode cX2_turnPage 22 = .ok (.aload_n 0, 1) := by decide +kernel
theorem dX2_turnPage_23 : decode cX2_turnPage 23 = .ok (.aload_n 0, 1) := by decide +kernel
theorem dX2_turnPage_24 : decode cX2_turnPage 24 = .ok (.getfield 28, 3) := by decide +kernel
theorem dX2_turnPage_27 : decode cX2_turnPage 27 = .ok (.invokevirtual 124, 3) := by decide +kernel
theorem dX2_turnPage_30 : decode cX2_turnPage 30 = .ok (.ifCond .ne 26, 3) := by decide +kernel
theorem dX2_turnPage_33 : decode cX2_turnPage 33 = .ok (.aload_n 0, 1) := by decide +kernel
theorem dX2_turnPage_34 : decode cX2_turnPage 34 = .ok (.dup, 1) := by decide +kernel
theorem dX2_turnPage_35 : decode cX2_turnPage 35 = .ok (.getfield 31, 3) := by decide +kernel
theorem dX2_turnPage_38 : decode cX2_turnPage 38 = .ok (.iconst 1, 1) := by decide +kernel
theorem dX2_turnPage_39 : decode cX2_turnPage 39 = .ok (.aload_n 0, 1) := by decide +kernel
theorem dX2_turnPage_40 : decode cX2_turnPage 40 = .ok (.getfield 28, 3) := by decide +kernel
theorem dX2_turnPage_43 : decode cX2_turnPage 43 = .ok (.ishl, 1) := by decide +kernel
theorem dX2_turnPage_44 : decode cX2_turnPage 44 = .ok (.ior, 1) := by decide +kernel
theorem dX2_turnPage_45 : decode cX2_turnPage 45 = .ok (.putfield 31, 3) := by decide +kernel
theorem dX2_turnPage_48 : decode cX2_turnPage 48 = .ok (.aload_n 0, 1) := by decide +kernel
theorem dX2_turnPage_49 : decode cX2_turnPage 49 = .ok (.iload_n 2, 1) := by decide +kernel
theorem dX2_turnPage_50 : decode cX2_turnPage 50 = .ok (.putfield 28, 3) := by decide +kernel
theorem dX2_turnPage_53 : decode cX2_turnPage 53 = .ok (.goto 13, 3) := by decide +kernel
theorem dX2_turnPage_56 : decode cX2_turnPage 56 = .ok (.aload_n 0, 1) := by decide +kernel
theorem dX2_turnPage_57 : decode cX2_turnPage 57 = .ok (.dup, 1) := by decide +kernel
theorem dX2_turnPage_58 : decode cX2_turnPage 58 = .ok (.getfield 28, 3) := by decide +kernel
theorem dX2_turnPage_61 : decode cX2_turnPage 61 = .ok (.iconst 1, 1) := by decide +kernel
theorem dX2_turnPage_62 : decode cX2_turnPage 62 = .ok (.iadd, 1) := by decide +kernel
theorem dX2_turnPage_63 : decode cX2_turnPage 63 = .ok (.putfield 28, 3) := by decide +kernel
theorem dX2_turnPage_66 : decode cX2_turnPage 66 = .ok (.return_, 1) := by decide +kernel
set_option maxRecDepth 20000 in
theorem ggX2_playNoise_X2_isSilent : GoodIn wsX2_playNoise wsX2_isSilent := goodIn_r _ [7, 8, 2, 9, 105, 106, 107, 108, 109, 110, 111, 97, 98, 99, 100, 101, 102, 103, 104] (by decide +kernel) (by decide +kernel)
set_option maxRecDepth 20000 in
theorem gX2_playNoise_X2_isSilent : GoodIn wsX2_playNoise (wsV RX2 70 RX2 yX2_isSilent wsX2_isSilent) := goodIn_app (goodIn_of _ (by decide +kernel)) ggX2_playNoise_X2_isSilent
set_option maxRecDepth 20000 in
theorem ggX2_playNoise_X4_at : GoodIn wsX2_playNoise wsX4_at := goodIn_r _ [12] (by decide +kernel) (by decide +kernel)
set_option maxRecDepth 20000 in
theorem gX2_playNoise_X4_at_n47 : GoodIn wsX2_playNoise (wsX4_at) := ggX2_playNoise_X4_at
set_option maxRecDepth 20000 in
theorem ggX2_playNoise_X2_howManyPlay : GoodIn wsX2_playNoise wsX2_howManyPlay := goodIn_r _ [16, 8, 17, 18, 19, 20, 21, 22, 23, 105, 106, 107, 108, 109, 110, 111] (by decide +kernel) (by decide +kernel)
set_option maxRecDepth 20000 in
theorem gX2_playNoise_X2_howManyPlay : GoodIn wsX2_playNoise (wsV RX2 127 RX2 yX2_howManyPlay wsX2_howManyPlay) := goodIn_app (goodIn_of _ (by decide +kernel)) ggX2_playNoise_X2_howManyPlay
set_option maxRecDepth 20000 in
theorem ggX2_playNoise_X2_playBar : GoodIn wsX2_playNoise wsX2_playBar := goodIn_r _ [27, 28, 3, 4, 5, 6, 7, 8, 2, 9, 29, 30, 31, 32, 1, 33, 34, 35, 36, 37, 38, 39, 10, 11, 12, 40, 41, 42, 43, 44, 45, 46, 47, 48, 49, 50, 51, 52, 53, 54, 55, 56, 57, 58, 59, 60, 61, 62, 63, 64, 65, 66, 67, 68, 69, 70, 71, 72, 73, 74, 75, 76, 77, 78, 79, 80, 81, 82, 83, 84, 85, 86, 87, 88, 89, 90, 91, 92, 93, 94, 95, 96, 105, 106, 107, 108, 109, 110, 111, 97, 98, 99, 100, 101, 102, 103, 104] (by decide +kernel) (by decide +kernel)
set_option maxRecDepth 20000 in
theorem gX2_playNoise_X2_playBar : GoodIn wsX2_playNoise (wsV RX2 130 RX2 yX2_playBar wsX2_playBar) := goodIn_app (goodIn_of _ (by decide +kernel)) ggX2_playNoise_X2_playBar
theorem dX2_playNoise_0 : decode cX2_playNoise 0 = .ok (.iconst 0, 1) := by decide +kernel
theorem dX2_playNoise_1 : decode cX2_playNoise 1 = .ok (.istore_n 3, 1) := by decide +kernel
theorem dX2_playNoise_2 : decode cX2_playNoise 2 = .ok (.iconst 0, 1) := by decide +kernel
theorem dX2_playNoise_3 : decode cX2_playNoise 3 = .ok (.istore 4, 2) := by decide +kernel
theorem dX2_playNoise_5 : decode cX2_playNoise 5 = .ok (.iload 4, 2) := by decide +kernel
theorem dX2_playNoise_7 : decode cX2_playNoise 7 = .ok (.iload_n 2, 1) := by decide +kernel
theorem dX2_playNoise_8 : decode cX2_playNoise 8 = .ok (.if_icmp .ge 42, 3) := by decide +kernel
theorem dX2_playNoise_11 : decode cX2_playNoise 11 = .ok (.aload_n 0, 1) := by decide +kernel
theorem dX2_playNoise_12 : decode cX2_playNoise 12 = .ok (.aload_n 1, 1) := by decide +kernel
theorem dX2_playNoise_13 : decode cX2_playNoise 13 = .ok (.invokevirtual 70, 3) := by decide +kernel
theorem dX2_playNoise_16 : decode cX2_playNoise 16 = .ok (.ifCond .ne 34, 3) := by decide +kernel
theorem dX2_playNoise_19 : decode cX2_playNoise 19 = .ok (.iload_n 3, 1) := by decide +kernel
theorem dX2_playNoise_20 : decode cX2_playNoise 20 = .ok (.aload_n 1, 1) := by decide +kernel
theorem dX2_playNoise_21 : decode cX2_playNoise 21 = .ok (.getfield 90, 3) := by decide +kernel
theorem dX2_playNoise_24 : decode cX2_playNoise 24 = .ok (.aload_n 0, 1) := by decide +kernel
theorem dX2_playNoise_25 : decode cX2_playNoise 25 = .ok (.getfield 28, 3) := by decide +kernel
theorem dX2_playNoise_28 : decode cX2_playNoise 28 = .ok (.invokestatic 47, 3) := by decide +kernel
theorem dX2_playNoise_31 : decode cX2_playNoise 31 = .ok (.aload_n 0, 1) := by decide +kernel
theorem dX2_playNoise_32 : decode cX2_playNoise 32 = .ok (.invokevirtual 127, 3) := by decide +kernel
theorem dX2_playNoise_35 : decode cX2_playNoise 35 = .ok (.imul, 1) := by decide +kernel
theorem dX2_playNoise_36 : decode cX2_playNoise 36 = .ok (.iadd, 1) := by decide +kernel
theorem dX2_playNoise_37 : decode cX2_playNoise 37 = .ok (.istore_n 3, 1) := by decide +kernel
theorem dX2_playNoise_38 : decode cX2_playNoise 38 = .ok (.aload_n 0, 1) := by decide +kernel
theorem dX2_playNoise_39 : decode cX2_playNoise 39 = .ok (.aload_n 1, 1) := by decide +kernel
theorem dX2_playNoise_40 : decode cX2_playNoise 40 = .ok (.invokevirtual 130, 3) := by decide +kernel
theorem dX2_playNoise_43 : decode cX2_playNoise 43 = .ok (.pop, 1) := by decide +kernel
theorem dX2_playNoise_44 : decode cX2_playNoise 44 = .ok (.iinc 4 1, 3) := by decide +kernel
theorem dX2_playNoise_47 : decode cX2_playNoise 47 = .ok (.goto (-42), 3) := by decide +kernel
theorem dX2_playNoise_50 : decode cX2_playNoise 50 = .ok (.iload_n 3, 1) := by decide +kernel
theorem dX2_playNoise_51 : decode cX2_playNoise 51 = .ok (.ireturn, 1) := by decide +kernel
set_option maxRecDepth 20000 in
theorem ggX2_playBars_X2_playBar : GoodIn wsX2_playBars wsX2_playBar := goodIn_r _ [5, 6, 7, 8, 9, 4, 10, 11, 12, 13, 14, 15, 16, 17, 18, 19, 20, 21, 22, 23, 24, 25, 26, 27, 28, 29, 30, 31, 32, 33, 34, 35, 36, 37, 38, 39, 40, 41, 42, 43, 44, 45, 46, 47, 48, 49, 50, 51, 52, 53, 54, 55, 56, 57, 58, 59, 60, 61, 62, 63, 64, 65, 66, 67, 68, 69, 70, 71, 72, 73, 74, 75, 76, 77, 78, 79, 80, 81, 82, 83, 84, 85, 86, 87, 88, 89, 90, 91, 92, 93, 94, 95, 96, 97, 98, 99, 100] (by decide +kernel) (by decide +kernel)
set_option maxRecDepth 20000 in
theorem gX2_playBars_X2_playBar : GoodIn wsX2_playBars (wsV RX2 130 RX2 yX2_playBar wsX2_playBar) := goodIn_app (goodIn_of _ (by decide +kernel)) ggX2_playBars_X2_playBar
theorem dX2_playBars_0 : decode cX2_playBars 0 = .ok (.iconst 0, 1) := by decide +kernel
theorem dX2_playBars_1 : decode cX2_playBars 1 = .ok (.istore_n 3, 1) := by decide +kernel
theorem dX2_playBars_2 : decode cX2_playBars 2 = .ok (.iload_n 3, 1) := by decide +kernel
theorem dX2_playBars_3 : decode cX2_playBars 3 = .ok (.iload_n 2, 1) := by decide +kernel
theorem dX2_playBars_4 : decode cX2_playBars 4 = .ok (.if_icmp .ge 15, 3) := by decide +kernel
theorem dX2_playBars_7 : decode cX2_playBars 7 = .ok (.aload_n 0, 1) := by decide +kernel
theorem dX2_playBars_8 : decode cX2_playBars 8 = .ok (.aload_n 1, 1) := by decide +kernel
theorem dX2_playBars_9 : decode cX2_playBars 9 = .ok (.invokevirtual 130, 3) := by decide +kernel
theorem dX2_playBars_12 : decode cX2_playBars 12 = .ok (.pop, 1) := by decide +kernel
theorem dX2_playBars_13 : decode cX2_playBars 13 = .ok (.iinc 3 1, 3) := by decide +kernel
theorem dX2_playBars_16 : decode cX2_playBars 16 = .ok (.goto (-14), 3) := by decide +kernel
theorem dX2_playBars_19 : decode cX2_playBars 19 = .ok (.return_, 1) := by decide +kernel
theorem dX2_takeGift_0 : decode cX2_takeGift 0 = .ok (.iload_n 1, 1) := by decide +kernel
theorem dX2_takeGift_1 : decode cX2_takeGift 1 = .ok (.iconst 1, 1) := by decide +kernel
theorem dX2_takeGift_2 : decode cX2_takeGift 2 = .ok (.if_icmp .lt 9, 3) := by decide +kernel
theorem dX2_takeGift_5 : decode cX2_takeGift 5 = .ok (.iload_n 1, 1) := by decide +kernel
theorem dX2_takeGift_6 : decode cX2_takeGift 6 = .ok (.bipush 9, 2) := by decide +kernel
theorem dX2_takeGift_8 : decode cX2_takeGift 8 = .ok (.if_icmp .le 5, 3) := by decide +kernel
theorem dX2_takeGift_11 : decode cX2_takeGift 11 = .ok (.iconst 0, 1) := by decide +kernel
theorem dX2_takeGift_12 : decode cX2_takeGift 12 = .ok (.ireturn, 1) := by decide +kernel
theorem dX2_takeGift_13 : decode cX2_takeGift 13 = .ok (.aload_n 0, 1) := by decide +kernel
theorem dX2_takeGift_14 : decode cX2_takeGift 14 = .ok (.bipush 99, 2) := by decide +kernel
theorem dX2_takeGift_16 : decode cX2_takeGift 16 = .ok (.aload_n 0, 1) := by decide +kernel
theorem dX2_takeGift_17 : decode cX2_takeGift 17 = .ok (.getfield 34, 3) := by decide +kernel
theorem dX2_takeGift_20 : decode cX2_takeGift 20 = .ok (.iload_n 1, 1) := by decide +kernel
theorem dX2_takeGift_21 : decode cX2_takeGift 21 = .ok (.iadd, 1) := by decide +kernel
theorem dX2_takeGift_22 : decode cX2_takeGift 22 = .ok (.invokestatic 133, 3) := by decide +kernel
theorem dX2_takeGift_25 : decode cX2_takeGift 25 = .ok (.putfield 34, 3) := by decide +kernel
theorem dX2_takeGift_28 : decode cX2_takeGift 28 = .ok (.iconst 1, 1) := by decide +kernel
theorem dX2_takeGift_29 : decode cX2_takeGift 29 = .ok (.ireturn, 1) := by decide +kernel
set_option maxRecDepth 20000 in
theorem ggX2_payFromHat_X3_hasPlayer : GoodIn wsX2_payFromHat wsX3_hasPlayer := goodIn_r _ [7, 8, 30, 31, 32, 33, 34, 35, 36, 37] (by decide +kernel) (by decide +kernel)
set_option maxRecDepth 20000 in
theorem gX2_payFromHat_X3_hasPlayer : GoodIn wsX2_payFromHat (wsV RX2 40 RX3 yX3_hasPlayer wsX3_hasPlayer) := goodIn_app (goodIn_of _ (by decide +kernel)) ggX2_payFromHat_X3_hasPlayer
set_option maxRecDepth 20000 in
theorem ggX2_payFromHat_X2_isPlaying : GoodIn wsX2_payFromHat wsX2_isPlaying := goodIn_r _ [13, 14, 23, 24, 25, 26, 27, 28, 29] (by decide +kernel) (by decide +kernel)
set_option maxRecDepth 20000 in
theorem gX2_payFromHat_X2_isPlaying : GoodIn wsX2_payFromHat (wsV RX2 55 RX2 yX2_isPlaying wsX2_isPlaying) := goodIn_app (goodIn_of _ (by decide +kernel)) ggX2_payFromHat_X2_isPlaying
set_option maxRecDepth 20000 in
theorem ggX2_payFromHat_X4_at : GoodIn wsX2_payFromHat wsX4_at := goodIn_r _ [17] (by decide +kernel) (by decide +kernel)
set_option maxRecDepth 20000 in
theorem gX2_payFromHat_X4_at_n47 : GoodIn wsX2_payFromHat (wsX4_at) := ggX2_payFromHat_X4_at
set_option maxRecDepth 20000 in
theorem ggX2_payFromHat_X2_payFreely : GoodIn wsX2_payFromHat wsX2_payFreely := goodIn_r _ [21, 14, 22, 23, 24, 25, 26, 27, 28, 29] (by decide +kernel) (by decide +kernel)
set_option maxRecDepth 20000 in
theorem gX2_payFromHat_X2_payFreely : GoodIn wsX2_payFromHat (wsV RX2 139 RX2 yX2_payFreely wsX2_payFreely) := goodIn_app (goodIn_of _ (by decide +kernel)) ggX2_payFromHat_X2_payFreely
theorem dX2_payFromHat_0 : decode cX2_payFromHat 0 = .ok (.aload_n 1, 1) := by decide +kernel
theorem dX2_payFromHat_1 : decode cX2_payFromHat 1 = .ok (.iload_n 2, 1) := by decide +kernel
theorem dX2_payFromHat_2 : decode cX2_payFromHat 2 = .ok (.invokevirtual 40, 3) := by decide +kernel
theorem dX2_payFromHat_5 : decode cX2_payFromHat 5 = .ok (.ifCond .eq 26, 3) := by decide +kernel
theorem dX2_payFromHat_8 : decode cX2_payFromHat 8 = .ok (.aload_n 0, 1) := by decide +kernel
theorem dX2_payFromHat_9 : decode cX2_payFromHat 9 = .ok (.iload_n 2, 1) := by decide +kernel
theorem dX2_payFromHat_10 : decode cX2_payFromHat 10 = .ok (.invokevirtual 55, 3) := by decide +kernel
theorem dX2_payFromHat_13 : decode cX2_payFromHat 13 = .ok (.ifCond .eq 18, 3) := by decide +kernel
theorem dX2_payFromHat_16 : decode cX2_payFromHat 16 = .ok (.aload_n 0, 1) := by decide +kernel
theorem dX2_payFromHat_17 : decode cX2_payFromHat 17 = .ok (.getfield 34, 3) := by decide +kernel
theorem dX2_payFromHat_20 : decode cX2_payFromHat 20 = .ok (.aload_n 1, 1) := by decide +kernel
theorem dX2_payFromHat_21 : decode cX2_payFromHat 21 = .ok (.getfield 136, 3) := by decide +kernel
theorem dX2_payFromHat_24 : decode cX2_payFromHat 24 = .ok (.iload_n 2, 1) := by decide +kernel
theorem dX2_payFromHat_25 : decode cX2_payFromHat 25 = .ok (.invokestatic 47, 3) := by decide +kernel
theorem dX2_payFromHat_28 : decode cX2_payFromHat 28 = .ok (.if_icmp .ge 5, 3) := by decide +kernel
theorem dX2_payFromHat_31 : decode cX2_payFromHat 31 = .ok (.iconst 0, 1) := by decide +kernel
theorem dX2_payFromHat_32 : decode cX2_payFromHat 32 = .ok (.ireturn, 1) := by decide +kernel
theorem dX2_payFromHat_33 : decode cX2_payFromHat 33 = .ok (.aload_n 0, 1) := by decide +kernel
theorem dX2_payFromHat_34 : decode cX2_payFromHat 34 = .ok (.dup, 1) := by decide +kernel
theorem dX2_payFromHat_35 : decode cX2_payFromHat 35 = .ok (.getfield 34, 3) := by decide +kernel
theorem dX2_payFromHat_38 : decode cX2_payFromHat 38 = .ok (.aload_n 1, 1) := by decide +kernel
theorem dX2_payFromHat_39 : decode cX2_payFromHat 39 = .ok (.getfield 136, 3) := by decide +kernel
theorem dX2_payFromHat_42 : decode cX2_payFromHat 42 = .ok (.iload_n 2, 1) := by decide +kernel
theorem dX2_payFromHat_43 : decode cX2_payFromHat 43 = .ok (.invokestatic 47, 3) := by decide +kernel
theorem dX2_payFromHat_46 : decode cX2_payFromHat 46 = .ok (.isub, 1) := by decide +kernel
theorem dX2_payFromHat_47 : decode cX2_payFromHat 47 = .ok (.putfield 34, 3) := by decide +kernel
theorem dX2_payFromHat_50 : decode cX2_payFromHat 50 = .ok (.aload_n 0, 1) := by decide +kernel
theorem dX2_payFromHat_51 : decode cX2_payFromHat 51 = .ok (.iconst 1, 1) := by decide +kernel
theorem dX2_payFromHat_52 : decode cX2_payFromHat 52 = .ok (.iload_n 2, 1) := by decide +kernel
theorem dX2_payFromHat_53 : decode cX2_payFromHat 53 = .ok (.ishl, 1) := by decide +kernel
theorem dX2_payFromHat_54 : decode cX2_payFromHat 54 = .ok (.invokevirtual 139, 3) := by decide +kernel
theorem dX2_payFromHat_57 : decode cX2_payFromHat 57 = .ok (.iconst 1, 1) := by decide +kernel
theorem dX2_payFromHat_58 : decode cX2_payFromHat 58 = .ok (.ireturn, 1) := by decide +kernel
set_option maxRecDepth 20000 in
theorem ggX2_restPlayer_X3_hasPlayer : GoodIn wsX2_restPlayer wsX3_hasPlayer := goodIn_r _ [8, 9, 29, 30, 31, 32, 33, 34, 35, 36] (by decide +kernel) (by decide +kernel)
set_option maxRecDepth 20000 in
theorem gX2_restPlayer_X3_hasPlayer : GoodIn wsX2_restPlayer (wsV RX2 40 RX3 yX3_hasPlayer wsX3_hasPlayer) := goodIn_app (goodIn_of _ (by decide +kernel)) ggX2_restPlayer_X3_hasPlayer
set_option maxRecDepth 20000 in
theorem ggX2_restPlayer_X2_isTired : GoodIn wsX2_restPlayer wsX2_isTired := goodIn_r _ [14, 15, 16, 17, 13, 18, 3, 19, 20, 21, 22, 23, 37, 38, 39, 40, 41, 42, 43] (by decide +kernel) (by decide +kernel)
set_option maxRecDepth 20000 in
theorem gX2_restPlayer_X2_isTired : GoodIn wsX2_restPlayer (wsV RX2 115 RX2 yX2_isTired wsX2_isTired) := goodIn_app (goodIn_of _ (by decide +kernel)) ggX2_restPlayer_X2_isTired
set_option maxRecDepth 20000 in
theorem ggX2_restPlayer_X4_at : GoodIn wsX2_restPlayer wsX4_at := goodIn_r _ [26] (by decide +kernel) (by decide +kernel)
set_option maxRecDepth 20000 in
theorem gX2_restPlayer_X4_at_n47 : GoodIn wsX2_restPlayer (wsX4_at) := ggX2_restPlayer_X4_at
set_option maxRecDepth 20000 in
theorem ggX2_restPlayer_X4_put : GoodIn wsX2_restPlayer wsX4_put := goodIn_r _ [28] (by decide +kernel) (by decide +kernel)
set_option maxRecDepth 20000 in
theorem gX2_restPlayer_X4_put_n51 : GoodIn wsX2_restPlayer (wsX4_put) := ggX2_restPlayer_X4_put
theorem dX2_restPlayer_0 : decode cX2_restPlayer 0 = .ok (.aload_n 1, 1) := by decide +kernel
theorem dX2_restPlayer_1 : decode cX2_restPlayer 1 = .ok (.iload_n 2, 1) := by decide +kernel
theorem dX2_restPlayer_2 : decode cX2_restPlayer 2 = .ok (.invokevirtual 40, 3) := by decide +kernel
theorem dX2_restPlayer_5 : decode cX2_restPlayer 5 = .ok (.ifCond .eq 22, 3) := by decide +kernel
theorem dX2_restPlayer_8 : decode cX2_restPlayer 8 = .ok (.aload_n 0, 1) := by decide +kernel
theorem dX2_restPlayer_9 : decode cX2_restPlayer 9 = .ok (.iload_n 2, 1) := by decide +kernel
theorem dX2_restPlayer_10 : decode cX2_restPlayer 10 = .ok (.invokevirtual 115, 3) := by decide +kernel
theorem dX2_restPlayer_13 : decode cX2_restPlayer 13 = .ok (.ifCond .eq 14, 3) := by decide +kernel
theorem dX2_restPlayer_16 : decode cX2_restPlayer 16 = .ok (.aload_n 1, 1) := by decide +kernel
theorem dX2_restPlayer_17 : decode cX2_restPlayer 17 = .ok (.getfield 44, 3) := by decide +kernel
theorem dX2_restPlayer_20 : decode cX2_restPlayer 20 = .ok (.iload_n 2, 1) := by decide +kernel
theorem dX2_restPlayer_21 : decode cX2_restPlayer 21 = .ok (.invokestatic 47, 3) := by decide +kernel
theorem dX2_restPlayer_24 : decode cX2_restPlayer 24 = .ok (.ifCond .ne 5, 3) := by decide +kernel
theorem dX2_restPlayer_27 : decode cX2_restPlayer 27 = .ok (.iconst 0, 1) := by decide +kernel
theorem dX2_restPlayer_28 : decode cX2_restPlayer 28 = .ok (.ireturn, 1) := by decide +kernel
theorem dX2_restPlayer_29 : decode cX2_restPlayer 29 = .ok (.aload_n 0, 1) := by decide +kernel
theorem dX2_restPlayer_30 : decode cX2_restPlayer 30 = .ok (.getfield 9, 3) := by decide +kernel
theorem dX2_restPlayer_33 : decode cX2_restPlayer 33 = .ok (.iload_n 2, 1) := by decide +kernel
theorem dX2_restPlayer_34 : decode cX2_restPlayer 34 = .ok (.aload_n 1, 1) := by decide +kernel
theorem dX2_restPlayer_35 : decode cX2_restPlayer 35 = .ok (.getfield 44, 3) := by decide +kernel
theorem dX2_restPlayer_38 : decode cX2_restPlayer 38 = .ok (.iload_n 2, 1) := by decide +kernel
theorem dX2_restPlayer_39 : decode cX2_restPlayer 39 = .ok (.invokestatic 47, 3) := by decide +kernel
theorem dX2_restPlayer_42 : decode cX2_restPlayer 42 = .ok (.invokestatic 51, 3) := by decide +kernel
theorem dX2_restPlayer_45 : decode cX2_restPlayer 45 = .ok (.aload_n 0, 1) := by decide +kernel
theorem dX2_restPlayer_46 : decode cX2_restPlayer 46 = .ok (.dup, 1) := by decide +kernel
theorem dX2_restPlayer_47 : decode cX2_restPlayer 47 = .ok (.getfield 21, 3) := by decide +kernel
theorem dX2_restPlayer_50 : decode cX2_restPlayer 50 = .ok (.iconst 1, 1) := by decide +kernel
theorem dX2_restPlayer_51 : decode cX2_restPlayer 51 = .ok (.iload_n 2, 1) := by decide +kernel
theorem dX2_restPlayer_52 : decode cX2_restPlayer 52 = .ok (.ishl, 1) := by decide +kernel
theorem dX2_restPlayer_53 : decode cX2_restPlayer 53 = .ok (.ior, 1) := by decide +kernel
theorem dX2_restPlayer_54 : decode cX2_restPlayer 54 = .ok (.putfield 21, 3) := by decide +kernel
theorem dX2_restPlayer_57 : decode cX2_restPlayer 57 = .ok (.iconst 1, 1) := by decide +kernel
theorem dX2_restPlayer_58 : decode cX2_restPlayer 58 = .ok (.ireturn, 1) := by decide +kernel
theorem dX2_beginAgain_0 : decode cX2_beginAgain 0 = .ok (.aload_n 1, 1) := by decide +kernel
theorem dX2_beginAgain_1 : decode cX2_beginAgain 1 = .ok (.getfield 67, 3) := by decide +kernel
theorem dX2_beginAgain_4 : decode cX2_beginAgain 4 = .ok (.ifCond .ne 5, 3) := by decide +kernel
theorem dX2_beginAgain_7 : decode cX2_beginAgain 7 = .ok (.iconst 0, 1) := by decide +kernel
theorem dX2_beginAgain_8 : decode cX2_beginAgain 8 = .ok (.ireturn, 1) := by decide +kernel
theorem dX2_beginAgain_9 : decode cX2_beginAgain 9 = .ok (.aload_n 0, 1) := by decide +kernel
theorem dX2_beginAgain_10 : decode cX2_beginAgain 10 = .ok (.iconst 0, 1) := by decide +kernel
theorem dX2_beginAgain_11 : decode cX2_beginAgain 11 = .ok (.putfield 28, 3) := by decide +kernel
theorem dX2_beginAgain_14 : decode cX2_beginAgain 14 = .ok (.aload_n 0, 1) := by decide +kernel
theorem dX2_beginAgain_15 : decode cX2_beginAgain 15 = .ok (.iconst 0, 1) := by decide +kernel
theorem dX2_beginAgain_16 : decode cX2_beginAgain 16 = .ok (.putfield 31, 3) := by decide +kernel
theorem dX2_beginAgain_19 : decode cX2_beginAgain 19 = .ok (.iconst 1, 1) := by decide +kernel
theorem dX2_beginAgain_20 : decode cX2_beginAgain 20 = .ok (.ireturn, 1) := by decide +kernel
theorem dX2_payFreely_0 : decode cX2_payFreely 0 = .ok (.aload_n 0, 1) := by decide +kernel
theorem dX2_payFreely_1 : decode cX2_payFreely 1 = .ok (.dup, 1) := by decide +kernel
theorem dX2_payFreely_2 : decode cX2_payFreely 2 = .ok (.getfield 21, 3) := by decide +kernel
theorem dX2_payFreely_5 : decode cX2_payFreely 5 = .ok (.iload_n 1, 1) := by decide +kernel
theorem dX2_payFreely_6 : decode cX2_payFreely 6 = .ok (.iconst (-1), 1) := by decide +kernel
theorem dX2_payFreely_7 : decode cX2_payFreely 7 = .ok (.ixor, 1) := by decide +kernel
theorem dX2_payFreely_8 : decode cX2_payFreely 8 = .ok (.iand, 1) := by decide +kernel
theorem dX2_payFreely_9 : decode cX2_payFreely 9 = .ok (.putfield 21, 3) := by decide +kernel
theorem dX2_payFreely_12 : decode cX2_payFreely 12 = .ok (.aload_n 0, 1) := by decide +kernel
theorem dX2_payFreely_13 : decode cX2_payFreely 13 = .ok (.dup, 1) := by decide +kernel
theorem dX2_payFreely_14 : decode cX2_payFreely 14 = .ok (.getfield 25, 3) := by decide +kernel
theorem dX2_payFreely_17 : decode cX2_payFreely 17 = .ok (.iload_n 1, 1) := by decide +kernel
theorem dX2_payFreely_18 : decode cX2_payFreely 18 = .ok (.ior, 1) := by decide +kernel
theorem dX2_payFreely_19 : decode cX2_payFreely 19 = .ok (.putfield 25, 3) := by decide +kernel
theorem dX2_payFreely_22 : decode cX2_payFreely 22 = .ok (.return_, 1) := by decide +kernel
theorem dX2_tire_0 : decode cX2_tire 0 = .ok (.aload_n 0, 1) := by decide +kernel
theorem dX2_tire_1 : decode cX2_tire 1 = .ok (.dup, 1) := by decide +kernel
theorem dX2_tire_2 : decode cX2_tire 2 = .ok (.getfield 21, 3) := by decide +kernel
theorem dX2_tire_5 : decode cX2_tire 5 = .ok (.iload_n 1, 1) := by decide +kernel
theorem dX2_tire_6 : decode cX2_tire 6 = .ok (.iconst (-1), 1) := by decide +kernel
theorem dX2_tire_7 : decode cX2_tire 7 = .ok (.ixor, 1) := by decide +kernel
theorem dX2_tire_8 : decode cX2_tire 8 = .ok (.iand, 1) := by decide +kernel
theorem dX2_tire_9 : decode cX2_tire 9 = .ok (.putfield 21, 3) := by decide +kernel
theorem dX2_tire_12 : decode cX2_tire 12 = .ok (.return_, 1) := by decide +kernel
set_option maxRecDepth 20000 in
theorem ggX2_doIfItCanBe_X2_playBar : GoodIn wsX2_doIfItCanBe wsX2_playBar := goodIn_r _ [6, 7, 8, 9, 10, 5, 11, 12, 13, 14, 15, 16, 17, 18, 19, 20, 21, 22, 23, 24, 25, 26, 27, 28, 29, 30, 31, 32, 33, 34, 35, 36, 37, 38, 39, 40, 41, 42, 43, 44, 45, 46, 47, 48, 49, 50, 51, 52, 53, 54, 55, 56, 57, 58, 59, 60, 61, 62, 63, 64, 65, 66, 67, 68, 69, 70, 71, 72, 73, 74, 75, 76, 77, 78, 79, 80, 81, 82, 83, 84, 85, 86, 108, 109, 110, 111, 112, 113, 114, 115, 116, 117, 118, 119, 120, 121, 122] (by decide +kernel) (by decide +kernel)
set_option maxRecDepth 20000 in
theorem gX2_doIfItCanBe_X2_playBar : GoodIn wsX2_doIfItCanBe (wsV RX2 130 RX2 yX2_playBar wsX2_playBar) := goodIn_app (goodIn_of _ (by decide +kernel)) ggX2_doIfItCanBe_X2_playBar
set_option maxRecDepth 20000 in
theorem ggX2_doIfItCanBe_X2_takeGift : GoodIn wsX2_doIfItCanBe wsX2_takeGift := goodIn_r _ [90, 1, 91, 92, 24, 93, 108, 109, 110, 111, 112, 113, 114] (by decide +kernel) (by decide +kernel)
set_option maxRecDepth 20000 in
theorem gX2_doIfItCanBe_X2_takeGift : GoodIn wsX2_doIfItCanBe (wsV RX2 142 RX2 yX2_takeGift wsX2_takeGift) := goodIn_app (goodIn_of _ (by decide +kernel)) ggX2_doIfItCanBe_X2_takeGift
set_option maxRecDepth 20000 in
theorem ggX2_doIfItCanBe_X2_payFromHat : GoodIn wsX2_doIfItCanBe wsX2_payFromHat := goodIn_r _ [97, 1, 98, 49, 50, 51, 52, 53, 54, 30, 31, 32, 5, 33, 12, 27, 28, 29, 99, 100, 101, 102, 71, 108, 109, 110, 111, 112, 113, 114, 115, 116, 117, 118, 119, 120, 121, 122] (by decide +kernel) (by decide +kernel)
set_option maxRecDepth 20000 in
theorem gX2_doIfItCanBe_X2_payFromHat : GoodIn wsX2_doIfItCanBe (wsV RX2 145 RX2 yX2_payFromHat wsX2_payFromHat) := goodIn_app (goodIn_of _ (by decide +kernel)) ggX2_doIfItCanBe_X2_payFromHat
set_option maxRecDepth 20000 in
theorem ggX2_doIfItCanBe_X2_restPlayer : GoodIn wsX2_doIfItCanBe wsX2_restPlayer := goodIn_r _ [106, 107, 26, 12, 49, 50, 51, 52, 53, 54, 63, 64, 65, 5, 66, 30, 31, 32, 33, 67, 68, 69, 70, 71, 27, 28, 29, 38, 39, 115, 116, 117, 118, 119, 120, 121, 122, 108, 109, 110, 111, 112, 113, 114] (by decide +kernel) (by decide +kernel)
set_option maxRecDepth 20000 in
theorem gX2_doIfItCanBe_X2_restPlayer : GoodIn wsX2_doIfItCanBe (wsV RX2 149 RX2 yX2_restPlayer wsX2_restPlayer) := goodIn_app (goodIn_of _ (by decide +kernel)) ggX2_doIfItCanBe_X2_restPlayer
set_option maxRecDepth 20000 in
theorem ggX2_doIfItCanBe_X3_hasPlayer : GoodIn wsX2_doIfItCanBe wsX3_hasPlayer := goodIn_r _ [53, 54, 115, 116, 117, 118, 119, 120, 121, 122] (by decide +kernel) (by decide +kernel)
set_option maxRecDepth 20000 in
theorem gX2_doIfItCanBe_X3_hasPlayer : GoodIn wsX2_doIfItCanBe (wsV RX2 40 RX3 yX3_hasPlayer wsX3_hasPlayer) := goodIn_app (goodIn_of _ (by decide +kernel)) ggX2_doIfItCanBe_X3_hasPlayer
set_option maxRecDepth 20000 in
theorem ggX2_doIfItCanBe_X2_isPlaying : GoodIn wsX2_doIfItCanBe wsX2_isPlaying := goodIn_r _ [33, 12, 108, 109, 110, 111, 112, 113, 114] (by decide +kernel) (by decide +kernel)
set_option maxRecDepth 20000 in
theorem gX2_doIfItCanBe_X2_isPlaying : GoodIn wsX2_doIfItCanBe (wsV RX2 55 RX2 yX2_isPlaying wsX2_isPlaying) := goodIn_app (goodIn_of _ (by decide +kernel)) ggX2_doIfItCanBe_X2_isPlaying
theorem dX2_doIfItCanBe_0 : decode cX2_doIfItCanBe 0 = .ok (.iload_n 2, 1) := by decide +kernel
theorem dX2_doIfItCanBe_1 : decode cX2_doIfItCanBe 1 = .ok (.bipush 100, 2) := by decide +kernel
theorem dX2_doIfItCanBe_3 : decode cX2_doIfItCanBe 3 = .ok (.idiv, 1) := by decide +kernel
theorem dX2_doIfItCanBe_4 : decode cX2_doIfItCanBe 4 = .ok (.istore_n 3, 1) := by decide +kernel
theorem dX2_doIfItCanBe_5 : decode cX2_doIfItCanBe 5 = .ok (.iload_n 2, 1) := by decide +kernel
theorem dX2_doIfItCanBe_6 : decode cX2_doIfItCanBe 6 = .ok (.bipush 10, 2) := by decide +kernel
theorem dX2_doIfItCanBe_8 : decode cX2_doIfItCanBe 8 = .ok (.irem, 1) := by decide +kernel
theorem dX2_doIfItCanBe_9 : decode cX2_doIfItCanBe 9 = .ok (.istore 4, 2) := by decide +kernel
theorem dX2_doIfItCanBe_11 : decode cX2_doIfItCanBe 11 = .ok (.iload_n 3, 1) := by decide +kernel
theorem dX2_doIfItCanBe_12 : decode cX2_doIfItCanBe 12 = .ok (.iconst 5, 1) := by decide +kernel
theorem dX2_doIfItCanBe_13 : decode cX2_doIfItCanBe 13 = .ok (.if_icmp .ne 20, 3) := by decide +kernel
theorem dX2_doIfItCanBe_16 : decode cX2_doIfItCanBe 16 = .ok (.aload_n 0, 1) := by decide +kernel
theorem dX2_doIfItCanBe_17 : decode cX2_doIfItCanBe 17 = .ok (.getfield 34, 3) := by decide +kernel
theorem dX2_doIfItCanBe_20 : decode cX2_doIfItCanBe 20 = .ok (.iload_n 2, 1) := by decide +kernel
theorem dX2_doIfItCanBe_21 : decode cX2_doIfItCanBe 21 = .ok (.bipush 100, 2) := by decide +kernel
theorem dX2_doIfItCanBe_23 : decode cX2_doIfItCanBe 23 = .ok (.irem, 1) := by decide +kernel
theorem dX2_doIfItCanBe_24 : decode cX2_doIfItCanBe 24 = .ok (.if_icmp .lt 7, 3) := by decide +kernel
theorem dX2_doIfItCanBe_27 : decode cX2_doIfItCanBe 27 = .ok (.iconst 1, 1) := by decide +kernel
theorem dX2_doIfItCanBe_28 : decode cX2_doIfItCanBe 28 = .ok (.goto 4, 3) := by decide +kernel
theorem dX2_doIfItCanBe_31 : decode cX2_doIfItCanBe 31 = .ok (.iconst 0, 1) := by decide +kernel
theorem dX2_doIfItCanBe_32 : decode cX2_doIfItCanBe 32 = .ok (.ireturn, 1) := by decide +kernel
theorem dX2_doIfItCanBe_33 : decode cX2_doIfItCanBe 33 = .ok (.iload_n 2, 1) := by decide +kernel
theorem dX2_doIfItCanBe_34 : decode cX2_doIfItCanBe 34 = .ok (.bipush 10, 2) := by decide +kernel
theorem dX2_doIfItCanBe_36 : decode cX2_doIfItCanBe 36 = .ok (.idiv, 1) := by decide +kernel
theorem dX2_doIfItCanBe_37 : decode cX2_doIfItCanBe 37 = .ok (.bipush 10, 2) := by decide +kernel
theorem dX2_doIfItCanBe_39 : decode cX2_doIfItCanBe 39 = .ok (.irem, 1) := by decide +kernel
theorem dX2_doIfItCanBe_40 : decode cX2_doIfItCanBe 40 = .ok (.ifCond .eq 5, 3) := by decide +kernel
theorem dX2_doIfItCanBe_43 : decode cX2_doIfItCanBe 43 = .ok (.iconst 0, 1) := by decide +kernel
theorem dX2_doIfItCanBe_44 : decode cX2_doIfItCanBe 44 = .ok (.ireturn, 1) := by decide +kernel
theorem dX2_doIfItCanBe_45 : decode cX2_doIfItCanBe 45 = .ok (.iload_n 3, 1) := by decide +kernel
theorem dX2_doIfItCanBe_46 : decode cX2_doIfItCanBe 46 = .ok (.tableswitch 100 0 4 #[34, 53, 60, 68, 76], 34) := by decide +kernel
theorem dX2_doIfItCanBe_80 : decode cX2_doIfItCanBe 80 = .ok (.iload 4, 2) := by decide +kernel
theorem dX2_doIfItCanBe_82 : decode cX2_doIfItCanBe 82 = .ok (.ifCond .ne 15, 3) := by decide +kernel
theorem dX2_doIfItCanBe_85 : decode cX2_doIfItCanBe 85 = .ok (.aload_n 0, 1) := by decide +kernel
theorem dX2_doIfItCanBe_86 : decode cX2_doIfItCanBe 86 = .ok (.aload_n 1, 1) := by decide +kernel
theorem dX2_doIfItCanBe_87 : decode cX2_doIfItCanBe 87 = .ok (.invokevirtual 130, 3) := by decide +kernel
theorem dX2_doIfItCanBe_90 : decode cX2_doIfItCanBe 90 = .ok (.ifCond .eq 7, 3) := by decide +kernel
theorem dX2_doIfItCanBe_93 : decode cX2_doIfItCanBe 93 = .ok (.iconst 1, 1) := by decide +kernel
theorem dX2_doIfItCanBe_94 : decode cX2_doIfItCanBe 94 = .ok (.goto 4, 3) := by decide +kernel
theorem dX2_doIfItCanBe_97 : decode cX2_doIfItCanBe 97 = .ok (.iconst 0, 1) := by decide +kernel
theorem dX2_doIfItCanBe_98 : decode cX2_doIfItCanBe 98 = .ok (.ireturn, 1) := by decide +kernel
theorem dX2_doIfItCanBe_99 : decode cX2_doIfItCanBe 99 = .ok (.aload_n 0, 1) := by decide +kernel
theorem dX2_doIfItCanBe_100 : decode cX2_doIfItCanBe 100 = .ok (.iload 4, 2) := by decide +kernel
theorem dX2_doIfItCanBe_102 : decode cX2_doIfItCanBe 102 = .ok (.invokevirtual 142, 3) := by decide +kernel
theorem dX2_doIfItCanBe_105 : decode cX2_doIfItCanBe 105 = .ok (.ireturn, 1) := by decide +kernel
theorem dX2_doIfItCanBe_106 : decode cX2_doIfItCanBe 106 = .ok (.aload_n 0, 1) := by decide +kernel
theorem dX2_doIfItCanBe_107 : decode cX2_doIfItCanBe 107 = .ok (.aload_n 1, 1) := by decide +kernel
theorem dX2_doIfItCanBe_108 : decode cX2_doIfItCanBe 108 = .ok (.iload 4, 2) := by decide +kernel
theorem dX2_doIfItCanBe_110 : decode cX2_doIfItCanBe 110 = .ok (.invokevirtual 145, 3) := by decide +kernel
theorem dX2_doIfItCanBe_113 : decode cX2_doIfItCanBe 113 = .ok (.ireturn, 1) := by decide +kernel
theorem dX2_doIfItCanBe_114 : decode cX2_doIfItCanBe 114 = .ok (.aload_n 0, 1) := by decide +kernel
theorem dX2_doIfItCanBe_115 : decode cX2_doIfItCanBe 115 = .ok (.aload_n 1, 1) := by decide +kernel
theorem dX2_doIfItCanBe_116 : decode cX2_doIfItCanBe 116 = .ok (.iload 4, 2) := by decide +kernel
theorem dX2_doIfItCanBe_118 : decode cX2_doIfItCanBe 118 = .ok (.invokevirtual 149, 3) := by decide +kernel
theorem dX2_doIfItCanBe_121 : decode cX2_doIfItCanBe 121 = .ok (.ireturn, 1) := by decide +kernel
theorem dX2_doIfItCanBe_122 : decode cX2_doIfItCanBe 122 = .ok (.aload_n 1, 1) := by decide +kernel
theorem dX2_doIfItCanBe_123 : decode cX2_doIfItCanBe 123 = .ok (.iload 4, 2) := by decide +kernel
theorem dX2_doIfItCanBe_125 : decode cX2_doIfItCanBe 125 = .ok (.invokevirtual 40, 3) := by decide +kernel
theorem dX2_doIfItCanBe_128 : decode cX2_doIfItCanBe 128 = .ok (.ifCond .eq 16, 3) := by decide +kernel
theorem dX2_doIfItCanBe_131 : decode cX2_doIfItCanBe 131 = .ok (.aload_n 0, 1) := by decide +kernel
theorem dX2_doIfItCanBe_132 : decode cX2_doIfItCanBe 132 = .ok (.iload 4, 2) := by decide +kernel
theorem dX2_doIfItCanBe_134 : decode cX2_doIfItCanBe 134 = .ok (.invokevirtual 55, 3) := by decide +kernel
theorem dX2_doIfItCanBe_137 : decode cX2_doIfItCanBe 137 = .ok (.ifCond .eq 7, 3) := by decide +kernel
theorem dX2_doIfItCanBe_140 : decode cX2_doIfItCanBe 140 = .ok (.iconst 1, 1) := by decide +kernel
theorem dX2_doIfItCanBe_141 : decode cX2_doIfItCanBe 141 = .ok (.goto 4, 3) := by decide +kernel
theorem dX2_doIfItCanBe_144 : decode cX2_doIfItCanBe 144 = .ok (.iconst 0, 1) := by decide +kernel
theorem dX2_doIfItCanBe_145 : decode cX2_doIfItCanBe 145 = .ok (.ireturn, 1) := by decide +kernel
theorem dX2_doIfItCanBe_146 : decode cX2_doIfItCanBe 146 = .ok (.iconst 0, 1) := by decide +kernel
theorem dX2_doIfItCanBe_147 : decode cX2_doIfItCanBe 147 = .ok (.ireturn, 1) := by decide +kernel
set_option maxRecDepth 20000 in
theorem ggX2_doByChance_X2_payFromHat : GoodIn wsX2_doByChance wsX2_payFromHat := goodIn_r _ [5, 6, 7, 8, 9, 10, 11, 12, 13, 14, 15, 16, 4, 17, 18, 19, 20, 21, 22, 23, 24, 25, 26, 112, 113, 114, 115, 116, 117, 118, 119, 120, 121, 122, 123, 124, 125, 126] (by decide +kernel) (by decide +kernel)
set_option maxRecDepth 20000 in
theorem gX2_doByChance_X2_payFromHat : GoodIn wsX2_doByChance (wsV RX2 145 RX2 yX2_payFromHat wsX2_payFromHat) := goodIn_app (goodIn_of _ (by decide +kernel)) ggX2_doByChance_X2_payFromHat
set_option maxRecDepth 20000 in
theorem ggX2_doByChance_X2_restPlayer : GoodIn wsX2_doByChance wsX2_restPlayer := goodIn_r _ [30, 31, 32, 18, 8, 9, 10, 11, 12, 13, 33, 34, 35, 4, 36, 14, 15, 16, 17, 37, 38, 39, 40, 26, 19, 20, 21, 41, 42, 119, 120, 121, 122, 123, 124, 125, 126, 112, 113, 114, 115, 116, 117, 118] (by decide +kernel) (by decide +kernel)
set_option maxRecDepth 20000 in
theorem gX2_doByChance_X2_restPlayer : GoodIn wsX2_doByChance (wsV RX2 149 RX2 yX2_restPlayer wsX2_restPlayer) := goodIn_app (goodIn_of _ (by decide +kernel)) ggX2_doByChance_X2_restPlayer
set_option maxRecDepth 20000 in
theorem ggX2_doByChance_X2_takeGift : GoodIn wsX2_doByChance wsX2_takeGift := goodIn_r _ [46, 6, 47, 48, 49, 50, 112, 113, 114, 115, 116, 117, 118] (by decide +kernel) (by decide +kernel)
set_option maxRecDepth 20000 in
theorem gX2_doByChance_X2_takeGift : GoodIn wsX2_doByChance (wsV RX2 142 RX2 yX2_takeGift wsX2_takeGift) := goodIn_app (goodIn_of _ (by decide +kernel)) ggX2_doByChance_X2_takeGift
set_option maxRecDepth 20000 in
theorem ggX2_doByChance_X2_beginAgain : GoodIn wsX2_doByChance wsX2_beginAgain := goodIn_r _ [54, 55, 56, 57, 119, 120, 121, 122, 123, 124, 125, 126, 112, 113, 114, 115, 116, 117, 118] (by decide +kernel) (by decide +kernel)
set_option maxRecDepth 20000 in
theorem gX2_doByChance_X2_beginAgain : GoodIn wsX2_doByChance (wsV RX2 152 RX2 yX2_beginAgain wsX2_beginAgain) := goodIn_app (goodIn_of _ (by decide +kernel)) ggX2_doByChance_X2_beginAgain
set_option maxRecDepth 20000 in
theorem ggX2_doByChance_X2_playBar : GoodIn wsX2_doByChance wsX2_playBar := goodIn_r _ [61, 62, 63, 64, 65, 4, 66, 18, 56, 55, 67, 68, 69, 70, 71, 72, 73, 74, 75, 49, 76, 32, 19, 20, 21, 14, 15, 16, 17, 77, 78, 79, 80, 41, 42, 81, 82, 83, 84, 85, 86, 87, 88, 89, 8, 9, 10, 11, 12, 13, 90, 91, 92, 93, 94, 95, 96, 97, 33, 34, 35, 36, 37, 38, 39, 40, 26, 98, 99, 100, 101, 102, 57, 103, 104, 105, 106, 107, 108, 109, 110, 111, 112, 113, 114, 115, 116, 117, 118, 119, 120, 121, 122, 123, 124, 125, 126] (by decide +kernel) (by decide +kernel)
set_option maxRecDepth 20000 in
theorem gX2_doByChance_X2_playBar : GoodIn wsX2_doByChance (wsV RX2 130 RX2 yX2_playBar wsX2_playBar) := goodIn_app (goodIn_of _ (by decide +kernel)) ggX2_doByChance_X2_playBar
theorem dX2_doByChance_0 : decode cX2_doByChance 0 = .ok (.iload_n 2, 1) := by decide +kernel
theorem dX2_doByChance_1 : decode cX2_doByChance 1 = .ok (.bipush 6, 2) := by decide +kernel
theorem dX2_doByChance_3 : decode cX2_doByChance 3 = .ok (.if_icmp .ge 13, 3) := by decide +kernel
theorem dX2_doByChance_6 : decode cX2_doByChance 6 = .ok (.aload_n 0, 1) := by decide +kernel
theorem dX2_doByChance_7 : decode cX2_doByChance 7 = .ok (.aload_n 1, 1) := by decide +kernel
theorem dX2_doByChance_8 : decode cX2_doByChance 8 = .ok (.iload_n 2, 1) := by decide +kernel
theorem dX2_doByChance_9 : decode cX2_doByChance 9 = .ok (.invokevirtual 145, 3) := by decide +kernel
theorem dX2_doByChance_12 : decode cX2_doByChance 12 = .ok (.pop, 1) := by decide +kernel
theorem dX2_doByChance_13 : decode cX2_doByChance 13 = .ok (.goto 61, 3) := by decide +kernel
theorem dX2_doByChance_16 : decode cX2_doByChance 16 = .ok (.iload_n 2, 1) := by decide +kernel
theorem dX2_doByChance_17 : decode cX2_doByChance 17 = .ok (.bipush 12, 2) := by decide +kernel
theorem dX2_doByChance_19 : decode cX2_doByChance 19 = .ok (.if_icmp .ge 16, 3) := by decide +kernel
theorem dX2_doByChance_22 : decode cX2_doByChance 22 = .ok (.aload_n 0, 1) := by decide +kernel
theorem dX2_doByChance_23 : decode cX2_doByChance 23 = .ok (.aload_n 1, 1) := by decide +kernel
theorem dX2_doByChance_24 : decode cX2_doByChance 24 = .ok (.iload_n 2, 1) := by decide +kernel
theorem dX2_doByChance_25 : decode cX2_doByChance 25 = .ok (.bipush 6, 2) := by decide +kernel
theorem dX2_doByChance_27 : decode cX2_doByChance 27 = .ok (.isub, 1) := by decide +kernel
theorem dX2_doByChance_28 : decode cX2_doByChance 28 = .ok (.invokevirtual 149, 3) := by decide +kernel
theorem dX2_doByChance_31 : decode cX2_doByChance 31 = .ok (.pop, 1) := by decide +kernel
theorem dX2_doByChance_32 : decode cX2_doByChance 32 = .ok (.goto 42, 3) := by decide +kernel
theorem dX2_doByChance_35 : decode cX2_doByChance 35 = .ok (.iload_n 2, 1) := by decide +kernel
theorem dX2_doByChance_36 : decode cX2_doByChance 36 = .ok (.bipush 15, 2) := by decide +kernel
theorem dX2_doByChance_38 : decode cX2_doByChance 38 = .ok (.if_icmp .ge 15, 3) := by decide +kernel
theorem dX2_doByChance_41 : decode cX2_doByChance 41 = .ok (.aload_n 0, 1) := by decide +kernel
theorem dX2_doByChance_42 : decode cX2_doByChance 42 = .ok (.iload_n 2, 1) := by decide +kernel
theorem dX2_doByChance_43 : decode cX2_doByChance 43 = .ok (.bipush 11, 2) := by decide +kernel
theorem dX2_doByChance_45 : decode cX2_doByChance 45 = .ok (.isub, 1) := by decide +kernel
theorem dX2_doByChance_46 : decode cX2_doByChance 46 = .ok (.invokevirtual 142, 3) := by decide +kernel
theorem dX2_doByChance_49 : decode cX2_doByChance 49 = .ok (.pop, 1) := by decide +kernel
theorem dX2_doByChance_50 : decode cX2_doByChance 50 = .ok (.goto 24, 3) := by decide +kernel
theorem dX2_doByChance_53 : decode cX2_doByChance 53 = .ok (.iload_n 2, 1) := by decide +kernel
theorem dX2_doByChance_54 : decode cX2_doByChance 54 = .ok (.bipush 15, 2) := by decide +kernel
theorem dX2_doByChance_56 : decode cX2_doByChance 56 = .ok (.if_icmp .ne 12, 3) := by decide +kernel
theorem dX2_doByChance_59 : decode cX2_doByChance 59 = .ok (.aload_n 0, 1) := by decide +kernel
theorem dX2_doByChance_60 : decode cX2_doByChance 60 = .ok (.aload_n 1, 1) := by decide +kernel
theorem dX2_doByChance_61 : decode cX2_doByChance 61 = .ok (.invokevirtual 152, 3) := by decide +kernel
theorem dX2_doByChance_64 : decode cX2_doByChance 64 = .ok (.pop, 1) := by decide +kernel
theorem dX2_doByChance_65 : decode cX2_doByChance 65 = .ok (.goto 9, 3) := by decide +kernel
theorem dX2_doByChance_68 : decode cX2_doByChance 68 = .ok (.aload_n 0, 1) := by decide +kernel
theorem dX2_doByChance_69 : decode cX2_doByChance 69 = .ok (.aload_n 1, 1) := by decide +kernel
theorem dX2_doByChance_70 : decode cX2_doByChance 70 = .ok (.invokevirtual 130, 3) := by decide +kernel
theorem dX2_doByChance_73 : decode cX2_doByChance 73 = .ok (.pop, 1) := by decide +kernel
theorem dX2_doByChance_74 : decode cX2_doByChance 74 = .ok (.return_, 1) := by decide +kernel
theorem dX3_init_0 : decode cX3_init 0 = .ok (.aload_n 0, 1) := by decide +kernel
theorem dX3_init_1 : decode cX3_init 1 = .ok (.invokespecial 3, 3) := by decide +kernel
theorem dX3_init_4 : decode cX3_init 4 = .ok (.aload_n 0, 1) := by decide +kernel
theorem dX3_init_5 : decode cX3_init 5 = .ok (.bipush 6, 2) := by decide +kernel
theorem dX3_init_7 : decode cX3_init 7 = .ok (.newarray .int, 2) := by decide +kernel
theorem dX3_init_9 : decode cX3_init 9 = .ok (.putfield 9, 3) := by decide +kernel
theorem dX3_init_12 : decode cX3_init 12 = .ok (.aload_n 0, 1) := by decide +kernel
theorem dX3_init_13 : decode cX3_init 13 = .ok (.bipush 6, 2) := by decide +kernel
theorem dX3_init_15 : decode cX3_init 15 = .ok (.newarray .int, 2) := by decide +kernel
theorem dX3_init_17 : decode cX3_init 17 = .ok (.putfield 15, 3) := by decide +kernel
theorem dX3_init_20 : decode cX3_init 20 = .ok (.aload_n 0, 1) := by decide +kernel
theorem dX3_init_21 : decode cX3_init 21 = .ok (.bipush 6, 2) := by decide +kernel
theorem dX3_init_23 : decode cX3_init 23 = .ok (.newarray .int, 2) := by decide +kernel
theorem dX3_init_25 : decode cX3_init 25 = .ok (.putfield 18, 3) := by decide +kernel
theorem dX3_init_28 : decode cX3_init 28 = .ok (.aload_n 0, 1) := by decide +kernel
theorem dX3_init_29 : decode cX3_init 29 = .ok (.bipush 6, 2) := by decide +kernel
theorem dX3_init_31 : decode cX3_init 31 = .ok (.newarray .int, 2) := by decide +kernel
theorem dX3_init_33 : decode cX3_init 33 = .ok (.putfield 21, 3) := by decide +kernel
theorem dX3_init_36 : decode cX3_init 36 = .ok (.aload_n 0, 1) := by decide +kernel
theorem dX3_init_37 : decode cX3_init 37 = .ok (.bipush 8, 2) := by decide +kernel
theorem dX3_init_39 : decode cX3_init 39 = .ok (.newarray .int, 2) := by decide +kernel
theorem dX3_init_41 : decode cX3_init 41 = .ok (.putfield 24, 3) := by decide +kernel
theorem dX3_init_44 : decode cX3_init 44 = .ok (.aload_n 0, 1) := by decide +kernel
theorem dX3_init_45 : decode cX3_init 45 = .ok (.bipush 8, 2) := by decide +kernel
theorem dX3_init_47 : decode cX3_init 47 = .ok (.newarray .int, 2) := by decide +kernel
theorem dX3_init_49 : decode cX3_init 49 = .ok (.putfield 27, 3) := by decide +kernel
theorem dX3_init_52 : decode cX3_init 52 = .ok (.return_, 1) := by decide +kernel
set_option maxRecDepth 20000 in
theorem ggX3_read_X4_at : GoodIn wsX3_read wsX4_at := goodIn_r _ [5] (by decide +kernel) (by decide +kernel)
set_option maxRecDepth 20000 in
theorem gX3_read_X4_at_n37 : GoodIn wsX3_read (wsX4_at) := ggX3_read_X4_at
set_option maxRecDepth 20000 in
theorem ggX3_read_X3_figuresOfNewPart : GoodIn wsX3_read wsX3_figuresOfNewPart := goodIn_r _ [10, 1, 2, 31, 32, 33, 34, 35, 36, 37, 38] (by decide +kernel) (by decide +kernel)
set_option maxRecDepth 20000 in
theorem gX3_read_X3_figuresOfNewPart : GoodIn wsX3_read (wsV RX3 41 RX3 yX3_figuresOfNewPart wsX3_figuresOfNewPart) := goodIn_app (goodIn_of _ (by decide +kernel)) ggX3_read_X3_figuresOfNewPart
set_option maxRecDepth 20000 in
theorem ggX3_read_X3_takePlayerFigure : GoodIn wsX3_read wsX3_takePlayerFigure := goodIn_r _ [14, 1, 15, 16, 17, 18, 19, 20, 21, 9, 22, 23, 4, 24, 31, 32, 33, 34, 35, 36, 37, 38] (by decide +kernel) (by decide +kernel)
set_option maxRecDepth 20000 in
theorem gX3_read_X3_takePlayerFigure : GoodIn wsX3_read (wsV RX3 45 RX3 yX3_takePlayerFigure wsX3_takePlayerFigure) := goodIn_app (goodIn_of _ (by decide +kernel)) ggX3_read_X3_takePlayerFigure
set_option maxRecDepth 20000 in
theorem ggX3_read_X3_takeBarFigure : GoodIn wsX3_read wsX3_takeBarFigure := goodIn_r _ [28, 2, 29, 30, 19, 20, 21, 9, 22, 23, 4, 24, 31, 32, 33, 34, 35, 36, 37, 38] (by decide +kernel) (by decide +kernel)
set_option maxRecDepth 20000 in
theorem gX3_read_X3_takeBarFigure : GoodIn wsX3_read (wsV RX3 49 RX3 yX3_takeBarFigure wsX3_takeBarFigure) := goodIn_app (goodIn_of _ (by decide +kernel)) ggX3_read_X3_takeBarFigure
theorem dX3_read_0 : decode cX3_read 0 = .ok (.aload_n 0, 1) := by decide +kernel
theorem dX3_read_1 : decode cX3_read 1 = .ok (.iconst 0, 1) := by decide +kernel
theorem dX3_read_2 : decode cX3_read 2 = .ok (.putfield 30, 3) := by decide +kernel
theorem dX3_read_5 : decode cX3_read 5 = .ok (.aload_n 0, 1) := by decide +kernel
theorem dX3_read_6 : decode cX3_read 6 = .ok (.iconst 0, 1) := by decide +kernel
theorem dX3_read_7 : decode cX3_read 7 = .ok (.putfield 34, 3) := by decide +kernel
theorem dX3_read_10 : decode cX3_read 10 = .ok (.iload_n 2, 1) := by decide +kernel
theorem dX3_read_11 : decode cX3_read 11 = .ok (.iconst 1, 1) := by decide +kernel
theorem dX3_read_12 : decode cX3_read 12 = .ok (.if_icmp .lt 13, 3) := by decide +kernel
theorem dX3_read_15 : decode cX3_read 15 = .ok (.aload_n 1, 1) := by decide +kernel
theorem dX3_read_16 : decode cX3_read 16 = .ok (.iconst 0, 1) := by decide +kernel
theorem dX3_read_17 : decode cX3_read 17 = .ok (.invokestatic 37, 3) := by decide +kernel
theorem dX3_read_20 : decode cX3_read 20 = .ok (.bipush 79, 2) := by decide +kernel
theorem dX3_read_22 : decode cX3_read 22 = .ok (.if_icmp .eq 5, 3) := by decide +kernel
theorem dX3_read_25 : decode cX3_read 25 = .ok (.iconst 0, 1) := by decide +kernel
theorem dX3_read_26 : decode cX3_read 26 = .ok (.ireturn, 1) := by decide +kernel
theorem dX3_read_27 : decode cX3_read 27 = .ok (.iconst 0, 1) := by decide +kernel
theorem dX3_read_28 : decode cX3_read 28 = .ok (.istore_n 3, 1) := by decide +kernel
theorem dX3_read_29 : decode cX3_read 29 = .ok (.iconst 0, 1) := by decide +kernel
theorem dX3_read_30 : decode cX3_read 30 = .ok (.istore 4, 2) := by decide +kernel
theorem dX3_read_32 : decode cX3_read 32 = .ok (.iconst 1, 1) := by decide +kernel
theorem dX3_read_33 : decode cX3_read 33 = .ok (.istore 5, 2) := by decide +kernel
theorem dX3_read_35 : decode cX3_read 35 = .ok (.iload 5, 2) := by decide +kernel
theorem dX3_read_37 : decode cX3_read 37 = .ok (.iload_n 2, 1) := by decide +kernel
theorem dX3_read_38 : decode cX3_read 38 = .ok (.if_icmp .ge 93, 3) := by decide +kernel
theorem dX3_read_41 : decode cX3_read 41 = .ok (.aload_n 1, 1) := by decide +kernel
theorem dX3_read_42 : decode cX3_read 42 = .ok (.iload 5, 2) := by decide +kernel
theorem dX3_read_44 : decode cX3_read 44 = .ok (.invokestatic 37, 3) := by decide +kernel
theorem dX3_read_47 : decode cX3_read 47 = .ok (.istore 6, 2) := by decide +kernel
theorem dX3_read_49 : decode cX3_read 49 = .ok (.iload 4, 2) := by decide +kernel
theorem dX3_read_51 : decode cX3_read 51 = .ok (.ifCond .ne 32, 3) := by decide +kernel
theorem dX3_read_54 : decode cX3_read 54 = .ok (.iload 6, 2) := by decide +kernel
theorem dX3_read_56 : decode cX3_read 56 = .ok (.bipush 80, 2) := by decide +kernel
theorem dX3_read_58 : decode cX3_read 58 = .ok (.if_icmp .ne 7, 3) := by decide +kernel
theorem dX3_read_61 : decode cX3_read 61 = .ok (.iconst 1, 1) := by decide +kernel
theorem dX3_read_62 : decode cX3_read 62 = .ok (.goto 4, 3) := by decide +kernel
theorem dX3_read_65 : decode cX3_read 65 = .ok (.iconst 0, 1) := by decide +kernel
theorem dX3_read_66 : decode cX3_read 66 = .ok (.istore_n 3, 1) := by decide +kernel
theorem dX3_read_67 : decode cX3_read 67 = .ok (.aload_n 0, 1) := by decide +kernel
theorem dX3_read_68 : decode cX3_read 68 = .ok (.iload 6, 2) := by decide +kernel
theorem dX3_read_70 : decode cX3_read 70 = .ok (.invokevirtual 41, 3) := by decide +kernel
theorem dX3_read_73 : decode cX3_read 73 = .ok (.istore 4, 2) := by decide +kernel
theorem dX3_read_75 : decode cX3_read 75 = .ok (.iload 4, 2) := by decide +kernel
theorem dX3_read_77 : decode cX3_read 77 = .ok (.ifCond .ne 48, 3) := by decide +kernel
theorem dX3_read_80 : decode cX3_read 80 = .ok (.iload 5, 2) := by decide +kernel
theorem dX3_read_82 : decode cX3_read 82 = .ok (.ireturn, 1) := by decide +kernel
theorem dX3_read_83 : decode cX3_read 83 = .ok (.iload 6, 2) := by decide +kernel
theorem dX3_read_85 : decode cX3_read 85 = .ok (.bipush 48, 2) := by decide +kernel
theorem dX3_read_87 : decode cX3_read 87 = .ok (.isub, 1) := by decide +kernel
theorem dX3_read_88 : decode cX3_read 88 = .ok (.istore 7, 2) := by decide +kernel
theorem dX3_read_90 : decode cX3_read 90 = .ok (.iload_n 3, 1) := by decide +kernel
theorem dX3_read_91 : decode cX3_read 91 = .ok (.ifCond .eq 17, 3) := by decide +kernel
theorem dX3_read_94 : decode cX3_read 94 = .ok (.aload_n 0, 1) := by decide +kernel
theorem dX3_read_95 : decode cX3_read 95 = .ok (.iload 4, 2) := by decide +kernel
theorem dX3_read_97 : decode cX3_read 97 = .ok (.iload 7, 2) := by decide +kernel
theorem dX3_read_99 : decode cX3_read 99 = .ok (.invokevirtual 45, 3) := by decide +kernel
theorem dX3_read_102 : decode cX3_read 102 = .ok (.ifCond .eq 17, 3) := by decide +kernel
theorem dX3_read_105 : decode cX3_read 105 = .ok (.goto 17, 3) := by decide +kernel
theorem dX3_read_108 : decode cX3_read 108 = .ok (.aload_n 0, 1) := by decide +kernel
theorem dX3_read_109 : decode cX3_read 109 = .ok (.iload 4, 2) := by decide +kernel
theorem dX3_read_111 : decode cX3_read 111 = .ok (.iload 7, 2) := by decide +kernel
theorem dX3_read_113 : decode cX3_read 113 = .ok (.invokevirtual 49, 3) := by decide +kernel
theorem dX3_read_116 : decode cX3_read 116 = .ok (.ifCond .ne 6, 3) := by decide +kernel
theorem dX3_read_119 : decode cX3_read 119 = .ok (.iload 5, 2) := by decide +kernel
theorem dX3_read_121 : decode cX3_read 121 = .ok (.ireturn, 1) := by decide +kernel
theorem dX3_read_122 : decode cX3_read 122 = .ok (.iinc 4 (-1), 3) := by decide +kernel
theorem dX3_read_125 : decode cX3_read 125 = .ok (.iinc 5 1, 3) := by decide +kernel
theorem dX3_read_128 : decode cX3_read 128 = .ok (.goto (-93), 3) := by decide +kernel
theorem dX3_read_131 : decode cX3_read 131 = .ok (.iload 4, 2) := by decide +kernel
theorem dX3_read_133 : decode cX3_read 133 = .ok (.ifCond .ne 8, 3) := by decide +kernel
theorem dX3_read_136 : decode cX3_read 136 = .ok (.bipush (-9), 2) := by decide +kernel
theorem dX3_read_138 : decode cX3_read 138 = .ok (.goto 4, 3) := by decide +kernel
theorem dX3_read_141 : decode cX3_read 141 = .ok (.iload_n 2, 1) := by decide +kernel
theorem dX3_read_142 : decode cX3_read 142 = .ok (.ireturn, 1) := by decide +kernel
theorem dX3_figuresOfNewPart_0 : decode cX3_figuresOfNewPart 0 = .ok (.iload_n 1, 1) := by decide +kernel
theorem dX3_figuresOfNewPart_1 : decode cX3_figuresOfNewPart 1 = .ok (.bipush 80, 2) := by decide +kernel
theorem dX3_figuresOfNewPart_3 : decode cX3_figuresOfNewPart 3 = .ok (.if_icmp .ne 24, 3) := by decide +kernel
theorem dX3_figuresOfNewPart_6 : decode cX3_figuresOfNewPart 6 = .ok (.aload_n 0, 1) := by decide +kernel
theorem dX3_figuresOfNewPart_7 : decode cX3_figuresOfNewPart 7 = .ok (.getfield 30, 3) := by decide +kernel
theorem dX3_figuresOfNewPart_10 : decode cX3_figuresOfNewPart 10 = .ok (.bipush 6, 2) := by decide +kernel
theorem dX3_figuresOfNewPart_12 : decode cX3_figuresOfNewPart 12 = .ok (.if_icmp .ge 15, 3) := by decide +kernel
theorem dX3_figuresOfNewPart_15 : decode cX3_figuresOfNewPart 15 = .ok (.aload_n 0, 1) := by decide +kernel
theorem dX3_figuresOfNewPart_16 : decode cX3_figuresOfNewPart 16 = .ok (.dup, 1) := by decide +kernel
theorem dX3_figuresOfNewPart_17 : decode cX3_figuresOfNewPart 17 = .ok (.getfield 30, 3) := by decide +kernel
theorem dX3_figuresOfNewPart_20 : decode cX3_figuresOfNewPart 20 = .ok (.iconst 1, 1) := by decide +kernel
theorem dX3_figuresOfNewPart_21 : decode cX3_figuresOfNewPart 21 = .ok (.iadd, 1) := by decide +kernel
theorem dX3_figuresOfNewPart_22 : decode cX3_figuresOfNewPart 22 = .ok (.putfield 30, 3) := by decide +kernel
theorem dX3_figuresOfNewPart_25 : decode cX3_figuresOfNewPart 25 = .ok (.iconst 4, 1) := by decide +kernel
theorem dX3_figuresOfNewPart_26 : decode cX3_figuresOfNewPart 26 = .ok (.ireturn, 1) := by decide +kernel
theorem dX3_figuresOfNewPart_27 : decode cX3_figuresOfNewPart 27 = .ok (.iload_n 1, 1) := by decide +kernel
theorem dX3_figuresOfNewPart_28 : decode cX3_figuresOfNewPart 28 = .ok (.bipush 66, 2) := by decide +kernel
theorem dX3_figuresOfNewPart_30 : decode cX3_figuresOfNewPart 30 = .ok (.if_icmp .ne 24, 3) := by decide +kernel
theorem dX3_figuresOfNewPart_33 : decode cX3_figuresOfNewPart 33 = .ok (.aload_n 0, 1) := by decide +kernel
theorem dX3_figuresOfNewPart_34 : decode cX3_figuresOfNewPart 34 = .ok (.getfield 34, 3) := by decide +kernel
theorem dX3_figuresOfNewPart_37 : decode cX3_figuresOfNewPart 37 = .ok (.bipush 8, 2) := by decide +kernel
theorem dX3_figuresOfNewPart_39 : decode cX3_figuresOfNewPart 39 = .ok (.if_icmp .ge 15, 3) := by decide +kernel
theorem dX3_figuresOfNewPart_42 : decode cX3_figuresOfNewPart 42 = .ok (.aload_n 0, 1) := by decide +kernel
theorem dX3_figuresOfNewPart_43 : decode cX3_figuresOfNewPart 43 = .ok (.dup, 1) := by decide +kernel
theorem dX3_figuresOfNewPart_44 : decode cX3_figuresOfNewPart 44 = .ok (.getfield 34, 3) := by decide +kernel
theorem dX3_figuresOfNewPart_47 : decode cX3_figuresOfNewPart 47 = .ok (.iconst 1, 1) := by decide +kernel
theorem dX3_figuresOfNewPart_48 : decode cX3_figuresOfNewPart 48 = .ok (.iadd, 1) := by decide +kernel
theorem dX3_figuresOfNewPart_49 : decode cX3_figuresOfNewPart 49 = .ok (.putfield 34, 3) := by decide +kernel
theorem dX3_figuresOfNewPart_52 : decode cX3_figuresOfNewPart 52 = .ok (.iconst 2, 1) := by decide +kernel
theorem dX3_figuresOfNewPart_53 : decode cX3_figuresOfNewPart 53 = .ok (.ireturn, 1) := by decide +kernel
theorem dX3_figuresOfNewPart_54 : decode cX3_figuresOfNewPart 54 = .ok (.iconst 0, 1) := by decide +kernel
theorem dX3_figuresOfNewPart_55 : decode cX3_figuresOfNewPart 55 = .ok (.ireturn, 1) := by decide +kernel
set_option maxRecDepth 20000 in
theorem ggX3_takePlayerFigure_X3_takeWithin : GoodIn wsX3_takePlayerFigure wsX3_takeWithin := goodIn_r _ [10, 11, 12, 13] (by decide +kernel) (by decide +kernel)
set_option maxRecDepth 20000 in
theorem gX3_takePlayerFigure_X3_takeWithin : GoodIn wsX3_takePlayerFigure (wsV RX3 52 RX3 yX3_takeWithin wsX3_takeWithin) := goodIn_app (goodIn_of _ (by decide +kernel)) ggX3_takePlayerFigure_X3_takeWithin
theorem dX3_takePlayerFigure_0 : decode cX3_takePlayerFigure 0 = .ok (.aload_n 0, 1) := by decide +kernel
theorem dX3_takePlayerFigure_1 : decode cX3_takePlayerFigure 1 = .ok (.getfield 30, 3) := by decide +kernel
theorem dX3_takePlayerFigure_4 : decode cX3_takePlayerFigure 4 = .ok (.iconst 1, 1) := by decide +kernel
theorem dX3_takePlayerFigure_5 : decode cX3_takePlayerFigure 5 = .ok (.isub, 1) := by decide +kernel
theorem dX3_takePlayerFigure_6 : decode cX3_takePlayerFigure 6 = .ok (.istore_n 3, 1) := by decide +kernel
theorem dX3_takePlayerFigure_7 : decode cX3_takePlayerFigure 7 = .ok (.iload_n 1, 1) := by decide +kernel
theorem dX3_takePlayerFigure_8 : decode cX3_takePlayerFigure 8 = .ok (.tableswitch 86 1 4 #[73, 60, 46, 32], 32) := by decide +kernel
theorem dX3_takePlayerFigure_40 : decode cX3_takePlayerFigure 40 = .ok (.aload_n 0, 1) := by decide +kernel
theorem dX3_takePlayerFigure_41 : decode cX3_takePlayerFigure 41 = .ok (.aload_n 0, 1) := by decide +kernel
theorem dX3_takePlayerFigure_42 : decode cX3_takePlayerFigure 42 = .ok (.getfield 9, 3) := by decide +kernel
theorem dX3_takePlayerFigure_45 : decode cX3_takePlayerFigure 45 = .ok (.iload_n 3, 1) := by decide +kernel
theorem dX3_takePlayerFigure_46 : decode cX3_takePlayerFigure 46 = .ok (.iload_n 2, 1) := by decide +kernel
theorem dX3_takePlayerFigure_47 : decode cX3_takePlayerFigure 47 = .ok (.iconst 1, 1) := by decide +kernel
theorem dX3_takePlayerFigure_48 : decode cX3_takePlayerFigure 48 = .ok (.bipush 9, 2) := by decide +kernel
theorem dX3_takePlayerFigure_50 : decode cX3_takePlayerFigure 50 = .ok (.invokevirtual 52, 3) := by decide +kernel
theorem dX3_takePlayerFigure_53 : decode cX3_takePlayerFigure 53 = .ok (.ireturn, 1) := by decide +kernel
theorem dX3_takePlayerFigure_54 : decode cX3_takePlayerFigure 54 = .ok (.aload_n 0, 1) := by decide +kernel
theorem dX3_takePlayerFigure_55 : decode cX3_takePlayerFigure 55 = .ok (.aload_n 0, 1) := by decide +kernel
theorem dX3_takePlayerFigure_56 : decode cX3_takePlayerFigure 56 = .ok (.getfield 15, 3) := by decide +kernel
theorem dX3_takePlayerFigure_59 : decode cX3_takePlayerFigure 59 = .ok (.iload_n 3, 1) := by decide +kernel
theorem dX3_takePlayerFigure_60 : decode cX3_takePlayerFigure 60 = .ok (.iload_n 2, 1) := by decide +kernel
theorem dX3_takePlayerFigure_61 : decode cX3_takePlayerFigure 61 = .ok (.iconst 0, 1) := by decide +kernel
theorem dX3_takePlayerFigure_62 : decode cX3_takePlayerFigure 62 = .ok (.bipush 9, 2) := by decide +kernel
theorem dX3_takePlayerFigure_64 : decode cX3_takePlayerFigure 64 = .ok (.invokevirtual 52, 3) := by decide +kernel
theorem dX3_takePlayerFigure_67 : decode cX3_takePlayerFigure 67 = .ok (.ireturn, 1) := by decide +kernel
theorem dX3_takePlayerFigure_68 : decode cX3_takePlayerFigure 68 = .ok (.aload_n 0, 1) := by decide +kernel
theorem dX3_takePlayerFigure_69 : decode cX3_takePlayerFigure 69 = .ok (.aload_n 0, 1) := by decide +kernel
theorem dX3_takePlayerFigure_70 : decode cX3_takePlayerFigure 70 = .ok (.getfield 18, 3) := by decide +kernel
theorem dX3_takePlayerFigure_73 : decode cX3_takePlayerFigure 73 = .ok (.iload_n 3, 1) := by decide +kernel
theorem dX3_takePlayerFigure_74 : decode cX3_takePlayerFigure 74 = .ok (.iload_n 2, 1) := by decide +kernel
theorem dX3_takePlayerFigure_75 : decode cX3_takePlayerFigure 75 = .ok (.iconst 0, 1) := by decide +kernel
theorem dX3_takePlayerFigure_76 : decode cX3_takePlayerFigure 76 = .ok (.iconst 3, 1) := by decide +kernel
theorem dX3_takePlayerFigure_77 : decode cX3_takePlayerFigure 77 = .ok (.invokevirtual 52, 3) := by decide +kernel
theorem dX3_takePlayerFigure_80 : decode cX3_takePlayerFigure 80 = .ok (.ireturn, 1) := by decide +kernel
theorem dX3_takePlayerFigure_81 : decode cX3_takePlayerFigure 81 = .ok (.aload_n 0, 1) := by decide +kernel
theorem dX3_takePlayerFigure_82 : decode cX3_takePlayerFigure 82 = .ok (.aload_n 0, 1) := by decide +kernel
theorem dX3_takePlayerFigure_83 : decode cX3_takePlayerFigure 83 = .ok (.getfield 21, 3) := by decide +kernel
theorem dX3_takePlayerFigure_86 : decode cX3_takePlayerFigure 86 = .ok (.iload_n 3, 1) := by decide +kernel
theorem dX3_takePlayerFigure_87 : decode cX3_takePlayerFigure 87 = .ok (.iload_n 2, 1) := by decide +kernel
theorem dX3_takePlayerFigure_88 : decode cX3_takePlayerFigure 88 = .ok (.iconst 0, 1) := by decide +kernel
theorem dX3_takePlayerFigure_89 : decode cX3_takePlayerFigure 89 = .ok (.iconst 5, 1) := by decide +kernel
theorem dX3_takePlayerFigure_90 : decode cX3_takePlayerFigure 90 = .ok (.invokevirtual 52, 3) := by decide +kernel
theorem dX3_takePlayerFigure_93 : decode cX3_takePlayerFigure 93 = .ok (.ireturn, 1) := by decide +kernel
theorem dX3_takePlayerFigure_94 : decode cX3_takePlayerFigure 94 = .ok (.iconst 0, 1) := by decide +kernel
theorem dX3_takePlayerFigure_95 : decode cX3_takePlayerFigure 95 = .ok (.ireturn, 1) := by decide +kernel
set_option maxRecDepth 20000 in
theorem ggX3_takeBarFigure_X3_takeWithin : GoodIn wsX3_takeBarFigure wsX3_takeWithin := goodIn_r _ [8, 9, 10, 11] (by decide +kernel) (by decide +kernel)
set_option maxRecDepth 20000 in
theorem gX3_takeBarFigure_X3_takeWithin : GoodIn wsX3_takeBarFigure (wsV RX3 52 RX3 yX3_takeWithin wsX3_takeWithin) := goodIn_app (goodIn_of _ (by decide +kernel)) ggX3_takeBarFigure_X3_takeWithin
theorem dX3_takeBarFigure_0 : decode cX3_takeBarFigure 0 = .ok (.aload_n 0, 1) := by decide +kernel
theorem dX3_takeBarFigure_1 : decode cX3_takeBarFigure 1 = .ok (.getfield 34, 3) := by decide +kernel
theorem dX3_takeBarFigure_4 : decode cX3_takeBarFigure 4 = .ok (.iconst 1, 1) := by decide +kernel
theorem dX3_takeBarFigure_5 : decode cX3_takeBarFigure 5 = .ok (.isub, 1) := by decide +kernel
theorem dX3_takeBarFigure_6 : decode cX3_takeBarFigure 6 = .ok (.istore_n 3, 1) := by decide +kernel
theorem dX3_takeBarFigure_7 : decode cX3_takeBarFigure 7 = .ok (.iload_n 1, 1) := by decide +kernel
theorem dX3_takeBarFigure_8 : decode cX3_takeBarFigure 8 = .ok (.lookupswitch 56 #[(1, 42), (2, 28)], 28) := by decide +kernel
theorem dX3_takeBarFigure_36 : decode cX3_takeBarFigure 36 = .ok (.aload_n 0, 1) := by decide +kernel
theorem dX3_takeBarFigure_37 : decode cX3_takeBarFigure 37 = .ok (.aload_n 0, 1) := by decide +kernel
theorem dX3_takeBarFigure_38 : decode cX3_takeBarFigure 38 = .ok (.getfield 24, 3) := by decide +kernel
theorem dX3_takeBarFigure_41 : decode cX3_takeBarFigure 41 = .ok (.iload_n 3, 1) := by decide +kernel
theorem dX3_takeBarFigure_42 : decode cX3_takeBarFigure 42 = .ok (.iload_n 2, 1) := by decide +kernel
theorem dX3_takeBarFigure_43 : decode cX3_takeBarFigure 43 = .ok (.iconst 0, 1) := by decide +kernel
theorem dX3_takeBarFigure_44 : decode cX3_takeBarFigure 44 = .ok (.bipush 9, 2) := by decide +kernel
theorem dX3_takeBarFigure_46 : decode cX3_takeBarFigure 46 = .ok (.invokevirtual 52, 3) := by decide +kernel
theorem dX3_takeBarFigure_49 : decode cX3_takeBarFigure 49 = .ok (.ireturn, 1) := by decide +kernel
theorem dX3_takeBarFigure_50 : decode cX3_takeBarFigure 50 = .ok (.aload_n 0, 1) := by decide +kernel
theorem dX3_takeBarFigure_51 : decode cX3_takeBarFigure 51 = .ok (.aload_n 0, 1) := by decide +kernel
theorem dX3_takeBarFigure_52 : decode cX3_takeBarFigure 52 = .ok (.getfield 27, 3) := by decide +kernel
theorem dX3_takeBarFigure_55 : decode cX3_takeBarFigure 55 = .ok (.iload_n 3, 1) := by decide +kernel
theorem dX3_takeBarFigure_56 : decode cX3_takeBarFigure 56 = .ok (.iload_n 2, 1) := by decide +kernel
theorem dX3_takeBarFigure_57 : decode cX3_takeBarFigure 57 = .ok (.iconst 0, 1) := by decide +kernel
theorem dX3_takeBarFigure_58 : decode cX3_takeBarFigure 58 = .ok (.bipush 7, 2) := by decide +kernel
theorem dX3_takeBarFigure_60 : decode cX3_takeBarFigure 60 = .ok (.invokevirtual 52, 3) := by decide +kernel
theorem dX3_takeBarFigure_63 : decode cX3_takeBarFigure 63 = .ok (.ireturn, 1) := by decide +kernel
theorem dX3_takeBarFigure_64 : decode cX3_takeBarFigure 64 = .ok (.iconst 0, 1) := by decide +kernel
theorem dX3_takeBarFigure_65 : decode cX3_takeBarFigure 65 = .ok (.ireturn, 1) := by decide +kernel
set_option maxRecDepth 20000 in
theorem ggX3_takeWithin_X4_put : GoodIn wsX3_takeWithin wsX4_put := goodIn_r _ [3] (by decide +kernel) (by decide +kernel)
set_option maxRecDepth 20000 in
theorem gX3_takeWithin_X4_put_n56 : GoodIn wsX3_takeWithin (wsX4_put) := ggX3_takeWithin_X4_put
theorem dX3_takeWithin_0 : decode cX3_takeWithin 0 = .ok (.iload_n 3, 1) := by decide +kernel
theorem dX3_takeWithin_1 : decode cX3_takeWithin 1 = .ok (.iload 4, 2) := by decide +kernel
theorem dX3_takeWithin_3 : decode cX3_takeWithin 3 = .ok (.if_icmp .lt 9, 3) := by decide +kernel
theorem dX3_takeWithin_6 : decode cX3_takeWithin 6 = .ok (.iload_n 3, 1) := by decide +kernel
theorem dX3_takeWithin_7 : decode cX3_takeWithin 7 = .ok (.iload 5, 2) := by decide +kernel
theorem dX3_takeWithin_9 : decode cX3_takeWithin 9 = .ok (.if_icmp .le 5, 3) := by decide +kernel
theorem dX3_takeWithin_12 : decode cX3_takeWithin 12 = .ok (.iconst 0, 1) := by decide +kernel
theorem dX3_takeWithin_13 : decode cX3_takeWithin 13 = .ok (.ireturn, 1) := by decide +kernel
theorem dX3_takeWithin_14 : decode cX3_takeWithin 14 = .ok (.aload_n 1, 1) := by decide +kernel
theorem dX3_takeWithin_15 : decode cX3_takeWithin 15 = .ok (.iload_n 2, 1) := by decide +kernel
theorem dX3_takeWithin_16 : decode cX3_takeWithin 16 = .ok (.iload_n 3, 1) := by decide +kernel
theorem dX3_takeWithin_17 : decode cX3_takeWithin 17 = .ok (.invokestatic 56, 3) := by decide +kernel
theorem dX3_takeWithin_20 : decode cX3_takeWithin 20 = .ok (.iconst 1, 1) := by decide +kernel
theorem dX3_takeWithin_21 : decode cX3_takeWithin 21 = .ok (.ireturn, 1) := by decide +kernel
theorem dX3_hasPlayer_0 : decode cX3_hasPlayer 0 = .ok (.iload_n 1, 1) := by decide +kernel
theorem dX3_hasPlayer_1 : decode cX3_hasPlayer 1 = .ok (.ifCond .lt 15, 3) := by decide +kernel
theorem dX3_hasPlayer_4 : decode cX3_hasPlayer 4 = .ok (.iload_n 1, 1) := by decide +kernel
theorem dX3_hasPlayer_5 : decode cX3_hasPlayer 5 = .ok (.aload_n 0, 1) := by decide +kernel
theorem dX3_hasPlayer_6 : decode cX3_hasPlayer 6 = .ok (.getfield 30, 3) := by decide +kernel
theorem dX3_hasPlayer_9 : decode cX3_hasPlayer 9 = .ok (.if_icmp .ge 7, 3) := by decide +kernel
theorem dX3_hasPlayer_12 : decode cX3_hasPlayer 12 = .ok (.iconst 1, 1) := by decide +kernel
theorem dX3_hasPlayer_13 : decode cX3_hasPlayer 13 = .ok (.goto 4, 3) := by decide +kernel
theorem dX3_hasPlayer_16 : decode cX3_hasPlayer 16 = .ok (.iconst 0, 1) := by decide +kernel
theorem dX3_hasPlayer_17 : decode cX3_hasPlayer 17 = .ok (.ireturn, 1) := by decide +kernel
theorem dX3_hasBar_0 : decode cX3_hasBar 0 = .ok (.iload_n 1, 1) := by decide +kernel
theorem dX3_hasBar_1 : decode cX3_hasBar 1 = .ok (.ifCond .lt 15, 3) := by decide +kernel
theorem dX3_hasBar_4 : decode cX3_hasBar 4 = .ok (.iload_n 1, 1) := by decide +kernel
theorem dX3_hasBar_5 : decode cX3_hasBar 5 = .ok (.aload_n 0, 1) := by decide +kernel
theorem dX3_hasBar_6 : decode cX3_hasBar 6 = .ok (.getfield 34, 3) := by decide +kernel
theorem dX3_hasBar_9 : decode cX3_hasBar 9 = .ok (.if_icmp .ge 7, 3) := by decide +kernel
theorem dX3_hasBar_12 : decode cX3_hasBar 12 = .ok (.iconst 1, 1) := by decide +kernel
theorem dX3_hasBar_13 : decode cX3_hasBar 13 = .ok (.goto 4, 3) := by decide +kernel
theorem dX3_hasBar_16 : decode cX3_hasBar 16 = .ok (.iconst 0, 1) := by decide +kernel
theorem dX3_hasBar_17 : decode cX3_hasBar 17 = .ok (.ireturn, 1) := by decide +kernel
theorem dX3_everybody_0 : decode cX3_everybody 0 = .ok (.iconst 1, 1) := by decide +kernel
theorem dX3_everybody_1 : decode cX3_everybody 1 = .ok (.aload_n 0, 1) := by decide +kernel
theorem dX3_everybody_2 : decode cX3_everybody 2 = .ok (.getfield 30, 3) := by decide +kernel
theorem dX3_everybody_5 : decode cX3_everybody 5 = .ok (.ishl, 1) := by decide +kernel
theorem dX3_everybody_6 : decode cX3_everybody 6 = .ok (.iconst 1, 1) := by decide +kernel
theorem dX3_everybody_7 : decode cX3_everybody 7 = .ok (.isub, 1) := by decide +kernel
theorem dX3_everybody_8 : decode cX3_everybody 8 = .ok (.ireturn, 1) := by decide +kernel
set_option maxRecDepth 20000 in
theorem ggX3_priceOf_X4_at : GoodIn wsX3_priceOf wsX4_at := goodIn_r _ [5] (by decide +kernel) (by decide +kernel)
set_option maxRecDepth 20000 in
theorem gX3_priceOf_X4_at_n37 : GoodIn wsX3_priceOf (wsX4_at) := ggX3_priceOf_X4_at
theorem dX3_priceOf_0 : decode cX3_priceOf 0 = .ok (.iconst 0, 1) := by decide +kernel
theorem dX3_priceOf_1 : decode cX3_priceOf 1 = .ok (.istore_n 2, 1) := by decide +kernel
theorem dX3_priceOf_2 : decode cX3_priceOf 2 = .ok (.iconst 0, 1) := by decide +kernel
theorem dX3_priceOf_3 : decode cX3_priceOf 3 = .ok (.istore_n 3, 1) := by decide +kernel
theorem dX3_priceOf_4 : decode cX3_priceOf 4 = .ok (.iload_n 3, 1) := by decide +kernel
theorem dX3_priceOf_5 : decode cX3_priceOf 5 = .ok (.aload_n 0, 1) := by decide +kernel
theorem dX3_priceOf_6 : decode cX3_priceOf 6 = .ok (.getfield 30, 3) := by decide +kernel
theorem dX3_priceOf_9 : decode cX3_priceOf 9 = .ok (.if_icmp .ge 29, 3) := by decide +kernel
theorem dX3_priceOf_12 : decode cX3_priceOf 12 = .ok (.iload_n 1, 1) := by decide +kernel
theorem dX3_priceOf_13 : decode cX3_priceOf 13 = .ok (.iload_n 3, 1) := by decide +kernel
theorem dX3_priceOf_14 : decode cX3_priceOf 14 = .ok (.ishr, 1) := by decide +kernel
theorem dX3_priceOf_15 : decode cX3_priceOf 15 = .ok (.iconst 1, 1) := by decide +kernel
theorem dX3_priceOf_16 : decode cX3_priceOf 16 = .ok (.iand, 1) := by decide +kernel
theorem dX3_priceOf_17 : decode cX3_priceOf 17 = .ok (.iconst 1, 1) := by decide +kernel
theorem dX3_priceOf_18 : decode cX3_priceOf 18 = .ok (.if_icmp .ne 14, 3) := by decide +kernel
theorem dX3_priceOf_21 : decode cX3_priceOf 21 = .ok (.iload_n 2, 1) := by decide +kernel
theorem dX3_priceOf_22 : decode cX3_priceOf 22 = .ok (.aload_n 0, 1) := by decide +kernel
theorem dX3_priceOf_23 : decode cX3_priceOf 23 = .ok (.getfield 9, 3) := by decide +kernel
theorem dX3_priceOf_26 : decode cX3_priceOf 26 = .ok (.iload_n 3, 1) := by decide +kernel
theorem dX3_priceOf_27 : decode cX3_priceOf 27 = .ok (.invokestatic 37, 3) := by decide +kernel
theorem dX3_priceOf_30 : decode cX3_priceOf 30 = .ok (.iadd, 1) := by decide +kernel
theorem dX3_priceOf_31 : decode cX3_priceOf 31 = .ok (.istore_n 2, 1) := by decide +kernel
theorem dX3_priceOf_32 : decode cX3_priceOf 32 = .ok (.iinc 3 1, 3) := by decide +kernel
theorem dX3_priceOf_35 : decode cX3_priceOf 35 = .ok (.goto (-31), 3) := by decide +kernel
theorem dX3_priceOf_38 : decode cX3_priceOf 38 = .ok (.iload_n 2, 1) := by decide +kernel
theorem dX3_priceOf_39 : decode cX3_priceOf 39 = .ok (.ireturn, 1) := by decide +kernel
set_option maxRecDepth 20000 in
theorem ggX3_isCheaper_X3_priceOf : GoodIn wsX3_isCheaper wsX3_priceOf := goodIn_r _ [5, 6, 7, 8, 9, 10, 21, 22, 23, 24, 25, 26, 27, 28] (by decide +kernel) (by decide +kernel)
set_option maxRecDepth 20000 in
theorem gX3_isCheaper_X3_priceOf : GoodIn wsX3_isCheaper (wsV RX3 60 RX3 yX3_priceOf wsX3_priceOf) := goodIn_app (goodIn_of _ (by decide +kernel)) ggX3_isCheaper_X3_priceOf
set_option maxRecDepth 20000 in
theorem ggX3_isCheaper_J6_compare_7cf53 : GoodIn wsX3_isCheaper wsJ6_compare_7cf53 := goodIn_r _ [14] (by decide +kernel) (by decide +kernel)
set_option maxRecDepth 20000 in
theorem gX3_isCheaper_J6_compare_7cf53 : GoodIn wsX3_isCheaper (va_wsS RX3 63 yJ6_compare_7cf53 wsJ6_compare_7cf53) := goodIn_app (goodIn_of _ (by decide +kernel)) ggX3_isCheaper_J6_compare_7cf53
set_option maxRecDepth 20000 in
theorem ggX3_isCheaper_J6_bitCount_0f7a4 : GoodIn wsX3_isCheaper wsJ6_bitCount_0f7a4 := goodIn_r _ [17, 18, 19, 20] (by decide +kernel) (by decide +kernel)
set_option maxRecDepth 20000 in
theorem gX3_isCheaper_J6_bitCount_0f7a4 : GoodIn wsX3_isCheaper (va_wsS RX3 69 yJ6_bitCount_0f7a4 wsJ6_bitCount_0f7a4) := goodIn_app (goodIn_of _ (by decide +kernel)) ggX3_isCheaper_J6_bitCount_0f7a4
theorem dX3_isCheaper_0 : decode cX3_isCheaper 0 = .ok (.aload_n 0, 1) := by decide +kernel
theorem dX3_isCheaper_1 : decode cX3_isCheaper 1 = .ok (.iload_n 1, 1) := by decide +kernel
theorem dX3_isCheaper_2 : decode cX3_isCheaper 2 = .ok (.invokevirtual 60, 3) := by decide +kernel
theorem dX3_isCheaper_5 : decode cX3_isCheaper 5 = .ok (.aload_n 0, 1) := by decide +kernel
theorem dX3_isCheaper_6 : decode cX3_isCheaper 6 = .ok (.iload_n 2, 1) := by decide +kernel
theorem dX3_isCheaper_7 : decode cX3_isCheaper 7 = .ok (.invokevirtual 60, 3) := by decide +kernel
theorem dX3_isCheaper_10 : decode cX3_isCheaper 10 = .ok (.invokestatic 63, 3) := by decide +kernel
theorem dX3_isCheaper_13 : decode cX3_isCheaper 13 = .ok (.istore_n 3, 1) := by decide +kernel
theorem dX3_isCheaper_14 : decode cX3_isCheaper 14 = .ok (.iload_n 1, 1) := by decide +kernel
theorem dX3_isCheaper_15 : decode cX3_isCheaper 15 = .ok (.invokestatic 69, 3) := by decide +kernel
theorem dX3_isCheaper_18 : decode cX3_isCheaper 18 = .ok (.iload_n 2, 1) := by decide +kernel
theorem dX3_isCheaper_19 : decode cX3_isCheaper 19 = .ok (.invokestatic 69, 3) := by decide +kernel
theorem dX3_isCheaper_22 : decode cX3_isCheaper 22 = .ok (.invokestatic 63, 3) := by decide +kernel
theorem dX3_isCheaper_25 : decode cX3_isCheaper 25 = .ok (.istore 4, 2) := by decide +kernel
theorem dX3_isCheaper_27 : decode cX3_isCheaper 27 = .ok (.iload_n 3, 1) := by decide +kernel
theorem dX3_isCheaper_28 : decode cX3_isCheaper 28 = .ok (.ifCond .eq 15, 3) := by decide +kernel
theorem dX3_isCheaper_31 : decode cX3_isCheaper 31 = .ok (.iload_n 3, 1) := by decide +kernel
theorem dX3_isCheaper_32 : decode cX3_isCheaper 32 = .ok (.ifCond .ge 7, 3) := by decide +kernel
theorem dX3_isCheaper_35 : decode cX3_isCheaper 35 = .ok (.iconst 1, 1) := by decide +kernel
theorem dX3_isCheaper_36 : decode cX3_isCheaper 36 = .ok (.goto 35, 3) := by decide +kernel
theorem dX3_isCheaper_39 : decode cX3_isCheaper 39 = .ok (.iconst 0, 1) := by decide +kernel
theorem dX3_isCheaper_40 : decode cX3_isCheaper 40 = .ok (.goto 31, 3) := by decide +kernel
theorem dX3_isCheaper_43 : decode cX3_isCheaper 43 = .ok (.iload 4, 2) := by decide +kernel
theorem dX3_isCheaper_45 : decode cX3_isCheaper 45 = .ok (.ifCond .eq 16, 3) := by decide +kernel
theorem dX3_isCheaper_48 : decode cX3_isCheaper 48 = .ok (.iload 4, 2) := by decide +kernel
theorem dX3_isCheaper_50 : decode cX3_isCheaper 50 = .ok (.ifCond .ge 7, 3) := by decide +kernel
theorem dX3_isCheaper_53 : decode cX3_isCheaper 53 = .ok (.iconst 1, 1) := by decide +kernel
theorem dX3_isCheaper_54 : decode cX3_isCheaper 54 = .ok (.goto 17, 3) := by decide +kernel
theorem dX3_isCheaper_57 : decode cX3_isCheaper 57 = .ok (.iconst 0, 1) := by decide +kernel
theorem dX3_isCheaper_58 : decode cX3_isCheaper 58 = .ok (.goto 13, 3) := by decide +kernel
theorem dX3_isCheaper_61 : decode cX3_isCheaper 61 = .ok (.iload_n 1, 1) := by decide +kernel
theorem dX3_isCheaper_62 : decode cX3_isCheaper 62 = .ok (.iload_n 2, 1) := by decide +kernel
theorem dX3_isCheaper_63 : decode cX3_isCheaper 63 = .ok (.if_icmp .ge 7, 3) := by decide +kernel
theorem dX3_isCheaper_66 : decode cX3_isCheaper 66 = .ok (.iconst 1, 1) := by decide +kernel
theorem dX3_isCheaper_67 : decode cX3_isCheaper 67 = .ok (.goto 4, 3) := by decide +kernel
theorem dX3_isCheaper_70 : decode cX3_isCheaper 70 = .ok (.iconst 0, 1) := by decide +kernel
theorem dX3_isCheaper_71 : decode cX3_isCheaper 71 = .ok (.ireturn, 1) := by decide +kernel
set_option maxRecDepth 20000 in
theorem ggX4_init_X3_init : GoodIn wsX4_init wsX3_init := goodIn_r _ [29, 30, 2, 3, 4, 31, 32, 33, 34, 35, 36, 69, 70, 71, 72, 73, 74, 75, 76] (by decide +kernel) (by decide +kernel)
set_option maxRecDepth 20000 in
theorem gX4_init_X3_init : GoodIn wsX4_init (wsX3_init) := ggX4_init_X3_init
set_option maxRecDepth 20000 in
theorem ggX4_init_X2_init : GoodIn wsX4_init wsX2_init := goodIn_r _ [39, 40, 2, 3, 4, 41, 77, 78, 79, 80, 81, 82, 83] (by decide +kernel) (by decide +kernel)
set_option maxRecDepth 20000 in
theorem gX4_init_X2_init : GoodIn wsX4_init (wsX2_init) := ggX4_init_X2_init
set_option maxRecDepth 20000 in
theorem ggX4_init_X0_init : GoodIn wsX4_init wsX0_init := goodIn_r _ [44, 45, 2, 3, 46, 47, 12, 13, 48, 38, 39, 40, 4, 41, 84, 85, 86, 77, 78, 79, 80, 81, 82, 83] (by decide +kernel) (by decide +kernel)
set_option maxRecDepth 20000 in
theorem gX4_init_X0_init : GoodIn wsX4_init (wsX0_init) := ggX4_init_X0_init
set_option maxRecDepth 20000 in
theorem ggX4_init_X1_init : GoodIn wsX4_init wsX1_init := goodIn_r _ [51, 52, 2, 3, 4, 53, 54, 55, 87, 88, 89, 90] (by decide +kernel) (by decide +kernel)
set_option maxRecDepth 20000 in
theorem gX4_init_X1_init : GoodIn wsX4_init (wsX1_init) := ggX4_init_X1_init
