theorem dX5_init_0 : decode cX5_init 0 = .ok (.aload_n 0, 1) := by decide +kernel
theorem dX5_init_1 : decode cX5_init 1 = .ok (.invokespecial 1, 3) := by decide +kernel
theorem dX5_init_4 : decode cX5_init 4 = .ok (.aload_n 0, 1) := by decide +kernel
theorem dX5_init_5 : decode cX5_init 5 = .ok (.bipush 6, 2) := by decide +kernel
theorem dX5_init_7 : decode cX5_init 7 = .ok (.newarray .int, 2) := by decide +kernel
theorem dX5_init_9 : decode cX5_init 9 = .ok (.putfield 7, 3) := by decide +kernel
theorem dX5_init_12 : decode cX5_init 12 = .ok (.aload_n 0, 1) := by decide +kernel
theorem dX5_init_13 : decode cX5_init 13 = .ok (.bipush 6, 2) := by decide +kernel
theorem dX5_init_15 : decode cX5_init 15 = .ok (.newarray .int, 2) := by decide +kernel
theorem dX5_init_17 : decode cX5_init 17 = .ok (.putfield 13, 3) := by decide +kernel
theorem dX5_init_20 : decode cX5_init 20 = .ok (.aload_n 0, 1) := by decide +kernel
theorem dX5_init_21 : decode cX5_init 21 = .ok (.bipush 6, 2) := by decide +kernel
theorem dX5_init_23 : decode cX5_init 23 = .ok (.newarray .int, 2) := by decide +kernel
theorem dX5_init_25 : decode cX5_init 25 = .ok (.putfield 16, 3) := by decide +kernel
theorem dX5_init_28 : decode cX5_init 28 = .ok (.aload_n 0, 1) := by decide +kernel
theorem dX5_init_29 : decode cX5_init 29 = .ok (.bipush 6, 2) := by decide +kernel
theorem dX5_init_31 : decode cX5_init 31 = .ok (.newarray .int, 2) := by decide +kernel
theorem dX5_init_33 : decode cX5_init 33 = .ok (.putfield 19, 3) := by decide +kernel
theorem dX5_init_36 : decode cX5_init 36 = .ok (.aload_n 0, 1) := by decide +kernel
theorem dX5_init_37 : decode cX5_init 37 = .ok (.bipush 8, 2) := by decide +kernel
theorem dX5_init_39 : decode cX5_init 39 = .ok (.newarray .int, 2) := by decide +kernel
theorem dX5_init_41 : decode cX5_init 41 = .ok (.putfield 22, 3) := by decide +kernel
theorem dX5_init_44 : decode cX5_init 44 = .ok (.aload_n 0, 1) := by decide +kernel
theorem dX5_init_45 : decode cX5_init 45 = .ok (.bipush 8, 2) := by decide +kernel
theorem dX5_init_47 : decode cX5_init 47 = .ok (.newarray .int, 2) := by decide +kernel
theorem dX5_init_49 : decode cX5_init 49 = .ok (.putfield 25, 3) := by decide +kernel
theorem dX5_init_52 : decode cX5_init 52 = .ok (.aload_n 0, 1) := by decide +kernel
theorem dX5_init_53 : decode cX5_init 53 = .ok (.bipush 32, 2) := by decide +kernel
theorem dX5_init_55 : decode cX5_init 55 = .ok (.newarray .int, 2) := by decide +kernel
theorem dX5_init_57 : decode cX5_init 57 = .ok (.putfield 28, 3) := by decide +kernel
theorem dX5_init_60 : decode cX5_init 60 = .ok (.aload_n 0, 1) := by decide +kernel
theorem dX5_init_61 : decode cX5_init 61 = .ok (.bipush 24, 2) := by decide +kernel
theorem dX5_init_63 : decode cX5_init 63 = .ok (.newarray .int, 2) := by decide +kernel
theorem dX5_init_65 : decode cX5_init 65 = .ok (.putfield 31, 3) := by decide +kernel
theorem dX5_init_68 : decode cX5_init 68 = .ok (.aload_n 0, 1) := by decide +kernel
theorem dX5_init_69 : decode cX5_init 69 = .ok (.bipush 16, 2) := by decide +kernel
theorem dX5_init_71 : decode cX5_init 71 = .ok (.newarray .int, 2) := by decide +kernel
theorem dX5_init_73 : decode cX5_init 73 = .ok (.putfield 34, 3) := by decide +kernel
theorem dX5_init_76 : decode cX5_init 76 = .ok (.aload_n 0, 1) := by decide +kernel
theorem dX5_init_77 : decode cX5_init 77 = .ok (.bipush 56, 2) := by decide +kernel
theorem dX5_init_79 : decode cX5_init 79 = .ok (.newarray .int, 2) := by decide +kernel
theorem dX5_init_81 : decode cX5_init 81 = .ok (.putfield 37, 3) := by decide +kernel
theorem dX5_init_84 : decode cX5_init 84 = .ok (.aload_n 0, 1) := by decide +kernel
theorem dX5_init_85 : decode cX5_init 85 = .ok (.sipush 224, 3) := by decide +kernel
theorem dX5_init_88 : decode cX5_init 88 = .ok (.newarray .int, 2) := by decide +kernel
theorem dX5_init_90 : decode cX5_init 90 = .ok (.putfield 40, 3) := by decide +kernel
theorem dX5_init_93 : decode cX5_init 93 = .ok (.aload_n 0, 1) := by decide +kernel
theorem dX5_init_94 : decode cX5_init 94 = .ok (.bipush 6, 2) := by decide +kernel
theorem dX5_init_96 : decode cX5_init 96 = .ok (.newarray .int, 2) := by decide +kernel
theorem dX5_init_98 : decode cX5_init 98 = .ok (.putfield 43, 3) := by decide +kernel
theorem dX5_init_101 : decode cX5_init 101 = .ok (.aload_n 0, 1) := by decide +kernel
theorem dX5_init_102 : decode cX5_init 102 = .ok (.bipush 6, 2) := by decide +kernel
theorem dX5_init_104 : decode cX5_init 104 = .ok (.newarray .int, 2) := by decide +kernel
theorem dX5_init_106 : decode cX5_init 106 = .ok (.putfield 46, 3) := by decide +kernel
theorem dX5_init_109 : decode cX5_init 109 = .ok (.aload_n 0, 1) := by decide +kernel
theorem dX5_init_110 : decode cX5_init 110 = .ok (.bipush 6, 2) := by decide +kernel
theorem dX5_init_112 : decode cX5_init 112 = .ok (.newarray .int, 2) := by decide +kernel
theorem dX5_init_114 : decode cX5_init 114 = .ok (.putfield 49, 3) := by decide +kernel
theorem dX5_init_117 : decode cX5_init 117 = .ok (.aload_n 0, 1) := by decide +kernel
theorem dX5_init_118 : decode cX5_init 118 = .ok (.iconst 2, 1) := by decide +kernel
theorem dX5_init_119 : decode cX5_init 119 = .ok (.newarray .boolean, 2) := by decide +kernel
theorem dX5_init_121 : decode cX5_init 121 = .ok (.putfield 52, 3) := by decide +kernel
theorem dX5_init_124 : decode cX5_init 124 = .ok (.aload_n 0, 1) := by decide +kernel
theorem dX5_init_125 : decode cX5_init 125 = .ok (.bipush 32, 2) := by decide +kernel
theorem dX5_init_127 : decode cX5_init 127 = .ok (.newarray .int, 2) := by decide +kernel
theorem dX5_init_129 : decode cX5_init 129 = .ok (.putfield 56, 3) := by decide +kernel
theorem dX5_init_132 : decode cX5_init 132 = .ok (.return_, 1) := by decide +kernel
theorem dX5_in_0 : decode cX5_in 0 = .ok (.lload_n 0, 1) := by decide +kernel
theorem dX5_in_1 : decode cX5_in 1 = .ok (.lload_n 2, 1) := by decide +kernel
theorem dX5_in_2 : decode cX5_in 2 = .ok (.lcmp, 1) := by decide +kernel
theorem dX5_in_3 : decode cX5_in 3 = .ok (.ifCond .lt 14, 3) := by decide +kernel
theorem dX5_in_6 : decode cX5_in 6 = .ok (.lload_n 0, 1) := by decide +kernel
theorem dX5_in_7 : decode cX5_in 7 = .ok (.lload 4, 2) := by decide +kernel
theorem dX5_in_9 : decode cX5_in 9 = .ok (.lcmp, 1) := by decide +kernel
theorem dX5_in_10 : decode cX5_in 10 = .ok (.ifCond .gt 7, 3) := by decide +kernel
theorem dX5_in_13 : decode cX5_in 13 = .ok (.iconst 1, 1) := by decide +kernel
theorem dX5_in_14 : decode cX5_in 14 = .ok (.goto 4, 3) := by decide +kernel
theorem dX5_in_17 : decode cX5_in 17 = .ok (.iconst 0, 1) := by decide +kernel
theorem dX5_in_18 : decode cX5_in 18 = .ok (.ireturn, 1) := by decide +kernel
theorem dX5_has_0 : decode cX5_has 0 = .ok (.iload_n 0, 1) := by decide +kernel
theorem dX5_has_1 : decode cX5_has 1 = .ok (.iload_n 1, 1) := by decide +kernel
theorem dX5_has_2 : decode cX5_has 2 = .ok (.ishr, 1) := by decide +kernel
theorem dX5_has_3 : decode cX5_has 3 = .ok (.iconst 1, 1) := by decide +kernel
theorem dX5_has_4 : decode cX5_has 4 = .ok (.iand, 1) := by decide +kernel
theorem dX5_has_5 : decode cX5_has 5 = .ok (.iconst 1, 1) := by decide +kernel
theorem dX5_has_6 : decode cX5_has 6 = .ok (.if_icmp .ne 7, 3) := by decide +kernel
theorem dX5_has_9 : decode cX5_has 9 = .ok (.iconst 1, 1) := by decide +kernel
theorem dX5_has_10 : decode cX5_has 10 = .ok (.goto 4, 3) := by decide +kernel
theorem dX5_has_13 : decode cX5_has 13 = .ok (.iconst 0, 1) := by decide +kernel
theorem dX5_has_14 : decode cX5_has 14 = .ok (.ireturn, 1) := by decide +kernel
theorem dX5_ones_0 : decode cX5_ones 0 = .ok (.iconst 0, 1) := by decide +kernel
theorem dX5_ones_1 : decode cX5_ones 1 = .ok (.istore_n 1, 1) := by decide +kernel
theorem dX5_ones_2 : decode cX5_ones 2 = .ok (.iconst 0, 1) := by decide +kernel
theorem dX5_ones_3 : decode cX5_ones 3 = .ok (.istore_n 2, 1) := by decide +kernel
theorem dX5_ones_4 : decode cX5_ones 4 = .ok (.iload_n 2, 1) := by decide +kernel
theorem dX5_ones_5 : decode cX5_ones 5 = .ok (.bipush 6, 2) := by decide +kernel
theorem dX5_ones_7 : decode cX5_ones 7 = .ok (.if_icmp .ge 17, 3) := by decide +kernel
theorem dX5_ones_10 : decode cX5_ones 10 = .ok (.iload_n 1, 1) := by decide +kernel
theorem dX5_ones_11 : decode cX5_ones 11 = .ok (.iload_n 0, 1) := by decide +kernel
theorem dX5_ones_12 : decode cX5_ones 12 = .ok (.iload_n 2, 1) := by decide +kernel
theorem dX5_ones_13 : decode cX5_ones 13 = .ok (.ishr, 1) := by decide +kernel
theorem dX5_ones_14 : decode cX5_ones 14 = .ok (.iconst 1, 1) := by decide +kernel
theorem dX5_ones_15 : decode cX5_ones 15 = .ok (.iand, 1) := by decide +kernel
theorem dX5_ones_16 : decode cX5_ones 16 = .ok (.iadd, 1) := by decide +kernel
theorem dX5_ones_17 : decode cX5_ones 17 = .ok (.istore_n 1, 1) := by decide +kernel
theorem dX5_ones_18 : decode cX5_ones 18 = .ok (.iinc 2 1, 3) := by decide +kernel
theorem dX5_ones_21 : decode cX5_ones 21 = .ok (.goto (-17), 3) := by decide +kernel
theorem dX5_ones_24 : decode cX5_ones 24 = .ok (.iload_n 1, 1) := by decide +kernel
theorem dX5_ones_25 : decode cX5_ones 25 = .ok (.ireturn, 1) := by decide +kernel
set_option maxRecDepth 20000 in
theorem ggX5_write_X5_in : GoodIn wsX5_write wsX5_in := goodIn_r _ [7] (by decide +kernel) (by decide +kernel)
set_option maxRecDepth 20000 in
theorem gX5_write_X5_in : GoodIn wsX5_write (va_wsS RX5 61 yX5_in wsX5_in) := goodIn_app (goodIn_of _ (by decide +kernel)) ggX5_write_X5_in
theorem dX5_write_0 : decode cX5_write 0 = .ok (.iload_n 1, 1) := by decide +kernel
theorem dX5_write_1 : decode cX5_write 1 = .ok (.i2l, 1) := by decide +kernel
theorem dX5_write_2 : decode cX5_write 2 = .ok (.lconst 0, 1) := by decide +kernel
theorem dX5_write_3 : decode cX5_write 3 = .ok (.ldc2_w 59, 3) := by decide +kernel
theorem dX5_write_6 : decode cX5_write 6 = .ok (.invokestatic 61, 3) := by decide +kernel
theorem dX5_write_9 : decode cX5_write 9 = .ok (.ifCond .ne 6, 3) := by decide +kernel
theorem dX5_write_12 : decode cX5_write 12 = .ok (.bipush (-2), 2) := by decide +kernel
theorem dX5_write_14 : decode cX5_write 14 = .ok (.ireturn, 1) := by decide +kernel
theorem dX5_write_15 : decode cX5_write 15 = .ok (.aload_n 0, 1) := by decide +kernel
theorem dX5_write_16 : decode cX5_write 16 = .ok (.getfield 65, 3) := by decide +kernel
theorem dX5_write_19 : decode cX5_write 19 = .ok (.bipush 56, 2) := by decide +kernel
theorem dX5_write_21 : decode cX5_write 21 = .ok (.if_icmp .ne 6, 3) := by decide +kernel
theorem dX5_write_24 : decode cX5_write 24 = .ok (.bipush (-4), 2) := by decide +kernel
theorem dX5_write_26 : decode cX5_write 26 = .ok (.ireturn, 1) := by decide +kernel
theorem dX5_write_27 : decode cX5_write 27 = .ok (.aload_n 0, 1) := by decide +kernel
theorem dX5_write_28 : decode cX5_write 28 = .ok (.getfield 37, 3) := by decide +kernel
theorem dX5_write_31 : decode cX5_write 31 = .ok (.aload_n 0, 1) := by decide +kernel
theorem dX5_write_32 : decode cX5_write 32 = .ok (.getfield 65, 3) := by decide +kernel
theorem dX5_write_35 : decode cX5_write 35 = .ok (.iload_n 1, 1) := by decide +kernel
theorem dX5_write_36 : decode cX5_write 36 = .ok (.iastore, 1) := by decide +kernel
theorem dX5_write_37 : decode cX5_write 37 = .ok (.aload_n 0, 1) := by decide +kernel
theorem dX5_write_38 : decode cX5_write 38 = .ok (.dup, 1) := by decide +kernel
theorem dX5_write_39 : decode cX5_write 39 = .ok (.getfield 65, 3) := by decide +kernel
theorem dX5_write_42 : decode cX5_write 42 = .ok (.iconst 1, 1) := by decide +kernel
theorem dX5_write_43 : decode cX5_write 43 = .ok (.iadd, 1) := by decide +kernel
theorem dX5_write_44 : decode cX5_write 44 = .ok (.putfield 65, 3) := by decide +kernel
theorem dX5_write_47 : decode cX5_write 47 = .ok (.aload_n 0, 1) := by decide +kernel
theorem dX5_write_48 : decode cX5_write 48 = .ok (.getfield 65, 3) := by decide +kernel
theorem dX5_write_51 : decode cX5_write 51 = .ok (.ireturn, 1) := by decide +kernel
theorem dX5_wipe_0 : decode cX5_wipe 0 = .ok (.aload_n 0, 1) := by decide +kernel
theorem dX5_wipe_1 : decode cX5_wipe 1 = .ok (.getfield 65, 3) := by decide +kernel
theorem dX5_wipe_4 : decode cX5_wipe 4 = .ok (.istore_n 1, 1) := by decide +kernel
theorem dX5_wipe_5 : decode cX5_wipe 5 = .ok (.aload_n 0, 1) := by decide +kernel
theorem dX5_wipe_6 : decode cX5_wipe 6 = .ok (.iconst 0, 1) := by decide +kernel
theorem dX5_wipe_7 : decode cX5_wipe 7 = .ok (.putfield 65, 3) := by decide +kernel
theorem dX5_wipe_10 : decode cX5_wipe 10 = .ok (.iload_n 1, 1) := by decide +kernel
theorem dX5_wipe_11 : decode cX5_wipe 11 = .ok (.ireturn, 1) := by decide +kernel
set_option maxRecDepth 20000 in
theorem ggX5_figureOf_X5_in : GoodIn wsX5_figureOf wsX5_in := goodIn_r _ [8] (by decide +kernel) (by decide +kernel)
set_option maxRecDepth 20000 in
theorem gX5_figureOf_X5_in : GoodIn wsX5_figureOf (va_wsS RX5 61 yX5_in wsX5_in) := goodIn_app (goodIn_of _ (by decide +kernel)) ggX5_figureOf_X5_in
theorem dX5_figureOf_0 : decode cX5_figureOf 0 = .ok (.aload_n 0, 1) := by decide +kernel
theorem dX5_figureOf_1 : decode cX5_figureOf 1 = .ok (.getfield 69, 3) := by decide +kernel
theorem dX5_figureOf_4 : decode cX5_figureOf 4 = .ok (.bipush (-9), 2) := by decide +kernel
theorem dX5_figureOf_6 : decode cX5_figureOf 6 = .ok (.if_icmp .ne 18, 3) := by decide +kernel
theorem dX5_figureOf_9 : decode cX5_figureOf 9 = .ok (.aload_n 0, 1) := by decide +kernel
theorem dX5_figureOf_10 : decode cX5_figureOf 10 = .ok (.getfield 72, 3) := by decide +kernel
theorem dX5_figureOf_13 : decode cX5_figureOf 13 = .ok (.aload_n 0, 1) := by decide +kernel
theorem dX5_figureOf_14 : decode cX5_figureOf 14 = .ok (.getfield 65, 3) := by decide +kernel
theorem dX5_figureOf_17 : decode cX5_figureOf 17 = .ok (.if_icmp .ge 7, 3) := by decide +kernel
theorem dX5_figureOf_20 : decode cX5_figureOf 20 = .ok (.iconst 1, 1) := by decide +kernel
theorem dX5_figureOf_21 : decode cX5_figureOf 21 = .ok (.goto 4, 3) := by decide +kernel
theorem dX5_figureOf_24 : decode cX5_figureOf 24 = .ok (.iconst 0, 1) := by decide +kernel
theorem dX5_figureOf_25 : decode cX5_figureOf 25 = .ok (.istore_n 3, 1) := by decide +kernel
theorem dX5_figureOf_26 : decode cX5_figureOf 26 = .ok (.iload_n 3, 1) := by decide +kernel
theorem dX5_figureOf_27 : decode cX5_figureOf 27 = .ok (.ifCond .eq 18, 3) := by decide +kernel
theorem dX5_figureOf_30 : decode cX5_figureOf 30 = .ok (.aload_n 0, 1) := by decide +kernel
theorem dX5_figureOf_31 : decode cX5_figureOf 31 = .ok (.getfield 37, 3) := by decide +kernel
theorem dX5_figureOf_34 : decode cX5_figureOf 34 = .ok (.aload_n 0, 1) := by decide +kernel
theorem dX5_figureOf_35 : decode cX5_figureOf 35 = .ok (.getfield 72, 3) := by decide +kernel
theorem dX5_figureOf_38 : decode cX5_figureOf 38 = .ok (.iaload, 1) := by decide +kernel
theorem dX5_figureOf_39 : decode cX5_figureOf 39 = .ok (.bipush 48, 2) := by decide +kernel
theorem dX5_figureOf_41 : decode cX5_figureOf 41 = .ok (.isub, 1) := by decide +kernel
theorem dX5_figureOf_42 : decode cX5_figureOf 42 = .ok (.goto 4, 3) := by decide +kernel
theorem dX5_figureOf_45 : decode cX5_figureOf 45 = .ok (.iconst 0, 1) := by decide +kernel
theorem dX5_figureOf_46 : decode cX5_figureOf 46 = .ok (.istore 4, 2) := by decide +kernel
theorem dX5_figureOf_48 : decode cX5_figureOf 48 = .ok (.iload_n 3, 1) := by decide +kernel
theorem dX5_figureOf_49 : decode cX5_figureOf 49 = .ok (.ifCond .eq 16, 3) := by decide +kernel
theorem dX5_figureOf_52 : decode cX5_figureOf 52 = .ok (.iload 4, 2) := by decide +kernel
theorem dX5_figureOf_54 : decode cX5_figureOf 54 = .ok (.i2l, 1) := by decide +kernel
theorem dX5_figureOf_55 : decode cX5_figureOf 55 = .ok (.iload_n 1, 1) := by decide +kernel
theorem dX5_figureOf_56 : decode cX5_figureOf 56 = .ok (.i2l, 1) := by decide +kernel
theorem dX5_figureOf_57 : decode cX5_figureOf 57 = .ok (.iload_n 2, 1) := by decide +kernel
theorem dX5_figureOf_58 : decode cX5_figureOf 58 = .ok (.i2l, 1) := by decide +kernel
theorem dX5_figureOf_59 : decode cX5_figureOf 59 = .ok (.invokestatic 61, 3) := by decide +kernel
theorem dX5_figureOf_62 : decode cX5_figureOf 62 = .ok (.ifCond .ne 29, 3) := by decide +kernel
theorem dX5_figureOf_65 : decode cX5_figureOf 65 = .ok (.aload_n 0, 1) := by decide +kernel
theorem dX5_figureOf_66 : decode cX5_figureOf 66 = .ok (.aload_n 0, 1) := by decide +kernel
theorem dX5_figureOf_67 : decode cX5_figureOf 67 = .ok (.getfield 69, 3) := by decide +kernel
theorem dX5_figureOf_70 : decode cX5_figureOf 70 = .ok (.bipush (-9), 2) := by decide +kernel
theorem dX5_figureOf_72 : decode cX5_figureOf 72 = .ok (.if_icmp .ne 10, 3) := by decide +kernel
theorem dX5_figureOf_75 : decode cX5_figureOf 75 = .ok (.aload_n 0, 1) := by decide +kernel
theorem dX5_figureOf_76 : decode cX5_figureOf 76 = .ok (.getfield 72, 3) := by decide +kernel
theorem dX5_figureOf_79 : decode cX5_figureOf 79 = .ok (.goto 7, 3) := by decide +kernel
theorem dX5_figureOf_82 : decode cX5_figureOf 82 = .ok (.aload_n 0, 1) := by decide +kernel
theorem dX5_figureOf_83 : decode cX5_figureOf 83 = .ok (.getfield 69, 3) := by decide +kernel
theorem dX5_figureOf_86 : decode cX5_figureOf 86 = .ok (.putfield 69, 3) := by decide +kernel
theorem dX5_figureOf_89 : decode cX5_figureOf 89 = .ok (.iconst 0, 1) := by decide +kernel
theorem dX5_figureOf_90 : decode cX5_figureOf 90 = .ok (.ireturn, 1) := by decide +kernel
theorem dX5_figureOf_91 : decode cX5_figureOf 91 = .ok (.aload_n 0, 1) := by decide +kernel
theorem dX5_figureOf_92 : decode cX5_figureOf 92 = .ok (.dup, 1) := by decide +kernel
theorem dX5_figureOf_93 : decode cX5_figureOf 93 = .ok (.getfield 72, 3) := by decide +kernel
theorem dX5_figureOf_96 : decode cX5_figureOf 96 = .ok (.iconst 1, 1) := by decide +kernel
theorem dX5_figureOf_97 : decode cX5_figureOf 97 = .ok (.iadd, 1) := by decide +kernel
theorem dX5_figureOf_98 : decode cX5_figureOf 98 = .ok (.putfield 72, 3) := by decide +kernel
theorem dX5_figureOf_101 : decode cX5_figureOf 101 = .ok (.iload 4, 2) := by decide +kernel
theorem dX5_figureOf_103 : decode cX5_figureOf 103 = .ok (.ireturn, 1) := by decide +kernel
set_option maxRecDepth 20000 in
theorem ggX5_readText_X5_readPart : GoodIn wsX5_readText wsX5_readPart := goodIn_r _ [11, 3, 1, 12, 4, 13, 2, 14, 15, 16, 10, 17, 5, 6, 18, 19, 20, 21, 22, 23, 24, 25, 26, 27, 28, 29, 30, 31, 32, 33, 34, 35, 36, 37, 38, 39, 40, 41, 42, 43, 44, 45, 46, 47, 48, 49] (by decide +kernel) (by decide +kernel)
set_option maxRecDepth 20000 in
theorem gX5_readText_X5_readPart : GoodIn wsX5_readText (wsV RX5 81 RX5 yX5_readPart wsX5_readPart) := goodIn_app (goodIn_of _ (by decide +kernel)) ggX5_readText_X5_readPart
theorem dX5_readText_0 : decode cX5_readText 0 = .ok (.aload_n 0, 1) := by decide +kernel
theorem dX5_readText_1 : decode cX5_readText 1 = .ok (.iconst 0, 1) := by decide +kernel
theorem dX5_readText_2 : decode cX5_readText 2 = .ok (.putfield 72, 3) := by decide +kernel
theorem dX5_readText_5 : decode cX5_readText 5 = .ok (.aload_n 0, 1) := by decide +kernel
theorem dX5_readText_6 : decode cX5_readText 6 = .ok (.bipush (-9), 2) := by decide +kernel
theorem dX5_readText_8 : decode cX5_readText 8 = .ok (.putfield 69, 3) := by decide +kernel
theorem dX5_readText_11 : decode cX5_readText 11 = .ok (.aload_n 0, 1) := by decide +kernel
theorem dX5_readText_12 : decode cX5_readText 12 = .ok (.iconst 0, 1) := by decide +kernel
theorem dX5_readText_13 : decode cX5_readText 13 = .ok (.putfield 75, 3) := by decide +kernel
theorem dX5_readText_16 : decode cX5_readText 16 = .ok (.aload_n 0, 1) := by decide +kernel
theorem dX5_readText_17 : decode cX5_readText 17 = .ok (.iconst 0, 1) := by decide +kernel
theorem dX5_readText_18 : decode cX5_readText 18 = .ok (.putfield 78, 3) := by decide +kernel
theorem dX5_readText_21 : decode cX5_readText 21 = .ok (.aload_n 0, 1) := by decide +kernel
theorem dX5_readText_22 : decode cX5_readText 22 = .ok (.getfield 65, 3) := by decide +kernel
theorem dX5_readText_25 : decode cX5_readText 25 = .ok (.ifCond .eq 14, 3) := by decide +kernel
theorem dX5_readText_28 : decode cX5_readText 28 = .ok (.aload_n 0, 1) := by decide +kernel
theorem dX5_readText_29 : decode cX5_readText 29 = .ok (.getfield 37, 3) := by decide +kernel
theorem dX5_readText_32 : decode cX5_readText 32 = .ok (.iconst 0, 1) := by decide +kernel
theorem dX5_readText_33 : decode cX5_readText 33 = .ok (.iaload, 1) := by decide +kernel
theorem dX5_readText_34 : decode cX5_readText 34 = .ok (.bipush 79, 2) := by decide +kernel
theorem dX5_readText_36 : decode cX5_readText 36 = .ok (.if_icmp .eq 5, 3) := by decide +kernel
theorem dX5_readText_39 : decode cX5_readText 39 = .ok (.iconst 0, 1) := by decide +kernel
theorem dX5_readText_40 : decode cX5_readText 40 = .ok (.ireturn, 1) := by decide +kernel
theorem dX5_readText_41 : decode cX5_readText 41 = .ok (.aload_n 0, 1) := by decide +kernel
theorem dX5_readText_42 : decode cX5_readText 42 = .ok (.iconst 1, 1) := by decide +kernel
theorem dX5_readText_43 : decode cX5_readText 43 = .ok (.putfield 72, 3) := by decide +kernel
theorem dX5_readText_46 : decode cX5_readText 46 = .ok (.aload_n 0, 1) := by decide +kernel
theorem dX5_readText_47 : decode cX5_readText 47 = .ok (.getfield 69, 3) := by decide +kernel
theorem dX5_readText_50 : decode cX5_readText 50 = .ok (.bipush (-9), 2) := by decide +kernel
theorem dX5_readText_52 : decode cX5_readText 52 = .ok (.if_icmp .ne 30, 3) := by decide +kernel
theorem dX5_readText_55 : decode cX5_readText 55 = .ok (.aload_n 0, 1) := by decide +kernel
theorem dX5_readText_56 : decode cX5_readText 56 = .ok (.getfield 72, 3) := by decide +kernel
theorem dX5_readText_59 : decode cX5_readText 59 = .ok (.aload_n 0, 1) := by decide +kernel
theorem dX5_readText_60 : decode cX5_readText 60 = .ok (.getfield 65, 3) := by decide +kernel
theorem dX5_readText_63 : decode cX5_readText 63 = .ok (.if_icmp .ge 19, 3) := by decide +kernel
theorem dX5_readText_66 : decode cX5_readText 66 = .ok (.aload_n 0, 1) := by decide +kernel
theorem dX5_readText_67 : decode cX5_readText 67 = .ok (.aload_n 0, 1) := by decide +kernel
theorem dX5_readText_68 : decode cX5_readText 68 = .ok (.getfield 37, 3) := by decide +kernel
theorem dX5_readText_71 : decode cX5_readText 71 = .ok (.aload_n 0, 1) := by decide +kernel
theorem dX5_readText_72 : decode cX5_readText 72 = .ok (.getfield 72, 3) := by decide +kernel
theorem dX5_readText_75 : decode cX5_readText 75 = .ok (.iaload, 1) := by decide +kernel
theorem dX5_readText_76 : decode cX5_readText 76 = .ok (.invokevirtual 81, 3) := by decide +kernel
theorem dX5_readText_79 : decode cX5_readText 79 = .ok (.goto (-33), 3) := by decide +kernel
theorem dX5_readText_82 : decode cX5_readText 82 = .ok (.aload_n 0, 1) := by decide +kernel
theorem dX5_readText_83 : decode cX5_readText 83 = .ok (.getfield 69, 3) := by decide +kernel
theorem dX5_readText_86 : decode cX5_readText 86 = .ok (.ireturn, 1) := by decide +kernel
set_option maxRecDepth 20000 in
theorem ggX5_readPart_X5_figureOf : GoodIn wsX5_readPart wsX5_figureOf := goodIn_r _ [11, 6, 2, 12, 13, 14, 15, 10, 16, 17, 18, 19, 20, 21, 22, 23, 24, 25, 26, 27, 28, 29, 30, 31, 32, 33, 34, 35, 36, 37, 38, 39, 40, 41, 42, 43, 44, 45] (by decide +kernel) (by decide +kernel)
set_option maxRecDepth 20000 in
theorem gX5_readPart_X5_figureOf : GoodIn wsX5_readPart (wsV RX5 85 RX5 yX5_figureOf wsX5_figureOf) := goodIn_app (goodIn_of _ (by decide +kernel)) ggX5_readPart_X5_figureOf
theorem dX5_readPart_0 : decode cX5_readPart 0 = .ok (.iload_n 1, 1) := by decide +kernel
theorem dX5_readPart_1 : decode cX5_readPart 1 = .ok (.bipush 80, 2) := by decide +kernel
theorem dX5_readPart_3 : decode cX5_readPart 3 = .ok (.if_icmp .ne 98, 3) := by decide +kernel
theorem dX5_readPart_6 : decode cX5_readPart 6 = .ok (.aload_n 0, 1) := by decide +kernel
theorem dX5_readPart_7 : decode cX5_readPart 7 = .ok (.getfield 75, 3) := by decide +kernel
theorem dX5_readPart_10 : decode cX5_readPart 10 = .ok (.bipush 6, 2) := by decide +kernel
theorem dX5_readPart_12 : decode cX5_readPart 12 = .ok (.if_icmp .ge 89, 3) := by decide +kernel
theorem dX5_readPart_15 : decode cX5_readPart 15 = .ok (.aload_n 0, 1) := by decide +kernel
theorem dX5_readPart_16 : decode cX5_readPart 16 = .ok (.dup, 1) := by decide +kernel
theorem dX5_readPart_17 : decode cX5_readPart 17 = .ok (.getfield 72, 3) := by decide +kernel
theorem dX5_readPart_20 : decode cX5_readPart 20 = .ok (.iconst 1, 1) := by decide +kernel
theorem dX5_readPart_21 : decode cX5_readPart 21 = .ok (.iadd, 1) := by decide +kernel
theorem dX5_readPart_22 : decode cX5_readPart 22 = .ok (.putfield 72, 3) := by decide +kernel
theorem dX5_readPart_25 : decode cX5_readPart 25 = .ok (.iconst 4, 1) := by decide +kernel
theorem dX5_readPart_26 : decode cX5_readPart 26 = .ok (.aload_n 0, 1) := by decide +kernel
theorem dX5_readPart_27 : decode cX5_readPart 27 = .ok (.getfield 75, 3) := by decide +kernel
theorem dX5_readPart_30 : decode cX5_readPart 30 = .ok (.imul, 1) := by decide +kernel
theorem dX5_readPart_31 : decode cX5_readPart 31 = .ok (.istore_n 2, 1) := by decide +kernel
theorem dX5_readPart_32 : decode cX5_readPart 32 = .ok (.aload_n 0, 1) := by decide +kernel
theorem dX5_readPart_33 : decode cX5_readPart 33 = .ok (.getfield 31, 3) := by decide +kernel
theorem dX5_readPart_36 : decode cX5_readPart 36 = .ok (.iload_n 2, 1) := by decide +kernel
theorem dX5_readPart_37 : decode cX5_readPart 37 = .ok (.aload_n 0, 1) := by decide +kernel
theorem dX5_readPart_38 : decode cX5_readPart 38 = .ok (.iconst 1, 1) := by decide +kernel
theorem dX5_readPart_39 : decode cX5_readPart 39 = .ok (.bipush 9, 2) := by decide +kernel
theorem dX5_readPart_41 : decode cX5_readPart 41 = .ok (.invokevirtual 85, 3) := by decide +kernel
theorem dX5_readPart_44 : decode cX5_readPart 44 = .ok (.iastore, 1) := by decide +kernel
theorem dX5_readPart_45 : decode cX5_readPart 45 = .ok (.aload_n 0, 1) := by decide +kernel
theorem dX5_readPart_46 : decode cX5_readPart 46 = .ok (.getfield 31, 3) := by decide +kernel
theorem dX5_readPart_49 : decode cX5_readPart 49 = .ok (.iload_n 2, 1) := by decide +kernel
theorem dX5_readPart_50 : decode cX5_readPart 50 = .ok (.iconst 1, 1) := by decide +kernel
theorem dX5_readPart_51 : decode cX5_readPart 51 = .ok (.iadd, 1) := by decide +kernel
theorem dX5_readPart_52 : decode cX5_readPart 52 = .ok (.aload_n 0, 1) := by decide +kernel
theorem dX5_readPart_53 : decode cX5_readPart 53 = .ok (.iconst 0, 1) := by decide +kernel
theorem dX5_readPart_54 : decode cX5_readPart 54 = .ok (.bipush 9, 2) := by decide +kernel
theorem dX5_readPart_56 : decode cX5_readPart 56 = .ok (.invokevirtual 85, 3) := by decide +kernel
theorem dX5_readPart_59 : decode cX5_readPart 59 = .ok (.iastore, 1) := by decide +kernel
theorem dX5_readPart_60 : decode cX5_readPart 60 = .ok (.aload_n 0, 1) := by decide +kernel
theorem dX5_readPart_61 : decode cX5_readPart 61 = .ok (.getfield 31, 3) := by decide +kernel
theorem dX5_readPart_64 : decode cX5_readPart 64 = .ok (.iload_n 2, 1) := by decide +kernel
theorem dX5_readPart_65 : decode cX5_readPart 65 = .ok (.iconst 2, 1) := by decide +kernel
theorem dX5_readPart_66 : decode cX5_readPart 66 = .ok (.iadd, 1) := by decide +kernel
theorem dX5_readPart_67 : decode cX5_readPart 67 = .ok (.aload_n 0, 1) := by decide +kernel
theorem dX5_readPart_68 : decode cX5_readPart 68 = .ok (.iconst 0, 1) := by decide +kernel
theorem dX5_readPart_69 : decode cX5_readPart 69 = .ok (.iconst 3, 1) := by decide +kernel
theorem dX5_readPart_70 : decode cX5_readPart 70 = .ok (.invokevirtual 85, 3) := by decide +kernel
theorem dX5_readPart_73 : decode cX5_readPart 73 = .ok (.iastore, 1) := by decide +kernel
theorem dX5_readPart_74 : decode cX5_readPart 74 = .ok (.aload_n 0, 1) := by decide +kernel
theorem dX5_readPart_75 : decode cX5_readPart 75 = .ok (.getfield 31, 3) := by decide +kernel
theorem dX5_readPart_78 : decode cX5_readPart 78 = .ok (.iload_n 2, 1) := by decide +kernel
theorem dX5_readPart_79 : decode cX5_readPart 79 = .ok (.iconst 3, 1) := by decide +kernel
theorem dX5_readPart_80 : decode cX5_readPart 80 = .ok (.iadd, 1) := by decide +kernel
theorem dX5_readPart_81 : decode cX5_readPart 81 = .ok (.aload_n 0, 1) := by decide +kernel
theorem dX5_readPart_82 : decode cX5_readPart 82 = .ok (.iconst 0, 1) := by decide +kernel
theorem dX5_readPart_83 : decode cX5_readPart 83 = .ok (.iconst 5, 1) := by decide +kernel
theorem dX5_readPart_84 : decode cX5_readPart 84 = .ok (.invokevirtual 85, 3) := by decide +kernel
theorem dX5_readPart_87 : decode cX5_readPart 87 = .ok (.iastore, 1) := by decide +kernel
theorem dX5_readPart_88 : decode cX5_readPart 88 = .ok (.aload_n 0, 1) := by decide +kernel
theorem dX5_readPart_89 : decode cX5_readPart 89 = .ok (.dup, 1) := by decide +kernel
theorem dX5_readPart_90 : decode cX5_readPart 90 = .ok (.getfield 75, 3) := by decide +kernel
theorem dX5_readPart_93 : decode cX5_readPart 93 = .ok (.iconst 1, 1) := by decide +kernel
theorem dX5_readPart_94 : decode cX5_readPart 94 = .ok (.iadd, 1) := by decide +kernel
theorem dX5_readPart_95 : decode cX5_readPart 95 = .ok (.putfield 75, 3) := by decide +kernel
theorem dX5_readPart_98 : decode cX5_readPart 98 = .ok (.goto 87, 3) := by decide +kernel
theorem dX5_readPart_101 : decode cX5_readPart 101 = .ok (.iload_n 1, 1) := by decide +kernel
theorem dX5_readPart_102 : decode cX5_readPart 102 = .ok (.bipush 66, 2) := by decide +kernel
theorem dX5_readPart_104 : decode cX5_readPart 104 = .ok (.if_icmp .ne 73, 3) := by decide +kernel
theorem dX5_readPart_107 : decode cX5_readPart 107 = .ok (.aload_n 0, 1) := by decide +kernel
theorem dX5_readPart_108 : decode cX5_readPart 108 = .ok (.getfield 78, 3) := by decide +kernel
theorem dX5_readPart_111 : decode cX5_readPart 111 = .ok (.bipush 8, 2) := by decide +kernel
theorem dX5_readPart_113 : decode cX5_readPart 113 = .ok (.if_icmp .ge 64, 3) := by decide +kernel
theorem dX5_readPart_116 : decode cX5_readPart 116 = .ok (.aload_n 0, 1) := by decide +kernel
theorem dX5_readPart_117 : decode cX5_readPart 117 = .ok (.dup, 1) := by decide +kernel
theorem dX5_readPart_118 : decode cX5_readPart 118 = .ok (.getfield 72, 3) := by decide +kernel
theorem dX5_readPart_121 : decode cX5_readPart 121 = .ok (.iconst 1, 1) := by decide +kernel
theorem dX5_readPart_122 : decode cX5_readPart 122 = .ok (.iadd, 1) := by decide +kernel
theorem dX5_readPart_123 : decode cX5_readPart 123 = .ok (.putfield 72, 3) := by decide +kernel
theorem dX5_readPart_126 : decode cX5_readPart 126 = .ok (.aload_n 0, 1) := by decide +kernel
theorem dX5_readPart_127 : decode cX5_readPart 127 = .ok (.getfield 34, 3) := by decide +kernel
theorem dX5_readPart_130 : decode cX5_readPart 130 = .ok (.iconst 2, 1) := by decide +kernel
theorem dX5_readPart_131 : decode cX5_readPart 131 = .ok (.aload_n 0, 1) := by decide +kernel
theorem dX5_readPart_132 : decode cX5_readPart 132 = .ok (.getfield 78, 3) := by decide +kernel
theorem dX5_readPart_135 : decode cX5_readPart 135 = .ok (.imul, 1) := by decide +kernel
theorem dX5_readPart_136 : decode cX5_readPart 136 = .ok (.aload_n 0, 1) := by decide +kernel
theorem dX5_readPart_137 : decode cX5_readPart 137 = .ok (.iconst 0, 1) := by decide +kernel
theorem dX5_readPart_138 : decode cX5_readPart 138 = .ok (.bipush 9, 2) := by decide +kernel
theorem dX5_readPart_140 : decode cX5_readPart 140 = .ok (.invokevirtual 85, 3) := by decide +kernel
theorem dX5_readPart_143 : decode cX5_readPart 143 = .ok (.iastore, 1) := by decide +kernel
theorem dX5_readPart_144 : decode cX5_readPart 144 = .ok (.aload_n 0, 1) := by decide +kernel
theorem dX5_readPart_145 : decode cX5_readPart 145 = .ok (.getfield 34, 3) := by decide +kernel
theorem dX5_readPart_148 : decode cX5_readPart 148 = .ok (.iconst 2, 1) := by decide +kernel
theorem dX5_readPart_149 : decode cX5_readPart 149 = .ok (.aload_n 0, 1) := by decide +kernel
theorem dX5_readPart_150 : decode cX5_readPart 150 = .ok (.getfield 78, 3) := by decide +kernel
theorem dX5_readPart_153 : decode cX5_readPart 153 = .ok (.imul, 1) := by decide +kernel
theorem dX5_readPart_154 : decode cX5_readPart 154 = .ok (.iconst 1, 1) := by decide +kernel
theorem dX5_readPart_155 : decode cX5_readPart 155 = .ok (.iadd, 1) := by decide +kernel
theorem dX5_readPart_156 : decode cX5_readPart 156 = .ok (.aload_n 0, 1) := by decide +kernel
theorem dX5_readPart_157 : decode cX5_readPart 157 = .ok (.iconst 0, 1) := by decide +kernel
theorem dX5_readPart_158 : decode cX5_readPart 158 = .ok (.bipush 7, 2) := by decide +kernel
theorem dX5_readPart_160 : decode cX5_readPart 160 = .ok (.invokevirtual 85, 3) := by decide +kernel
theorem dX5_readPart_163 : decode cX5_readPart 163 = .ok (.iastore, 1) := by decide +kernel
theorem dX5_readPart_164 : decode cX5_readPart 164 = .ok (.aload_n 0, 1) := by decide +kernel
theorem dX5_readPart_165 : decode cX5_readPart 165 = .ok (.dup, 1) := by decide +kernel
theorem dX5_readPart_166 : decode cX5_readPart 166 = .ok (.getfield 78, 3) := by decide +kernel
theorem dX5_readPart_169 : decode cX5_readPart 169 = .ok (.iconst 1, 1) := by decide +kernel
theorem dX5_readPart_170 : decode cX5_readPart 170 = .ok (.iadd, 1) := by decide +kernel
theorem dX5_readPart_171 : decode cX5_readPart 171 = .ok (.putfield 78, 3) := by decide +kernel
theorem dX5_readPart_174 : decode cX5_readPart 174 = .ok (.goto 11, 3) := by decide +kernel
theorem dX5_readPart_177 : decode cX5_readPart 177 = .ok (.aload_n 0, 1) := by decide +kernel
theorem dX5_readPart_178 : decode cX5_readPart 178 = .ok (.aload_n 0, 1) := by decide +kernel
theorem dX5_readPart_179 : decode cX5_readPart 179 = .ok (.getfield 72, 3) := by decide +kernel
theorem dX5_readPart_182 : decode cX5_readPart 182 = .ok (.putfield 69, 3) := by decide +kernel
theorem dX5_readPart_185 : decode cX5_readPart 185 = .ok (.return_, 1) := by decide +kernel
set_option maxRecDepth 20000 in
theorem ggX5_fault_X5_readText : GoodIn wsX5_fault wsX5_readText := goodIn_r _ [5, 6, 7, 8, 9, 10, 11, 12, 13, 14, 4, 15, 16, 17, 18, 19, 20, 21, 22, 23, 24, 25, 26, 27, 28, 29, 30, 31, 32, 33, 34, 35, 36, 37, 38, 39, 40, 41, 42, 43, 44, 45, 46, 47, 48, 49, 50, 51, 52, 53] (by decide +kernel) (by decide +kernel)
set_option maxRecDepth 20000 in
theorem gX5_fault_X5_readText : GoodIn wsX5_fault (wsV RX5 89 RX5 yX5_readText wsX5_readText) := goodIn_app (goodIn_of _ (by decide +kernel)) ggX5_fault_X5_readText
theorem dX5_fault_0 : decode cX5_fault 0 = .ok (.aload_n 0, 1) := by decide +kernel
theorem dX5_fault_1 : decode cX5_fault 1 = .ok (.invokevirtual 89, 3) := by decide +kernel
theorem dX5_fault_4 : decode cX5_fault 4 = .ok (.ireturn, 1) := by decide +kernel
set_option maxRecDepth 20000 in
theorem ggX5_concert_X5_readText : GoodIn wsX5_concert wsX5_readText := goodIn_r _ [20, 21, 22, 1, 3, 23, 24, 25, 26, 27, 19, 28, 7, 12, 29, 30, 31, 32, 33, 34, 35, 36, 37, 38, 39, 40, 41, 42, 43, 44, 45, 46, 47, 48, 49, 50, 51, 52, 53, 54, 55, 56, 57, 58, 59, 60, 61, 62, 63, 64] (by decide +kernel) (by decide +kernel)
set_option maxRecDepth 20000 in
theorem gX5_concert_X5_readText : GoodIn wsX5_concert (wsV RX5 89 RX5 yX5_readText wsX5_readText) := goodIn_app (goodIn_of _ (by decide +kernel)) ggX5_concert_X5_readText
theorem dX5_concert_0 : decode cX5_concert 0 = .ok (.aload_n 0, 1) := by decide +kernel
theorem dX5_concert_1 : decode cX5_concert 1 = .ok (.invokevirtual 89, 3) := by decide +kernel
theorem dX5_concert_4 : decode cX5_concert 4 = .ok (.bipush (-9), 2) := by decide +kernel
theorem dX5_concert_6 : decode cX5_concert 6 = .ok (.if_icmp .eq 6, 3) := by decide +kernel
theorem dX5_concert_9 : decode cX5_concert 9 = .ok (.bipush (-3), 2) := by decide +kernel
theorem dX5_concert_11 : decode cX5_concert 11 = .ok (.ireturn, 1) := by decide +kernel
theorem dX5_concert_12 : decode cX5_concert 12 = .ok (.aload_n 0, 1) := by decide +kernel
theorem dX5_concert_13 : decode cX5_concert 13 = .ok (.aload_n 0, 1) := by decide +kernel
theorem dX5_concert_14 : decode cX5_concert 14 = .ok (.getfield 75, 3) := by decide +kernel
theorem dX5_concert_17 : decode cX5_concert 17 = .ok (.putfield 93, 3) := by decide +kernel
theorem dX5_concert_20 : decode cX5_concert 20 = .ok (.aload_n 0, 1) := by decide +kernel
theorem dX5_concert_21 : decode cX5_concert 21 = .ok (.aload_n 0, 1) := by decide +kernel
theorem dX5_concert_22 : decode cX5_concert 22 = .ok (.getfield 78, 3) := by decide +kernel
theorem dX5_concert_25 : decode cX5_concert 25 = .ok (.putfield 96, 3) := by decide +kernel
theorem dX5_concert_28 : decode cX5_concert 28 = .ok (.iconst 0, 1) := by decide +kernel
theorem dX5_concert_29 : decode cX5_concert 29 = .ok (.istore_n 1, 1) := by decide +kernel
theorem dX5_concert_30 : decode cX5_concert 30 = .ok (.iload_n 1, 1) := by decide +kernel
theorem dX5_concert_31 : decode cX5_concert 31 = .ok (.bipush 16, 2) := by decide +kernel
theorem dX5_concert_33 : decode cX5_concert 33 = .ok (.if_icmp .ge 16, 3) := by decide +kernel
theorem dX5_concert_36 : decode cX5_concert 36 = .ok (.aload_n 0, 1) := by decide +kernel
theorem dX5_concert_37 : decode cX5_concert 37 = .ok (.getfield 28, 3) := by decide +kernel
theorem dX5_concert_40 : decode cX5_concert 40 = .ok (.iload_n 1, 1) := by decide +kernel
theorem dX5_concert_41 : decode cX5_concert 41 = .ok (.iconst 0, 1) := by decide +kernel
theorem dX5_concert_42 : decode cX5_concert 42 = .ok (.iastore, 1) := by decide +kernel
theorem dX5_concert_43 : decode cX5_concert 43 = .ok (.iinc 1 1, 3) := by decide +kernel
theorem dX5_concert_46 : decode cX5_concert 46 = .ok (.goto (-16), 3) := by decide +kernel
theorem dX5_concert_49 : decode cX5_concert 49 = .ok (.iconst 0, 1) := by decide +kernel
theorem dX5_concert_50 : decode cX5_concert 50 = .ok (.istore_n 1, 1) := by decide +kernel
theorem dX5_concert_51 : decode cX5_concert 51 = .ok (.iload_n 1, 1) := by decide +kernel
theorem dX5_concert_52 : decode cX5_concert 52 = .ok (.aload_n 0, 1) := by decide +kernel
theorem dX5_concert_53 : decode cX5_concert 53 = .ok (.getfield 93, 3) := by decide +kernel
theorem dX5_concert_56 : decode cX5_concert 56 = .ok (.if_icmp .ge 86, 3) := by decide +kernel
theorem dX5_concert_59 : decode cX5_concert 59 = .ok (.aload_n 0, 1) := by decide +kernel
theorem dX5_concert_60 : decode cX5_concert 60 = .ok (.getfield 7, 3) := by decide +kernel
theorem dX5_concert_63 : decode cX5_concert 63 = .ok (.iload_n 1, 1) := by decide +kernel
theorem dX5_concert_64 : decode cX5_concert 64 = .ok (.aload_n 0, 1) := by decide +kernel
theorem dX5_concert_65 : decode cX5_concert 65 = .ok (.getfield 31, 3) := by decide +kernel
theorem dX5_concert_68 : decode cX5_concert 68 = .ok (.iconst 4, 1) := by decide +kernel
theorem dX5_concert_69 : decode cX5_concert 69 = .ok (.iload_n 1, 1) := by decide +kernel
theorem dX5_concert_70 : decode cX5_concert 70 = .ok (.imul, 1) := by decide +kernel
theorem dX5_concert_71 : decode cX5_concert 71 = .ok (.iaload, 1) := by decide +kernel
theorem dX5_concert_72 : decode cX5_concert 72 = .ok (.iastore, 1) := by decide +kernel
theorem dX5_concert_73 : decode cX5_concert 73 = .ok (.aload_n 0, 1) := by decide +kernel
theorem dX5_concert_74 : decode cX5_concert 74 = .ok (.getfield 13, 3) := by decide +kernel
theorem dX5_concert_77 : decode cX5_concert 77 = .ok (.iload_n 1, 1) := by decide +kernel
theorem dX5_concert_78 : decode cX5_concert 78 = .ok (.aload_n 0, 1) := by decide +kernel
theorem dX5_concert_79 : decode cX5_concert 79 = .ok (.getfield 31, 3) := by decide +kernel
theorem dX5_concert_82 : decode cX5_concert 82 = .ok (.iconst 4, 1) := by decide +kernel
theorem dX5_concert_83 : decode cX5_concert 83 = .ok (.iload_n 1, 1) := by decide +kernel
theorem dX5_concert_84 : decode cX5_concert 84 = .ok (.imul, 1) := by decide +kernel
theorem dX5_concert_85 : decode cX5_concert 85 = .ok (.iconst 1, 1) := by decide +kernel
theorem dX5_concert_86 : decode cX5_concert 86 = .ok (.iadd, 1) := by decide +kernel
theorem dX5_concert_87 : decode cX5_concert 87 = .ok (.iaload, 1) := by decide +kernel
theorem dX5_concert_88 : decode cX5_concert 88 = .ok (.iastore, 1) := by decide +kernel
theorem dX5_concert_89 : decode cX5_concert 89 = .ok (.aload_n 0, 1) := by decide +kernel
theorem dX5_concert_90 : decode cX5_concert 90 = .ok (.getfield 16, 3) := by decide +kernel
theorem dX5_concert_93 : decode cX5_concert 93 = .ok (.iload_n 1, 1) := by decide +kernel
theorem dX5_concert_94 : decode cX5_concert 94 = .ok (.aload_n 0, 1) := by decide +kernel
theorem dX5_concert_95 : decode cX5_concert 95 = .ok (.getfield 31, 3) := by decide +kernel
theorem dX5_concert_98 : decode cX5_concert 98 = .ok (.iconst 4, 1) := by decide +kernel
theorem dX5_concert_99 : decode cX5_concert 99 = .ok (.iload_n 1, 1) := by decide +kernel
theorem dX5_concert_100 : decode cX5_concert 100 = .ok (.imul, 1) := by decide +kernel
theorem dX5_concert_101 : decode cX5_concert 101 = .ok (.iconst 2, 1) := by decide +kernel
theorem dX5_concert_102 : decode cX5_concert 102 = .ok (.iadd, 1) := by decide +kernel
theorem dX5_concert_103 : decode cX5_concert 103 = .ok (.iaload, 1) := by decide +kernel
theorem dX5_concert_104 : decode cX5_concert 104 = .ok (.iastore, 1) := by decide +kernel
theorem dX5_concert_105 : decode cX5_concert 105 = .ok (.aload_n 0, 1) := by decide +kernel
theorem dX5_concert_106 : decode cX5_concert 106 = .ok (.getfield 19, 3) := by decide +kernel
theorem dX5_concert_109 : decode cX5_concert 109 = .ok (.iload_n 1, 1) := by decide +kernel
theorem dX5_concert_110 : decode cX5_concert 110 = .ok (.aload_n 0, 1) := by decide +kernel
theorem dX5_concert_111 : decode cX5_concert 111 = .ok (.getfield 31, 3) := by decide +kernel
theorem dX5_concert_114 : decode cX5_concert 114 = .ok (.iconst 4, 1) := by decide +kernel
theorem dX5_concert_115 : decode cX5_concert 115 = .ok (.iload_n 1, 1) := by decide +kernel
theorem dX5_concert_116 : decode cX5_concert 116 = .ok (.imul, 1) := by decide +kernel
theorem dX5_concert_117 : decode cX5_concert 117 = .ok (.iconst 3, 1) := by decide +kernel
theorem dX5_concert_118 : decode cX5_concert 118 = .ok (.iadd, 1) := by decide +kernel
theorem dX5_concert_119 : decode cX5_concert 119 = .ok (.iaload, 1) := by decide +kernel
theorem dX5_concert_120 : decode cX5_concert 120 = .ok (.iastore, 1) := by decide +kernel
theorem dX5_concert_121 : decode cX5_concert 121 = .ok (.aload_n 0, 1) := by decide +kernel
theorem dX5_concert_122 : decode cX5_concert 122 = .ok (.getfield 28, 3) := by decide +kernel
theorem dX5_concert_125 : decode cX5_concert 125 = .ok (.bipush 6, 2) := by decide +kernel
theorem dX5_concert_127 : decode cX5_concert 127 = .ok (.iload_n 1, 1) := by decide +kernel
theorem dX5_concert_128 : decode cX5_concert 128 = .ok (.iadd, 1) := by decide +kernel
theorem dX5_concert_129 : decode cX5_concert 129 = .ok (.aload_n 0, 1) := by decide +kernel
theorem dX5_concert_130 : decode cX5_concert 130 = .ok (.getfield 13, 3) := by decide +kernel
theorem dX5_concert_133 : decode cX5_concert 133 = .ok (.iload_n 1, 1) := by decide +kernel
theorem dX5_concert_134 : decode cX5_concert 134 = .ok (.iaload, 1) := by decide +kernel
theorem dX5_concert_135 : decode cX5_concert 135 = .ok (.iastore, 1) := by decide +kernel
theorem dX5_concert_136 : decode cX5_concert 136 = .ok (.iinc 1 1, 3) := by decide +kernel
theorem dX5_concert_139 : decode cX5_concert 139 = .ok (.goto (-88), 3) := by decide +kernel
theorem dX5_concert_142 : decode cX5_concert 142 = .ok (.iconst 0, 1) := by decide +kernel
theorem dX5_concert_143 : decode cX5_concert 143 = .ok (.istore_n 1, 1) := by decide +kernel
theorem dX5_concert_144 : decode cX5_concert 144 = .ok (.iload_n 1, 1) := by decide +kernel
theorem dX5_concert_145 : decode cX5_concert 145 = .ok (.aload_n 0, 1) := by decide +kernel
theorem dX5_concert_146 : decode cX5_concert 146 = .ok (.getfield 96, 3) := by decide +kernel
theorem dX5_concert_149 : decode cX5_concert 149 = .ok (.if_icmp .ge 39, 3) := by decide +kernel
theorem dX5_concert_152 : decode cX5_concert 152 = .ok (.aload_n 0, 1) := by decide +kernel
theorem dX5_concert_153 : decode cX5_concert 153 = .ok (.getfield 22, 3) := by decide +kernel
theorem dX5_concert_156 : decode cX5_concert 156 = .ok (.iload_n 1, 1) := by decide +kernel
theorem dX5_concert_157 : decode cX5_concert 157 = .ok (.aload_n 0, 1) := by decide +kernel
theorem dX5_concert_158 : decode cX5_concert 158 = .ok (.getfield 34, 3) := by decide +kernel
theorem dX5_concert_161 : decode cX5_concert 161 = .ok (.iconst 2, 1) := by decide +kernel
theorem dX5_concert_162 : decode cX5_concert 162 = .ok (.iload_n 1, 1) := by decide +kernel
theorem dX5_concert_163 : decode cX5_concert 163 = .ok (.imul, 1) := by decide +kernel
theorem dX5_concert_164 : decode cX5_concert 164 = .ok (.iaload, 1) := by decide +kernel
theorem dX5_concert_165 : decode cX5_concert 165 = .ok (.iastore, 1) := by decide +kernel
theorem dX5_concert_166 : decode cX5_concert 166 = .ok (.aload_n 0, 1) := by decide +kernel
theorem dX5_concert_167 : decode cX5_concert 167 = .ok (.getfield 25, 3) := by decide +kernel
theorem dX5_concert_170 : decode cX5_concert 170 = .ok (.iload_n 1, 1) := by decide +kernel
theorem dX5_concert_171 : decode cX5_concert 171 = .ok (.aload_n 0, 1) := by decide +kernel
theorem dX5_concert_172 : decode cX5_concert 172 = .ok (.getfield 34, 3) := by decide +kernel
theorem dX5_concert_175 : decode cX5_concert 175 = .ok (.iconst 2, 1) := by decide +kernel
theorem dX5_concert_176 : decode cX5_concert 176 = .ok (.iload_n 1, 1) := by decide +kernel
theorem dX5_concert_177 : decode cX5_concert 177 = .ok (.imul, 1) := by decide +kernel
theorem dX5_concert_178 : decode cX5_concert 178 = .ok (.iconst 1, 1) := by decide +kernel
theorem dX5_concert_179 : decode cX5_concert 179 = .ok (.iadd, 1) := by decide +kernel
theorem dX5_concert_180 : decode cX5_concert 180 = .ok (.iaload, 1) := by decide +kernel
theorem dX5_concert_181 : decode cX5_concert 181 = .ok (.iastore, 1) := by decide +kernel
theorem dX5_concert_182 : decode cX5_concert 182 = .ok (.iinc 1 1, 3) := by decide +kernel
theorem dX5_concert_185 : decode cX5_concert 185 = .ok (.goto (-41), 3) := by decide +kernel
theorem dX5_concert_188 : decode cX5_concert 188 = .ok (.aload_n 0, 1) := by decide +kernel
theorem dX5_concert_189 : decode cX5_concert 189 = .ok (.iconst 0, 1) := by decide +kernel
theorem dX5_concert_190 : decode cX5_concert 190 = .ok (.putfield 99, 3) := by decide +kernel
theorem dX5_concert_193 : decode cX5_concert 193 = .ok (.aload_n 0, 1) := by decide +kernel
theorem dX5_concert_194 : decode cX5_concert 194 = .ok (.getfield 52, 3) := by decide +kernel
theorem dX5_concert_197 : decode cX5_concert 197 = .ok (.iconst 0, 1) := by decide +kernel
theorem dX5_concert_198 : decode cX5_concert 198 = .ok (.iconst 0, 1) := by decide +kernel
theorem dX5_concert_199 : decode cX5_concert 199 = .ok (.bastore, 1) := by decide +kernel
theorem dX5_concert_200 : decode cX5_concert 200 = .ok (.aload_n 0, 1) := by decide +kernel
theorem dX5_concert_201 : decode cX5_concert 201 = .ok (.getfield 52, 3) := by decide +kernel
theorem dX5_concert_204 : decode cX5_concert 204 = .ok (.iconst 1, 1) := by decide +kernel
theorem dX5_concert_205 : decode cX5_concert 205 = .ok (.iconst 0, 1) := by decide +kernel
theorem dX5_concert_206 : decode cX5_concert 206 = .ok (.bastore, 1) := by decide +kernel
theorem dX5_concert_207 : decode cX5_concert 207 = .ok (.bipush 10, 2) := by decide +kernel
theorem dX5_concert_209 : decode cX5_concert 209 = .ok (.aload_n 0, 1) := by decide +kernel
theorem dX5_concert_210 : decode cX5_concert 210 = .ok (.getfield 93, 3) := by decide +kernel
theorem dX5_concert_213 : decode cX5_concert 213 = .ok (.imul, 1) := by decide +kernel
theorem dX5_concert_214 : decode cX5_concert 214 = .ok (.aload_n 0, 1) := by decide +kernel
theorem dX5_concert_215 : decode cX5_concert 215 = .ok (.getfield 96, 3) := by decide +kernel
theorem dX5_concert_218 : decode cX5_concert 218 = .ok (.iadd, 1) := by decide +kernel
theorem dX5_concert_219 : decode cX5_concert 219 = .ok (.ireturn, 1) := by decide +kernel
set_option maxRecDepth 20000 in
theorem ggX5_isPlayer_X5_in : GoodIn wsX5_isPlayer wsX5_in := goodIn_r _ [5] (by decide +kernel) (by decide +kernel)
set_option maxRecDepth 20000 in
theorem gX5_isPlayer_X5_in : GoodIn wsX5_isPlayer (va_wsS RX5 61 yX5_in wsX5_in) := goodIn_app (goodIn_of _ (by decide +kernel)) ggX5_isPlayer_X5_in
theorem dX5_isPlayer_0 : decode cX5_isPlayer 0 = .ok (.iload_n 1, 1) := by decide +kernel
theorem dX5_isPlayer_1 : decode cX5_isPlayer 1 = .ok (.i2l, 1) := by decide +kernel
theorem dX5_isPlayer_2 : decode cX5_isPlayer 2 = .ok (.lconst 0, 1) := by decide +kernel
theorem dX5_isPlayer_3 : decode cX5_isPlayer 3 = .ok (.aload_n 0, 1) := by decide +kernel
theorem dX5_isPlayer_4 : decode cX5_isPlayer 4 = .ok (.getfield 93, 3) := by decide +kernel
theorem dX5_isPlayer_7 : decode cX5_isPlayer 7 = .ok (.iconst 1, 1) := by decide +kernel
theorem dX5_isPlayer_8 : decode cX5_isPlayer 8 = .ok (.isub, 1) := by decide +kernel
theorem dX5_isPlayer_9 : decode cX5_isPlayer 9 = .ok (.i2l, 1) := by decide +kernel
theorem dX5_isPlayer_10 : decode cX5_isPlayer 10 = .ok (.invokestatic 61, 3) := by decide +kernel
theorem dX5_isPlayer_13 : decode cX5_isPlayer 13 = .ok (.ireturn, 1) := by decide +kernel
theorem dX5_whoIs_0 : decode cX5_whoIs 0 = .ok (.iconst 0, 1) := by decide +kernel
theorem dX5_whoIs_1 : decode cX5_whoIs 1 = .ok (.istore_n 3, 1) := by decide +kernel
theorem dX5_whoIs_2 : decode cX5_whoIs 2 = .ok (.iconst 0, 1) := by decide +kernel
theorem dX5_whoIs_3 : decode cX5_whoIs 3 = .ok (.istore 4, 2) := by decide +kernel
theorem dX5_whoIs_5 : decode cX5_whoIs 5 = .ok (.iload 4, 2) := by decide +kernel
theorem dX5_whoIs_7 : decode cX5_whoIs 7 = .ok (.aload_n 0, 1) := by decide +kernel
theorem dX5_whoIs_8 : decode cX5_whoIs 8 = .ok (.getfield 93, 3) := by decide +kernel
theorem dX5_whoIs_11 : decode cX5_whoIs 11 = .ok (.if_icmp .ge 36, 3) := by decide +kernel
theorem dX5_whoIs_14 : decode cX5_whoIs 14 = .ok (.iload_n 3, 1) := by decide +kernel
theorem dX5_whoIs_15 : decode cX5_whoIs 15 = .ok (.aload_n 0, 1) := by decide +kernel
theorem dX5_whoIs_16 : decode cX5_whoIs 16 = .ok (.getfield 28, 3) := by decide +kernel
theorem dX5_whoIs_19 : decode cX5_whoIs 19 = .ok (.bipush 16, 2) := by decide +kernel
theorem dX5_whoIs_21 : decode cX5_whoIs 21 = .ok (.iload_n 1, 1) := by decide +kernel
theorem dX5_whoIs_22 : decode cX5_whoIs 22 = .ok (.imul, 1) := by decide +kernel
theorem dX5_whoIs_23 : decode cX5_whoIs 23 = .ok (.iload 4, 2) := by decide +kernel
theorem dX5_whoIs_25 : decode cX5_whoIs 25 = .ok (.iadd, 1) := by decide +kernel
theorem dX5_whoIs_26 : decode cX5_whoIs 26 = .ok (.iaload, 1) := by decide +kernel
theorem dX5_whoIs_27 : decode cX5_whoIs 27 = .ok (.iload_n 2, 1) := by decide +kernel
theorem dX5_whoIs_28 : decode cX5_whoIs 28 = .ok (.if_icmp .ne 10, 3) := by decide +kernel
theorem dX5_whoIs_31 : decode cX5_whoIs 31 = .ok (.iconst 1, 1) := by decide +kernel
theorem dX5_whoIs_32 : decode cX5_whoIs 32 = .ok (.iload 4, 2) := by decide +kernel
theorem dX5_whoIs_34 : decode cX5_whoIs 34 = .ok (.ishl, 1) := by decide +kernel
theorem dX5_whoIs_35 : decode cX5_whoIs 35 = .ok (.goto 4, 3) := by decide +kernel
theorem dX5_whoIs_38 : decode cX5_whoIs 38 = .ok (.iconst 0, 1) := by decide +kernel
theorem dX5_whoIs_39 : decode cX5_whoIs 39 = .ok (.ior, 1) := by decide +kernel
theorem dX5_whoIs_40 : decode cX5_whoIs 40 = .ok (.istore_n 3, 1) := by decide +kernel
theorem dX5_whoIs_41 : decode cX5_whoIs 41 = .ok (.iinc 4 1, 3) := by decide +kernel
theorem dX5_whoIs_44 : decode cX5_whoIs 44 = .ok (.goto (-39), 3) := by decide +kernel
theorem dX5_whoIs_47 : decode cX5_whoIs 47 = .ok (.iload_n 3, 1) := by decide +kernel
theorem dX5_whoIs_48 : decode cX5_whoIs 48 = .ok (.ireturn, 1) := by decide +kernel
set_option maxRecDepth 20000 in
theorem ggX5_howMany_X5_whoIs : GoodIn wsX5_howMany wsX5_whoIs := goodIn_r _ [5, 6, 7, 11, 12, 13, 14, 15, 16, 17, 18, 19, 20, 21, 22, 23, 24, 25, 26, 27, 28, 29, 30, 31, 32, 33, 34, 35, 36, 37, 38, 39] (by decide +kernel) (by decide +kernel)
set_option maxRecDepth 20000 in
theorem gX5_howMany_X5_whoIs : GoodIn wsX5_howMany (wsV RX5 102 RX5 yX5_whoIs wsX5_whoIs) := goodIn_app (goodIn_of _ (by decide +kernel)) ggX5_howMany_X5_whoIs
set_option maxRecDepth 20000 in
theorem ggX5_howMany_X5_ones : GoodIn wsX5_howMany wsX5_ones := goodIn_r _ [10] (by decide +kernel) (by decide +kernel)
set_option maxRecDepth 20000 in
theorem gX5_howMany_X5_ones : GoodIn wsX5_howMany (va_wsS RX5 105 yX5_ones wsX5_ones) := goodIn_app (goodIn_of _ (by decide +kernel)) ggX5_howMany_X5_ones
theorem dX5_howMany_0 : decode cX5_howMany 0 = .ok (.aload_n 0, 1) := by decide +kernel
theorem dX5_howMany_1 : decode cX5_howMany 1 = .ok (.iload_n 1, 1) := by decide +kernel
theorem dX5_howMany_2 : decode cX5_howMany 2 = .ok (.iconst 0, 1) := by decide +kernel
theorem dX5_howMany_3 : decode cX5_howMany 3 = .ok (.invokevirtual 102, 3) := by decide +kernel
theorem dX5_howMany_6 : decode cX5_howMany 6 = .ok (.invokestatic 105, 3) := by decide +kernel
theorem dX5_howMany_9 : decode cX5_howMany 9 = .ok (.ireturn, 1) := by decide +kernel
set_option maxRecDepth 20000 in
theorem ggX5_isSilent_X5_howMany : GoodIn wsX5_isSilent wsX5_howMany := goodIn_r _ [7, 8, 9, 10, 6, 11, 12, 1, 13, 14, 15, 16, 17, 18, 19, 20, 21, 22, 23, 24, 25, 26, 27, 28, 29, 30, 31, 32, 33, 34, 35, 36, 37, 38, 39, 40, 41, 42, 43, 44] (by decide +kernel) (by decide +kernel)
set_option maxRecDepth 20000 in
theorem gX5_isSilent_X5_howMany : GoodIn wsX5_isSilent (wsV RX5 109 RX5 yX5_howMany wsX5_howMany) := goodIn_app (goodIn_of _ (by decide +kernel)) ggX5_isSilent_X5_howMany
theorem dX5_isSilent_0 : decode cX5_isSilent 0 = .ok (.aload_n 0, 1) := by decide +kernel
theorem dX5_isSilent_1 : decode cX5_isSilent 1 = .ok (.iload_n 1, 1) := by decide +kernel
theorem dX5_isSilent_2 : decode cX5_isSilent 2 = .ok (.invokevirtual 109, 3) := by decide +kernel
theorem dX5_isSilent_5 : decode cX5_isSilent 5 = .ok (.ifCond .eq 22, 3) := by decide +kernel
theorem dX5_isSilent_8 : decode cX5_isSilent 8 = .ok (.aload_n 0, 1) := by decide +kernel
theorem dX5_isSilent_9 : decode cX5_isSilent 9 = .ok (.getfield 28, 3) := by decide +kernel
theorem dX5_isSilent_12 : decode cX5_isSilent 12 = .ok (.bipush 16, 2) := by decide +kernel
theorem dX5_isSilent_14 : decode cX5_isSilent 14 = .ok (.iload_n 1, 1) := by decide +kernel
theorem dX5_isSilent_15 : decode cX5_isSilent 15 = .ok (.imul, 1) := by decide +kernel
theorem dX5_isSilent_16 : decode cX5_isSilent 16 = .ok (.bipush 12, 2) := by decide +kernel
theorem dX5_isSilent_18 : decode cX5_isSilent 18 = .ok (.iadd, 1) := by decide +kernel
theorem dX5_isSilent_19 : decode cX5_isSilent 19 = .ok (.iaload, 1) := by decide +kernel
theorem dX5_isSilent_20 : decode cX5_isSilent 20 = .ok (.aload_n 0, 1) := by decide +kernel
theorem dX5_isSilent_21 : decode cX5_isSilent 21 = .ok (.getfield 96, 3) := by decide +kernel
theorem dX5_isSilent_24 : decode cX5_isSilent 24 = .ok (.if_icmp .lt 7, 3) := by decide +kernel
theorem dX5_isSilent_27 : decode cX5_isSilent 27 = .ok (.iconst 1, 1) := by decide +kernel
theorem dX5_isSilent_28 : decode cX5_isSilent 28 = .ok (.goto 4, 3) := by decide +kernel
theorem dX5_isSilent_31 : decode cX5_isSilent 31 = .ok (.iconst 0, 1) := by decide +kernel
theorem dX5_isSilent_32 : decode cX5_isSilent 32 = .ok (.ireturn, 1) := by decide +kernel
set_option maxRecDepth 20000 in
theorem ggX5_plays_X5_isPlayer : GoodIn wsX5_plays wsX5_isPlayer := goodIn_r _ [6, 7, 8, 9, 5, 10, 11, 12, 13, 14, 15, 16, 17, 18, 19, 20, 21, 22, 23, 24, 25, 26, 27, 28, 29, 30, 31, 32, 33, 34, 35, 36, 37, 38, 39] (by decide +kernel) (by decide +kernel)
set_option maxRecDepth 20000 in
theorem gX5_plays_X5_isPlayer : GoodIn wsX5_plays (wsV RX5 112 RX5 yX5_isPlayer wsX5_isPlayer) := goodIn_app (goodIn_of _ (by decide +kernel)) ggX5_plays_X5_isPlayer
theorem dX5_plays_0 : decode cX5_plays 0 = .ok (.aload_n 0, 1) := by decide +kernel
theorem dX5_plays_1 : decode cX5_plays 1 = .ok (.iload_n 2, 1) := by decide +kernel
theorem dX5_plays_2 : decode cX5_plays 2 = .ok (.invokevirtual 112, 3) := by decide +kernel
theorem dX5_plays_5 : decode cX5_plays 5 = .ok (.ifCond .eq 21, 3) := by decide +kernel
theorem dX5_plays_8 : decode cX5_plays 8 = .ok (.aload_n 0, 1) := by decide +kernel
theorem dX5_plays_9 : decode cX5_plays 9 = .ok (.getfield 28, 3) := by decide +kernel
theorem dX5_plays_12 : decode cX5_plays 12 = .ok (.bipush 16, 2) := by decide +kernel
theorem dX5_plays_14 : decode cX5_plays 14 = .ok (.iload_n 1, 1) := by decide +kernel
theorem dX5_plays_15 : decode cX5_plays 15 = .ok (.imul, 1) := by decide +kernel
theorem dX5_plays_16 : decode cX5_plays 16 = .ok (.iload_n 2, 1) := by decide +kernel
theorem dX5_plays_17 : decode cX5_plays 17 = .ok (.iadd, 1) := by decide +kernel
theorem dX5_plays_18 : decode cX5_plays 18 = .ok (.iaload, 1) := by decide +kernel
theorem dX5_plays_19 : decode cX5_plays 19 = .ok (.ifCond .ne 7, 3) := by decide +kernel
theorem dX5_plays_22 : decode cX5_plays 22 = .ok (.iconst 1, 1) := by decide +kernel
theorem dX5_plays_23 : decode cX5_plays 23 = .ok (.goto 4, 3) := by decide +kernel
theorem dX5_plays_26 : decode cX5_plays 26 = .ok (.iconst 0, 1) := by decide +kernel
theorem dX5_plays_27 : decode cX5_plays 27 = .ok (.ireturn, 1) := by decide +kernel
theorem dX5_blow_0 : decode cX5_blow 0 = .ok (.bipush 16, 2) := by decide +kernel
theorem dX5_blow_2 : decode cX5_blow 2 = .ok (.iload_n 1, 1) := by decide +kernel
theorem dX5_blow_3 : decode cX5_blow 3 = .ok (.imul, 1) := by decide +kernel
theorem dX5_blow_4 : decode cX5_blow 4 = .ok (.istore_n 3, 1) := by decide +kernel
theorem dX5_blow_5 : decode cX5_blow 5 = .ok (.iconst 0, 1) := by decide +kernel
theorem dX5_blow_6 : decode cX5_blow 6 = .ok (.istore 4, 2) := by decide +kernel
theorem dX5_blow_8 : decode cX5_blow 8 = .ok (.iload 4, 2) := by decide +kernel
theorem dX5_blow_10 : decode cX5_blow 10 = .ok (.aload_n 0, 1) := by decide +kernel
theorem dX5_blow_11 : decode cX5_blow 11 = .ok (.getfield 93, 3) := by decide +kernel
theorem dX5_blow_14 : decode cX5_blow 14 = .ok (.if_icmp .ge 121, 3) := by decide +kernel
theorem dX5_blow_17 : decode cX5_blow 17 = .ok (.aload_n 0, 1) := by decide +kernel
theorem dX5_blow_18 : decode cX5_blow 18 = .ok (.getfield 28, 3) := by decide +kernel
theorem dX5_blow_21 : decode cX5_blow 21 = .ok (.iload_n 3, 1) := by decide +kernel
theorem dX5_blow_22 : decode cX5_blow 22 = .ok (.iload 4, 2) := by decide +kernel
theorem dX5_blow_24 : decode cX5_blow 24 = .ok (.iadd, 1) := by decide +kernel
theorem dX5_blow_25 : decode cX5_blow 25 = .ok (.iaload, 1) := by decide +kernel
theorem dX5_blow_26 : decode cX5_blow 26 = .ok (.ifCond .ne 103, 3) := by decide +kernel
theorem dX5_blow_29 : decode cX5_blow 29 = .ok (.aload_n 0, 1) := by decide +kernel
theorem dX5_blow_30 : decode cX5_blow 30 = .ok (.getfield 16, 3) := by decide +kernel
theorem dX5_blow_33 : decode cX5_blow 33 = .ok (.iload 4, 2) := by decide +kernel
theorem dX5_blow_35 : decode cX5_blow 35 = .ok (.iaload, 1) := by decide +kernel
theorem dX5_blow_36 : decode cX5_blow 36 = .ok (.iconst 2, 1) := by decide +kernel
theorem dX5_blow_37 : decode cX5_blow 37 = .ok (.if_icmp .ne 12, 3) := by decide +kernel
theorem dX5_blow_40 : decode cX5_blow 40 = .ok (.iload_n 2, 1) := by decide +kernel
theorem dX5_blow_41 : decode cX5_blow 41 = .ok (.iconst 5, 1) := by decide +kernel
theorem dX5_blow_42 : decode cX5_blow 42 = .ok (.if_icmp .lt 7, 3) := by decide +kernel
theorem dX5_blow_45 : decode cX5_blow 45 = .ok (.iconst 2, 1) := by decide +kernel
theorem dX5_blow_46 : decode cX5_blow 46 = .ok (.goto 4, 3) := by decide +kernel
theorem dX5_blow_49 : decode cX5_blow 49 = .ok (.iconst 1, 1) := by decide +kernel
theorem dX5_blow_50 : decode cX5_blow 50 = .ok (.istore 5, 2) := by decide +kernel
theorem dX5_blow_52 : decode cX5_blow 52 = .ok (.aload_n 0, 1) := by decide +kernel
theorem dX5_blow_53 : decode cX5_blow 53 = .ok (.getfield 28, 3) := by decide +kernel
theorem dX5_blow_56 : decode cX5_blow 56 = .ok (.iload_n 3, 1) := by decide +kernel
theorem dX5_blow_57 : decode cX5_blow 57 = .ok (.bipush 6, 2) := by decide +kernel
theorem dX5_blow_59 : decode cX5_blow 59 = .ok (.iadd, 1) := by decide +kernel
theorem dX5_blow_60 : decode cX5_blow 60 = .ok (.iload 4, 2) := by decide +kernel
theorem dX5_blow_62 : decode cX5_blow 62 = .ok (.iadd, 1) := by decide +kernel
theorem dX5_blow_63 : decode cX5_blow 63 = .ok (.aload_n 0, 1) := by decide +kernel
theorem dX5_blow_64 : decode cX5_blow 64 = .ok (.getfield 28, 3) := by decide +kernel
theorem dX5_blow_67 : decode cX5_blow 67 = .ok (.iload_n 3, 1) := by decide +kernel
theorem dX5_blow_68 : decode cX5_blow 68 = .ok (.bipush 6, 2) := by decide +kernel
theorem dX5_blow_70 : decode cX5_blow 70 = .ok (.iadd, 1) := by decide +kernel
theorem dX5_blow_71 : decode cX5_blow 71 = .ok (.iload 4, 2) := by decide +kernel
theorem dX5_blow_73 : decode cX5_blow 73 = .ok (.iadd, 1) := by decide +kernel
theorem dX5_blow_74 : decode cX5_blow 74 = .ok (.iaload, 1) := by decide +kernel
theorem dX5_blow_75 : decode cX5_blow 75 = .ok (.iload 5, 2) := by decide +kernel
theorem dX5_blow_77 : decode cX5_blow 77 = .ok (.if_icmp .le 21, 3) := by decide +kernel
theorem dX5_blow_80 : decode cX5_blow 80 = .ok (.aload_n 0, 1) := by decide +kernel
theorem dX5_blow_81 : decode cX5_blow 81 = .ok (.getfield 28, 3) := by decide +kernel
theorem dX5_blow_84 : decode cX5_blow 84 = .ok (.iload_n 3, 1) := by decide +kernel
theorem dX5_blow_85 : decode cX5_blow 85 = .ok (.bipush 6, 2) := by decide +kernel
theorem dX5_blow_87 : decode cX5_blow 87 = .ok (.iadd, 1) := by decide +kernel
theorem dX5_blow_88 : decode cX5_blow 88 = .ok (.iload 4, 2) := by decide +kernel
theorem dX5_blow_90 : decode cX5_blow 90 = .ok (.iadd, 1) := by decide +kernel
theorem dX5_blow_91 : decode cX5_blow 91 = .ok (.iaload, 1) := by decide +kernel
theorem dX5_blow_92 : decode cX5_blow 92 = .ok (.iload 5, 2) := by decide +kernel
theorem dX5_blow_94 : decode cX5_blow 94 = .ok (.isub, 1) := by decide +kernel
theorem dX5_blow_95 : decode cX5_blow 95 = .ok (.goto 4, 3) := by decide +kernel
theorem dX5_blow_98 : decode cX5_blow 98 = .ok (.iconst 0, 1) := by decide +kernel
theorem dX5_blow_99 : decode cX5_blow 99 = .ok (.iastore, 1) := by decide +kernel
theorem dX5_blow_100 : decode cX5_blow 100 = .ok (.aload_n 0, 1) := by decide +kernel
theorem dX5_blow_101 : decode cX5_blow 101 = .ok (.getfield 28, 3) := by decide +kernel
theorem dX5_blow_104 : decode cX5_blow 104 = .ok (.iload_n 3, 1) := by decide +kernel
theorem dX5_blow_105 : decode cX5_blow 105 = .ok (.iload 4, 2) := by decide +kernel
theorem dX5_blow_107 : decode cX5_blow 107 = .ok (.iadd, 1) := by decide +kernel
theorem dX5_blow_108 : decode cX5_blow 108 = .ok (.aload_n 0, 1) := by decide +kernel
theorem dX5_blow_109 : decode cX5_blow 109 = .ok (.getfield 28, 3) := by decide +kernel
theorem dX5_blow_112 : decode cX5_blow 112 = .ok (.iload_n 3, 1) := by decide +kernel
theorem dX5_blow_113 : decode cX5_blow 113 = .ok (.bipush 6, 2) := by decide +kernel
theorem dX5_blow_115 : decode cX5_blow 115 = .ok (.iadd, 1) := by decide +kernel
theorem dX5_blow_116 : decode cX5_blow 116 = .ok (.iload 4, 2) := by decide +kernel
theorem dX5_blow_118 : decode cX5_blow 118 = .ok (.iadd, 1) := by decide +kernel
theorem dX5_blow_119 : decode cX5_blow 119 = .ok (.iaload, 1) := by decide +kernel
theorem dX5_blow_120 : decode cX5_blow 120 = .ok (.ifCond .ne 7, 3) := by decide +kernel
theorem dX5_blow_123 : decode cX5_blow 123 = .ok (.iconst 2, 1) := by decide +kernel
theorem dX5_blow_124 : decode cX5_blow 124 = .ok (.goto 4, 3) := by decide +kernel
theorem dX5_blow_127 : decode cX5_blow 127 = .ok (.iconst 0, 1) := by decide +kernel
theorem dX5_blow_128 : decode cX5_blow 128 = .ok (.iastore, 1) := by decide +kernel
theorem dX5_blow_129 : decode cX5_blow 129 = .ok (.iinc 4 1, 3) := by decide +kernel
theorem dX5_blow_132 : decode cX5_blow 132 = .ok (.goto (-124), 3) := by decide +kernel
theorem dX5_blow_135 : decode cX5_blow 135 = .ok (.return_, 1) := by decide +kernel
set_option maxRecDepth 20000 in
theorem ggX5_lean_X5_isPlayer : GoodIn wsX5_lean wsX5_isPlayer := goodIn_r _ [9, 1, 10, 11, 8, 12, 17, 18, 19, 20, 21, 22, 23, 24, 25, 26, 27, 28, 29, 30, 31, 32, 33, 34, 35, 36, 37, 38, 39, 40, 41, 42, 43, 44, 45] (by decide +kernel) (by decide +kernel)
set_option maxRecDepth 20000 in
theorem gX5_lean_X5_isPlayer : GoodIn wsX5_lean (wsV RX5 112 RX5 yX5_isPlayer wsX5_isPlayer) := goodIn_app (goodIn_of _ (by decide +kernel)) ggX5_lean_X5_isPlayer
set_option maxRecDepth 20000 in
theorem ggX5_lean_X5_plays : GoodIn wsX5_lean wsX5_plays := goodIn_r _ [16, 2, 5, 6, 7, 8, 9, 1, 10, 11, 12, 17, 18, 19, 20, 21, 22, 23, 24, 25, 26, 27, 28, 29, 30, 31, 32, 33, 34, 35, 36, 37, 38, 39, 40, 41, 42, 43, 44, 45] (by decide +kernel) (by decide +kernel)
set_option maxRecDepth 20000 in
theorem gX5_lean_X5_plays : GoodIn wsX5_lean (wsV RX5 116 RX5 yX5_plays wsX5_plays) := goodIn_app (goodIn_of _ (by decide +kernel)) ggX5_lean_X5_plays
theorem dX5_lean_0 : decode cX5_lean 0 = .ok (.bipush 16, 2) := by decide +kernel
theorem dX5_lean_2 : decode cX5_lean 2 = .ok (.iload_n 1, 1) := by decide +kernel
theorem dX5_lean_3 : decode cX5_lean 3 = .ok (.imul, 1) := by decide +kernel
theorem dX5_lean_4 : decode cX5_lean 4 = .ok (.istore_n 2, 1) := by decide +kernel
theorem dX5_lean_5 : decode cX5_lean 5 = .ok (.iconst 0, 1) := by decide +kernel
theorem dX5_lean_6 : decode cX5_lean 6 = .ok (.istore_n 3, 1) := by decide +kernel
theorem dX5_lean_7 : decode cX5_lean 7 = .ok (.iload_n 3, 1) := by decide +kernel
theorem dX5_lean_8 : decode cX5_lean 8 = .ok (.aload_n 0, 1) := by decide +kernel
theorem dX5_lean_9 : decode cX5_lean 9 = .ok (.getfield 93, 3) := by decide +kernel
theorem dX5_lean_12 : decode cX5_lean 12 = .ok (.if_icmp .ge 89, 3) := by decide +kernel
theorem dX5_lean_15 : decode cX5_lean 15 = .ok (.aload_n 0, 1) := by decide +kernel
theorem dX5_lean_16 : decode cX5_lean 16 = .ok (.getfield 28, 3) := by decide +kernel
theorem dX5_lean_19 : decode cX5_lean 19 = .ok (.iload_n 2, 1) := by decide +kernel
theorem dX5_lean_20 : decode cX5_lean 20 = .ok (.iload_n 3, 1) := by decide +kernel
theorem dX5_lean_21 : decode cX5_lean 21 = .ok (.iadd, 1) := by decide +kernel
theorem dX5_lean_22 : decode cX5_lean 22 = .ok (.iaload, 1) := by decide +kernel
theorem dX5_lean_23 : decode cX5_lean 23 = .ok (.ifCond .ne 44, 3) := by decide +kernel
theorem dX5_lean_26 : decode cX5_lean 26 = .ok (.aload_n 0, 1) := by decide +kernel
theorem dX5_lean_27 : decode cX5_lean 27 = .ok (.getfield 16, 3) := by decide +kernel
theorem dX5_lean_30 : decode cX5_lean 30 = .ok (.iload_n 3, 1) := by decide +kernel
theorem dX5_lean_31 : decode cX5_lean 31 = .ok (.iaload, 1) := by decide +kernel
theorem dX5_lean_32 : decode cX5_lean 32 = .ok (.iconst 1, 1) := by decide +kernel
theorem dX5_lean_33 : decode cX5_lean 33 = .ok (.if_icmp .ne 34, 3) := by decide +kernel
theorem dX5_lean_36 : decode cX5_lean 36 = .ok (.aload_n 0, 1) := by decide +kernel
theorem dX5_lean_37 : decode cX5_lean 37 = .ok (.aload_n 0, 1) := by decide +kernel
theorem dX5_lean_38 : decode cX5_lean 38 = .ok (.getfield 19, 3) := by decide +kernel
theorem dX5_lean_41 : decode cX5_lean 41 = .ok (.iload_n 3, 1) := by decide +kernel
theorem dX5_lean_42 : decode cX5_lean 42 = .ok (.iaload, 1) := by decide +kernel
theorem dX5_lean_43 : decode cX5_lean 43 = .ok (.invokevirtual 112, 3) := by decide +kernel
theorem dX5_lean_46 : decode cX5_lean 46 = .ok (.ifCond .eq 21, 3) := by decide +kernel
theorem dX5_lean_49 : decode cX5_lean 49 = .ok (.aload_n 0, 1) := by decide +kernel
theorem dX5_lean_50 : decode cX5_lean 50 = .ok (.iload_n 1, 1) := by decide +kernel
theorem dX5_lean_51 : decode cX5_lean 51 = .ok (.aload_n 0, 1) := by decide +kernel
theorem dX5_lean_52 : decode cX5_lean 52 = .ok (.getfield 19, 3) := by decide +kernel
theorem dX5_lean_55 : decode cX5_lean 55 = .ok (.iload_n 3, 1) := by decide +kernel
theorem dX5_lean_56 : decode cX5_lean 56 = .ok (.iaload, 1) := by decide +kernel
theorem dX5_lean_57 : decode cX5_lean 57 = .ok (.invokevirtual 116, 3) := by decide +kernel
theorem dX5_lean_60 : decode cX5_lean 60 = .ok (.ifCond .ne 7, 3) := by decide +kernel
theorem dX5_lean_63 : decode cX5_lean 63 = .ok (.iconst 1, 1) := by decide +kernel
theorem dX5_lean_64 : decode cX5_lean 64 = .ok (.goto 4, 3) := by decide +kernel
theorem dX5_lean_67 : decode cX5_lean 67 = .ok (.iconst 0, 1) := by decide +kernel
theorem dX5_lean_68 : decode cX5_lean 68 = .ok (.istore 4, 2) := by decide +kernel
theorem dX5_lean_70 : decode cX5_lean 70 = .ok (.aload_n 0, 1) := by decide +kernel
theorem dX5_lean_71 : decode cX5_lean 71 = .ok (.getfield 28, 3) := by decide +kernel
theorem dX5_lean_74 : decode cX5_lean 74 = .ok (.iload_n 2, 1) := by decide +kernel
theorem dX5_lean_75 : decode cX5_lean 75 = .ok (.iload_n 3, 1) := by decide +kernel
theorem dX5_lean_76 : decode cX5_lean 76 = .ok (.iadd, 1) := by decide +kernel
theorem dX5_lean_77 : decode cX5_lean 77 = .ok (.iload 4, 2) := by decide +kernel
theorem dX5_lean_79 : decode cX5_lean 79 = .ok (.ifCond .eq 7, 3) := by decide +kernel
theorem dX5_lean_82 : decode cX5_lean 82 = .ok (.iconst 2, 1) := by decide +kernel
theorem dX5_lean_83 : decode cX5_lean 83 = .ok (.goto 11, 3) := by decide +kernel
theorem dX5_lean_86 : decode cX5_lean 86 = .ok (.aload_n 0, 1) := by decide +kernel
theorem dX5_lean_87 : decode cX5_lean 87 = .ok (.getfield 28, 3) := by decide +kernel
theorem dX5_lean_90 : decode cX5_lean 90 = .ok (.iload_n 2, 1) := by decide +kernel
theorem dX5_lean_91 : decode cX5_lean 91 = .ok (.iload_n 3, 1) := by decide +kernel
theorem dX5_lean_92 : decode cX5_lean 92 = .ok (.iadd, 1) := by decide +kernel
theorem dX5_lean_93 : decode cX5_lean 93 = .ok (.iaload, 1) := by decide +kernel
theorem dX5_lean_94 : decode cX5_lean 94 = .ok (.iastore, 1) := by decide +kernel
theorem dX5_lean_95 : decode cX5_lean 95 = .ok (.iinc 3 1, 3) := by decide +kernel
theorem dX5_lean_98 : decode cX5_lean 98 = .ok (.goto (-91), 3) := by decide +kernel
theorem dX5_lean_101 : decode cX5_lean 101 = .ok (.iconst 0, 1) := by decide +kernel
theorem dX5_lean_102 : decode cX5_lean 102 = .ok (.istore_n 3, 1) := by decide +kernel
theorem dX5_lean_103 : decode cX5_lean 103 = .ok (.iconst 0, 1) := by decide +kernel
theorem dX5_lean_104 : decode cX5_lean 104 = .ok (.istore 4, 2) := by decide +kernel
theorem dX5_lean_106 : decode cX5_lean 106 = .ok (.iload 4, 2) := by decide +kernel
theorem dX5_lean_108 : decode cX5_lean 108 = .ok (.aload_n 0, 1) := by decide +kernel
theorem dX5_lean_109 : decode cX5_lean 109 = .ok (.getfield 93, 3) := by decide +kernel
theorem dX5_lean_112 : decode cX5_lean 112 = .ok (.if_icmp .ge 42, 3) := by decide +kernel
theorem dX5_lean_115 : decode cX5_lean 115 = .ok (.iload_n 3, 1) := by decide +kernel
theorem dX5_lean_116 : decode cX5_lean 116 = .ok (.ifCond .ne 26, 3) := by decide +kernel
theorem dX5_lean_119 : decode cX5_lean 119 = .ok (.aload_n 0, 1) := by decide +kernel
theorem dX5_lean_120 : decode cX5_lean 120 = .ok (.getfield 28, 3) := by decide +kernel
theorem dX5_lean_123 : decode cX5_lean 123 = .ok (.iload_n 2, 1) := by decide +kernel
theorem dX5_lean_124 : decode cX5_lean 124 = .ok (.iload 4, 2) := by decide +kernel
theorem dX5_lean_126 : decode cX5_lean 126 = .ok (.iadd, 1) := by decide +kernel
theorem dX5_lean_127 : decode cX5_lean 127 = .ok (.iaload, 1) := by decide +kernel
theorem dX5_lean_128 : decode cX5_lean 128 = .ok (.ifCond .ne 18, 3) := by decide +kernel
theorem dX5_lean_131 : decode cX5_lean 131 = .ok (.aload_n 0, 1) := by decide +kernel
theorem dX5_lean_132 : decode cX5_lean 132 = .ok (.getfield 16, 3) := by decide +kernel
theorem dX5_lean_135 : decode cX5_lean 135 = .ok (.iload 4, 2) := by decide +kernel
theorem dX5_lean_137 : decode cX5_lean 137 = .ok (.iaload, 1) := by decide +kernel
theorem dX5_lean_138 : decode cX5_lean 138 = .ok (.iconst 2, 1) := by decide +kernel
theorem dX5_lean_139 : decode cX5_lean 139 = .ok (.if_icmp .eq 7, 3) := by decide +kernel
theorem dX5_lean_142 : decode cX5_lean 142 = .ok (.iconst 1, 1) := by decide +kernel
theorem dX5_lean_143 : decode cX5_lean 143 = .ok (.goto 4, 3) := by decide +kernel
theorem dX5_lean_146 : decode cX5_lean 146 = .ok (.iconst 0, 1) := by decide +kernel
theorem dX5_lean_147 : decode cX5_lean 147 = .ok (.istore_n 3, 1) := by decide +kernel
theorem dX5_lean_148 : decode cX5_lean 148 = .ok (.iinc 4 1, 3) := by decide +kernel
theorem dX5_lean_151 : decode cX5_lean 151 = .ok (.goto (-45), 3) := by decide +kernel
theorem dX5_lean_154 : decode cX5_lean 154 = .ok (.iconst 0, 1) := by decide +kernel
theorem dX5_lean_155 : decode cX5_lean 155 = .ok (.istore 4, 2) := by decide +kernel
theorem dX5_lean_157 : decode cX5_lean 157 = .ok (.iload 4, 2) := by decide +kernel
theorem dX5_lean_159 : decode cX5_lean 159 = .ok (.aload_n 0, 1) := by decide +kernel
theorem dX5_lean_160 : decode cX5_lean 160 = .ok (.getfield 93, 3) := by decide +kernel
theorem dX5_lean_163 : decode cX5_lean 163 = .ok (.if_icmp .ge 58, 3) := by decide +kernel
theorem dX5_lean_166 : decode cX5_lean 166 = .ok (.aload_n 0, 1) := by decide +kernel
theorem dX5_lean_167 : decode cX5_lean 167 = .ok (.getfield 28, 3) := by decide +kernel
theorem dX5_lean_170 : decode cX5_lean 170 = .ok (.iload_n 2, 1) := by decide +kernel
theorem dX5_lean_171 : decode cX5_lean 171 = .ok (.iload 4, 2) := by decide +kernel
theorem dX5_lean_173 : decode cX5_lean 173 = .ok (.iadd, 1) := by decide +kernel
theorem dX5_lean_174 : decode cX5_lean 174 = .ok (.aload_n 0, 1) := by decide +kernel
theorem dX5_lean_175 : decode cX5_lean 175 = .ok (.getfield 28, 3) := by decide +kernel
theorem dX5_lean_178 : decode cX5_lean 178 = .ok (.iload_n 2, 1) := by decide +kernel
theorem dX5_lean_179 : decode cX5_lean 179 = .ok (.iload 4, 2) := by decide +kernel
theorem dX5_lean_181 : decode cX5_lean 181 = .ok (.iadd, 1) := by decide +kernel
theorem dX5_lean_182 : decode cX5_lean 182 = .ok (.iaload, 1) := by decide +kernel
theorem dX5_lean_183 : decode cX5_lean 183 = .ok (.ifCond .ne 22, 3) := by decide +kernel
theorem dX5_lean_186 : decode cX5_lean 186 = .ok (.aload_n 0, 1) := by decide +kernel
theorem dX5_lean_187 : decode cX5_lean 187 = .ok (.getfield 16, 3) := by decide +kernel
theorem dX5_lean_190 : decode cX5_lean 190 = .ok (.iload 4, 2) := by decide +kernel
theorem dX5_lean_192 : decode cX5_lean 192 = .ok (.iaload, 1) := by decide +kernel
theorem dX5_lean_193 : decode cX5_lean 193 = .ok (.iconst 2, 1) := by decide +kernel
theorem dX5_lean_194 : decode cX5_lean 194 = .ok (.if_icmp .ne 11, 3) := by decide +kernel
theorem dX5_lean_197 : decode cX5_lean 197 = .ok (.iload_n 3, 1) := by decide +kernel
theorem dX5_lean_198 : decode cX5_lean 198 = .ok (.ifCond .ne 7, 3) := by decide +kernel
theorem dX5_lean_201 : decode cX5_lean 201 = .ok (.iconst 2, 1) := by decide +kernel
theorem dX5_lean_202 : decode cX5_lean 202 = .ok (.goto 12, 3) := by decide +kernel
theorem dX5_lean_205 : decode cX5_lean 205 = .ok (.aload_n 0, 1) := by decide +kernel
theorem dX5_lean_206 : decode cX5_lean 206 = .ok (.getfield 28, 3) := by decide +kernel
theorem dX5_lean_209 : decode cX5_lean 209 = .ok (.iload_n 2, 1) := by decide +kernel
theorem dX5_lean_210 : decode cX5_lean 210 = .ok (.iload 4, 2) := by decide +kernel
theorem dX5_lean_212 : decode cX5_lean 212 = .ok (.iadd, 1) := by decide +kernel
theorem dX5_lean_213 : decode cX5_lean 213 = .ok (.iaload, 1) := by decide +kernel
theorem dX5_lean_214 : decode cX5_lean 214 = .ok (.iastore, 1) := by decide +kernel
theorem dX5_lean_215 : decode cX5_lean 215 = .ok (.iinc 4 1, 3) := by decide +kernel
theorem dX5_lean_218 : decode cX5_lean 218 = .ok (.goto (-61), 3) := by decide +kernel
theorem dX5_lean_221 : decode cX5_lean 221 = .ok (.iconst 0, 1) := by decide +kernel
theorem dX5_lean_222 : decode cX5_lean 222 = .ok (.istore 4, 2) := by decide +kernel
theorem dX5_lean_224 : decode cX5_lean 224 = .ok (.iload 4, 2) := by decide +kernel
theorem dX5_lean_226 : decode cX5_lean 226 = .ok (.aload_n 0, 1) := by decide +kernel
theorem dX5_lean_227 : decode cX5_lean 227 = .ok (.getfield 93, 3) := by decide +kernel
theorem dX5_lean_230 : decode cX5_lean 230 = .ok (.if_icmp .ge 71, 3) := by decide +kernel
theorem dX5_lean_233 : decode cX5_lean 233 = .ok (.aload_n 0, 1) := by decide +kernel
theorem dX5_lean_234 : decode cX5_lean 234 = .ok (.getfield 28, 3) := by decide +kernel
theorem dX5_lean_237 : decode cX5_lean 237 = .ok (.iload_n 2, 1) := by decide +kernel
theorem dX5_lean_238 : decode cX5_lean 238 = .ok (.iload 4, 2) := by decide +kernel
theorem dX5_lean_240 : decode cX5_lean 240 = .ok (.iadd, 1) := by decide +kernel
theorem dX5_lean_241 : decode cX5_lean 241 = .ok (.iaload, 1) := by decide +kernel
theorem dX5_lean_242 : decode cX5_lean 242 = .ok (.iconst 2, 1) := by decide +kernel
theorem dX5_lean_243 : decode cX5_lean 243 = .ok (.if_icmp .ne 52, 3) := by decide +kernel
theorem dX5_lean_246 : decode cX5_lean 246 = .ok (.aload_n 0, 1) := by decide +kernel
theorem dX5_lean_247 : decode cX5_lean 247 = .ok (.getfield 16, 3) := by decide +kernel
theorem dX5_lean_250 : decode cX5_lean 250 = .ok (.iload 4, 2) := by decide +kernel
theorem dX5_lean_252 : decode cX5_lean 252 = .ok (.iaload, 1) := by decide +kernel
theorem dX5_lean_253 : decode cX5_lean 253 = .ok (.iconst 3, 1) := by decide +kernel
theorem dX5_lean_254 : decode cX5_lean 254 = .ok (.if_icmp .ne 41, 3) := by decide +kernel
theorem dX5_lean_257 : decode cX5_lean 257 = .ok (.aload_n 0, 1) := by decide +kernel
theorem dX5_lean_258 : decode cX5_lean 258 = .ok (.iload_n 1, 1) := by decide +kernel
theorem dX5_lean_259 : decode cX5_lean 259 = .ok (.aload_n 0, 1) := by decide +kernel
theorem dX5_lean_260 : decode cX5_lean 260 = .ok (.getfield 19, 3) := by decide +kernel
theorem dX5_lean_263 : decode cX5_lean 263 = .ok (.iload 4, 2) := by decide +kernel
theorem dX5_lean_265 : decode cX5_lean 265 = .ok (.iaload, 1) := by decide +kernel
theorem dX5_lean_266 : decode cX5_lean 266 = .ok (.invokevirtual 116, 3) := by decide +kernel
theorem dX5_lean_269 : decode cX5_lean 269 = .ok (.ifCond .eq 26, 3) := by decide +kernel
theorem dX5_lean_272 : decode cX5_lean 272 = .ok (.aload_n 0, 1) := by decide +kernel
theorem dX5_lean_273 : decode cX5_lean 273 = .ok (.getfield 28, 3) := by decide +kernel
theorem dX5_lean_276 : decode cX5_lean 276 = .ok (.iload_n 2, 1) := by decide +kernel
theorem dX5_lean_277 : decode cX5_lean 277 = .ok (.iload 4, 2) := by decide +kernel
theorem dX5_lean_279 : decode cX5_lean 279 = .ok (.iadd, 1) := by decide +kernel
theorem dX5_lean_280 : decode cX5_lean 280 = .ok (.iconst 0, 1) := by decide +kernel
theorem dX5_lean_281 : decode cX5_lean 281 = .ok (.iastore, 1) := by decide +kernel
theorem dX5_lean_282 : decode cX5_lean 282 = .ok (.aload_n 0, 1) := by decide +kernel
theorem dX5_lean_283 : decode cX5_lean 283 = .ok (.getfield 28, 3) := by decide +kernel
theorem dX5_lean_286 : decode cX5_lean 286 = .ok (.iload_n 2, 1) := by decide +kernel
theorem dX5_lean_287 : decode cX5_lean 287 = .ok (.bipush 6, 2) := by decide +kernel
theorem dX5_lean_289 : decode cX5_lean 289 = .ok (.iadd, 1) := by decide +kernel
theorem dX5_lean_290 : decode cX5_lean 290 = .ok (.iload 4, 2) := by decide +kernel
theorem dX5_lean_292 : decode cX5_lean 292 = .ok (.iadd, 1) := by decide +kernel
theorem dX5_lean_293 : decode cX5_lean 293 = .ok (.iconst 2, 1) := by decide +kernel
theorem dX5_lean_294 : decode cX5_lean 294 = .ok (.iastore, 1) := by decide +kernel
theorem dX5_lean_295 : decode cX5_lean 295 = .ok (.iinc 4 1, 3) := by decide +kernel
theorem dX5_lean_298 : decode cX5_lean 298 = .ok (.goto (-74), 3) := by decide +kernel
theorem dX5_lean_301 : decode cX5_lean 301 = .ok (.return_, 1) := by decide +kernel
set_option maxRecDepth 20000 in
theorem ggX5_passOn_X5_isSilent : GoodIn wsX5_passOn wsX5_isSilent := goodIn_r _ [9, 1, 4, 10, 11, 12, 8, 13, 14, 15, 16, 17, 18, 19, 20, 21, 46, 47, 48, 49, 50, 51, 52, 53, 54, 55, 56, 57, 58, 59, 60, 61, 62, 63, 64, 65, 66, 67, 68, 69, 70, 71, 72, 73, 74] (by decide +kernel) (by decide +kernel)
set_option maxRecDepth 20000 in
theorem gX5_passOn_X5_isSilent : GoodIn wsX5_passOn (wsV RX5 120 RX5 yX5_isSilent wsX5_isSilent) := goodIn_app (goodIn_of _ (by decide +kernel)) ggX5_passOn_X5_isSilent
set_option maxRecDepth 20000 in
theorem ggX5_passOn_X5_howMany : GoodIn wsX5_passOn wsX5_howMany := goodIn_r _ [13, 14, 15, 16, 8, 17, 18, 1, 19, 20, 21, 46, 47, 48, 49, 50, 51, 52, 53, 54, 55, 56, 57, 58, 59, 60, 61, 62, 63, 64, 65, 66, 67, 68, 69, 70, 71, 72, 73, 74] (by decide +kernel) (by decide +kernel)
set_option maxRecDepth 20000 in
theorem gX5_passOn_X5_howMany : GoodIn wsX5_passOn (wsV RX5 109 RX5 yX5_howMany wsX5_howMany) := goodIn_app (goodIn_of _ (by decide +kernel)) ggX5_passOn_X5_howMany
set_option maxRecDepth 20000 in
theorem ggX5_passOn_X5_blow : GoodIn wsX5_passOn wsX5_blow := goodIn_r _ [25, 18, 1, 26, 46, 47, 48, 49, 50, 51, 52, 53, 54, 55, 56, 57, 58, 59, 60, 61, 62, 63, 64, 65, 66, 67, 68, 69, 70, 71, 72, 73, 74] (by decide +kernel) (by decide +kernel)
set_option maxRecDepth 20000 in
theorem gX5_passOn_X5_blow : GoodIn wsX5_passOn (wsV RX5 123 RX5 yX5_blow wsX5_blow) := goodIn_app (goodIn_of _ (by decide +kernel)) ggX5_passOn_X5_blow
set_option maxRecDepth 20000 in
theorem ggX5_passOn_X5_lean : GoodIn wsX5_passOn wsX5_lean := goodIn_r _ [30, 18, 1, 26, 31, 32, 33, 34, 8, 35, 36, 37, 38, 39, 40, 41, 42, 46, 47, 48, 49, 50, 51, 52, 53, 54, 55, 56, 57, 58, 59, 60, 61, 62, 63, 64, 65, 66, 67, 68, 69, 70, 71, 72, 73, 74] (by decide +kernel) (by decide +kernel)
set_option maxRecDepth 20000 in
theorem gX5_passOn_X5_lean : GoodIn wsX5_passOn (wsV RX5 127 RX5 yX5_lean wsX5_lean) := goodIn_app (goodIn_of _ (by decide +kernel)) ggX5_passOn_X5_lean
set_option maxRecDepth 20000 in
theorem ggX5_passOn_X5_in : GoodIn wsX5_passOn wsX5_in := goodIn_r _ [38] (by decide +kernel) (by decide +kernel)
set_option maxRecDepth 20000 in
theorem gX5_passOn_X5_in : GoodIn wsX5_passOn (va_wsS RX5 61 yX5_in wsX5_in) := goodIn_app (goodIn_of _ (by decide +kernel)) ggX5_passOn_X5_in
set_option maxRecDepth 20000 in
theorem ggX5_passOn_X5_has : GoodIn wsX5_passOn wsX5_has := goodIn_r _ [45] (by decide +kernel) (by decide +kernel)
set_option maxRecDepth 20000 in
theorem gX5_passOn_X5_has : GoodIn wsX5_passOn (va_wsS RX5 130 yX5_has wsX5_has) := goodIn_app (goodIn_of _ (by decide +kernel)) ggX5_passOn_X5_has
theorem dX5_passOn_0 : decode cX5_passOn 0 = .ok (.bipush 16, 2) := by decide +kernel
theorem dX5_passOn_2 : decode cX5_passOn 2 = .ok (.iload_n 1, 1) := by decide +kernel
theorem dX5_passOn_3 : decode cX5_passOn 3 = .ok (.imul, 1) := by decide +kernel
theorem dX5_passOn_4 : decode cX5_passOn 4 = .ok (.istore_n 2, 1) := by decide +kernel
theorem dX5_passOn_5 : decode cX5_passOn 5 = .ok (.aload_n 0, 1) := by decide +kernel
theorem dX5_passOn_6 : decode cX5_passOn 6 = .ok (.iload_n 1, 1) := by decide +kernel
theorem dX5_passOn_7 : decode cX5_passOn 7 = .ok (.invokevirtual 120, 3) := by decide +kernel
theorem dX5_passOn_10 : decode cX5_passOn 10 = .ok (.ifCond .eq 5, 3) := by decide +kernel
theorem dX5_passOn_13 : decode cX5_passOn 13 = .ok (.iconst 0, 1) := by decide +kernel
theorem dX5_passOn_14 : decode cX5_passOn 14 = .ok (.ireturn, 1) := by decide +kernel
theorem dX5_passOn_15 : decode cX5_passOn 15 = .ok (.aload_n 0, 1) := by decide +kernel
theorem dX5_passOn_16 : decode cX5_passOn 16 = .ok (.getfield 28, 3) := by decide +kernel
theorem dX5_passOn_19 : decode cX5_passOn 19 = .ok (.iload_n 2, 1) := by decide +kernel
theorem dX5_passOn_20 : decode cX5_passOn 20 = .ok (.bipush 12, 2) := by decide +kernel
theorem dX5_passOn_22 : decode cX5_passOn 22 = .ok (.iadd, 1) := by decide +kernel
theorem dX5_passOn_23 : decode cX5_passOn 23 = .ok (.iaload, 1) := by decide +kernel
theorem dX5_passOn_24 : decode cX5_passOn 24 = .ok (.istore_n 3, 1) := by decide +kernel
theorem dX5_passOn_25 : decode cX5_passOn 25 = .ok (.aload_n 0, 1) := by decide +kernel
theorem dX5_passOn_26 : decode cX5_passOn 26 = .ok (.getfield 22, 3) := by decide +kernel
theorem dX5_passOn_29 : decode cX5_passOn 29 = .ok (.iload_n 3, 1) := by decide +kernel
theorem dX5_passOn_30 : decode cX5_passOn 30 = .ok (.iaload, 1) := by decide +kernel
theorem dX5_passOn_31 : decode cX5_passOn 31 = .ok (.aload_n 0, 1) := by decide +kernel
theorem dX5_passOn_32 : decode cX5_passOn 32 = .ok (.iload_n 1, 1) := by decide +kernel
theorem dX5_passOn_33 : decode cX5_passOn 33 = .ok (.invokevirtual 109, 3) := by decide +kernel
theorem dX5_passOn_36 : decode cX5_passOn 36 = .ok (.imul, 1) := by decide +kernel
theorem dX5_passOn_37 : decode cX5_passOn 37 = .ok (.istore 4, 2) := by decide +kernel
theorem dX5_passOn_39 : decode cX5_passOn 39 = .ok (.aload_n 0, 1) := by decide +kernel
theorem dX5_passOn_40 : decode cX5_passOn 40 = .ok (.iload_n 1, 1) := by decide +kernel
theorem dX5_passOn_41 : decode cX5_passOn 41 = .ok (.aload_n 0, 1) := by decide +kernel
theorem dX5_passOn_42 : decode cX5_passOn 42 = .ok (.getfield 22, 3) := by decide +kernel
theorem dX5_passOn_45 : decode cX5_passOn 45 = .ok (.iload_n 3, 1) := by decide +kernel
theorem dX5_passOn_46 : decode cX5_passOn 46 = .ok (.iaload, 1) := by decide +kernel
theorem dX5_passOn_47 : decode cX5_passOn 47 = .ok (.invokevirtual 123, 3) := by decide +kernel
theorem dX5_passOn_50 : decode cX5_passOn 50 = .ok (.aload_n 0, 1) := by decide +kernel
theorem dX5_passOn_51 : decode cX5_passOn 51 = .ok (.iload_n 1, 1) := by decide +kernel
theorem dX5_passOn_52 : decode cX5_passOn 52 = .ok (.invokevirtual 127, 3) := by decide +kernel
theorem dX5_passOn_55 : decode cX5_passOn 55 = .ok (.aload_n 0, 1) := by decide +kernel
theorem dX5_passOn_56 : decode cX5_passOn 56 = .ok (.getfield 25, 3) := by decide +kernel
theorem dX5_passOn_59 : decode cX5_passOn 59 = .ok (.iload_n 3, 1) := by decide +kernel
theorem dX5_passOn_60 : decode cX5_passOn 60 = .ok (.iaload, 1) := by decide +kernel
theorem dX5_passOn_61 : decode cX5_passOn 61 = .ok (.i2l, 1) := by decide +kernel
theorem dX5_passOn_62 : decode cX5_passOn 62 = .ok (.lconst 1, 1) := by decide +kernel
theorem dX5_passOn_63 : decode cX5_passOn 63 = .ok (.aload_n 0, 1) := by decide +kernel
theorem dX5_passOn_64 : decode cX5_passOn 64 = .ok (.getfield 96, 3) := by decide +kernel
theorem dX5_passOn_67 : decode cX5_passOn 67 = .ok (.i2l, 1) := by decide +kernel
theorem dX5_passOn_68 : decode cX5_passOn 68 = .ok (.invokestatic 61, 3) := by decide +kernel
theorem dX5_passOn_71 : decode cX5_passOn 71 = .ok (.ifCond .eq 23, 3) := by decide +kernel
theorem dX5_passOn_74 : decode cX5_passOn 74 = .ok (.aload_n 0, 1) := by decide +kernel
theorem dX5_passOn_75 : decode cX5_passOn 75 = .ok (.getfield 28, 3) := by decide +kernel
theorem dX5_passOn_78 : decode cX5_passOn 78 = .ok (.iload_n 2, 1) := by decide +kernel
theorem dX5_passOn_79 : decode cX5_passOn 79 = .ok (.bipush 13, 2) := by decide +kernel
theorem dX5_passOn_81 : decode cX5_passOn 81 = .ok (.iadd, 1) := by decide +kernel
theorem dX5_passOn_82 : decode cX5_passOn 82 = .ok (.iaload, 1) := by decide +kernel
theorem dX5_passOn_83 : decode cX5_passOn 83 = .ok (.iload_n 3, 1) := by decide +kernel
theorem dX5_passOn_84 : decode cX5_passOn 84 = .ok (.invokestatic 130, 3) := by decide +kernel
theorem dX5_passOn_87 : decode cX5_passOn 87 = .ok (.ifCond .ne 7, 3) := by decide +kernel
theorem dX5_passOn_90 : decode cX5_passOn 90 = .ok (.iconst 1, 1) := by decide +kernel
theorem dX5_passOn_91 : decode cX5_passOn 91 = .ok (.goto 4, 3) := by decide +kernel
theorem dX5_passOn_94 : decode cX5_passOn 94 = .ok (.iconst 0, 1) := by decide +kernel
theorem dX5_passOn_95 : decode cX5_passOn 95 = .ok (.istore 5, 2) := by decide +kernel
theorem dX5_passOn_97 : decode cX5_passOn 97 = .ok (.aload_n 0, 1) := by decide +kernel
theorem dX5_passOn_98 : decode cX5_passOn 98 = .ok (.getfield 28, 3) := by decide +kernel
theorem dX5_passOn_101 : decode cX5_passOn 101 = .ok (.iload_n 2, 1) := by decide +kernel
theorem dX5_passOn_102 : decode cX5_passOn 102 = .ok (.bipush 12, 2) := by decide +kernel
theorem dX5_passOn_104 : decode cX5_passOn 104 = .ok (.iadd, 1) := by decide +kernel
theorem dX5_passOn_105 : decode cX5_passOn 105 = .ok (.iload 5, 2) := by decide +kernel
theorem dX5_passOn_107 : decode cX5_passOn 107 = .ok (.ifCond .eq 14, 3) := by decide +kernel
theorem dX5_passOn_110 : decode cX5_passOn 110 = .ok (.aload_n 0, 1) := by decide +kernel
theorem dX5_passOn_111 : decode cX5_passOn 111 = .ok (.getfield 25, 3) := by decide +kernel
theorem dX5_passOn_114 : decode cX5_passOn 114 = .ok (.iload_n 3, 1) := by decide +kernel
theorem dX5_passOn_115 : decode cX5_passOn 115 = .ok (.iaload, 1) := by decide +kernel
theorem dX5_passOn_116 : decode cX5_passOn 116 = .ok (.iconst 1, 1) := by decide +kernel
theorem dX5_passOn_117 : decode cX5_passOn 117 = .ok (.isub, 1) := by decide +kernel
theorem dX5_passOn_118 : decode cX5_passOn 118 = .ok (.goto 6, 3) := by decide +kernel
theorem dX5_passOn_121 : decode cX5_passOn 121 = .ok (.iload_n 3, 1) := by decide +kernel
theorem dX5_passOn_122 : decode cX5_passOn 122 = .ok (.iconst 1, 1) := by decide +kernel
theorem dX5_passOn_123 : decode cX5_passOn 123 = .ok (.iadd, 1) := by decide +kernel
theorem dX5_passOn_124 : decode cX5_passOn 124 = .ok (.iastore, 1) := by decide +kernel
theorem dX5_passOn_125 : decode cX5_passOn 125 = .ok (.aload_n 0, 1) := by decide +kernel
theorem dX5_passOn_126 : decode cX5_passOn 126 = .ok (.getfield 28, 3) := by decide +kernel
theorem dX5_passOn_129 : decode cX5_passOn 129 = .ok (.iload_n 2, 1) := by decide +kernel
theorem dX5_passOn_130 : decode cX5_passOn 130 = .ok (.bipush 13, 2) := by decide +kernel
theorem dX5_passOn_132 : decode cX5_passOn 132 = .ok (.iadd, 1) := by decide +kernel
theorem dX5_passOn_133 : decode cX5_passOn 133 = .ok (.dup2, 1) := by decide +kernel
theorem dX5_passOn_134 : decode cX5_passOn 134 = .ok (.iaload, 1) := by decide +kernel
theorem dX5_passOn_135 : decode cX5_passOn 135 = .ok (.iload 5, 2) := by decide +kernel
theorem dX5_passOn_137 : decode cX5_passOn 137 = .ok (.ifCond .eq 9, 3) := by decide +kernel
theorem dX5_passOn_140 : decode cX5_passOn 140 = .ok (.iconst 1, 1) := by decide +kernel
theorem dX5_passOn_141 : decode cX5_passOn 141 = .ok (.iload_n 3, 1) := by decide +kernel
theorem dX5_passOn_142 : decode cX5_passOn 142 = .ok (.ishl, 1) := by decide +kernel
