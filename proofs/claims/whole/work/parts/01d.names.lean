theorem dX4_pays_6 : decode cX4_pays 6 = .ok (.if_icmp .le 6, 3) := by decide +kernel
theorem dX4_pays_9 : decode cX4_pays 9 = .ok (.bipush (-2), 2) := by decide +kernel
theorem dX4_pays_11 : decode cX4_pays 11 = .ok (.ireturn, 1) := by decide +kernel
theorem dX4_pays_12 : decode cX4_pays 12 = .ok (.iconst 0, 1) := by decide +kernel
theorem dX4_pays_13 : decode cX4_pays 13 = .ok (.istore_n 2, 1) := by decide +kernel
theorem dX4_pays_14 : decode cX4_pays 14 = .ok (.bipush (-9), 2) := by decide +kernel
theorem dX4_pays_16 : decode cX4_pays 16 = .ok (.istore_n 3, 1) := by decide +kernel
theorem dX4_pays_17 : decode cX4_pays 17 = .ok (.iconst 0, 1) := by decide +kernel
theorem dX4_pays_18 : decode cX4_pays 18 = .ok (.istore 4, 2) := by decide +kernel
theorem dX4_pays_20 : decode cX4_pays 20 = .ok (.iload 4, 2) := by decide +kernel
theorem dX4_pays_22 : decode cX4_pays 22 = .ok (.bipush 64, 2) := by decide +kernel
theorem dX4_pays_24 : decode cX4_pays 24 = .ok (.if_icmp .ge 42, 3) := by decide +kernel
theorem dX4_pays_27 : decode cX4_pays 27 = .ok (.aload_n 0, 1) := by decide +kernel
theorem dX4_pays_28 : decode cX4_pays 28 = .ok (.getfield 26, 3) := by decide +kernel
theorem dX4_pays_31 : decode cX4_pays 31 = .ok (.iload 4, 2) := by decide +kernel
theorem dX4_pays_33 : decode cX4_pays 33 = .ok (.invokevirtual 189, 3) := by decide +kernel
theorem dX4_pays_36 : decode cX4_pays 36 = .ok (.ifCond .eq 24, 3) := by decide +kernel
theorem dX4_pays_39 : decode cX4_pays 39 = .ok (.aload_n 0, 1) := by decide +kernel
theorem dX4_pays_40 : decode cX4_pays 40 = .ok (.iload 4, 2) := by decide +kernel
theorem dX4_pays_42 : decode cX4_pays 42 = .ok (.invokevirtual 192, 3) := by decide +kernel
theorem dX4_pays_45 : decode cX4_pays 45 = .ok (.ifCond .eq 15, 3) := by decide +kernel
theorem dX4_pays_48 : decode cX4_pays 48 = .ok (.iinc 2 1, 3) := by decide +kernel
theorem dX4_pays_51 : decode cX4_pays 51 = .ok (.iload_n 3, 1) := by decide +kernel
theorem dX4_pays_52 : decode cX4_pays 52 = .ok (.bipush (-9), 2) := by decide +kernel
theorem dX4_pays_54 : decode cX4_pays 54 = .ok (.if_icmp .ne 6, 3) := by decide +kernel
theorem dX4_pays_57 : decode cX4_pays 57 = .ok (.iload 4, 2) := by decide +kernel
theorem dX4_pays_59 : decode cX4_pays 59 = .ok (.istore_n 3, 1) := by decide +kernel
theorem dX4_pays_60 : decode cX4_pays 60 = .ok (.iinc 4 1, 3) := by decide +kernel
theorem dX4_pays_63 : decode cX4_pays 63 = .ok (.goto (-43), 3) := by decide +kernel
theorem dX4_pays_66 : decode cX4_pays 66 = .ok (.iload_n 1, 1) := by decide +kernel
theorem dX4_pays_67 : decode cX4_pays 67 = .ok (.ifCond .ne 7, 3) := by decide +kernel
theorem dX4_pays_70 : decode cX4_pays 70 = .ok (.iload_n 2, 1) := by decide +kernel
theorem dX4_pays_71 : decode cX4_pays 71 = .ok (.goto 4, 3) := by decide +kernel
theorem dX4_pays_74 : decode cX4_pays 74 = .ok (.iload_n 3, 1) := by decide +kernel
theorem dX4_pays_75 : decode cX4_pays 75 = .ok (.ireturn, 1) := by decide +kernel
set_option maxRecDepth 20000 in
theorem ggX4_share_X3_hasPlayer : GoodIn wsX4_share wsX3_hasPlayer := goodIn_r _ [11, 12, 143, 144, 145, 146, 147, 148, 149, 150] (by decide +kernel) (by decide +kernel)
set_option maxRecDepth 20000 in
theorem gX4_share_X3_hasPlayer : GoodIn wsX4_share (wsV RX4 85 RX3 yX3_hasPlayer wsX3_hasPlayer) := goodIn_app (goodIn_of _ (by decide +kernel)) ggX4_share_X3_hasPlayer
set_option maxRecDepth 20000 in
theorem ggX4_share_X3_everybody : GoodIn wsX4_share wsX3_everybody := goodIn_r _ [16, 12, 143, 144, 145, 146, 147, 148, 149, 150] (by decide +kernel) (by decide +kernel)
set_option maxRecDepth 20000 in
theorem gX4_share_X3_everybody : GoodIn wsX4_share (wsV RX4 195 RX3 yX3_everybody wsX3_everybody) := goodIn_app (goodIn_of _ (by decide +kernel)) ggX4_share_X3_everybody
set_option maxRecDepth 20000 in
theorem ggX4_share_X2_become : GoodIn wsX4_share wsX2_become := goodIn_r _ [21, 22, 23, 24, 25, 26, 27, 28, 29, 30, 31, 32, 33, 151, 152, 153, 154, 155, 156, 157] (by decide +kernel) (by decide +kernel)
set_option maxRecDepth 20000 in
theorem gX4_share_X2_become : GoodIn wsX4_share (wsV RX4 121 RX2 yX2_become wsX2_become) := goodIn_app (goodIn_of _ (by decide +kernel)) ggX4_share_X2_become
set_option maxRecDepth 20000 in
theorem ggX4_share_X2_payFreely : GoodIn wsX4_share wsX2_payFreely := goodIn_r _ [37, 22, 23, 151, 152, 153, 154, 155, 156, 157] (by decide +kernel) (by decide +kernel)
set_option maxRecDepth 20000 in
theorem gX4_share_X2_payFreely : GoodIn wsX4_share (wsV RX4 198 RX2 yX2_payFreely wsX2_payFreely) := goodIn_app (goodIn_of _ (by decide +kernel)) ggX4_share_X2_payFreely
set_option maxRecDepth 20000 in
theorem ggX4_share_X2_playNoise : GoodIn wsX4_share wsX2_playNoise := goodIn_r _ [41, 42, 24, 43, 44, 45, 20, 46, 22, 47, 29, 30, 31, 48, 49, 50, 51, 52, 53, 54, 55, 56, 57, 58, 59, 60, 61, 62, 27, 63, 64, 65, 66, 67, 68, 69, 70, 71, 72, 28, 73, 74, 75, 76, 77, 78, 79, 80, 32, 33, 81, 82, 83, 84, 85, 86, 87, 88, 89, 90, 8, 9, 10, 11, 12, 91, 92, 93, 94, 95, 96, 97, 98, 99, 100, 101, 102, 103, 104, 105, 106, 23, 107, 108, 109, 110, 111, 25, 112, 113, 114, 115, 116, 117, 118, 119, 120, 143, 144, 145, 146, 147, 148, 149, 150, 151, 152, 153, 154, 155, 156, 157] (by decide +kernel) (by decide +kernel)
set_option maxRecDepth 20000 in
theorem gX4_share_X2_playNoise : GoodIn wsX4_share (wsV RX4 176 RX2 yX2_playNoise wsX2_playNoise) := goodIn_app (goodIn_of _ (by decide +kernel)) ggX4_share_X2_playNoise
set_option maxRecDepth 20000 in
theorem ggX4_share_X4_put : GoodIn wsX4_share wsX4_put := goodIn_r _ [33] (by decide +kernel) (by decide +kernel)
set_option maxRecDepth 20000 in
theorem gX4_share_X4_put : GoodIn wsX4_share (va_wsS RX4 61 yX4_put wsX4_put) := goodIn_app (goodIn_of _ (by decide +kernel)) ggX4_share_X4_put
set_option maxRecDepth 20000 in
theorem ggX4_share_J6_bitCount_0f7a4 : GoodIn wsX4_share wsJ6_bitCount_0f7a4 := goodIn_r _ [55, 56, 57, 58] (by decide +kernel) (by decide +kernel)
set_option maxRecDepth 20000 in
theorem gX4_share_J6_bitCount_0f7a4 : GoodIn wsX4_share (va_wsS RX4 202 yJ6_bitCount_0f7a4 wsJ6_bitCount_0f7a4) := goodIn_app (goodIn_of _ (by decide +kernel)) ggX4_share_J6_bitCount_0f7a4
set_option maxRecDepth 20000 in
theorem ggX4_share_X4_at : GoodIn wsX4_share wsX4_at := goodIn_r _ [31] (by decide +kernel) (by decide +kernel)
set_option maxRecDepth 20000 in
theorem gX4_share_X4_at : GoodIn wsX4_share (va_wsS RX4 92 yX4_at wsX4_at) := goodIn_app (goodIn_of _ (by decide +kernel)) ggX4_share_X4_at
set_option maxRecDepth 20000 in
theorem ggX4_share_X4_fraction : GoodIn wsX4_share wsX4_fraction := goodIn_r _ [126, 127, 128, 71, 129] (by decide +kernel) (by decide +kernel)
set_option maxRecDepth 20000 in
theorem gX4_share_X4_fraction : GoodIn wsX4_share (va_wsS RX4 210 yX4_fraction wsX4_fraction) := goodIn_app (goodIn_of _ (by decide +kernel)) ggX4_share_X4_fraction
theorem dX4_share_0 : decode cX4_share 0 = .ok (.aload_n 0, 1) := by decide +kernel
theorem dX4_share_1 : decode cX4_share 1 = .ok (.getfield 16, 3) := by decide +kernel
theorem dX4_share_4 : decode cX4_share 4 = .ok (.iload_n 1, 1) := by decide +kernel
theorem dX4_share_5 : decode cX4_share 5 = .ok (.invokevirtual 85, 3) := by decide +kernel
theorem dX4_share_8 : decode cX4_share 8 = .ok (.ifCond .ne 5, 3) := by decide +kernel
theorem dX4_share_11 : decode cX4_share 11 = .ok (.iconst (-1), 1) := by decide +kernel
theorem dX4_share_12 : decode cX4_share 12 = .ok (.ireturn, 1) := by decide +kernel
theorem dX4_share_13 : decode cX4_share 13 = .ok (.aload_n 0, 1) := by decide +kernel
theorem dX4_share_14 : decode cX4_share 14 = .ok (.getfield 16, 3) := by decide +kernel
theorem dX4_share_17 : decode cX4_share 17 = .ok (.invokevirtual 195, 3) := by decide +kernel
theorem dX4_share_20 : decode cX4_share 20 = .ok (.istore_n 3, 1) := by decide +kernel
theorem dX4_share_21 : decode cX4_share 21 = .ok (.iconst 0, 1) := by decide +kernel
theorem dX4_share_22 : decode cX4_share 22 = .ok (.istore 4, 2) := by decide +kernel
theorem dX4_share_24 : decode cX4_share 24 = .ok (.iload 4, 2) := by decide +kernel
theorem dX4_share_26 : decode cX4_share 26 = .ok (.iload_n 3, 1) := by decide +kernel
theorem dX4_share_27 : decode cX4_share 27 = .ok (.if_icmp .gt 55, 3) := by decide +kernel
theorem dX4_share_30 : decode cX4_share 30 = .ok (.aload_n 0, 1) := by decide +kernel
theorem dX4_share_31 : decode cX4_share 31 = .ok (.getfield 33, 3) := by decide +kernel
theorem dX4_share_34 : decode cX4_share 34 = .ok (.aload_n 0, 1) := by decide +kernel
theorem dX4_share_35 : decode cX4_share 35 = .ok (.getfield 26, 3) := by decide +kernel
theorem dX4_share_38 : decode cX4_share 38 = .ok (.invokevirtual 121, 3) := by decide +kernel
theorem dX4_share_41 : decode cX4_share 41 = .ok (.aload_n 0, 1) := by decide +kernel
theorem dX4_share_42 : decode cX4_share 42 = .ok (.getfield 33, 3) := by decide +kernel
theorem dX4_share_45 : decode cX4_share 45 = .ok (.iload_n 3, 1) := by decide +kernel
theorem dX4_share_46 : decode cX4_share 46 = .ok (.iload 4, 2) := by decide +kernel
theorem dX4_share_48 : decode cX4_share 48 = .ok (.iconst (-1), 1) := by decide +kernel
theorem dX4_share_49 : decode cX4_share 49 = .ok (.ixor, 1) := by decide +kernel
theorem dX4_share_50 : decode cX4_share 50 = .ok (.iand, 1) := by decide +kernel
theorem dX4_share_51 : decode cX4_share 51 = .ok (.invokevirtual 198, 3) := by decide +kernel
theorem dX4_share_54 : decode cX4_share 54 = .ok (.aload_n 0, 1) := by decide +kernel
theorem dX4_share_55 : decode cX4_share 55 = .ok (.getfield 54, 3) := by decide +kernel
theorem dX4_share_58 : decode cX4_share 58 = .ok (.iload 4, 2) := by decide +kernel
theorem dX4_share_60 : decode cX4_share 60 = .ok (.aload_n 0, 1) := by decide +kernel
theorem dX4_share_61 : decode cX4_share 61 = .ok (.getfield 33, 3) := by decide +kernel
theorem dX4_share_64 : decode cX4_share 64 = .ok (.aload_n 0, 1) := by decide +kernel
theorem dX4_share_65 : decode cX4_share 65 = .ok (.getfield 16, 3) := by decide +kernel
theorem dX4_share_68 : decode cX4_share 68 = .ok (.bipush 6, 2) := by decide +kernel
theorem dX4_share_70 : decode cX4_share 70 = .ok (.invokevirtual 176, 3) := by decide +kernel
theorem dX4_share_73 : decode cX4_share 73 = .ok (.invokestatic 61, 3) := by decide +kernel
theorem dX4_share_76 : decode cX4_share 76 = .ok (.iinc 4 1, 3) := by decide +kernel
theorem dX4_share_79 : decode cX4_share 79 = .ok (.goto (-55), 3) := by decide +kernel
theorem dX4_share_82 : decode cX4_share 82 = .ok (.iconst 1, 1) := by decide +kernel
theorem dX4_share_83 : decode cX4_share 83 = .ok (.iload_n 1, 1) := by decide +kernel
theorem dX4_share_84 : decode cX4_share 84 = .ok (.ishl, 1) := by decide +kernel
theorem dX4_share_85 : decode cX4_share 85 = .ok (.istore 4, 2) := by decide +kernel
theorem dX4_share_87 : decode cX4_share 87 = .ok (.iconst 0, 1) := by decide +kernel
theorem dX4_share_88 : decode cX4_share 88 = .ok (.istore 5, 2) := by decide +kernel
theorem dX4_share_90 : decode cX4_share 90 = .ok (.iconst 0, 1) := by decide +kernel
theorem dX4_share_91 : decode cX4_share 91 = .ok (.istore 6, 2) := by decide +kernel
theorem dX4_share_93 : decode cX4_share 93 = .ok (.iload 6, 2) := by decide +kernel
theorem dX4_share_95 : decode cX4_share 95 = .ok (.iload_n 3, 1) := by decide +kernel
theorem dX4_share_96 : decode cX4_share 96 = .ok (.if_icmp .gt 83, 3) := by decide +kernel
theorem dX4_share_99 : decode cX4_share 99 = .ok (.iload 6, 2) := by decide +kernel
theorem dX4_share_101 : decode cX4_share 101 = .ok (.iload 4, 2) := by decide +kernel
theorem dX4_share_103 : decode cX4_share 103 = .ok (.iand, 1) := by decide +kernel
theorem dX4_share_104 : decode cX4_share 104 = .ok (.ifCond .ne 69, 3) := by decide +kernel
theorem dX4_share_107 : decode cX4_share 107 = .ok (.iload 6, 2) := by decide +kernel
theorem dX4_share_109 : decode cX4_share 109 = .ok (.invokestatic 202, 3) := by decide +kernel
theorem dX4_share_112 : decode cX4_share 112 = .ok (.istore 7, 2) := by decide +kernel
theorem dX4_share_114 : decode cX4_share 114 = .ok (.getstatic 207, 3) := by decide +kernel
theorem dX4_share_117 : decode cX4_share 117 = .ok (.iload 7, 2) := by decide +kernel
theorem dX4_share_119 : decode cX4_share 119 = .ok (.invokestatic 92, 3) := by decide +kernel
theorem dX4_share_122 : decode cX4_share 122 = .ok (.getstatic 207, 3) := by decide +kernel
theorem dX4_share_125 : decode cX4_share 125 = .ok (.aload_n 0, 1) := by decide +kernel
theorem dX4_share_126 : decode cX4_share 126 = .ok (.getfield 16, 3) := by decide +kernel
theorem dX4_share_129 : decode cX4_share 129 = .ok (.getfield 79, 3) := by decide +kernel
theorem dX4_share_132 : decode cX4_share 132 = .ok (.iconst 1, 1) := by decide +kernel
theorem dX4_share_133 : decode cX4_share 133 = .ok (.isub, 1) := by decide +kernel
theorem dX4_share_134 : decode cX4_share 134 = .ok (.iload 7, 2) := by decide +kernel
theorem dX4_share_136 : decode cX4_share 136 = .ok (.isub, 1) := by decide +kernel
theorem dX4_share_137 : decode cX4_share 137 = .ok (.invokestatic 92, 3) := by decide +kernel
theorem dX4_share_140 : decode cX4_share 140 = .ok (.imul, 1) := by decide +kernel
theorem dX4_share_141 : decode cX4_share 141 = .ok (.istore 8, 2) := by decide +kernel
theorem dX4_share_143 : decode cX4_share 143 = .ok (.iload 5, 2) := by decide +kernel
theorem dX4_share_145 : decode cX4_share 145 = .ok (.iload 8, 2) := by decide +kernel
theorem dX4_share_147 : decode cX4_share 147 = .ok (.aload_n 0, 1) := by decide +kernel
theorem dX4_share_148 : decode cX4_share 148 = .ok (.getfield 54, 3) := by decide +kernel
theorem dX4_share_151 : decode cX4_share 151 = .ok (.iload 6, 2) := by decide +kernel
theorem dX4_share_153 : decode cX4_share 153 = .ok (.iload 4, 2) := by decide +kernel
theorem dX4_share_155 : decode cX4_share 155 = .ok (.ior, 1) := by decide +kernel
theorem dX4_share_156 : decode cX4_share 156 = .ok (.invokestatic 92, 3) := by decide +kernel
theorem dX4_share_159 : decode cX4_share 159 = .ok (.aload_n 0, 1) := by decide +kernel
theorem dX4_share_160 : decode cX4_share 160 = .ok (.getfield 54, 3) := by decide +kernel
theorem dX4_share_163 : decode cX4_share 163 = .ok (.iload 6, 2) := by decide +kernel
theorem dX4_share_165 : decode cX4_share 165 = .ok (.invokestatic 92, 3) := by decide +kernel
theorem dX4_share_168 : decode cX4_share 168 = .ok (.isub, 1) := by decide +kernel
theorem dX4_share_169 : decode cX4_share 169 = .ok (.imul, 1) := by decide +kernel
theorem dX4_share_170 : decode cX4_share 170 = .ok (.iadd, 1) := by decide +kernel
theorem dX4_share_171 : decode cX4_share 171 = .ok (.istore 5, 2) := by decide +kernel
theorem dX4_share_173 : decode cX4_share 173 = .ok (.iinc 6 1, 3) := by decide +kernel
theorem dX4_share_176 : decode cX4_share 176 = .ok (.goto (-83), 3) := by decide +kernel
theorem dX4_share_179 : decode cX4_share 179 = .ok (.iload 5, 2) := by decide +kernel
theorem dX4_share_181 : decode cX4_share 181 = .ok (.getstatic 207, 3) := by decide +kernel
theorem dX4_share_184 : decode cX4_share 184 = .ok (.aload_n 0, 1) := by decide +kernel
theorem dX4_share_185 : decode cX4_share 185 = .ok (.getfield 16, 3) := by decide +kernel
theorem dX4_share_188 : decode cX4_share 188 = .ok (.getfield 79, 3) := by decide +kernel
theorem dX4_share_191 : decode cX4_share 191 = .ok (.invokestatic 92, 3) := by decide +kernel
theorem dX4_share_194 : decode cX4_share 194 = .ok (.iload_n 2, 1) := by decide +kernel
theorem dX4_share_195 : decode cX4_share 195 = .ok (.invokestatic 210, 3) := by decide +kernel
theorem dX4_share_198 : decode cX4_share 198 = .ok (.ireturn, 1) := by decide +kernel
set_option maxRecDepth 20000 in
theorem ggX4_rests_X4_cheapestHush : GoodIn wsX4_rests wsX4_cheapestHush := goodIn_r _ [6, 7, 8, 1, 9, 10, 11, 12, 13, 14, 15, 16, 17, 18, 19, 20, 21, 22, 23, 24, 25, 26, 5, 27, 28, 29, 30, 31, 32, 33, 34, 35, 36, 37, 38, 39, 40, 41, 42, 43, 44, 45, 46, 47, 48, 49, 50, 51, 52, 53, 54, 55, 56, 57, 58, 59, 60, 61, 62, 63, 64, 65, 66, 67, 68, 69, 70, 71, 72, 73, 74, 75, 76, 77, 78, 79, 80, 81, 82, 83, 84, 85, 86, 87, 88, 89, 90, 91, 92, 93, 94, 95, 96, 97, 98, 99, 100, 101, 102, 103, 104, 105, 106, 107, 108, 109, 110, 111, 112, 113, 114, 115, 116, 117, 118, 119, 120, 121, 122, 123, 124, 125, 126, 127, 128, 129, 130, 131, 132, 133, 134, 142, 143, 144, 145, 146, 147, 148, 149, 150, 151, 152, 153, 154, 155, 156, 157, 158, 159, 160, 161, 162, 163, 164, 165, 166, 167, 168, 169] (by decide +kernel) (by decide +kernel)
set_option maxRecDepth 20000 in
theorem gX4_rests_X4_cheapestHush : GoodIn wsX4_rests (wsV RX4 170 RX4 yX4_cheapestHush wsX4_cheapestHush) := goodIn_app (goodIn_of _ (by decide +kernel)) ggX4_rests_X4_cheapestHush
set_option maxRecDepth 20000 in
theorem ggX4_rests_X3_priceOf : GoodIn wsX4_rests wsX3_priceOf := goodIn_r _ [23, 24, 25, 26, 5, 27, 162, 163, 164, 165, 166, 167, 168, 169] (by decide +kernel) (by decide +kernel)
set_option maxRecDepth 20000 in
theorem gX4_rests_X3_priceOf : GoodIn wsX4_rests (wsV RX4 173 RX3 yX3_priceOf wsX3_priceOf) := goodIn_app (goodIn_of _ (by decide +kernel)) ggX4_rests_X3_priceOf
set_option maxRecDepth 20000 in
theorem ggX4_rests_X4_isBestAnswer : GoodIn wsX4_rests wsX4_isBestAnswer := goodIn_r _ [138, 139, 140, 5, 141] (by decide +kernel) (by decide +kernel)
set_option maxRecDepth 20000 in
theorem gX4_rests_X4_isBestAnswer : GoodIn wsX4_rests (va_wsS RX4 214 yX4_isBestAnswer wsX4_isBestAnswer) := goodIn_app (goodIn_of _ (by decide +kernel)) ggX4_rests_X4_isBestAnswer
theorem dX4_rests_0 : decode cX4_rests 0 = .ok (.iload_n 1, 1) := by decide +kernel
theorem dX4_rests_1 : decode cX4_rests 1 = .ok (.ifCond .lt 8, 3) := by decide +kernel
theorem dX4_rests_4 : decode cX4_rests 4 = .ok (.iload_n 1, 1) := by decide +kernel
theorem dX4_rests_5 : decode cX4_rests 5 = .ok (.iconst 1, 1) := by decide +kernel
theorem dX4_rests_6 : decode cX4_rests 6 = .ok (.if_icmp .le 6, 3) := by decide +kernel
theorem dX4_rests_9 : decode cX4_rests 9 = .ok (.bipush (-2), 2) := by decide +kernel
theorem dX4_rests_11 : decode cX4_rests 11 = .ok (.ireturn, 1) := by decide +kernel
theorem dX4_rests_12 : decode cX4_rests 12 = .ok (.aload_n 0, 1) := by decide +kernel
theorem dX4_rests_13 : decode cX4_rests 13 = .ok (.getfield 16, 3) := by decide +kernel
theorem dX4_rests_16 : decode cX4_rests 16 = .ok (.aload_n 0, 1) := by decide +kernel
theorem dX4_rests_17 : decode cX4_rests 17 = .ok (.iconst 3, 1) := by decide +kernel
theorem dX4_rests_18 : decode cX4_rests 18 = .ok (.invokevirtual 170, 3) := by decide +kernel
theorem dX4_rests_21 : decode cX4_rests 21 = .ok (.invokevirtual 173, 3) := by decide +kernel
theorem dX4_rests_24 : decode cX4_rests 24 = .ok (.istore_n 2, 1) := by decide +kernel
theorem dX4_rests_25 : decode cX4_rests 25 = .ok (.iconst 0, 1) := by decide +kernel
theorem dX4_rests_26 : decode cX4_rests 26 = .ok (.istore_n 3, 1) := by decide +kernel
theorem dX4_rests_27 : decode cX4_rests 27 = .ok (.bipush (-9), 2) := by decide +kernel
theorem dX4_rests_29 : decode cX4_rests 29 = .ok (.istore 4, 2) := by decide +kernel
theorem dX4_rests_31 : decode cX4_rests 31 = .ok (.iconst 0, 1) := by decide +kernel
theorem dX4_rests_32 : decode cX4_rests 32 = .ok (.istore 5, 2) := by decide +kernel
theorem dX4_rests_34 : decode cX4_rests 34 = .ok (.iload 5, 2) := by decide +kernel
theorem dX4_rests_36 : decode cX4_rests 36 = .ok (.iconst 3, 1) := by decide +kernel
theorem dX4_rests_37 : decode cX4_rests 37 = .ok (.if_icmp .ge 66, 3) := by decide +kernel
theorem dX4_rests_40 : decode cX4_rests 40 = .ok (.iconst 0, 1) := by decide +kernel
theorem dX4_rests_41 : decode cX4_rests 41 = .ok (.istore 6, 2) := by decide +kernel
theorem dX4_rests_43 : decode cX4_rests 43 = .ok (.iload 6, 2) := by decide +kernel
theorem dX4_rests_45 : decode cX4_rests 45 = .ok (.iconst 3, 1) := by decide +kernel
theorem dX4_rests_46 : decode cX4_rests 46 = .ok (.if_icmp .ge 51, 3) := by decide +kernel
theorem dX4_rests_49 : decode cX4_rests 49 = .ok (.iload 5, 2) := by decide +kernel
theorem dX4_rests_51 : decode cX4_rests 51 = .ok (.iload 6, 2) := by decide +kernel
theorem dX4_rests_53 : decode cX4_rests 53 = .ok (.iload_n 2, 1) := by decide +kernel
theorem dX4_rests_54 : decode cX4_rests 54 = .ok (.invokestatic 214, 3) := by decide +kernel
theorem dX4_rests_57 : decode cX4_rests 57 = .ok (.ifCond .eq 34, 3) := by decide +kernel
theorem dX4_rests_60 : decode cX4_rests 60 = .ok (.iload 6, 2) := by decide +kernel
theorem dX4_rests_62 : decode cX4_rests 62 = .ok (.iload 5, 2) := by decide +kernel
theorem dX4_rests_64 : decode cX4_rests 64 = .ok (.iload_n 2, 1) := by decide +kernel
theorem dX4_rests_65 : decode cX4_rests 65 = .ok (.invokestatic 214, 3) := by decide +kernel
theorem dX4_rests_68 : decode cX4_rests 68 = .ok (.ifCond .eq 23, 3) := by decide +kernel
theorem dX4_rests_71 : decode cX4_rests 71 = .ok (.iinc 3 1, 3) := by decide +kernel
theorem dX4_rests_74 : decode cX4_rests 74 = .ok (.iload 4, 2) := by decide +kernel
theorem dX4_rests_76 : decode cX4_rests 76 = .ok (.bipush (-9), 2) := by decide +kernel
theorem dX4_rests_78 : decode cX4_rests 78 = .ok (.if_icmp .ne 13, 3) := by decide +kernel
theorem dX4_rests_81 : decode cX4_rests 81 = .ok (.bipush 10, 2) := by decide +kernel
theorem dX4_rests_83 : decode cX4_rests 83 = .ok (.iload 5, 2) := by decide +kernel
theorem dX4_rests_85 : decode cX4_rests 85 = .ok (.imul, 1) := by decide +kernel
theorem dX4_rests_86 : decode cX4_rests 86 = .ok (.iload 6, 2) := by decide +kernel
theorem dX4_rests_88 : decode cX4_rests 88 = .ok (.iadd, 1) := by decide +kernel
theorem dX4_rests_89 : decode cX4_rests 89 = .ok (.istore 4, 2) := by decide +kernel
theorem dX4_rests_91 : decode cX4_rests 91 = .ok (.iinc 6 1, 3) := by decide +kernel
theorem dX4_rests_94 : decode cX4_rests 94 = .ok (.goto (-51), 3) := by decide +kernel
theorem dX4_rests_97 : decode cX4_rests 97 = .ok (.iinc 5 1, 3) := by decide +kernel
theorem dX4_rests_100 : decode cX4_rests 100 = .ok (.goto (-66), 3) := by decide +kernel
theorem dX4_rests_103 : decode cX4_rests 103 = .ok (.iload_n 1, 1) := by decide +kernel
theorem dX4_rests_104 : decode cX4_rests 104 = .ok (.ifCond .ne 7, 3) := by decide +kernel
theorem dX4_rests_107 : decode cX4_rests 107 = .ok (.iload_n 3, 1) := by decide +kernel
theorem dX4_rests_108 : decode cX4_rests 108 = .ok (.goto 5, 3) := by decide +kernel
theorem dX4_rests_111 : decode cX4_rests 111 = .ok (.iload 4, 2) := by decide +kernel
theorem dX4_rests_113 : decode cX4_rests 113 = .ok (.ireturn, 1) := by decide +kernel
set_option maxRecDepth 20000 in
theorem ggX4_strings_X2_howManyPlay : GoodIn wsX4_strings wsX2_howManyPlay := goodIn_r _ [8, 9, 10, 11, 12, 13, 14, 15, 16, 138, 139, 140, 141, 142, 143, 144] (by decide +kernel) (by decide +kernel)
set_option maxRecDepth 20000 in
theorem gX4_strings_X2_howManyPlay : GoodIn wsX4_strings (wsV RX4 132 RX2 yX2_howManyPlay wsX2_howManyPlay) := goodIn_app (goodIn_of _ (by decide +kernel)) ggX4_strings_X2_howManyPlay
set_option maxRecDepth 20000 in
theorem ggX4_strings_X2_isSetOfPlaying : GoodIn wsX4_strings wsX2_isSetOfPlaying := goodIn_r _ [20, 9, 138, 139, 140, 141, 142, 143, 144] (by decide +kernel) (by decide +kernel)
set_option maxRecDepth 20000 in
theorem gX4_strings_X2_isSetOfPlaying : GoodIn wsX4_strings (wsV RX4 189 RX2 yX2_isSetOfPlaying wsX2_isSetOfPlaying) := goodIn_app (goodIn_of _ (by decide +kernel)) ggX4_strings_X2_isSetOfPlaying
set_option maxRecDepth 20000 in
theorem ggX4_strings_X2_become : GoodIn wsX4_strings wsX2_become := goodIn_r _ [24, 9, 25, 26, 27, 28, 29, 30, 31, 32, 33, 34, 35, 138, 139, 140, 141, 142, 143, 144] (by decide +kernel) (by decide +kernel)
set_option maxRecDepth 20000 in
theorem gX4_strings_X2_become : GoodIn wsX4_strings (wsV RX4 121 RX2 yX2_become wsX2_become) := goodIn_app (goodIn_of _ (by decide +kernel)) ggX4_strings_X2_become
set_option maxRecDepth 20000 in
theorem ggX4_strings_X2_tire : GoodIn wsX4_strings wsX2_tire := goodIn_r _ [39, 9, 138, 139, 140, 141, 142, 143, 144] (by decide +kernel) (by decide +kernel)
set_option maxRecDepth 20000 in
theorem gX4_strings_X2_tire : GoodIn wsX4_strings (wsV RX4 218 RX2 yX2_tire wsX2_tire) := goodIn_app (goodIn_of _ (by decide +kernel)) ggX4_strings_X2_tire
set_option maxRecDepth 20000 in
theorem ggX4_strings_X2_playBars : GoodIn wsX4_strings wsX2_playBars := goodIn_r _ [43, 44, 45, 46, 7, 47, 29, 48, 49, 50, 51, 9, 26, 52, 53, 54, 55, 56, 57, 58, 59, 60, 61, 62, 63, 30, 31, 32, 33, 64, 65, 66, 67, 68, 69, 70, 71, 34, 35, 72, 37, 38, 39, 73, 74, 75, 76, 77, 78, 79, 80, 81, 82, 83, 84, 85, 86, 87, 88, 89, 90, 91, 92, 93, 94, 95, 96, 97, 98, 99, 25, 100, 101, 102, 103, 104, 27, 105, 106, 107, 108, 109, 110, 111, 112, 113, 138, 139, 140, 141, 142, 143, 144, 145, 146, 147, 148, 149, 150, 151, 152] (by decide +kernel) (by decide +kernel)
set_option maxRecDepth 20000 in
theorem gX4_strings_X2_playBars : GoodIn wsX4_strings (wsV RX4 159 RX2 yX2_playBars wsX2_playBars) := goodIn_app (goodIn_of _ (by decide +kernel)) ggX4_strings_X2_playBars
set_option maxRecDepth 20000 in
theorem ggX4_strings_X2_isSilent : GoodIn wsX4_strings wsX2_isSilent := goodIn_r _ [51, 9, 26, 52, 138, 139, 140, 141, 142, 143, 144, 145, 146, 147, 148, 149, 150, 151, 152] (by decide +kernel) (by decide +kernel)
set_option maxRecDepth 20000 in
theorem gX4_strings_X2_isSilent : GoodIn wsX4_strings (wsV RX4 221 RX2 yX2_isSilent wsX2_isSilent) := goodIn_app (goodIn_of _ (by decide +kernel)) ggX4_strings_X2_isSilent
set_option maxRecDepth 20000 in
theorem ggX4_strings_J6_bitCount_0f7a4 : GoodIn wsX4_strings wsJ6_bitCount_0f7a4 := goodIn_r _ [13, 14, 15, 16] (by decide +kernel) (by decide +kernel)
set_option maxRecDepth 20000 in
theorem gX4_strings_J6_bitCount_0f7a4 : GoodIn wsX4_strings (va_wsS RX4 202 yJ6_bitCount_0f7a4 wsJ6_bitCount_0f7a4) := goodIn_app (goodIn_of _ (by decide +kernel)) ggX4_strings_J6_bitCount_0f7a4
set_option maxRecDepth 20000 in
theorem ggX4_strings_X4_power : GoodIn wsX4_strings wsX4_power := goodIn_r _ [118] (by decide +kernel) (by decide +kernel)
set_option maxRecDepth 20000 in
theorem gX4_strings_X4_power : GoodIn wsX4_strings (va_wsS RX4 224 yX4_power wsX4_power) := goodIn_app (goodIn_of _ (by decide +kernel)) ggX4_strings_X4_power
set_option maxRecDepth 20000 in
theorem ggX4_strings_X4_fraction : GoodIn wsX4_strings wsX4_fraction := goodIn_r _ [121, 122, 123, 62, 124] (by decide +kernel) (by decide +kernel)
set_option maxRecDepth 20000 in
theorem gX4_strings_X4_fraction : GoodIn wsX4_strings (va_wsS RX4 210 yX4_fraction wsX4_fraction) := goodIn_app (goodIn_of _ (by decide +kernel)) ggX4_strings_X4_fraction
theorem dX4_strings_0 : decode cX4_strings 0 = .ok (.iload_n 1, 1) := by decide +kernel
theorem dX4_strings_1 : decode cX4_strings 1 = .ok (.ifCond .lt 19, 3) := by decide +kernel
theorem dX4_strings_4 : decode cX4_strings 4 = .ok (.iload_n 1, 1) := by decide +kernel
theorem dX4_strings_5 : decode cX4_strings 5 = .ok (.bipush 9, 2) := by decide +kernel
theorem dX4_strings_7 : decode cX4_strings 7 = .ok (.if_icmp .gt 13, 3) := by decide +kernel
theorem dX4_strings_10 : decode cX4_strings 10 = .ok (.iload_n 2, 1) := by decide +kernel
theorem dX4_strings_11 : decode cX4_strings 11 = .ok (.ifCond .lt 9, 3) := by decide +kernel
theorem dX4_strings_14 : decode cX4_strings 14 = .ok (.iload_n 2, 1) := by decide +kernel
theorem dX4_strings_15 : decode cX4_strings 15 = .ok (.bipush 10, 2) := by decide +kernel
theorem dX4_strings_17 : decode cX4_strings 17 = .ok (.if_icmp .le 6, 3) := by decide +kernel
theorem dX4_strings_20 : decode cX4_strings 20 = .ok (.bipush (-2), 2) := by decide +kernel
theorem dX4_strings_22 : decode cX4_strings 22 = .ok (.ireturn, 1) := by decide +kernel
theorem dX4_strings_23 : decode cX4_strings 23 = .ok (.aload_n 0, 1) := by decide +kernel
theorem dX4_strings_24 : decode cX4_strings 24 = .ok (.getfield 26, 3) := by decide +kernel
theorem dX4_strings_27 : decode cX4_strings 27 = .ok (.invokevirtual 132, 3) := by decide +kernel
theorem dX4_strings_30 : decode cX4_strings 30 = .ok (.istore 4, 2) := by decide +kernel
theorem dX4_strings_32 : decode cX4_strings 32 = .ok (.iconst 0, 1) := by decide +kernel
theorem dX4_strings_33 : decode cX4_strings 33 = .ok (.istore 5, 2) := by decide +kernel
theorem dX4_strings_35 : decode cX4_strings 35 = .ok (.iconst 0, 1) := by decide +kernel
theorem dX4_strings_36 : decode cX4_strings 36 = .ok (.istore 6, 2) := by decide +kernel
theorem dX4_strings_38 : decode cX4_strings 38 = .ok (.iload 6, 2) := by decide +kernel
theorem dX4_strings_40 : decode cX4_strings 40 = .ok (.bipush 64, 2) := by decide +kernel
theorem dX4_strings_42 : decode cX4_strings 42 = .ok (.if_icmp .ge 98, 3) := by decide +kernel
theorem dX4_strings_45 : decode cX4_strings 45 = .ok (.aload_n 0, 1) := by decide +kernel
theorem dX4_strings_46 : decode cX4_strings 46 = .ok (.getfield 26, 3) := by decide +kernel
theorem dX4_strings_49 : decode cX4_strings 49 = .ok (.iload 6, 2) := by decide +kernel
theorem dX4_strings_51 : decode cX4_strings 51 = .ok (.invokevirtual 189, 3) := by decide +kernel
theorem dX4_strings_54 : decode cX4_strings 54 = .ok (.ifCond .eq 80, 3) := by decide +kernel
theorem dX4_strings_57 : decode cX4_strings 57 = .ok (.aload_n 0, 1) := by decide +kernel
theorem dX4_strings_58 : decode cX4_strings 58 = .ok (.getfield 33, 3) := by decide +kernel
theorem dX4_strings_61 : decode cX4_strings 61 = .ok (.aload_n 0, 1) := by decide +kernel
theorem dX4_strings_62 : decode cX4_strings 62 = .ok (.getfield 26, 3) := by decide +kernel
theorem dX4_strings_65 : decode cX4_strings 65 = .ok (.invokevirtual 121, 3) := by decide +kernel
theorem dX4_strings_68 : decode cX4_strings 68 = .ok (.aload_n 0, 1) := by decide +kernel
theorem dX4_strings_69 : decode cX4_strings 69 = .ok (.getfield 33, 3) := by decide +kernel
theorem dX4_strings_72 : decode cX4_strings 72 = .ok (.iload 6, 2) := by decide +kernel
theorem dX4_strings_74 : decode cX4_strings 74 = .ok (.invokevirtual 218, 3) := by decide +kernel
theorem dX4_strings_77 : decode cX4_strings 77 = .ok (.aload_n 0, 1) := by decide +kernel
theorem dX4_strings_78 : decode cX4_strings 78 = .ok (.getfield 33, 3) := by decide +kernel
theorem dX4_strings_81 : decode cX4_strings 81 = .ok (.aload_n 0, 1) := by decide +kernel
theorem dX4_strings_82 : decode cX4_strings 82 = .ok (.getfield 16, 3) := by decide +kernel
theorem dX4_strings_85 : decode cX4_strings 85 = .ok (.iload_n 1, 1) := by decide +kernel
theorem dX4_strings_86 : decode cX4_strings 86 = .ok (.invokevirtual 159, 3) := by decide +kernel
theorem dX4_strings_89 : decode cX4_strings 89 = .ok (.aload_n 0, 1) := by decide +kernel
theorem dX4_strings_90 : decode cX4_strings 90 = .ok (.getfield 33, 3) := by decide +kernel
theorem dX4_strings_93 : decode cX4_strings 93 = .ok (.aload_n 0, 1) := by decide +kernel
theorem dX4_strings_94 : decode cX4_strings 94 = .ok (.getfield 16, 3) := by decide +kernel
theorem dX4_strings_97 : decode cX4_strings 97 = .ok (.invokevirtual 221, 3) := by decide +kernel
theorem dX4_strings_100 : decode cX4_strings 100 = .ok (.ifCond .eq 34, 3) := by decide +kernel
theorem dX4_strings_103 : decode cX4_strings 103 = .ok (.iload 6, 2) := by decide +kernel
theorem dX4_strings_105 : decode cX4_strings 105 = .ok (.invokestatic 202, 3) := by decide +kernel
theorem dX4_strings_108 : decode cX4_strings 108 = .ok (.istore 7, 2) := by decide +kernel
theorem dX4_strings_110 : decode cX4_strings 110 = .ok (.iload 5, 2) := by decide +kernel
theorem dX4_strings_112 : decode cX4_strings 112 = .ok (.iload_n 2, 1) := by decide +kernel
theorem dX4_strings_113 : decode cX4_strings 113 = .ok (.iload 7, 2) := by decide +kernel
theorem dX4_strings_115 : decode cX4_strings 115 = .ok (.invokestatic 224, 3) := by decide +kernel
theorem dX4_strings_118 : decode cX4_strings 118 = .ok (.bipush 10, 2) := by decide +kernel
theorem dX4_strings_120 : decode cX4_strings 120 = .ok (.iload_n 2, 1) := by decide +kernel
theorem dX4_strings_121 : decode cX4_strings 121 = .ok (.isub, 1) := by decide +kernel
theorem dX4_strings_122 : decode cX4_strings 122 = .ok (.iload 4, 2) := by decide +kernel
theorem dX4_strings_124 : decode cX4_strings 124 = .ok (.iload 7, 2) := by decide +kernel
theorem dX4_strings_126 : decode cX4_strings 126 = .ok (.isub, 1) := by decide +kernel
theorem dX4_strings_127 : decode cX4_strings 127 = .ok (.invokestatic 224, 3) := by decide +kernel
theorem dX4_strings_130 : decode cX4_strings 130 = .ok (.imul, 1) := by decide +kernel
theorem dX4_strings_131 : decode cX4_strings 131 = .ok (.iadd, 1) := by decide +kernel
theorem dX4_strings_132 : decode cX4_strings 132 = .ok (.istore 5, 2) := by decide +kernel
theorem dX4_strings_134 : decode cX4_strings 134 = .ok (.iinc 6 1, 3) := by decide +kernel
theorem dX4_strings_137 : decode cX4_strings 137 = .ok (.goto (-99), 3) := by decide +kernel
theorem dX4_strings_140 : decode cX4_strings 140 = .ok (.iload 5, 2) := by decide +kernel
theorem dX4_strings_142 : decode cX4_strings 142 = .ok (.bipush 10, 2) := by decide +kernel
theorem dX4_strings_144 : decode cX4_strings 144 = .ok (.iload 4, 2) := by decide +kernel
theorem dX4_strings_146 : decode cX4_strings 146 = .ok (.invokestatic 224, 3) := by decide +kernel
theorem dX4_strings_149 : decode cX4_strings 149 = .ok (.iload_n 3, 1) := by decide +kernel
theorem dX4_strings_150 : decode cX4_strings 150 = .ok (.invokestatic 210, 3) := by decide +kernel
theorem dX4_strings_153 : decode cX4_strings 153 = .ok (.ireturn, 1) := by decide +kernel
theorem dX4_seed_0 : decode cX4_seed 0 = .ok (.aload_n 0, 1) := by decide +kernel
theorem dX4_seed_1 : decode cX4_seed 1 = .ok (.getfield 228, 3) := by decide +kernel
theorem dX4_seed_4 : decode cX4_seed 4 = .ok (.lstore_n 3, 1) := by decide +kernel
theorem dX4_seed_5 : decode cX4_seed 5 = .ok (.aload_n 0, 1) := by decide +kernel
theorem dX4_seed_6 : decode cX4_seed 6 = .ok (.lload_n 1, 1) := by decide +kernel
theorem dX4_seed_7 : decode cX4_seed 7 = .ok (.putfield 228, 3) := by decide +kernel
theorem dX4_seed_10 : decode cX4_seed 10 = .ok (.lload_n 3, 1) := by decide +kernel
theorem dX4_seed_11 : decode cX4_seed 11 = .ok (.lreturn, 1) := by decide +kernel
set_option maxRecDepth 20000 in
theorem ggX4_nights_X2_become : GoodIn wsX4_nights wsX2_become := goodIn_r _ [12, 13, 14, 15, 16, 17, 18, 19, 20, 21, 22, 23, 24, 151, 152, 153, 154, 155, 156, 157] (by decide +kernel) (by decide +kernel)
set_option maxRecDepth 20000 in
theorem gX4_nights_X2_become : GoodIn wsX4_nights (wsV RX4 121 RX2 yX2_become wsX2_become) := goodIn_app (goodIn_of _ (by decide +kernel)) ggX4_nights_X2_become
set_option maxRecDepth 20000 in
theorem ggX4_nights_X2_doByChance : GoodIn wsX4_nights wsX2_doByChance := goodIn_r _ [28, 29, 30, 31, 11, 32, 17, 33, 34, 35, 36, 37, 38, 39, 40, 41, 42, 43, 13, 20, 21, 22, 44, 45, 46, 47, 14, 48, 49, 50, 51, 52, 19, 53, 54, 55, 56, 57, 58, 59, 60, 23, 24, 61, 62, 63, 64, 65, 66, 67, 68, 69, 70, 71, 72, 73, 15, 16, 74, 75, 76, 77, 18, 78, 79, 80, 81, 82, 83, 84, 85, 86, 87, 88, 89, 90, 91, 92, 93, 94, 95, 96, 97, 98, 99, 100, 101, 102, 103, 104, 105, 106, 107, 108, 109, 110, 111, 112, 113, 114, 115, 116, 117, 118, 119, 120, 121, 122, 123, 124, 125, 126, 151, 152, 153, 154, 155, 156, 157, 158, 159, 160, 161, 162, 163, 164, 165] (by decide +kernel) (by decide +kernel)
set_option maxRecDepth 20000 in
theorem gX4_nights_X2_doByChance : GoodIn wsX4_nights (wsV RX4 238 RX2 yX2_doByChance wsX2_doByChance) := goodIn_app (goodIn_of _ (by decide +kernel)) ggX4_nights_X2_doByChance
set_option maxRecDepth 20000 in
theorem ggX4_nights_X2_howManyPlay : GoodIn wsX4_nights wsX2_howManyPlay := goodIn_r _ [130, 13, 131, 132, 133, 134, 135, 136, 137, 151, 152, 153, 154, 155, 156, 157] (by decide +kernel) (by decide +kernel)
set_option maxRecDepth 20000 in
theorem gX4_nights_X2_howManyPlay : GoodIn wsX4_nights (wsV RX4 132 RX2 yX2_howManyPlay wsX2_howManyPlay) := goodIn_app (goodIn_of _ (by decide +kernel)) ggX4_nights_X2_howManyPlay
theorem dX4_nights_0 : decode cX4_nights 0 = .ok (.iload_n 1, 1) := by decide +kernel
theorem dX4_nights_1 : decode cX4_nights 1 = .ok (.iconst 1, 1) := by decide +kernel
theorem dX4_nights_2 : decode cX4_nights 2 = .ok (.if_icmp .lt 9, 3) := by decide +kernel
theorem dX4_nights_5 : decode cX4_nights 5 = .ok (.iload_n 1, 1) := by decide +kernel
theorem dX4_nights_6 : decode cX4_nights 6 = .ok (.bipush 30, 2) := by decide +kernel
theorem dX4_nights_8 : decode cX4_nights 8 = .ok (.if_icmp .le 6, 3) := by decide +kernel
theorem dX4_nights_11 : decode cX4_nights 11 = .ok (.bipush (-2), 2) := by decide +kernel
theorem dX4_nights_13 : decode cX4_nights 13 = .ok (.ireturn, 1) := by decide +kernel
theorem dX4_nights_14 : decode cX4_nights 14 = .ok (.aload_n 0, 1) := by decide +kernel
theorem dX4_nights_15 : decode cX4_nights 15 = .ok (.getfield 33, 3) := by decide +kernel
theorem dX4_nights_18 : decode cX4_nights 18 = .ok (.aload_n 0, 1) := by decide +kernel
theorem dX4_nights_19 : decode cX4_nights 19 = .ok (.getfield 26, 3) := by decide +kernel
theorem dX4_nights_22 : decode cX4_nights 22 = .ok (.invokevirtual 121, 3) := by decide +kernel
theorem dX4_nights_25 : decode cX4_nights 25 = .ok (.iconst 0, 1) := by decide +kernel
theorem dX4_nights_26 : decode cX4_nights 26 = .ok (.istore_n 2, 1) := by decide +kernel
theorem dX4_nights_27 : decode cX4_nights 27 = .ok (.iconst 0, 1) := by decide +kernel
theorem dX4_nights_28 : decode cX4_nights 28 = .ok (.istore_n 3, 1) := by decide +kernel
theorem dX4_nights_29 : decode cX4_nights 29 = .ok (.iload_n 3, 1) := by decide +kernel
theorem dX4_nights_30 : decode cX4_nights 30 = .ok (.iload_n 1, 1) := by decide +kernel
theorem dX4_nights_31 : decode cX4_nights 31 = .ok (.if_icmp .ge 58, 3) := by decide +kernel
theorem dX4_nights_34 : decode cX4_nights 34 = .ok (.aload_n 0, 1) := by decide +kernel
theorem dX4_nights_35 : decode cX4_nights 35 = .ok (.aload_n 0, 1) := by decide +kernel
theorem dX4_nights_36 : decode cX4_nights 36 = .ok (.getfield 228, 3) := by decide +kernel
theorem dX4_nights_39 : decode cX4_nights 39 = .ok (.ldc2_w 232, 3) := by decide +kernel
theorem dX4_nights_42 : decode cX4_nights 42 = .ok (.lmul, 1) := by decide +kernel
theorem dX4_nights_43 : decode cX4_nights 43 = .ok (.ldc2_w 234, 3) := by decide +kernel
theorem dX4_nights_46 : decode cX4_nights 46 = .ok (.ladd, 1) := by decide +kernel
theorem dX4_nights_47 : decode cX4_nights 47 = .ok (.putfield 228, 3) := by decide +kernel
theorem dX4_nights_50 : decode cX4_nights 50 = .ok (.aload_n 0, 1) := by decide +kernel
theorem dX4_nights_51 : decode cX4_nights 51 = .ok (.getfield 33, 3) := by decide +kernel
theorem dX4_nights_54 : decode cX4_nights 54 = .ok (.aload_n 0, 1) := by decide +kernel
theorem dX4_nights_55 : decode cX4_nights 55 = .ok (.getfield 16, 3) := by decide +kernel
theorem dX4_nights_58 : decode cX4_nights 58 = .ok (.aload_n 0, 1) := by decide +kernel
theorem dX4_nights_59 : decode cX4_nights 59 = .ok (.getfield 228, 3) := by decide +kernel
theorem dX4_nights_62 : decode cX4_nights 62 = .ok (.bipush 33, 2) := by decide +kernel
theorem dX4_nights_64 : decode cX4_nights 64 = .ok (.lushr, 1) := by decide +kernel
theorem dX4_nights_65 : decode cX4_nights 65 = .ok (.ldc2_w 236, 3) := by decide +kernel
theorem dX4_nights_68 : decode cX4_nights 68 = .ok (.lrem, 1) := by decide +kernel
theorem dX4_nights_69 : decode cX4_nights 69 = .ok (.l2i, 1) := by decide +kernel
theorem dX4_nights_70 : decode cX4_nights 70 = .ok (.invokevirtual 238, 3) := by decide +kernel
theorem dX4_nights_73 : decode cX4_nights 73 = .ok (.iload_n 2, 1) := by decide +kernel
theorem dX4_nights_74 : decode cX4_nights 74 = .ok (.aload_n 0, 1) := by decide +kernel
theorem dX4_nights_75 : decode cX4_nights 75 = .ok (.getfield 33, 3) := by decide +kernel
theorem dX4_nights_78 : decode cX4_nights 78 = .ok (.invokevirtual 132, 3) := by decide +kernel
theorem dX4_nights_81 : decode cX4_nights 81 = .ok (.iadd, 1) := by decide +kernel
theorem dX4_nights_82 : decode cX4_nights 82 = .ok (.istore_n 2, 1) := by decide +kernel
theorem dX4_nights_83 : decode cX4_nights 83 = .ok (.iinc 3 1, 3) := by decide +kernel
theorem dX4_nights_86 : decode cX4_nights 86 = .ok (.goto (-57), 3) := by decide +kernel
theorem dX4_nights_89 : decode cX4_nights 89 = .ok (.iload_n 2, 1) := by decide +kernel
theorem dX4_nights_90 : decode cX4_nights 90 = .ok (.ireturn, 1) := by decide +kernel
set_option maxRecDepth 20000 in
theorem ggX4_keep_X4_momentAt : GoodIn wsX4_keep wsX4_momentAt := goodIn_r _ [8] (by decide +kernel) (by decide +kernel)
set_option maxRecDepth 20000 in
theorem gX4_keep_X4_momentAt : GoodIn wsX4_keep (va_wsS RX4 241 yX4_momentAt wsX4_momentAt) := goodIn_app (goodIn_of _ (by decide +kernel)) ggX4_keep_X4_momentAt
set_option maxRecDepth 20000 in
theorem ggX4_keep_X2_become : GoodIn wsX4_keep wsX2_become := goodIn_r _ [13, 14, 15, 16, 17, 18, 19, 20, 21, 7, 22, 23, 24, 38, 39, 40, 41, 42, 43, 44] (by decide +kernel) (by decide +kernel)
set_option maxRecDepth 20000 in
theorem gX4_keep_X2_become : GoodIn wsX4_keep (wsV RX4 121 RX2 yX2_become wsX2_become) := goodIn_app (goodIn_of _ (by decide +kernel)) ggX4_keep_X2_become
theorem dX4_keep_0 : decode cX4_keep 0 = .ok (.aload_n 0, 1) := by decide +kernel
theorem dX4_keep_1 : decode cX4_keep 1 = .ok (.getfield 43, 3) := by decide +kernel
theorem dX4_keep_4 : decode cX4_keep 4 = .ok (.iload_n 1, 1) := by decide +kernel
theorem dX4_keep_5 : decode cX4_keep 5 = .ok (.invokestatic 241, 3) := by decide +kernel
theorem dX4_keep_8 : decode cX4_keep 8 = .ok (.astore_n 2, 1) := by decide +kernel
theorem dX4_keep_9 : decode cX4_keep 9 = .ok (.aload_n 2, 1) := by decide +kernel
theorem dX4_keep_10 : decode cX4_keep 10 = .ok (.ifnonnull 5, 3) := by decide +kernel
theorem dX4_keep_13 : decode cX4_keep 13 = .ok (.iconst (-1), 1) := by decide +kernel
theorem dX4_keep_14 : decode cX4_keep 14 = .ok (.ireturn, 1) := by decide +kernel
theorem dX4_keep_15 : decode cX4_keep 15 = .ok (.aload_n 2, 1) := by decide +kernel
theorem dX4_keep_16 : decode cX4_keep 16 = .ok (.aload_n 0, 1) := by decide +kernel
theorem dX4_keep_17 : decode cX4_keep 17 = .ok (.getfield 26, 3) := by decide +kernel
theorem dX4_keep_20 : decode cX4_keep 20 = .ok (.invokevirtual 121, 3) := by decide +kernel
theorem dX4_keep_23 : decode cX4_keep 23 = .ok (.aload_n 0, 1) := by decide +kernel
theorem dX4_keep_24 : decode cX4_keep 24 = .ok (.dup, 1) := by decide +kernel
theorem dX4_keep_25 : decode cX4_keep 25 = .ok (.getfield 76, 3) := by decide +kernel
theorem dX4_keep_28 : decode cX4_keep 28 = .ok (.iconst 1, 1) := by decide +kernel
theorem dX4_keep_29 : decode cX4_keep 29 = .ok (.iload_n 1, 1) := by decide +kernel
theorem dX4_keep_30 : decode cX4_keep 30 = .ok (.ishl, 1) := by decide +kernel
theorem dX4_keep_31 : decode cX4_keep 31 = .ok (.ior, 1) := by decide +kernel
theorem dX4_keep_32 : decode cX4_keep 32 = .ok (.putfield 76, 3) := by decide +kernel
theorem dX4_keep_35 : decode cX4_keep 35 = .ok (.aload_n 0, 1) := by decide +kernel
theorem dX4_keep_36 : decode cX4_keep 36 = .ok (.getfield 26, 3) := by decide +kernel
theorem dX4_keep_39 : decode cX4_keep 39 = .ok (.getfield 245, 3) := by decide +kernel
theorem dX4_keep_42 : decode cX4_keep 42 = .ok (.ireturn, 1) := by decide +kernel
set_option maxRecDepth 20000 in
theorem ggX4_again_X4_momentAt : GoodIn wsX4_again wsX4_momentAt := goodIn_r _ [9] (by decide +kernel) (by decide +kernel)
set_option maxRecDepth 20000 in
theorem gX4_again_X4_momentAt : GoodIn wsX4_again (va_wsS RX4 241 yX4_momentAt wsX4_momentAt) := goodIn_app (goodIn_of _ (by decide +kernel)) ggX4_again_X4_momentAt
set_option maxRecDepth 20000 in
theorem ggX4_again_X2_become : GoodIn wsX4_again wsX2_become := goodIn_r _ [14, 15, 16, 17, 18, 19, 20, 21, 22, 8, 23, 24, 25, 46, 47, 48, 49, 50, 51, 52] (by decide +kernel) (by decide +kernel)
set_option maxRecDepth 20000 in
theorem gX4_again_X2_become : GoodIn wsX4_again (wsV RX4 121 RX2 yX2_become wsX2_become) := goodIn_app (goodIn_of _ (by decide +kernel)) ggX4_again_X2_become
set_option maxRecDepth 20000 in
theorem ggX4_again_X0_clear : GoodIn wsX4_again wsX0_clear := goodIn_r _ [30, 31, 32, 53, 54, 55] (by decide +kernel) (by decide +kernel)
set_option maxRecDepth 20000 in
theorem gX4_again_X0_clear : GoodIn wsX4_again (wsV RX4 73 RX0 yX0_clear wsX0_clear) := goodIn_app (goodIn_of _ (by decide +kernel)) ggX4_again_X0_clear
theorem dX4_again_0 : decode cX4_again 0 = .ok (.aload_n 0, 1) := by decide +kernel
theorem dX4_again_1 : decode cX4_again 1 = .ok (.getfield 43, 3) := by decide +kernel
theorem dX4_again_4 : decode cX4_again 4 = .ok (.iload_n 1, 1) := by decide +kernel
theorem dX4_again_5 : decode cX4_again 5 = .ok (.invokestatic 241, 3) := by decide +kernel
theorem dX4_again_8 : decode cX4_again 8 = .ok (.astore_n 2, 1) := by decide +kernel
theorem dX4_again_9 : decode cX4_again 9 = .ok (.aload_n 2, 1) := by decide +kernel
theorem dX4_again_10 : decode cX4_again 10 = .ok (.ifnonnull 5, 3) := by decide +kernel
theorem dX4_again_13 : decode cX4_again 13 = .ok (.iconst (-1), 1) := by decide +kernel
theorem dX4_again_14 : decode cX4_again 14 = .ok (.ireturn, 1) := by decide +kernel
theorem dX4_again_15 : decode cX4_again 15 = .ok (.aload_n 0, 1) := by decide +kernel
theorem dX4_again_16 : decode cX4_again 16 = .ok (.getfield 76, 3) := by decide +kernel
theorem dX4_again_19 : decode cX4_again 19 = .ok (.iload_n 1, 1) := by decide +kernel
theorem dX4_again_20 : decode cX4_again 20 = .ok (.ishr, 1) := by decide +kernel
theorem dX4_again_21 : decode cX4_again 21 = .ok (.iconst 1, 1) := by decide +kernel
theorem dX4_again_22 : decode cX4_again 22 = .ok (.iand, 1) := by decide +kernel
theorem dX4_again_23 : decode cX4_again 23 = .ok (.ifCond .ne 6, 3) := by decide +kernel
theorem dX4_again_26 : decode cX4_again 26 = .ok (.bipush (-3), 2) := by decide +kernel
theorem dX4_again_28 : decode cX4_again 28 = .ok (.ireturn, 1) := by decide +kernel
theorem dX4_again_29 : decode cX4_again 29 = .ok (.aload_n 0, 1) := by decide +kernel
theorem dX4_again_30 : decode cX4_again 30 = .ok (.getfield 26, 3) := by decide +kernel
theorem dX4_again_33 : decode cX4_again 33 = .ok (.aload_n 2, 1) := by decide +kernel
theorem dX4_again_34 : decode cX4_again 34 = .ok (.invokevirtual 121, 3) := by decide +kernel
theorem dX4_again_37 : decode cX4_again 37 = .ok (.aload_n 0, 1) := by decide +kernel
theorem dX4_again_38 : decode cX4_again 38 = .ok (.getfield 39, 3) := by decide +kernel
theorem dX4_again_41 : decode cX4_again 41 = .ok (.invokevirtual 73, 3) := by decide +kernel
theorem dX4_again_44 : decode cX4_again 44 = .ok (.aload_n 0, 1) := by decide +kernel
theorem dX4_again_45 : decode cX4_again 45 = .ok (.getfield 26, 3) := by decide +kernel
theorem dX4_again_48 : decode cX4_again 48 = .ok (.getfield 245, 3) := by decide +kernel
theorem dX4_again_51 : decode cX4_again 51 = .ok (.ireturn, 1) := by decide +kernel
set_option maxRecDepth 20000 in
theorem ggX4_count_X2_tired : GoodIn wsX4_count wsX2_tired := goodIn_r _ [19, 20, 21, 22, 23, 24, 25, 26, 27, 59, 60, 61, 62, 63, 64, 65, 51, 52, 53, 54, 55, 56, 57, 58] (by decide +kernel) (by decide +kernel)
set_option maxRecDepth 20000 in
theorem gX4_count_X2_tired : GoodIn wsX4_count (wsV RX4 251 RX2 yX2_tired wsX2_tired) := goodIn_app (goodIn_of _ (by decide +kernel)) ggX4_count_X2_tired
set_option maxRecDepth 20000 in
theorem ggX4_count_X2_barToCome : GoodIn wsX4_count wsX2_barToCome := goodIn_r _ [31, 32, 33, 34, 35, 18, 36, 20, 37, 59, 60, 61, 62, 63, 64, 65, 51, 52, 53, 54, 55, 56, 57, 58] (by decide +kernel) (by decide +kernel)
set_option maxRecDepth 20000 in
theorem gX4_count_X2_barToCome : GoodIn wsX4_count (wsV RX4 166 RX2 yX2_barToCome wsX2_barToCome) := goodIn_app (goodIn_of _ (by decide +kernel)) ggX4_count_X2_barToCome
theorem dX4_count_0 : decode cX4_count 0 = .ok (.iload_n 1, 1) := by decide +kernel
theorem dX4_count_1 : decode cX4_count 1 = .ok (.tableswitch 164 0 11 #[63, 68, 76, 84, 92, 100, 108, 116, 128, 140, 148, 156], 63) := by decide +kernel
theorem dX4_count_64 : decode cX4_count 64 = .ok (.aload_n 0, 1) := by decide +kernel
theorem dX4_count_65 : decode cX4_count 65 = .ok (.getfield 57, 3) := by decide +kernel
theorem dX4_count_68 : decode cX4_count 68 = .ok (.ireturn, 1) := by decide +kernel
theorem dX4_count_69 : decode cX4_count 69 = .ok (.aload_n 0, 1) := by decide +kernel
theorem dX4_count_70 : decode cX4_count 70 = .ok (.getfield 16, 3) := by decide +kernel
theorem dX4_count_73 : decode cX4_count 73 = .ok (.getfield 79, 3) := by decide +kernel
theorem dX4_count_76 : decode cX4_count 76 = .ok (.ireturn, 1) := by decide +kernel
theorem dX4_count_77 : decode cX4_count 77 = .ok (.aload_n 0, 1) := by decide +kernel
theorem dX4_count_78 : decode cX4_count 78 = .ok (.getfield 16, 3) := by decide +kernel
theorem dX4_count_81 : decode cX4_count 81 = .ok (.getfield 82, 3) := by decide +kernel
theorem dX4_count_84 : decode cX4_count 84 = .ok (.ireturn, 1) := by decide +kernel
theorem dX4_count_85 : decode cX4_count 85 = .ok (.aload_n 0, 1) := by decide +kernel
theorem dX4_count_86 : decode cX4_count 86 = .ok (.getfield 26, 3) := by decide +kernel
theorem dX4_count_89 : decode cX4_count 89 = .ok (.getfield 245, 3) := by decide +kernel
theorem dX4_count_92 : decode cX4_count 92 = .ok (.ireturn, 1) := by decide +kernel
theorem dX4_count_93 : decode cX4_count 93 = .ok (.aload_n 0, 1) := by decide +kernel
theorem dX4_count_94 : decode cX4_count 94 = .ok (.getfield 26, 3) := by decide +kernel
theorem dX4_count_97 : decode cX4_count 97 = .ok (.getfield 139, 3) := by decide +kernel
theorem dX4_count_100 : decode cX4_count 100 = .ok (.ireturn, 1) := by decide +kernel
theorem dX4_count_101 : decode cX4_count 101 = .ok (.aload_n 0, 1) := by decide +kernel
theorem dX4_count_102 : decode cX4_count 102 = .ok (.getfield 26, 3) := by decide +kernel
theorem dX4_count_105 : decode cX4_count 105 = .ok (.getfield 163, 3) := by decide +kernel
theorem dX4_count_108 : decode cX4_count 108 = .ok (.ireturn, 1) := by decide +kernel
theorem dX4_count_109 : decode cX4_count 109 = .ok (.aload_n 0, 1) := by decide +kernel
theorem dX4_count_110 : decode cX4_count 110 = .ok (.getfield 26, 3) := by decide +kernel
theorem dX4_count_113 : decode cX4_count 113 = .ok (.getfield 248, 3) := by decide +kernel
theorem dX4_count_116 : decode cX4_count 116 = .ok (.ireturn, 1) := by decide +kernel
theorem dX4_count_117 : decode cX4_count 117 = .ok (.aload_n 0, 1) := by decide +kernel
theorem dX4_count_118 : decode cX4_count 118 = .ok (.getfield 26, 3) := by decide +kernel
theorem dX4_count_121 : decode cX4_count 121 = .ok (.aload_n 0, 1) := by decide +kernel
theorem dX4_count_122 : decode cX4_count 122 = .ok (.getfield 16, 3) := by decide +kernel
theorem dX4_count_125 : decode cX4_count 125 = .ok (.invokevirtual 251, 3) := by decide +kernel
theorem dX4_count_128 : decode cX4_count 128 = .ok (.ireturn, 1) := by decide +kernel
theorem dX4_count_129 : decode cX4_count 129 = .ok (.aload_n 0, 1) := by decide +kernel
theorem dX4_count_130 : decode cX4_count 130 = .ok (.getfield 26, 3) := by decide +kernel
theorem dX4_count_133 : decode cX4_count 133 = .ok (.aload_n 0, 1) := by decide +kernel
theorem dX4_count_134 : decode cX4_count 134 = .ok (.getfield 16, 3) := by decide +kernel
theorem dX4_count_137 : decode cX4_count 137 = .ok (.invokevirtual 166, 3) := by decide +kernel
theorem dX4_count_140 : decode cX4_count 140 = .ok (.ireturn, 1) := by decide +kernel
theorem dX4_count_141 : decode cX4_count 141 = .ok (.aload_n 0, 1) := by decide +kernel
theorem dX4_count_142 : decode cX4_count 142 = .ok (.getfield 26, 3) := by decide +kernel
theorem dX4_count_145 : decode cX4_count 145 = .ok (.getfield 254, 3) := by decide +kernel
theorem dX4_count_148 : decode cX4_count 148 = .ok (.ireturn, 1) := by decide +kernel
theorem dX4_count_149 : decode cX4_count 149 = .ok (.aload_n 0, 1) := by decide +kernel
theorem dX4_count_150 : decode cX4_count 150 = .ok (.getfield 39, 3) := by decide +kernel
theorem dX4_count_153 : decode cX4_count 153 = .ok (.getfield 156, 3) := by decide +kernel
theorem dX4_count_156 : decode cX4_count 156 = .ok (.ireturn, 1) := by decide +kernel
theorem dX4_count_157 : decode cX4_count 157 = .ok (.aload_n 0, 1) := by decide +kernel
theorem dX4_count_158 : decode cX4_count 158 = .ok (.getfield 50, 3) := by decide +kernel
theorem dX4_count_161 : decode cX4_count 161 = .ok (.getfield 185, 3) := by decide +kernel
theorem dX4_count_164 : decode cX4_count 164 = .ok (.ireturn, 1) := by decide +kernel
theorem dX4_count_165 : decode cX4_count 165 = .ok (.bipush (-2), 2) := by decide +kernel
theorem dX4_count_167 : decode cX4_count 167 = .ok (.ireturn, 1) := by decide +kernel
set_option maxRecDepth 20000 in
theorem ggX4_cheapestHush_X2_isSetOfPlaying : GoodIn wsX4_cheapestHush wsX2_isSetOfPlaying := goodIn_r _ [8, 9, 144, 145, 146, 147, 148, 149, 150] (by decide +kernel) (by decide +kernel)
set_option maxRecDepth 20000 in
theorem gX4_cheapestHush_X2_isSetOfPlaying : GoodIn wsX4_cheapestHush (wsV RX4 189 RX2 yX2_isSetOfPlaying wsX2_isSetOfPlaying) := goodIn_app (goodIn_of _ (by decide +kernel)) ggX4_cheapestHush_X2_isSetOfPlaying
set_option maxRecDepth 20000 in
theorem ggX4_cheapestHush_X3_isCheaper : GoodIn wsX4_cheapestHush wsX3_isCheaper := goodIn_r _ [14, 15, 16, 17, 13, 18, 19, 20, 21, 22, 23, 24, 25, 26, 27, 28, 29, 30, 31, 32, 33, 151, 152, 153, 154, 155, 156, 157, 158] (by decide +kernel) (by decide +kernel)
set_option maxRecDepth 20000 in
theorem gX4_cheapestHush_X3_isCheaper : GoodIn wsX4_cheapestHush (wsV RX4 257 RX3 yX3_isCheaper wsX3_isCheaper) := goodIn_app (goodIn_of _ (by decide +kernel)) ggX4_cheapestHush_X3_isCheaper
set_option maxRecDepth 20000 in
theorem ggX4_cheapestHush_X4_isSilentBehind : GoodIn wsX4_cheapestHush wsX4_isSilentBehind := goodIn_r _ [37, 38, 1, 3, 39, 40, 41, 7, 42, 9, 43, 44, 45, 46, 47, 48, 21, 22, 23, 49, 50, 51, 52, 53, 54, 55, 56, 57, 58, 59, 60, 61, 62, 63, 64, 65, 66, 67, 68, 69, 70, 71, 72, 73, 74, 75, 76, 77, 78, 79, 80, 81, 82, 83, 84, 85, 86, 87, 88, 89, 90, 91, 92, 93, 94, 95, 96, 97, 98, 13, 99, 19, 100, 101, 102, 103, 104, 105, 106, 107, 108, 109, 110, 111, 112, 113, 114, 115, 116, 117, 118, 119, 120, 121, 122, 123, 124, 125, 126, 127, 128, 129, 130, 131, 132, 133, 134, 135, 136, 137, 138, 139, 140, 141, 142, 143, 144, 145, 146, 147, 148, 149, 150, 151, 152, 153, 154, 155, 156, 157, 158] (by decide +kernel) (by decide +kernel)
set_option maxRecDepth 20000 in
theorem gX4_cheapestHush_X4_isSilentBehind : GoodIn wsX4_cheapestHush (wsV RX4 261 RX4 yX4_isSilentBehind wsX4_isSilentBehind) := goodIn_app (goodIn_of _ (by decide +kernel)) ggX4_cheapestHush_X4_isSilentBehind
theorem dX4_cheapestHush_0 : decode cX4_cheapestHush 0 = .ok (.aload_n 0, 1) := by decide +kernel
theorem dX4_cheapestHush_1 : decode cX4_cheapestHush 1 = .ok (.getfield 26, 3) := by decide +kernel
theorem dX4_cheapestHush_4 : decode cX4_cheapestHush 4 = .ok (.getfield 163, 3) := by decide +kernel
theorem dX4_cheapestHush_7 : decode cX4_cheapestHush 7 = .ok (.istore_n 2, 1) := by decide +kernel
theorem dX4_cheapestHush_8 : decode cX4_cheapestHush 8 = .ok (.iconst 0, 1) := by decide +kernel
theorem dX4_cheapestHush_9 : decode cX4_cheapestHush 9 = .ok (.istore_n 3, 1) := by decide +kernel
theorem dX4_cheapestHush_10 : decode cX4_cheapestHush 10 = .ok (.iload_n 3, 1) := by decide +kernel
theorem dX4_cheapestHush_11 : decode cX4_cheapestHush 11 = .ok (.bipush 64, 2) := by decide +kernel
theorem dX4_cheapestHush_13 : decode cX4_cheapestHush 13 = .ok (.if_icmp .ge 43, 3) := by decide +kernel
theorem dX4_cheapestHush_16 : decode cX4_cheapestHush 16 = .ok (.aload_n 0, 1) := by decide +kernel
theorem dX4_cheapestHush_17 : decode cX4_cheapestHush 17 = .ok (.getfield 26, 3) := by decide +kernel
theorem dX4_cheapestHush_20 : decode cX4_cheapestHush 20 = .ok (.iload_n 3, 1) := by decide +kernel
theorem dX4_cheapestHush_21 : decode cX4_cheapestHush 21 = .ok (.invokevirtual 189, 3) := by decide +kernel
theorem dX4_cheapestHush_24 : decode cX4_cheapestHush 24 = .ok (.ifCond .eq 26, 3) := by decide +kernel
theorem dX4_cheapestHush_27 : decode cX4_cheapestHush 27 = .ok (.aload_n 0, 1) := by decide +kernel
theorem dX4_cheapestHush_28 : decode cX4_cheapestHush 28 = .ok (.getfield 16, 3) := by decide +kernel
theorem dX4_cheapestHush_31 : decode cX4_cheapestHush 31 = .ok (.iload_n 3, 1) := by decide +kernel
theorem dX4_cheapestHush_32 : decode cX4_cheapestHush 32 = .ok (.iload_n 2, 1) := by decide +kernel
theorem dX4_cheapestHush_33 : decode cX4_cheapestHush 33 = .ok (.invokevirtual 257, 3) := by decide +kernel
theorem dX4_cheapestHush_36 : decode cX4_cheapestHush 36 = .ok (.ifCond .eq 14, 3) := by decide +kernel
theorem dX4_cheapestHush_39 : decode cX4_cheapestHush 39 = .ok (.aload_n 0, 1) := by decide +kernel
theorem dX4_cheapestHush_40 : decode cX4_cheapestHush 40 = .ok (.iload_n 3, 1) := by decide +kernel
theorem dX4_cheapestHush_41 : decode cX4_cheapestHush 41 = .ok (.iload_n 1, 1) := by decide +kernel
theorem dX4_cheapestHush_42 : decode cX4_cheapestHush 42 = .ok (.invokevirtual 261, 3) := by decide +kernel
theorem dX4_cheapestHush_45 : decode cX4_cheapestHush 45 = .ok (.ifCond .eq 5, 3) := by decide +kernel
theorem dX4_cheapestHush_48 : decode cX4_cheapestHush 48 = .ok (.iload_n 3, 1) := by decide +kernel
theorem dX4_cheapestHush_49 : decode cX4_cheapestHush 49 = .ok (.istore_n 2, 1) := by decide +kernel
theorem dX4_cheapestHush_50 : decode cX4_cheapestHush 50 = .ok (.iinc 3 1, 3) := by decide +kernel
theorem dX4_cheapestHush_53 : decode cX4_cheapestHush 53 = .ok (.goto (-43), 3) := by decide +kernel
theorem dX4_cheapestHush_56 : decode cX4_cheapestHush 56 = .ok (.iload_n 2, 1) := by decide +kernel
theorem dX4_cheapestHush_57 : decode cX4_cheapestHush 57 = .ok (.ireturn, 1) := by decide +kernel
set_option maxRecDepth 20000 in
theorem ggX4_isSilentBehind_X2_become : GoodIn wsX4_isSilentBehind wsX2_become := goodIn_r _ [8, 9, 10, 11, 12, 13, 14, 15, 16, 17, 18, 19, 20, 116, 117, 118, 119, 120, 121, 122] (by decide +kernel) (by decide +kernel)
set_option maxRecDepth 20000 in
theorem gX4_isSilentBehind_X2_become : GoodIn wsX4_isSilentBehind (wsV RX4 121 RX2 yX2_become wsX2_become) := goodIn_app (goodIn_of _ (by decide +kernel)) ggX4_isSilentBehind_X2_become
set_option maxRecDepth 20000 in
theorem ggX4_isSilentBehind_X2_payFreely : GoodIn wsX4_isSilentBehind wsX2_payFreely := goodIn_r _ [24, 9, 10, 116, 117, 118, 119, 120, 121, 122] (by decide +kernel) (by decide +kernel)
set_option maxRecDepth 20000 in
theorem gX4_isSilentBehind_X2_payFreely : GoodIn wsX4_isSilentBehind (wsV RX4 198 RX2 yX2_payFreely wsX2_payFreely) := goodIn_app (goodIn_of _ (by decide +kernel)) ggX4_isSilentBehind_X2_payFreely
set_option maxRecDepth 20000 in
theorem ggX4_isSilentBehind_X2_playBars : GoodIn wsX4_isSilentBehind wsX2_playBars := goodIn_r _ [28, 29, 30, 31, 7, 32, 14, 33, 34, 35, 36, 9, 11, 37, 38, 39, 40, 41, 42, 43, 44, 45, 46, 47, 48, 15, 16, 17, 18, 49, 50, 51, 52, 53, 54, 55, 56, 19, 20, 57, 58, 59, 60, 61, 62, 63, 64, 65, 66, 67, 68, 69, 70, 71, 72, 73, 74, 75, 76, 77, 78, 79, 80, 81, 82, 83, 84, 85, 86, 87, 10, 88, 89, 90, 91, 92, 12, 93, 94, 95, 96, 97, 98, 99, 100, 101, 116, 117, 118, 119, 120, 121, 122, 123, 124, 125, 126, 127, 128, 129, 130] (by decide +kernel) (by decide +kernel)
set_option maxRecDepth 20000 in
theorem gX4_isSilentBehind_X2_playBars : GoodIn wsX4_isSilentBehind (wsV RX4 159 RX2 yX2_playBars wsX2_playBars) := goodIn_app (goodIn_of _ (by decide +kernel)) ggX4_isSilentBehind_X2_playBars
set_option maxRecDepth 20000 in
theorem ggX4_isSilentBehind_X2_isSilent : GoodIn wsX4_isSilentBehind wsX2_isSilent := goodIn_r _ [36, 9, 11, 37, 116, 117, 118, 119, 120, 121, 122, 123, 124, 125, 126, 127, 128, 129, 130] (by decide +kernel) (by decide +kernel)
set_option maxRecDepth 20000 in
theorem gX4_isSilentBehind_X2_isSilent : GoodIn wsX4_isSilentBehind (wsV RX4 221 RX2 yX2_isSilent wsX2_isSilent) := goodIn_app (goodIn_of _ (by decide +kernel)) ggX4_isSilentBehind_X2_isSilent
theorem dX4_isSilentBehind_0 : decode cX4_isSilentBehind 0 = .ok (.aload_n 0, 1) := by decide +kernel
theorem dX4_isSilentBehind_1 : decode cX4_isSilentBehind 1 = .ok (.getfield 33, 3) := by decide +kernel
theorem dX4_isSilentBehind_4 : decode cX4_isSilentBehind 4 = .ok (.aload_n 0, 1) := by decide +kernel
theorem dX4_isSilentBehind_5 : decode cX4_isSilentBehind 5 = .ok (.getfield 26, 3) := by decide +kernel
theorem dX4_isSilentBehind_8 : decode cX4_isSilentBehind 8 = .ok (.invokevirtual 121, 3) := by decide +kernel
theorem dX4_isSilentBehind_11 : decode cX4_isSilentBehind 11 = .ok (.aload_n 0, 1) := by decide +kernel
theorem dX4_isSilentBehind_12 : decode cX4_isSilentBehind 12 = .ok (.getfield 33, 3) := by decide +kernel
theorem dX4_isSilentBehind_15 : decode cX4_isSilentBehind 15 = .ok (.iload_n 1, 1) := by decide +kernel
theorem dX4_isSilentBehind_16 : decode cX4_isSilentBehind 16 = .ok (.invokevirtual 198, 3) := by decide +kernel
theorem dX4_isSilentBehind_19 : decode cX4_isSilentBehind 19 = .ok (.aload_n 0, 1) := by decide +kernel
theorem dX4_isSilentBehind_20 : decode cX4_isSilentBehind 20 = .ok (.getfield 33, 3) := by decide +kernel
theorem dX4_isSilentBehind_23 : decode cX4_isSilentBehind 23 = .ok (.aload_n 0, 1) := by decide +kernel
theorem dX4_isSilentBehind_24 : decode cX4_isSilentBehind 24 = .ok (.getfield 16, 3) := by decide +kernel
theorem dX4_isSilentBehind_27 : decode cX4_isSilentBehind 27 = .ok (.iload_n 2, 1) := by decide +kernel
theorem dX4_isSilentBehind_28 : decode cX4_isSilentBehind 28 = .ok (.invokevirtual 159, 3) := by decide +kernel
theorem dX4_isSilentBehind_31 : decode cX4_isSilentBehind 31 = .ok (.aload_n 0, 1) := by decide +kernel
theorem dX4_isSilentBehind_32 : decode cX4_isSilentBehind 32 = .ok (.getfield 33, 3) := by decide +kernel
theorem dX4_isSilentBehind_35 : decode cX4_isSilentBehind 35 = .ok (.aload_n 0, 1) := by decide +kernel
theorem dX4_isSilentBehind_36 : decode cX4_isSilentBehind 36 = .ok (.getfield 16, 3) := by decide +kernel
theorem dX4_isSilentBehind_39 : decode cX4_isSilentBehind 39 = .ok (.invokevirtual 221, 3) := by decide +kernel
theorem dX4_isSilentBehind_42 : decode cX4_isSilentBehind 42 = .ok (.ireturn, 1) := by decide +kernel
set_option maxRecDepth 20000 in
theorem ggX4_explainsHeard_X2_become : GoodIn wsX4_explainsHeard wsX2_become := goodIn_r _ [9, 10, 11, 12, 13, 14, 15, 16, 17, 18, 19, 20, 21, 127, 128, 129, 130, 131, 132, 133] (by decide +kernel) (by decide +kernel)
set_option maxRecDepth 20000 in
theorem gX4_explainsHeard_X2_become : GoodIn wsX4_explainsHeard (wsV RX4 121 RX2 yX2_become wsX2_become) := goodIn_app (goodIn_of _ (by decide +kernel)) ggX4_explainsHeard_X2_become
set_option maxRecDepth 20000 in
theorem ggX4_explainsHeard_X2_payFreely : GoodIn wsX4_explainsHeard wsX2_payFreely := goodIn_r _ [25, 10, 11, 127, 128, 129, 130, 131, 132, 133] (by decide +kernel) (by decide +kernel)
set_option maxRecDepth 20000 in
theorem gX4_explainsHeard_X2_payFreely : GoodIn wsX4_explainsHeard (wsV RX4 198 RX2 yX2_payFreely wsX2_payFreely) := goodIn_app (goodIn_of _ (by decide +kernel)) ggX4_explainsHeard_X2_payFreely
set_option maxRecDepth 20000 in
theorem ggX4_explainsHeard_X1_agrees : GoodIn wsX4_explainsHeard wsX1_agrees := goodIn_r _ [30, 31, 32, 33, 34, 17, 18, 19, 35, 36, 37, 38, 39, 40, 41, 42, 43, 8, 44, 10, 134, 135, 136, 137, 138, 139, 140, 141, 142, 143, 144, 145, 127, 128, 129, 130, 131, 132, 133] (by decide +kernel) (by decide +kernel)
set_option maxRecDepth 20000 in
theorem gX4_explainsHeard_X1_agrees : GoodIn wsX4_explainsHeard (wsV RX4 264 RX1 yX1_agrees wsX1_agrees) := goodIn_app (goodIn_of _ (by decide +kernel)) ggX4_explainsHeard_X1_agrees
set_option maxRecDepth 20000 in
theorem ggX4_explainsHeard_X2_playBars : GoodIn wsX4_explainsHeard wsX2_playBars := goodIn_r _ [48, 49, 50, 51, 8, 52, 15, 53, 54, 55, 56, 10, 12, 57, 58, 59, 60, 61, 62, 63, 64, 65, 66, 67, 68, 16, 17, 18, 19, 69, 42, 43, 44, 70, 71, 72, 73, 20, 21, 74, 75, 76, 77, 78, 79, 80, 81, 82, 83, 36, 37, 38, 39, 40, 84, 85, 86, 87, 88, 89, 90, 91, 92, 93, 94, 95, 96, 97, 98, 99, 11, 100, 101, 102, 103, 104, 13, 105, 106, 107, 108, 109, 110, 111, 112, 113, 127, 128, 129, 130, 131, 132, 133, 138, 139, 140, 141, 142, 143, 144, 145] (by decide +kernel) (by decide +kernel)
set_option maxRecDepth 20000 in
theorem gX4_explainsHeard_X2_playBars : GoodIn wsX4_explainsHeard (wsV RX4 159 RX2 yX2_playBars wsX2_playBars) := goodIn_app (goodIn_of _ (by decide +kernel)) ggX4_explainsHeard_X2_playBars
theorem dX4_explainsHeard_0 : decode cX4_explainsHeard 0 = .ok (.aload_n 0, 1) := by decide +kernel
theorem dX4_explainsHeard_1 : decode cX4_explainsHeard 1 = .ok (.getfield 33, 3) := by decide +kernel
theorem dX4_explainsHeard_4 : decode cX4_explainsHeard 4 = .ok (.aload_n 0, 1) := by decide +kernel
theorem dX4_explainsHeard_5 : decode cX4_explainsHeard 5 = .ok (.getfield 26, 3) := by decide +kernel
theorem dX4_explainsHeard_8 : decode cX4_explainsHeard 8 = .ok (.invokevirtual 121, 3) := by decide +kernel
theorem dX4_explainsHeard_11 : decode cX4_explainsHeard 11 = .ok (.aload_n 0, 1) := by decide +kernel
theorem dX4_explainsHeard_12 : decode cX4_explainsHeard 12 = .ok (.getfield 33, 3) := by decide +kernel
theorem dX4_explainsHeard_15 : decode cX4_explainsHeard 15 = .ok (.iload_n 1, 1) := by decide +kernel
theorem dX4_explainsHeard_16 : decode cX4_explainsHeard 16 = .ok (.invokevirtual 198, 3) := by decide +kernel
theorem dX4_explainsHeard_19 : decode cX4_explainsHeard 19 = .ok (.iconst 0, 1) := by decide +kernel
theorem dX4_explainsHeard_20 : decode cX4_explainsHeard 20 = .ok (.istore_n 2, 1) := by decide +kernel
theorem dX4_explainsHeard_21 : decode cX4_explainsHeard 21 = .ok (.iload_n 2, 1) := by decide +kernel
theorem dX4_explainsHeard_22 : decode cX4_explainsHeard 22 = .ok (.bipush 9, 2) := by decide +kernel
theorem dX4_explainsHeard_24 : decode cX4_explainsHeard 24 = .ok (.if_icmp .gt 42, 3) := by decide +kernel
theorem dX4_explainsHeard_27 : decode cX4_explainsHeard 27 = .ok (.aload_n 0, 1) := by decide +kernel
theorem dX4_explainsHeard_28 : decode cX4_explainsHeard 28 = .ok (.getfield 50, 3) := by decide +kernel
theorem dX4_explainsHeard_31 : decode cX4_explainsHeard 31 = .ok (.aload_n 0, 1) := by decide +kernel
theorem dX4_explainsHeard_32 : decode cX4_explainsHeard 32 = .ok (.getfield 16, 3) := by decide +kernel
theorem dX4_explainsHeard_35 : decode cX4_explainsHeard 35 = .ok (.aload_n 0, 1) := by decide +kernel
theorem dX4_explainsHeard_36 : decode cX4_explainsHeard 36 = .ok (.getfield 33, 3) := by decide +kernel
theorem dX4_explainsHeard_39 : decode cX4_explainsHeard 39 = .ok (.iload_n 2, 1) := by decide +kernel
theorem dX4_explainsHeard_40 : decode cX4_explainsHeard 40 = .ok (.invokevirtual 264, 3) := by decide +kernel
theorem dX4_explainsHeard_43 : decode cX4_explainsHeard 43 = .ok (.ifCond .ne 5, 3) := by decide +kernel
theorem dX4_explainsHeard_46 : decode cX4_explainsHeard 46 = .ok (.iconst 0, 1) := by decide +kernel
theorem dX4_explainsHeard_47 : decode cX4_explainsHeard 47 = .ok (.ireturn, 1) := by decide +kernel
theorem dX4_explainsHeard_48 : decode cX4_explainsHeard 48 = .ok (.aload_n 0, 1) := by decide +kernel
theorem dX4_explainsHeard_49 : decode cX4_explainsHeard 49 = .ok (.getfield 33, 3) := by decide +kernel
theorem dX4_explainsHeard_52 : decode cX4_explainsHeard 52 = .ok (.aload_n 0, 1) := by decide +kernel
theorem dX4_explainsHeard_53 : decode cX4_explainsHeard 53 = .ok (.getfield 16, 3) := by decide +kernel
theorem dX4_explainsHeard_56 : decode cX4_explainsHeard 56 = .ok (.iconst 1, 1) := by decide +kernel
theorem dX4_explainsHeard_57 : decode cX4_explainsHeard 57 = .ok (.invokevirtual 159, 3) := by decide +kernel
theorem dX4_explainsHeard_60 : decode cX4_explainsHeard 60 = .ok (.iinc 2 1, 3) := by decide +kernel
theorem dX4_explainsHeard_63 : decode cX4_explainsHeard 63 = .ok (.goto (-42), 3) := by decide +kernel
theorem dX4_explainsHeard_66 : decode cX4_explainsHeard 66 = .ok (.iconst 1, 1) := by decide +kernel
theorem dX4_explainsHeard_67 : decode cX4_explainsHeard 67 = .ok (.ireturn, 1) := by decide +kernel
set_option maxRecDepth 20000 in
theorem ggX4_isBestAnswer_X4_streetHas : GoodIn wsX4_isBestAnswer wsX4_streetHas := goodIn_r _ [4] (by decide +kernel) (by decide +kernel)
set_option maxRecDepth 20000 in
theorem gX4_isBestAnswer_X4_streetHas : GoodIn wsX4_isBestAnswer (va_wsS RX4 268 yX4_streetHas wsX4_streetHas) := goodIn_app (goodIn_of _ (by decide +kernel)) ggX4_isBestAnswer_X4_streetHas
theorem dX4_isBestAnswer_0 : decode cX4_isBestAnswer 0 = .ok (.iload_n 0, 1) := by decide +kernel
theorem dX4_isBestAnswer_1 : decode cX4_isBestAnswer 1 = .ok (.iload_n 1, 1) := by decide +kernel
theorem dX4_isBestAnswer_2 : decode cX4_isBestAnswer 2 = .ok (.iload_n 2, 1) := by decide +kernel
theorem dX4_isBestAnswer_3 : decode cX4_isBestAnswer 3 = .ok (.invokestatic 268, 3) := by decide +kernel
theorem dX4_isBestAnswer_6 : decode cX4_isBestAnswer 6 = .ok (.istore_n 3, 1) := by decide +kernel
theorem dX4_isBestAnswer_7 : decode cX4_isBestAnswer 7 = .ok (.iconst 0, 1) := by decide +kernel
theorem dX4_isBestAnswer_8 : decode cX4_isBestAnswer 8 = .ok (.istore 4, 2) := by decide +kernel
theorem dX4_isBestAnswer_10 : decode cX4_isBestAnswer 10 = .ok (.iload 4, 2) := by decide +kernel
theorem dX4_isBestAnswer_12 : decode cX4_isBestAnswer 12 = .ok (.iconst 3, 1) := by decide +kernel
theorem dX4_isBestAnswer_13 : decode cX4_isBestAnswer 13 = .ok (.if_icmp .ge 22, 3) := by decide +kernel
theorem dX4_isBestAnswer_16 : decode cX4_isBestAnswer 16 = .ok (.iload 4, 2) := by decide +kernel
theorem dX4_isBestAnswer_18 : decode cX4_isBestAnswer 18 = .ok (.iload_n 1, 1) := by decide +kernel
theorem dX4_isBestAnswer_19 : decode cX4_isBestAnswer 19 = .ok (.iload_n 2, 1) := by decide +kernel
theorem dX4_isBestAnswer_20 : decode cX4_isBestAnswer 20 = .ok (.invokestatic 268, 3) := by decide +kernel
theorem dX4_isBestAnswer_23 : decode cX4_isBestAnswer 23 = .ok (.iload_n 3, 1) := by decide +kernel
theorem dX4_isBestAnswer_24 : decode cX4_isBestAnswer 24 = .ok (.if_icmp .le 5, 3) := by decide +kernel
theorem dX4_isBestAnswer_27 : decode cX4_isBestAnswer 27 = .ok (.iconst 0, 1) := by decide +kernel
theorem dX4_isBestAnswer_28 : decode cX4_isBestAnswer 28 = .ok (.ireturn, 1) := by decide +kernel
theorem dX4_isBestAnswer_29 : decode cX4_isBestAnswer 29 = .ok (.iinc 4 1, 3) := by decide +kernel
theorem dX4_isBestAnswer_32 : decode cX4_isBestAnswer 32 = .ok (.goto (-22), 3) := by decide +kernel
theorem dX4_isBestAnswer_35 : decode cX4_isBestAnswer 35 = .ok (.iconst 1, 1) := by decide +kernel
theorem dX4_isBestAnswer_36 : decode cX4_isBestAnswer 36 = .ok (.ireturn, 1) := by decide +kernel
theorem dX4_streetHas_0 : decode cX4_streetHas 0 = .ok (.iconst 3, 1) := by decide +kernel
theorem dX4_streetHas_1 : decode cX4_streetHas 1 = .ok (.iload_n 0, 1) := by decide +kernel
theorem dX4_streetHas_2 : decode cX4_streetHas 2 = .ok (.iload_n 1, 1) := by decide +kernel
theorem dX4_streetHas_3 : decode cX4_streetHas 3 = .ok (.iadd, 1) := by decide +kernel
theorem dX4_streetHas_4 : decode cX4_streetHas 4 = .ok (.imul, 1) := by decide +kernel
theorem dX4_streetHas_5 : decode cX4_streetHas 5 = .ok (.iload_n 2, 1) := by decide +kernel
theorem dX4_streetHas_6 : decode cX4_streetHas 6 = .ok (.if_icmp .lt 7, 3) := by decide +kernel
theorem dX4_streetHas_9 : decode cX4_streetHas 9 = .ok (.iconst 1, 1) := by decide +kernel
theorem dX4_streetHas_10 : decode cX4_streetHas 10 = .ok (.goto 4, 3) := by decide +kernel
theorem dX4_streetHas_13 : decode cX4_streetHas 13 = .ok (.iconst 0, 1) := by decide +kernel
theorem dX4_streetHas_14 : decode cX4_streetHas 14 = .ok (.istore_n 3, 1) := by decide +kernel
theorem dX4_streetHas_15 : decode cX4_streetHas 15 = .ok (.iload_n 3, 1) := by decide +kernel
theorem dX4_streetHas_16 : decode cX4_streetHas 16 = .ok (.ifCond .eq 8, 3) := by decide +kernel
theorem dX4_streetHas_19 : decode cX4_streetHas 19 = .ok (.bipush 8, 2) := by decide +kernel
theorem dX4_streetHas_21 : decode cX4_streetHas 21 = .ok (.goto 4, 3) := by decide +kernel
theorem dX4_streetHas_24 : decode cX4_streetHas 24 = .ok (.iconst 0, 1) := by decide +kernel
theorem dX4_streetHas_25 : decode cX4_streetHas 25 = .ok (.iconst 3, 1) := by decide +kernel
theorem dX4_streetHas_26 : decode cX4_streetHas 26 = .ok (.iload_n 0, 1) := by decide +kernel
theorem dX4_streetHas_27 : decode cX4_streetHas 27 = .ok (.imul, 1) := by decide +kernel
theorem dX4_streetHas_28 : decode cX4_streetHas 28 = .ok (.isub, 1) := by decide +kernel
theorem dX4_streetHas_29 : decode cX4_streetHas 29 = .ok (.ireturn, 1) := by decide +kernel
theorem dX4_power_0 : decode cX4_power 0 = .ok (.iconst 1, 1) := by decide +kernel
theorem dX4_power_1 : decode cX4_power 1 = .ok (.istore_n 2, 1) := by decide +kernel
theorem dX4_power_2 : decode cX4_power 2 = .ok (.iconst 0, 1) := by decide +kernel
theorem dX4_power_3 : decode cX4_power 3 = .ok (.istore_n 3, 1) := by decide +kernel
theorem dX4_power_4 : decode cX4_power 4 = .ok (.iload_n 3, 1) := by decide +kernel
theorem dX4_power_5 : decode cX4_power 5 = .ok (.iload_n 1, 1) := by decide +kernel
theorem dX4_power_6 : decode cX4_power 6 = .ok (.if_icmp .ge 13, 3) := by decide +kernel
theorem dX4_power_9 : decode cX4_power 9 = .ok (.iload_n 2, 1) := by decide +kernel
theorem dX4_power_10 : decode cX4_power 10 = .ok (.iload_n 0, 1) := by decide +kernel
theorem dX4_power_11 : decode cX4_power 11 = .ok (.imul, 1) := by decide +kernel
theorem dX4_power_12 : decode cX4_power 12 = .ok (.istore_n 2, 1) := by decide +kernel
theorem dX4_power_13 : decode cX4_power 13 = .ok (.iinc 3 1, 3) := by decide +kernel
theorem dX4_power_16 : decode cX4_power 16 = .ok (.goto (-12), 3) := by decide +kernel
theorem dX4_power_19 : decode cX4_power 19 = .ok (.iload_n 2, 1) := by decide +kernel
theorem dX4_power_20 : decode cX4_power 20 = .ok (.ireturn, 1) := by decide +kernel
theorem dX4_fraction_0 : decode cX4_fraction 0 = .ok (.iload_n 0, 1) := by decide +kernel
theorem dX4_fraction_1 : decode cX4_fraction 1 = .ok (.invokestatic 272, 3) := by decide +kernel
theorem dX4_fraction_4 : decode cX4_fraction 4 = .ok (.istore_n 3, 1) := by decide +kernel
theorem dX4_fraction_5 : decode cX4_fraction 5 = .ok (.iload_n 1, 1) := by decide +kernel
theorem dX4_fraction_6 : decode cX4_fraction 6 = .ok (.istore 4, 2) := by decide +kernel
theorem dX4_fraction_8 : decode cX4_fraction 8 = .ok (.iconst 0, 1) := by decide +kernel
theorem dX4_fraction_9 : decode cX4_fraction 9 = .ok (.istore 5, 2) := by decide +kernel
theorem dX4_fraction_11 : decode cX4_fraction 11 = .ok (.iload 5, 2) := by decide +kernel
theorem dX4_fraction_13 : decode cX4_fraction 13 = .ok (.bipush 64, 2) := by decide +kernel
theorem dX4_fraction_15 : decode cX4_fraction 15 = .ok (.if_icmp .ge 27, 3) := by decide +kernel
theorem dX4_fraction_18 : decode cX4_fraction 18 = .ok (.iload 4, 2) := by decide +kernel
theorem dX4_fraction_20 : decode cX4_fraction 20 = .ok (.ifCond .le 22, 3) := by decide +kernel
theorem dX4_fraction_23 : decode cX4_fraction 23 = .ok (.iload_n 3, 1) := by decide +kernel
theorem dX4_fraction_24 : decode cX4_fraction 24 = .ok (.iload 4, 2) := by decide +kernel
theorem dX4_fraction_26 : decode cX4_fraction 26 = .ok (.irem, 1) := by decide +kernel
theorem dX4_fraction_27 : decode cX4_fraction 27 = .ok (.istore 6, 2) := by decide +kernel
theorem dX4_fraction_29 : decode cX4_fraction 29 = .ok (.iload 4, 2) := by decide +kernel
theorem dX4_fraction_31 : decode cX4_fraction 31 = .ok (.istore_n 3, 1) := by decide +kernel
theorem dX4_fraction_32 : decode cX4_fraction 32 = .ok (.iload 6, 2) := by decide +kernel
theorem dX4_fraction_34 : decode cX4_fraction 34 = .ok (.istore 4, 2) := by decide +kernel
theorem dX4_fraction_36 : decode cX4_fraction 36 = .ok (.iinc 5 1, 3) := by decide +kernel
theorem dX4_fraction_39 : decode cX4_fraction 39 = .ok (.goto (-28), 3) := by decide +kernel
theorem dX4_fraction_42 : decode cX4_fraction 42 = .ok (.iload_n 3, 1) := by decide +kernel
theorem dX4_fraction_43 : decode cX4_fraction 43 = .ok (.iconst 1, 1) := by decide +kernel
theorem dX4_fraction_44 : decode cX4_fraction 44 = .ok (.if_icmp .ge 6, 3) := by decide +kernel
theorem dX4_fraction_47 : decode cX4_fraction 47 = .ok (.bipush (-2), 2) := by decide +kernel
theorem dX4_fraction_49 : decode cX4_fraction 49 = .ok (.ireturn, 1) := by decide +kernel
theorem dX4_fraction_50 : decode cX4_fraction 50 = .ok (.iload_n 2, 1) := by decide +kernel
theorem dX4_fraction_51 : decode cX4_fraction 51 = .ok (.ifCond .eq 9, 3) := by decide +kernel
theorem dX4_fraction_54 : decode cX4_fraction 54 = .ok (.iload_n 0, 1) := by decide +kernel
theorem dX4_fraction_55 : decode cX4_fraction 55 = .ok (.iload_n 3, 1) := by decide +kernel
theorem dX4_fraction_56 : decode cX4_fraction 56 = .ok (.idiv, 1) := by decide +kernel
theorem dX4_fraction_57 : decode cX4_fraction 57 = .ok (.goto 6, 3) := by decide +kernel
theorem dX4_fraction_60 : decode cX4_fraction 60 = .ok (.iload_n 1, 1) := by decide +kernel
theorem dX4_fraction_61 : decode cX4_fraction 61 = .ok (.iload_n 3, 1) := by decide +kernel
theorem dX4_fraction_62 : decode cX4_fraction 62 = .ok (.idiv, 1) := by decide +kernel
theorem dX4_fraction_63 : decode cX4_fraction 63 = .ok (.ireturn, 1) := by decide +kernel
theorem dX4_at_0 : decode cX4_at 0 = .ok (.iload_n 1, 1) := by decide +kernel
theorem dX4_at_1 : decode cX4_at 1 = .ok (.ifCond .lt 15, 3) := by decide +kernel
theorem dX4_at_4 : decode cX4_at 4 = .ok (.iload_n 1, 1) := by decide +kernel
theorem dX4_at_5 : decode cX4_at 5 = .ok (.aload_n 0, 1) := by decide +kernel
theorem dX4_at_6 : decode cX4_at 6 = .ok (.arraylength, 1) := by decide +kernel
theorem dX4_at_7 : decode cX4_at 7 = .ok (.if_icmp .ge 9, 3) := by decide +kernel
theorem dX4_at_10 : decode cX4_at 10 = .ok (.aload_n 0, 1) := by decide +kernel
theorem dX4_at_11 : decode cX4_at 11 = .ok (.iload_n 1, 1) := by decide +kernel
theorem dX4_at_12 : decode cX4_at 12 = .ok (.iaload, 1) := by decide +kernel
theorem dX4_at_13 : decode cX4_at 13 = .ok (.goto 4, 3) := by decide +kernel
theorem dX4_at_16 : decode cX4_at 16 = .ok (.iconst 0, 1) := by decide +kernel
theorem dX4_at_17 : decode cX4_at 17 = .ok (.ireturn, 1) := by decide +kernel
theorem dX4_put_0 : decode cX4_put 0 = .ok (.iload_n 1, 1) := by decide +kernel
theorem dX4_put_1 : decode cX4_put 1 = .ok (.ifCond .lt 13, 3) := by decide +kernel
theorem dX4_put_4 : decode cX4_put 4 = .ok (.iload_n 1, 1) := by decide +kernel
theorem dX4_put_5 : decode cX4_put 5 = .ok (.aload_n 0, 1) := by decide +kernel
theorem dX4_put_6 : decode cX4_put 6 = .ok (.arraylength, 1) := by decide +kernel
theorem dX4_put_7 : decode cX4_put 7 = .ok (.if_icmp .ge 7, 3) := by decide +kernel
theorem dX4_put_10 : decode cX4_put 10 = .ok (.aload_n 0, 1) := by decide +kernel
theorem dX4_put_11 : decode cX4_put 11 = .ok (.iload_n 1, 1) := by decide +kernel
theorem dX4_put_12 : decode cX4_put 12 = .ok (.iload_n 2, 1) := by decide +kernel
theorem dX4_put_13 : decode cX4_put 13 = .ok (.iastore, 1) := by decide +kernel
theorem dX4_put_14 : decode cX4_put 14 = .ok (.return_, 1) := by decide +kernel
theorem dX4_momentAt_0 : decode cX4_momentAt 0 = .ok (.iload_n 1, 1) := by decide +kernel
theorem dX4_momentAt_1 : decode cX4_momentAt 1 = .ok (.ifCond .lt 15, 3) := by decide +kernel
theorem dX4_momentAt_4 : decode cX4_momentAt 4 = .ok (.iload_n 1, 1) := by decide +kernel
theorem dX4_momentAt_5 : decode cX4_momentAt 5 = .ok (.aload_n 0, 1) := by decide +kernel
theorem dX4_momentAt_6 : decode cX4_momentAt 6 = .ok (.arraylength, 1) := by decide +kernel
theorem dX4_momentAt_7 : decode cX4_momentAt 7 = .ok (.if_icmp .ge 9, 3) := by decide +kernel
theorem dX4_momentAt_10 : decode cX4_momentAt 10 = .ok (.aload_n 0, 1) := by decide +kernel
theorem dX4_momentAt_11 : decode cX4_momentAt 11 = .ok (.iload_n 1, 1) := by decide +kernel
theorem dX4_momentAt_12 : decode cX4_momentAt 12 = .ok (.aaload, 1) := by decide +kernel
theorem dX4_momentAt_13 : decode cX4_momentAt 13 = .ok (.goto 4, 3) := by decide +kernel
theorem dX4_momentAt_16 : decode cX4_momentAt 16 = .ok (.aconst_null, 1) := by decide +kernel
theorem dX4_momentAt_17 : decode cX4_momentAt 17 = .ok (.areturn, 1) := by decide +kernel
