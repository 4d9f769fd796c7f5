theorem dX5_tryThing_171 : decode cX5_tryThing 171 = .ok (.invokevirtual 116, 3) := by decide +kernel
theorem dX5_tryThing_174 : decode cX5_tryThing 174 = .ok (.ifCond .eq 7, 3) := by decide +kernel
theorem dX5_tryThing_177 : decode cX5_tryThing 177 = .ok (.iconst 1, 1) := by decide +kernel
theorem dX5_tryThing_178 : decode cX5_tryThing 178 = .ok (.goto 4, 3) := by decide +kernel
theorem dX5_tryThing_181 : decode cX5_tryThing 181 = .ok (.iconst 0, 1) := by decide +kernel
theorem dX5_tryThing_182 : decode cX5_tryThing 182 = .ok (.ireturn, 1) := by decide +kernel
theorem dX5_tryThing_183 : decode cX5_tryThing 183 = .ok (.aload_n 0, 1) := by decide +kernel
theorem dX5_tryThing_184 : decode cX5_tryThing 184 = .ok (.getfield 28, 3) := by decide +kernel
theorem dX5_tryThing_187 : decode cX5_tryThing 187 = .ok (.bipush 30, 2) := by decide +kernel
theorem dX5_tryThing_189 : decode cX5_tryThing 189 = .ok (.iaload, 1) := by decide +kernel
theorem dX5_tryThing_190 : decode cX5_tryThing 190 = .ok (.bipush 10, 2) := by decide +kernel
theorem dX5_tryThing_192 : decode cX5_tryThing 192 = .ok (.iload_n 2, 1) := by decide +kernel
theorem dX5_tryThing_193 : decode cX5_tryThing 193 = .ok (.imul, 1) := by decide +kernel
theorem dX5_tryThing_194 : decode cX5_tryThing 194 = .ok (.iload_n 3, 1) := by decide +kernel
theorem dX5_tryThing_195 : decode cX5_tryThing 195 = .ok (.iadd, 1) := by decide +kernel
theorem dX5_tryThing_196 : decode cX5_tryThing 196 = .ok (.if_icmp .lt 7, 3) := by decide +kernel
theorem dX5_tryThing_199 : decode cX5_tryThing 199 = .ok (.iconst 1, 1) := by decide +kernel
theorem dX5_tryThing_200 : decode cX5_tryThing 200 = .ok (.goto 4, 3) := by decide +kernel
theorem dX5_tryThing_203 : decode cX5_tryThing 203 = .ok (.iconst 0, 1) := by decide +kernel
theorem dX5_tryThing_204 : decode cX5_tryThing 204 = .ok (.ireturn, 1) := by decide +kernel
theorem dX5_tryThing_205 : decode cX5_tryThing 205 = .ok (.iconst 0, 1) := by decide +kernel
theorem dX5_tryThing_206 : decode cX5_tryThing 206 = .ok (.ireturn, 1) := by decide +kernel
theorem dX5_thousandTo_0 : decode cX5_thousandTo 0 = .ok (.lconst 1, 1) := by decide +kernel
theorem dX5_thousandTo_1 : decode cX5_thousandTo 1 = .ok (.lstore_n 1, 1) := by decide +kernel
theorem dX5_thousandTo_2 : decode cX5_thousandTo 2 = .ok (.iconst 0, 1) := by decide +kernel
theorem dX5_thousandTo_3 : decode cX5_thousandTo 3 = .ok (.istore_n 3, 1) := by decide +kernel
theorem dX5_thousandTo_4 : decode cX5_thousandTo 4 = .ok (.iload_n 3, 1) := by decide +kernel
theorem dX5_thousandTo_5 : decode cX5_thousandTo 5 = .ok (.iload_n 0, 1) := by decide +kernel
theorem dX5_thousandTo_6 : decode cX5_thousandTo 6 = .ok (.if_icmp .ge 15, 3) := by decide +kernel
theorem dX5_thousandTo_9 : decode cX5_thousandTo 9 = .ok (.lload_n 1, 1) := by decide +kernel
theorem dX5_thousandTo_10 : decode cX5_thousandTo 10 = .ok (.ldc2_w 187, 3) := by decide +kernel
theorem dX5_thousandTo_13 : decode cX5_thousandTo 13 = .ok (.lmul, 1) := by decide +kernel
theorem dX5_thousandTo_14 : decode cX5_thousandTo 14 = .ok (.lstore_n 1, 1) := by decide +kernel
theorem dX5_thousandTo_15 : decode cX5_thousandTo 15 = .ok (.iinc 3 1, 3) := by decide +kernel
theorem dX5_thousandTo_18 : decode cX5_thousandTo 18 = .ok (.goto (-14), 3) := by decide +kernel
theorem dX5_thousandTo_21 : decode cX5_thousandTo 21 = .ok (.lload_n 1, 1) := by decide +kernel
theorem dX5_thousandTo_22 : decode cX5_thousandTo 22 = .ok (.lreturn, 1) := by decide +kernel
set_option maxRecDepth 20000 in
theorem ggX5_judge_X5_in : GoodIn wsX5_judge wsX5_in := goodIn_r _ [6] (by decide +kernel) (by decide +kernel)
set_option maxRecDepth 20000 in
theorem gX5_judge_X5_in : GoodIn wsX5_judge (va_wsS RX5 61 yX5_in wsX5_in) := goodIn_app (goodIn_of _ (by decide +kernel)) ggX5_judge_X5_in
set_option maxRecDepth 20000 in
theorem ggX5_judge_X5_thousandTo : GoodIn wsX5_judge wsX5_thousandTo := goodIn_r _ [9, 2] (by decide +kernel) (by decide +kernel)
set_option maxRecDepth 20000 in
theorem gX5_judge_X5_thousandTo : GoodIn wsX5_judge (va_wsS RX5 191 yX5_thousandTo wsX5_thousandTo) := goodIn_app (goodIn_of _ (by decide +kernel)) ggX5_judge_X5_thousandTo
set_option maxRecDepth 20000 in
theorem ggX5_judge_X5_layTrial : GoodIn wsX5_judge wsX5_layTrial := goodIn_r _ [13, 14, 85, 86, 87, 88, 89, 90, 91, 92, 93, 94, 95, 96, 97, 98, 99, 100, 101, 102, 103, 104, 105, 106, 107, 108, 109, 110, 111, 112, 113] (by decide +kernel) (by decide +kernel)
set_option maxRecDepth 20000 in
theorem gX5_judge_X5_layTrial : GoodIn wsX5_judge (wsV RX5 164 RX5 yX5_layTrial wsX5_layTrial) := goodIn_app (goodIn_of _ (by decide +kernel)) ggX5_judge_X5_layTrial
set_option maxRecDepth 20000 in
theorem ggX5_judge_X5_tryThing : GoodIn wsX5_judge wsX5_tryThing := goodIn_r _ [18, 14, 19, 20, 21, 5, 22, 23, 24, 25, 26, 27, 28, 29, 30, 31, 32, 33, 34, 35, 36, 37, 38, 39, 40, 41, 42, 43, 44, 45, 46, 47, 48, 49, 50, 51, 52, 53, 54, 55, 3, 4, 6, 56, 57, 58, 59, 60, 61, 62, 63, 64, 65, 66, 67, 68, 69, 70, 71, 72, 73, 74, 75, 76, 77, 78, 79, 80, 81, 82, 83, 84, 85, 86, 87, 88, 89, 90, 91, 92, 93, 94, 95, 96, 97, 98, 99, 100, 101, 102, 103, 104, 105, 106, 107, 108, 109, 110, 111, 112, 113] (by decide +kernel) (by decide +kernel)
set_option maxRecDepth 20000 in
theorem gX5_judge_X5_tryThing : GoodIn wsX5_judge (wsV RX5 195 RX5 yX5_tryThing wsX5_tryThing) := goodIn_app (goodIn_of _ (by decide +kernel)) ggX5_judge_X5_tryThing
theorem dX5_judge_0 : decode cX5_judge 0 = .ok (.iload_n 1, 1) := by decide +kernel
theorem dX5_judge_1 : decode cX5_judge 1 = .ok (.i2l, 1) := by decide +kernel
theorem dX5_judge_2 : decode cX5_judge 2 = .ok (.lconst 1, 1) := by decide +kernel
theorem dX5_judge_3 : decode cX5_judge 3 = .ok (.ldc2_w 189, 3) := by decide +kernel
theorem dX5_judge_6 : decode cX5_judge 6 = .ok (.invokestatic 61, 3) := by decide +kernel
theorem dX5_judge_9 : decode cX5_judge 9 = .ok (.ifCond .eq 17, 3) := by decide +kernel
theorem dX5_judge_12 : decode cX5_judge 12 = .ok (.lload_n 2, 1) := by decide +kernel
theorem dX5_judge_13 : decode cX5_judge 13 = .ok (.lconst 0, 1) := by decide +kernel
theorem dX5_judge_14 : decode cX5_judge 14 = .ok (.iload_n 1, 1) := by decide +kernel
theorem dX5_judge_15 : decode cX5_judge 15 = .ok (.invokestatic 191, 3) := by decide +kernel
theorem dX5_judge_18 : decode cX5_judge 18 = .ok (.lconst 1, 1) := by decide +kernel
theorem dX5_judge_19 : decode cX5_judge 19 = .ok (.lsub, 1) := by decide +kernel
theorem dX5_judge_20 : decode cX5_judge 20 = .ok (.invokestatic 61, 3) := by decide +kernel
theorem dX5_judge_23 : decode cX5_judge 23 = .ok (.ifCond .ne 6, 3) := by decide +kernel
theorem dX5_judge_26 : decode cX5_judge 26 = .ok (.bipush (-2), 2) := by decide +kernel
theorem dX5_judge_28 : decode cX5_judge 28 = .ok (.ireturn, 1) := by decide +kernel
theorem dX5_judge_29 : decode cX5_judge 29 = .ok (.aload_n 0, 1) := by decide +kernel
theorem dX5_judge_30 : decode cX5_judge 30 = .ok (.invokevirtual 164, 3) := by decide +kernel
theorem dX5_judge_33 : decode cX5_judge 33 = .ok (.iconst 0, 1) := by decide +kernel
theorem dX5_judge_34 : decode cX5_judge 34 = .ok (.istore 4, 2) := by decide +kernel
theorem dX5_judge_36 : decode cX5_judge 36 = .ok (.iload 4, 2) := by decide +kernel
theorem dX5_judge_38 : decode cX5_judge 38 = .ok (.iload_n 1, 1) := by decide +kernel
theorem dX5_judge_39 : decode cX5_judge 39 = .ok (.if_icmp .ge 55, 3) := by decide +kernel
theorem dX5_judge_42 : decode cX5_judge 42 = .ok (.lload_n 2, 1) := by decide +kernel
theorem dX5_judge_43 : decode cX5_judge 43 = .ok (.iload_n 1, 1) := by decide +kernel
theorem dX5_judge_44 : decode cX5_judge 44 = .ok (.iconst 1, 1) := by decide +kernel
theorem dX5_judge_45 : decode cX5_judge 45 = .ok (.isub, 1) := by decide +kernel
theorem dX5_judge_46 : decode cX5_judge 46 = .ok (.iload 4, 2) := by decide +kernel
theorem dX5_judge_48 : decode cX5_judge 48 = .ok (.isub, 1) := by decide +kernel
theorem dX5_judge_49 : decode cX5_judge 49 = .ok (.invokestatic 191, 3) := by decide +kernel
theorem dX5_judge_52 : decode cX5_judge 52 = .ok (.ldiv, 1) := by decide +kernel
theorem dX5_judge_53 : decode cX5_judge 53 = .ok (.ldc2_w 187, 3) := by decide +kernel
theorem dX5_judge_56 : decode cX5_judge 56 = .ok (.lrem, 1) := by decide +kernel
theorem dX5_judge_57 : decode cX5_judge 57 = .ok (.l2i, 1) := by decide +kernel
theorem dX5_judge_58 : decode cX5_judge 58 = .ok (.istore 5, 2) := by decide +kernel
theorem dX5_judge_60 : decode cX5_judge 60 = .ok (.aload_n 0, 1) := by decide +kernel
theorem dX5_judge_61 : decode cX5_judge 61 = .ok (.iload 5, 2) := by decide +kernel
theorem dX5_judge_63 : decode cX5_judge 63 = .ok (.bipush 100, 2) := by decide +kernel
theorem dX5_judge_65 : decode cX5_judge 65 = .ok (.idiv, 1) := by decide +kernel
theorem dX5_judge_66 : decode cX5_judge 66 = .ok (.iload 5, 2) := by decide +kernel
theorem dX5_judge_68 : decode cX5_judge 68 = .ok (.bipush 10, 2) := by decide +kernel
theorem dX5_judge_70 : decode cX5_judge 70 = .ok (.idiv, 1) := by decide +kernel
theorem dX5_judge_71 : decode cX5_judge 71 = .ok (.bipush 10, 2) := by decide +kernel
theorem dX5_judge_73 : decode cX5_judge 73 = .ok (.irem, 1) := by decide +kernel
theorem dX5_judge_74 : decode cX5_judge 74 = .ok (.iload 5, 2) := by decide +kernel
theorem dX5_judge_76 : decode cX5_judge 76 = .ok (.bipush 10, 2) := by decide +kernel
theorem dX5_judge_78 : decode cX5_judge 78 = .ok (.irem, 1) := by decide +kernel
theorem dX5_judge_79 : decode cX5_judge 79 = .ok (.invokevirtual 195, 3) := by decide +kernel
theorem dX5_judge_82 : decode cX5_judge 82 = .ok (.ifCond .ne 6, 3) := by decide +kernel
theorem dX5_judge_85 : decode cX5_judge 85 = .ok (.iload 4, 2) := by decide +kernel
theorem dX5_judge_87 : decode cX5_judge 87 = .ok (.ireturn, 1) := by decide +kernel
theorem dX5_judge_88 : decode cX5_judge 88 = .ok (.iinc 4 1, 3) := by decide +kernel
theorem dX5_judge_91 : decode cX5_judge 91 = .ok (.goto (-55), 3) := by decide +kernel
theorem dX5_judge_94 : decode cX5_judge 94 = .ok (.bipush (-9), 2) := by decide +kernel
theorem dX5_judge_96 : decode cX5_judge 96 = .ok (.ireturn, 1) := by decide +kernel
set_option maxRecDepth 20000 in
theorem ggX5_hear_X5_isPlayer : GoodIn wsX5_hear wsX5_isPlayer := goodIn_r _ [10, 11, 12, 13, 9, 14, 15, 16, 17, 18, 19, 20, 21, 22, 23, 24, 25, 26, 27, 28, 29, 30, 31, 32, 33, 34, 35, 36, 37, 38, 39, 40, 41, 42, 43] (by decide +kernel) (by decide +kernel)
set_option maxRecDepth 20000 in
theorem gX5_hear_X5_isPlayer : GoodIn wsX5_hear (wsV RX5 112 RX5 yX5_isPlayer wsX5_isPlayer) := goodIn_app (goodIn_of _ (by decide +kernel)) ggX5_hear_X5_isPlayer
set_option maxRecDepth 20000 in
theorem ggX5_hear_X5_in : GoodIn wsX5_hear wsX5_in := goodIn_r _ [14] (by decide +kernel) (by decide +kernel)
set_option maxRecDepth 20000 in
theorem gX5_hear_X5_in : GoodIn wsX5_hear (va_wsS RX5 61 yX5_in wsX5_in) := goodIn_app (goodIn_of _ (by decide +kernel)) ggX5_hear_X5_in
theorem dX5_hear_0 : decode cX5_hear 0 = .ok (.aload_n 0, 1) := by decide +kernel
theorem dX5_hear_1 : decode cX5_hear 1 = .ok (.iload_n 1, 1) := by decide +kernel
theorem dX5_hear_2 : decode cX5_hear 2 = .ok (.invokevirtual 112, 3) := by decide +kernel
theorem dX5_hear_5 : decode cX5_hear 5 = .ok (.ifCond .ne 5, 3) := by decide +kernel
theorem dX5_hear_8 : decode cX5_hear 8 = .ok (.iconst (-1), 1) := by decide +kernel
theorem dX5_hear_9 : decode cX5_hear 9 = .ok (.ireturn, 1) := by decide +kernel
theorem dX5_hear_10 : decode cX5_hear 10 = .ok (.iload_n 2, 1) := by decide +kernel
theorem dX5_hear_11 : decode cX5_hear 11 = .ok (.i2l, 1) := by decide +kernel
theorem dX5_hear_12 : decode cX5_hear 12 = .ok (.lconst 0, 1) := by decide +kernel
theorem dX5_hear_13 : decode cX5_hear 13 = .ok (.ldc2_w 142, 3) := by decide +kernel
theorem dX5_hear_16 : decode cX5_hear 16 = .ok (.invokestatic 61, 3) := by decide +kernel
theorem dX5_hear_19 : decode cX5_hear 19 = .ok (.ifCond .eq 13, 3) := by decide +kernel
theorem dX5_hear_22 : decode cX5_hear 22 = .ok (.iload_n 3, 1) := by decide +kernel
theorem dX5_hear_23 : decode cX5_hear 23 = .ok (.i2l, 1) := by decide +kernel
theorem dX5_hear_24 : decode cX5_hear 24 = .ok (.lconst 0, 1) := by decide +kernel
theorem dX5_hear_25 : decode cX5_hear 25 = .ok (.lconst 1, 1) := by decide +kernel
theorem dX5_hear_26 : decode cX5_hear 26 = .ok (.invokestatic 61, 3) := by decide +kernel
theorem dX5_hear_29 : decode cX5_hear 29 = .ok (.ifCond .ne 6, 3) := by decide +kernel
theorem dX5_hear_32 : decode cX5_hear 32 = .ok (.bipush (-2), 2) := by decide +kernel
theorem dX5_hear_34 : decode cX5_hear 34 = .ok (.ireturn, 1) := by decide +kernel
theorem dX5_hear_35 : decode cX5_hear 35 = .ok (.aload_n 0, 1) := by decide +kernel
theorem dX5_hear_36 : decode cX5_hear 36 = .ok (.getfield 199, 3) := by decide +kernel
theorem dX5_hear_39 : decode cX5_hear 39 = .ok (.bipush 6, 2) := by decide +kernel
theorem dX5_hear_41 : decode cX5_hear 41 = .ok (.if_icmp .ne 6, 3) := by decide +kernel
theorem dX5_hear_44 : decode cX5_hear 44 = .ok (.bipush (-4), 2) := by decide +kernel
theorem dX5_hear_46 : decode cX5_hear 46 = .ok (.ireturn, 1) := by decide +kernel
theorem dX5_hear_47 : decode cX5_hear 47 = .ok (.aload_n 0, 1) := by decide +kernel
theorem dX5_hear_48 : decode cX5_hear 48 = .ok (.getfield 43, 3) := by decide +kernel
theorem dX5_hear_51 : decode cX5_hear 51 = .ok (.aload_n 0, 1) := by decide +kernel
theorem dX5_hear_52 : decode cX5_hear 52 = .ok (.getfield 199, 3) := by decide +kernel
theorem dX5_hear_55 : decode cX5_hear 55 = .ok (.iload_n 1, 1) := by decide +kernel
theorem dX5_hear_56 : decode cX5_hear 56 = .ok (.iastore, 1) := by decide +kernel
theorem dX5_hear_57 : decode cX5_hear 57 = .ok (.aload_n 0, 1) := by decide +kernel
theorem dX5_hear_58 : decode cX5_hear 58 = .ok (.getfield 46, 3) := by decide +kernel
theorem dX5_hear_61 : decode cX5_hear 61 = .ok (.aload_n 0, 1) := by decide +kernel
theorem dX5_hear_62 : decode cX5_hear 62 = .ok (.getfield 199, 3) := by decide +kernel
theorem dX5_hear_65 : decode cX5_hear 65 = .ok (.iload_n 2, 1) := by decide +kernel
theorem dX5_hear_66 : decode cX5_hear 66 = .ok (.iastore, 1) := by decide +kernel
theorem dX5_hear_67 : decode cX5_hear 67 = .ok (.aload_n 0, 1) := by decide +kernel
theorem dX5_hear_68 : decode cX5_hear 68 = .ok (.getfield 49, 3) := by decide +kernel
theorem dX5_hear_71 : decode cX5_hear 71 = .ok (.aload_n 0, 1) := by decide +kernel
theorem dX5_hear_72 : decode cX5_hear 72 = .ok (.getfield 199, 3) := by decide +kernel
theorem dX5_hear_75 : decode cX5_hear 75 = .ok (.iload_n 3, 1) := by decide +kernel
theorem dX5_hear_76 : decode cX5_hear 76 = .ok (.iastore, 1) := by decide +kernel
theorem dX5_hear_77 : decode cX5_hear 77 = .ok (.aload_n 0, 1) := by decide +kernel
theorem dX5_hear_78 : decode cX5_hear 78 = .ok (.dup, 1) := by decide +kernel
theorem dX5_hear_79 : decode cX5_hear 79 = .ok (.getfield 199, 3) := by decide +kernel
theorem dX5_hear_82 : decode cX5_hear 82 = .ok (.iconst 1, 1) := by decide +kernel
theorem dX5_hear_83 : decode cX5_hear 83 = .ok (.iadd, 1) := by decide +kernel
theorem dX5_hear_84 : decode cX5_hear 84 = .ok (.putfield 199, 3) := by decide +kernel
theorem dX5_hear_87 : decode cX5_hear 87 = .ok (.aload_n 0, 1) := by decide +kernel
theorem dX5_hear_88 : decode cX5_hear 88 = .ok (.getfield 199, 3) := by decide +kernel
theorem dX5_hear_91 : decode cX5_hear 91 = .ok (.ireturn, 1) := by decide +kernel
theorem dX5_unhear_0 : decode cX5_unhear 0 = .ok (.aload_n 0, 1) := by decide +kernel
theorem dX5_unhear_1 : decode cX5_unhear 1 = .ok (.getfield 199, 3) := by decide +kernel
theorem dX5_unhear_4 : decode cX5_unhear 4 = .ok (.istore_n 1, 1) := by decide +kernel
theorem dX5_unhear_5 : decode cX5_unhear 5 = .ok (.aload_n 0, 1) := by decide +kernel
theorem dX5_unhear_6 : decode cX5_unhear 6 = .ok (.iconst 0, 1) := by decide +kernel
theorem dX5_unhear_7 : decode cX5_unhear 7 = .ok (.putfield 199, 3) := by decide +kernel
theorem dX5_unhear_10 : decode cX5_unhear 10 = .ok (.iload_n 1, 1) := by decide +kernel
theorem dX5_unhear_11 : decode cX5_unhear 11 = .ok (.ireturn, 1) := by decide +kernel
set_option maxRecDepth 20000 in
theorem ggX5_mayBePaid_X5_layTrial : GoodIn wsX5_mayBePaid wsX5_layTrial := goodIn_r _ [9, 10, 66, 67, 68, 69, 70, 71, 72, 73, 74, 75, 76, 77, 78, 79, 80, 81, 82, 83, 84, 85, 86, 87, 88, 89, 90, 91, 92, 93, 94] (by decide +kernel) (by decide +kernel)
set_option maxRecDepth 20000 in
theorem gX5_mayBePaid_X5_layTrial : GoodIn wsX5_mayBePaid (wsV RX5 164 RX5 yX5_layTrial wsX5_layTrial) := goodIn_app (goodIn_of _ (by decide +kernel)) ggX5_mayBePaid_X5_layTrial
set_option maxRecDepth 20000 in
theorem ggX5_mayBePaid_X5_makeSome : GoodIn wsX5_mayBePaid wsX5_makeSome := goodIn_r _ [14, 15, 10, 16, 17, 8, 18, 66, 67, 68, 69, 70, 71, 72, 73, 74, 75, 76, 77, 78, 79, 80, 81, 82, 83, 84, 85, 86, 87, 88, 89, 90, 91, 92, 93, 94] (by decide +kernel) (by decide +kernel)
set_option maxRecDepth 20000 in
theorem gX5_mayBePaid_X5_makeSome : GoodIn wsX5_mayBePaid (wsV RX5 173 RX5 yX5_makeSome wsX5_makeSome) := goodIn_app (goodIn_of _ (by decide +kernel)) ggX5_mayBePaid_X5_makeSome
set_option maxRecDepth 20000 in
theorem ggX5_mayBePaid_X5_goOn : GoodIn wsX5_mayBePaid wsX5_goOn := goodIn_r _ [22, 23, 24, 25, 8, 26, 10, 27, 28, 29, 30, 31, 32, 33, 34, 35, 36, 37, 38, 39, 40, 41, 15, 42, 43, 44, 45, 46, 47, 48, 49, 50, 51, 52, 53, 54, 55, 56, 57, 58, 59, 60, 61, 62, 63, 64, 65, 16, 17, 18, 66, 67, 68, 69, 70, 71, 72, 73, 74, 75, 76, 77, 78, 79, 80, 81, 82, 83, 84, 85, 86, 87, 88, 89, 90, 91, 92, 93, 94] (by decide +kernel) (by decide +kernel)
set_option maxRecDepth 20000 in
theorem gX5_mayBePaid_X5_goOn : GoodIn wsX5_mayBePaid (wsV RX5 167 RX5 yX5_goOn wsX5_goOn) := goodIn_app (goodIn_of _ (by decide +kernel)) ggX5_mayBePaid_X5_goOn
set_option maxRecDepth 20000 in
theorem ggX5_mayBePaid_X5_isPlayer : GoodIn wsX5_mayBePaid wsX5_isPlayer := goodIn_r _ [58, 15, 59, 60, 8, 61, 66, 67, 68, 69, 70, 71, 72, 73, 74, 75, 76, 77, 78, 79, 80, 81, 82, 83, 84, 85, 86, 87, 88, 89, 90, 91, 92, 93, 94] (by decide +kernel) (by decide +kernel)
set_option maxRecDepth 20000 in
theorem gX5_mayBePaid_X5_isPlayer : GoodIn wsX5_mayBePaid (wsV RX5 112 RX5 yX5_isPlayer wsX5_isPlayer) := goodIn_app (goodIn_of _ (by decide +kernel)) ggX5_mayBePaid_X5_isPlayer
set_option maxRecDepth 20000 in
theorem ggX5_mayBePaid_X5_plays : GoodIn wsX5_mayBePaid wsX5_plays := goodIn_r _ [65, 10, 55, 56, 57, 8, 58, 15, 59, 60, 61, 66, 67, 68, 69, 70, 71, 72, 73, 74, 75, 76, 77, 78, 79, 80, 81, 82, 83, 84, 85, 86, 87, 88, 89, 90, 91, 92, 93, 94] (by decide +kernel) (by decide +kernel)
set_option maxRecDepth 20000 in
theorem gX5_mayBePaid_X5_plays : GoodIn wsX5_mayBePaid (wsV RX5 116 RX5 yX5_plays wsX5_plays) := goodIn_app (goodIn_of _ (by decide +kernel)) ggX5_mayBePaid_X5_plays
theorem dX5_mayBePaid_0 : decode cX5_mayBePaid 0 = .ok (.iconst 1, 1) := by decide +kernel
theorem dX5_mayBePaid_1 : decode cX5_mayBePaid 1 = .ok (.istore_n 2, 1) := by decide +kernel
theorem dX5_mayBePaid_2 : decode cX5_mayBePaid 2 = .ok (.iconst 0, 1) := by decide +kernel
theorem dX5_mayBePaid_3 : decode cX5_mayBePaid 3 = .ok (.istore_n 3, 1) := by decide +kernel
theorem dX5_mayBePaid_4 : decode cX5_mayBePaid 4 = .ok (.iload_n 3, 1) := by decide +kernel
theorem dX5_mayBePaid_5 : decode cX5_mayBePaid 5 = .ok (.aload_n 0, 1) := by decide +kernel
theorem dX5_mayBePaid_6 : decode cX5_mayBePaid 6 = .ok (.getfield 199, 3) := by decide +kernel
theorem dX5_mayBePaid_9 : decode cX5_mayBePaid 9 = .ok (.if_icmp .ge 82, 3) := by decide +kernel
theorem dX5_mayBePaid_12 : decode cX5_mayBePaid 12 = .ok (.aload_n 0, 1) := by decide +kernel
theorem dX5_mayBePaid_13 : decode cX5_mayBePaid 13 = .ok (.invokevirtual 164, 3) := by decide +kernel
theorem dX5_mayBePaid_16 : decode cX5_mayBePaid 16 = .ok (.aload_n 0, 1) := by decide +kernel
theorem dX5_mayBePaid_17 : decode cX5_mayBePaid 17 = .ok (.iload_n 1, 1) := by decide +kernel
theorem dX5_mayBePaid_18 : decode cX5_mayBePaid 18 = .ok (.iconst 1, 1) := by decide +kernel
theorem dX5_mayBePaid_19 : decode cX5_mayBePaid 19 = .ok (.invokevirtual 173, 3) := by decide +kernel
theorem dX5_mayBePaid_22 : decode cX5_mayBePaid 22 = .ok (.aload_n 0, 1) := by decide +kernel
theorem dX5_mayBePaid_23 : decode cX5_mayBePaid 23 = .ok (.aload_n 0, 1) := by decide +kernel
theorem dX5_mayBePaid_24 : decode cX5_mayBePaid 24 = .ok (.getfield 46, 3) := by decide +kernel
theorem dX5_mayBePaid_27 : decode cX5_mayBePaid 27 = .ok (.iload_n 3, 1) := by decide +kernel
theorem dX5_mayBePaid_28 : decode cX5_mayBePaid 28 = .ok (.iaload, 1) := by decide +kernel
theorem dX5_mayBePaid_29 : decode cX5_mayBePaid 29 = .ok (.invokevirtual 167, 3) := by decide +kernel
theorem dX5_mayBePaid_32 : decode cX5_mayBePaid 32 = .ok (.pop, 1) := by decide +kernel
theorem dX5_mayBePaid_33 : decode cX5_mayBePaid 33 = .ok (.iload_n 2, 1) := by decide +kernel
theorem dX5_mayBePaid_34 : decode cX5_mayBePaid 34 = .ok (.ifCond .eq 49, 3) := by decide +kernel
theorem dX5_mayBePaid_37 : decode cX5_mayBePaid 37 = .ok (.aload_n 0, 1) := by decide +kernel
theorem dX5_mayBePaid_38 : decode cX5_mayBePaid 38 = .ok (.aload_n 0, 1) := by decide +kernel
theorem dX5_mayBePaid_39 : decode cX5_mayBePaid 39 = .ok (.getfield 43, 3) := by decide +kernel
theorem dX5_mayBePaid_42 : decode cX5_mayBePaid 42 = .ok (.iload_n 3, 1) := by decide +kernel
theorem dX5_mayBePaid_43 : decode cX5_mayBePaid 43 = .ok (.iaload, 1) := by decide +kernel
theorem dX5_mayBePaid_44 : decode cX5_mayBePaid 44 = .ok (.invokevirtual 112, 3) := by decide +kernel
theorem dX5_mayBePaid_47 : decode cX5_mayBePaid 47 = .ok (.ifCond .eq 32, 3) := by decide +kernel
theorem dX5_mayBePaid_50 : decode cX5_mayBePaid 50 = .ok (.aload_n 0, 1) := by decide +kernel
theorem dX5_mayBePaid_51 : decode cX5_mayBePaid 51 = .ok (.iconst 1, 1) := by decide +kernel
theorem dX5_mayBePaid_52 : decode cX5_mayBePaid 52 = .ok (.aload_n 0, 1) := by decide +kernel
theorem dX5_mayBePaid_53 : decode cX5_mayBePaid 53 = .ok (.getfield 43, 3) := by decide +kernel
theorem dX5_mayBePaid_56 : decode cX5_mayBePaid 56 = .ok (.iload_n 3, 1) := by decide +kernel
theorem dX5_mayBePaid_57 : decode cX5_mayBePaid 57 = .ok (.iaload, 1) := by decide +kernel
theorem dX5_mayBePaid_58 : decode cX5_mayBePaid 58 = .ok (.invokevirtual 116, 3) := by decide +kernel
theorem dX5_mayBePaid_61 : decode cX5_mayBePaid 61 = .ok (.aload_n 0, 1) := by decide +kernel
theorem dX5_mayBePaid_62 : decode cX5_mayBePaid 62 = .ok (.getfield 49, 3) := by decide +kernel
theorem dX5_mayBePaid_65 : decode cX5_mayBePaid 65 = .ok (.iload_n 3, 1) := by decide +kernel
theorem dX5_mayBePaid_66 : decode cX5_mayBePaid 66 = .ok (.iaload, 1) := by decide +kernel
theorem dX5_mayBePaid_67 : decode cX5_mayBePaid 67 = .ok (.iconst 1, 1) := by decide +kernel
theorem dX5_mayBePaid_68 : decode cX5_mayBePaid 68 = .ok (.if_icmp .ne 7, 3) := by decide +kernel
theorem dX5_mayBePaid_71 : decode cX5_mayBePaid 71 = .ok (.iconst 1, 1) := by decide +kernel
theorem dX5_mayBePaid_72 : decode cX5_mayBePaid 72 = .ok (.goto 4, 3) := by decide +kernel
theorem dX5_mayBePaid_75 : decode cX5_mayBePaid 75 = .ok (.iconst 0, 1) := by decide +kernel
theorem dX5_mayBePaid_76 : decode cX5_mayBePaid 76 = .ok (.if_icmp .ne 7, 3) := by decide +kernel
theorem dX5_mayBePaid_79 : decode cX5_mayBePaid 79 = .ok (.iconst 1, 1) := by decide +kernel
theorem dX5_mayBePaid_80 : decode cX5_mayBePaid 80 = .ok (.goto 4, 3) := by decide +kernel
theorem dX5_mayBePaid_83 : decode cX5_mayBePaid 83 = .ok (.iconst 0, 1) := by decide +kernel
theorem dX5_mayBePaid_84 : decode cX5_mayBePaid 84 = .ok (.istore_n 2, 1) := by decide +kernel
theorem dX5_mayBePaid_85 : decode cX5_mayBePaid 85 = .ok (.iinc 3 1, 3) := by decide +kernel
theorem dX5_mayBePaid_88 : decode cX5_mayBePaid 88 = .ok (.goto (-84), 3) := by decide +kernel
theorem dX5_mayBePaid_91 : decode cX5_mayBePaid 91 = .ok (.iload_n 2, 1) := by decide +kernel
theorem dX5_mayBePaid_92 : decode cX5_mayBePaid 92 = .ok (.ireturn, 1) := by decide +kernel
set_option maxRecDepth 20000 in
theorem ggX5_pays_X5_in : GoodIn wsX5_pays wsX5_in := goodIn_r _ [5] (by decide +kernel) (by decide +kernel)
set_option maxRecDepth 20000 in
theorem gX5_pays_X5_in : GoodIn wsX5_pays (va_wsS RX5 61 yX5_in wsX5_in) := goodIn_app (goodIn_of _ (by decide +kernel)) ggX5_pays_X5_in
set_option maxRecDepth 20000 in
theorem ggX5_pays_X5_whoIs : GoodIn wsX5_pays wsX5_whoIs := goodIn_r _ [9, 1, 10, 70, 71, 72, 73, 74, 75, 76, 77, 78, 79, 80, 81, 82, 83, 84, 85, 86, 87, 88, 89, 90, 91, 92, 93, 94, 95, 96, 97, 98] (by decide +kernel) (by decide +kernel)
set_option maxRecDepth 20000 in
theorem gX5_pays_X5_whoIs : GoodIn wsX5_pays (wsV RX5 102 RX5 yX5_whoIs wsX5_whoIs) := goodIn_app (goodIn_of _ (by decide +kernel)) ggX5_pays_X5_whoIs
set_option maxRecDepth 20000 in
theorem ggX5_pays_X5_mayBePaid : GoodIn wsX5_pays wsX5_mayBePaid := goodIn_r _ [14, 15, 16, 17, 18, 19, 20, 21, 4, 22, 10, 23, 24, 25, 26, 1, 27, 28, 29, 30, 31, 32, 33, 34, 35, 36, 37, 38, 39, 40, 41, 42, 43, 44, 45, 46, 47, 48, 6, 7, 8, 9, 49, 50, 51, 52, 53, 54, 55, 56, 57, 58, 59, 60, 61, 62, 63, 64, 65, 2, 3, 5, 66, 67, 68, 69, 70, 71, 72, 73, 74, 75, 76, 77, 78, 79, 80, 81, 82, 83, 84, 85, 86, 87, 88, 89, 90, 91, 92, 93, 94, 95, 96, 97, 98] (by decide +kernel) (by decide +kernel)
set_option maxRecDepth 20000 in
theorem gX5_pays_X5_mayBePaid : GoodIn wsX5_pays (wsV RX5 202 RX5 yX5_mayBePaid wsX5_mayBePaid) := goodIn_app (goodIn_of _ (by decide +kernel)) ggX5_pays_X5_mayBePaid
theorem dX5_pays_0 : decode cX5_pays 0 = .ok (.iload_n 1, 1) := by decide +kernel
theorem dX5_pays_1 : decode cX5_pays 1 = .ok (.i2l, 1) := by decide +kernel
theorem dX5_pays_2 : decode cX5_pays 2 = .ok (.lconst 0, 1) := by decide +kernel
theorem dX5_pays_3 : decode cX5_pays 3 = .ok (.lconst 1, 1) := by decide +kernel
theorem dX5_pays_4 : decode cX5_pays 4 = .ok (.invokestatic 61, 3) := by decide +kernel
theorem dX5_pays_7 : decode cX5_pays 7 = .ok (.ifCond .ne 6, 3) := by decide +kernel
theorem dX5_pays_10 : decode cX5_pays 10 = .ok (.bipush (-2), 2) := by decide +kernel
theorem dX5_pays_12 : decode cX5_pays 12 = .ok (.ireturn, 1) := by decide +kernel
theorem dX5_pays_13 : decode cX5_pays 13 = .ok (.aload_n 0, 1) := by decide +kernel
theorem dX5_pays_14 : decode cX5_pays 14 = .ok (.iconst 0, 1) := by decide +kernel
theorem dX5_pays_15 : decode cX5_pays 15 = .ok (.iconst 0, 1) := by decide +kernel
theorem dX5_pays_16 : decode cX5_pays 16 = .ok (.invokevirtual 102, 3) := by decide +kernel
theorem dX5_pays_19 : decode cX5_pays 19 = .ok (.istore_n 2, 1) := by decide +kernel
theorem dX5_pays_20 : decode cX5_pays 20 = .ok (.iconst 0, 1) := by decide +kernel
theorem dX5_pays_21 : decode cX5_pays 21 = .ok (.istore_n 3, 1) := by decide +kernel
theorem dX5_pays_22 : decode cX5_pays 22 = .ok (.bipush (-9), 2) := by decide +kernel
theorem dX5_pays_24 : decode cX5_pays 24 = .ok (.istore 4, 2) := by decide +kernel
theorem dX5_pays_26 : decode cX5_pays 26 = .ok (.iconst 0, 1) := by decide +kernel
theorem dX5_pays_27 : decode cX5_pays 27 = .ok (.istore 5, 2) := by decide +kernel
theorem dX5_pays_29 : decode cX5_pays 29 = .ok (.iload 5, 2) := by decide +kernel
theorem dX5_pays_31 : decode cX5_pays 31 = .ok (.iconst 1, 1) := by decide +kernel
theorem dX5_pays_32 : decode cX5_pays 32 = .ok (.aload_n 0, 1) := by decide +kernel
theorem dX5_pays_33 : decode cX5_pays 33 = .ok (.getfield 93, 3) := by decide +kernel
theorem dX5_pays_36 : decode cX5_pays 36 = .ok (.ishl, 1) := by decide +kernel
theorem dX5_pays_37 : decode cX5_pays 37 = .ok (.if_icmp .ge 43, 3) := by decide +kernel
theorem dX5_pays_40 : decode cX5_pays 40 = .ok (.iload 5, 2) := by decide +kernel
theorem dX5_pays_42 : decode cX5_pays 42 = .ok (.iload_n 2, 1) := by decide +kernel
theorem dX5_pays_43 : decode cX5_pays 43 = .ok (.iconst (-1), 1) := by decide +kernel
theorem dX5_pays_44 : decode cX5_pays 44 = .ok (.ixor, 1) := by decide +kernel
theorem dX5_pays_45 : decode cX5_pays 45 = .ok (.iand, 1) := by decide +kernel
theorem dX5_pays_46 : decode cX5_pays 46 = .ok (.ifCond .ne 28, 3) := by decide +kernel
theorem dX5_pays_49 : decode cX5_pays 49 = .ok (.aload_n 0, 1) := by decide +kernel
theorem dX5_pays_50 : decode cX5_pays 50 = .ok (.iload 5, 2) := by decide +kernel
theorem dX5_pays_52 : decode cX5_pays 52 = .ok (.invokevirtual 202, 3) := by decide +kernel
theorem dX5_pays_55 : decode cX5_pays 55 = .ok (.ifCond .eq 19, 3) := by decide +kernel
theorem dX5_pays_58 : decode cX5_pays 58 = .ok (.iload_n 3, 1) := by decide +kernel
theorem dX5_pays_59 : decode cX5_pays 59 = .ok (.ifCond .ne 8, 3) := by decide +kernel
theorem dX5_pays_62 : decode cX5_pays 62 = .ok (.iload 5, 2) := by decide +kernel
theorem dX5_pays_64 : decode cX5_pays 64 = .ok (.goto 5, 3) := by decide +kernel
theorem dX5_pays_67 : decode cX5_pays 67 = .ok (.iload 4, 2) := by decide +kernel
theorem dX5_pays_69 : decode cX5_pays 69 = .ok (.istore 4, 2) := by decide +kernel
theorem dX5_pays_71 : decode cX5_pays 71 = .ok (.iinc 3 1, 3) := by decide +kernel
theorem dX5_pays_74 : decode cX5_pays 74 = .ok (.iinc 5 1, 3) := by decide +kernel
theorem dX5_pays_77 : decode cX5_pays 77 = .ok (.goto (-48), 3) := by decide +kernel
theorem dX5_pays_80 : decode cX5_pays 80 = .ok (.iload_n 1, 1) := by decide +kernel
theorem dX5_pays_81 : decode cX5_pays 81 = .ok (.ifCond .ne 7, 3) := by decide +kernel
theorem dX5_pays_84 : decode cX5_pays 84 = .ok (.iload_n 3, 1) := by decide +kernel
theorem dX5_pays_85 : decode cX5_pays 85 = .ok (.goto 5, 3) := by decide +kernel
theorem dX5_pays_88 : decode cX5_pays 88 = .ok (.iload 4, 2) := by decide +kernel
theorem dX5_pays_90 : decode cX5_pays 90 = .ok (.ireturn, 1) := by decide +kernel
theorem dX5_factorial_0 : decode cX5_factorial 0 = .ok (.iconst 1, 1) := by decide +kernel
theorem dX5_factorial_1 : decode cX5_factorial 1 = .ok (.istore_n 1, 1) := by decide +kernel
theorem dX5_factorial_2 : decode cX5_factorial 2 = .ok (.iconst 2, 1) := by decide +kernel
theorem dX5_factorial_3 : decode cX5_factorial 3 = .ok (.istore_n 2, 1) := by decide +kernel
theorem dX5_factorial_4 : decode cX5_factorial 4 = .ok (.iload_n 2, 1) := by decide +kernel
theorem dX5_factorial_5 : decode cX5_factorial 5 = .ok (.iload_n 0, 1) := by decide +kernel
theorem dX5_factorial_6 : decode cX5_factorial 6 = .ok (.if_icmp .gt 13, 3) := by decide +kernel
theorem dX5_factorial_9 : decode cX5_factorial 9 = .ok (.iload_n 1, 1) := by decide +kernel
theorem dX5_factorial_10 : decode cX5_factorial 10 = .ok (.iload_n 2, 1) := by decide +kernel
theorem dX5_factorial_11 : decode cX5_factorial 11 = .ok (.imul, 1) := by decide +kernel
theorem dX5_factorial_12 : decode cX5_factorial 12 = .ok (.istore_n 1, 1) := by decide +kernel
theorem dX5_factorial_13 : decode cX5_factorial 13 = .ok (.iinc 2 1, 3) := by decide +kernel
theorem dX5_factorial_16 : decode cX5_factorial 16 = .ok (.goto (-12), 3) := by decide +kernel
theorem dX5_factorial_19 : decode cX5_factorial 19 = .ok (.iload_n 1, 1) := by decide +kernel
theorem dX5_factorial_20 : decode cX5_factorial 20 = .ok (.ireturn, 1) := by decide +kernel
theorem dX5_common_0 : decode cX5_common 0 = .ok (.iload_n 0, 1) := by decide +kernel
theorem dX5_common_1 : decode cX5_common 1 = .ok (.ifCond .ge 8, 3) := by decide +kernel
theorem dX5_common_4 : decode cX5_common 4 = .ok (.iload_n 0, 1) := by decide +kernel
theorem dX5_common_5 : decode cX5_common 5 = .ok (.ineg, 1) := by decide +kernel
theorem dX5_common_6 : decode cX5_common 6 = .ok (.goto 4, 3) := by decide +kernel
theorem dX5_common_9 : decode cX5_common 9 = .ok (.iload_n 0, 1) := by decide +kernel
theorem dX5_common_10 : decode cX5_common 10 = .ok (.istore_n 2, 1) := by decide +kernel
theorem dX5_common_11 : decode cX5_common 11 = .ok (.iload_n 1, 1) := by decide +kernel
theorem dX5_common_12 : decode cX5_common 12 = .ok (.istore_n 3, 1) := by decide +kernel
theorem dX5_common_13 : decode cX5_common 13 = .ok (.iload_n 3, 1) := by decide +kernel
theorem dX5_common_14 : decode cX5_common 14 = .ok (.ifCond .eq 16, 3) := by decide +kernel
theorem dX5_common_17 : decode cX5_common 17 = .ok (.iload_n 2, 1) := by decide +kernel
theorem dX5_common_18 : decode cX5_common 18 = .ok (.iload_n 3, 1) := by decide +kernel
theorem dX5_common_19 : decode cX5_common 19 = .ok (.irem, 1) := by decide +kernel
theorem dX5_common_20 : decode cX5_common 20 = .ok (.istore 4, 2) := by decide +kernel
theorem dX5_common_22 : decode cX5_common 22 = .ok (.iload_n 3, 1) := by decide +kernel
theorem dX5_common_23 : decode cX5_common 23 = .ok (.istore_n 2, 1) := by decide +kernel
theorem dX5_common_24 : decode cX5_common 24 = .ok (.iload 4, 2) := by decide +kernel
theorem dX5_common_26 : decode cX5_common 26 = .ok (.istore_n 3, 1) := by decide +kernel
theorem dX5_common_27 : decode cX5_common 27 = .ok (.goto (-14), 3) := by decide +kernel
theorem dX5_common_30 : decode cX5_common 30 = .ok (.iload_n 2, 1) := by decide +kernel
theorem dX5_common_31 : decode cX5_common 31 = .ok (.ireturn, 1) := by decide +kernel
set_option maxRecDepth 20000 in
theorem ggX5_noiseBy_X5_layTrial : GoodIn wsX5_noiseBy wsX5_layTrial := goodIn_r _ [5, 6, 62, 63, 64, 65, 66, 67, 68, 69, 70, 71, 72, 73, 74, 75, 76, 77, 78, 79, 80, 81, 82, 83, 84, 85, 86, 87, 88, 89, 90] (by decide +kernel) (by decide +kernel)
set_option maxRecDepth 20000 in
theorem gX5_noiseBy_X5_layTrial : GoodIn wsX5_noiseBy (wsV RX5 164 RX5 yX5_layTrial wsX5_layTrial) := goodIn_app (goodIn_of _ (by decide +kernel)) ggX5_noiseBy_X5_layTrial
set_option maxRecDepth 20000 in
theorem ggX5_noiseBy_X5_makeSome : GoodIn wsX5_noiseBy wsX5_makeSome := goodIn_r _ [10, 11, 6, 12, 13, 4, 14, 62, 63, 64, 65, 66, 67, 68, 69, 70, 71, 72, 73, 74, 75, 76, 77, 78, 79, 80, 81, 82, 83, 84, 85, 86, 87, 88, 89, 90] (by decide +kernel) (by decide +kernel)
set_option maxRecDepth 20000 in
theorem gX5_noiseBy_X5_makeSome : GoodIn wsX5_noiseBy (wsV RX5 173 RX5 yX5_makeSome wsX5_makeSome) := goodIn_app (goodIn_of _ (by decide +kernel)) ggX5_noiseBy_X5_makeSome
set_option maxRecDepth 20000 in
theorem ggX5_noiseBy_X5_goOn : GoodIn wsX5_noiseBy wsX5_goOn := goodIn_r _ [18, 19, 20, 21, 4, 22, 6, 23, 24, 25, 26, 27, 28, 29, 30, 31, 32, 33, 34, 35, 36, 37, 11, 38, 39, 40, 41, 42, 43, 44, 45, 46, 47, 48, 49, 50, 51, 52, 53, 54, 55, 56, 57, 58, 59, 60, 61, 12, 13, 14, 62, 63, 64, 65, 66, 67, 68, 69, 70, 71, 72, 73, 74, 75, 76, 77, 78, 79, 80, 81, 82, 83, 84, 85, 86, 87, 88, 89, 90] (by decide +kernel) (by decide +kernel)
set_option maxRecDepth 20000 in
theorem gX5_noiseBy_X5_goOn : GoodIn wsX5_noiseBy (wsV RX5 167 RX5 yX5_goOn wsX5_goOn) := goodIn_app (goodIn_of _ (by decide +kernel)) ggX5_noiseBy_X5_goOn
theorem dX5_noiseBy_0 : decode cX5_noiseBy 0 = .ok (.aload_n 0, 1) := by decide +kernel
theorem dX5_noiseBy_1 : decode cX5_noiseBy 1 = .ok (.invokevirtual 164, 3) := by decide +kernel
theorem dX5_noiseBy_4 : decode cX5_noiseBy 4 = .ok (.aload_n 0, 1) := by decide +kernel
theorem dX5_noiseBy_5 : decode cX5_noiseBy 5 = .ok (.iload_n 1, 1) := by decide +kernel
theorem dX5_noiseBy_6 : decode cX5_noiseBy 6 = .ok (.iconst (-1), 1) := by decide +kernel
theorem dX5_noiseBy_7 : decode cX5_noiseBy 7 = .ok (.ixor, 1) := by decide +kernel
theorem dX5_noiseBy_8 : decode cX5_noiseBy 8 = .ok (.iconst 1, 1) := by decide +kernel
theorem dX5_noiseBy_9 : decode cX5_noiseBy 9 = .ok (.invokevirtual 173, 3) := by decide +kernel
theorem dX5_noiseBy_12 : decode cX5_noiseBy 12 = .ok (.aload_n 0, 1) := by decide +kernel
theorem dX5_noiseBy_13 : decode cX5_noiseBy 13 = .ok (.bipush 6, 2) := by decide +kernel
theorem dX5_noiseBy_15 : decode cX5_noiseBy 15 = .ok (.invokevirtual 167, 3) := by decide +kernel
theorem dX5_noiseBy_18 : decode cX5_noiseBy 18 = .ok (.ireturn, 1) := by decide +kernel
set_option maxRecDepth 20000 in
theorem ggX5_share_X5_isPlayer : GoodIn wsX5_share wsX5_isPlayer := goodIn_r _ [6, 1, 7, 8, 5, 9, 72, 73, 74, 75, 76, 77, 78, 79, 80, 81, 82, 83, 84, 85, 86, 87, 88, 89, 90, 91, 92, 93, 94, 95, 96, 97, 98, 99, 100] (by decide +kernel) (by decide +kernel)
set_option maxRecDepth 20000 in
theorem gX5_share_X5_isPlayer : GoodIn wsX5_share (wsV RX5 112 RX5 yX5_isPlayer wsX5_isPlayer) := goodIn_app (goodIn_of _ (by decide +kernel)) ggX5_share_X5_isPlayer
set_option maxRecDepth 20000 in
theorem ggX5_share_X5_has : GoodIn wsX5_share wsX5_has := goodIn_r _ [12] (by decide +kernel) (by decide +kernel)
set_option maxRecDepth 20000 in
theorem gX5_share_X5_has : GoodIn wsX5_share (va_wsS RX5 130 yX5_has wsX5_has) := goodIn_app (goodIn_of _ (by decide +kernel)) ggX5_share_X5_has
set_option maxRecDepth 20000 in
theorem ggX5_share_X5_ones : GoodIn wsX5_share wsX5_ones := goodIn_r _ [15] (by decide +kernel) (by decide +kernel)
set_option maxRecDepth 20000 in
theorem gX5_share_X5_ones : GoodIn wsX5_share (va_wsS RX5 105 yX5_ones wsX5_ones) := goodIn_app (goodIn_of _ (by decide +kernel)) ggX5_share_X5_ones
set_option maxRecDepth 20000 in
theorem ggX5_share_X5_factorial : GoodIn wsX5_share wsX5_factorial := goodIn_r _ [18] (by decide +kernel) (by decide +kernel)
set_option maxRecDepth 20000 in
theorem gX5_share_X5_factorial : GoodIn wsX5_share (va_wsS RX5 205 yX5_factorial wsX5_factorial) := goodIn_app (goodIn_of _ (by decide +kernel)) ggX5_share_X5_factorial
set_option maxRecDepth 20000 in
theorem ggX5_share_X5_noiseBy : GoodIn wsX5_share wsX5_noiseBy := goodIn_r _ [22, 23, 24, 25, 5, 26, 27, 28, 29, 30, 31, 1, 10, 11, 12, 32, 33, 34, 35, 36, 37, 38, 39, 40, 41, 42, 43, 44, 45, 46, 47, 48, 49, 50, 51, 52, 53, 54, 13, 14, 15, 55, 56, 57, 58, 59, 60, 61, 62, 63, 64, 2, 3, 4, 6, 7, 8, 9, 65, 66, 67, 68, 72, 73, 74, 75, 76, 77, 78, 79, 80, 81, 82, 83, 84, 85, 86, 87, 88, 89, 90, 91, 92, 93, 94, 95, 96, 97, 98, 99, 100] (by decide +kernel) (by decide +kernel)
set_option maxRecDepth 20000 in
theorem gX5_share_X5_noiseBy : GoodIn wsX5_share (wsV RX5 208 RX5 yX5_noiseBy wsX5_noiseBy) := goodIn_app (goodIn_of _ (by decide +kernel)) ggX5_share_X5_noiseBy
set_option maxRecDepth 20000 in
theorem ggX5_share_X5_common : GoodIn wsX5_share wsX5_common := goodIn_r _ [71] (by decide +kernel) (by decide +kernel)
set_option maxRecDepth 20000 in
theorem gX5_share_X5_common : GoodIn wsX5_share (va_wsS RX5 211 yX5_common wsX5_common) := goodIn_app (goodIn_of _ (by decide +kernel)) ggX5_share_X5_common
theorem dX5_share_0 : decode cX5_share 0 = .ok (.aload_n 0, 1) := by decide +kernel
theorem dX5_share_1 : decode cX5_share 1 = .ok (.iload_n 1, 1) := by decide +kernel
theorem dX5_share_2 : decode cX5_share 2 = .ok (.invokevirtual 112, 3) := by decide +kernel
theorem dX5_share_5 : decode cX5_share 5 = .ok (.ifCond .ne 5, 3) := by decide +kernel
theorem dX5_share_8 : decode cX5_share 8 = .ok (.iconst (-1), 1) := by decide +kernel
theorem dX5_share_9 : decode cX5_share 9 = .ok (.ireturn, 1) := by decide +kernel
theorem dX5_share_10 : decode cX5_share 10 = .ok (.iconst 0, 1) := by decide +kernel
theorem dX5_share_11 : decode cX5_share 11 = .ok (.istore_n 3, 1) := by decide +kernel
theorem dX5_share_12 : decode cX5_share 12 = .ok (.iconst 0, 1) := by decide +kernel
theorem dX5_share_13 : decode cX5_share 13 = .ok (.istore 4, 2) := by decide +kernel
theorem dX5_share_15 : decode cX5_share 15 = .ok (.iload 4, 2) := by decide +kernel
theorem dX5_share_17 : decode cX5_share 17 = .ok (.iconst 1, 1) := by decide +kernel
theorem dX5_share_18 : decode cX5_share 18 = .ok (.aload_n 0, 1) := by decide +kernel
theorem dX5_share_19 : decode cX5_share 19 = .ok (.getfield 93, 3) := by decide +kernel
theorem dX5_share_22 : decode cX5_share 22 = .ok (.ishl, 1) := by decide +kernel
theorem dX5_share_23 : decode cX5_share 23 = .ok (.if_icmp .ge 67, 3) := by decide +kernel
theorem dX5_share_26 : decode cX5_share 26 = .ok (.iload 4, 2) := by decide +kernel
theorem dX5_share_28 : decode cX5_share 28 = .ok (.iload_n 1, 1) := by decide +kernel
theorem dX5_share_29 : decode cX5_share 29 = .ok (.invokestatic 130, 3) := by decide +kernel
theorem dX5_share_32 : decode cX5_share 32 = .ok (.ifCond .ne 52, 3) := by decide +kernel
theorem dX5_share_35 : decode cX5_share 35 = .ok (.iload 4, 2) := by decide +kernel
theorem dX5_share_37 : decode cX5_share 37 = .ok (.invokestatic 105, 3) := by decide +kernel
theorem dX5_share_40 : decode cX5_share 40 = .ok (.invokestatic 205, 3) := by decide +kernel
theorem dX5_share_43 : decode cX5_share 43 = .ok (.aload_n 0, 1) := by decide +kernel
theorem dX5_share_44 : decode cX5_share 44 = .ok (.getfield 93, 3) := by decide +kernel
theorem dX5_share_47 : decode cX5_share 47 = .ok (.iconst 1, 1) := by decide +kernel
theorem dX5_share_48 : decode cX5_share 48 = .ok (.isub, 1) := by decide +kernel
theorem dX5_share_49 : decode cX5_share 49 = .ok (.iload 4, 2) := by decide +kernel
theorem dX5_share_51 : decode cX5_share 51 = .ok (.invokestatic 105, 3) := by decide +kernel
theorem dX5_share_54 : decode cX5_share 54 = .ok (.isub, 1) := by decide +kernel
theorem dX5_share_55 : decode cX5_share 55 = .ok (.invokestatic 205, 3) := by decide +kernel
theorem dX5_share_58 : decode cX5_share 58 = .ok (.imul, 1) := by decide +kernel
theorem dX5_share_59 : decode cX5_share 59 = .ok (.istore 5, 2) := by decide +kernel
theorem dX5_share_61 : decode cX5_share 61 = .ok (.iload_n 3, 1) := by decide +kernel
theorem dX5_share_62 : decode cX5_share 62 = .ok (.iload 5, 2) := by decide +kernel
theorem dX5_share_64 : decode cX5_share 64 = .ok (.aload_n 0, 1) := by decide +kernel
theorem dX5_share_65 : decode cX5_share 65 = .ok (.iload 4, 2) := by decide +kernel
theorem dX5_share_67 : decode cX5_share 67 = .ok (.iconst 1, 1) := by decide +kernel
theorem dX5_share_68 : decode cX5_share 68 = .ok (.iload_n 1, 1) := by decide +kernel
theorem dX5_share_69 : decode cX5_share 69 = .ok (.ishl, 1) := by decide +kernel
theorem dX5_share_70 : decode cX5_share 70 = .ok (.ior, 1) := by decide +kernel
theorem dX5_share_71 : decode cX5_share 71 = .ok (.invokevirtual 208, 3) := by decide +kernel
theorem dX5_share_74 : decode cX5_share 74 = .ok (.aload_n 0, 1) := by decide +kernel
theorem dX5_share_75 : decode cX5_share 75 = .ok (.iload 4, 2) := by decide +kernel
theorem dX5_share_77 : decode cX5_share 77 = .ok (.invokevirtual 208, 3) := by decide +kernel
theorem dX5_share_80 : decode cX5_share 80 = .ok (.isub, 1) := by decide +kernel
theorem dX5_share_81 : decode cX5_share 81 = .ok (.imul, 1) := by decide +kernel
theorem dX5_share_82 : decode cX5_share 82 = .ok (.iadd, 1) := by decide +kernel
theorem dX5_share_83 : decode cX5_share 83 = .ok (.istore_n 3, 1) := by decide +kernel
theorem dX5_share_84 : decode cX5_share 84 = .ok (.iinc 4 1, 3) := by decide +kernel
theorem dX5_share_87 : decode cX5_share 87 = .ok (.goto (-72), 3) := by decide +kernel
theorem dX5_share_90 : decode cX5_share 90 = .ok (.iload_n 3, 1) := by decide +kernel
theorem dX5_share_91 : decode cX5_share 91 = .ok (.aload_n 0, 1) := by decide +kernel
theorem dX5_share_92 : decode cX5_share 92 = .ok (.getfield 93, 3) := by decide +kernel
theorem dX5_share_95 : decode cX5_share 95 = .ok (.invokestatic 205, 3) := by decide +kernel
theorem dX5_share_98 : decode cX5_share 98 = .ok (.invokestatic 211, 3) := by decide +kernel
theorem dX5_share_101 : decode cX5_share 101 = .ok (.istore 4, 2) := by decide +kernel
theorem dX5_share_103 : decode cX5_share 103 = .ok (.iload_n 2, 1) := by decide +kernel
theorem dX5_share_104 : decode cX5_share 104 = .ok (.ifCond .eq 10, 3) := by decide +kernel
theorem dX5_share_107 : decode cX5_share 107 = .ok (.iload_n 3, 1) := by decide +kernel
theorem dX5_share_108 : decode cX5_share 108 = .ok (.iload 4, 2) := by decide +kernel
theorem dX5_share_110 : decode cX5_share 110 = .ok (.idiv, 1) := by decide +kernel
theorem dX5_share_111 : decode cX5_share 111 = .ok (.goto 13, 3) := by decide +kernel
theorem dX5_share_114 : decode cX5_share 114 = .ok (.aload_n 0, 1) := by decide +kernel
theorem dX5_share_115 : decode cX5_share 115 = .ok (.getfield 93, 3) := by decide +kernel
theorem dX5_share_118 : decode cX5_share 118 = .ok (.invokestatic 205, 3) := by decide +kernel
theorem dX5_share_121 : decode cX5_share 121 = .ok (.iload 4, 2) := by decide +kernel
theorem dX5_share_123 : decode cX5_share 123 = .ok (.idiv, 1) := by decide +kernel
theorem dX5_share_124 : decode cX5_share 124 = .ok (.ireturn, 1) := by decide +kernel
set_option maxRecDepth 20000 in
theorem ggX5_gain_X5_isHushed : GoodIn wsX5_gain wsX5_isHushed := goodIn_r _ [7, 8, 9, 10, 6, 11, 12, 13, 14, 15, 16, 17, 18, 19, 20, 21, 22, 23, 24, 25, 26, 27, 28, 29, 30, 31, 32, 33, 34, 35, 36, 37, 38, 39, 40, 41, 42, 43, 44, 45, 46, 47, 48, 49, 50, 51, 52, 53, 54, 55, 56, 57, 58, 59, 60, 61, 62, 63, 64, 65, 66, 67, 68, 69, 70, 71, 72, 73, 74, 75, 76, 77, 78, 79, 80, 81, 82, 83, 84, 85, 86, 87, 88, 89, 90, 91, 92, 93, 94, 95, 96] (by decide +kernel) (by decide +kernel)
set_option maxRecDepth 20000 in
theorem gX5_gain_X5_isHushed : GoodIn wsX5_gain (wsV RX5 179 RX5 yX5_isHushed wsX5_isHushed) := goodIn_app (goodIn_of _ (by decide +kernel)) ggX5_gain_X5_isHushed
theorem dX5_gain_0 : decode cX5_gain 0 = .ok (.aload_n 0, 1) := by decide +kernel
theorem dX5_gain_1 : decode cX5_gain 1 = .ok (.iconst 3, 1) := by decide +kernel
theorem dX5_gain_2 : decode cX5_gain 2 = .ok (.iload_n 1, 1) := by decide +kernel
theorem dX5_gain_3 : decode cX5_gain 3 = .ok (.iload_n 2, 1) := by decide +kernel
theorem dX5_gain_4 : decode cX5_gain 4 = .ok (.iadd, 1) := by decide +kernel
theorem dX5_gain_5 : decode cX5_gain 5 = .ok (.imul, 1) := by decide +kernel
theorem dX5_gain_6 : decode cX5_gain 6 = .ok (.aload_n 0, 1) := by decide +kernel
theorem dX5_gain_7 : decode cX5_gain 7 = .ok (.getfield 214, 3) := by decide +kernel
theorem dX5_gain_10 : decode cX5_gain 10 = .ok (.if_icmp .lt 10, 3) := by decide +kernel
theorem dX5_gain_13 : decode cX5_gain 13 = .ok (.aload_n 0, 1) := by decide +kernel
theorem dX5_gain_14 : decode cX5_gain 14 = .ok (.getfield 217, 3) := by decide +kernel
theorem dX5_gain_17 : decode cX5_gain 17 = .ok (.goto 4, 3) := by decide +kernel
theorem dX5_gain_20 : decode cX5_gain 20 = .ok (.iconst 0, 1) := by decide +kernel
theorem dX5_gain_21 : decode cX5_gain 21 = .ok (.iconst 3, 1) := by decide +kernel
theorem dX5_gain_22 : decode cX5_gain 22 = .ok (.invokevirtual 179, 3) := by decide +kernel
theorem dX5_gain_25 : decode cX5_gain 25 = .ok (.istore_n 3, 1) := by decide +kernel
theorem dX5_gain_26 : decode cX5_gain 26 = .ok (.iload_n 3, 1) := by decide +kernel
theorem dX5_gain_27 : decode cX5_gain 27 = .ok (.ifCond .eq 8, 3) := by decide +kernel
theorem dX5_gain_30 : decode cX5_gain 30 = .ok (.bipush 8, 2) := by decide +kernel
theorem dX5_gain_32 : decode cX5_gain 32 = .ok (.goto 4, 3) := by decide +kernel
theorem dX5_gain_35 : decode cX5_gain 35 = .ok (.iconst 0, 1) := by decide +kernel
theorem dX5_gain_36 : decode cX5_gain 36 = .ok (.iconst 3, 1) := by decide +kernel
theorem dX5_gain_37 : decode cX5_gain 37 = .ok (.iload_n 1, 1) := by decide +kernel
theorem dX5_gain_38 : decode cX5_gain 38 = .ok (.imul, 1) := by decide +kernel
theorem dX5_gain_39 : decode cX5_gain 39 = .ok (.isub, 1) := by decide +kernel
theorem dX5_gain_40 : decode cX5_gain 40 = .ok (.ireturn, 1) := by decide +kernel
set_option maxRecDepth 20000 in
theorem ggX5_isRest_X5_gain : GoodIn wsX5_isRest wsX5_gain := goodIn_r _ [5, 6, 7, 8, 9, 10, 4, 11, 12, 13, 14, 15, 16, 17, 18, 19, 20, 21, 22, 23, 24, 25, 26, 27, 28, 29, 30, 31, 32, 33, 34, 35, 36, 37, 38, 39, 40, 41, 42, 43, 44, 45, 46, 47, 48, 49, 50, 51, 52, 53, 54, 55, 56, 57, 58, 59, 60, 61, 62, 63, 64, 65, 66, 67, 68, 69, 70, 71, 72, 73, 74, 75, 76, 77, 78, 79, 80, 81, 82, 83, 84, 85, 86, 87, 88, 89, 90, 91, 92, 93, 94, 95, 96, 97, 98, 99, 100] (by decide +kernel) (by decide +kernel)
set_option maxRecDepth 20000 in
theorem gX5_isRest_X5_gain : GoodIn wsX5_isRest (wsV RX5 220 RX5 yX5_gain wsX5_gain) := goodIn_app (goodIn_of _ (by decide +kernel)) ggX5_isRest_X5_gain
theorem dX5_isRest_0 : decode cX5_isRest 0 = .ok (.iconst 1, 1) := by decide +kernel
theorem dX5_isRest_1 : decode cX5_isRest 1 = .ok (.istore_n 3, 1) := by decide +kernel
theorem dX5_isRest_2 : decode cX5_isRest 2 = .ok (.iconst 0, 1) := by decide +kernel
theorem dX5_isRest_3 : decode cX5_isRest 3 = .ok (.istore 4, 2) := by decide +kernel
theorem dX5_isRest_5 : decode cX5_isRest 5 = .ok (.iload 4, 2) := by decide +kernel
theorem dX5_isRest_7 : decode cX5_isRest 7 = .ok (.iconst 3, 1) := by decide +kernel
theorem dX5_isRest_8 : decode cX5_isRest 8 = .ok (.if_icmp .ge 51, 3) := by decide +kernel
theorem dX5_isRest_11 : decode cX5_isRest 11 = .ok (.iload_n 3, 1) := by decide +kernel
theorem dX5_isRest_12 : decode cX5_isRest 12 = .ok (.ifCond .eq 39, 3) := by decide +kernel
theorem dX5_isRest_15 : decode cX5_isRest 15 = .ok (.aload_n 0, 1) := by decide +kernel
theorem dX5_isRest_16 : decode cX5_isRest 16 = .ok (.iload 4, 2) := by decide +kernel
theorem dX5_isRest_18 : decode cX5_isRest 18 = .ok (.iload_n 2, 1) := by decide +kernel
theorem dX5_isRest_19 : decode cX5_isRest 19 = .ok (.invokevirtual 220, 3) := by decide +kernel
theorem dX5_isRest_22 : decode cX5_isRest 22 = .ok (.aload_n 0, 1) := by decide +kernel
theorem dX5_isRest_23 : decode cX5_isRest 23 = .ok (.iload_n 1, 1) := by decide +kernel
theorem dX5_isRest_24 : decode cX5_isRest 24 = .ok (.iload_n 2, 1) := by decide +kernel
theorem dX5_isRest_25 : decode cX5_isRest 25 = .ok (.invokevirtual 220, 3) := by decide +kernel
theorem dX5_isRest_28 : decode cX5_isRest 28 = .ok (.if_icmp .gt 23, 3) := by decide +kernel
theorem dX5_isRest_31 : decode cX5_isRest 31 = .ok (.aload_n 0, 1) := by decide +kernel
theorem dX5_isRest_32 : decode cX5_isRest 32 = .ok (.iload 4, 2) := by decide +kernel
theorem dX5_isRest_34 : decode cX5_isRest 34 = .ok (.iload_n 1, 1) := by decide +kernel
theorem dX5_isRest_35 : decode cX5_isRest 35 = .ok (.invokevirtual 220, 3) := by decide +kernel
theorem dX5_isRest_38 : decode cX5_isRest 38 = .ok (.aload_n 0, 1) := by decide +kernel
theorem dX5_isRest_39 : decode cX5_isRest 39 = .ok (.iload_n 2, 1) := by decide +kernel
theorem dX5_isRest_40 : decode cX5_isRest 40 = .ok (.iload_n 1, 1) := by decide +kernel
theorem dX5_isRest_41 : decode cX5_isRest 41 = .ok (.invokevirtual 220, 3) := by decide +kernel
theorem dX5_isRest_44 : decode cX5_isRest 44 = .ok (.if_icmp .gt 7, 3) := by decide +kernel
theorem dX5_isRest_47 : decode cX5_isRest 47 = .ok (.iconst 1, 1) := by decide +kernel
theorem dX5_isRest_48 : decode cX5_isRest 48 = .ok (.goto 4, 3) := by decide +kernel
theorem dX5_isRest_51 : decode cX5_isRest 51 = .ok (.iconst 0, 1) := by decide +kernel
theorem dX5_isRest_52 : decode cX5_isRest 52 = .ok (.istore_n 3, 1) := by decide +kernel
theorem dX5_isRest_53 : decode cX5_isRest 53 = .ok (.iinc 4 1, 3) := by decide +kernel
theorem dX5_isRest_56 : decode cX5_isRest 56 = .ok (.goto (-51), 3) := by decide +kernel
theorem dX5_isRest_59 : decode cX5_isRest 59 = .ok (.iload_n 3, 1) := by decide +kernel
theorem dX5_isRest_60 : decode cX5_isRest 60 = .ok (.ireturn, 1) := by decide +kernel
set_option maxRecDepth 20000 in
theorem ggX5_rests_X5_in : GoodIn wsX5_rests wsX5_in := goodIn_r _ [6] (by decide +kernel) (by decide +kernel)
set_option maxRecDepth 20000 in
theorem gX5_rests_X5_in : GoodIn wsX5_rests (va_wsS RX5 61 yX5_in wsX5_in) := goodIn_app (goodIn_of _ (by decide +kernel)) ggX5_rests_X5_in
set_option maxRecDepth 20000 in
theorem ggX5_rests_X5_cheapest : GoodIn wsX5_rests wsX5_cheapest := goodIn_r _ [10, 11, 12, 13, 14, 5, 15, 16, 17, 18, 19, 20, 21, 22, 23, 24, 25, 26, 27, 28, 29, 30, 31, 32, 33, 34, 35, 36, 37, 38, 39, 40, 41, 42, 43, 44, 45, 46, 47, 48, 49, 50, 51, 52, 53, 54, 55, 56, 57, 58, 59, 60, 61, 62, 63, 64, 65, 66, 67, 68, 69, 70, 71, 72, 3, 4, 6, 73, 74, 75, 76, 85, 86, 87, 88, 89, 90, 91, 92, 93, 94, 95, 96, 97, 98, 99, 100, 101, 102, 103, 104, 105, 106, 107, 108, 109, 110, 111, 112, 113] (by decide +kernel) (by decide +kernel)
set_option maxRecDepth 20000 in
theorem gX5_rests_X5_cheapest : GoodIn wsX5_rests (wsV RX5 182 RX5 yX5_cheapest wsX5_cheapest) := goodIn_app (goodIn_of _ (by decide +kernel)) ggX5_rests_X5_cheapest
set_option maxRecDepth 20000 in
theorem ggX5_rests_X5_priceOf : GoodIn wsX5_rests wsX5_priceOf := goodIn_r _ [20, 11, 21, 22, 23, 5, 24, 85, 86, 87, 88, 89, 90, 91, 92, 93, 94, 95, 96, 97, 98, 99, 100, 101, 102, 103, 104, 105, 106, 107, 108, 109, 110, 111, 112, 113] (by decide +kernel) (by decide +kernel)
set_option maxRecDepth 20000 in
theorem gX5_rests_X5_priceOf : GoodIn wsX5_rests (wsV RX5 176 RX5 yX5_priceOf wsX5_priceOf) := goodIn_app (goodIn_of _ (by decide +kernel)) ggX5_rests_X5_priceOf
set_option maxRecDepth 20000 in
theorem ggX5_rests_X5_isRest : GoodIn wsX5_rests wsX5_isRest := goodIn_r _ [80, 81, 82, 83, 5, 84, 2, 1, 28, 29, 30, 31, 32, 33, 34, 35, 16, 36, 37, 38, 39, 11, 22, 23, 24, 40, 41, 42, 43, 44, 45, 46, 47, 48, 49, 50, 51, 52, 53, 54, 55, 56, 57, 58, 12, 13, 14, 15, 25, 26, 27, 59, 60, 61, 62, 63, 64, 65, 66, 67, 68, 69, 70, 71, 72, 3, 4, 6, 73, 74, 75, 76, 85, 86, 87, 88, 89, 90, 91, 92, 93, 94, 95, 96, 97, 98, 99, 100, 101, 102, 103, 104, 105, 106, 107, 108, 109, 110, 111, 112, 113] (by decide +kernel) (by decide +kernel)
set_option maxRecDepth 20000 in
theorem gX5_rests_X5_isRest : GoodIn wsX5_rests (wsV RX5 223 RX5 yX5_isRest wsX5_isRest) := goodIn_app (goodIn_of _ (by decide +kernel)) ggX5_rests_X5_isRest
theorem dX5_rests_0 : decode cX5_rests 0 = .ok (.iload_n 1, 1) := by decide +kernel
theorem dX5_rests_1 : decode cX5_rests 1 = .ok (.i2l, 1) := by decide +kernel
theorem dX5_rests_2 : decode cX5_rests 2 = .ok (.lconst 0, 1) := by decide +kernel
theorem dX5_rests_3 : decode cX5_rests 3 = .ok (.lconst 1, 1) := by decide +kernel
theorem dX5_rests_4 : decode cX5_rests 4 = .ok (.invokestatic 61, 3) := by decide +kernel
theorem dX5_rests_7 : decode cX5_rests 7 = .ok (.ifCond .ne 6, 3) := by decide +kernel
theorem dX5_rests_10 : decode cX5_rests 10 = .ok (.bipush (-2), 2) := by decide +kernel
theorem dX5_rests_12 : decode cX5_rests 12 = .ok (.ireturn, 1) := by decide +kernel
theorem dX5_rests_13 : decode cX5_rests 13 = .ok (.aload_n 0, 1) := by decide +kernel
theorem dX5_rests_14 : decode cX5_rests 14 = .ok (.aload_n 0, 1) := by decide +kernel
theorem dX5_rests_15 : decode cX5_rests 15 = .ok (.iconst 3, 1) := by decide +kernel
theorem dX5_rests_16 : decode cX5_rests 16 = .ok (.invokevirtual 182, 3) := by decide +kernel
theorem dX5_rests_19 : decode cX5_rests 19 = .ok (.putfield 217, 3) := by decide +kernel
theorem dX5_rests_22 : decode cX5_rests 22 = .ok (.aload_n 0, 1) := by decide +kernel
theorem dX5_rests_23 : decode cX5_rests 23 = .ok (.aload_n 0, 1) := by decide +kernel
theorem dX5_rests_24 : decode cX5_rests 24 = .ok (.aload_n 0, 1) := by decide +kernel
theorem dX5_rests_25 : decode cX5_rests 25 = .ok (.getfield 217, 3) := by decide +kernel
theorem dX5_rests_28 : decode cX5_rests 28 = .ok (.invokevirtual 176, 3) := by decide +kernel
theorem dX5_rests_31 : decode cX5_rests 31 = .ok (.putfield 214, 3) := by decide +kernel
theorem dX5_rests_34 : decode cX5_rests 34 = .ok (.iconst 0, 1) := by decide +kernel
theorem dX5_rests_35 : decode cX5_rests 35 = .ok (.istore_n 2, 1) := by decide +kernel
theorem dX5_rests_36 : decode cX5_rests 36 = .ok (.bipush (-9), 2) := by decide +kernel
theorem dX5_rests_38 : decode cX5_rests 38 = .ok (.istore_n 3, 1) := by decide +kernel
theorem dX5_rests_39 : decode cX5_rests 39 = .ok (.iconst 0, 1) := by decide +kernel
theorem dX5_rests_40 : decode cX5_rests 40 = .ok (.istore 4, 2) := by decide +kernel
theorem dX5_rests_42 : decode cX5_rests 42 = .ok (.iload 4, 2) := by decide +kernel
theorem dX5_rests_44 : decode cX5_rests 44 = .ok (.bipush 9, 2) := by decide +kernel
theorem dX5_rests_46 : decode cX5_rests 46 = .ok (.if_icmp .ge 48, 3) := by decide +kernel
theorem dX5_rests_49 : decode cX5_rests 49 = .ok (.aload_n 0, 1) := by decide +kernel
theorem dX5_rests_50 : decode cX5_rests 50 = .ok (.iload 4, 2) := by decide +kernel
theorem dX5_rests_52 : decode cX5_rests 52 = .ok (.iconst 3, 1) := by decide +kernel
theorem dX5_rests_53 : decode cX5_rests 53 = .ok (.idiv, 1) := by decide +kernel
theorem dX5_rests_54 : decode cX5_rests 54 = .ok (.iload 4, 2) := by decide +kernel
theorem dX5_rests_56 : decode cX5_rests 56 = .ok (.iconst 3, 1) := by decide +kernel
theorem dX5_rests_57 : decode cX5_rests 57 = .ok (.irem, 1) := by decide +kernel
theorem dX5_rests_58 : decode cX5_rests 58 = .ok (.invokevirtual 223, 3) := by decide +kernel
theorem dX5_rests_61 : decode cX5_rests 61 = .ok (.ifCond .eq 27, 3) := by decide +kernel
theorem dX5_rests_64 : decode cX5_rests 64 = .ok (.iload_n 2, 1) := by decide +kernel
theorem dX5_rests_65 : decode cX5_rests 65 = .ok (.ifCond .ne 18, 3) := by decide +kernel
theorem dX5_rests_68 : decode cX5_rests 68 = .ok (.bipush 10, 2) := by decide +kernel
theorem dX5_rests_70 : decode cX5_rests 70 = .ok (.iload 4, 2) := by decide +kernel
theorem dX5_rests_72 : decode cX5_rests 72 = .ok (.iconst 3, 1) := by decide +kernel
theorem dX5_rests_73 : decode cX5_rests 73 = .ok (.idiv, 1) := by decide +kernel
theorem dX5_rests_74 : decode cX5_rests 74 = .ok (.imul, 1) := by decide +kernel
theorem dX5_rests_75 : decode cX5_rests 75 = .ok (.iload 4, 2) := by decide +kernel
theorem dX5_rests_77 : decode cX5_rests 77 = .ok (.iconst 3, 1) := by decide +kernel
theorem dX5_rests_78 : decode cX5_rests 78 = .ok (.irem, 1) := by decide +kernel
theorem dX5_rests_79 : decode cX5_rests 79 = .ok (.iadd, 1) := by decide +kernel
theorem dX5_rests_80 : decode cX5_rests 80 = .ok (.goto 4, 3) := by decide +kernel
theorem dX5_rests_83 : decode cX5_rests 83 = .ok (.iload_n 3, 1) := by decide +kernel
theorem dX5_rests_84 : decode cX5_rests 84 = .ok (.istore_n 3, 1) := by decide +kernel
theorem dX5_rests_85 : decode cX5_rests 85 = .ok (.iinc 2 1, 3) := by decide +kernel
theorem dX5_rests_88 : decode cX5_rests 88 = .ok (.iinc 4 1, 3) := by decide +kernel
theorem dX5_rests_91 : decode cX5_rests 91 = .ok (.goto (-49), 3) := by decide +kernel
theorem dX5_rests_94 : decode cX5_rests 94 = .ok (.iload_n 1, 1) := by decide +kernel
theorem dX5_rests_95 : decode cX5_rests 95 = .ok (.ifCond .ne 7, 3) := by decide +kernel
theorem dX5_rests_98 : decode cX5_rests 98 = .ok (.iload_n 2, 1) := by decide +kernel
theorem dX5_rests_99 : decode cX5_rests 99 = .ok (.goto 4, 3) := by decide +kernel
theorem dX5_rests_102 : decode cX5_rests 102 = .ok (.iload_n 3, 1) := by decide +kernel
theorem dX5_rests_103 : decode cX5_rests 103 = .ok (.ireturn, 1) := by decide +kernel
theorem dX5_power_0 : decode cX5_power 0 = .ok (.iconst 1, 1) := by decide +kernel
theorem dX5_power_1 : decode cX5_power 1 = .ok (.istore_n 2, 1) := by decide +kernel
theorem dX5_power_2 : decode cX5_power 2 = .ok (.iconst 0, 1) := by decide +kernel
theorem dX5_power_3 : decode cX5_power 3 = .ok (.istore_n 3, 1) := by decide +kernel
theorem dX5_power_4 : decode cX5_power 4 = .ok (.iload_n 3, 1) := by decide +kernel
theorem dX5_power_5 : decode cX5_power 5 = .ok (.iload_n 1, 1) := by decide +kernel
theorem dX5_power_6 : decode cX5_power 6 = .ok (.if_icmp .ge 13, 3) := by decide +kernel
theorem dX5_power_9 : decode cX5_power 9 = .ok (.iload_n 2, 1) := by decide +kernel
theorem dX5_power_10 : decode cX5_power 10 = .ok (.iload_n 0, 1) := by decide +kernel
theorem dX5_power_11 : decode cX5_power 11 = .ok (.imul, 1) := by decide +kernel
theorem dX5_power_12 : decode cX5_power 12 = .ok (.istore_n 2, 1) := by decide +kernel
theorem dX5_power_13 : decode cX5_power 13 = .ok (.iinc 3 1, 3) := by decide +kernel
theorem dX5_power_16 : decode cX5_power 16 = .ok (.goto (-12), 3) := by decide +kernel
theorem dX5_power_19 : decode cX5_power 19 = .ok (.iload_n 2, 1) := by decide +kernel
theorem dX5_power_20 : decode cX5_power 20 = .ok (.ireturn, 1) := by decide +kernel
set_option maxRecDepth 20000 in
theorem ggX5_strings_X5_in : GoodIn wsX5_strings wsX5_in := goodIn_r _ [7] (by decide +kernel) (by decide +kernel)
set_option maxRecDepth 20000 in
theorem gX5_strings_X5_in : GoodIn wsX5_strings (va_wsS RX5 61 yX5_in wsX5_in) := goodIn_app (goodIn_of _ (by decide +kernel)) ggX5_strings_X5_in
set_option maxRecDepth 20000 in
theorem ggX5_strings_X5_whoIs : GoodIn wsX5_strings wsX5_whoIs := goodIn_r _ [11, 3, 12, 70, 71, 72, 73, 74, 75, 76, 77, 78, 79, 80, 81, 82, 83, 84, 85, 86, 87, 88, 89, 90, 91, 92, 93, 94, 95, 96, 97, 98] (by decide +kernel) (by decide +kernel)
set_option maxRecDepth 20000 in
theorem gX5_strings_X5_whoIs : GoodIn wsX5_strings (wsV RX5 102 RX5 yX5_whoIs wsX5_whoIs) := goodIn_app (goodIn_of _ (by decide +kernel)) ggX5_strings_X5_whoIs
set_option maxRecDepth 20000 in
theorem ggX5_strings_X5_ones : GoodIn wsX5_strings wsX5_ones := goodIn_r _ [15] (by decide +kernel) (by decide +kernel)
set_option maxRecDepth 20000 in
theorem gX5_strings_X5_ones : GoodIn wsX5_strings (va_wsS RX5 105 yX5_ones wsX5_ones) := goodIn_app (goodIn_of _ (by decide +kernel)) ggX5_strings_X5_ones
set_option maxRecDepth 20000 in
theorem ggX5_strings_X5_power : GoodIn wsX5_strings wsX5_power := goodIn_r _ [18] (by decide +kernel) (by decide +kernel)
set_option maxRecDepth 20000 in
theorem gX5_strings_X5_power : GoodIn wsX5_strings (va_wsS RX5 228 yX5_power wsX5_power) := goodIn_app (goodIn_of _ (by decide +kernel)) ggX5_strings_X5_power
set_option maxRecDepth 20000 in
theorem ggX5_strings_X5_layTrial : GoodIn wsX5_strings wsX5_layTrial := goodIn_r _ [22, 12, 70, 71, 72, 73, 74, 75, 76, 77, 78, 79, 80, 81, 82, 83, 84, 85, 86, 87, 88, 89, 90, 91, 92, 93, 94, 95, 96, 97, 98] (by decide +kernel) (by decide +kernel)
set_option maxRecDepth 20000 in
theorem gX5_strings_X5_layTrial : GoodIn wsX5_strings (wsV RX5 164 RX5 yX5_layTrial wsX5_layTrial) := goodIn_app (goodIn_of _ (by decide +kernel)) ggX5_strings_X5_layTrial
set_option maxRecDepth 20000 in
theorem ggX5_strings_X5_makeSome : GoodIn wsX5_strings wsX5_makeSome := goodIn_r _ [26, 3, 12, 27, 28, 6, 29, 70, 71, 72, 73, 74, 75, 76, 77, 78, 79, 80, 81, 82, 83, 84, 85, 86, 87, 88, 89, 90, 91, 92, 93, 94, 95, 96, 97, 98] (by decide +kernel) (by decide +kernel)
set_option maxRecDepth 20000 in
theorem gX5_strings_X5_makeSome : GoodIn wsX5_strings (wsV RX5 173 RX5 yX5_makeSome wsX5_makeSome) := goodIn_app (goodIn_of _ (by decide +kernel)) ggX5_strings_X5_makeSome
set_option maxRecDepth 20000 in
theorem ggX5_strings_X5_goOn : GoodIn wsX5_strings wsX5_goOn := goodIn_r _ [33, 34, 35, 36, 6, 37, 12, 38, 39, 40, 41, 42, 43, 44, 45, 46, 47, 48, 8, 9, 10, 11, 3, 13, 14, 15, 49, 50, 51, 52, 53, 54, 55, 56, 57, 58, 59, 60, 61, 62, 4, 5, 7, 63, 64, 65, 66, 27, 28, 29, 70, 71, 72, 73, 74, 75, 76, 77, 78, 79, 80, 81, 82, 83, 84, 85, 86, 87, 88, 89, 90, 91, 92, 93, 94, 95, 96, 97, 98] (by decide +kernel) (by decide +kernel)
set_option maxRecDepth 20000 in
theorem gX5_strings_X5_goOn : GoodIn wsX5_strings (wsV RX5 167 RX5 yX5_goOn wsX5_goOn) := goodIn_app (goodIn_of _ (by decide +kernel)) ggX5_strings_X5_goOn
set_option maxRecDepth 20000 in
theorem ggX5_strings_X5_isSilent : GoodIn wsX5_strings wsX5_isSilent := goodIn_r _ [44, 12, 40, 45, 46, 47, 6, 48, 8, 9, 10, 11, 3, 13, 14, 15, 70, 71, 72, 73, 74, 75, 76, 77, 78, 79, 80, 81, 82, 83, 84, 85, 86, 87, 88, 89, 90, 91, 92, 93, 94, 95, 96, 97, 98] (by decide +kernel) (by decide +kernel)
set_option maxRecDepth 20000 in
theorem gX5_strings_X5_isSilent : GoodIn wsX5_strings (wsV RX5 120 RX5 yX5_isSilent wsX5_isSilent) := goodIn_app (goodIn_of _ (by decide +kernel)) ggX5_strings_X5_isSilent
set_option maxRecDepth 20000 in
theorem ggX5_strings_X5_common : GoodIn wsX5_strings wsX5_common := goodIn_r _ [69] (by decide +kernel) (by decide +kernel)
set_option maxRecDepth 20000 in
theorem gX5_strings_X5_common : GoodIn wsX5_strings (va_wsS RX5 211 yX5_common wsX5_common) := goodIn_app (goodIn_of _ (by decide +kernel)) ggX5_strings_X5_common
theorem dX5_strings_0 : decode cX5_strings 0 = .ok (.iload_n 1, 1) := by decide +kernel
theorem dX5_strings_1 : decode cX5_strings 1 = .ok (.i2l, 1) := by decide +kernel
theorem dX5_strings_2 : decode cX5_strings 2 = .ok (.lconst 0, 1) := by decide +kernel
theorem dX5_strings_3 : decode cX5_strings 3 = .ok (.ldc2_w 142, 3) := by decide +kernel
theorem dX5_strings_6 : decode cX5_strings 6 = .ok (.invokestatic 61, 3) := by decide +kernel
theorem dX5_strings_9 : decode cX5_strings 9 = .ok (.ifCond .eq 15, 3) := by decide +kernel
theorem dX5_strings_12 : decode cX5_strings 12 = .ok (.iload_n 2, 1) := by decide +kernel
theorem dX5_strings_13 : decode cX5_strings 13 = .ok (.i2l, 1) := by decide +kernel
theorem dX5_strings_14 : decode cX5_strings 14 = .ok (.lconst 0, 1) := by decide +kernel
theorem dX5_strings_15 : decode cX5_strings 15 = .ok (.ldc2_w 226, 3) := by decide +kernel
theorem dX5_strings_18 : decode cX5_strings 18 = .ok (.invokestatic 61, 3) := by decide +kernel
theorem dX5_strings_21 : decode cX5_strings 21 = .ok (.ifCond .ne 6, 3) := by decide +kernel
theorem dX5_strings_24 : decode cX5_strings 24 = .ok (.bipush (-2), 2) := by decide +kernel
theorem dX5_strings_26 : decode cX5_strings 26 = .ok (.ireturn, 1) := by decide +kernel
theorem dX5_strings_27 : decode cX5_strings 27 = .ok (.aload_n 0, 1) := by decide +kernel
theorem dX5_strings_28 : decode cX5_strings 28 = .ok (.iconst 0, 1) := by decide +kernel
theorem dX5_strings_29 : decode cX5_strings 29 = .ok (.iconst 0, 1) := by decide +kernel
theorem dX5_strings_30 : decode cX5_strings 30 = .ok (.invokevirtual 102, 3) := by decide +kernel
theorem dX5_strings_33 : decode cX5_strings 33 = .ok (.istore 4, 2) := by decide +kernel
theorem dX5_strings_35 : decode cX5_strings 35 = .ok (.iconst 0, 1) := by decide +kernel
theorem dX5_strings_36 : decode cX5_strings 36 = .ok (.istore 5, 2) := by decide +kernel
theorem dX5_strings_38 : decode cX5_strings 38 = .ok (.iconst 0, 1) := by decide +kernel
theorem dX5_strings_39 : decode cX5_strings 39 = .ok (.istore 6, 2) := by decide +kernel
theorem dX5_strings_41 : decode cX5_strings 41 = .ok (.iconst 0, 1) := by decide +kernel
theorem dX5_strings_42 : decode cX5_strings 42 = .ok (.istore 7, 2) := by decide +kernel
theorem dX5_strings_44 : decode cX5_strings 44 = .ok (.iload 7, 2) := by decide +kernel
theorem dX5_strings_46 : decode cX5_strings 46 = .ok (.iconst 1, 1) := by decide +kernel
theorem dX5_strings_47 : decode cX5_strings 47 = .ok (.aload_n 0, 1) := by decide +kernel
theorem dX5_strings_48 : decode cX5_strings 48 = .ok (.getfield 93, 3) := by decide +kernel
theorem dX5_strings_51 : decode cX5_strings 51 = .ok (.ishl, 1) := by decide +kernel
theorem dX5_strings_52 : decode cX5_strings 52 = .ok (.if_icmp .ge 92, 3) := by decide +kernel
theorem dX5_strings_55 : decode cX5_strings 55 = .ok (.iload 7, 2) := by decide +kernel
theorem dX5_strings_57 : decode cX5_strings 57 = .ok (.iload 4, 2) := by decide +kernel
theorem dX5_strings_59 : decode cX5_strings 59 = .ok (.iconst (-1), 1) := by decide +kernel
theorem dX5_strings_60 : decode cX5_strings 60 = .ok (.ixor, 1) := by decide +kernel
theorem dX5_strings_61 : decode cX5_strings 61 = .ok (.iand, 1) := by decide +kernel
theorem dX5_strings_62 : decode cX5_strings 62 = .ok (.ifCond .ne 76, 3) := by decide +kernel
theorem dX5_strings_65 : decode cX5_strings 65 = .ok (.iload_n 2, 1) := by decide +kernel
theorem dX5_strings_66 : decode cX5_strings 66 = .ok (.iload 7, 2) := by decide +kernel
theorem dX5_strings_68 : decode cX5_strings 68 = .ok (.invokestatic 105, 3) := by decide +kernel
theorem dX5_strings_71 : decode cX5_strings 71 = .ok (.invokestatic 228, 3) := by decide +kernel
theorem dX5_strings_74 : decode cX5_strings 74 = .ok (.bipush 10, 2) := by decide +kernel
theorem dX5_strings_76 : decode cX5_strings 76 = .ok (.iload_n 2, 1) := by decide +kernel
theorem dX5_strings_77 : decode cX5_strings 77 = .ok (.isub, 1) := by decide +kernel
theorem dX5_strings_78 : decode cX5_strings 78 = .ok (.iload 4, 2) := by decide +kernel
theorem dX5_strings_80 : decode cX5_strings 80 = .ok (.invokestatic 105, 3) := by decide +kernel
theorem dX5_strings_83 : decode cX5_strings 83 = .ok (.iload 7, 2) := by decide +kernel
theorem dX5_strings_85 : decode cX5_strings 85 = .ok (.invokestatic 105, 3) := by decide +kernel
theorem dX5_strings_88 : decode cX5_strings 88 = .ok (.isub, 1) := by decide +kernel
theorem dX5_strings_89 : decode cX5_strings 89 = .ok (.invokestatic 228, 3) := by decide +kernel
theorem dX5_strings_92 : decode cX5_strings 92 = .ok (.imul, 1) := by decide +kernel
theorem dX5_strings_93 : decode cX5_strings 93 = .ok (.istore 8, 2) := by decide +kernel
theorem dX5_strings_95 : decode cX5_strings 95 = .ok (.aload_n 0, 1) := by decide +kernel
theorem dX5_strings_96 : decode cX5_strings 96 = .ok (.invokevirtual 164, 3) := by decide +kernel
theorem dX5_strings_99 : decode cX5_strings 99 = .ok (.aload_n 0, 1) := by decide +kernel
theorem dX5_strings_100 : decode cX5_strings 100 = .ok (.iload 7, 2) := by decide +kernel
theorem dX5_strings_102 : decode cX5_strings 102 = .ok (.iconst 2, 1) := by decide +kernel
theorem dX5_strings_103 : decode cX5_strings 103 = .ok (.invokevirtual 173, 3) := by decide +kernel
theorem dX5_strings_106 : decode cX5_strings 106 = .ok (.aload_n 0, 1) := by decide +kernel
theorem dX5_strings_107 : decode cX5_strings 107 = .ok (.iload_n 1, 1) := by decide +kernel
theorem dX5_strings_108 : decode cX5_strings 108 = .ok (.invokevirtual 167, 3) := by decide +kernel
theorem dX5_strings_111 : decode cX5_strings 111 = .ok (.pop, 1) := by decide +kernel
theorem dX5_strings_112 : decode cX5_strings 112 = .ok (.iload 6, 2) := by decide +kernel
theorem dX5_strings_114 : decode cX5_strings 114 = .ok (.iload 8, 2) := by decide +kernel
theorem dX5_strings_116 : decode cX5_strings 116 = .ok (.iadd, 1) := by decide +kernel
theorem dX5_strings_117 : decode cX5_strings 117 = .ok (.istore 6, 2) := by decide +kernel
theorem dX5_strings_119 : decode cX5_strings 119 = .ok (.iload 5, 2) := by decide +kernel
theorem dX5_strings_121 : decode cX5_strings 121 = .ok (.aload_n 0, 1) := by decide +kernel
theorem dX5_strings_122 : decode cX5_strings 122 = .ok (.iconst 1, 1) := by decide +kernel
theorem dX5_strings_123 : decode cX5_strings 123 = .ok (.invokevirtual 120, 3) := by decide +kernel
theorem dX5_strings_126 : decode cX5_strings 126 = .ok (.ifCond .eq 8, 3) := by decide +kernel
theorem dX5_strings_129 : decode cX5_strings 129 = .ok (.iload 8, 2) := by decide +kernel
theorem dX5_strings_131 : decode cX5_strings 131 = .ok (.goto 4, 3) := by decide +kernel
theorem dX5_strings_134 : decode cX5_strings 134 = .ok (.iconst 0, 1) := by decide +kernel
theorem dX5_strings_135 : decode cX5_strings 135 = .ok (.iadd, 1) := by decide +kernel
theorem dX5_strings_136 : decode cX5_strings 136 = .ok (.istore 5, 2) := by decide +kernel
theorem dX5_strings_138 : decode cX5_strings 138 = .ok (.iinc 7 1, 3) := by decide +kernel
theorem dX5_strings_141 : decode cX5_strings 141 = .ok (.goto (-97), 3) := by decide +kernel
theorem dX5_strings_144 : decode cX5_strings 144 = .ok (.iload 5, 2) := by decide +kernel
theorem dX5_strings_146 : decode cX5_strings 146 = .ok (.iload 6, 2) := by decide +kernel
theorem dX5_strings_148 : decode cX5_strings 148 = .ok (.invokestatic 211, 3) := by decide +kernel
theorem dX5_strings_151 : decode cX5_strings 151 = .ok (.istore 7, 2) := by decide +kernel
theorem dX5_strings_153 : decode cX5_strings 153 = .ok (.iload_n 3, 1) := by decide +kernel
theorem dX5_strings_154 : decode cX5_strings 154 = .ok (.ifCond .eq 11, 3) := by decide +kernel
theorem dX5_strings_157 : decode cX5_strings 157 = .ok (.iload 5, 2) := by decide +kernel
theorem dX5_strings_159 : decode cX5_strings 159 = .ok (.iload 7, 2) := by decide +kernel
theorem dX5_strings_161 : decode cX5_strings 161 = .ok (.idiv, 1) := by decide +kernel
theorem dX5_strings_162 : decode cX5_strings 162 = .ok (.goto 8, 3) := by decide +kernel
theorem dX5_strings_165 : decode cX5_strings 165 = .ok (.iload 6, 2) := by decide +kernel
theorem dX5_strings_167 : decode cX5_strings 167 = .ok (.iload 7, 2) := by decide +kernel
theorem dX5_strings_169 : decode cX5_strings 169 = .ok (.idiv, 1) := by decide +kernel
theorem dX5_strings_170 : decode cX5_strings 170 = .ok (.ireturn, 1) := by decide +kernel
theorem dX5_seed_0 : decode cX5_seed 0 = .ok (.aload_n 0, 1) := by decide +kernel
theorem dX5_seed_1 : decode cX5_seed 1 = .ok (.getfield 231, 3) := by decide +kernel
theorem dX5_seed_4 : decode cX5_seed 4 = .ok (.lstore_n 3, 1) := by decide +kernel
theorem dX5_seed_5 : decode cX5_seed 5 = .ok (.aload_n 0, 1) := by decide +kernel
theorem dX5_seed_6 : decode cX5_seed 6 = .ok (.lload_n 1, 1) := by decide +kernel
theorem dX5_seed_7 : decode cX5_seed 7 = .ok (.putfield 231, 3) := by decide +kernel
theorem dX5_seed_10 : decode cX5_seed 10 = .ok (.lload_n 3, 1) := by decide +kernel
theorem dX5_seed_11 : decode cX5_seed 11 = .ok (.lreturn, 1) := by decide +kernel
set_option maxRecDepth 20000 in
theorem ggX5_nights_X5_in : GoodIn wsX5_nights wsX5_in := goodIn_r _ [9] (by decide +kernel) (by decide +kernel)
set_option maxRecDepth 20000 in
theorem gX5_nights_X5_in : GoodIn wsX5_nights (va_wsS RX5 61 yX5_in wsX5_in) := goodIn_app (goodIn_of _ (by decide +kernel)) ggX5_nights_X5_in
set_option maxRecDepth 20000 in
theorem ggX5_nights_X5_layTrial : GoodIn wsX5_nights wsX5_layTrial := goodIn_r _ [13, 14, 89, 90, 91, 92, 93, 94, 95, 96, 97, 98, 99, 100, 101, 102, 103, 104, 105, 106, 107, 108, 109, 110, 111, 112, 113, 114, 115, 116, 117] (by decide +kernel) (by decide +kernel)
set_option maxRecDepth 20000 in
theorem gX5_nights_X5_layTrial : GoodIn wsX5_nights (wsV RX5 164 RX5 yX5_layTrial wsX5_layTrial) := goodIn_app (goodIn_of _ (by decide +kernel)) ggX5_nights_X5_layTrial
set_option maxRecDepth 20000 in
theorem ggX5_nights_X5_passOn : GoodIn wsX5_nights wsX5_passOn := goodIn_r _ [18, 14, 19, 20, 21, 22, 23, 24, 8, 25, 26, 27, 28, 29, 30, 31, 32, 33, 34, 35, 36, 37, 38, 39, 40, 41, 42, 43, 44, 45, 46, 47, 48, 49, 50, 51, 6, 7, 9, 52, 53, 54, 55, 56, 57, 58, 89, 90, 91, 92, 93, 94, 95, 96, 97, 98, 99, 100, 101, 102, 103, 104, 105, 106, 107, 108, 109, 110, 111, 112, 113, 114, 115, 116, 117] (by decide +kernel) (by decide +kernel)
set_option maxRecDepth 20000 in
theorem gX5_nights_X5_passOn : GoodIn wsX5_nights (wsV RX5 139 RX5 yX5_passOn wsX5_passOn) := goodIn_app (goodIn_of _ (by decide +kernel)) ggX5_nights_X5_passOn
set_option maxRecDepth 20000 in
theorem ggX5_nights_X5_beginOn : GoodIn wsX5_nights wsX5_beginOn := goodIn_r _ [62, 14, 89, 90, 91, 92, 93, 94, 95, 96, 97, 98, 99, 100, 101, 102, 103, 104, 105, 106, 107, 108, 109, 110, 111, 112, 113, 114, 115, 116, 117] (by decide +kernel) (by decide +kernel)
set_option maxRecDepth 20000 in
theorem gX5_nights_X5_beginOn : GoodIn wsX5_nights (wsV RX5 159 RX5 yX5_beginOn wsX5_beginOn) := goodIn_app (goodIn_of _ (by decide +kernel)) ggX5_nights_X5_beginOn
set_option maxRecDepth 20000 in
theorem ggX5_nights_X5_giveOn : GoodIn wsX5_nights wsX5_giveOn := goodIn_r _ [66, 14, 89, 90, 91, 92, 93, 94, 95, 96, 97, 98, 99, 100, 101, 102, 103, 104, 105, 106, 107, 108, 109, 110, 111, 112, 113, 114, 115, 116, 117] (by decide +kernel) (by decide +kernel)
set_option maxRecDepth 20000 in
theorem gX5_nights_X5_giveOn : GoodIn wsX5_nights (wsV RX5 144 RX5 yX5_giveOn wsX5_giveOn) := goodIn_app (goodIn_of _ (by decide +kernel)) ggX5_nights_X5_giveOn
set_option maxRecDepth 20000 in
theorem ggX5_nights_X5_tryThing : GoodIn wsX5_nights wsX5_tryThing := goodIn_r _ [70, 14, 22, 23, 24, 8, 25, 21, 26, 27, 28, 29, 30, 31, 32, 33, 34, 35, 36, 37, 15, 16, 17, 18, 19, 20, 38, 39, 40, 41, 42, 43, 44, 45, 46, 47, 48, 49, 50, 51, 6, 7, 9, 52, 53, 54, 55, 56, 57, 58, 63, 64, 65, 66, 71, 72, 73, 74, 75, 76, 77, 78, 79, 80, 81, 82, 83, 84, 85, 86, 87, 88, 89, 90, 91, 92, 93, 94, 95, 96, 97, 98, 99, 100, 101, 102, 103, 104, 105, 106, 107, 108, 109, 110, 111, 112, 113, 114, 115, 116, 117] (by decide +kernel) (by decide +kernel)
set_option maxRecDepth 20000 in
theorem gX5_nights_X5_tryThing : GoodIn wsX5_nights (wsV RX5 195 RX5 yX5_tryThing wsX5_tryThing) := goodIn_app (goodIn_of _ (by decide +kernel)) ggX5_nights_X5_tryThing
set_option maxRecDepth 20000 in
theorem ggX5_nights_X5_howMany : GoodIn wsX5_nights wsX5_howMany := goodIn_r _ [29, 30, 31, 32, 8, 33, 34, 14, 35, 36, 37, 89, 90, 91, 92, 93, 94, 95, 96, 97, 98, 99, 100, 101, 102, 103, 104, 105, 106, 107, 108, 109, 110, 111, 112, 113, 114, 115, 116, 117] (by decide +kernel) (by decide +kernel)
set_option maxRecDepth 20000 in
theorem gX5_nights_X5_howMany : GoodIn wsX5_nights (wsV RX5 109 RX5 yX5_howMany wsX5_howMany) := goodIn_app (goodIn_of _ (by decide +kernel)) ggX5_nights_X5_howMany
theorem dX5_nights_0 : decode cX5_nights 0 = .ok (.iload_n 1, 1) := by decide +kernel
theorem dX5_nights_1 : decode cX5_nights 1 = .ok (.i2l, 1) := by decide +kernel
theorem dX5_nights_2 : decode cX5_nights 2 = .ok (.lconst 1, 1) := by decide +kernel
theorem dX5_nights_3 : decode cX5_nights 3 = .ok (.ldc2_w 162, 3) := by decide +kernel
theorem dX5_nights_6 : decode cX5_nights 6 = .ok (.invokestatic 61, 3) := by decide +kernel
theorem dX5_nights_9 : decode cX5_nights 9 = .ok (.ifCond .ne 6, 3) := by decide +kernel
theorem dX5_nights_12 : decode cX5_nights 12 = .ok (.bipush (-2), 2) := by decide +kernel
theorem dX5_nights_14 : decode cX5_nights 14 = .ok (.ireturn, 1) := by decide +kernel
theorem dX5_nights_15 : decode cX5_nights 15 = .ok (.aload_n 0, 1) := by decide +kernel
theorem dX5_nights_16 : decode cX5_nights 16 = .ok (.invokevirtual 164, 3) := by decide +kernel
theorem dX5_nights_19 : decode cX5_nights 19 = .ok (.iconst 0, 1) := by decide +kernel
theorem dX5_nights_20 : decode cX5_nights 20 = .ok (.istore_n 2, 1) := by decide +kernel
theorem dX5_nights_21 : decode cX5_nights 21 = .ok (.iconst 0, 1) := by decide +kernel
theorem dX5_nights_22 : decode cX5_nights 22 = .ok (.istore_n 3, 1) := by decide +kernel
theorem dX5_nights_23 : decode cX5_nights 23 = .ok (.iload_n 3, 1) := by decide +kernel
theorem dX5_nights_24 : decode cX5_nights 24 = .ok (.iload_n 1, 1) := by decide +kernel
theorem dX5_nights_25 : decode cX5_nights 25 = .ok (.if_icmp .ge 121, 3) := by decide +kernel
theorem dX5_nights_28 : decode cX5_nights 28 = .ok (.aload_n 0, 1) := by decide +kernel
theorem dX5_nights_29 : decode cX5_nights 29 = .ok (.aload_n 0, 1) := by decide +kernel
theorem dX5_nights_30 : decode cX5_nights 30 = .ok (.getfield 231, 3) := by decide +kernel
theorem dX5_nights_33 : decode cX5_nights 33 = .ok (.ldc2_w 235, 3) := by decide +kernel
theorem dX5_nights_36 : decode cX5_nights 36 = .ok (.lmul, 1) := by decide +kernel
theorem dX5_nights_37 : decode cX5_nights 37 = .ok (.ldc2_w 237, 3) := by decide +kernel
theorem dX5_nights_40 : decode cX5_nights 40 = .ok (.ladd, 1) := by decide +kernel
theorem dX5_nights_41 : decode cX5_nights 41 = .ok (.putfield 231, 3) := by decide +kernel
theorem dX5_nights_44 : decode cX5_nights 44 = .ok (.aload_n 0, 1) := by decide +kernel
theorem dX5_nights_45 : decode cX5_nights 45 = .ok (.getfield 231, 3) := by decide +kernel
theorem dX5_nights_48 : decode cX5_nights 48 = .ok (.bipush 33, 2) := by decide +kernel
theorem dX5_nights_50 : decode cX5_nights 50 = .ok (.lushr, 1) := by decide +kernel
theorem dX5_nights_51 : decode cX5_nights 51 = .ok (.ldc2_w 239, 3) := by decide +kernel
theorem dX5_nights_54 : decode cX5_nights 54 = .ok (.lrem, 1) := by decide +kernel
theorem dX5_nights_55 : decode cX5_nights 55 = .ok (.l2i, 1) := by decide +kernel
theorem dX5_nights_56 : decode cX5_nights 56 = .ok (.istore 4, 2) := by decide +kernel
theorem dX5_nights_58 : decode cX5_nights 58 = .ok (.iload 4, 2) := by decide +kernel
theorem dX5_nights_60 : decode cX5_nights 60 = .ok (.bipush 15, 2) := by decide +kernel
theorem dX5_nights_62 : decode cX5_nights 62 = .ok (.if_icmp .le 12, 3) := by decide +kernel
theorem dX5_nights_65 : decode cX5_nights 65 = .ok (.aload_n 0, 1) := by decide +kernel
theorem dX5_nights_66 : decode cX5_nights 66 = .ok (.iconst 1, 1) := by decide +kernel
theorem dX5_nights_67 : decode cX5_nights 67 = .ok (.invokevirtual 139, 3) := by decide +kernel
theorem dX5_nights_70 : decode cX5_nights 70 = .ok (.pop, 1) := by decide +kernel
theorem dX5_nights_71 : decode cX5_nights 71 = .ok (.goto 61, 3) := by decide +kernel
theorem dX5_nights_74 : decode cX5_nights 74 = .ok (.iload 4, 2) := by decide +kernel
theorem dX5_nights_76 : decode cX5_nights 76 = .ok (.bipush 15, 2) := by decide +kernel
theorem dX5_nights_78 : decode cX5_nights 78 = .ok (.if_icmp .ne 11, 3) := by decide +kernel
theorem dX5_nights_81 : decode cX5_nights 81 = .ok (.aload_n 0, 1) := by decide +kernel
theorem dX5_nights_82 : decode cX5_nights 82 = .ok (.iconst 1, 1) := by decide +kernel
theorem dX5_nights_83 : decode cX5_nights 83 = .ok (.invokevirtual 159, 3) := by decide +kernel
theorem dX5_nights_86 : decode cX5_nights 86 = .ok (.goto 46, 3) := by decide +kernel
theorem dX5_nights_89 : decode cX5_nights 89 = .ok (.iload 4, 2) := by decide +kernel
theorem dX5_nights_91 : decode cX5_nights 91 = .ok (.bipush 11, 2) := by decide +kernel
theorem dX5_nights_93 : decode cX5_nights 93 = .ok (.if_icmp .le 16, 3) := by decide +kernel
theorem dX5_nights_96 : decode cX5_nights 96 = .ok (.aload_n 0, 1) := by decide +kernel
theorem dX5_nights_97 : decode cX5_nights 97 = .ok (.iconst 1, 1) := by decide +kernel
theorem dX5_nights_98 : decode cX5_nights 98 = .ok (.iload 4, 2) := by decide +kernel
theorem dX5_nights_100 : decode cX5_nights 100 = .ok (.bipush 11, 2) := by decide +kernel
theorem dX5_nights_102 : decode cX5_nights 102 = .ok (.isub, 1) := by decide +kernel
theorem dX5_nights_103 : decode cX5_nights 103 = .ok (.invokevirtual 144, 3) := by decide +kernel
theorem dX5_nights_106 : decode cX5_nights 106 = .ok (.goto 26, 3) := by decide +kernel
theorem dX5_nights_109 : decode cX5_nights 109 = .ok (.aload_n 0, 1) := by decide +kernel
theorem dX5_nights_110 : decode cX5_nights 110 = .ok (.iload 4, 2) := by decide +kernel
theorem dX5_nights_112 : decode cX5_nights 112 = .ok (.bipush 6, 2) := by decide +kernel
theorem dX5_nights_114 : decode cX5_nights 114 = .ok (.if_icmp .ge 7, 3) := by decide +kernel
theorem dX5_nights_117 : decode cX5_nights 117 = .ok (.iconst 2, 1) := by decide +kernel
theorem dX5_nights_118 : decode cX5_nights 118 = .ok (.goto 4, 3) := by decide +kernel
theorem dX5_nights_121 : decode cX5_nights 121 = .ok (.iconst 3, 1) := by decide +kernel
theorem dX5_nights_122 : decode cX5_nights 122 = .ok (.iconst 0, 1) := by decide +kernel
theorem dX5_nights_123 : decode cX5_nights 123 = .ok (.iload 4, 2) := by decide +kernel
theorem dX5_nights_125 : decode cX5_nights 125 = .ok (.bipush 6, 2) := by decide +kernel
theorem dX5_nights_127 : decode cX5_nights 127 = .ok (.irem, 1) := by decide +kernel
theorem dX5_nights_128 : decode cX5_nights 128 = .ok (.invokevirtual 195, 3) := by decide +kernel
theorem dX5_nights_131 : decode cX5_nights 131 = .ok (.pop, 1) := by decide +kernel
theorem dX5_nights_132 : decode cX5_nights 132 = .ok (.iload_n 2, 1) := by decide +kernel
theorem dX5_nights_133 : decode cX5_nights 133 = .ok (.aload_n 0, 1) := by decide +kernel
theorem dX5_nights_134 : decode cX5_nights 134 = .ok (.iconst 1, 1) := by decide +kernel
theorem dX5_nights_135 : decode cX5_nights 135 = .ok (.invokevirtual 109, 3) := by decide +kernel
theorem dX5_nights_138 : decode cX5_nights 138 = .ok (.iadd, 1) := by decide +kernel
theorem dX5_nights_139 : decode cX5_nights 139 = .ok (.istore_n 2, 1) := by decide +kernel
theorem dX5_nights_140 : decode cX5_nights 140 = .ok (.iinc 3 1, 3) := by decide +kernel
theorem dX5_nights_143 : decode cX5_nights 143 = .ok (.goto (-120), 3) := by decide +kernel
theorem dX5_nights_146 : decode cX5_nights 146 = .ok (.iload_n 2, 1) := by decide +kernel
theorem dX5_nights_147 : decode cX5_nights 147 = .ok (.ireturn, 1) := by decide +kernel
set_option maxRecDepth 20000 in
theorem ggX5_keep_X5_in : GoodIn wsX5_keep wsX5_in := goodIn_r _ [7] (by decide +kernel) (by decide +kernel)
set_option maxRecDepth 20000 in
theorem gX5_keep_X5_in : GoodIn wsX5_keep (va_wsS RX5 61 yX5_in wsX5_in) := goodIn_app (goodIn_of _ (by decide +kernel)) ggX5_keep_X5_in
theorem dX5_keep_0 : decode cX5_keep 0 = .ok (.iload_n 1, 1) := by decide +kernel
theorem dX5_keep_1 : decode cX5_keep 1 = .ok (.i2l, 1) := by decide +kernel
theorem dX5_keep_2 : decode cX5_keep 2 = .ok (.lconst 0, 1) := by decide +kernel
theorem dX5_keep_3 : decode cX5_keep 3 = .ok (.lconst 1, 1) := by decide +kernel
theorem dX5_keep_4 : decode cX5_keep 4 = .ok (.invokestatic 61, 3) := by decide +kernel
theorem dX5_keep_7 : decode cX5_keep 7 = .ok (.ifCond .ne 5, 3) := by decide +kernel
theorem dX5_keep_10 : decode cX5_keep 10 = .ok (.iconst (-1), 1) := by decide +kernel
theorem dX5_keep_11 : decode cX5_keep 11 = .ok (.ireturn, 1) := by decide +kernel
theorem dX5_keep_12 : decode cX5_keep 12 = .ok (.aload_n 0, 1) := by decide +kernel
theorem dX5_keep_13 : decode cX5_keep 13 = .ok (.getfield 52, 3) := by decide +kernel
theorem dX5_keep_16 : decode cX5_keep 16 = .ok (.iload_n 1, 1) := by decide +kernel
theorem dX5_keep_17 : decode cX5_keep 17 = .ok (.iconst 1, 1) := by decide +kernel
theorem dX5_keep_18 : decode cX5_keep 18 = .ok (.bastore, 1) := by decide +kernel
theorem dX5_keep_19 : decode cX5_keep 19 = .ok (.iconst 0, 1) := by decide +kernel
theorem dX5_keep_20 : decode cX5_keep 20 = .ok (.istore_n 2, 1) := by decide +kernel
theorem dX5_keep_21 : decode cX5_keep 21 = .ok (.iload_n 2, 1) := by decide +kernel
theorem dX5_keep_22 : decode cX5_keep 22 = .ok (.bipush 16, 2) := by decide +kernel
theorem dX5_keep_24 : decode cX5_keep 24 = .ok (.if_icmp .ge 26, 3) := by decide +kernel
theorem dX5_keep_27 : decode cX5_keep 27 = .ok (.aload_n 0, 1) := by decide +kernel
theorem dX5_keep_28 : decode cX5_keep 28 = .ok (.getfield 56, 3) := by decide +kernel
theorem dX5_keep_31 : decode cX5_keep 31 = .ok (.bipush 16, 2) := by decide +kernel
theorem dX5_keep_33 : decode cX5_keep 33 = .ok (.iload_n 1, 1) := by decide +kernel
theorem dX5_keep_34 : decode cX5_keep 34 = .ok (.imul, 1) := by decide +kernel
theorem dX5_keep_35 : decode cX5_keep 35 = .ok (.iload_n 2, 1) := by decide +kernel
theorem dX5_keep_36 : decode cX5_keep 36 = .ok (.iadd, 1) := by decide +kernel
theorem dX5_keep_37 : decode cX5_keep 37 = .ok (.aload_n 0, 1) := by decide +kernel
theorem dX5_keep_38 : decode cX5_keep 38 = .ok (.getfield 28, 3) := by decide +kernel
theorem dX5_keep_41 : decode cX5_keep 41 = .ok (.iload_n 2, 1) := by decide +kernel
theorem dX5_keep_42 : decode cX5_keep 42 = .ok (.iaload, 1) := by decide +kernel
theorem dX5_keep_43 : decode cX5_keep 43 = .ok (.iastore, 1) := by decide +kernel
theorem dX5_keep_44 : decode cX5_keep 44 = .ok (.iinc 2 1, 3) := by decide +kernel
theorem dX5_keep_47 : decode cX5_keep 47 = .ok (.goto (-26), 3) := by decide +kernel
theorem dX5_keep_50 : decode cX5_keep 50 = .ok (.aload_n 0, 1) := by decide +kernel
theorem dX5_keep_51 : decode cX5_keep 51 = .ok (.getfield 28, 3) := by decide +kernel
theorem dX5_keep_54 : decode cX5_keep 54 = .ok (.bipush 15, 2) := by decide +kernel
theorem dX5_keep_56 : decode cX5_keep 56 = .ok (.iaload, 1) := by decide +kernel
theorem dX5_keep_57 : decode cX5_keep 57 = .ok (.ireturn, 1) := by decide +kernel
set_option maxRecDepth 20000 in
theorem ggX5_again_X5_in : GoodIn wsX5_again wsX5_in := goodIn_r _ [8] (by decide +kernel) (by decide +kernel)
set_option maxRecDepth 20000 in
theorem gX5_again_X5_in : GoodIn wsX5_again (va_wsS RX5 61 yX5_in wsX5_in) := goodIn_app (goodIn_of _ (by decide +kernel)) ggX5_again_X5_in
theorem dX5_again_0 : decode cX5_again 0 = .ok (.iload_n 1, 1) := by decide +kernel
theorem dX5_again_1 : decode cX5_again 1 = .ok (.i2l, 1) := by decide +kernel
theorem dX5_again_2 : decode cX5_again 2 = .ok (.lconst 0, 1) := by decide +kernel
theorem dX5_again_3 : decode cX5_again 3 = .ok (.lconst 1, 1) := by decide +kernel
theorem dX5_again_4 : decode cX5_again 4 = .ok (.invokestatic 61, 3) := by decide +kernel
theorem dX5_again_7 : decode cX5_again 7 = .ok (.ifCond .ne 5, 3) := by decide +kernel
theorem dX5_again_10 : decode cX5_again 10 = .ok (.iconst (-1), 1) := by decide +kernel
theorem dX5_again_11 : decode cX5_again 11 = .ok (.ireturn, 1) := by decide +kernel
theorem dX5_again_12 : decode cX5_again 12 = .ok (.aload_n 0, 1) := by decide +kernel
theorem dX5_again_13 : decode cX5_again 13 = .ok (.getfield 52, 3) := by decide +kernel
theorem dX5_again_16 : decode cX5_again 16 = .ok (.iload_n 1, 1) := by decide +kernel
theorem dX5_again_17 : decode cX5_again 17 = .ok (.baload, 1) := by decide +kernel
theorem dX5_again_18 : decode cX5_again 18 = .ok (.ifCond .ne 6, 3) := by decide +kernel
theorem dX5_again_21 : decode cX5_again 21 = .ok (.bipush (-3), 2) := by decide +kernel
theorem dX5_again_23 : decode cX5_again 23 = .ok (.ireturn, 1) := by decide +kernel
theorem dX5_again_24 : decode cX5_again 24 = .ok (.iconst 0, 1) := by decide +kernel
theorem dX5_again_25 : decode cX5_again 25 = .ok (.istore_n 2, 1) := by decide +kernel
theorem dX5_again_26 : decode cX5_again 26 = .ok (.iload_n 2, 1) := by decide +kernel
theorem dX5_again_27 : decode cX5_again 27 = .ok (.bipush 16, 2) := by decide +kernel
theorem dX5_again_29 : decode cX5_again 29 = .ok (.if_icmp .ge 26, 3) := by decide +kernel
theorem dX5_again_32 : decode cX5_again 32 = .ok (.aload_n 0, 1) := by decide +kernel
theorem dX5_again_33 : decode cX5_again 33 = .ok (.getfield 28, 3) := by decide +kernel
theorem dX5_again_36 : decode cX5_again 36 = .ok (.iload_n 2, 1) := by decide +kernel
theorem dX5_again_37 : decode cX5_again 37 = .ok (.aload_n 0, 1) := by decide +kernel
theorem dX5_again_38 : decode cX5_again 38 = .ok (.getfield 56, 3) := by decide +kernel
theorem dX5_again_41 : decode cX5_again 41 = .ok (.bipush 16, 2) := by decide +kernel
theorem dX5_again_43 : decode cX5_again 43 = .ok (.iload_n 1, 1) := by decide +kernel
theorem dX5_again_44 : decode cX5_again 44 = .ok (.imul, 1) := by decide +kernel
theorem dX5_again_45 : decode cX5_again 45 = .ok (.iload_n 2, 1) := by decide +kernel
theorem dX5_again_46 : decode cX5_again 46 = .ok (.iadd, 1) := by decide +kernel
theorem dX5_again_47 : decode cX5_again 47 = .ok (.iaload, 1) := by decide +kernel
theorem dX5_again_48 : decode cX5_again 48 = .ok (.iastore, 1) := by decide +kernel
theorem dX5_again_49 : decode cX5_again 49 = .ok (.iinc 2 1, 3) := by decide +kernel
theorem dX5_again_52 : decode cX5_again 52 = .ok (.goto (-26), 3) := by decide +kernel
theorem dX5_again_55 : decode cX5_again 55 = .ok (.aload_n 0, 1) := by decide +kernel
theorem dX5_again_56 : decode cX5_again 56 = .ok (.iconst 0, 1) := by decide +kernel
theorem dX5_again_57 : decode cX5_again 57 = .ok (.putfield 99, 3) := by decide +kernel
theorem dX5_again_60 : decode cX5_again 60 = .ok (.aload_n 0, 1) := by decide +kernel
theorem dX5_again_61 : decode cX5_again 61 = .ok (.getfield 28, 3) := by decide +kernel
theorem dX5_again_64 : decode cX5_again 64 = .ok (.bipush 15, 2) := by decide +kernel
theorem dX5_again_66 : decode cX5_again 66 = .ok (.iaload, 1) := by decide +kernel
theorem dX5_again_67 : decode cX5_again 67 = .ok (.ireturn, 1) := by decide +kernel
set_option maxRecDepth 20000 in
theorem ggX5_count_X5_whoIs : GoodIn wsX5_count wsX5_whoIs := goodIn_r _ [11, 2, 4, 27, 28, 29, 30, 31, 32, 33, 34, 35, 36, 37, 38, 39, 40, 41, 42, 43, 44, 45, 46, 47, 48, 49, 50, 51, 52, 53, 54, 55] (by decide +kernel) (by decide +kernel)
set_option maxRecDepth 20000 in
theorem gX5_count_X5_whoIs : GoodIn wsX5_count (wsV RX5 102 RX5 yX5_whoIs wsX5_whoIs) := goodIn_app (goodIn_of _ (by decide +kernel)) ggX5_count_X5_whoIs
set_option maxRecDepth 20000 in
theorem ggX5_count_X5_nextBar : GoodIn wsX5_count wsX5_nextBar := goodIn_r _ [15, 4, 16, 17, 18, 10, 19, 3, 20, 21, 22, 23, 7, 8, 9, 11, 2, 24, 25, 26, 27, 28, 29, 30, 31, 32, 33, 34, 35, 36, 37, 38, 39, 40, 41, 42, 43, 44, 45, 46, 47, 48, 49, 50, 51, 52, 53, 54, 55] (by decide +kernel) (by decide +kernel)
set_option maxRecDepth 20000 in
theorem gX5_count_X5_nextBar : GoodIn wsX5_count (wsV RX5 170 RX5 yX5_nextBar wsX5_nextBar) := goodIn_app (goodIn_of _ (by decide +kernel)) ggX5_count_X5_nextBar
theorem dX5_count_0 : decode cX5_count 0 = .ok (.iload_n 1, 1) := by decide +kernel
theorem dX5_count_1 : decode cX5_count 1 = .ok (.tableswitch 127 0 11 #[63, 68, 73, 78, 86, 94, 94, 94, 103, 109, 117, 122], 63) := by decide +kernel
theorem dX5_count_64 : decode cX5_count 64 = .ok (.aload_n 0, 1) := by decide +kernel
theorem dX5_count_65 : decode cX5_count 65 = .ok (.getfield 65, 3) := by decide +kernel
theorem dX5_count_68 : decode cX5_count 68 = .ok (.ireturn, 1) := by decide +kernel
theorem dX5_count_69 : decode cX5_count 69 = .ok (.aload_n 0, 1) := by decide +kernel
theorem dX5_count_70 : decode cX5_count 70 = .ok (.getfield 93, 3) := by decide +kernel
theorem dX5_count_73 : decode cX5_count 73 = .ok (.ireturn, 1) := by decide +kernel
theorem dX5_count_74 : decode cX5_count 74 = .ok (.aload_n 0, 1) := by decide +kernel
theorem dX5_count_75 : decode cX5_count 75 = .ok (.getfield 96, 3) := by decide +kernel
theorem dX5_count_78 : decode cX5_count 78 = .ok (.ireturn, 1) := by decide +kernel
theorem dX5_count_79 : decode cX5_count 79 = .ok (.aload_n 0, 1) := by decide +kernel
theorem dX5_count_80 : decode cX5_count 80 = .ok (.getfield 28, 3) := by decide +kernel
theorem dX5_count_83 : decode cX5_count 83 = .ok (.bipush 15, 2) := by decide +kernel
theorem dX5_count_85 : decode cX5_count 85 = .ok (.iaload, 1) := by decide +kernel
theorem dX5_count_86 : decode cX5_count 86 = .ok (.ireturn, 1) := by decide +kernel
theorem dX5_count_87 : decode cX5_count 87 = .ok (.aload_n 0, 1) := by decide +kernel
theorem dX5_count_88 : decode cX5_count 88 = .ok (.getfield 28, 3) := by decide +kernel
theorem dX5_count_91 : decode cX5_count 91 = .ok (.bipush 14, 2) := by decide +kernel
theorem dX5_count_93 : decode cX5_count 93 = .ok (.iaload, 1) := by decide +kernel
theorem dX5_count_94 : decode cX5_count 94 = .ok (.ireturn, 1) := by decide +kernel
theorem dX5_count_95 : decode cX5_count 95 = .ok (.aload_n 0, 1) := by decide +kernel
theorem dX5_count_96 : decode cX5_count 96 = .ok (.iconst 0, 1) := by decide +kernel
theorem dX5_count_97 : decode cX5_count 97 = .ok (.iload_n 1, 1) := by decide +kernel
theorem dX5_count_98 : decode cX5_count 98 = .ok (.iconst 5, 1) := by decide +kernel
theorem dX5_count_99 : decode cX5_count 99 = .ok (.isub, 1) := by decide +kernel
theorem dX5_count_100 : decode cX5_count 100 = .ok (.invokevirtual 102, 3) := by decide +kernel
theorem dX5_count_103 : decode cX5_count 103 = .ok (.ireturn, 1) := by decide +kernel
theorem dX5_count_104 : decode cX5_count 104 = .ok (.aload_n 0, 1) := by decide +kernel
theorem dX5_count_105 : decode cX5_count 105 = .ok (.iconst 0, 1) := by decide +kernel
theorem dX5_count_106 : decode cX5_count 106 = .ok (.invokevirtual 170, 3) := by decide +kernel
theorem dX5_count_109 : decode cX5_count 109 = .ok (.ireturn, 1) := by decide +kernel
theorem dX5_count_110 : decode cX5_count 110 = .ok (.aload_n 0, 1) := by decide +kernel
theorem dX5_count_111 : decode cX5_count 111 = .ok (.getfield 28, 3) := by decide +kernel
theorem dX5_count_114 : decode cX5_count 114 = .ok (.bipush 13, 2) := by decide +kernel
theorem dX5_count_116 : decode cX5_count 116 = .ok (.iaload, 1) := by decide +kernel
theorem dX5_count_117 : decode cX5_count 117 = .ok (.ireturn, 1) := by decide +kernel
theorem dX5_count_118 : decode cX5_count 118 = .ok (.aload_n 0, 1) := by decide +kernel
theorem dX5_count_119 : decode cX5_count 119 = .ok (.getfield 99, 3) := by decide +kernel
theorem dX5_count_122 : decode cX5_count 122 = .ok (.ireturn, 1) := by decide +kernel
theorem dX5_count_123 : decode cX5_count 123 = .ok (.aload_n 0, 1) := by decide +kernel
theorem dX5_count_124 : decode cX5_count 124 = .ok (.getfield 199, 3) := by decide +kernel
theorem dX5_count_127 : decode cX5_count 127 = .ok (.ireturn, 1) := by decide +kernel
theorem dX5_count_128 : decode cX5_count 128 = .ok (.bipush (-2), 2) := by decide +kernel
theorem dX5_count_130 : decode cX5_count 130 = .ok (.ireturn, 1) := by decide +kernel
