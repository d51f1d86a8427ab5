set_option maxRecDepth 20000 in
theorem gX10_markBehindPass_X10_markStart : GoodIn wsX10_markBehindPass (wsV RX10 77 RX10 yX10_markStart wsX10_markStart) := goodIn_app (goodIn_of _ (by decide +kernel)) ggX10_markBehindPass_X10_markStart
set_option maxRecDepth 20000 in
theorem ggX10_markBehindPass_X6_setAct : GoodIn wsX10_markBehindPass wsX6_setAct := goodIn_r _ [45, 46, 47, 48, 44, 49, 76, 77, 78, 79, 80, 81, 82] (by decide +kernel) (by decide +kernel)
set_option maxRecDepth 20000 in
theorem gX10_markBehindPass_X6_setAct : GoodIn wsX10_markBehindPass (wsV RX10 50 RX6 yX6_setAct wsX6_setAct) := goodIn_app (goodIn_of _ (by decide +kernel)) ggX10_markBehindPass_X6_setAct
theorem dX10_markBehindPass_0 : decode cX10_markBehindPass 0 = .ok (.iload_n 1, 1) := by decide +kernel
theorem dX10_markBehindPass_1 : decode cX10_markBehindPass 1 = .ok (.invokestatic 84, 3) := by decide +kernel
theorem dX10_markBehindPass_4 : decode cX10_markBehindPass 4 = .ok (.istore 5, 2) := by decide +kernel
theorem dX10_markBehindPass_6 : decode cX10_markBehindPass 6 = .ok (.aload_n 0, 1) := by decide +kernel
theorem dX10_markBehindPass_7 : decode cX10_markBehindPass 7 = .ok (.getfield 9, 3) := by decide +kernel
theorem dX10_markBehindPass_10 : decode cX10_markBehindPass 10 = .ok (.iload_n 2, 1) := by decide +kernel
theorem dX10_markBehindPass_11 : decode cX10_markBehindPass 11 = .ok (.iload_n 1, 1) := by decide +kernel
theorem dX10_markBehindPass_12 : decode cX10_markBehindPass 12 = .ok (.invokestatic 87, 3) := by decide +kernel
theorem dX10_markBehindPass_15 : decode cX10_markBehindPass 15 = .ok (.iload 5, 2) := by decide +kernel
theorem dX10_markBehindPass_17 : decode cX10_markBehindPass 17 = .ok (.aload_n 0, 1) := by decide +kernel
theorem dX10_markBehindPass_18 : decode cX10_markBehindPass 18 = .ok (.getfield 35, 3) := by decide +kernel
theorem dX10_markBehindPass_21 : decode cX10_markBehindPass 21 = .ok (.invokevirtual 90, 3) := by decide +kernel
theorem dX10_markBehindPass_24 : decode cX10_markBehindPass 24 = .ok (.istore 6, 2) := by decide +kernel
theorem dX10_markBehindPass_26 : decode cX10_markBehindPass 26 = .ok (.aload_n 0, 1) := by decide +kernel
theorem dX10_markBehindPass_27 : decode cX10_markBehindPass 27 = .ok (.getfield 9, 3) := by decide +kernel
theorem dX10_markBehindPass_30 : decode cX10_markBehindPass 30 = .ok (.iload 4, 2) := by decide +kernel
theorem dX10_markBehindPass_32 : decode cX10_markBehindPass 32 = .ok (.iload 6, 2) := by decide +kernel
theorem dX10_markBehindPass_34 : decode cX10_markBehindPass 34 = .ok (.invokevirtual 94, 3) := by decide +kernel
theorem dX10_markBehindPass_37 : decode cX10_markBehindPass 37 = .ok (.istore 7, 2) := by decide +kernel
theorem dX10_markBehindPass_39 : decode cX10_markBehindPass 39 = .ok (.iload 7, 2) := by decide +kernel
theorem dX10_markBehindPass_41 : decode cX10_markBehindPass 41 = .ok (.ifCond .le 11, 3) := by decide +kernel
theorem dX10_markBehindPass_44 : decode cX10_markBehindPass 44 = .ok (.aload_n 0, 1) := by decide +kernel
theorem dX10_markBehindPass_45 : decode cX10_markBehindPass 45 = .ok (.iload_n 2, 1) := by decide +kernel
theorem dX10_markBehindPass_46 : decode cX10_markBehindPass 46 = .ok (.iconst 1, 1) := by decide +kernel
theorem dX10_markBehindPass_47 : decode cX10_markBehindPass 47 = .ok (.iadd, 1) := by decide +kernel
theorem dX10_markBehindPass_48 : decode cX10_markBehindPass 48 = .ok (.iconst 0, 1) := by decide +kernel
theorem dX10_markBehindPass_49 : decode cX10_markBehindPass 49 = .ok (.invokevirtual 77, 3) := by decide +kernel
theorem dX10_markBehindPass_52 : decode cX10_markBehindPass 52 = .ok (.iload 7, 2) := by decide +kernel
theorem dX10_markBehindPass_54 : decode cX10_markBehindPass 54 = .ok (.bipush 100, 2) := by decide +kernel
theorem dX10_markBehindPass_56 : decode cX10_markBehindPass 56 = .ok (.if_icmp .ge 30, 3) := by decide +kernel
theorem dX10_markBehindPass_59 : decode cX10_markBehindPass 59 = .ok (.iload 5, 2) := by decide +kernel
theorem dX10_markBehindPass_61 : decode cX10_markBehindPass 61 = .ok (.iload_n 3, 1) := by decide +kernel
theorem dX10_markBehindPass_62 : decode cX10_markBehindPass 62 = .ok (.if_icmp .ge 24, 3) := by decide +kernel
theorem dX10_markBehindPass_65 : decode cX10_markBehindPass 65 = .ok (.aload_n 0, 1) := by decide +kernel
theorem dX10_markBehindPass_66 : decode cX10_markBehindPass 66 = .ok (.getfield 24, 3) := by decide +kernel
theorem dX10_markBehindPass_69 : decode cX10_markBehindPass 69 = .ok (.iload_n 2, 1) := by decide +kernel
theorem dX10_markBehindPass_70 : decode cX10_markBehindPass 70 = .ok (.iload_n 3, 1) := by decide +kernel
theorem dX10_markBehindPass_71 : decode cX10_markBehindPass 71 = .ok (.iload 5, 2) := by decide +kernel
theorem dX10_markBehindPass_73 : decode cX10_markBehindPass 73 = .ok (.isub, 1) := by decide +kernel
theorem dX10_markBehindPass_74 : decode cX10_markBehindPass 74 = .ok (.iload 4, 2) := by decide +kernel
theorem dX10_markBehindPass_76 : decode cX10_markBehindPass 76 = .ok (.iload 6, 2) := by decide +kernel
theorem dX10_markBehindPass_78 : decode cX10_markBehindPass 78 = .ok (.iadd, 1) := by decide +kernel
theorem dX10_markBehindPass_79 : decode cX10_markBehindPass 79 = .ok (.iconst 0, 1) := by decide +kernel
theorem dX10_markBehindPass_80 : decode cX10_markBehindPass 80 = .ok (.invokevirtual 50, 3) := by decide +kernel
theorem dX10_markBehindPass_83 : decode cX10_markBehindPass 83 = .ok (.goto 22, 3) := by decide +kernel
theorem dX10_markBehindPass_86 : decode cX10_markBehindPass 86 = .ok (.iload 7, 2) := by decide +kernel
theorem dX10_markBehindPass_88 : decode cX10_markBehindPass 88 = .ok (.bipush 100, 2) := by decide +kernel
theorem dX10_markBehindPass_90 : decode cX10_markBehindPass 90 = .ok (.if_icmp .ge 15, 3) := by decide +kernel
theorem dX10_markBehindPass_93 : decode cX10_markBehindPass 93 = .ok (.aload_n 0, 1) := by decide +kernel
theorem dX10_markBehindPass_94 : decode cX10_markBehindPass 94 = .ok (.iload_n 2, 1) := by decide +kernel
theorem dX10_markBehindPass_95 : decode cX10_markBehindPass 95 = .ok (.iconst 1, 1) := by decide +kernel
theorem dX10_markBehindPass_96 : decode cX10_markBehindPass 96 = .ok (.iadd, 1) := by decide +kernel
theorem dX10_markBehindPass_97 : decode cX10_markBehindPass 97 = .ok (.iload 4, 2) := by decide +kernel
theorem dX10_markBehindPass_99 : decode cX10_markBehindPass 99 = .ok (.iload 6, 2) := by decide +kernel
theorem dX10_markBehindPass_101 : decode cX10_markBehindPass 101 = .ok (.iadd, 1) := by decide +kernel
theorem dX10_markBehindPass_102 : decode cX10_markBehindPass 102 = .ok (.invokevirtual 77, 3) := by decide +kernel
theorem dX10_markBehindPass_105 : decode cX10_markBehindPass 105 = .ok (.return_, 1) := by decide +kernel
set_option maxRecDepth 20000 in
theorem ggX10_markStart_X0_hasPiece : GoodIn wsX10_markStart wsX0_hasPiece := goodIn_r _ [7, 8, 9, 10, 11, 37, 38, 39, 40, 41, 42, 43, 44, 45, 46, 47, 48, 49, 50, 51, 52, 53] (by decide +kernel) (by decide +kernel)
set_option maxRecDepth 20000 in
theorem gX10_markStart_X0_hasPiece : GoodIn wsX10_markStart (wsV RX10 98 RX0 yX0_hasPiece wsX0_hasPiece) := goodIn_app (goodIn_of _ (by decide +kernel)) ggX10_markStart_X0_hasPiece
set_option maxRecDepth 20000 in
theorem ggX10_markStart_X0_stepsOf : GoodIn wsX10_markStart wsX0_stepsOf := goodIn_r _ [15, 16, 17, 10, 18, 37, 38, 39, 40, 41, 42, 43, 44, 45, 46, 47, 48, 49, 50, 51, 52, 53] (by decide +kernel) (by decide +kernel)
set_option maxRecDepth 20000 in
theorem gX10_markStart_X0_stepsOf : GoodIn wsX10_markStart (wsV RX10 59 RX0 yX0_stepsOf wsX0_stepsOf) := goodIn_app (goodIn_of _ (by decide +kernel)) ggX10_markStart_X0_stepsOf
set_option maxRecDepth 20000 in
theorem ggX10_markStart_X6_setAct : GoodIn wsX10_markStart wsX6_setAct := goodIn_r _ [23, 24, 25, 26, 22, 27, 54, 55, 56, 57, 58, 59, 60] (by decide +kernel) (by decide +kernel)
set_option maxRecDepth 20000 in
theorem gX10_markStart_X6_setAct : GoodIn wsX10_markStart (wsV RX10 50 RX6 yX6_setAct wsX6_setAct) := goodIn_app (goodIn_of _ (by decide +kernel)) ggX10_markStart_X6_setAct
theorem dX10_markStart_0 : decode cX10_markStart 0 = .ok (.aload_n 0, 1) := by decide +kernel
theorem dX10_markStart_1 : decode cX10_markStart 1 = .ok (.getfield 9, 3) := by decide +kernel
theorem dX10_markStart_4 : decode cX10_markStart 4 = .ok (.iload_n 1, 1) := by decide +kernel
theorem dX10_markStart_5 : decode cX10_markStart 5 = .ok (.invokevirtual 98, 3) := by decide +kernel
theorem dX10_markStart_8 : decode cX10_markStart 8 = .ok (.ifCond .eq 21, 3) := by decide +kernel
theorem dX10_markStart_11 : decode cX10_markStart 11 = .ok (.aload_n 0, 1) := by decide +kernel
theorem dX10_markStart_12 : decode cX10_markStart 12 = .ok (.getfield 24, 3) := by decide +kernel
theorem dX10_markStart_15 : decode cX10_markStart 15 = .ok (.iload_n 1, 1) := by decide +kernel
theorem dX10_markStart_16 : decode cX10_markStart 16 = .ok (.aload_n 0, 1) := by decide +kernel
theorem dX10_markStart_17 : decode cX10_markStart 17 = .ok (.getfield 9, 3) := by decide +kernel
theorem dX10_markStart_20 : decode cX10_markStart 20 = .ok (.iload_n 1, 1) := by decide +kernel
theorem dX10_markStart_21 : decode cX10_markStart 21 = .ok (.invokevirtual 59, 3) := by decide +kernel
theorem dX10_markStart_24 : decode cX10_markStart 24 = .ok (.iload_n 2, 1) := by decide +kernel
theorem dX10_markStart_25 : decode cX10_markStart 25 = .ok (.iconst 0, 1) := by decide +kernel
theorem dX10_markStart_26 : decode cX10_markStart 26 = .ok (.invokevirtual 50, 3) := by decide +kernel
theorem dX10_markStart_29 : decode cX10_markStart 29 = .ok (.return_, 1) := by decide +kernel
set_option maxRecDepth 20000 in
theorem ggX10_gain_X6_measure : GoodIn wsX10_gain wsX6_measure := goodIn_r _ [11, 12, 13, 14, 15, 16, 17, 18, 19, 20, 21, 22, 23, 24, 25, 26, 27, 28, 29, 30, 31, 32, 33, 34, 35, 36, 37, 38, 39, 40, 164, 165, 166, 167, 168, 169, 170, 147, 148, 149, 150, 151, 152, 153, 154, 155, 156, 157, 158, 159, 160, 161, 162, 163] (by decide +kernel) (by decide +kernel)
set_option maxRecDepth 20000 in
theorem gX10_gain_X6_measure : GoodIn wsX10_gain (wsV RX10 102 RX6 yX6_measure wsX6_measure) := goodIn_app (goodIn_of _ (by decide +kernel)) ggX10_gain_X6_measure
set_option maxRecDepth 20000 in
theorem ggX10_gain_X0_stepsOf : GoodIn wsX10_gain wsX0_stepsOf := goodIn_r _ [44, 45, 46, 47, 48, 147, 148, 149, 150, 151, 152, 153, 154, 155, 156, 157, 158, 159, 160, 161, 162, 163] (by decide +kernel) (by decide +kernel)
set_option maxRecDepth 20000 in
theorem gX10_gain_X0_stepsOf : GoodIn wsX10_gain (wsV RX10 59 RX0 yX0_stepsOf wsX0_stepsOf) := goodIn_app (goodIn_of _ (by decide +kernel)) ggX10_gain_X0_stepsOf
set_option maxRecDepth 20000 in
theorem ggX10_gain_X6_actAt : GoodIn wsX10_gain wsX6_actAt := goodIn_r _ [52, 53, 54, 55, 10, 56, 164, 165, 166, 167, 168, 169, 170] (by decide +kernel) (by decide +kernel)
set_option maxRecDepth 20000 in
theorem gX10_gain_X6_actAt : GoodIn wsX10_gain (wsV RX10 63 RX6 yX6_actAt wsX6_actAt) := goodIn_app (goodIn_of _ (by decide +kernel)) ggX10_gain_X6_actAt
set_option maxRecDepth 20000 in
theorem ggX10_gain_X6_gainOf : GoodIn wsX10_gain wsX6_gainOf := goodIn_r _ [60, 15, 12, 14, 13, 61, 62, 63, 10, 64, 65, 54, 55, 56, 66, 67, 68, 69, 70, 71, 72, 19, 73, 74, 75, 47, 76, 77, 42, 43, 44, 45, 46, 48, 78, 79, 80, 81, 82, 83, 84, 85, 86, 87, 88, 89, 90, 91, 92, 93, 94, 95, 96, 97, 98, 99, 100, 101, 102, 103, 104, 105, 106, 107, 108, 109, 110, 111, 112, 113, 114, 115, 116, 117, 118, 119, 37, 120, 121, 122, 123, 124, 125, 126, 127, 128, 129, 130, 131, 132, 29, 30, 31, 32, 33, 34, 35, 36, 38, 39, 40, 164, 165, 166, 167, 168, 169, 170, 147, 148, 149, 150, 151, 152, 153, 154, 155, 156, 157, 158, 159, 160, 161, 162, 163] (by decide +kernel) (by decide +kernel)
set_option maxRecDepth 20000 in
theorem gX10_gain_X6_gainOf : GoodIn wsX10_gain (wsV RX10 106 RX6 yX6_gainOf wsX6_gainOf) := goodIn_app (goodIn_of _ (by decide +kernel)) ggX10_gain_X6_gainOf
set_option maxRecDepth 20000 in
theorem ggX10_gain_X6_setGain : GoodIn wsX10_gain wsX6_setGain := goodIn_r _ [136, 65, 54, 55, 10, 56, 164, 165, 166, 167, 168, 169, 170] (by decide +kernel) (by decide +kernel)
set_option maxRecDepth 20000 in
theorem gX10_gain_X6_setGain : GoodIn wsX10_gain (wsV RX10 110 RX6 yX6_setGain wsX6_setGain) := goodIn_app (goodIn_of _ (by decide +kernel)) ggX10_gain_X6_setGain
set_option maxRecDepth 20000 in
theorem ggX10_gain_X6_gainAt : GoodIn wsX10_gain wsX6_gainAt := goodIn_r _ [64, 65, 54, 55, 10, 56, 164, 165, 166, 167, 168, 169, 170] (by decide +kernel) (by decide +kernel)
set_option maxRecDepth 20000 in
theorem gX10_gain_X6_gainAt : GoodIn wsX10_gain (wsV RX10 114 RX6 yX6_gainAt wsX6_gainAt) := goodIn_app (goodIn_of _ (by decide +kernel)) ggX10_gain_X6_gainAt
theorem dX10_gain_0 : decode cX10_gain 0 = .ok (.aload_n 0, 1) := by decide +kernel
theorem dX10_gain_1 : decode cX10_gain 1 = .ok (.getfield 24, 3) := by decide +kernel
theorem dX10_gain_4 : decode cX10_gain 4 = .ok (.aload_n 1, 1) := by decide +kernel
theorem dX10_gain_5 : decode cX10_gain 5 = .ok (.aload_n 0, 1) := by decide +kernel
theorem dX10_gain_6 : decode cX10_gain 6 = .ok (.getfield 35, 3) := by decide +kernel
theorem dX10_gain_9 : decode cX10_gain 9 = .ok (.invokevirtual 102, 3) := by decide +kernel
theorem dX10_gain_12 : decode cX10_gain 12 = .ok (.aload_n 0, 1) := by decide +kernel
theorem dX10_gain_13 : decode cX10_gain 13 = .ok (.getfield 9, 3) := by decide +kernel
theorem dX10_gain_16 : decode cX10_gain 16 = .ok (.getfield 54, 3) := by decide +kernel
theorem dX10_gain_19 : decode cX10_gain 19 = .ok (.iconst 1, 1) := by decide +kernel
theorem dX10_gain_20 : decode cX10_gain 20 = .ok (.isub, 1) := by decide +kernel
theorem dX10_gain_21 : decode cX10_gain 21 = .ok (.istore_n 2, 1) := by decide +kernel
theorem dX10_gain_22 : decode cX10_gain 22 = .ok (.iload_n 2, 1) := by decide +kernel
theorem dX10_gain_23 : decode cX10_gain 23 = .ok (.aload_n 0, 1) := by decide +kernel
theorem dX10_gain_24 : decode cX10_gain 24 = .ok (.getfield 38, 3) := by decide +kernel
theorem dX10_gain_27 : decode cX10_gain 27 = .ok (.if_icmp .lt 88, 3) := by decide +kernel
theorem dX10_gain_30 : decode cX10_gain 30 = .ok (.iconst 1, 1) := by decide +kernel
theorem dX10_gain_31 : decode cX10_gain 31 = .ok (.istore_n 3, 1) := by decide +kernel
theorem dX10_gain_32 : decode cX10_gain 32 = .ok (.iload_n 3, 1) := by decide +kernel
theorem dX10_gain_33 : decode cX10_gain 33 = .ok (.aload_n 0, 1) := by decide +kernel
theorem dX10_gain_34 : decode cX10_gain 34 = .ok (.getfield 9, 3) := by decide +kernel
theorem dX10_gain_37 : decode cX10_gain 37 = .ok (.iload_n 2, 1) := by decide +kernel
theorem dX10_gain_38 : decode cX10_gain 38 = .ok (.invokevirtual 59, 3) := by decide +kernel
theorem dX10_gain_41 : decode cX10_gain 41 = .ok (.if_icmp .gt 68, 3) := by decide +kernel
theorem dX10_gain_44 : decode cX10_gain 44 = .ok (.iconst 0, 1) := by decide +kernel
theorem dX10_gain_45 : decode cX10_gain 45 = .ok (.istore 4, 2) := by decide +kernel
theorem dX10_gain_47 : decode cX10_gain 47 = .ok (.iload 4, 2) := by decide +kernel
theorem dX10_gain_49 : decode cX10_gain 49 = .ok (.bipush 100, 2) := by decide +kernel
theorem dX10_gain_51 : decode cX10_gain 51 = .ok (.if_icmp .gt 52, 3) := by decide +kernel
theorem dX10_gain_54 : decode cX10_gain 54 = .ok (.aload_n 0, 1) := by decide +kernel
theorem dX10_gain_55 : decode cX10_gain 55 = .ok (.getfield 24, 3) := by decide +kernel
theorem dX10_gain_58 : decode cX10_gain 58 = .ok (.iload_n 2, 1) := by decide +kernel
theorem dX10_gain_59 : decode cX10_gain 59 = .ok (.iload_n 3, 1) := by decide +kernel
theorem dX10_gain_60 : decode cX10_gain 60 = .ok (.iload 4, 2) := by decide +kernel
theorem dX10_gain_62 : decode cX10_gain 62 = .ok (.invokevirtual 63, 3) := by decide +kernel
theorem dX10_gain_65 : decode cX10_gain 65 = .ok (.istore 5, 2) := by decide +kernel
theorem dX10_gain_67 : decode cX10_gain 67 = .ok (.iload 5, 2) := by decide +kernel
theorem dX10_gain_69 : decode cX10_gain 69 = .ok (.iconst (-1), 1) := by decide +kernel
theorem dX10_gain_70 : decode cX10_gain 70 = .ok (.if_icmp .eq 27, 3) := by decide +kernel
theorem dX10_gain_73 : decode cX10_gain 73 = .ok (.aload_n 0, 1) := by decide +kernel
theorem dX10_gain_74 : decode cX10_gain 74 = .ok (.getfield 24, 3) := by decide +kernel
theorem dX10_gain_77 : decode cX10_gain 77 = .ok (.iload_n 2, 1) := by decide +kernel
theorem dX10_gain_78 : decode cX10_gain 78 = .ok (.iload_n 3, 1) := by decide +kernel
theorem dX10_gain_79 : decode cX10_gain 79 = .ok (.iload 4, 2) := by decide +kernel
theorem dX10_gain_81 : decode cX10_gain 81 = .ok (.aload_n 0, 1) := by decide +kernel
theorem dX10_gain_82 : decode cX10_gain 82 = .ok (.getfield 24, 3) := by decide +kernel
theorem dX10_gain_85 : decode cX10_gain 85 = .ok (.iload 5, 2) := by decide +kernel
theorem dX10_gain_87 : decode cX10_gain 87 = .ok (.iload_n 2, 1) := by decide +kernel
theorem dX10_gain_88 : decode cX10_gain 88 = .ok (.iload_n 3, 1) := by decide +kernel
theorem dX10_gain_89 : decode cX10_gain 89 = .ok (.iload 4, 2) := by decide +kernel
theorem dX10_gain_91 : decode cX10_gain 91 = .ok (.invokevirtual 106, 3) := by decide +kernel
theorem dX10_gain_94 : decode cX10_gain 94 = .ok (.invokevirtual 110, 3) := by decide +kernel
theorem dX10_gain_97 : decode cX10_gain 97 = .ok (.iinc 4 1, 3) := by decide +kernel
theorem dX10_gain_100 : decode cX10_gain 100 = .ok (.goto (-53), 3) := by decide +kernel
theorem dX10_gain_103 : decode cX10_gain 103 = .ok (.iinc 3 1, 3) := by decide +kernel
theorem dX10_gain_106 : decode cX10_gain 106 = .ok (.goto (-74), 3) := by decide +kernel
theorem dX10_gain_109 : decode cX10_gain 109 = .ok (.iinc 2 (-1), 3) := by decide +kernel
theorem dX10_gain_112 : decode cX10_gain 112 = .ok (.goto (-90), 3) := by decide +kernel
theorem dX10_gain_115 : decode cX10_gain 115 = .ok (.aload_n 0, 1) := by decide +kernel
theorem dX10_gain_116 : decode cX10_gain 116 = .ok (.getfield 24, 3) := by decide +kernel
theorem dX10_gain_119 : decode cX10_gain 119 = .ok (.aload_n 0, 1) := by decide +kernel
theorem dX10_gain_120 : decode cX10_gain 120 = .ok (.getfield 38, 3) := by decide +kernel
theorem dX10_gain_123 : decode cX10_gain 123 = .ok (.aload_n 0, 1) := by decide +kernel
theorem dX10_gain_124 : decode cX10_gain 124 = .ok (.getfield 41, 3) := by decide +kernel
theorem dX10_gain_127 : decode cX10_gain 127 = .ok (.aload_n 0, 1) := by decide +kernel
theorem dX10_gain_128 : decode cX10_gain 128 = .ok (.getfield 44, 3) := by decide +kernel
theorem dX10_gain_131 : decode cX10_gain 131 = .ok (.invokevirtual 114, 3) := by decide +kernel
theorem dX10_gain_134 : decode cX10_gain 134 = .ok (.lreturn, 1) := by decide +kernel
set_option maxRecDepth 20000 in
theorem ggX10_firstWorse_X0_stepsOf : GoodIn wsX10_firstWorse wsX0_stepsOf := goodIn_r _ [6, 7, 8, 9, 10, 128, 129, 130, 131, 132, 133, 134, 135, 136, 137, 138, 139, 140, 141, 142, 143, 144] (by decide +kernel) (by decide +kernel)
set_option maxRecDepth 20000 in
theorem gX10_firstWorse_X0_stepsOf : GoodIn wsX10_firstWorse (wsV RX10 59 RX0 yX0_stepsOf wsX0_stepsOf) := goodIn_app (goodIn_of _ (by decide +kernel)) ggX10_firstWorse_X0_stepsOf
set_option maxRecDepth 20000 in
theorem ggX10_firstWorse_X10_isWorse : GoodIn wsX10_firstWorse wsX10_isWorse := goodIn_r _ [15, 16, 17, 18, 19, 20, 21, 22, 23, 24, 25, 26, 27, 28, 29, 30, 31, 32, 33, 34, 35, 36, 37, 38, 39, 40, 41, 42, 43, 44, 45, 5, 46, 47, 48, 9, 49, 50, 3, 4, 6, 7, 8, 10, 51, 52, 53, 54, 55, 56, 57, 58, 59, 60, 61, 62, 63, 64, 65, 66, 67, 68, 69, 70, 71, 72, 73, 74, 75, 76, 77, 78, 79, 80, 81, 82, 83, 84, 85, 86, 87, 88, 89, 90, 91, 92, 93, 94, 95, 96, 97, 98, 99, 100, 101, 102, 103, 104, 105, 106, 107, 108, 109, 110, 111, 112, 113, 114, 115, 116, 117, 118, 119, 120, 121, 122, 123, 124, 125, 126, 127, 145, 146, 147, 148, 149, 150, 151, 128, 129, 130, 131, 132, 133, 134, 135, 136, 137, 138, 139, 140, 141, 142, 143, 144] (by decide +kernel) (by decide +kernel)
set_option maxRecDepth 20000 in
theorem gX10_firstWorse_X10_isWorse : GoodIn wsX10_firstWorse (wsV RX10 118 RX10 yX10_isWorse wsX10_isWorse) := goodIn_app (goodIn_of _ (by decide +kernel)) ggX10_firstWorse_X10_isWorse
theorem dX10_firstWorse_0 : decode cX10_firstWorse 0 = .ok (.iconst 0, 1) := by decide +kernel
theorem dX10_firstWorse_1 : decode cX10_firstWorse 1 = .ok (.istore_n 2, 1) := by decide +kernel
theorem dX10_firstWorse_2 : decode cX10_firstWorse 2 = .ok (.iload_n 2, 1) := by decide +kernel
theorem dX10_firstWorse_3 : decode cX10_firstWorse 3 = .ok (.aload_n 0, 1) := by decide +kernel
theorem dX10_firstWorse_4 : decode cX10_firstWorse 4 = .ok (.getfield 9, 3) := by decide +kernel
theorem dX10_firstWorse_7 : decode cX10_firstWorse 7 = .ok (.getfield 54, 3) := by decide +kernel
theorem dX10_firstWorse_10 : decode cX10_firstWorse 10 = .ok (.if_icmp .ge 80, 3) := by decide +kernel
theorem dX10_firstWorse_13 : decode cX10_firstWorse 13 = .ok (.aload_n 0, 1) := by decide +kernel
theorem dX10_firstWorse_14 : decode cX10_firstWorse 14 = .ok (.getfield 9, 3) := by decide +kernel
theorem dX10_firstWorse_17 : decode cX10_firstWorse 17 = .ok (.iload_n 2, 1) := by decide +kernel
theorem dX10_firstWorse_18 : decode cX10_firstWorse 18 = .ok (.invokevirtual 59, 3) := by decide +kernel
theorem dX10_firstWorse_21 : decode cX10_firstWorse 21 = .ok (.istore_n 3, 1) := by decide +kernel
theorem dX10_firstWorse_22 : decode cX10_firstWorse 22 = .ok (.iload_n 3, 1) := by decide +kernel
theorem dX10_firstWorse_23 : decode cX10_firstWorse 23 = .ok (.iconst 1, 1) := by decide +kernel
theorem dX10_firstWorse_24 : decode cX10_firstWorse 24 = .ok (.if_icmp .lt 60, 3) := by decide +kernel
theorem dX10_firstWorse_27 : decode cX10_firstWorse 27 = .ok (.iconst 0, 1) := by decide +kernel
theorem dX10_firstWorse_28 : decode cX10_firstWorse 28 = .ok (.istore 4, 2) := by decide +kernel
theorem dX10_firstWorse_30 : decode cX10_firstWorse 30 = .ok (.iload 4, 2) := by decide +kernel
theorem dX10_firstWorse_32 : decode cX10_firstWorse 32 = .ok (.bipush 100, 2) := by decide +kernel
theorem dX10_firstWorse_34 : decode cX10_firstWorse 34 = .ok (.if_icmp .gt 44, 3) := by decide +kernel
theorem dX10_firstWorse_37 : decode cX10_firstWorse 37 = .ok (.aload_n 0, 1) := by decide +kernel
theorem dX10_firstWorse_38 : decode cX10_firstWorse 38 = .ok (.aload_n 1, 1) := by decide +kernel
theorem dX10_firstWorse_39 : decode cX10_firstWorse 39 = .ok (.iload_n 2, 1) := by decide +kernel
theorem dX10_firstWorse_40 : decode cX10_firstWorse 40 = .ok (.iload_n 3, 1) := by decide +kernel
theorem dX10_firstWorse_41 : decode cX10_firstWorse 41 = .ok (.iload 4, 2) := by decide +kernel
theorem dX10_firstWorse_43 : decode cX10_firstWorse 43 = .ok (.invokevirtual 118, 3) := by decide +kernel
theorem dX10_firstWorse_46 : decode cX10_firstWorse 46 = .ok (.ifCond .eq 26, 3) := by decide +kernel
theorem dX10_firstWorse_49 : decode cX10_firstWorse 49 = .ok (.sipush 1000, 3) := by decide +kernel
theorem dX10_firstWorse_52 : decode cX10_firstWorse 52 = .ok (.iload_n 2, 1) := by decide +kernel
theorem dX10_firstWorse_53 : decode cX10_firstWorse 53 = .ok (.imul, 1) := by decide +kernel
theorem dX10_firstWorse_54 : decode cX10_firstWorse 54 = .ok (.bipush 101, 2) := by decide +kernel
theorem dX10_firstWorse_56 : decode cX10_firstWorse 56 = .ok (.aload_n 0, 1) := by decide +kernel
theorem dX10_firstWorse_57 : decode cX10_firstWorse 57 = .ok (.getfield 9, 3) := by decide +kernel
theorem dX10_firstWorse_60 : decode cX10_firstWorse 60 = .ok (.iload_n 2, 1) := by decide +kernel
theorem dX10_firstWorse_61 : decode cX10_firstWorse 61 = .ok (.invokevirtual 59, 3) := by decide +kernel
theorem dX10_firstWorse_64 : decode cX10_firstWorse 64 = .ok (.iload_n 3, 1) := by decide +kernel
theorem dX10_firstWorse_65 : decode cX10_firstWorse 65 = .ok (.isub, 1) := by decide +kernel
theorem dX10_firstWorse_66 : decode cX10_firstWorse 66 = .ok (.imul, 1) := by decide +kernel
theorem dX10_firstWorse_67 : decode cX10_firstWorse 67 = .ok (.iadd, 1) := by decide +kernel
theorem dX10_firstWorse_68 : decode cX10_firstWorse 68 = .ok (.iload 4, 2) := by decide +kernel
theorem dX10_firstWorse_70 : decode cX10_firstWorse 70 = .ok (.iadd, 1) := by decide +kernel
theorem dX10_firstWorse_71 : decode cX10_firstWorse 71 = .ok (.ireturn, 1) := by decide +kernel
theorem dX10_firstWorse_72 : decode cX10_firstWorse 72 = .ok (.iinc 4 1, 3) := by decide +kernel
theorem dX10_firstWorse_75 : decode cX10_firstWorse 75 = .ok (.goto (-45), 3) := by decide +kernel
theorem dX10_firstWorse_78 : decode cX10_firstWorse 78 = .ok (.iinc 3 (-1), 3) := by decide +kernel
theorem dX10_firstWorse_81 : decode cX10_firstWorse 81 = .ok (.goto (-59), 3) := by decide +kernel
theorem dX10_firstWorse_84 : decode cX10_firstWorse 84 = .ok (.iinc 2 1, 3) := by decide +kernel
theorem dX10_firstWorse_87 : decode cX10_firstWorse 87 = .ok (.goto (-85), 3) := by decide +kernel
theorem dX10_firstWorse_90 : decode cX10_firstWorse 90 = .ok (.bipush (-4), 2) := by decide +kernel
theorem dX10_firstWorse_92 : decode cX10_firstWorse 92 = .ok (.ireturn, 1) := by decide +kernel
set_option maxRecDepth 20000 in
theorem ggX10_isWorse_X6_actAt : GoodIn wsX10_isWorse wsX6_actAt := goodIn_r _ [6, 7, 8, 9, 5, 10, 121, 122, 123, 124, 125, 126, 127] (by decide +kernel) (by decide +kernel)
set_option maxRecDepth 20000 in
theorem gX10_isWorse_X6_actAt : GoodIn wsX10_isWorse (wsV RX10 63 RX6 yX6_actAt wsX6_actAt) := goodIn_app (goodIn_of _ (by decide +kernel)) ggX10_isWorse_X6_actAt
set_option maxRecDepth 20000 in
theorem ggX10_isWorse_X6_gainOf : GoodIn wsX10_isWorse wsX6_gainOf := goodIn_r _ [14, 15, 16, 17, 18, 19, 20, 21, 5, 22, 23, 8, 9, 10, 24, 25, 26, 27, 28, 29, 30, 31, 32, 33, 34, 35, 36, 37, 38, 39, 40, 41, 42, 43, 44, 45, 46, 47, 48, 49, 50, 51, 52, 53, 54, 55, 56, 57, 58, 59, 60, 61, 62, 63, 64, 65, 66, 67, 68, 69, 70, 71, 72, 73, 74, 75, 76, 77, 78, 79, 80, 81, 82, 83, 84, 85, 86, 87, 88, 89, 90, 91, 92, 93, 94, 95, 96, 97, 98, 99, 100, 101, 102, 103, 104, 105, 106, 107, 108, 109, 110, 121, 122, 123, 124, 125, 126, 127, 128, 129, 130, 131, 132, 133, 134, 135, 136, 137, 138, 139, 140, 141, 142, 143, 144] (by decide +kernel) (by decide +kernel)
set_option maxRecDepth 20000 in
theorem gX10_isWorse_X6_gainOf : GoodIn wsX10_isWorse (wsV RX10 106 RX6 yX6_gainOf wsX6_gainOf) := goodIn_app (goodIn_of _ (by decide +kernel)) ggX10_isWorse_X6_gainOf
set_option maxRecDepth 20000 in
theorem ggX10_isWorse_X6_gainAt : GoodIn wsX10_isWorse wsX6_gainAt := goodIn_r _ [22, 23, 8, 9, 5, 10, 121, 122, 123, 124, 125, 126, 127] (by decide +kernel) (by decide +kernel)
set_option maxRecDepth 20000 in
theorem gX10_isWorse_X6_gainAt : GoodIn wsX10_isWorse (wsV RX10 114 RX6 yX6_gainAt wsX6_gainAt) := goodIn_app (goodIn_of _ (by decide +kernel)) ggX10_isWorse_X6_gainAt
theorem dX10_isWorse_0 : decode cX10_isWorse 0 = .ok (.aload_n 0, 1) := by decide +kernel
theorem dX10_isWorse_1 : decode cX10_isWorse 1 = .ok (.getfield 24, 3) := by decide +kernel
theorem dX10_isWorse_4 : decode cX10_isWorse 4 = .ok (.iload_n 2, 1) := by decide +kernel
theorem dX10_isWorse_5 : decode cX10_isWorse 5 = .ok (.iload_n 3, 1) := by decide +kernel
theorem dX10_isWorse_6 : decode cX10_isWorse 6 = .ok (.iload 4, 2) := by decide +kernel
theorem dX10_isWorse_8 : decode cX10_isWorse 8 = .ok (.invokevirtual 63, 3) := by decide +kernel
theorem dX10_isWorse_11 : decode cX10_isWorse 11 = .ok (.istore 5, 2) := by decide +kernel
theorem dX10_isWorse_13 : decode cX10_isWorse 13 = .ok (.iload 5, 2) := by decide +kernel
theorem dX10_isWorse_15 : decode cX10_isWorse 15 = .ok (.iconst (-1), 1) := by decide +kernel
theorem dX10_isWorse_16 : decode cX10_isWorse 16 = .ok (.if_icmp .eq 29, 3) := by decide +kernel
theorem dX10_isWorse_19 : decode cX10_isWorse 19 = .ok (.aload_n 1, 1) := by decide +kernel
theorem dX10_isWorse_20 : decode cX10_isWorse 20 = .ok (.iload 5, 2) := by decide +kernel
theorem dX10_isWorse_22 : decode cX10_isWorse 22 = .ok (.iload_n 2, 1) := by decide +kernel
theorem dX10_isWorse_23 : decode cX10_isWorse 23 = .ok (.iload_n 3, 1) := by decide +kernel
theorem dX10_isWorse_24 : decode cX10_isWorse 24 = .ok (.iload 4, 2) := by decide +kernel
theorem dX10_isWorse_26 : decode cX10_isWorse 26 = .ok (.invokevirtual 106, 3) := by decide +kernel
theorem dX10_isWorse_29 : decode cX10_isWorse 29 = .ok (.aload_n 1, 1) := by decide +kernel
theorem dX10_isWorse_30 : decode cX10_isWorse 30 = .ok (.iload_n 2, 1) := by decide +kernel
theorem dX10_isWorse_31 : decode cX10_isWorse 31 = .ok (.iload_n 3, 1) := by decide +kernel
theorem dX10_isWorse_32 : decode cX10_isWorse 32 = .ok (.iload 4, 2) := by decide +kernel
theorem dX10_isWorse_34 : decode cX10_isWorse 34 = .ok (.invokevirtual 114, 3) := by decide +kernel
theorem dX10_isWorse_37 : decode cX10_isWorse 37 = .ok (.lcmp, 1) := by decide +kernel
theorem dX10_isWorse_38 : decode cX10_isWorse 38 = .ok (.ifCond .ge 7, 3) := by decide +kernel
theorem dX10_isWorse_41 : decode cX10_isWorse 41 = .ok (.iconst 1, 1) := by decide +kernel
theorem dX10_isWorse_42 : decode cX10_isWorse 42 = .ok (.goto 4, 3) := by decide +kernel
theorem dX10_isWorse_45 : decode cX10_isWorse 45 = .ok (.iconst 0, 1) := by decide +kernel
theorem dX10_isWorse_46 : decode cX10_isWorse 46 = .ok (.ireturn, 1) := by decide +kernel
set_option maxRecDepth 20000 in
theorem ggX11_init_X8_init : GoodIn wsX11_init wsX8_init := goodIn_r _ [44, 45, 2, 3, 46, 47, 48, 49, 171, 172, 173, 174] (by decide +kernel) (by decide +kernel)
set_option maxRecDepth 20000 in
theorem gX11_init_X8_init : GoodIn wsX11_init (wsX8_init) := ggX11_init_X8_init
set_option maxRecDepth 20000 in
theorem ggX11_init_X0_init : GoodIn wsX11_init wsX0_init := goodIn_r _ [52, 53, 2, 3, 48, 54, 55, 56, 57, 58, 59, 60, 61, 62, 187, 188, 189, 190, 191, 192, 193, 194, 195, 196, 197, 198, 199, 200, 201, 202, 203] (by decide +kernel) (by decide +kernel)
set_option maxRecDepth 20000 in
theorem gX11_init_X0_init : GoodIn wsX11_init (wsX0_init) := ggX11_init_X0_init
set_option maxRecDepth 20000 in
theorem ggX11_init_X1_init : GoodIn wsX11_init wsX1_init := goodIn_r _ [65, 66, 2, 3, 48, 67, 68, 69, 70, 204, 205, 206, 207, 208, 209] (by decide +kernel) (by decide +kernel)
set_option maxRecDepth 20000 in
theorem gX11_init_X1_init : GoodIn wsX11_init (wsX1_init) := ggX11_init_X1_init
set_option maxRecDepth 20000 in
theorem ggX11_init_X3_init : GoodIn wsX11_init wsX3_init := goodIn_r _ [73, 74, 2, 3, 48, 75, 76, 210, 211, 212, 213, 214] (by decide +kernel) (by decide +kernel)
set_option maxRecDepth 20000 in
theorem gX11_init_X3_init : GoodIn wsX11_init (wsX3_init) := ggX11_init_X3_init
set_option maxRecDepth 20000 in
theorem ggX11_init_X0_layFirst : GoodIn wsX11_init wsX0_layFirst := goodIn_r _ [80, 81, 82, 83, 10, 84, 85, 86, 87, 88, 89, 90, 91, 92, 62, 93, 94, 95, 96, 97, 98, 99, 100, 54, 55, 101, 102, 103, 104, 105, 106, 107, 56, 57, 58, 59, 108, 109, 110, 111, 112, 113, 114, 115, 60, 61, 116, 117, 118, 119, 120, 121, 187, 188, 189, 190, 191, 192, 193, 194, 195, 196, 197, 198, 199, 200, 201, 202, 203] (by decide +kernel) (by decide +kernel)
set_option maxRecDepth 20000 in
theorem gX11_init_X0_layFirst : GoodIn wsX11_init (wsV RX11 44 RX0 yX0_layFirst wsX0_layFirst) := goodIn_app (goodIn_of _ (by decide +kernel)) ggX11_init_X0_layFirst
set_option maxRecDepth 20000 in
theorem ggX11_init_X2_init : GoodIn wsX11_init wsX2_init := goodIn_r _ [124, 125, 2, 3, 126, 127, 128, 129, 130, 131, 132, 133, 134, 135, 136, 137, 138, 46, 139, 140, 141, 142, 215, 216, 217, 218, 243, 244, 245, 246, 247, 248, 249] (by decide +kernel) (by decide +kernel)
set_option maxRecDepth 20000 in
theorem gX11_init_X2_init : GoodIn wsX11_init (wsX2_init) := ggX11_init_X2_init
set_option maxRecDepth 20000 in
theorem ggX11_init_X10_init : GoodIn wsX11_init wsX10_init := goodIn_r _ [145, 146, 2, 3, 147, 148, 149, 131, 132, 150, 151, 134, 135, 136, 137, 138, 46, 139, 140, 141, 142, 219, 220, 221, 222, 223, 224, 225, 226, 227, 243, 244, 245, 246, 247, 248, 249] (by decide +kernel) (by decide +kernel)
set_option maxRecDepth 20000 in
theorem gX11_init_X10_init : GoodIn wsX11_init (wsX10_init) := ggX11_init_X10_init
set_option maxRecDepth 20000 in
theorem ggX11_init_X9_init : GoodIn wsX11_init wsX9_init := goodIn_r _ [154, 155, 2, 3, 156, 157, 228, 229, 230, 231, 232, 233, 234, 235, 236, 237] (by decide +kernel) (by decide +kernel)
set_option maxRecDepth 20000 in
theorem gX11_init_X9_init : GoodIn wsX11_init (wsX9_init) := ggX11_init_X9_init
set_option maxRecDepth 20000 in
theorem ggX11_init_X5_init : GoodIn wsX11_init wsX5_init := goodIn_r _ [160, 161, 2, 3, 137, 162, 48, 163, 164, 165, 238, 239, 240, 241] (by decide +kernel) (by decide +kernel)
set_option maxRecDepth 20000 in
theorem gX11_init_X5_init : GoodIn wsX11_init (wsX5_init) := ggX11_init_X5_init
set_option maxRecDepth 20000 in
theorem ggX11_init_X7_init : GoodIn wsX11_init wsX7_init := goodIn_r _ [168, 169, 2, 3, 170, 242] (by decide +kernel) (by decide +kernel)
set_option maxRecDepth 20000 in
theorem gX11_init_X7_init : GoodIn wsX11_init (wsX7_init) := ggX11_init_X7_init
theorem dX11_init_0 : decode cX11_init 0 = .ok (.aload_n 0, 1) := by decide +kernel
theorem dX11_init_1 : decode cX11_init 1 = .ok (.invokespecial 3, 3) := by decide +kernel
theorem dX11_init_4 : decode cX11_init 4 = .ok (.aload_n 0, 1) := by decide +kernel
theorem dX11_init_5 : decode cX11_init 5 = .ok (.new 9, 3) := by decide +kernel
theorem dX11_init_8 : decode cX11_init 8 = .ok (.dup, 1) := by decide +kernel
theorem dX11_init_9 : decode cX11_init 9 = .ok (.invokespecial 11, 3) := by decide +kernel
theorem dX11_init_12 : decode cX11_init 12 = .ok (.putfield 12, 3) := by decide +kernel
theorem dX11_init_15 : decode cX11_init 15 = .ok (.aload_n 0, 1) := by decide +kernel
theorem dX11_init_16 : decode cX11_init 16 = .ok (.new 16, 3) := by decide +kernel
theorem dX11_init_19 : decode cX11_init 19 = .ok (.dup, 1) := by decide +kernel
theorem dX11_init_20 : decode cX11_init 20 = .ok (.invokespecial 18, 3) := by decide +kernel
theorem dX11_init_23 : decode cX11_init 23 = .ok (.putfield 19, 3) := by decide +kernel
theorem dX11_init_26 : decode cX11_init 26 = .ok (.aload_n 0, 1) := by decide +kernel
theorem dX11_init_27 : decode cX11_init 27 = .ok (.new 16, 3) := by decide +kernel
theorem dX11_init_30 : decode cX11_init 30 = .ok (.dup, 1) := by decide +kernel
theorem dX11_init_31 : decode cX11_init 31 = .ok (.invokespecial 18, 3) := by decide +kernel
theorem dX11_init_34 : decode cX11_init 34 = .ok (.putfield 23, 3) := by decide +kernel
theorem dX11_init_37 : decode cX11_init 37 = .ok (.aload_n 0, 1) := by decide +kernel
theorem dX11_init_38 : decode cX11_init 38 = .ok (.new 26, 3) := by decide +kernel
theorem dX11_init_41 : decode cX11_init 41 = .ok (.dup, 1) := by decide +kernel
theorem dX11_init_42 : decode cX11_init 42 = .ok (.invokespecial 28, 3) := by decide +kernel
theorem dX11_init_45 : decode cX11_init 45 = .ok (.putfield 29, 3) := by decide +kernel
theorem dX11_init_48 : decode cX11_init 48 = .ok (.aload_n 0, 1) := by decide +kernel
theorem dX11_init_49 : decode cX11_init 49 = .ok (.iconst 2, 1) := by decide +kernel
theorem dX11_init_50 : decode cX11_init 50 = .ok (.anewarray 26, 3) := by decide +kernel
theorem dX11_init_53 : decode cX11_init 53 = .ok (.putfield 33, 3) := by decide +kernel
theorem dX11_init_56 : decode cX11_init 56 = .ok (.aload_n 0, 1) := by decide +kernel
theorem dX11_init_57 : decode cX11_init 57 = .ok (.new 37, 3) := by decide +kernel
theorem dX11_init_60 : decode cX11_init 60 = .ok (.dup, 1) := by decide +kernel
theorem dX11_init_61 : decode cX11_init 61 = .ok (.invokespecial 39, 3) := by decide +kernel
theorem dX11_init_64 : decode cX11_init 64 = .ok (.putfield 40, 3) := by decide +kernel
theorem dX11_init_67 : decode cX11_init 67 = .ok (.aload_n 0, 1) := by decide +kernel
theorem dX11_init_68 : decode cX11_init 68 = .ok (.getfield 19, 3) := by decide +kernel
theorem dX11_init_71 : decode cX11_init 71 = .ok (.invokevirtual 44, 3) := by decide +kernel
theorem dX11_init_74 : decode cX11_init 74 = .ok (.iconst 0, 1) := by decide +kernel
theorem dX11_init_75 : decode cX11_init 75 = .ok (.istore_n 1, 1) := by decide +kernel
theorem dX11_init_76 : decode cX11_init 76 = .ok (.iload_n 1, 1) := by decide +kernel
theorem dX11_init_77 : decode cX11_init 77 = .ok (.aload_n 0, 1) := by decide +kernel
theorem dX11_init_78 : decode cX11_init 78 = .ok (.getfield 33, 3) := by decide +kernel
theorem dX11_init_81 : decode cX11_init 81 = .ok (.arraylength, 1) := by decide +kernel
theorem dX11_init_82 : decode cX11_init 82 = .ok (.if_icmp .ge 22, 3) := by decide +kernel
theorem dX11_init_85 : decode cX11_init 85 = .ok (.aload_n 0, 1) := by decide +kernel
theorem dX11_init_86 : decode cX11_init 86 = .ok (.getfield 33, 3) := by decide +kernel
theorem dX11_init_89 : decode cX11_init 89 = .ok (.iload_n 1, 1) := by decide +kernel
theorem dX11_init_90 : decode cX11_init 90 = .ok (.new 26, 3) := by decide +kernel
theorem dX11_init_93 : decode cX11_init 93 = .ok (.dup, 1) := by decide +kernel
theorem dX11_init_94 : decode cX11_init 94 = .ok (.invokespecial 28, 3) := by decide +kernel
theorem dX11_init_97 : decode cX11_init 97 = .ok (.aastore, 1) := by decide +kernel
theorem dX11_init_98 : decode cX11_init 98 = .ok (.iinc 1 1, 3) := by decide +kernel
theorem dX11_init_101 : decode cX11_init 101 = .ok (.goto (-25), 3) := by decide +kernel
theorem dX11_init_104 : decode cX11_init 104 = .ok (.aload_n 0, 1) := by decide +kernel
theorem dX11_init_105 : decode cX11_init 105 = .ok (.new 47, 3) := by decide +kernel
theorem dX11_init_108 : decode cX11_init 108 = .ok (.dup, 1) := by decide +kernel
theorem dX11_init_109 : decode cX11_init 109 = .ok (.aload_n 0, 1) := by decide +kernel
theorem dX11_init_110 : decode cX11_init 110 = .ok (.getfield 19, 3) := by decide +kernel
theorem dX11_init_113 : decode cX11_init 113 = .ok (.aload_n 0, 1) := by decide +kernel
theorem dX11_init_114 : decode cX11_init 114 = .ok (.getfield 29, 3) := by decide +kernel
theorem dX11_init_117 : decode cX11_init 117 = .ok (.invokespecial 49, 3) := by decide +kernel
theorem dX11_init_120 : decode cX11_init 120 = .ok (.putfield 52, 3) := by decide +kernel
theorem dX11_init_123 : decode cX11_init 123 = .ok (.aload_n 0, 1) := by decide +kernel
theorem dX11_init_124 : decode cX11_init 124 = .ok (.new 56, 3) := by decide +kernel
theorem dX11_init_127 : decode cX11_init 127 = .ok (.dup, 1) := by decide +kernel
theorem dX11_init_128 : decode cX11_init 128 = .ok (.aload_n 0, 1) := by decide +kernel
theorem dX11_init_129 : decode cX11_init 129 = .ok (.getfield 19, 3) := by decide +kernel
theorem dX11_init_132 : decode cX11_init 132 = .ok (.aload_n 0, 1) := by decide +kernel
theorem dX11_init_133 : decode cX11_init 133 = .ok (.getfield 52, 3) := by decide +kernel
theorem dX11_init_136 : decode cX11_init 136 = .ok (.invokespecial 58, 3) := by decide +kernel
theorem dX11_init_139 : decode cX11_init 139 = .ok (.putfield 61, 3) := by decide +kernel
theorem dX11_init_142 : decode cX11_init 142 = .ok (.aload_n 0, 1) := by decide +kernel
theorem dX11_init_143 : decode cX11_init 143 = .ok (.new 65, 3) := by decide +kernel
theorem dX11_init_146 : decode cX11_init 146 = .ok (.dup, 1) := by decide +kernel
theorem dX11_init_147 : decode cX11_init 147 = .ok (.aload_n 0, 1) := by decide +kernel
theorem dX11_init_148 : decode cX11_init 148 = .ok (.getfield 19, 3) := by decide +kernel
theorem dX11_init_151 : decode cX11_init 151 = .ok (.aload_n 0, 1) := by decide +kernel
theorem dX11_init_152 : decode cX11_init 152 = .ok (.getfield 52, 3) := by decide +kernel
theorem dX11_init_155 : decode cX11_init 155 = .ok (.invokespecial 67, 3) := by decide +kernel
theorem dX11_init_158 : decode cX11_init 158 = .ok (.putfield 68, 3) := by decide +kernel
theorem dX11_init_161 : decode cX11_init 161 = .ok (.aload_n 0, 1) := by decide +kernel
theorem dX11_init_162 : decode cX11_init 162 = .ok (.new 72, 3) := by decide +kernel
theorem dX11_init_165 : decode cX11_init 165 = .ok (.dup, 1) := by decide +kernel
theorem dX11_init_166 : decode cX11_init 166 = .ok (.aload_n 0, 1) := by decide +kernel
theorem dX11_init_167 : decode cX11_init 167 = .ok (.getfield 19, 3) := by decide +kernel
theorem dX11_init_170 : decode cX11_init 170 = .ok (.invokespecial 74, 3) := by decide +kernel
theorem dX11_init_173 : decode cX11_init 173 = .ok (.putfield 77, 3) := by decide +kernel
theorem dX11_init_176 : decode cX11_init 176 = .ok (.aload_n 0, 1) := by decide +kernel
theorem dX11_init_177 : decode cX11_init 177 = .ok (.new 81, 3) := by decide +kernel
theorem dX11_init_180 : decode cX11_init 180 = .ok (.dup, 1) := by decide +kernel
theorem dX11_init_181 : decode cX11_init 181 = .ok (.aload_n 0, 1) := by decide +kernel
theorem dX11_init_182 : decode cX11_init 182 = .ok (.getfield 19, 3) := by decide +kernel
theorem dX11_init_185 : decode cX11_init 185 = .ok (.invokespecial 83, 3) := by decide +kernel
theorem dX11_init_188 : decode cX11_init 188 = .ok (.putfield 84, 3) := by decide +kernel
theorem dX11_init_191 : decode cX11_init 191 = .ok (.return_, 1) := by decide +kernel
set_option maxRecDepth 20000 in
theorem ggX11_write_X11_within : GoodIn wsX11_write wsX11_within := goodIn_r _ [5] (by decide +kernel) (by decide +kernel)
set_option maxRecDepth 20000 in
theorem gX11_write_X11_within : GoodIn wsX11_write (va_wsS RX11 88 yX11_within wsX11_within) := goodIn_app (goodIn_of _ (by decide +kernel)) ggX11_write_X11_within
set_option maxRecDepth 20000 in
theorem ggX11_write_X8_append : GoodIn wsX11_write wsX8_append := goodIn_r _ [10, 11, 12, 25, 26, 27, 28] (by decide +kernel) (by decide +kernel)
set_option maxRecDepth 20000 in
theorem gX11_write_X8_append : GoodIn wsX11_write (wsV RX11 92 RX8 yX8_append wsX8_append) := goodIn_app (goodIn_of _ (by decide +kernel)) ggX11_write_X8_append
theorem dX11_write_0 : decode cX11_write 0 = .ok (.iload_n 1, 1) := by decide +kernel
theorem dX11_write_1 : decode cX11_write 1 = .ok (.iconst 1, 1) := by decide +kernel
theorem dX11_write_2 : decode cX11_write 2 = .ok (.bipush 8, 2) := by decide +kernel
theorem dX11_write_4 : decode cX11_write 4 = .ok (.invokestatic 88, 3) := by decide +kernel
theorem dX11_write_7 : decode cX11_write 7 = .ok (.ifCond .ne 5, 3) := by decide +kernel
theorem dX11_write_10 : decode cX11_write 10 = .ok (.iconst (-1), 1) := by decide +kernel
theorem dX11_write_11 : decode cX11_write 11 = .ok (.ireturn, 1) := by decide +kernel
theorem dX11_write_12 : decode cX11_write 12 = .ok (.aload_n 0, 1) := by decide +kernel
theorem dX11_write_13 : decode cX11_write 13 = .ok (.getfield 12, 3) := by decide +kernel
theorem dX11_write_16 : decode cX11_write 16 = .ok (.iload_n 1, 1) := by decide +kernel
theorem dX11_write_17 : decode cX11_write 17 = .ok (.lload_n 2, 1) := by decide +kernel
theorem dX11_write_18 : decode cX11_write 18 = .ok (.invokevirtual 92, 3) := by decide +kernel
theorem dX11_write_21 : decode cX11_write 21 = .ok (.ifCond .eq 13, 3) := by decide +kernel
theorem dX11_write_24 : decode cX11_write 24 = .ok (.aload_n 0, 1) := by decide +kernel
theorem dX11_write_25 : decode cX11_write 25 = .ok (.getfield 12, 3) := by decide +kernel
theorem dX11_write_28 : decode cX11_write 28 = .ok (.getfield 96, 3) := by decide +kernel
theorem dX11_write_31 : decode cX11_write 31 = .ok (.goto 5, 3) := by decide +kernel
theorem dX11_write_34 : decode cX11_write 34 = .ok (.bipush (-3), 2) := by decide +kernel
theorem dX11_write_36 : decode cX11_write 36 = .ok (.ireturn, 1) := by decide +kernel
theorem dX11_wipe_0 : decode cX11_wipe 0 = .ok (.aload_n 0, 1) := by decide +kernel
theorem dX11_wipe_1 : decode cX11_wipe 1 = .ok (.getfield 12, 3) := by decide +kernel
theorem dX11_wipe_4 : decode cX11_wipe 4 = .ok (.getfield 96, 3) := by decide +kernel
theorem dX11_wipe_7 : decode cX11_wipe 7 = .ok (.istore_n 1, 1) := by decide +kernel
theorem dX11_wipe_8 : decode cX11_wipe 8 = .ok (.aload_n 0, 1) := by decide +kernel
theorem dX11_wipe_9 : decode cX11_wipe 9 = .ok (.getfield 12, 3) := by decide +kernel
theorem dX11_wipe_12 : decode cX11_wipe 12 = .ok (.iconst 0, 1) := by decide +kernel
theorem dX11_wipe_13 : decode cX11_wipe 13 = .ok (.putfield 96, 3) := by decide +kernel
theorem dX11_wipe_16 : decode cX11_wipe 16 = .ok (.iload_n 1, 1) := by decide +kernel
theorem dX11_wipe_17 : decode cX11_wipe 17 = .ok (.ireturn, 1) := by decide +kernel
set_option maxRecDepth 20000 in
theorem ggX11_fault_X8_readInto : GoodIn wsX11_fault wsX8_readInto := goodIn_r _ [7, 8, 9, 10, 11, 12, 13, 14, 15, 16, 17, 18, 19, 20, 21, 22, 23, 24, 25, 26, 27, 28, 29, 30, 31, 6, 32, 33, 34, 35, 36, 37, 38, 39, 40, 41, 42, 43, 44, 45, 46, 47, 48, 49, 50, 51, 52, 53, 54, 55, 56, 57, 58, 59, 60, 61, 62, 63, 64, 65, 66, 67, 68, 69, 70, 71, 72, 73, 74, 75, 76, 77, 78, 79, 80, 81, 82, 83, 84, 85, 86, 87, 88, 89, 90, 91, 92, 93, 94, 95, 96, 97, 110, 111, 112, 113, 114, 115, 116, 117, 118, 119, 120, 121, 122, 123, 124, 125, 126, 127, 128, 129, 130] (by decide +kernel) (by decide +kernel)
set_option maxRecDepth 20000 in
theorem gX11_fault_X8_readInto : GoodIn wsX11_fault (wsV RX11 100 RX8 yX8_readInto wsX8_readInto) := goodIn_app (goodIn_of _ (by decide +kernel)) ggX11_fault_X8_readInto
theorem dX11_fault_0 : decode cX11_fault 0 = .ok (.aload_n 0, 1) := by decide +kernel
theorem dX11_fault_1 : decode cX11_fault 1 = .ok (.getfield 12, 3) := by decide +kernel
theorem dX11_fault_4 : decode cX11_fault 4 = .ok (.aload_n 0, 1) := by decide +kernel
theorem dX11_fault_5 : decode cX11_fault 5 = .ok (.getfield 23, 3) := by decide +kernel
theorem dX11_fault_8 : decode cX11_fault 8 = .ok (.invokevirtual 100, 3) := by decide +kernel
theorem dX11_fault_11 : decode cX11_fault 11 = .ok (.ireturn, 1) := by decide +kernel
set_option maxRecDepth 20000 in
theorem ggX11_lay_X8_readInto : GoodIn wsX11_lay wsX8_readInto := goodIn_r _ [11, 12, 13, 14, 15, 16, 17, 18, 19, 20, 21, 22, 23, 24, 25, 26, 27, 28, 29, 30, 31, 32, 33, 34, 35, 10, 36, 37, 38, 39, 40, 41, 42, 43, 44, 45, 46, 47, 48, 49, 50, 51, 52, 53, 54, 55, 56, 57, 58, 59, 60, 61, 62, 63, 64, 65, 66, 67, 68, 69, 70, 71, 72, 73, 74, 75, 76, 77, 78, 79, 80, 81, 82, 83, 84, 85, 86, 87, 88, 89, 90, 91, 92, 93, 94, 95, 96, 97, 98, 99, 100, 101, 157, 158, 159, 160, 140, 141, 142, 143, 144, 145, 146, 147, 148, 149, 150, 151, 152, 153, 154, 155, 156] (by decide +kernel) (by decide +kernel)
set_option maxRecDepth 20000 in
theorem gX11_lay_X8_readInto : GoodIn wsX11_lay (wsV RX11 100 RX8 yX8_readInto wsX8_readInto) := goodIn_app (goodIn_of _ (by decide +kernel)) ggX11_lay_X8_readInto
set_option maxRecDepth 20000 in
theorem ggX11_lay_X2_forget : GoodIn wsX11_lay wsX2_forget := goodIn_r _ [106, 107, 108, 109, 110, 111, 112, 113, 114, 115, 116, 117, 31, 118, 161, 162, 163, 164, 165, 166, 167, 168, 169, 170, 171] (by decide +kernel) (by decide +kernel)
set_option maxRecDepth 20000 in
theorem gX11_lay_X2_forget : GoodIn wsX11_lay (wsV RX11 110 RX2 yX2_forget wsX2_forget) := goodIn_app (goodIn_of _ (by decide +kernel)) ggX11_lay_X2_forget
set_option maxRecDepth 20000 in
theorem ggX11_lay_X1_reset : GoodIn wsX11_lay wsX1_reset := goodIn_r _ [123, 124, 125, 126, 127, 172, 173, 174, 175, 176, 177] (by decide +kernel) (by decide +kernel)
set_option maxRecDepth 20000 in
theorem gX11_lay_X1_reset : GoodIn wsX11_lay (wsV RX11 113 RX1 yX1_reset wsX1_reset) := goodIn_app (goodIn_of _ (by decide +kernel)) ggX11_lay_X1_reset
theorem dX11_lay_0 : decode cX11_lay 0 = .ok (.aload_n 0, 1) := by decide +kernel
theorem dX11_lay_1 : decode cX11_lay 1 = .ok (.getfield 12, 3) := by decide +kernel
theorem dX11_lay_4 : decode cX11_lay 4 = .ok (.aload_n 0, 1) := by decide +kernel
theorem dX11_lay_5 : decode cX11_lay 5 = .ok (.getfield 23, 3) := by decide +kernel
theorem dX11_lay_8 : decode cX11_lay 8 = .ok (.invokevirtual 100, 3) := by decide +kernel
theorem dX11_lay_11 : decode cX11_lay 11 = .ok (.bipush (-4), 2) := by decide +kernel
theorem dX11_lay_13 : decode cX11_lay 13 = .ok (.if_icmp .ne 23, 3) := by decide +kernel
theorem dX11_lay_16 : decode cX11_lay 16 = .ok (.aload_n 0, 1) := by decide +kernel
theorem dX11_lay_17 : decode cX11_lay 17 = .ok (.getfield 23, 3) := by decide +kernel
theorem dX11_lay_20 : decode cX11_lay 20 = .ok (.getfield 104, 3) := by decide +kernel
theorem dX11_lay_23 : decode cX11_lay 23 = .ok (.ifCond .eq 13, 3) := by decide +kernel
theorem dX11_lay_26 : decode cX11_lay 26 = .ok (.aload_n 0, 1) := by decide +kernel
theorem dX11_lay_27 : decode cX11_lay 27 = .ok (.getfield 23, 3) := by decide +kernel
theorem dX11_lay_30 : decode cX11_lay 30 = .ok (.getfield 107, 3) := by decide +kernel
theorem dX11_lay_33 : decode cX11_lay 33 = .ok (.ifCond .ne 6, 3) := by decide +kernel
theorem dX11_lay_36 : decode cX11_lay 36 = .ok (.bipush (-2), 2) := by decide +kernel
theorem dX11_lay_38 : decode cX11_lay 38 = .ok (.ireturn, 1) := by decide +kernel
theorem dX11_lay_39 : decode cX11_lay 39 = .ok (.aload_n 0, 1) := by decide +kernel
theorem dX11_lay_40 : decode cX11_lay 40 = .ok (.getfield 12, 3) := by decide +kernel
theorem dX11_lay_43 : decode cX11_lay 43 = .ok (.aload_n 0, 1) := by decide +kernel
theorem dX11_lay_44 : decode cX11_lay 44 = .ok (.getfield 19, 3) := by decide +kernel
theorem dX11_lay_47 : decode cX11_lay 47 = .ok (.invokevirtual 100, 3) := by decide +kernel
theorem dX11_lay_50 : decode cX11_lay 50 = .ok (.pop, 1) := by decide +kernel
theorem dX11_lay_51 : decode cX11_lay 51 = .ok (.aload_n 0, 1) := by decide +kernel
theorem dX11_lay_52 : decode cX11_lay 52 = .ok (.getfield 52, 3) := by decide +kernel
theorem dX11_lay_55 : decode cX11_lay 55 = .ok (.invokevirtual 110, 3) := by decide +kernel
theorem dX11_lay_58 : decode cX11_lay 58 = .ok (.aload_n 0, 1) := by decide +kernel
theorem dX11_lay_59 : decode cX11_lay 59 = .ok (.getfield 29, 3) := by decide +kernel
theorem dX11_lay_62 : decode cX11_lay 62 = .ok (.invokevirtual 113, 3) := by decide +kernel
theorem dX11_lay_65 : decode cX11_lay 65 = .ok (.aload_n 0, 1) := by decide +kernel
theorem dX11_lay_66 : decode cX11_lay 66 = .ok (.iconst 0, 1) := by decide +kernel
theorem dX11_lay_67 : decode cX11_lay 67 = .ok (.putfield 116, 3) := by decide +kernel
theorem dX11_lay_70 : decode cX11_lay 70 = .ok (.aload_n 0, 1) := by decide +kernel
theorem dX11_lay_71 : decode cX11_lay 71 = .ok (.getfield 19, 3) := by decide +kernel
theorem dX11_lay_74 : decode cX11_lay 74 = .ok (.getfield 107, 3) := by decide +kernel
theorem dX11_lay_77 : decode cX11_lay 77 = .ok (.ireturn, 1) := by decide +kernel
set_option maxRecDepth 20000 in
theorem ggX11_pass_X0_hasPiece : GoodIn wsX11_pass wsX0_hasPiece := goodIn_r _ [6, 7, 8, 9, 10, 54, 55, 56, 57, 58, 59, 60, 61, 62, 63, 64, 65, 66, 67, 68, 69, 70] (by decide +kernel) (by decide +kernel)
set_option maxRecDepth 20000 in
theorem gX11_pass_X0_hasPiece : GoodIn wsX11_pass (wsV RX11 119 RX0 yX0_hasPiece wsX0_hasPiece) := goodIn_app (goodIn_of _ (by decide +kernel)) ggX11_pass_X0_hasPiece
set_option maxRecDepth 20000 in
theorem ggX11_pass_X0_hasSpeed : GoodIn wsX11_pass wsX0_hasSpeed := goodIn_r _ [14, 15, 8, 9, 10, 54, 55, 56, 57, 58, 59, 60, 61, 62, 63, 64, 65, 66, 67, 68, 69, 70] (by decide +kernel) (by decide +kernel)
set_option maxRecDepth 20000 in
theorem gX11_pass_X0_hasSpeed : GoodIn wsX11_pass (wsV RX11 123 RX0 yX0_hasSpeed wsX0_hasSpeed) := goodIn_app (goodIn_of _ (by decide +kernel)) ggX11_pass_X0_hasSpeed
set_option maxRecDepth 20000 in
theorem ggX11_pass_X0_hasSteel : GoodIn wsX11_pass wsX0_hasSteel := goodIn_r _ [19, 20, 8, 9, 10, 54, 55, 56, 57, 58, 59, 60, 61, 62, 63, 64, 65, 66, 67, 68, 69, 70] (by decide +kernel) (by decide +kernel)
set_option maxRecDepth 20000 in
theorem gX11_pass_X0_hasSteel : GoodIn wsX11_pass (wsV RX11 126 RX0 yX0_hasSteel wsX0_hasSteel) := goodIn_app (goodIn_of _ (by decide +kernel)) ggX11_pass_X0_hasSteel
set_option maxRecDepth 20000 in
theorem ggX11_pass_X11_within : GoodIn wsX11_pass wsX11_within := goodIn_r _ [10] (by decide +kernel) (by decide +kernel)
set_option maxRecDepth 20000 in
theorem gX11_pass_X11_within : GoodIn wsX11_pass (va_wsS RX11 88 yX11_within wsX11_within) := goodIn_app (goodIn_of _ (by decide +kernel)) ggX11_pass_X11_within
set_option maxRecDepth 20000 in
theorem ggX11_pass_X0_minutes : GoodIn wsX11_pass wsX0_minutes := goodIn_r _ [25, 26, 27, 28, 9, 29, 54, 55, 56, 57, 58, 59, 60, 61, 62, 63, 64, 65, 66, 67, 68, 69, 70] (by decide +kernel) (by decide +kernel)
set_option maxRecDepth 20000 in
theorem gX11_pass_X0_minutes : GoodIn wsX11_pass (wsV RX11 129 RX0 yX0_minutes wsX0_minutes) := goodIn_app (goodIn_of _ (by decide +kernel)) ggX11_pass_X0_minutes
set_option maxRecDepth 20000 in
theorem ggX11_pass_X0_wears : GoodIn wsX11_pass wsX0_wears := goodIn_r _ [33, 27, 34, 35, 28, 9, 29, 54, 55, 56, 57, 58, 59, 60, 61, 62, 63, 64, 65, 66, 67, 68, 69, 70] (by decide +kernel) (by decide +kernel)
set_option maxRecDepth 20000 in
theorem gX11_pass_X0_wears : GoodIn wsX11_pass (wsV RX11 133 RX0 yX0_wears wsX0_wears) := goodIn_app (goodIn_of _ (by decide +kernel)) ggX11_pass_X0_wears
set_option maxRecDepth 20000 in
theorem ggX11_pass_X0_mayCut : GoodIn wsX11_pass wsX0_mayCut := goodIn_r _ [39, 40, 26, 41, 28, 9, 29, 54, 55, 56, 57, 58, 59, 60, 61, 62, 63, 64, 65, 66, 67, 68, 69, 70] (by decide +kernel) (by decide +kernel)
set_option maxRecDepth 20000 in
theorem gX11_pass_X0_mayCut : GoodIn wsX11_pass (wsV RX11 137 RX0 yX0_mayCut wsX0_mayCut) := goodIn_app (goodIn_of _ (by decide +kernel)) ggX11_pass_X0_mayCut
theorem dX11_pass_0 : decode cX11_pass 0 = .ok (.aload_n 0, 1) := by decide +kernel
theorem dX11_pass_1 : decode cX11_pass 1 = .ok (.getfield 19, 3) := by decide +kernel
theorem dX11_pass_4 : decode cX11_pass 4 = .ok (.iload_n 1, 1) := by decide +kernel
theorem dX11_pass_5 : decode cX11_pass 5 = .ok (.invokevirtual 119, 3) := by decide +kernel
theorem dX11_pass_8 : decode cX11_pass 8 = .ok (.ifCond .eq 26, 3) := by decide +kernel
theorem dX11_pass_11 : decode cX11_pass 11 = .ok (.aload_n 0, 1) := by decide +kernel
theorem dX11_pass_12 : decode cX11_pass 12 = .ok (.getfield 19, 3) := by decide +kernel
theorem dX11_pass_15 : decode cX11_pass 15 = .ok (.iload_n 2, 1) := by decide +kernel
theorem dX11_pass_16 : decode cX11_pass 16 = .ok (.invokevirtual 123, 3) := by decide +kernel
theorem dX11_pass_19 : decode cX11_pass 19 = .ok (.ifCond .eq 15, 3) := by decide +kernel
theorem dX11_pass_22 : decode cX11_pass 22 = .ok (.aload_n 0, 1) := by decide +kernel
theorem dX11_pass_23 : decode cX11_pass 23 = .ok (.getfield 19, 3) := by decide +kernel
theorem dX11_pass_26 : decode cX11_pass 26 = .ok (.iload 4, 2) := by decide +kernel
theorem dX11_pass_28 : decode cX11_pass 28 = .ok (.invokevirtual 126, 3) := by decide +kernel
theorem dX11_pass_31 : decode cX11_pass 31 = .ok (.ifCond .ne 5, 3) := by decide +kernel
theorem dX11_pass_34 : decode cX11_pass 34 = .ok (.iconst (-1), 1) := by decide +kernel
theorem dX11_pass_35 : decode cX11_pass 35 = .ok (.ireturn, 1) := by decide +kernel
theorem dX11_pass_36 : decode cX11_pass 36 = .ok (.iload_n 3, 1) := by decide +kernel
theorem dX11_pass_37 : decode cX11_pass 37 = .ok (.iconst 1, 1) := by decide +kernel
theorem dX11_pass_38 : decode cX11_pass 38 = .ok (.bipush 8, 2) := by decide +kernel
theorem dX11_pass_40 : decode cX11_pass 40 = .ok (.invokestatic 88, 3) := by decide +kernel
theorem dX11_pass_43 : decode cX11_pass 43 = .ok (.ifCond .eq 13, 3) := by decide +kernel
theorem dX11_pass_46 : decode cX11_pass 46 = .ok (.iload 5, 2) := by decide +kernel
theorem dX11_pass_48 : decode cX11_pass 48 = .ok (.iconst 0, 1) := by decide +kernel
theorem dX11_pass_49 : decode cX11_pass 49 = .ok (.iconst 2, 1) := by decide +kernel
theorem dX11_pass_50 : decode cX11_pass 50 = .ok (.invokestatic 88, 3) := by decide +kernel
theorem dX11_pass_53 : decode cX11_pass 53 = .ok (.ifCond .ne 5, 3) := by decide +kernel
theorem dX11_pass_56 : decode cX11_pass 56 = .ok (.iconst (-1), 1) := by decide +kernel
theorem dX11_pass_57 : decode cX11_pass 57 = .ok (.ireturn, 1) := by decide +kernel
theorem dX11_pass_58 : decode cX11_pass 58 = .ok (.iload 5, 2) := by decide +kernel
theorem dX11_pass_60 : decode cX11_pass 60 = .ok (.ifCond .ne 13, 3) := by decide +kernel
theorem dX11_pass_63 : decode cX11_pass 63 = .ok (.aload_n 0, 1) := by decide +kernel
theorem dX11_pass_64 : decode cX11_pass 64 = .ok (.getfield 19, 3) := by decide +kernel
theorem dX11_pass_67 : decode cX11_pass 67 = .ok (.iload_n 1, 1) := by decide +kernel
theorem dX11_pass_68 : decode cX11_pass 68 = .ok (.iload_n 2, 1) := by decide +kernel
theorem dX11_pass_69 : decode cX11_pass 69 = .ok (.invokevirtual 129, 3) := by decide +kernel
theorem dX11_pass_72 : decode cX11_pass 72 = .ok (.ireturn, 1) := by decide +kernel
theorem dX11_pass_73 : decode cX11_pass 73 = .ok (.iload 5, 2) := by decide +kernel
theorem dX11_pass_75 : decode cX11_pass 75 = .ok (.iconst 1, 1) := by decide +kernel
theorem dX11_pass_76 : decode cX11_pass 76 = .ok (.if_icmp .ne 18, 3) := by decide +kernel
theorem dX11_pass_79 : decode cX11_pass 79 = .ok (.aload_n 0, 1) := by decide +kernel
theorem dX11_pass_80 : decode cX11_pass 80 = .ok (.getfield 19, 3) := by decide +kernel
theorem dX11_pass_83 : decode cX11_pass 83 = .ok (.iload_n 1, 1) := by decide +kernel
theorem dX11_pass_84 : decode cX11_pass 84 = .ok (.iload_n 2, 1) := by decide +kernel
theorem dX11_pass_85 : decode cX11_pass 85 = .ok (.iload_n 3, 1) := by decide +kernel
theorem dX11_pass_86 : decode cX11_pass 86 = .ok (.iload 4, 2) := by decide +kernel
theorem dX11_pass_88 : decode cX11_pass 88 = .ok (.invokevirtual 133, 3) := by decide +kernel
theorem dX11_pass_91 : decode cX11_pass 91 = .ok (.goto 20, 3) := by decide +kernel
theorem dX11_pass_94 : decode cX11_pass 94 = .ok (.aload_n 0, 1) := by decide +kernel
theorem dX11_pass_95 : decode cX11_pass 95 = .ok (.getfield 19, 3) := by decide +kernel
theorem dX11_pass_98 : decode cX11_pass 98 = .ok (.iload_n 2, 1) := by decide +kernel
theorem dX11_pass_99 : decode cX11_pass 99 = .ok (.iload_n 3, 1) := by decide +kernel
theorem dX11_pass_100 : decode cX11_pass 100 = .ok (.invokevirtual 137, 3) := by decide +kernel
theorem dX11_pass_103 : decode cX11_pass 103 = .ok (.ifCond .eq 7, 3) := by decide +kernel
theorem dX11_pass_106 : decode cX11_pass 106 = .ok (.iconst 1, 1) := by decide +kernel
theorem dX11_pass_107 : decode cX11_pass 107 = .ok (.goto 4, 3) := by decide +kernel
theorem dX11_pass_110 : decode cX11_pass 110 = .ok (.iconst 0, 1) := by decide +kernel
theorem dX11_pass_111 : decode cX11_pass 111 = .ok (.ireturn, 1) := by decide +kernel
set_option maxRecDepth 20000 in
theorem ggX11_breaks_X11_within : GoodIn wsX11_breaks wsX11_within := goodIn_r _ [5] (by decide +kernel) (by decide +kernel)
set_option maxRecDepth 20000 in
theorem gX11_breaks_X11_within : GoodIn wsX11_breaks (va_wsS RX11 88 yX11_within wsX11_within) := goodIn_app (goodIn_of _ (by decide +kernel)) ggX11_breaks_X11_within
theorem dX11_breaks_0 : decode cX11_breaks 0 = .ok (.iload_n 1, 1) := by decide +kernel
theorem dX11_breaks_1 : decode cX11_breaks 1 = .ok (.iconst 0, 1) := by decide +kernel
theorem dX11_breaks_2 : decode cX11_breaks 2 = .ok (.bipush 100, 2) := by decide +kernel
theorem dX11_breaks_4 : decode cX11_breaks 4 = .ok (.invokestatic 88, 3) := by decide +kernel
theorem dX11_breaks_7 : decode cX11_breaks 7 = .ok (.ifCond .eq 15, 3) := by decide +kernel
theorem dX11_breaks_10 : decode cX11_breaks 10 = .ok (.aload_n 0, 1) := by decide +kernel
theorem dX11_breaks_11 : decode cX11_breaks 11 = .ok (.getfield 19, 3) := by decide +kernel
theorem dX11_breaks_14 : decode cX11_breaks 14 = .ok (.getfield 141, 3) := by decide +kernel
theorem dX11_breaks_17 : decode cX11_breaks 17 = .ok (.iload_n 1, 1) := by decide +kernel
theorem dX11_breaks_18 : decode cX11_breaks 18 = .ok (.iaload, 1) := by decide +kernel
theorem dX11_breaks_19 : decode cX11_breaks 19 = .ok (.goto 4, 3) := by decide +kernel
theorem dX11_breaks_22 : decode cX11_breaks 22 = .ok (.iconst (-1), 1) := by decide +kernel
theorem dX11_breaks_23 : decode cX11_breaks 23 = .ok (.ireturn, 1) := by decide +kernel
set_option maxRecDepth 20000 in
theorem ggX11_hand_X0_hasSpeed : GoodIn wsX11_hand wsX0_hasSpeed := goodIn_r _ [7, 8, 9, 10, 11, 41, 42, 43, 44, 45, 46, 47, 48, 49, 50, 51, 52, 53, 54, 55, 56, 57] (by decide +kernel) (by decide +kernel)
set_option maxRecDepth 20000 in
theorem gX11_hand_X0_hasSpeed : GoodIn wsX11_hand (wsV RX11 123 RX0 yX0_hasSpeed wsX0_hasSpeed) := goodIn_app (goodIn_of _ (by decide +kernel)) ggX11_hand_X0_hasSpeed
set_option maxRecDepth 20000 in
theorem ggX11_hand_X1_swapSpeed : GoodIn wsX11_hand wsX1_swapSpeed := goodIn_r _ [16, 17, 58, 59, 60, 61, 62, 63] (by decide +kernel) (by decide +kernel)
set_option maxRecDepth 20000 in
theorem gX11_hand_X1_swapSpeed : GoodIn wsX11_hand (wsV RX11 145 RX1 yX1_swapSpeed wsX1_swapSpeed) := goodIn_app (goodIn_of _ (by decide +kernel)) ggX11_hand_X1_swapSpeed
set_option maxRecDepth 20000 in
theorem ggX11_hand_X11_within : GoodIn wsX11_hand wsX11_within := goodIn_r _ [11] (by decide +kernel) (by decide +kernel)
set_option maxRecDepth 20000 in
theorem gX11_hand_X11_within : GoodIn wsX11_hand (va_wsS RX11 88 yX11_within wsX11_within) := goodIn_app (goodIn_of _ (by decide +kernel)) ggX11_hand_X11_within
set_option maxRecDepth 20000 in
theorem ggX11_hand_X1_swapLimit : GoodIn wsX11_hand wsX1_swapLimit := goodIn_r _ [22, 23, 58, 59, 60, 61, 62, 63] (by decide +kernel) (by decide +kernel)
set_option maxRecDepth 20000 in
theorem gX11_hand_X1_swapLimit : GoodIn wsX11_hand (wsV RX11 149 RX1 yX1_swapLimit wsX1_swapLimit) := goodIn_app (goodIn_of _ (by decide +kernel)) ggX11_hand_X1_swapLimit
set_option maxRecDepth 20000 in
theorem ggX11_hand_X1_swapEvery : GoodIn wsX11_hand wsX1_swapEvery := goodIn_r _ [27, 28, 58, 59, 60, 61, 62, 63] (by decide +kernel) (by decide +kernel)
set_option maxRecDepth 20000 in
theorem gX11_hand_X1_swapEvery : GoodIn wsX11_hand (wsV RX11 152 RX1 yX1_swapEvery wsX1_swapEvery) := goodIn_app (goodIn_of _ (by decide +kernel)) ggX11_hand_X1_swapEvery
theorem dX11_hand_0 : decode cX11_hand 0 = .ok (.iload_n 1, 1) := by decide +kernel
theorem dX11_hand_1 : decode cX11_hand 1 = .ok (.tableswitch 97 0 2 #[27, 51, 74], 27) := by decide +kernel
theorem dX11_hand_28 : decode cX11_hand 28 = .ok (.aload_n 0, 1) := by decide +kernel
theorem dX11_hand_29 : decode cX11_hand 29 = .ok (.getfield 19, 3) := by decide +kernel
theorem dX11_hand_32 : decode cX11_hand 32 = .ok (.iload_n 2, 1) := by decide +kernel
theorem dX11_hand_33 : decode cX11_hand 33 = .ok (.invokevirtual 123, 3) := by decide +kernel
theorem dX11_hand_36 : decode cX11_hand 36 = .ok (.ifCond .eq 14, 3) := by decide +kernel
theorem dX11_hand_39 : decode cX11_hand 39 = .ok (.aload_n 0, 1) := by decide +kernel
theorem dX11_hand_40 : decode cX11_hand 40 = .ok (.getfield 29, 3) := by decide +kernel
theorem dX11_hand_43 : decode cX11_hand 43 = .ok (.iload_n 2, 1) := by decide +kernel
theorem dX11_hand_44 : decode cX11_hand 44 = .ok (.invokevirtual 145, 3) := by decide +kernel
theorem dX11_hand_47 : decode cX11_hand 47 = .ok (.goto 4, 3) := by decide +kernel
theorem dX11_hand_50 : decode cX11_hand 50 = .ok (.iconst (-1), 1) := by decide +kernel
theorem dX11_hand_51 : decode cX11_hand 51 = .ok (.ireturn, 1) := by decide +kernel
theorem dX11_hand_52 : decode cX11_hand 52 = .ok (.iload_n 2, 1) := by decide +kernel
theorem dX11_hand_53 : decode cX11_hand 53 = .ok (.iconst 0, 1) := by decide +kernel
theorem dX11_hand_54 : decode cX11_hand 54 = .ok (.bipush 100, 2) := by decide +kernel
theorem dX11_hand_56 : decode cX11_hand 56 = .ok (.invokestatic 88, 3) := by decide +kernel
theorem dX11_hand_59 : decode cX11_hand 59 = .ok (.ifCond .eq 14, 3) := by decide +kernel
theorem dX11_hand_62 : decode cX11_hand 62 = .ok (.aload_n 0, 1) := by decide +kernel
theorem dX11_hand_63 : decode cX11_hand 63 = .ok (.getfield 29, 3) := by decide +kernel
theorem dX11_hand_66 : decode cX11_hand 66 = .ok (.iload_n 2, 1) := by decide +kernel
theorem dX11_hand_67 : decode cX11_hand 67 = .ok (.invokevirtual 149, 3) := by decide +kernel
theorem dX11_hand_70 : decode cX11_hand 70 = .ok (.goto 4, 3) := by decide +kernel
theorem dX11_hand_73 : decode cX11_hand 73 = .ok (.iconst (-1), 1) := by decide +kernel
theorem dX11_hand_74 : decode cX11_hand 74 = .ok (.ireturn, 1) := by decide +kernel
theorem dX11_hand_75 : decode cX11_hand 75 = .ok (.iload_n 2, 1) := by decide +kernel
theorem dX11_hand_76 : decode cX11_hand 76 = .ok (.iconst 1, 1) := by decide +kernel
theorem dX11_hand_77 : decode cX11_hand 77 = .ok (.bipush 8, 2) := by decide +kernel
theorem dX11_hand_79 : decode cX11_hand 79 = .ok (.invokestatic 88, 3) := by decide +kernel
theorem dX11_hand_82 : decode cX11_hand 82 = .ok (.ifCond .eq 14, 3) := by decide +kernel
theorem dX11_hand_85 : decode cX11_hand 85 = .ok (.aload_n 0, 1) := by decide +kernel
theorem dX11_hand_86 : decode cX11_hand 86 = .ok (.getfield 29, 3) := by decide +kernel
theorem dX11_hand_89 : decode cX11_hand 89 = .ok (.iload_n 2, 1) := by decide +kernel
theorem dX11_hand_90 : decode cX11_hand 90 = .ok (.invokevirtual 152, 3) := by decide +kernel
theorem dX11_hand_93 : decode cX11_hand 93 = .ok (.goto 4, 3) := by decide +kernel
theorem dX11_hand_96 : decode cX11_hand 96 = .ok (.iconst (-1), 1) := by decide +kernel
theorem dX11_hand_97 : decode cX11_hand 97 = .ok (.ireturn, 1) := by decide +kernel
theorem dX11_hand_98 : decode cX11_hand 98 = .ok (.iconst (-1), 1) := by decide +kernel
theorem dX11_hand_99 : decode cX11_hand 99 = .ok (.ireturn, 1) := by decide +kernel
set_option maxRecDepth 20000 in
theorem ggX11_does_X11_isHandIn : GoodIn wsX11_does wsX11_isHandIn := goodIn_r _ [7, 1, 8, 9, 6, 10, 11, 12, 13, 14, 15, 16, 232, 233, 234, 235, 236, 237, 238, 239, 240, 241, 242, 243, 244, 245, 246, 247, 248, 249, 250, 251, 252, 253, 254, 255, 256, 257, 258, 259, 260] (by decide +kernel) (by decide +kernel)
set_option maxRecDepth 20000 in
theorem gX11_does_X11_isHandIn : GoodIn wsX11_does (wsV RX11 155 RX11 yX11_isHandIn wsX11_isHandIn) := goodIn_app (goodIn_of _ (by decide +kernel)) ggX11_does_X11_isHandIn
set_option maxRecDepth 20000 in
theorem ggX11_does_X0_isState : GoodIn wsX11_does wsX0_isState := goodIn_r _ [20, 21, 22, 23, 14, 24, 25, 9, 6, 10, 26, 27, 28, 29, 30, 31, 32, 244, 245, 246, 247, 248, 249, 250, 251, 252, 253, 254, 255, 256, 257, 258, 259, 260] (by decide +kernel) (by decide +kernel)
set_option maxRecDepth 20000 in
theorem gX11_does_X0_isState : GoodIn wsX11_does (wsV RX11 158 RX0 yX0_isState wsX0_isState) := goodIn_app (goodIn_of _ (by decide +kernel)) ggX11_does_X0_isState
set_option maxRecDepth 20000 in
theorem ggX11_does_X2_prepare : GoodIn wsX11_does wsX2_prepare := goodIn_r _ [37, 38, 39, 40, 41, 42, 36, 43, 44, 9, 6, 10, 45, 46, 47, 48, 49, 50, 51, 52, 53, 54, 55, 56, 57, 58, 59, 60, 61, 62, 63, 64, 65, 66, 67, 68, 69, 70, 14, 71, 72, 73, 74, 75, 76, 77, 78, 79, 80, 81, 82, 83, 84, 85, 86, 87, 88, 89, 90, 91, 92, 27, 28, 29, 30, 31, 32, 93, 94, 95, 96, 97, 98, 99, 100, 101, 102, 103, 104, 105, 106, 107, 108, 109, 110, 111, 112, 113, 114, 115, 116, 117, 118, 119, 120, 121, 122, 123, 124, 125, 126, 127, 128, 129, 130, 131, 132, 133, 134, 135, 136, 137, 138, 139, 140, 141, 22, 23, 24, 25, 142, 143, 144, 145, 146, 147, 148, 149, 150, 151, 152, 153, 154, 155, 156, 157, 158, 159, 160, 161, 162, 163, 164, 165, 166, 167, 168, 169, 170, 171, 172, 173, 174, 175, 176, 177, 178, 179, 180, 181, 182, 183, 184, 185, 186, 187, 188, 189, 190, 191, 192, 261, 262, 263, 264, 265, 266, 267, 268, 269, 270, 271, 244, 245, 246, 247, 248, 249, 250, 251, 252, 253, 254, 255, 256, 257, 258, 259, 260] (by decide +kernel) (by decide +kernel)
set_option maxRecDepth 20000 in
theorem gX11_does_X2_prepare : GoodIn wsX11_does (wsV RX11 161 RX2 yX2_prepare wsX2_prepare) := goodIn_app (goodIn_of _ (by decide +kernel)) ggX11_does_X2_prepare
set_option maxRecDepth 20000 in
theorem ggX11_does_X2_choose : GoodIn wsX11_does wsX2_choose := goodIn_r _ [196, 197, 198, 199, 200, 201, 36, 202, 203, 204, 205, 14, 206, 115, 114, 116, 207, 208, 209, 210, 31, 6, 32, 211, 165, 166, 167, 168, 212, 213, 214, 215, 216, 217, 218, 219, 27, 28, 29, 30, 220, 221, 222, 223, 224, 225, 226, 227, 109, 122, 188, 189, 190, 191, 192, 9, 10, 228, 229, 230, 48, 231, 56, 147, 148, 149, 40, 41, 42, 43, 44, 261, 262, 263, 264, 272, 273, 274, 275, 276, 277, 244, 245, 246, 247, 248, 249, 250, 251, 252, 253, 254, 255, 256, 257, 258, 259, 260, 265, 266, 267, 268, 269, 270, 271] (by decide +kernel) (by decide +kernel)
set_option maxRecDepth 20000 in
theorem gX11_does_X2_choose : GoodIn wsX11_does (wsV RX11 165 RX2 yX2_choose wsX2_choose) := goodIn_app (goodIn_of _ (by decide +kernel)) ggX11_does_X2_choose
theorem dX11_does_0 : decode cX11_does 0 = .ok (.aload_n 0, 1) := by decide +kernel
theorem dX11_does_1 : decode cX11_does 1 = .ok (.iload_n 1, 1) := by decide +kernel
theorem dX11_does_2 : decode cX11_does 2 = .ok (.iload_n 2, 1) := by decide +kernel
theorem dX11_does_3 : decode cX11_does 3 = .ok (.invokevirtual 155, 3) := by decide +kernel
theorem dX11_does_6 : decode cX11_does 6 = .ok (.ifCond .eq 18, 3) := by decide +kernel
theorem dX11_does_9 : decode cX11_does 9 = .ok (.aload_n 0, 1) := by decide +kernel
theorem dX11_does_10 : decode cX11_does 10 = .ok (.getfield 19, 3) := by decide +kernel
theorem dX11_does_13 : decode cX11_does 13 = .ok (.iload_n 3, 1) := by decide +kernel
theorem dX11_does_14 : decode cX11_does 14 = .ok (.iload 4, 2) := by decide +kernel
theorem dX11_does_16 : decode cX11_does 16 = .ok (.iload 5, 2) := by decide +kernel
theorem dX11_does_18 : decode cX11_does 18 = .ok (.invokevirtual 158, 3) := by decide +kernel
theorem dX11_does_21 : decode cX11_does 21 = .ok (.ifCond .ne 5, 3) := by decide +kernel
theorem dX11_does_24 : decode cX11_does 24 = .ok (.iconst (-1), 1) := by decide +kernel
theorem dX11_does_25 : decode cX11_does 25 = .ok (.ireturn, 1) := by decide +kernel
theorem dX11_does_26 : decode cX11_does 26 = .ok (.aload_n 0, 1) := by decide +kernel
theorem dX11_does_27 : decode cX11_does 27 = .ok (.getfield 52, 3) := by decide +kernel
theorem dX11_does_30 : decode cX11_does 30 = .ok (.iload_n 1, 1) := by decide +kernel
theorem dX11_does_31 : decode cX11_does 31 = .ok (.iload_n 2, 1) := by decide +kernel
theorem dX11_does_32 : decode cX11_does 32 = .ok (.invokevirtual 161, 3) := by decide +kernel
theorem dX11_does_35 : decode cX11_does 35 = .ok (.aload_n 0, 1) := by decide +kernel
theorem dX11_does_36 : decode cX11_does 36 = .ok (.getfield 52, 3) := by decide +kernel
theorem dX11_does_39 : decode cX11_does 39 = .ok (.iload_n 1, 1) := by decide +kernel
theorem dX11_does_40 : decode cX11_does 40 = .ok (.iload_n 2, 1) := by decide +kernel
theorem dX11_does_41 : decode cX11_does 41 = .ok (.iload_n 3, 1) := by decide +kernel
theorem dX11_does_42 : decode cX11_does 42 = .ok (.iload 4, 2) := by decide +kernel
theorem dX11_does_44 : decode cX11_does 44 = .ok (.iload 5, 2) := by decide +kernel
theorem dX11_does_46 : decode cX11_does 46 = .ok (.invokevirtual 165, 3) := by decide +kernel
theorem dX11_does_49 : decode cX11_does 49 = .ok (.ireturn, 1) := by decide +kernel
set_option maxRecDepth 20000 in
theorem ggX11_value_X11_isHandIn : GoodIn wsX11_value wsX11_isHandIn := goodIn_r _ [10, 1, 11, 12, 9, 13, 14, 15, 16, 17, 18, 19, 285, 286, 287, 288, 289, 290, 291, 292, 293, 294, 295, 296, 297, 298, 299, 300, 301, 302, 303, 304, 305, 306, 307, 308, 309, 310, 311, 312, 313] (by decide +kernel) (by decide +kernel)
set_option maxRecDepth 20000 in
theorem gX11_value_X11_isHandIn : GoodIn wsX11_value (wsV RX11 155 RX11 yX11_isHandIn wsX11_isHandIn) := goodIn_app (goodIn_of _ (by decide +kernel)) ggX11_value_X11_isHandIn
set_option maxRecDepth 20000 in
theorem ggX11_value_X0_isState : GoodIn wsX11_value wsX0_isState := goodIn_r _ [23, 24, 25, 26, 17, 27, 28, 12, 9, 13, 29, 30, 31, 32, 33, 34, 35, 297, 298, 299, 300, 301, 302, 303, 304, 305, 306, 307, 308, 309, 310, 311, 312, 313] (by decide +kernel) (by decide +kernel)
set_option maxRecDepth 20000 in
theorem gX11_value_X0_isState : GoodIn wsX11_value (wsV RX11 158 RX0 yX0_isState wsX0_isState) := goodIn_app (goodIn_of _ (by decide +kernel)) ggX11_value_X0_isState
set_option maxRecDepth 20000 in
theorem ggX11_value_X2_prepare : GoodIn wsX11_value wsX2_prepare := goodIn_r _ [40, 41, 42, 43, 44, 45, 39, 46, 47, 12, 9, 13, 48, 49, 50, 51, 52, 53, 54, 55, 56, 57, 58, 59, 60, 61, 62, 63, 64, 65, 66, 67, 68, 69, 70, 71, 72, 73, 17, 74, 75, 76, 77, 78, 79, 80, 81, 82, 83, 84, 85, 86, 87, 88, 89, 90, 91, 92, 93, 94, 95, 30, 31, 32, 33, 34, 35, 96, 97, 98, 99, 100, 101, 102, 103, 104, 105, 106, 107, 108, 109, 110, 111, 112, 113, 114, 115, 116, 117, 118, 119, 120, 121, 122, 123, 124, 125, 126, 127, 128, 129, 130, 131, 132, 133, 134, 135, 136, 137, 138, 139, 140, 141, 142, 143, 144, 25, 26, 27, 28, 145, 146, 147, 148, 149, 150, 151, 152, 153, 154, 155, 156, 157, 158, 159, 160, 161, 162, 163, 164, 165, 166, 167, 168, 169, 170, 171, 172, 173, 174, 175, 176, 177, 178, 179, 180, 181, 182, 183, 184, 185, 186, 187, 188, 189, 190, 191, 192, 193, 194, 195, 314, 315, 316, 317, 318, 319, 320, 321, 322, 323, 324, 297, 298, 299, 300, 301, 302, 303, 304, 305, 306, 307, 308, 309, 310, 311, 312, 313] (by decide +kernel) (by decide +kernel)
set_option maxRecDepth 20000 in
theorem gX11_value_X2_prepare : GoodIn wsX11_value (wsV RX11 161 RX2 yX2_prepare wsX2_prepare) := goodIn_app (goodIn_of _ (by decide +kernel)) ggX11_value_X2_prepare
set_option maxRecDepth 20000 in
theorem ggX11_value_X10_spread : GoodIn wsX11_value wsX10_spread := goodIn_r _ [200, 201, 202, 203, 204, 205, 206, 207, 208, 209, 56, 57, 51, 58, 59, 53, 60, 61, 62, 63, 210, 211, 212, 213, 150, 151, 152, 214, 30, 31, 17, 32, 33, 34, 9, 35, 215, 216, 217, 218, 219, 220, 221, 199, 222, 223, 224, 225, 226, 39, 227, 228, 229, 230, 231, 232, 233, 234, 235, 236, 237, 118, 117, 119, 238, 239, 240, 241, 242, 168, 169, 170, 171, 243, 244, 245, 246, 247, 248, 249, 250, 251, 252, 253, 254, 255, 256, 257, 258, 112, 125, 191, 192, 193, 194, 195, 12, 13, 259, 43, 44, 45, 46, 47, 260, 261, 262, 263, 264, 25, 26, 27, 28, 265, 266, 267, 268, 104, 105, 106, 107, 269, 121, 122, 123, 124, 126, 270, 159, 160, 161, 162, 325, 326, 327, 328, 329, 330, 331, 332, 333, 297, 298, 299, 300, 301, 302, 303, 304, 305, 306, 307, 308, 309, 310, 311, 312, 313, 318, 319, 320, 321, 322, 323, 324, 314, 315, 316, 317, 334, 335, 336, 337, 338, 339] (by decide +kernel) (by decide +kernel)
set_option maxRecDepth 20000 in
theorem gX11_value_X10_spread : GoodIn wsX11_value (wsV RX11 171 RX10 yX10_spread wsX10_spread) := goodIn_app (goodIn_of _ (by decide +kernel)) ggX11_value_X10_spread
set_option maxRecDepth 20000 in
theorem ggX11_value_X10_gain : GoodIn wsX11_value wsX10_gain := goodIn_r _ [274, 207, 203, 208, 204, 205, 206, 275, 65, 66, 51, 67, 68, 69, 54, 70, 71, 72, 73, 17, 74, 75, 76, 77, 78, 79, 80, 81, 82, 83, 84, 85, 86, 87, 88, 89, 90, 91, 92, 93, 94, 214, 30, 31, 32, 33, 34, 9, 35, 215, 216, 217, 218, 59, 150, 151, 152, 276, 277, 278, 279, 145, 146, 147, 148, 149, 140, 141, 142, 143, 144, 25, 26, 27, 28, 12, 13, 95, 104, 105, 106, 107, 120, 121, 122, 123, 124, 125, 126, 136, 137, 138, 139, 153, 154, 155, 156, 157, 158, 159, 160, 161, 162, 163, 164, 165, 166, 167, 168, 169, 170, 171, 172, 173, 174, 175, 176, 177, 178, 179, 180, 181, 182, 127, 128, 129, 130, 131, 132, 133, 134, 118, 135, 280, 281, 282, 283, 284, 325, 326, 327, 328, 329, 330, 331, 332, 333, 297, 298, 299, 300, 301, 302, 303, 304, 305, 306, 307, 308, 309, 310, 311, 312, 313, 318, 319, 320, 321, 322, 323, 324] (by decide +kernel) (by decide +kernel)
set_option maxRecDepth 20000 in
theorem gX11_value_X10_gain : GoodIn wsX11_value (wsV RX11 181 RX10 yX10_gain wsX10_gain) := goodIn_app (goodIn_of _ (by decide +kernel)) ggX11_value_X10_gain
theorem dX11_value_0 : decode cX11_value 0 = .ok (.aload_n 0, 1) := by decide +kernel
theorem dX11_value_1 : decode cX11_value 1 = .ok (.iload_n 1, 1) := by decide +kernel
theorem dX11_value_2 : decode cX11_value 2 = .ok (.iload_n 2, 1) := by decide +kernel
theorem dX11_value_3 : decode cX11_value 3 = .ok (.invokevirtual 155, 3) := by decide +kernel
theorem dX11_value_6 : decode cX11_value 6 = .ok (.ifCond .eq 18, 3) := by decide +kernel
theorem dX11_value_9 : decode cX11_value 9 = .ok (.aload_n 0, 1) := by decide +kernel
theorem dX11_value_10 : decode cX11_value 10 = .ok (.getfield 19, 3) := by decide +kernel
theorem dX11_value_13 : decode cX11_value 13 = .ok (.iload_n 3, 1) := by decide +kernel
theorem dX11_value_14 : decode cX11_value 14 = .ok (.iload 4, 2) := by decide +kernel
theorem dX11_value_16 : decode cX11_value 16 = .ok (.iload 5, 2) := by decide +kernel
theorem dX11_value_18 : decode cX11_value 18 = .ok (.invokevirtual 158, 3) := by decide +kernel
theorem dX11_value_21 : decode cX11_value 21 = .ok (.ifCond .ne 7, 3) := by decide +kernel
theorem dX11_value_24 : decode cX11_value 24 = .ok (.ldc2_w 169, 3) := by decide +kernel
theorem dX11_value_27 : decode cX11_value 27 = .ok (.lreturn, 1) := by decide +kernel
theorem dX11_value_28 : decode cX11_value 28 = .ok (.aload_n 0, 1) := by decide +kernel
theorem dX11_value_29 : decode cX11_value 29 = .ok (.getfield 52, 3) := by decide +kernel
theorem dX11_value_32 : decode cX11_value 32 = .ok (.iload_n 1, 1) := by decide +kernel
theorem dX11_value_33 : decode cX11_value 33 = .ok (.iload_n 2, 1) := by decide +kernel
theorem dX11_value_34 : decode cX11_value 34 = .ok (.invokevirtual 161, 3) := by decide +kernel
theorem dX11_value_37 : decode cX11_value 37 = .ok (.aload_n 0, 1) := by decide +kernel
theorem dX11_value_38 : decode cX11_value 38 = .ok (.getfield 61, 3) := by decide +kernel
theorem dX11_value_41 : decode cX11_value 41 = .ok (.iload_n 1, 1) := by decide +kernel
theorem dX11_value_42 : decode cX11_value 42 = .ok (.iload_n 2, 1) := by decide +kernel
theorem dX11_value_43 : decode cX11_value 43 = .ok (.iload_n 2, 1) := by decide +kernel
theorem dX11_value_44 : decode cX11_value 44 = .ok (.iload_n 3, 1) := by decide +kernel
theorem dX11_value_45 : decode cX11_value 45 = .ok (.iload 4, 2) := by decide +kernel
theorem dX11_value_47 : decode cX11_value 47 = .ok (.iload 5, 2) := by decide +kernel
theorem dX11_value_49 : decode cX11_value 49 = .ok (.invokevirtual 171, 3) := by decide +kernel
theorem dX11_value_52 : decode cX11_value 52 = .ok (.aload_n 0, 1) := by decide +kernel
theorem dX11_value_53 : decode cX11_value 53 = .ok (.getfield 61, 3) := by decide +kernel
theorem dX11_value_56 : decode cX11_value 56 = .ok (.getstatic 175, 3) := by decide +kernel
theorem dX11_value_59 : decode cX11_value 59 = .ok (.invokevirtual 181, 3) := by decide +kernel
theorem dX11_value_62 : decode cX11_value 62 = .ok (.lreturn, 1) := by decide +kernel
set_option maxRecDepth 20000 in
theorem ggX11_mean_X11_isHandIn : GoodIn wsX11_mean wsX11_isHandIn := goodIn_r _ [11, 1, 12, 13, 10, 14, 15, 16, 17, 18, 19, 20, 286, 287, 288, 289, 290, 291, 292, 293, 294, 295, 296, 297, 298, 299, 300, 301, 302, 303, 304, 305, 306, 307, 308, 309, 310, 311, 312, 313, 314] (by decide +kernel) (by decide +kernel)
set_option maxRecDepth 20000 in
theorem gX11_mean_X11_isHandIn : GoodIn wsX11_mean (wsV RX11 155 RX11 yX11_isHandIn wsX11_isHandIn) := goodIn_app (goodIn_of _ (by decide +kernel)) ggX11_mean_X11_isHandIn
set_option maxRecDepth 20000 in
theorem ggX11_mean_X0_isState : GoodIn wsX11_mean wsX0_isState := goodIn_r _ [24, 25, 26, 27, 18, 28, 29, 13, 10, 14, 30, 31, 32, 33, 34, 35, 36, 298, 299, 300, 301, 302, 303, 304, 305, 306, 307, 308, 309, 310, 311, 312, 313, 314] (by decide +kernel) (by decide +kernel)
set_option maxRecDepth 20000 in
theorem gX11_mean_X0_isState : GoodIn wsX11_mean (wsV RX11 158 RX0 yX0_isState wsX0_isState) := goodIn_app (goodIn_of _ (by decide +kernel)) ggX11_mean_X0_isState
set_option maxRecDepth 20000 in
theorem ggX11_mean_X11_within : GoodIn wsX11_mean wsX11_within := goodIn_r _ [14] (by decide +kernel) (by decide +kernel)
set_option maxRecDepth 20000 in
theorem gX11_mean_X11_within : GoodIn wsX11_mean (va_wsS RX11 88 yX11_within wsX11_within) := goodIn_app (goodIn_of _ (by decide +kernel)) ggX11_mean_X11_within
set_option maxRecDepth 20000 in
theorem ggX11_mean_X2_prepare : GoodIn wsX11_mean wsX2_prepare := goodIn_r _ [41, 42, 43, 44, 45, 46, 40, 47, 48, 13, 10, 14, 49, 50, 51, 52, 53, 54, 55, 56, 57, 58, 59, 60, 61, 62, 63, 64, 65, 66, 67, 68, 69, 70, 71, 72, 73, 74, 18, 75, 76, 77, 78, 79, 80, 81, 82, 83, 84, 85, 86, 87, 88, 89, 90, 91, 92, 93, 94, 95, 96, 31, 32, 33, 34, 35, 36, 97, 98, 99, 100, 101, 102, 103, 104, 105, 106, 107, 108, 109, 110, 111, 112, 113, 114, 115, 116, 117, 118, 119, 120, 121, 122, 123, 124, 125, 126, 127, 128, 129, 130, 131, 132, 133, 134, 135, 136, 137, 138, 139, 140, 141, 142, 143, 144, 145, 26, 27, 28, 29, 146, 147, 148, 149, 150, 151, 152, 153, 154, 155, 156, 157, 158, 159, 160, 161, 162, 163, 164, 165, 166, 167, 168, 169, 170, 171, 172, 173, 174, 175, 176, 177, 178, 179, 180, 181, 182, 183, 184, 185, 186, 187, 188, 189, 190, 191, 192, 193, 194, 195, 196, 315, 316, 317, 318, 319, 320, 321, 322, 323, 324, 325, 298, 299, 300, 301, 302, 303, 304, 305, 306, 307, 308, 309, 310, 311, 312, 313, 314] (by decide +kernel) (by decide +kernel)
set_option maxRecDepth 20000 in
theorem gX11_mean_X2_prepare : GoodIn wsX11_mean (wsV RX11 161 RX2 yX2_prepare wsX2_prepare) := goodIn_app (goodIn_of _ (by decide +kernel)) ggX11_mean_X2_prepare
set_option maxRecDepth 20000 in
theorem ggX11_mean_X10_spread : GoodIn wsX11_mean wsX10_spread := goodIn_r _ [201, 202, 203, 204, 205, 206, 207, 208, 209, 210, 57, 58, 52, 59, 60, 54, 61, 62, 63, 64, 211, 212, 213, 214, 151, 152, 153, 215, 31, 32, 18, 33, 34, 35, 10, 36, 216, 217, 218, 219, 220, 221, 222, 200, 223, 224, 225, 226, 227, 40, 228, 229, 230, 231, 232, 233, 234, 235, 236, 237, 238, 119, 118, 120, 239, 240, 241, 242, 243, 169, 170, 171, 172, 244, 245, 246, 247, 248, 249, 250, 251, 252, 253, 254, 255, 256, 257, 258, 259, 113, 126, 192, 193, 194, 195, 196, 13, 14, 260, 44, 45, 46, 47, 48, 261, 262, 263, 264, 265, 26, 27, 28, 29, 266, 267, 268, 269, 105, 106, 107, 108, 270, 122, 123, 124, 125, 127, 271, 160, 161, 162, 163, 326, 327, 328, 329, 330, 331, 332, 333, 334, 298, 299, 300, 301, 302, 303, 304, 305, 306, 307, 308, 309, 310, 311, 312, 313, 314, 319, 320, 321, 322, 323, 324, 325, 315, 316, 317, 318, 335, 336, 337, 338, 339, 340] (by decide +kernel) (by decide +kernel)
set_option maxRecDepth 20000 in
theorem gX11_mean_X10_spread : GoodIn wsX11_mean (wsV RX11 171 RX10 yX10_spread wsX10_spread) := goodIn_app (goodIn_of _ (by decide +kernel)) ggX11_mean_X10_spread
set_option maxRecDepth 20000 in
theorem ggX11_mean_X10_gain : GoodIn wsX11_mean wsX10_gain := goodIn_r _ [275, 208, 204, 209, 205, 206, 207, 276, 66, 67, 52, 68, 69, 70, 55, 71, 72, 73, 74, 18, 75, 76, 77, 78, 79, 80, 81, 82, 83, 84, 85, 86, 87, 88, 89, 90, 91, 92, 93, 94, 95, 215, 31, 32, 33, 34, 35, 10, 36, 216, 217, 218, 219, 60, 151, 152, 153, 277, 278, 279, 280, 146, 147, 148, 149, 150, 141, 142, 143, 144, 145, 26, 27, 28, 29, 13, 14, 96, 105, 106, 107, 108, 121, 122, 123, 124, 125, 126, 127, 137, 138, 139, 140, 154, 155, 156, 157, 158, 159, 160, 161, 162, 163, 164, 165, 166, 167, 168, 169, 170, 171, 172, 173, 174, 175, 176, 177, 178, 179, 180, 181, 182, 183, 128, 129, 130, 131, 132, 133, 134, 135, 119, 136, 281, 282, 283, 284, 285, 326, 327, 328, 329, 330, 331, 332, 333, 334, 298, 299, 300, 301, 302, 303, 304, 305, 306, 307, 308, 309, 310, 311, 312, 313, 314, 319, 320, 321, 322, 323, 324, 325] (by decide +kernel) (by decide +kernel)
set_option maxRecDepth 20000 in
theorem gX11_mean_X10_gain : GoodIn wsX11_mean (wsV RX11 181 RX10 yX10_gain wsX10_gain) := goodIn_app (goodIn_of _ (by decide +kernel)) ggX11_mean_X10_gain
theorem dX11_mean_0 : decode cX11_mean 0 = .ok (.aload_n 0, 1) := by decide +kernel
theorem dX11_mean_1 : decode cX11_mean 1 = .ok (.iload_n 1, 1) := by decide +kernel
theorem dX11_mean_2 : decode cX11_mean 2 = .ok (.iload_n 2, 1) := by decide +kernel
theorem dX11_mean_3 : decode cX11_mean 3 = .ok (.invokevirtual 155, 3) := by decide +kernel
theorem dX11_mean_6 : decode cX11_mean 6 = .ok (.ifCond .eq 28, 3) := by decide +kernel
theorem dX11_mean_9 : decode cX11_mean 9 = .ok (.aload_n 0, 1) := by decide +kernel
theorem dX11_mean_10 : decode cX11_mean 10 = .ok (.getfield 19, 3) := by decide +kernel
theorem dX11_mean_13 : decode cX11_mean 13 = .ok (.iload_n 3, 1) := by decide +kernel
theorem dX11_mean_14 : decode cX11_mean 14 = .ok (.iload 4, 2) := by decide +kernel
theorem dX11_mean_16 : decode cX11_mean 16 = .ok (.iload 5, 2) := by decide +kernel
theorem dX11_mean_18 : decode cX11_mean 18 = .ok (.invokevirtual 158, 3) := by decide +kernel
theorem dX11_mean_21 : decode cX11_mean 21 = .ok (.ifCond .eq 13, 3) := by decide +kernel
theorem dX11_mean_24 : decode cX11_mean 24 = .ok (.iload 6, 2) := by decide +kernel
theorem dX11_mean_26 : decode cX11_mean 26 = .ok (.iconst 0, 1) := by decide +kernel
theorem dX11_mean_27 : decode cX11_mean 27 = .ok (.iconst 1, 1) := by decide +kernel
theorem dX11_mean_28 : decode cX11_mean 28 = .ok (.invokestatic 88, 3) := by decide +kernel
theorem dX11_mean_31 : decode cX11_mean 31 = .ok (.ifCond .ne 7, 3) := by decide +kernel
theorem dX11_mean_34 : decode cX11_mean 34 = .ok (.ldc2_w 185, 3) := by decide +kernel
theorem dX11_mean_37 : decode cX11_mean 37 = .ok (.lreturn, 1) := by decide +kernel
theorem dX11_mean_38 : decode cX11_mean 38 = .ok (.aload_n 0, 1) := by decide +kernel
theorem dX11_mean_39 : decode cX11_mean 39 = .ok (.getfield 52, 3) := by decide +kernel
theorem dX11_mean_42 : decode cX11_mean 42 = .ok (.iload_n 1, 1) := by decide +kernel
theorem dX11_mean_43 : decode cX11_mean 43 = .ok (.iload_n 2, 1) := by decide +kernel
theorem dX11_mean_44 : decode cX11_mean 44 = .ok (.invokevirtual 161, 3) := by decide +kernel
theorem dX11_mean_47 : decode cX11_mean 47 = .ok (.aload_n 0, 1) := by decide +kernel
theorem dX11_mean_48 : decode cX11_mean 48 = .ok (.getfield 61, 3) := by decide +kernel
theorem dX11_mean_51 : decode cX11_mean 51 = .ok (.iload_n 1, 1) := by decide +kernel
theorem dX11_mean_52 : decode cX11_mean 52 = .ok (.iload_n 2, 1) := by decide +kernel
theorem dX11_mean_53 : decode cX11_mean 53 = .ok (.iload_n 2, 1) := by decide +kernel
theorem dX11_mean_54 : decode cX11_mean 54 = .ok (.iload_n 3, 1) := by decide +kernel
theorem dX11_mean_55 : decode cX11_mean 55 = .ok (.iload 4, 2) := by decide +kernel
theorem dX11_mean_57 : decode cX11_mean 57 = .ok (.iload 5, 2) := by decide +kernel
theorem dX11_mean_59 : decode cX11_mean 59 = .ok (.invokevirtual 171, 3) := by decide +kernel
theorem dX11_mean_62 : decode cX11_mean 62 = .ok (.aload_n 0, 1) := by decide +kernel
theorem dX11_mean_63 : decode cX11_mean 63 = .ok (.getfield 61, 3) := by decide +kernel
theorem dX11_mean_66 : decode cX11_mean 66 = .ok (.iload 6, 2) := by decide +kernel
theorem dX11_mean_68 : decode cX11_mean 68 = .ok (.ifCond .ne 9, 3) := by decide +kernel
theorem dX11_mean_71 : decode cX11_mean 71 = .ok (.getstatic 187, 3) := by decide +kernel
theorem dX11_mean_74 : decode cX11_mean 74 = .ok (.goto 6, 3) := by decide +kernel
theorem dX11_mean_77 : decode cX11_mean 77 = .ok (.getstatic 190, 3) := by decide +kernel
theorem dX11_mean_80 : decode cX11_mean 80 = .ok (.invokevirtual 181, 3) := by decide +kernel
theorem dX11_mean_83 : decode cX11_mean 83 = .ok (.lreturn, 1) := by decide +kernel
set_option maxRecDepth 20000 in
theorem ggX11_judge_X11_isHandIn : GoodIn wsX11_judge wsX11_isHandIn := goodIn_r _ [8, 3, 9, 10, 7, 11, 12, 13, 14, 15, 16, 17, 278, 279, 280, 281, 282, 283, 284, 285, 286, 287, 288, 289, 290, 291, 292, 293, 294, 295, 296, 297, 298, 299, 300, 301, 302, 303, 304, 305, 306] (by decide +kernel) (by decide +kernel)
set_option maxRecDepth 20000 in
theorem gX11_judge_X11_isHandIn : GoodIn wsX11_judge (wsV RX11 155 RX11 yX11_isHandIn wsX11_isHandIn) := goodIn_app (goodIn_of _ (by decide +kernel)) ggX11_judge_X11_isHandIn
set_option maxRecDepth 20000 in
theorem ggX11_judge_X2_prepare : GoodIn wsX11_judge wsX2_prepare := goodIn_r _ [22, 23, 24, 25, 26, 27, 21, 28, 29, 10, 7, 11, 30, 31, 32, 33, 34, 35, 36, 37, 38, 39, 40, 41, 42, 43, 44, 45, 46, 47, 48, 49, 50, 51, 52, 53, 54, 55, 15, 56, 57, 58, 59, 60, 61, 62, 63, 64, 65, 66, 67, 68, 69, 70, 71, 72, 73, 74, 75, 76, 77, 78, 79, 80, 81, 82, 83, 84, 85, 86, 87, 88, 89, 90, 91, 92, 93, 94, 95, 96, 97, 98, 99, 100, 101, 102, 103, 104, 105, 106, 107, 108, 109, 110, 111, 112, 113, 114, 115, 116, 117, 118, 119, 120, 121, 122, 123, 124, 125, 126, 127, 128, 129, 130, 131, 132, 133, 134, 135, 136, 137, 138, 139, 140, 141, 142, 143, 144, 145, 146, 147, 148, 149, 150, 151, 152, 153, 154, 155, 156, 157, 158, 159, 160, 161, 162, 163, 164, 165, 166, 167, 168, 169, 170, 171, 172, 173, 174, 175, 176, 177, 178, 179, 180, 181, 182, 183, 184, 185, 186, 187, 307, 308, 309, 310, 311, 312, 313, 314, 315, 316, 317, 290, 291, 292, 293, 294, 295, 296, 297, 298, 299, 300, 301, 302, 303, 304, 305, 306] (by decide +kernel) (by decide +kernel)
set_option maxRecDepth 20000 in
theorem gX11_judge_X2_prepare : GoodIn wsX11_judge (wsV RX11 161 RX2 yX2_prepare wsX2_prepare) := goodIn_app (goodIn_of _ (by decide +kernel)) ggX11_judge_X2_prepare
set_option maxRecDepth 20000 in
theorem ggX11_judge_X0_stepsOf : GoodIn wsX11_judge wsX0_stepsOf := goodIn_r _ [80, 81, 82, 7, 83, 290, 291, 292, 293, 294, 295, 296, 297, 298, 299, 300, 301, 302, 303, 304, 305, 306] (by decide +kernel) (by decide +kernel)
set_option maxRecDepth 20000 in
theorem gX11_judge_X0_stepsOf : GoodIn wsX11_judge (wsV RX11 193 RX0 yX0_stepsOf wsX0_stepsOf) := goodIn_app (goodIn_of _ (by decide +kernel)) ggX11_judge_X0_stepsOf
set_option maxRecDepth 20000 in
theorem ggX11_judge_X10_spread : GoodIn wsX11_judge wsX10_spread := goodIn_r _ [193, 194, 195, 196, 197, 198, 199, 200, 201, 202, 38, 39, 33, 40, 41, 35, 42, 43, 44, 45, 203, 204, 205, 206, 142, 143, 144, 207, 78, 79, 15, 80, 81, 82, 7, 83, 208, 209, 210, 211, 212, 213, 214, 192, 215, 216, 217, 218, 219, 21, 220, 221, 222, 223, 224, 225, 226, 227, 228, 229, 230, 106, 105, 107, 231, 232, 233, 234, 235, 160, 161, 162, 163, 236, 237, 238, 239, 240, 241, 242, 243, 244, 245, 246, 247, 248, 249, 250, 251, 100, 113, 183, 184, 185, 186, 187, 10, 11, 252, 25, 26, 27, 28, 29, 253, 254, 255, 256, 257, 133, 134, 135, 136, 258, 259, 260, 261, 92, 93, 94, 95, 262, 109, 110, 111, 112, 114, 263, 151, 152, 153, 154, 318, 319, 320, 321, 322, 323, 324, 325, 326, 290, 291, 292, 293, 294, 295, 296, 297, 298, 299, 300, 301, 302, 303, 304, 305, 306, 311, 312, 313, 314, 315, 316, 317, 307, 308, 309, 310, 327, 328, 329, 330, 331, 332] (by decide +kernel) (by decide +kernel)
set_option maxRecDepth 20000 in
theorem gX11_judge_X10_spread : GoodIn wsX11_judge (wsV RX11 171 RX10 yX10_spread wsX10_spread) := goodIn_app (goodIn_of _ (by decide +kernel)) ggX11_judge_X10_spread
set_option maxRecDepth 20000 in
theorem ggX11_judge_X2_bestBy : GoodIn wsX11_judge wsX2_bestBy := goodIn_r _ [28, 29, 10, 7, 11, 307, 308, 309, 310] (by decide +kernel) (by decide +kernel)
set_option maxRecDepth 20000 in
theorem gX11_judge_X2_bestBy : GoodIn wsX11_judge (wsV RX11 196 RX2 yX2_bestBy wsX2_bestBy) := goodIn_app (goodIn_of _ (by decide +kernel)) ggX11_judge_X2_bestBy
set_option maxRecDepth 20000 in
theorem ggX11_judge_X10_firstWorse : GoodIn wsX11_judge wsX10_firstWorse := goodIn_r _ [268, 201, 207, 78, 79, 15, 80, 81, 82, 7, 83, 269, 270, 271, 192, 272, 200, 208, 209, 210, 33, 211, 41, 142, 143, 144, 273, 274, 275, 276, 52, 50, 36, 51, 137, 138, 139, 140, 141, 128, 129, 130, 131, 132, 133, 134, 135, 136, 10, 11, 77, 92, 93, 94, 95, 108, 109, 110, 111, 112, 113, 114, 124, 125, 126, 127, 145, 146, 147, 148, 149, 150, 151, 152, 153, 154, 155, 156, 157, 158, 159, 160, 161, 162, 163, 164, 165, 166, 167, 168, 169, 170, 171, 73, 172, 173, 174, 115, 116, 117, 118, 119, 120, 121, 122, 106, 123, 65, 66, 67, 68, 69, 70, 71, 72, 74, 75, 76, 277, 318, 319, 320, 321, 322, 323, 324, 325, 326, 290, 291, 292, 293, 294, 295, 296, 297, 298, 299, 300, 301, 302, 303, 304, 305, 306, 311, 312, 313, 314, 315, 316, 317] (by decide +kernel) (by decide +kernel)
set_option maxRecDepth 20000 in
theorem gX11_judge_X10_firstWorse : GoodIn wsX11_judge (wsV RX11 200 RX10 yX10_firstWorse wsX10_firstWorse) := goodIn_app (goodIn_of _ (by decide +kernel)) ggX11_judge_X10_firstWorse
theorem dX11_judge_0 : decode cX11_judge 0 = .ok (.aload_n 0, 1) := by decide +kernel
theorem dX11_judge_1 : decode cX11_judge 1 = .ok (.iload_n 1, 1) := by decide +kernel
theorem dX11_judge_2 : decode cX11_judge 2 = .ok (.iload_n 2, 1) := by decide +kernel
theorem dX11_judge_3 : decode cX11_judge 3 = .ok (.invokevirtual 155, 3) := by decide +kernel
theorem dX11_judge_6 : decode cX11_judge 6 = .ok (.ifCond .ne 5, 3) := by decide +kernel
theorem dX11_judge_9 : decode cX11_judge 9 = .ok (.iconst (-1), 1) := by decide +kernel
theorem dX11_judge_10 : decode cX11_judge 10 = .ok (.ireturn, 1) := by decide +kernel
theorem dX11_judge_11 : decode cX11_judge 11 = .ok (.aload_n 0, 1) := by decide +kernel
theorem dX11_judge_12 : decode cX11_judge 12 = .ok (.getfield 52, 3) := by decide +kernel
theorem dX11_judge_15 : decode cX11_judge 15 = .ok (.iload_n 1, 1) := by decide +kernel
theorem dX11_judge_16 : decode cX11_judge 16 = .ok (.iload_n 2, 1) := by decide +kernel
theorem dX11_judge_17 : decode cX11_judge 17 = .ok (.invokevirtual 161, 3) := by decide +kernel
theorem dX11_judge_20 : decode cX11_judge 20 = .ok (.aload_n 0, 1) := by decide +kernel
theorem dX11_judge_21 : decode cX11_judge 21 = .ok (.getfield 52, 3) := by decide +kernel
theorem dX11_judge_24 : decode cX11_judge 24 = .ok (.iconst 0, 1) := by decide +kernel
theorem dX11_judge_25 : decode cX11_judge 25 = .ok (.iload_n 2, 1) := by decide +kernel
theorem dX11_judge_26 : decode cX11_judge 26 = .ok (.invokevirtual 161, 3) := by decide +kernel
theorem dX11_judge_29 : decode cX11_judge 29 = .ok (.aload_n 0, 1) := by decide +kernel
theorem dX11_judge_30 : decode cX11_judge 30 = .ok (.getfield 61, 3) := by decide +kernel
theorem dX11_judge_33 : decode cX11_judge 33 = .ok (.iload_n 1, 1) := by decide +kernel
theorem dX11_judge_34 : decode cX11_judge 34 = .ok (.iload_n 2, 1) := by decide +kernel
theorem dX11_judge_35 : decode cX11_judge 35 = .ok (.iload_n 2, 1) := by decide +kernel
theorem dX11_judge_36 : decode cX11_judge 36 = .ok (.iconst 0, 1) := by decide +kernel
theorem dX11_judge_37 : decode cX11_judge 37 = .ok (.aload_n 0, 1) := by decide +kernel
theorem dX11_judge_38 : decode cX11_judge 38 = .ok (.getfield 19, 3) := by decide +kernel
theorem dX11_judge_41 : decode cX11_judge 41 = .ok (.iconst 0, 1) := by decide +kernel
theorem dX11_judge_42 : decode cX11_judge 42 = .ok (.invokevirtual 193, 3) := by decide +kernel
theorem dX11_judge_45 : decode cX11_judge 45 = .ok (.iconst 0, 1) := by decide +kernel
theorem dX11_judge_46 : decode cX11_judge 46 = .ok (.invokevirtual 171, 3) := by decide +kernel
theorem dX11_judge_49 : decode cX11_judge 49 = .ok (.aload_n 0, 1) := by decide +kernel
theorem dX11_judge_50 : decode cX11_judge 50 = .ok (.getfield 61, 3) := by decide +kernel
theorem dX11_judge_53 : decode cX11_judge 53 = .ok (.aload_n 0, 1) := by decide +kernel
theorem dX11_judge_54 : decode cX11_judge 54 = .ok (.getfield 52, 3) := by decide +kernel
theorem dX11_judge_57 : decode cX11_judge 57 = .ok (.iload_n 2, 1) := by decide +kernel
theorem dX11_judge_58 : decode cX11_judge 58 = .ok (.invokevirtual 196, 3) := by decide +kernel
theorem dX11_judge_61 : decode cX11_judge 61 = .ok (.invokevirtual 200, 3) := by decide +kernel
theorem dX11_judge_64 : decode cX11_judge 64 = .ok (.ireturn, 1) := by decide +kernel
set_option maxRecDepth 20000 in
theorem ggX11_parted_X0_hasPiece : GoodIn wsX11_parted wsX0_hasPiece := goodIn_r _ [8, 9, 10, 11, 12, 114, 115, 116, 117, 118, 119, 120, 121, 122, 123, 124, 125, 126, 127, 128, 129, 130] (by decide +kernel) (by decide +kernel)
set_option maxRecDepth 20000 in
theorem gX11_parted_X0_hasPiece : GoodIn wsX11_parted (wsV RX11 119 RX0 yX0_hasPiece wsX0_hasPiece) := goodIn_app (goodIn_of _ (by decide +kernel)) ggX11_parted_X0_hasPiece
set_option maxRecDepth 20000 in
theorem ggX11_parted_X0_hasSteel : GoodIn wsX11_parted wsX0_hasSteel := goodIn_r _ [16, 17, 10, 11, 12, 114, 115, 116, 117, 118, 119, 120, 121, 122, 123, 124, 125, 126, 127, 128, 129, 130] (by decide +kernel) (by decide +kernel)
set_option maxRecDepth 20000 in
theorem gX11_parted_X0_hasSteel : GoodIn wsX11_parted (wsV RX11 126 RX0 yX0_hasSteel wsX0_hasSteel) := goodIn_app (goodIn_of _ (by decide +kernel)) ggX11_parted_X0_hasSteel
set_option maxRecDepth 20000 in
theorem ggX11_parted_X11_within : GoodIn wsX11_parted wsX11_within := goodIn_r _ [12] (by decide +kernel) (by decide +kernel)
set_option maxRecDepth 20000 in
theorem gX11_parted_X11_within : GoodIn wsX11_parted (va_wsS RX11 88 yX11_within wsX11_within) := goodIn_app (goodIn_of _ (by decide +kernel)) ggX11_parted_X11_within
set_option maxRecDepth 20000 in
theorem ggX11_parted_X5_find : GoodIn wsX11_parted wsX5_find := goodIn_r _ [23, 24, 25, 26, 27, 28, 29, 30, 31, 32, 7, 33, 34, 35, 11, 36, 37, 38, 39, 40, 41, 42, 43, 44, 45, 46, 47, 48, 49, 10, 12, 50, 51, 52, 53, 54, 55, 56, 57, 58, 59, 22, 60, 61, 62, 63, 64, 65, 66, 67, 68, 69, 70, 71, 72, 73, 74, 75, 76, 77, 78, 79, 80, 81, 82, 83, 84, 85, 86, 87, 88, 89, 90, 91, 92, 93, 94, 95, 131, 132, 133, 134, 114, 115, 116, 117, 118, 119, 120, 121, 122, 123, 124, 125, 126, 127, 128, 129, 130] (by decide +kernel) (by decide +kernel)
set_option maxRecDepth 20000 in
theorem gX11_parted_X5_find : GoodIn wsX11_parted (wsV RX11 204 RX5 yX5_find wsX5_find) := goodIn_app (goodIn_of _ (by decide +kernel)) ggX11_parted_X5_find
set_option maxRecDepth 20000 in
theorem ggX11_parted_X0_stepsOf : GoodIn wsX11_parted wsX0_stepsOf := goodIn_r _ [33, 34, 35, 11, 36, 114, 115, 116, 117, 118, 119, 120, 121, 122, 123, 124, 125, 126, 127, 128, 129, 130] (by decide +kernel) (by decide +kernel)
set_option maxRecDepth 20000 in
theorem gX11_parted_X0_stepsOf : GoodIn wsX11_parted (wsV RX11 193 RX0 yX0_stepsOf wsX0_stepsOf) := goodIn_app (goodIn_of _ (by decide +kernel)) ggX11_parted_X0_stepsOf
set_option maxRecDepth 20000 in
theorem ggX11_parted_X5_told : GoodIn wsX11_parted wsX5_told := goodIn_r _ [100, 24, 101, 65, 66, 89, 90, 22, 91, 10, 11, 12, 131, 132, 133, 134] (by decide +kernel) (by decide +kernel)
set_option maxRecDepth 20000 in
theorem gX11_parted_X5_told : GoodIn wsX11_parted (wsV RX11 207 RX5 yX5_told wsX5_told) := goodIn_app (goodIn_of _ (by decide +kernel)) ggX11_parted_X5_told
theorem dX11_parted_0 : decode cX11_parted 0 = .ok (.aload_n 0, 1) := by decide +kernel
theorem dX11_parted_1 : decode cX11_parted 1 = .ok (.getfield 19, 3) := by decide +kernel
theorem dX11_parted_4 : decode cX11_parted 4 = .ok (.iload_n 1, 1) := by decide +kernel
theorem dX11_parted_5 : decode cX11_parted 5 = .ok (.invokevirtual 119, 3) := by decide +kernel
theorem dX11_parted_8 : decode cX11_parted 8 = .ok (.ifCond .eq 14, 3) := by decide +kernel
theorem dX11_parted_11 : decode cX11_parted 11 = .ok (.aload_n 0, 1) := by decide +kernel
theorem dX11_parted_12 : decode cX11_parted 12 = .ok (.getfield 19, 3) := by decide +kernel
theorem dX11_parted_15 : decode cX11_parted 15 = .ok (.iload_n 2, 1) := by decide +kernel
theorem dX11_parted_16 : decode cX11_parted 16 = .ok (.invokevirtual 126, 3) := by decide +kernel
theorem dX11_parted_19 : decode cX11_parted 19 = .ok (.ifCond .ne 7, 3) := by decide +kernel
theorem dX11_parted_22 : decode cX11_parted 22 = .ok (.ldc2_w 185, 3) := by decide +kernel
theorem dX11_parted_25 : decode cX11_parted 25 = .ok (.lreturn, 1) := by decide +kernel
theorem dX11_parted_26 : decode cX11_parted 26 = .ok (.iload_n 3, 1) := by decide +kernel
theorem dX11_parted_27 : decode cX11_parted 27 = .ok (.iconst 0, 1) := by decide +kernel
theorem dX11_parted_28 : decode cX11_parted 28 = .ok (.bipush 100, 2) := by decide +kernel
theorem dX11_parted_30 : decode cX11_parted 30 = .ok (.invokestatic 88, 3) := by decide +kernel
theorem dX11_parted_33 : decode cX11_parted 33 = .ok (.ifCond .eq 13, 3) := by decide +kernel
theorem dX11_parted_36 : decode cX11_parted 36 = .ok (.iload 4, 2) := by decide +kernel
theorem dX11_parted_38 : decode cX11_parted 38 = .ok (.iconst 0, 1) := by decide +kernel
theorem dX11_parted_39 : decode cX11_parted 39 = .ok (.iconst 2, 1) := by decide +kernel
theorem dX11_parted_40 : decode cX11_parted 40 = .ok (.invokestatic 88, 3) := by decide +kernel
theorem dX11_parted_43 : decode cX11_parted 43 = .ok (.ifCond .ne 7, 3) := by decide +kernel
theorem dX11_parted_46 : decode cX11_parted 46 = .ok (.ldc2_w 185, 3) := by decide +kernel
theorem dX11_parted_49 : decode cX11_parted 49 = .ok (.lreturn, 1) := by decide +kernel
theorem dX11_parted_50 : decode cX11_parted 50 = .ok (.aload_n 0, 1) := by decide +kernel
theorem dX11_parted_51 : decode cX11_parted 51 = .ok (.getfield 77, 3) := by decide +kernel
theorem dX11_parted_54 : decode cX11_parted 54 = .ok (.iload_n 1, 1) := by decide +kernel
theorem dX11_parted_55 : decode cX11_parted 55 = .ok (.iload_n 2, 1) := by decide +kernel
theorem dX11_parted_56 : decode cX11_parted 56 = .ok (.invokevirtual 204, 3) := by decide +kernel
theorem dX11_parted_59 : decode cX11_parted 59 = .ok (.aload_n 0, 1) := by decide +kernel
theorem dX11_parted_60 : decode cX11_parted 60 = .ok (.getfield 77, 3) := by decide +kernel
theorem dX11_parted_63 : decode cX11_parted 63 = .ok (.aload_n 0, 1) := by decide +kernel
theorem dX11_parted_64 : decode cX11_parted 64 = .ok (.getfield 19, 3) := by decide +kernel
theorem dX11_parted_67 : decode cX11_parted 67 = .ok (.iload_n 1, 1) := by decide +kernel
theorem dX11_parted_68 : decode cX11_parted 68 = .ok (.invokevirtual 193, 3) := by decide +kernel
theorem dX11_parted_71 : decode cX11_parted 71 = .ok (.iload_n 3, 1) := by decide +kernel
theorem dX11_parted_72 : decode cX11_parted 72 = .ok (.iload 4, 2) := by decide +kernel
theorem dX11_parted_74 : decode cX11_parted 74 = .ok (.invokevirtual 207, 3) := by decide +kernel
theorem dX11_parted_77 : decode cX11_parted 77 = .ok (.lreturn, 1) := by decide +kernel
set_option maxRecDepth 20000 in
theorem ggX11_guess_X0_hasSteel : GoodIn wsX11_guess wsX0_hasSteel := goodIn_r _ [10, 11, 12, 13, 14, 287, 288, 289, 290, 291, 292, 293, 294, 295, 296, 297, 298, 299, 300, 301, 302, 303] (by decide +kernel) (by decide +kernel)
set_option maxRecDepth 20000 in
theorem gX11_guess_X0_hasSteel : GoodIn wsX11_guess (wsV RX11 126 RX0 yX0_hasSteel wsX0_hasSteel) := goodIn_app (goodIn_of _ (by decide +kernel)) ggX11_guess_X0_hasSteel
set_option maxRecDepth 20000 in
theorem ggX11_guess_X2_prepare : GoodIn wsX11_guess wsX2_prepare := goodIn_r _ [19, 20, 21, 22, 23, 24, 18, 25, 26, 12, 13, 14, 27, 28, 29, 30, 31, 32, 33, 34, 35, 36, 37, 38, 39, 40, 41, 42, 43, 44, 45, 46, 47, 48, 49, 50, 51, 52, 9, 53, 54, 55, 56, 57, 58, 59, 60, 61, 62, 63, 64, 65, 66, 67, 68, 69, 70, 71, 72, 73, 74, 75, 76, 77, 78, 79, 80, 81, 82, 83, 84, 85, 86, 87, 88, 89, 90, 91, 92, 93, 94, 95, 96, 97, 98, 99, 100, 101, 102, 103, 104, 105, 106, 107, 108, 109, 110, 111, 112, 113, 114, 115, 116, 117, 118, 119, 120, 121, 122, 123, 124, 125, 126, 127, 128, 129, 130, 131, 132, 133, 134, 135, 136, 137, 138, 139, 140, 141, 142, 143, 144, 145, 146, 147, 148, 149, 150, 151, 152, 153, 154, 155, 156, 157, 158, 159, 160, 161, 162, 163, 164, 165, 166, 167, 168, 169, 170, 171, 172, 173, 174, 175, 176, 177, 178, 179, 180, 181, 182, 183, 184, 304, 305, 306, 307, 308, 309, 310, 311, 312, 313, 314, 287, 288, 289, 290, 291, 292, 293, 294, 295, 296, 297, 298, 299, 300, 301, 302, 303] (by decide +kernel) (by decide +kernel)
set_option maxRecDepth 20000 in
theorem gX11_guess_X2_prepare : GoodIn wsX11_guess (wsV RX11 161 RX2 yX2_prepare wsX2_prepare) := goodIn_app (goodIn_of _ (by decide +kernel)) ggX11_guess_X2_prepare
set_option maxRecDepth 20000 in
theorem ggX11_guess_X0_stepsOf : GoodIn wsX11_guess wsX0_stepsOf := goodIn_r _ [77, 78, 79, 13, 80, 287, 288, 289, 290, 291, 292, 293, 294, 295, 296, 297, 298, 299, 300, 301, 302, 303] (by decide +kernel) (by decide +kernel)
set_option maxRecDepth 20000 in
theorem gX11_guess_X0_stepsOf : GoodIn wsX11_guess (wsV RX11 193 RX0 yX0_stepsOf wsX0_stepsOf) := goodIn_app (goodIn_of _ (by decide +kernel)) ggX11_guess_X0_stepsOf
set_option maxRecDepth 20000 in
theorem ggX11_guess_X10_spread : GoodIn wsX11_guess wsX10_spread := goodIn_r _ [190, 191, 192, 193, 194, 195, 196, 197, 198, 199, 35, 36, 30, 37, 38, 32, 39, 40, 41, 42, 200, 201, 202, 203, 139, 140, 141, 204, 75, 76, 9, 77, 78, 79, 13, 80, 205, 206, 207, 208, 209, 210, 211, 189, 212, 213, 214, 215, 216, 18, 217, 218, 219, 220, 221, 222, 223, 224, 225, 226, 227, 103, 102, 104, 228, 229, 230, 231, 232, 157, 158, 159, 160, 233, 234, 235, 236, 237, 238, 239, 240, 241, 242, 243, 244, 245, 246, 247, 248, 97, 110, 180, 181, 182, 183, 184, 12, 14, 249, 22, 23, 24, 25, 26, 250, 251, 252, 253, 254, 130, 131, 132, 133, 255, 256, 257, 258, 89, 90, 91, 92, 259, 106, 107, 108, 109, 111, 260, 148, 149, 150, 151, 315, 316, 317, 318, 319, 320, 321, 322, 323, 287, 288, 289, 290, 291, 292, 293, 294, 295, 296, 297, 298, 299, 300, 301, 302, 303, 308, 309, 310, 311, 312, 313, 314, 304, 305, 306, 307, 324, 325, 326, 327, 328, 329] (by decide +kernel) (by decide +kernel)
set_option maxRecDepth 20000 in
theorem gX11_guess_X10_spread : GoodIn wsX11_guess (wsV RX11 171 RX10 yX10_spread wsX10_spread) := goodIn_app (goodIn_of _ (by decide +kernel)) ggX11_guess_X10_spread
set_option maxRecDepth 20000 in
theorem ggX11_guess_X10_gain : GoodIn wsX11_guess wsX10_gain := goodIn_r _ [264, 197, 193, 198, 194, 195, 196, 265, 44, 45, 30, 46, 47, 48, 33, 49, 50, 51, 52, 9, 53, 54, 55, 56, 57, 58, 59, 60, 61, 62, 63, 64, 65, 66, 67, 68, 69, 70, 71, 72, 73, 204, 75, 76, 77, 78, 79, 13, 80, 205, 206, 207, 208, 38, 139, 140, 141, 266, 267, 268, 269, 134, 135, 136, 137, 138, 125, 126, 127, 128, 129, 130, 131, 132, 133, 12, 14, 74, 89, 90, 91, 92, 105, 106, 107, 108, 109, 110, 111, 121, 122, 123, 124, 142, 143, 144, 145, 146, 147, 148, 149, 150, 151, 152, 153, 154, 155, 156, 157, 158, 159, 160, 161, 162, 163, 164, 165, 166, 167, 168, 169, 170, 171, 112, 113, 114, 115, 116, 117, 118, 119, 103, 120, 270, 271, 272, 273, 274, 315, 316, 317, 318, 319, 320, 321, 322, 323, 287, 288, 289, 290, 291, 292, 293, 294, 295, 296, 297, 298, 299, 300, 301, 302, 303, 308, 309, 310, 311, 312, 313, 314] (by decide +kernel) (by decide +kernel)
set_option maxRecDepth 20000 in
theorem gX11_guess_X10_gain : GoodIn wsX11_guess (wsV RX11 181 RX10 yX10_gain wsX10_gain) := goodIn_app (goodIn_of _ (by decide +kernel)) ggX11_guess_X10_gain
theorem dX11_guess_0 : decode cX11_guess 0 = .ok (.aload_n 0, 1) := by decide +kernel
theorem dX11_guess_1 : decode cX11_guess 1 = .ok (.getfield 19, 3) := by decide +kernel
theorem dX11_guess_4 : decode cX11_guess 4 = .ok (.iload_n 1, 1) := by decide +kernel
theorem dX11_guess_5 : decode cX11_guess 5 = .ok (.invokevirtual 126, 3) := by decide +kernel
theorem dX11_guess_8 : decode cX11_guess 8 = .ok (.ifCond .eq 14, 3) := by decide +kernel
theorem dX11_guess_11 : decode cX11_guess 11 = .ok (.aload_n 0, 1) := by decide +kernel
theorem dX11_guess_12 : decode cX11_guess 12 = .ok (.getfield 19, 3) := by decide +kernel
theorem dX11_guess_15 : decode cX11_guess 15 = .ok (.iload_n 2, 1) := by decide +kernel
theorem dX11_guess_16 : decode cX11_guess 16 = .ok (.invokevirtual 126, 3) := by decide +kernel
theorem dX11_guess_19 : decode cX11_guess 19 = .ok (.ifCond .ne 7, 3) := by decide +kernel
theorem dX11_guess_22 : decode cX11_guess 22 = .ok (.ldc2_w 169, 3) := by decide +kernel
theorem dX11_guess_25 : decode cX11_guess 25 = .ok (.lreturn, 1) := by decide +kernel
theorem dX11_guess_26 : decode cX11_guess 26 = .ok (.aload_n 0, 1) := by decide +kernel
theorem dX11_guess_27 : decode cX11_guess 27 = .ok (.getfield 52, 3) := by decide +kernel
theorem dX11_guess_30 : decode cX11_guess 30 = .ok (.iconst 0, 1) := by decide +kernel
theorem dX11_guess_31 : decode cX11_guess 31 = .ok (.iload_n 1, 1) := by decide +kernel
theorem dX11_guess_32 : decode cX11_guess 32 = .ok (.invokevirtual 161, 3) := by decide +kernel
theorem dX11_guess_35 : decode cX11_guess 35 = .ok (.aload_n 0, 1) := by decide +kernel
theorem dX11_guess_36 : decode cX11_guess 36 = .ok (.getfield 61, 3) := by decide +kernel
theorem dX11_guess_39 : decode cX11_guess 39 = .ok (.iconst 0, 1) := by decide +kernel
theorem dX11_guess_40 : decode cX11_guess 40 = .ok (.iload_n 1, 1) := by decide +kernel
theorem dX11_guess_41 : decode cX11_guess 41 = .ok (.iload_n 2, 1) := by decide +kernel
theorem dX11_guess_42 : decode cX11_guess 42 = .ok (.iconst 0, 1) := by decide +kernel
theorem dX11_guess_43 : decode cX11_guess 43 = .ok (.aload_n 0, 1) := by decide +kernel
theorem dX11_guess_44 : decode cX11_guess 44 = .ok (.getfield 19, 3) := by decide +kernel
theorem dX11_guess_47 : decode cX11_guess 47 = .ok (.iconst 0, 1) := by decide +kernel
theorem dX11_guess_48 : decode cX11_guess 48 = .ok (.invokevirtual 193, 3) := by decide +kernel
theorem dX11_guess_51 : decode cX11_guess 51 = .ok (.iconst 0, 1) := by decide +kernel
theorem dX11_guess_52 : decode cX11_guess 52 = .ok (.invokevirtual 171, 3) := by decide +kernel
theorem dX11_guess_55 : decode cX11_guess 55 = .ok (.aload_n 0, 1) := by decide +kernel
theorem dX11_guess_56 : decode cX11_guess 56 = .ok (.getfield 61, 3) := by decide +kernel
theorem dX11_guess_59 : decode cX11_guess 59 = .ok (.getstatic 175, 3) := by decide +kernel
theorem dX11_guess_62 : decode cX11_guess 62 = .ok (.invokevirtual 181, 3) := by decide +kernel
theorem dX11_guess_65 : decode cX11_guess 65 = .ok (.lreturn, 1) := by decide +kernel
set_option maxRecDepth 20000 in
theorem ggX11_blind_X11_within : GoodIn wsX11_blind wsX11_within := goodIn_r _ [7] (by decide +kernel) (by decide +kernel)
set_option maxRecDepth 20000 in
theorem gX11_blind_X11_within : GoodIn wsX11_blind (va_wsS RX11 88 yX11_within wsX11_within) := goodIn_app (goodIn_of _ (by decide +kernel)) ggX11_blind_X11_within
set_option maxRecDepth 20000 in
theorem ggX11_blind_X2_prepare : GoodIn wsX11_blind wsX2_prepare := goodIn_r _ [12, 13, 14, 15, 16, 17, 11, 18, 19, 5, 6, 7, 20, 21, 22, 23, 24, 25, 26, 27, 28, 29, 30, 31, 32, 33, 34, 35, 36, 37, 38, 39, 40, 41, 42, 43, 44, 45, 46, 47, 48, 49, 50, 51, 52, 53, 54, 55, 56, 57, 58, 59, 60, 61, 62, 63, 64, 65, 66, 67, 68, 69, 70, 71, 72, 73, 74, 75, 76, 77, 78, 79, 80, 81, 82, 83, 84, 85, 86, 87, 88, 89, 90, 91, 92, 93, 94, 95, 96, 97, 98, 99, 100, 101, 102, 103, 104, 105, 106, 107, 108, 109, 110, 111, 112, 113, 114, 115, 116, 117, 118, 119, 120, 121, 122, 123, 124, 125, 126, 127, 128, 129, 130, 131, 132, 133, 134, 135, 136, 137, 138, 139, 140, 141, 142, 143, 144, 145, 146, 147, 148, 149, 150, 151, 152, 153, 154, 155, 156, 157, 158, 159, 160, 161, 162, 163, 164, 165, 166, 167, 168, 169, 170, 171, 172, 173, 174, 175, 176, 177, 178, 315, 316, 317, 318, 319, 320, 321, 322, 323, 324, 325, 298, 299, 300, 301, 302, 303, 304, 305, 306, 307, 308, 309, 310, 311, 312, 313, 314] (by decide +kernel) (by decide +kernel)
set_option maxRecDepth 20000 in
theorem gX11_blind_X2_prepare : GoodIn wsX11_blind (wsV RX11 161 RX2 yX2_prepare wsX2_prepare) := goodIn_app (goodIn_of _ (by decide +kernel)) ggX11_blind_X2_prepare
set_option maxRecDepth 20000 in
theorem ggX11_blind_X11_guessedSum : GoodIn wsX11_blind wsX11_guessedSum := goodIn_r _ [182, 2, 183, 184, 185, 69, 70, 46, 71, 72, 73, 6, 74, 186, 187, 188, 189, 190, 191, 192, 193, 194, 195, 196, 197, 198, 199, 28, 29, 23, 30, 31, 25, 32, 33, 34, 35, 200, 201, 202, 203, 133, 134, 135, 204, 205, 206, 207, 208, 209, 210, 211, 212, 213, 214, 215, 216, 11, 217, 218, 219, 220, 221, 222, 223, 224, 225, 226, 227, 97, 96, 98, 228, 229, 230, 231, 232, 151, 152, 153, 154, 233, 234, 235, 236, 237, 238, 239, 240, 241, 242, 243, 244, 245, 246, 247, 248, 91, 104, 174, 175, 176, 177, 178, 5, 7, 249, 15, 16, 17, 18, 19, 250, 251, 252, 253, 254, 124, 125, 126, 127, 255, 256, 257, 258, 83, 84, 85, 86, 259, 100, 101, 102, 103, 105, 260, 142, 143, 144, 145, 261, 262, 263, 264, 265, 266, 267, 268, 269, 270, 37, 38, 39, 40, 41, 26, 42, 43, 44, 45, 47, 48, 49, 50, 51, 52, 53, 54, 55, 56, 57, 58, 59, 60, 61, 62, 63, 64, 65, 66, 67, 271, 272, 273, 274, 128, 129, 130, 131, 132, 119, 120, 121, 122, 123, 68, 99, 115, 116, 117, 118, 136, 137, 138, 139, 140, 141, 146, 147, 148, 149, 150, 155, 156, 157, 158, 159, 160, 161, 162, 163, 164, 165, 106, 107, 108, 109, 110, 111, 112, 113, 114, 275, 276, 277, 278, 279, 286, 287, 288, 289, 290, 291, 292, 293, 294, 295, 296, 297, 298, 299, 300, 301, 302, 303, 304, 305, 306, 307, 308, 309, 310, 311, 312, 313, 314, 326, 327, 328, 329, 330, 331, 332, 333, 334, 319, 320, 321, 322, 323, 324, 325, 315, 316, 317, 318, 335, 336, 337, 338, 339, 340] (by decide +kernel) (by decide +kernel)
set_option maxRecDepth 20000 in
theorem gX11_blind_X11_guessedSum : GoodIn wsX11_blind (wsV RX11 214 RX11 yX11_guessedSum wsX11_guessedSum) := goodIn_app (goodIn_of _ (by decide +kernel)) ggX11_blind_X11_guessedSum
set_option maxRecDepth 20000 in
theorem ggX11_blind_X11_knownSum : GoodIn wsX11_blind wsX11_knownSum := goodIn_r _ [283, 2, 3, 261, 262, 263, 46, 264, 265, 73, 6, 74, 284, 16, 17, 11, 18, 19, 5, 7, 285, 120, 121, 23, 122, 26, 123, 124, 125, 126, 127, 68, 69, 70, 71, 72, 128, 129, 130, 131, 132, 133, 134, 135, 286, 287, 288, 289, 290, 291, 292, 293, 294, 295, 296, 297, 298, 299, 300, 301, 302, 303, 304, 305, 306, 307, 308, 309, 310, 311, 312, 313, 314, 315, 316, 317, 318, 319, 320, 321, 322, 323, 324, 325] (by decide +kernel) (by decide +kernel)
set_option maxRecDepth 20000 in
theorem gX11_blind_X11_knownSum : GoodIn wsX11_blind (wsV RX11 218 RX11 yX11_knownSum wsX11_knownSum) := goodIn_app (goodIn_of _ (by decide +kernel)) ggX11_blind_X11_knownSum
theorem dX11_blind_0 : decode cX11_blind 0 = .ok (.iload_n 1, 1) := by decide +kernel
theorem dX11_blind_1 : decode cX11_blind 1 = .ok (.iconst 0, 1) := by decide +kernel
theorem dX11_blind_2 : decode cX11_blind 2 = .ok (.iconst 3, 1) := by decide +kernel
theorem dX11_blind_3 : decode cX11_blind 3 = .ok (.invokestatic 88, 3) := by decide +kernel
theorem dX11_blind_6 : decode cX11_blind 6 = .ok (.ifCond .ne 7, 3) := by decide +kernel
theorem dX11_blind_9 : decode cX11_blind 9 = .ok (.ldc2_w 169, 3) := by decide +kernel
theorem dX11_blind_12 : decode cX11_blind 12 = .ok (.lreturn, 1) := by decide +kernel
theorem dX11_blind_13 : decode cX11_blind 13 = .ok (.iconst 0, 1) := by decide +kernel
theorem dX11_blind_14 : decode cX11_blind 14 = .ok (.istore_n 2, 1) := by decide +kernel
theorem dX11_blind_15 : decode cX11_blind 15 = .ok (.iload_n 2, 1) := by decide +kernel
theorem dX11_blind_16 : decode cX11_blind 16 = .ok (.aload_n 0, 1) := by decide +kernel
theorem dX11_blind_17 : decode cX11_blind 17 = .ok (.getfield 19, 3) := by decide +kernel
theorem dX11_blind_20 : decode cX11_blind 20 = .ok (.getfield 211, 3) := by decide +kernel
theorem dX11_blind_23 : decode cX11_blind 23 = .ok (.if_icmp .ge 18, 3) := by decide +kernel
theorem dX11_blind_26 : decode cX11_blind 26 = .ok (.aload_n 0, 1) := by decide +kernel
theorem dX11_blind_27 : decode cX11_blind 27 = .ok (.getfield 52, 3) := by decide +kernel
theorem dX11_blind_30 : decode cX11_blind 30 = .ok (.iconst 0, 1) := by decide +kernel
theorem dX11_blind_31 : decode cX11_blind 31 = .ok (.iload_n 2, 1) := by decide +kernel
theorem dX11_blind_32 : decode cX11_blind 32 = .ok (.invokevirtual 161, 3) := by decide +kernel
theorem dX11_blind_35 : decode cX11_blind 35 = .ok (.iinc 2 1, 3) := by decide +kernel
theorem dX11_blind_38 : decode cX11_blind 38 = .ok (.goto (-23), 3) := by decide +kernel
theorem dX11_blind_41 : decode cX11_blind 41 = .ok (.iconst 0, 1) := by decide +kernel
theorem dX11_blind_42 : decode cX11_blind 42 = .ok (.istore_n 2, 1) := by decide +kernel
theorem dX11_blind_43 : decode cX11_blind 43 = .ok (.aload_n 0, 1) := by decide +kernel
theorem dX11_blind_44 : decode cX11_blind 44 = .ok (.iconst 0, 1) := by decide +kernel
theorem dX11_blind_45 : decode cX11_blind 45 = .ok (.invokevirtual 214, 3) := by decide +kernel
theorem dX11_blind_48 : decode cX11_blind 48 = .ok (.lstore_n 3, 1) := by decide +kernel
theorem dX11_blind_49 : decode cX11_blind 49 = .ok (.iconst 1, 1) := by decide +kernel
theorem dX11_blind_50 : decode cX11_blind 50 = .ok (.istore 5, 2) := by decide +kernel
theorem dX11_blind_52 : decode cX11_blind 52 = .ok (.iload 5, 2) := by decide +kernel
theorem dX11_blind_54 : decode cX11_blind 54 = .ok (.aload_n 0, 1) := by decide +kernel
theorem dX11_blind_55 : decode cX11_blind 55 = .ok (.getfield 19, 3) := by decide +kernel
theorem dX11_blind_58 : decode cX11_blind 58 = .ok (.getfield 211, 3) := by decide +kernel
theorem dX11_blind_61 : decode cX11_blind 61 = .ok (.if_icmp .ge 30, 3) := by decide +kernel
theorem dX11_blind_64 : decode cX11_blind 64 = .ok (.aload_n 0, 1) := by decide +kernel
theorem dX11_blind_65 : decode cX11_blind 65 = .ok (.iload 5, 2) := by decide +kernel
theorem dX11_blind_67 : decode cX11_blind 67 = .ok (.invokevirtual 214, 3) := by decide +kernel
theorem dX11_blind_70 : decode cX11_blind 70 = .ok (.lstore 6, 2) := by decide +kernel
theorem dX11_blind_72 : decode cX11_blind 72 = .ok (.lload 6, 2) := by decide +kernel
theorem dX11_blind_74 : decode cX11_blind 74 = .ok (.lload_n 3, 1) := by decide +kernel
theorem dX11_blind_75 : decode cX11_blind 75 = .ok (.lcmp, 1) := by decide +kernel
theorem dX11_blind_76 : decode cX11_blind 76 = .ok (.ifCond .le 9, 3) := by decide +kernel
theorem dX11_blind_79 : decode cX11_blind 79 = .ok (.iload 5, 2) := by decide +kernel
theorem dX11_blind_81 : decode cX11_blind 81 = .ok (.istore_n 2, 1) := by decide +kernel
theorem dX11_blind_82 : decode cX11_blind 82 = .ok (.lload 6, 2) := by decide +kernel
theorem dX11_blind_84 : decode cX11_blind 84 = .ok (.lstore_n 3, 1) := by decide +kernel
theorem dX11_blind_85 : decode cX11_blind 85 = .ok (.iinc 5 1, 3) := by decide +kernel
theorem dX11_blind_88 : decode cX11_blind 88 = .ok (.goto (-36), 3) := by decide +kernel
theorem dX11_blind_91 : decode cX11_blind 91 = .ok (.iload_n 1, 1) := by decide +kernel
theorem dX11_blind_92 : decode cX11_blind 92 = .ok (.iconst 2, 1) := by decide +kernel
theorem dX11_blind_93 : decode cX11_blind 93 = .ok (.if_icmp .ge 14, 3) := by decide +kernel
theorem dX11_blind_96 : decode cX11_blind 96 = .ok (.iload_n 1, 1) := by decide +kernel
theorem dX11_blind_97 : decode cX11_blind 97 = .ok (.ifCond .ne 8, 3) := by decide +kernel
theorem dX11_blind_100 : decode cX11_blind 100 = .ok (.iload_n 2, 1) := by decide +kernel
theorem dX11_blind_101 : decode cX11_blind 101 = .ok (.i2l, 1) := by decide +kernel
theorem dX11_blind_102 : decode cX11_blind 102 = .ok (.goto 4, 3) := by decide +kernel
theorem dX11_blind_105 : decode cX11_blind 105 = .ok (.lload_n 3, 1) := by decide +kernel
theorem dX11_blind_106 : decode cX11_blind 106 = .ok (.lreturn, 1) := by decide +kernel
theorem dX11_blind_107 : decode cX11_blind 107 = .ok (.iload_n 1, 1) := by decide +kernel
theorem dX11_blind_108 : decode cX11_blind 108 = .ok (.iconst 2, 1) := by decide +kernel
theorem dX11_blind_109 : decode cX11_blind 109 = .ok (.if_icmp .ne 10, 3) := by decide +kernel
theorem dX11_blind_112 : decode cX11_blind 112 = .ok (.aload_n 0, 1) := by decide +kernel
theorem dX11_blind_113 : decode cX11_blind 113 = .ok (.invokevirtual 218, 3) := by decide +kernel
theorem dX11_blind_116 : decode cX11_blind 116 = .ok (.goto 9, 3) := by decide +kernel
theorem dX11_blind_119 : decode cX11_blind 119 = .ok (.aload_n 0, 1) := by decide +kernel
theorem dX11_blind_120 : decode cX11_blind 120 = .ok (.invokevirtual 218, 3) := by decide +kernel
theorem dX11_blind_123 : decode cX11_blind 123 = .ok (.lload_n 3, 1) := by decide +kernel
theorem dX11_blind_124 : decode cX11_blind 124 = .ok (.lsub, 1) := by decide +kernel
theorem dX11_blind_125 : decode cX11_blind 125 = .ok (.lreturn, 1) := by decide +kernel
set_option maxRecDepth 20000 in
theorem ggX11_guessedSum_X0_stepsOf : GoodIn wsX11_guessedSum wsX0_stepsOf := goodIn_r _ [8, 9, 10, 11, 12, 249, 250, 251, 252, 253, 254, 255, 256, 257, 258, 259, 260, 261, 262, 263, 264, 265] (by decide +kernel) (by decide +kernel)
set_option maxRecDepth 20000 in
theorem gX11_guessedSum_X0_stepsOf : GoodIn wsX11_guessedSum (wsV RX11 193 RX0 yX0_stepsOf wsX0_stepsOf) := goodIn_app (goodIn_of _ (by decide +kernel)) ggX11_guessedSum_X0_stepsOf
set_option maxRecDepth 20000 in
theorem ggX11_guessedSum_X10_spread : GoodIn wsX11_guessedSum wsX10_spread := goodIn_r _ [17, 18, 19, 20, 21, 22, 23, 24, 25, 26, 27, 28, 29, 30, 31, 32, 33, 34, 35, 36, 37, 38, 39, 40, 41, 42, 43, 44, 5, 6, 7, 8, 9, 10, 11, 12, 45, 46, 47, 48, 49, 50, 51, 16, 52, 53, 54, 55, 56, 57, 58, 59, 60, 61, 62, 63, 64, 65, 66, 67, 68, 69, 70, 71, 72, 73, 74, 75, 76, 77, 78, 79, 80, 81, 82, 83, 84, 85, 86, 87, 88, 89, 90, 91, 92, 93, 94, 95, 96, 97, 98, 99, 100, 101, 102, 103, 104, 105, 106, 107, 108, 109, 110, 111, 112, 113, 114, 115, 116, 117, 118, 119, 120, 121, 122, 123, 124, 125, 126, 127, 128, 129, 130, 131, 132, 133, 134, 135, 136, 137, 138, 139, 266, 267, 268, 269, 270, 271, 272, 273, 274, 249, 250, 251, 252, 253, 254, 255, 256, 257, 258, 259, 260, 261, 262, 263, 264, 265, 275, 276, 277, 278, 279, 280, 281, 282, 283, 284, 285, 286, 287, 288, 289, 290, 291] (by decide +kernel) (by decide +kernel)
set_option maxRecDepth 20000 in
theorem gX11_guessedSum_X10_spread : GoodIn wsX11_guessedSum (wsV RX11 171 RX10 yX10_spread wsX10_spread) := goodIn_app (goodIn_of _ (by decide +kernel)) ggX11_guessedSum_X10_spread
set_option maxRecDepth 20000 in
theorem ggX11_guessedSum_X0_tenthsOf : GoodIn wsX11_guessedSum wsX0_tenthsOf := goodIn_r _ [143, 144, 10, 11, 12, 249, 250, 251, 252, 253, 254, 255, 256, 257, 258, 259, 260, 261, 262, 263, 264, 265] (by decide +kernel) (by decide +kernel)
set_option maxRecDepth 20000 in
theorem gX11_guessedSum_X0_tenthsOf : GoodIn wsX11_guessedSum (wsV RX11 222 RX0 yX0_tenthsOf wsX0_tenthsOf) := goodIn_app (goodIn_of _ (by decide +kernel)) ggX11_guessedSum_X0_tenthsOf
set_option maxRecDepth 20000 in
theorem ggX11_guessedSum_X10_gain : GoodIn wsX11_guessedSum wsX10_gain := goodIn_r _ [148, 24, 20, 25, 21, 22, 23, 149, 150, 151, 29, 152, 153, 154, 155, 156, 157, 158, 159, 7, 160, 161, 162, 163, 164, 165, 166, 167, 168, 169, 170, 171, 172, 173, 174, 175, 176, 177, 178, 179, 180, 44, 5, 6, 8, 9, 10, 11, 12, 45, 46, 47, 48, 31, 41, 42, 43, 181, 182, 183, 184, 185, 186, 187, 188, 189, 190, 191, 192, 193, 194, 117, 118, 119, 120, 104, 105, 195, 125, 126, 127, 128, 196, 130, 131, 132, 133, 98, 134, 197, 198, 199, 200, 201, 202, 203, 204, 205, 206, 136, 137, 138, 139, 207, 208, 209, 210, 211, 77, 78, 79, 80, 212, 213, 214, 215, 216, 217, 218, 219, 220, 221, 222, 223, 224, 225, 226, 227, 228, 229, 230, 69, 231, 232, 233, 234, 235, 236, 266, 267, 268, 269, 270, 271, 272, 273, 274, 249, 250, 251, 252, 253, 254, 255, 256, 257, 258, 259, 260, 261, 262, 263, 264, 265, 275, 276, 277, 278, 279, 280, 281] (by decide +kernel) (by decide +kernel)
set_option maxRecDepth 20000 in
theorem gX11_guessedSum_X10_gain : GoodIn wsX11_guessedSum (wsV RX11 181 RX10 yX10_gain wsX10_gain) := goodIn_app (goodIn_of _ (by decide +kernel)) ggX11_guessedSum_X10_gain
theorem dX11_guessedSum_0 : decode cX11_guessedSum 0 = .ok (.lconst 0, 1) := by decide +kernel
theorem dX11_guessedSum_1 : decode cX11_guessedSum 1 = .ok (.lstore_n 2, 1) := by decide +kernel
theorem dX11_guessedSum_2 : decode cX11_guessedSum 2 = .ok (.iconst 0, 1) := by decide +kernel
theorem dX11_guessedSum_3 : decode cX11_guessedSum 3 = .ok (.istore 4, 2) := by decide +kernel
theorem dX11_guessedSum_5 : decode cX11_guessedSum 5 = .ok (.iload 4, 2) := by decide +kernel
theorem dX11_guessedSum_7 : decode cX11_guessedSum 7 = .ok (.aload_n 0, 1) := by decide +kernel
theorem dX11_guessedSum_8 : decode cX11_guessedSum 8 = .ok (.getfield 19, 3) := by decide +kernel
theorem dX11_guessedSum_11 : decode cX11_guessedSum 11 = .ok (.getfield 211, 3) := by decide +kernel
theorem dX11_guessedSum_14 : decode cX11_guessedSum 14 = .ok (.if_icmp .ge 54, 3) := by decide +kernel
theorem dX11_guessedSum_17 : decode cX11_guessedSum 17 = .ok (.aload_n 0, 1) := by decide +kernel
theorem dX11_guessedSum_18 : decode cX11_guessedSum 18 = .ok (.getfield 61, 3) := by decide +kernel
theorem dX11_guessedSum_21 : decode cX11_guessedSum 21 = .ok (.iconst 0, 1) := by decide +kernel
theorem dX11_guessedSum_22 : decode cX11_guessedSum 22 = .ok (.iload_n 1, 1) := by decide +kernel
theorem dX11_guessedSum_23 : decode cX11_guessedSum 23 = .ok (.iload 4, 2) := by decide +kernel
theorem dX11_guessedSum_25 : decode cX11_guessedSum 25 = .ok (.iconst 0, 1) := by decide +kernel
theorem dX11_guessedSum_26 : decode cX11_guessedSum 26 = .ok (.aload_n 0, 1) := by decide +kernel
theorem dX11_guessedSum_27 : decode cX11_guessedSum 27 = .ok (.getfield 19, 3) := by decide +kernel
theorem dX11_guessedSum_30 : decode cX11_guessedSum 30 = .ok (.iconst 0, 1) := by decide +kernel
theorem dX11_guessedSum_31 : decode cX11_guessedSum 31 = .ok (.invokevirtual 193, 3) := by decide +kernel
theorem dX11_guessedSum_34 : decode cX11_guessedSum 34 = .ok (.iconst 0, 1) := by decide +kernel
theorem dX11_guessedSum_35 : decode cX11_guessedSum 35 = .ok (.invokevirtual 171, 3) := by decide +kernel
theorem dX11_guessedSum_38 : decode cX11_guessedSum 38 = .ok (.lload_n 2, 1) := by decide +kernel
theorem dX11_guessedSum_39 : decode cX11_guessedSum 39 = .ok (.aload_n 0, 1) := by decide +kernel
theorem dX11_guessedSum_40 : decode cX11_guessedSum 40 = .ok (.getfield 19, 3) := by decide +kernel
theorem dX11_guessedSum_43 : decode cX11_guessedSum 43 = .ok (.iload 4, 2) := by decide +kernel
theorem dX11_guessedSum_45 : decode cX11_guessedSum 45 = .ok (.invokevirtual 222, 3) := by decide +kernel
theorem dX11_guessedSum_48 : decode cX11_guessedSum 48 = .ok (.i2l, 1) := by decide +kernel
theorem dX11_guessedSum_49 : decode cX11_guessedSum 49 = .ok (.aload_n 0, 1) := by decide +kernel
theorem dX11_guessedSum_50 : decode cX11_guessedSum 50 = .ok (.getfield 61, 3) := by decide +kernel
theorem dX11_guessedSum_53 : decode cX11_guessedSum 53 = .ok (.getstatic 175, 3) := by decide +kernel
theorem dX11_guessedSum_56 : decode cX11_guessedSum 56 = .ok (.invokevirtual 181, 3) := by decide +kernel
theorem dX11_guessedSum_59 : decode cX11_guessedSum 59 = .ok (.lmul, 1) := by decide +kernel
theorem dX11_guessedSum_60 : decode cX11_guessedSum 60 = .ok (.ladd, 1) := by decide +kernel
theorem dX11_guessedSum_61 : decode cX11_guessedSum 61 = .ok (.lstore_n 2, 1) := by decide +kernel
theorem dX11_guessedSum_62 : decode cX11_guessedSum 62 = .ok (.iinc 4 1, 3) := by decide +kernel
theorem dX11_guessedSum_65 : decode cX11_guessedSum 65 = .ok (.goto (-60), 3) := by decide +kernel
theorem dX11_guessedSum_68 : decode cX11_guessedSum 68 = .ok (.lload_n 2, 1) := by decide +kernel
theorem dX11_guessedSum_69 : decode cX11_guessedSum 69 = .ok (.lreturn, 1) := by decide +kernel
set_option maxRecDepth 20000 in
theorem ggX11_knownSum_X0_tenthsOf : GoodIn wsX11_knownSum wsX0_tenthsOf := goodIn_r _ [7, 8, 9, 10, 11, 56, 57, 58, 59, 60, 61, 62, 63, 64, 65, 66, 67, 68, 69, 70, 71, 72] (by decide +kernel) (by decide +kernel)
set_option maxRecDepth 20000 in
theorem gX11_knownSum_X0_tenthsOf : GoodIn wsX11_knownSum (wsV RX11 222 RX0 yX0_tenthsOf wsX0_tenthsOf) := goodIn_app (goodIn_of _ (by decide +kernel)) ggX11_knownSum_X0_tenthsOf
set_option maxRecDepth 20000 in
theorem ggX11_knownSum_X2_bestBy : GoodIn wsX11_knownSum wsX2_bestBy := goodIn_r _ [16, 17, 18, 10, 19, 73, 74, 75, 76] (by decide +kernel) (by decide +kernel)
set_option maxRecDepth 20000 in
theorem gX11_knownSum_X2_bestBy : GoodIn wsX11_knownSum (wsV RX11 196 RX2 yX2_bestBy wsX2_bestBy) := goodIn_app (goodIn_of _ (by decide +kernel)) ggX11_knownSum_X2_bestBy
set_option maxRecDepth 20000 in
theorem ggX11_knownSum_X6_gainAtStart : GoodIn wsX11_knownSum wsX6_gainAtStart := goodIn_r _ [24, 25, 26, 27, 28, 6, 29, 30, 18, 10, 19, 31, 32, 33, 34, 35, 9, 11, 36, 37, 38, 23, 39, 40, 41, 42, 43, 77, 78, 79, 80, 81, 82, 83, 56, 57, 58, 59, 60, 61, 62, 63, 64, 65, 66, 67, 68, 69, 70, 71, 72] (by decide +kernel) (by decide +kernel)
set_option maxRecDepth 20000 in
theorem gX11_knownSum_X6_gainAtStart : GoodIn wsX11_knownSum (wsV RX11 225 RX6 yX6_gainAtStart wsX6_gainAtStart) := goodIn_app (goodIn_of _ (by decide +kernel)) ggX11_knownSum_X6_gainAtStart
theorem dX11_knownSum_0 : decode cX11_knownSum 0 = .ok (.lconst 0, 1) := by decide +kernel
theorem dX11_knownSum_1 : decode cX11_knownSum 1 = .ok (.lstore_n 1, 1) := by decide +kernel
theorem dX11_knownSum_2 : decode cX11_knownSum 2 = .ok (.iconst 0, 1) := by decide +kernel
theorem dX11_knownSum_3 : decode cX11_knownSum 3 = .ok (.istore_n 3, 1) := by decide +kernel
theorem dX11_knownSum_4 : decode cX11_knownSum 4 = .ok (.iload_n 3, 1) := by decide +kernel
theorem dX11_knownSum_5 : decode cX11_knownSum 5 = .ok (.aload_n 0, 1) := by decide +kernel
theorem dX11_knownSum_6 : decode cX11_knownSum 6 = .ok (.getfield 19, 3) := by decide +kernel
theorem dX11_knownSum_9 : decode cX11_knownSum 9 = .ok (.getfield 211, 3) := by decide +kernel
theorem dX11_knownSum_12 : decode cX11_knownSum 12 = .ok (.if_icmp .ge 35, 3) := by decide +kernel
theorem dX11_knownSum_15 : decode cX11_knownSum 15 = .ok (.lload_n 1, 1) := by decide +kernel
theorem dX11_knownSum_16 : decode cX11_knownSum 16 = .ok (.aload_n 0, 1) := by decide +kernel
theorem dX11_knownSum_17 : decode cX11_knownSum 17 = .ok (.getfield 19, 3) := by decide +kernel
theorem dX11_knownSum_20 : decode cX11_knownSum 20 = .ok (.iload_n 3, 1) := by decide +kernel
theorem dX11_knownSum_21 : decode cX11_knownSum 21 = .ok (.invokevirtual 222, 3) := by decide +kernel
theorem dX11_knownSum_24 : decode cX11_knownSum 24 = .ok (.i2l, 1) := by decide +kernel
theorem dX11_knownSum_25 : decode cX11_knownSum 25 = .ok (.aload_n 0, 1) := by decide +kernel
theorem dX11_knownSum_26 : decode cX11_knownSum 26 = .ok (.getfield 52, 3) := by decide +kernel
theorem dX11_knownSum_29 : decode cX11_knownSum 29 = .ok (.iload_n 3, 1) := by decide +kernel
theorem dX11_knownSum_30 : decode cX11_knownSum 30 = .ok (.invokevirtual 196, 3) := by decide +kernel
theorem dX11_knownSum_33 : decode cX11_knownSum 33 = .ok (.iconst 0, 1) := by decide +kernel
theorem dX11_knownSum_34 : decode cX11_knownSum 34 = .ok (.iconst 0, 1) := by decide +kernel
theorem dX11_knownSum_35 : decode cX11_knownSum 35 = .ok (.invokevirtual 225, 3) := by decide +kernel
theorem dX11_knownSum_38 : decode cX11_knownSum 38 = .ok (.lmul, 1) := by decide +kernel
theorem dX11_knownSum_39 : decode cX11_knownSum 39 = .ok (.ladd, 1) := by decide +kernel
theorem dX11_knownSum_40 : decode cX11_knownSum 40 = .ok (.lstore_n 1, 1) := by decide +kernel
theorem dX11_knownSum_41 : decode cX11_knownSum 41 = .ok (.iinc 3 1, 3) := by decide +kernel
theorem dX11_knownSum_44 : decode cX11_knownSum 44 = .ok (.goto (-40), 3) := by decide +kernel
theorem dX11_knownSum_47 : decode cX11_knownSum 47 = .ok (.lload_n 1, 1) := by decide +kernel
theorem dX11_knownSum_48 : decode cX11_knownSum 48 = .ok (.lreturn, 1) := by decide +kernel
set_option maxRecDepth 20000 in
theorem ggX11_two_X11_within : GoodIn wsX11_two wsX11_within := goodIn_r _ [5] (by decide +kernel) (by decide +kernel)
set_option maxRecDepth 20000 in
theorem gX11_two_X11_within : GoodIn wsX11_two (va_wsS RX11 88 yX11_within wsX11_within) := goodIn_app (goodIn_of _ (by decide +kernel)) ggX11_two_X11_within
set_option maxRecDepth 20000 in
theorem ggX11_two_X3_goRound : GoodIn wsX11_two wsX3_goRound := goodIn_r _ [10, 11, 12, 13, 14, 15, 16, 17, 18, 19, 20, 21, 22, 23, 9, 24, 25, 26, 27, 28, 3, 4, 5, 45, 46, 47, 48, 49] (by decide +kernel) (by decide +kernel)
set_option maxRecDepth 20000 in
theorem gX11_two_X3_goRound : GoodIn wsX11_two (wsV RX11 231 RX3 yX3_goRound wsX3_goRound) := goodIn_app (goodIn_of _ (by decide +kernel)) ggX11_two_X3_goRound
set_option maxRecDepth 20000 in
theorem ggX11_two_X3_told : GoodIn wsX11_two wsX3_told := goodIn_r _ [32, 27, 28, 26, 45, 46, 47, 48, 49] (by decide +kernel) (by decide +kernel)
set_option maxRecDepth 20000 in
theorem gX11_two_X3_told : GoodIn wsX11_two (wsV RX11 235 RX3 yX3_told wsX3_told) := goodIn_app (goodIn_of _ (by decide +kernel)) ggX11_two_X3_told
theorem dX11_two_0 : decode cX11_two 0 = .ok (.iload_n 1, 1) := by decide +kernel
theorem dX11_two_1 : decode cX11_two 1 = .ok (.iconst 1, 1) := by decide +kernel
theorem dX11_two_2 : decode cX11_two 2 = .ok (.bipush 99, 2) := by decide +kernel
theorem dX11_two_4 : decode cX11_two 4 = .ok (.invokestatic 88, 3) := by decide +kernel
theorem dX11_two_7 : decode cX11_two 7 = .ok (.ifCond .eq 34, 3) := by decide +kernel
theorem dX11_two_10 : decode cX11_two 10 = .ok (.iload_n 2, 1) := by decide +kernel
theorem dX11_two_11 : decode cX11_two 11 = .ok (.iconst 1, 1) := by decide +kernel
theorem dX11_two_12 : decode cX11_two 12 = .ok (.bipush 30, 2) := by decide +kernel
theorem dX11_two_14 : decode cX11_two 14 = .ok (.invokestatic 88, 3) := by decide +kernel
theorem dX11_two_17 : decode cX11_two 17 = .ok (.ifCond .eq 24, 3) := by decide +kernel
theorem dX11_two_20 : decode cX11_two 20 = .ok (.iload_n 3, 1) := by decide +kernel
theorem dX11_two_21 : decode cX11_two 21 = .ok (.iconst 1, 1) := by decide +kernel
theorem dX11_two_22 : decode cX11_two 22 = .ok (.bipush 99, 2) := by decide +kernel
theorem dX11_two_24 : decode cX11_two 24 = .ok (.invokestatic 88, 3) := by decide +kernel
theorem dX11_two_27 : decode cX11_two 27 = .ok (.ifCond .eq 14, 3) := by decide +kernel
theorem dX11_two_30 : decode cX11_two 30 = .ok (.iload 4, 2) := by decide +kernel
theorem dX11_two_32 : decode cX11_two 32 = .ok (.iconst 1, 1) := by decide +kernel
theorem dX11_two_33 : decode cX11_two 33 = .ok (.bipush 30, 2) := by decide +kernel
theorem dX11_two_35 : decode cX11_two 35 = .ok (.invokestatic 88, 3) := by decide +kernel
theorem dX11_two_38 : decode cX11_two 38 = .ok (.ifCond .ne 5, 3) := by decide +kernel
theorem dX11_two_41 : decode cX11_two 41 = .ok (.iconst (-1), 1) := by decide +kernel
theorem dX11_two_42 : decode cX11_two 42 = .ok (.ireturn, 1) := by decide +kernel
theorem dX11_two_43 : decode cX11_two 43 = .ok (.iload 5, 2) := by decide +kernel
theorem dX11_two_45 : decode cX11_two 45 = .ok (.iconst 0, 1) := by decide +kernel
theorem dX11_two_46 : decode cX11_two 46 = .ok (.iconst 2, 1) := by decide +kernel
theorem dX11_two_47 : decode cX11_two 47 = .ok (.invokestatic 88, 3) := by decide +kernel
theorem dX11_two_50 : decode cX11_two 50 = .ok (.ifCond .ne 5, 3) := by decide +kernel
theorem dX11_two_53 : decode cX11_two 53 = .ok (.iconst (-1), 1) := by decide +kernel
theorem dX11_two_54 : decode cX11_two 54 = .ok (.ireturn, 1) := by decide +kernel
theorem dX11_two_55 : decode cX11_two 55 = .ok (.aload_n 0, 1) := by decide +kernel
theorem dX11_two_56 : decode cX11_two 56 = .ok (.getfield 40, 3) := by decide +kernel
theorem dX11_two_59 : decode cX11_two 59 = .ok (.iload_n 1, 1) := by decide +kernel
theorem dX11_two_60 : decode cX11_two 60 = .ok (.iload_n 2, 1) := by decide +kernel
theorem dX11_two_61 : decode cX11_two 61 = .ok (.iload_n 3, 1) := by decide +kernel
theorem dX11_two_62 : decode cX11_two 62 = .ok (.iload 4, 2) := by decide +kernel
theorem dX11_two_64 : decode cX11_two 64 = .ok (.invokevirtual 231, 3) := by decide +kernel
theorem dX11_two_67 : decode cX11_two 67 = .ok (.ifCond .eq 15, 3) := by decide +kernel
theorem dX11_two_70 : decode cX11_two 70 = .ok (.aload_n 0, 1) := by decide +kernel
theorem dX11_two_71 : decode cX11_two 71 = .ok (.getfield 40, 3) := by decide +kernel
theorem dX11_two_74 : decode cX11_two 74 = .ok (.iload 5, 2) := by decide +kernel
theorem dX11_two_76 : decode cX11_two 76 = .ok (.invokevirtual 235, 3) := by decide +kernel
theorem dX11_two_79 : decode cX11_two 79 = .ok (.goto 5, 3) := by decide +kernel
theorem dX11_two_82 : decode cX11_two 82 = .ok (.bipush (-4), 2) := by decide +kernel
theorem dX11_two_84 : decode cX11_two 84 = .ok (.ireturn, 1) := by decide +kernel
set_option maxRecDepth 20000 in
theorem ggX11_earns_X0_hasPiece : GoodIn wsX11_earns wsX0_hasPiece := goodIn_r _ [9, 10, 11, 12, 13, 89, 90, 91, 92, 93, 94, 95, 96, 97, 98, 99, 100, 101, 102, 103, 104, 105] (by decide +kernel) (by decide +kernel)
set_option maxRecDepth 20000 in
theorem gX11_earns_X0_hasPiece : GoodIn wsX11_earns (wsV RX11 119 RX0 yX0_hasPiece wsX0_hasPiece) := goodIn_app (goodIn_of _ (by decide +kernel)) ggX11_earns_X0_hasPiece
set_option maxRecDepth 20000 in
theorem ggX11_earns_X0_hasSpeed : GoodIn wsX11_earns wsX0_hasSpeed := goodIn_r _ [17, 18, 11, 12, 13, 89, 90, 91, 92, 93, 94, 95, 96, 97, 98, 99, 100, 101, 102, 103, 104, 105] (by decide +kernel) (by decide +kernel)
set_option maxRecDepth 20000 in
theorem gX11_earns_X0_hasSpeed : GoodIn wsX11_earns (wsV RX11 123 RX0 yX0_hasSpeed wsX0_hasSpeed) := goodIn_app (goodIn_of _ (by decide +kernel)) ggX11_earns_X0_hasSpeed
set_option maxRecDepth 20000 in
theorem ggX11_earns_X11_within : GoodIn wsX11_earns wsX11_within := goodIn_r _ [13] (by decide +kernel) (by decide +kernel)
set_option maxRecDepth 20000 in
theorem gX11_earns_X11_within : GoodIn wsX11_earns (va_wsS RX11 88 yX11_within wsX11_within) := goodIn_app (goodIn_of _ (by decide +kernel)) ggX11_earns_X11_within
set_option maxRecDepth 20000 in
theorem ggX11_earns_X7_mayBe : GoodIn wsX11_earns wsX7_mayBe := goodIn_r _ [24, 25, 26, 27, 28, 8, 29, 30, 31, 12, 32, 33, 34, 35, 36, 37, 38, 39, 106, 89, 90, 91, 92, 93, 94, 95, 96, 97, 98, 99, 100, 101, 102, 103, 104, 105] (by decide +kernel) (by decide +kernel)
set_option maxRecDepth 20000 in
theorem gX11_earns_X7_mayBe : GoodIn wsX11_earns (wsV RX11 237 RX7 yX7_mayBe wsX7_mayBe) := goodIn_app (goodIn_of _ (by decide +kernel)) ggX11_earns_X7_mayBe
set_option maxRecDepth 20000 in
theorem ggX11_earns_X7_earned : GoodIn wsX11_earns wsX7_earned := goodIn_r _ [43, 44, 25, 45, 46, 47, 48, 49, 50, 51, 52, 23, 53, 26, 27, 28, 8, 29, 30, 31, 12, 32, 54, 55, 56, 57, 58, 59, 60, 61, 62, 63, 64, 65, 66, 67, 68, 69, 70, 71, 72, 73, 38, 74, 75, 76, 106, 89, 90, 91, 92, 93, 94, 95, 96, 97, 98, 99, 100, 101, 102, 103, 104, 105] (by decide +kernel) (by decide +kernel)
set_option maxRecDepth 20000 in
theorem gX11_earns_X7_earned : GoodIn wsX11_earns (wsV RX11 240 RX7 yX7_earned wsX7_earned) := goodIn_app (goodIn_of _ (by decide +kernel)) ggX11_earns_X7_earned
theorem dX11_earns_0 : decode cX11_earns 0 = .ok (.aload_n 0, 1) := by decide +kernel
theorem dX11_earns_1 : decode cX11_earns 1 = .ok (.getfield 19, 3) := by decide +kernel
theorem dX11_earns_4 : decode cX11_earns 4 = .ok (.iload_n 1, 1) := by decide +kernel
theorem dX11_earns_5 : decode cX11_earns 5 = .ok (.invokevirtual 119, 3) := by decide +kernel
theorem dX11_earns_8 : decode cX11_earns 8 = .ok (.ifCond .eq 25, 3) := by decide +kernel
theorem dX11_earns_11 : decode cX11_earns 11 = .ok (.aload_n 0, 1) := by decide +kernel
theorem dX11_earns_12 : decode cX11_earns 12 = .ok (.getfield 19, 3) := by decide +kernel
theorem dX11_earns_15 : decode cX11_earns 15 = .ok (.iload_n 2, 1) := by decide +kernel
theorem dX11_earns_16 : decode cX11_earns 16 = .ok (.invokevirtual 123, 3) := by decide +kernel
theorem dX11_earns_19 : decode cX11_earns 19 = .ok (.ifCond .eq 14, 3) := by decide +kernel
theorem dX11_earns_22 : decode cX11_earns 22 = .ok (.iload_n 3, 1) := by decide +kernel
theorem dX11_earns_23 : decode cX11_earns 23 = .ok (.iconst 1, 1) := by decide +kernel
theorem dX11_earns_24 : decode cX11_earns 24 = .ok (.sipush 9999, 3) := by decide +kernel
theorem dX11_earns_27 : decode cX11_earns 27 = .ok (.invokestatic 88, 3) := by decide +kernel
theorem dX11_earns_30 : decode cX11_earns 30 = .ok (.ifCond .ne 7, 3) := by decide +kernel
theorem dX11_earns_33 : decode cX11_earns 33 = .ok (.ldc2_w 169, 3) := by decide +kernel
theorem dX11_earns_36 : decode cX11_earns 36 = .ok (.lreturn, 1) := by decide +kernel
theorem dX11_earns_37 : decode cX11_earns 37 = .ok (.aload_n 0, 1) := by decide +kernel
theorem dX11_earns_38 : decode cX11_earns 38 = .ok (.getfield 84, 3) := by decide +kernel
theorem dX11_earns_41 : decode cX11_earns 41 = .ok (.iload_n 1, 1) := by decide +kernel
theorem dX11_earns_42 : decode cX11_earns 42 = .ok (.iload_n 2, 1) := by decide +kernel
theorem dX11_earns_43 : decode cX11_earns 43 = .ok (.invokevirtual 237, 3) := by decide +kernel
theorem dX11_earns_46 : decode cX11_earns 46 = .ok (.ifCond .eq 16, 3) := by decide +kernel
theorem dX11_earns_49 : decode cX11_earns 49 = .ok (.aload_n 0, 1) := by decide +kernel
theorem dX11_earns_50 : decode cX11_earns 50 = .ok (.getfield 84, 3) := by decide +kernel
theorem dX11_earns_53 : decode cX11_earns 53 = .ok (.iload_n 1, 1) := by decide +kernel
theorem dX11_earns_54 : decode cX11_earns 54 = .ok (.iload_n 2, 1) := by decide +kernel
theorem dX11_earns_55 : decode cX11_earns 55 = .ok (.iload_n 3, 1) := by decide +kernel
theorem dX11_earns_56 : decode cX11_earns 56 = .ok (.invokevirtual 240, 3) := by decide +kernel
theorem dX11_earns_59 : decode cX11_earns 59 = .ok (.goto 6, 3) := by decide +kernel
theorem dX11_earns_62 : decode cX11_earns 62 = .ok (.ldc2_w 243, 3) := by decide +kernel
theorem dX11_earns_65 : decode cX11_earns 65 = .ok (.lreturn, 1) := by decide +kernel
set_option maxRecDepth 20000 in
theorem ggX11_shop_X0_hasPiece : GoodIn wsX11_shop wsX0_hasPiece := goodIn_r _ [7, 8, 9, 10, 11, 86, 87, 88, 89, 90, 91, 92, 93, 94, 95, 96, 97, 98, 99, 100, 101, 102] (by decide +kernel) (by decide +kernel)
set_option maxRecDepth 20000 in
theorem gX11_shop_X0_hasPiece : GoodIn wsX11_shop (wsV RX11 119 RX0 yX0_hasPiece wsX0_hasPiece) := goodIn_app (goodIn_of _ (by decide +kernel)) ggX11_shop_X0_hasPiece
set_option maxRecDepth 20000 in
theorem ggX11_shop_X11_within : GoodIn wsX11_shop wsX11_within := goodIn_r _ [11] (by decide +kernel) (by decide +kernel)
set_option maxRecDepth 20000 in
theorem gX11_shop_X11_within : GoodIn wsX11_shop (va_wsS RX11 88 yX11_within wsX11_within) := goodIn_app (goodIn_of _ (by decide +kernel)) ggX11_shop_X11_within
set_option maxRecDepth 20000 in
theorem ggX11_shop_X7_speedFor : GoodIn wsX11_shop wsX7_speedFor := goodIn_r _ [17, 18, 19, 20, 21, 16, 22, 23, 24, 25, 6, 26, 27, 28, 10, 29, 30, 31, 32, 33, 34, 35, 36, 37, 38, 39, 40, 41, 42, 43, 44, 45, 46, 47, 48, 49, 50, 51, 52, 53, 54, 55, 56, 57, 58, 59, 60, 61, 62, 63, 64, 65, 66, 67, 68, 69, 70, 71, 72, 73, 103, 86, 87, 88, 89, 90, 91, 92, 93, 94, 95, 96, 97, 98, 99, 100, 101, 102] (by decide +kernel) (by decide +kernel)
set_option maxRecDepth 20000 in
theorem gX11_shop_X7_speedFor : GoodIn wsX11_shop (wsV RX11 245 RX7 yX7_speedFor wsX7_speedFor) := goodIn_app (goodIn_of _ (by decide +kernel)) ggX11_shop_X7_speedFor
theorem dX11_shop_0 : decode cX11_shop 0 = .ok (.aload_n 0, 1) := by decide +kernel
theorem dX11_shop_1 : decode cX11_shop 1 = .ok (.getfield 19, 3) := by decide +kernel
theorem dX11_shop_4 : decode cX11_shop 4 = .ok (.iload_n 1, 1) := by decide +kernel
theorem dX11_shop_5 : decode cX11_shop 5 = .ok (.invokevirtual 119, 3) := by decide +kernel
theorem dX11_shop_8 : decode cX11_shop 8 = .ok (.ifCond .eq 26, 3) := by decide +kernel
theorem dX11_shop_11 : decode cX11_shop 11 = .ok (.iload_n 2, 1) := by decide +kernel
theorem dX11_shop_12 : decode cX11_shop 12 = .ok (.iconst 1, 1) := by decide +kernel
theorem dX11_shop_13 : decode cX11_shop 13 = .ok (.sipush 9999, 3) := by decide +kernel
theorem dX11_shop_16 : decode cX11_shop 16 = .ok (.invokestatic 88, 3) := by decide +kernel
theorem dX11_shop_19 : decode cX11_shop 19 = .ok (.ifCond .eq 15, 3) := by decide +kernel
theorem dX11_shop_22 : decode cX11_shop 22 = .ok (.aload_n 0, 1) := by decide +kernel
theorem dX11_shop_23 : decode cX11_shop 23 = .ok (.getfield 84, 3) := by decide +kernel
theorem dX11_shop_26 : decode cX11_shop 26 = .ok (.iload_n 1, 1) := by decide +kernel
theorem dX11_shop_27 : decode cX11_shop 27 = .ok (.iload_n 2, 1) := by decide +kernel
theorem dX11_shop_28 : decode cX11_shop 28 = .ok (.invokevirtual 245, 3) := by decide +kernel
theorem dX11_shop_31 : decode cX11_shop 31 = .ok (.goto 4, 3) := by decide +kernel
theorem dX11_shop_34 : decode cX11_shop 34 = .ok (.iconst (-1), 1) := by decide +kernel
theorem dX11_shop_35 : decode cX11_shop 35 = .ok (.ireturn, 1) := by decide +kernel
set_option maxRecDepth 20000 in
theorem ggX11_pay_X0_hasPiece : GoodIn wsX11_pay wsX0_hasPiece := goodIn_r _ [11, 12, 13, 14, 15, 102, 103, 104, 105, 106, 107, 108, 109, 110, 111, 112, 113, 114, 115, 116, 117, 118] (by decide +kernel) (by decide +kernel)
set_option maxRecDepth 20000 in
theorem gX11_pay_X0_hasPiece : GoodIn wsX11_pay (wsV RX11 119 RX0 yX0_hasPiece wsX0_hasPiece) := goodIn_app (goodIn_of _ (by decide +kernel)) ggX11_pay_X0_hasPiece
set_option maxRecDepth 20000 in
theorem ggX11_pay_X11_within : GoodIn wsX11_pay wsX11_within := goodIn_r _ [15] (by decide +kernel) (by decide +kernel)
set_option maxRecDepth 20000 in
theorem gX11_pay_X11_within : GoodIn wsX11_pay (va_wsS RX11 88 yX11_within wsX11_within) := goodIn_app (goodIn_of _ (by decide +kernel)) ggX11_pay_X11_within
set_option maxRecDepth 20000 in
theorem ggX11_pay_X7_speedOfMan : GoodIn wsX11_pay wsX7_speedOfMan := goodIn_r _ [21, 22, 23, 24, 25, 26, 20, 27, 28, 29, 30, 10, 31, 32, 33, 14, 34, 35, 36, 37, 38, 39, 40, 41, 42, 43, 44, 45, 46, 47, 48, 49, 50, 51, 52, 53, 54, 55, 56, 57, 58, 59, 60, 61, 62, 63, 64, 65, 66, 67, 68, 69, 70, 71, 119, 102, 103, 104, 105, 106, 107, 108, 109, 110, 111, 112, 113, 114, 115, 116, 117, 118] (by decide +kernel) (by decide +kernel)
set_option maxRecDepth 20000 in
theorem gX11_pay_X7_speedOfMan : GoodIn wsX11_pay (wsV RX11 248 RX7 yX7_speedOfMan wsX7_speedOfMan) := goodIn_app (goodIn_of _ (by decide +kernel)) ggX11_pay_X7_speedOfMan
set_option maxRecDepth 20000 in
theorem ggX11_pay_X7_leftToShop : GoodIn wsX11_pay wsX7_leftToShop := goodIn_r _ [75, 76, 77, 78, 20, 79, 80, 22, 23, 81, 82, 83, 84, 55, 56, 57, 58, 28, 29, 30, 10, 31, 32, 33, 14, 34, 59, 60, 61, 62, 54, 63, 64, 85, 86, 87, 88, 89, 46, 47, 48, 49, 50, 51, 52, 53, 40, 65, 66, 67, 42, 43, 44, 45, 119, 102, 103, 104, 105, 106, 107, 108, 109, 110, 111, 112, 113, 114, 115, 116, 117, 118] (by decide +kernel) (by decide +kernel)
set_option maxRecDepth 20000 in
theorem gX11_pay_X7_leftToShop : GoodIn wsX11_pay (wsV RX11 256 RX7 yX7_leftToShop wsX7_leftToShop) := goodIn_app (goodIn_of _ (by decide +kernel)) ggX11_pay_X7_leftToShop
theorem dX11_pay_0 : decode cX11_pay 0 = .ok (.aload_n 0, 1) := by decide +kernel
theorem dX11_pay_1 : decode cX11_pay 1 = .ok (.getfield 19, 3) := by decide +kernel
theorem dX11_pay_4 : decode cX11_pay 4 = .ok (.iload_n 1, 1) := by decide +kernel
theorem dX11_pay_5 : decode cX11_pay 5 = .ok (.invokevirtual 119, 3) := by decide +kernel
theorem dX11_pay_8 : decode cX11_pay 8 = .ok (.ifCond .eq 33, 3) := by decide +kernel
theorem dX11_pay_11 : decode cX11_pay 11 = .ok (.iload_n 2, 1) := by decide +kernel
theorem dX11_pay_12 : decode cX11_pay 12 = .ok (.iconst 0, 1) := by decide +kernel
theorem dX11_pay_13 : decode cX11_pay 13 = .ok (.bipush 99, 2) := by decide +kernel
theorem dX11_pay_15 : decode cX11_pay 15 = .ok (.invokestatic 88, 3) := by decide +kernel
theorem dX11_pay_18 : decode cX11_pay 18 = .ok (.ifCond .eq 23, 3) := by decide +kernel
theorem dX11_pay_21 : decode cX11_pay 21 = .ok (.iload_n 3, 1) := by decide +kernel
theorem dX11_pay_22 : decode cX11_pay 22 = .ok (.iconst 0, 1) := by decide +kernel
theorem dX11_pay_23 : decode cX11_pay 23 = .ok (.bipush 99, 2) := by decide +kernel
theorem dX11_pay_25 : decode cX11_pay 25 = .ok (.invokestatic 88, 3) := by decide +kernel
theorem dX11_pay_28 : decode cX11_pay 28 = .ok (.ifCond .eq 13, 3) := by decide +kernel
theorem dX11_pay_31 : decode cX11_pay 31 = .ok (.iload 4, 2) := by decide +kernel
theorem dX11_pay_33 : decode cX11_pay 33 = .ok (.iconst 0, 1) := by decide +kernel
theorem dX11_pay_34 : decode cX11_pay 34 = .ok (.iconst 1, 1) := by decide +kernel
theorem dX11_pay_35 : decode cX11_pay 35 = .ok (.invokestatic 88, 3) := by decide +kernel
theorem dX11_pay_38 : decode cX11_pay 38 = .ok (.ifCond .ne 19, 3) := by decide +kernel
theorem dX11_pay_41 : decode cX11_pay 41 = .ok (.iload 4, 2) := by decide +kernel
theorem dX11_pay_43 : decode cX11_pay 43 = .ok (.iconst 1, 1) := by decide +kernel
theorem dX11_pay_44 : decode cX11_pay 44 = .ok (.if_icmp .ne 9, 3) := by decide +kernel
theorem dX11_pay_47 : decode cX11_pay 47 = .ok (.ldc2_w 169, 3) := by decide +kernel
theorem dX11_pay_50 : decode cX11_pay 50 = .ok (.goto 6, 3) := by decide +kernel
theorem dX11_pay_53 : decode cX11_pay 53 = .ok (.ldc2_w 185, 3) := by decide +kernel
theorem dX11_pay_56 : decode cX11_pay 56 = .ok (.lreturn, 1) := by decide +kernel
theorem dX11_pay_57 : decode cX11_pay 57 = .ok (.aload_n 0, 1) := by decide +kernel
theorem dX11_pay_58 : decode cX11_pay 58 = .ok (.getfield 84, 3) := by decide +kernel
theorem dX11_pay_61 : decode cX11_pay 61 = .ok (.iload_n 1, 1) := by decide +kernel
theorem dX11_pay_62 : decode cX11_pay 62 = .ok (.iload_n 2, 1) := by decide +kernel
theorem dX11_pay_63 : decode cX11_pay 63 = .ok (.iload_n 3, 1) := by decide +kernel
theorem dX11_pay_64 : decode cX11_pay 64 = .ok (.invokevirtual 248, 3) := by decide +kernel
theorem dX11_pay_67 : decode cX11_pay 67 = .ok (.istore 5, 2) := by decide +kernel
theorem dX11_pay_69 : decode cX11_pay 69 = .ok (.iload 5, 2) := by decide +kernel
theorem dX11_pay_71 : decode cX11_pay 71 = .ok (.ifCond .ge 19, 3) := by decide +kernel
theorem dX11_pay_74 : decode cX11_pay 74 = .ok (.iload 4, 2) := by decide +kernel
theorem dX11_pay_76 : decode cX11_pay 76 = .ok (.iconst 1, 1) := by decide +kernel
theorem dX11_pay_77 : decode cX11_pay 77 = .ok (.if_icmp .ne 9, 3) := by decide +kernel
theorem dX11_pay_80 : decode cX11_pay 80 = .ok (.ldc2_w 252, 3) := by decide +kernel
theorem dX11_pay_83 : decode cX11_pay 83 = .ok (.goto 6, 3) := by decide +kernel
theorem dX11_pay_86 : decode cX11_pay 86 = .ok (.ldc2_w 254, 3) := by decide +kernel
theorem dX11_pay_89 : decode cX11_pay 89 = .ok (.lreturn, 1) := by decide +kernel
theorem dX11_pay_90 : decode cX11_pay 90 = .ok (.iload 4, 2) := by decide +kernel
theorem dX11_pay_92 : decode cX11_pay 92 = .ok (.iconst 1, 1) := by decide +kernel
theorem dX11_pay_93 : decode cX11_pay 93 = .ok (.if_icmp .ne 17, 3) := by decide +kernel
theorem dX11_pay_96 : decode cX11_pay 96 = .ok (.aload_n 0, 1) := by decide +kernel
theorem dX11_pay_97 : decode cX11_pay 97 = .ok (.getfield 84, 3) := by decide +kernel
theorem dX11_pay_100 : decode cX11_pay 100 = .ok (.iload_n 1, 1) := by decide +kernel
theorem dX11_pay_101 : decode cX11_pay 101 = .ok (.iload 5, 2) := by decide +kernel
theorem dX11_pay_103 : decode cX11_pay 103 = .ok (.iload_n 2, 1) := by decide +kernel
theorem dX11_pay_104 : decode cX11_pay 104 = .ok (.invokevirtual 256, 3) := by decide +kernel
theorem dX11_pay_107 : decode cX11_pay 107 = .ok (.goto 6, 3) := by decide +kernel
theorem dX11_pay_110 : decode cX11_pay 110 = .ok (.iload 5, 2) := by decide +kernel
theorem dX11_pay_112 : decode cX11_pay 112 = .ok (.i2l, 1) := by decide +kernel
theorem dX11_pay_113 : decode cX11_pay 113 = .ok (.lreturn, 1) := by decide +kernel
set_option maxRecDepth 20000 in
theorem ggX11_bestPay_X0_hasPiece : GoodIn wsX11_bestPay wsX0_hasPiece := goodIn_r _ [7, 8, 9, 10, 11, 102, 103, 104, 105, 106, 107, 108, 109, 110, 111, 112, 113, 114, 115, 116, 117, 118] (by decide +kernel) (by decide +kernel)
set_option maxRecDepth 20000 in
theorem gX11_bestPay_X0_hasPiece : GoodIn wsX11_bestPay (wsV RX11 119 RX0 yX0_hasPiece wsX0_hasPiece) := goodIn_app (goodIn_of _ (by decide +kernel)) ggX11_bestPay_X0_hasPiece
set_option maxRecDepth 20000 in
theorem ggX11_bestPay_X11_within : GoodIn wsX11_bestPay wsX11_within := goodIn_r _ [11] (by decide +kernel) (by decide +kernel)
set_option maxRecDepth 20000 in
theorem gX11_bestPay_X11_within : GoodIn wsX11_bestPay (va_wsS RX11 88 yX11_within wsX11_within) := goodIn_app (goodIn_of _ (by decide +kernel)) ggX11_bestPay_X11_within
set_option maxRecDepth 20000 in
theorem ggX11_bestPay_X7_payFor : GoodIn wsX11_bestPay wsX7_payFor := goodIn_r _ [17, 18, 19, 20, 16, 21, 22, 23, 24, 25, 26, 27, 28, 29, 30, 6, 31, 32, 33, 10, 34, 35, 36, 37, 38, 39, 40, 41, 42, 43, 44, 45, 46, 47, 48, 49, 50, 51, 52, 53, 54, 55, 56, 57, 58, 59, 60, 61, 62, 63, 64, 65, 66, 67, 68, 69, 70, 71, 72, 73, 74, 75, 76, 77, 78, 79, 80, 81, 82, 83, 84, 85, 86, 87, 88, 89, 119, 102, 103, 104, 105, 106, 107, 108, 109, 110, 111, 112, 113, 114, 115, 116, 117, 118] (by decide +kernel) (by decide +kernel)
set_option maxRecDepth 20000 in
theorem gX11_bestPay_X7_payFor : GoodIn wsX11_bestPay (wsV RX11 259 RX7 yX7_payFor wsX7_payFor) := goodIn_app (goodIn_of _ (by decide +kernel)) ggX11_bestPay_X7_payFor
theorem dX11_bestPay_0 : decode cX11_bestPay 0 = .ok (.aload_n 0, 1) := by decide +kernel
theorem dX11_bestPay_1 : decode cX11_bestPay 1 = .ok (.getfield 19, 3) := by decide +kernel
theorem dX11_bestPay_4 : decode cX11_bestPay 4 = .ok (.iload_n 1, 1) := by decide +kernel
theorem dX11_bestPay_5 : decode cX11_bestPay 5 = .ok (.invokevirtual 119, 3) := by decide +kernel
theorem dX11_bestPay_8 : decode cX11_bestPay 8 = .ok (.ifCond .eq 25, 3) := by decide +kernel
theorem dX11_bestPay_11 : decode cX11_bestPay 11 = .ok (.iload_n 2, 1) := by decide +kernel
theorem dX11_bestPay_12 : decode cX11_bestPay 12 = .ok (.iconst 0, 1) := by decide +kernel
theorem dX11_bestPay_13 : decode cX11_bestPay 13 = .ok (.bipush 99, 2) := by decide +kernel
theorem dX11_bestPay_15 : decode cX11_bestPay 15 = .ok (.invokestatic 88, 3) := by decide +kernel
theorem dX11_bestPay_18 : decode cX11_bestPay 18 = .ok (.ifCond .eq 15, 3) := by decide +kernel
theorem dX11_bestPay_21 : decode cX11_bestPay 21 = .ok (.aload_n 0, 1) := by decide +kernel
theorem dX11_bestPay_22 : decode cX11_bestPay 22 = .ok (.getfield 84, 3) := by decide +kernel
theorem dX11_bestPay_25 : decode cX11_bestPay 25 = .ok (.iload_n 1, 1) := by decide +kernel
theorem dX11_bestPay_26 : decode cX11_bestPay 26 = .ok (.iload_n 2, 1) := by decide +kernel
theorem dX11_bestPay_27 : decode cX11_bestPay 27 = .ok (.invokevirtual 259, 3) := by decide +kernel
theorem dX11_bestPay_30 : decode cX11_bestPay 30 = .ok (.goto 4, 3) := by decide +kernel
theorem dX11_bestPay_33 : decode cX11_bestPay 33 = .ok (.iconst (-1), 1) := by decide +kernel
theorem dX11_bestPay_34 : decode cX11_bestPay 34 = .ok (.ireturn, 1) := by decide +kernel
set_option maxRecDepth 20000 in
theorem ggX11_log_X0_isState : GoodIn wsX11_log wsX0_isState := goodIn_r _ [7, 8, 9, 10, 6, 11, 12, 13, 14, 15, 16, 17, 18, 19, 20, 21, 22, 71, 72, 73, 74, 75, 76, 77, 78, 79, 80, 81, 82, 83, 84, 85, 86, 87] (by decide +kernel) (by decide +kernel)
set_option maxRecDepth 20000 in
theorem gX11_log_X0_isState : GoodIn wsX11_log (wsV RX11 158 RX0 yX0_isState wsX0_isState) := goodIn_app (goodIn_of _ (by decide +kernel)) ggX11_log_X0_isState
set_option maxRecDepth 20000 in
theorem ggX11_log_X11_within : GoodIn wsX11_log wsX11_within := goodIn_r _ [15] (by decide +kernel) (by decide +kernel)
set_option maxRecDepth 20000 in
theorem gX11_log_X11_within : GoodIn wsX11_log (va_wsS RX11 88 yX11_within wsX11_within) := goodIn_app (goodIn_of _ (by decide +kernel)) ggX11_log_X11_within
set_option maxRecDepth 20000 in
theorem ggX11_log_X0_isPass : GoodIn wsX11_log wsX0_isPass := goodIn_r _ [27, 28, 14, 29, 30, 31, 32, 33, 34, 6, 35, 36, 13, 15, 37, 38, 39, 40, 41, 42, 43, 21, 22, 71, 72, 73, 74, 75, 76, 77, 78, 79, 80, 81, 82, 83, 84, 85, 86, 87] (by decide +kernel) (by decide +kernel)
set_option maxRecDepth 20000 in
theorem gX11_log_X0_isPass : GoodIn wsX11_log (wsV RX11 262 RX0 yX0_isPass wsX0_isPass) := goodIn_app (goodIn_of _ (by decide +kernel)) ggX11_log_X0_isPass
set_option maxRecDepth 20000 in
theorem ggX11_log_X11_speedOf : GoodIn wsX11_log wsX11_speedOf := goodIn_r _ [31] (by decide +kernel) (by decide +kernel)
set_option maxRecDepth 20000 in
theorem gX11_log_X11_speedOf : GoodIn wsX11_log (va_wsS RX11 265 yX11_speedOf wsX11_speedOf) := goodIn_app (goodIn_of _ (by decide +kernel)) ggX11_log_X11_speedOf
set_option maxRecDepth 20000 in
theorem ggX11_log_X1_note : GoodIn wsX11_log wsX1_note := goodIn_r _ [49, 50, 51, 52, 13, 14, 15, 65, 66, 67, 68, 69, 70] (by decide +kernel) (by decide +kernel)
set_option maxRecDepth 20000 in
theorem gX11_log_X1_note : GoodIn wsX11_log (wsV RX11 268 RX1 yX1_note wsX1_note) := goodIn_app (goodIn_of _ (by decide +kernel)) ggX11_log_X1_note
theorem dX11_log_0 : decode cX11_log 0 = .ok (.aload_n 0, 1) := by decide +kernel
theorem dX11_log_1 : decode cX11_log 1 = .ok (.getfield 19, 3) := by decide +kernel
theorem dX11_log_4 : decode cX11_log 4 = .ok (.iload_n 1, 1) := by decide +kernel
theorem dX11_log_5 : decode cX11_log 5 = .ok (.iload_n 2, 1) := by decide +kernel
theorem dX11_log_6 : decode cX11_log 6 = .ok (.iload_n 3, 1) := by decide +kernel
theorem dX11_log_7 : decode cX11_log 7 = .ok (.invokevirtual 158, 3) := by decide +kernel
theorem dX11_log_10 : decode cX11_log 10 = .ok (.ifCond .eq 27, 3) := by decide +kernel
theorem dX11_log_13 : decode cX11_log 13 = .ok (.iload 4, 2) := by decide +kernel
theorem dX11_log_15 : decode cX11_log 15 = .ok (.iconst 0, 1) := by decide +kernel
theorem dX11_log_16 : decode cX11_log 16 = .ok (.bipush 47, 2) := by decide +kernel
theorem dX11_log_18 : decode cX11_log 18 = .ok (.invokestatic 88, 3) := by decide +kernel
theorem dX11_log_21 : decode cX11_log 21 = .ok (.ifCond .eq 16, 3) := by decide +kernel
theorem dX11_log_24 : decode cX11_log 24 = .ok (.aload_n 0, 1) := by decide +kernel
theorem dX11_log_25 : decode cX11_log 25 = .ok (.getfield 19, 3) := by decide +kernel
theorem dX11_log_28 : decode cX11_log 28 = .ok (.iload 4, 2) := by decide +kernel
theorem dX11_log_30 : decode cX11_log 30 = .ok (.iload_n 2, 1) := by decide +kernel
theorem dX11_log_31 : decode cX11_log 31 = .ok (.invokevirtual 262, 3) := by decide +kernel
theorem dX11_log_34 : decode cX11_log 34 = .ok (.ifCond .ne 5, 3) := by decide +kernel
theorem dX11_log_37 : decode cX11_log 37 = .ok (.iconst (-1), 1) := by decide +kernel
theorem dX11_log_38 : decode cX11_log 38 = .ok (.ireturn, 1) := by decide +kernel
theorem dX11_log_39 : decode cX11_log 39 = .ok (.aload_n 0, 1) := by decide +kernel
theorem dX11_log_40 : decode cX11_log 40 = .ok (.getfield 29, 3) := by decide +kernel
theorem dX11_log_43 : decode cX11_log 43 = .ok (.iload_n 3, 1) := by decide +kernel
theorem dX11_log_44 : decode cX11_log 44 = .ok (.iload 4, 2) := by decide +kernel
theorem dX11_log_46 : decode cX11_log 46 = .ok (.invokestatic 265, 3) := by decide +kernel
theorem dX11_log_49 : decode cX11_log 49 = .ok (.invokevirtual 268, 3) := by decide +kernel
theorem dX11_log_52 : decode cX11_log 52 = .ok (.ifCond .eq 13, 3) := by decide +kernel
theorem dX11_log_55 : decode cX11_log 55 = .ok (.aload_n 0, 1) := by decide +kernel
theorem dX11_log_56 : decode cX11_log 56 = .ok (.getfield 29, 3) := by decide +kernel
theorem dX11_log_59 : decode cX11_log 59 = .ok (.getfield 271, 3) := by decide +kernel
theorem dX11_log_62 : decode cX11_log 62 = .ok (.goto 5, 3) := by decide +kernel
theorem dX11_log_65 : decode cX11_log 65 = .ok (.bipush (-3), 2) := by decide +kernel
theorem dX11_log_67 : decode cX11_log 67 = .ok (.ireturn, 1) := by decide +kernel
theorem dX11_noLog_0 : decode cX11_noLog 0 = .ok (.aload_n 0, 1) := by decide +kernel
theorem dX11_noLog_1 : decode cX11_noLog 1 = .ok (.getfield 29, 3) := by decide +kernel
theorem dX11_noLog_4 : decode cX11_noLog 4 = .ok (.getfield 271, 3) := by decide +kernel
theorem dX11_noLog_7 : decode cX11_noLog 7 = .ok (.istore_n 1, 1) := by decide +kernel
theorem dX11_noLog_8 : decode cX11_noLog 8 = .ok (.aload_n 0, 1) := by decide +kernel
theorem dX11_noLog_9 : decode cX11_noLog 9 = .ok (.getfield 29, 3) := by decide +kernel
theorem dX11_noLog_12 : decode cX11_noLog 12 = .ok (.iconst 0, 1) := by decide +kernel
theorem dX11_noLog_13 : decode cX11_noLog 13 = .ok (.putfield 271, 3) := by decide +kernel
theorem dX11_noLog_16 : decode cX11_noLog 16 = .ok (.iload_n 1, 1) := by decide +kernel
theorem dX11_noLog_17 : decode cX11_noLog 17 = .ok (.ireturn, 1) := by decide +kernel
set_option maxRecDepth 20000 in
theorem ggX11_off_X0_hasSpeed : GoodIn wsX11_off wsX0_hasSpeed := goodIn_r _ [7, 8, 9, 10, 11, 33, 34, 35, 36, 37, 38, 39, 40, 41, 42, 43, 44, 45, 46, 47, 48, 49] (by decide +kernel) (by decide +kernel)
set_option maxRecDepth 20000 in
theorem gX11_off_X0_hasSpeed : GoodIn wsX11_off (wsV RX11 123 RX0 yX0_hasSpeed wsX0_hasSpeed) := goodIn_app (goodIn_of _ (by decide +kernel)) ggX11_off_X0_hasSpeed
set_option maxRecDepth 20000 in
theorem ggX11_off_X11_within : GoodIn wsX11_off wsX11_within := goodIn_r _ [11] (by decide +kernel) (by decide +kernel)
set_option maxRecDepth 20000 in
theorem gX11_off_X11_within : GoodIn wsX11_off (va_wsS RX11 88 yX11_within wsX11_within) := goodIn_app (goodIn_of _ (by decide +kernel)) ggX11_off_X11_within
set_option maxRecDepth 20000 in
theorem ggX11_off_X1_offBy : GoodIn wsX11_off wsX1_offBy := goodIn_r _ [17, 18, 19, 20, 50, 51, 52, 53, 54, 55] (by decide +kernel) (by decide +kernel)
set_option maxRecDepth 20000 in
theorem gX11_off_X1_offBy : GoodIn wsX11_off (wsV RX11 274 RX1 yX1_offBy wsX1_offBy) := goodIn_app (goodIn_of _ (by decide +kernel)) ggX11_off_X1_offBy
theorem dX11_off_0 : decode cX11_off 0 = .ok (.aload_n 0, 1) := by decide +kernel
theorem dX11_off_1 : decode cX11_off 1 = .ok (.getfield 19, 3) := by decide +kernel
theorem dX11_off_4 : decode cX11_off 4 = .ok (.iload_n 1, 1) := by decide +kernel
theorem dX11_off_5 : decode cX11_off 5 = .ok (.invokevirtual 123, 3) := by decide +kernel
theorem dX11_off_8 : decode cX11_off 8 = .ok (.ifCond .eq 24, 3) := by decide +kernel
theorem dX11_off_11 : decode cX11_off 11 = .ok (.aload_n 0, 1) := by decide +kernel
theorem dX11_off_12 : decode cX11_off 12 = .ok (.getfield 19, 3) := by decide +kernel
theorem dX11_off_15 : decode cX11_off 15 = .ok (.iload_n 3, 1) := by decide +kernel
theorem dX11_off_16 : decode cX11_off 16 = .ok (.invokevirtual 123, 3) := by decide +kernel
theorem dX11_off_19 : decode cX11_off 19 = .ok (.ifCond .eq 13, 3) := by decide +kernel
theorem dX11_off_22 : decode cX11_off 22 = .ok (.iload_n 2, 1) := by decide +kernel
theorem dX11_off_23 : decode cX11_off 23 = .ok (.iconst 0, 1) := by decide +kernel
theorem dX11_off_24 : decode cX11_off 24 = .ok (.bipush 100, 2) := by decide +kernel
theorem dX11_off_26 : decode cX11_off 26 = .ok (.invokestatic 88, 3) := by decide +kernel
theorem dX11_off_29 : decode cX11_off 29 = .ok (.ifCond .ne 5, 3) := by decide +kernel
theorem dX11_off_32 : decode cX11_off 32 = .ok (.iconst (-1), 1) := by decide +kernel
theorem dX11_off_33 : decode cX11_off 33 = .ok (.ireturn, 1) := by decide +kernel
theorem dX11_off_34 : decode cX11_off 34 = .ok (.aload_n 0, 1) := by decide +kernel
theorem dX11_off_35 : decode cX11_off 35 = .ok (.getfield 29, 3) := by decide +kernel
theorem dX11_off_38 : decode cX11_off 38 = .ok (.iload_n 1, 1) := by decide +kernel
theorem dX11_off_39 : decode cX11_off 39 = .ok (.iload_n 2, 1) := by decide +kernel
theorem dX11_off_40 : decode cX11_off 40 = .ok (.iload_n 3, 1) := by decide +kernel
theorem dX11_off_41 : decode cX11_off 41 = .ok (.invokevirtual 274, 3) := by decide +kernel
theorem dX11_off_44 : decode cX11_off 44 = .ok (.ireturn, 1) := by decide +kernel
set_option maxRecDepth 20000 in
theorem ggX11_plainest_X11_within : GoodIn wsX11_plainest wsX11_within := goodIn_r _ [6] (by decide +kernel) (by decide +kernel)
set_option maxRecDepth 20000 in
theorem gX11_plainest_X11_within : GoodIn wsX11_plainest (va_wsS RX11 88 yX11_within wsX11_within) := goodIn_app (goodIn_of _ (by decide +kernel)) ggX11_plainest_X11_within
set_option maxRecDepth 20000 in
theorem ggX11_plainest_X1_plainestRule : GoodIn wsX11_plainest wsX1_plainestRule := goodIn_r _ [11, 12, 13, 14, 15, 16, 17, 18, 10, 19, 20, 21, 22, 23, 24, 25, 26, 56, 57, 58, 59, 60, 61] (by decide +kernel) (by decide +kernel)
set_option maxRecDepth 20000 in
theorem gX11_plainest_X1_plainestRule : GoodIn wsX11_plainest (wsV RX11 277 RX1 yX1_plainestRule wsX1_plainestRule) := goodIn_app (goodIn_of _ (by decide +kernel)) ggX11_plainest_X1_plainestRule
theorem dX11_plainest_0 : decode cX11_plainest 0 = .ok (.iload_n 1, 1) := by decide +kernel
theorem dX11_plainest_1 : decode cX11_plainest 1 = .ok (.iconst 0, 1) := by decide +kernel
theorem dX11_plainest_2 : decode cX11_plainest 2 = .ok (.iconst 3, 1) := by decide +kernel
theorem dX11_plainest_3 : decode cX11_plainest 3 = .ok (.invokestatic 88, 3) := by decide +kernel
theorem dX11_plainest_6 : decode cX11_plainest 6 = .ok (.ifCond .eq 21, 3) := by decide +kernel
theorem dX11_plainest_9 : decode cX11_plainest 9 = .ok (.aload_n 0, 1) := by decide +kernel
theorem dX11_plainest_10 : decode cX11_plainest 10 = .ok (.getfield 29, 3) := by decide +kernel
theorem dX11_plainest_13 : decode cX11_plainest 13 = .ok (.aload_n 0, 1) := by decide +kernel
theorem dX11_plainest_14 : decode cX11_plainest 14 = .ok (.getfield 19, 3) := by decide +kernel
theorem dX11_plainest_17 : decode cX11_plainest 17 = .ok (.getfield 104, 3) := by decide +kernel
theorem dX11_plainest_20 : decode cX11_plainest 20 = .ok (.iload_n 1, 1) := by decide +kernel
theorem dX11_plainest_21 : decode cX11_plainest 21 = .ok (.invokevirtual 277, 3) := by decide +kernel
theorem dX11_plainest_24 : decode cX11_plainest 24 = .ok (.goto 4, 3) := by decide +kernel
theorem dX11_plainest_27 : decode cX11_plainest 27 = .ok (.iconst (-1), 1) := by decide +kernel
theorem dX11_plainest_28 : decode cX11_plainest 28 = .ok (.ireturn, 1) := by decide +kernel
set_option maxRecDepth 20000 in
theorem ggX11_run_X11_isHandIn : GoodIn wsX11_run wsX11_isHandIn := goodIn_r _ [8, 9, 10, 11, 7, 12, 13, 14, 15, 16, 17, 18, 282, 283, 284, 285, 286, 287, 288, 289, 290, 291, 292, 293, 294, 295, 296, 297, 298, 299, 300, 301, 302, 303, 304, 305, 306, 307, 308, 309, 310] (by decide +kernel) (by decide +kernel)
set_option maxRecDepth 20000 in
theorem gX11_run_X11_isHandIn : GoodIn wsX11_run (wsV RX11 155 RX11 yX11_isHandIn wsX11_isHandIn) := goodIn_app (goodIn_of _ (by decide +kernel)) ggX11_run_X11_isHandIn
set_option maxRecDepth 20000 in
theorem ggX11_run_X11_within : GoodIn wsX11_run wsX11_within := goodIn_r _ [12] (by decide +kernel) (by decide +kernel)
set_option maxRecDepth 20000 in
theorem gX11_run_X11_within : GoodIn wsX11_run (va_wsS RX11 88 yX11_within wsX11_within) := goodIn_app (goodIn_of _ (by decide +kernel)) ggX11_run_X11_within
set_option maxRecDepth 20000 in
theorem ggX11_run_X2_prepare : GoodIn wsX11_run wsX2_prepare := goodIn_r _ [23, 24, 25, 26, 27, 28, 22, 29, 30, 11, 7, 12, 31, 32, 33, 34, 35, 36, 37, 38, 39, 40, 41, 42, 43, 44, 45, 46, 47, 48, 49, 50, 51, 52, 53, 54, 55, 56, 16, 57, 58, 59, 60, 61, 62, 63, 64, 65, 66, 67, 68, 69, 70, 71, 72, 73, 74, 75, 76, 77, 78, 79, 80, 81, 82, 83, 84, 85, 86, 87, 88, 89, 90, 91, 92, 93, 94, 95, 96, 97, 98, 99, 100, 101, 102, 103, 104, 105, 106, 107, 108, 109, 110, 111, 112, 113, 114, 115, 116, 117, 118, 119, 120, 121, 122, 123, 124, 125, 126, 127, 128, 129, 130, 131, 132, 133, 134, 135, 136, 137, 138, 139, 140, 141, 142, 143, 144, 145, 146, 147, 148, 149, 150, 151, 152, 153, 154, 155, 156, 157, 158, 159, 160, 161, 162, 163, 164, 165, 166, 167, 168, 169, 170, 171, 172, 173, 174, 175, 176, 177, 178, 179, 180, 181, 182, 183, 184, 185, 186, 187, 188, 311, 312, 313, 314, 315, 316, 317, 318, 319, 320, 321, 294, 295, 296, 297, 298, 299, 300, 301, 302, 303, 304, 305, 306, 307, 308, 309, 310] (by decide +kernel) (by decide +kernel)
set_option maxRecDepth 20000 in
theorem gX11_run_X2_prepare : GoodIn wsX11_run (wsV RX11 161 RX2 yX2_prepare wsX2_prepare) := goodIn_app (goodIn_of _ (by decide +kernel)) ggX11_run_X2_prepare
set_option maxRecDepth 20000 in
theorem ggX11_run_X9_go : GoodIn wsX11_run wsX9_go := goodIn_r _ [193, 194, 195, 196, 197, 198, 199, 200, 201, 192, 202, 203, 204, 205, 206, 207, 208, 79, 80, 16, 81, 82, 83, 7, 84, 209, 134, 135, 136, 137, 11, 12, 210, 211, 212, 22, 213, 214, 215, 216, 217, 218, 219, 220, 221, 222, 223, 107, 106, 108, 224, 225, 226, 227, 228, 161, 162, 163, 164, 229, 230, 231, 232, 233, 234, 235, 236, 237, 238, 239, 240, 241, 242, 243, 244, 101, 114, 184, 185, 186, 187, 188, 245, 246, 247, 34, 248, 42, 143, 144, 145, 26, 27, 28, 29, 30, 249, 250, 251, 252, 253, 55, 56, 57, 58, 254, 255, 256, 257, 258, 259, 260, 261, 262, 263, 264, 265, 93, 94, 95, 96, 266, 110, 111, 112, 113, 115, 267, 268, 269, 270, 271, 272, 273, 274, 152, 153, 154, 155, 275, 121, 122, 123, 276, 322, 323, 324, 325, 326, 327, 328, 329, 330, 331, 294, 295, 296, 297, 298, 299, 300, 301, 302, 303, 304, 305, 306, 307, 308, 309, 310, 311, 312, 313, 314, 332, 333, 334, 335, 336, 337, 315, 316, 317, 318, 319, 320, 321] (by decide +kernel) (by decide +kernel)
set_option maxRecDepth 20000 in
theorem gX11_run_X9_go : GoodIn wsX11_run (wsV RX11 280 RX9 yX9_go wsX9_go) := goodIn_app (goodIn_of _ (by decide +kernel)) ggX11_run_X9_go
set_option maxRecDepth 20000 in
theorem ggX11_run_X9_told : GoodIn wsX11_run wsX9_told := goodIn_r _ [280, 204, 194, 207, 205, 206, 281, 66, 67, 16, 68, 69, 70, 322, 323, 324, 325, 326, 327, 328, 329, 330, 331, 294, 295, 296, 297, 298, 299, 300, 301, 302, 303, 304, 305, 306, 307, 308, 309, 310] (by decide +kernel) (by decide +kernel)
set_option maxRecDepth 20000 in
theorem gX11_run_X9_told : GoodIn wsX11_run (wsV RX11 284 RX9 yX9_told wsX9_told) := goodIn_app (goodIn_of _ (by decide +kernel)) ggX11_run_X9_told
theorem dX11_run_0 : decode cX11_run 0 = .ok (.aload_n 0, 1) := by decide +kernel
theorem dX11_run_1 : decode cX11_run 1 = .ok (.iload_n 1, 1) := by decide +kernel
theorem dX11_run_2 : decode cX11_run 2 = .ok (.iload_n 2, 1) := by decide +kernel
theorem dX11_run_3 : decode cX11_run 3 = .ok (.invokevirtual 155, 3) := by decide +kernel
theorem dX11_run_6 : decode cX11_run 6 = .ok (.ifCond .eq 24, 3) := by decide +kernel
theorem dX11_run_9 : decode cX11_run 9 = .ok (.iload_n 3, 1) := by decide +kernel
theorem dX11_run_10 : decode cX11_run 10 = .ok (.iconst 0, 1) := by decide +kernel
theorem dX11_run_11 : decode cX11_run 11 = .ok (.sipush 9999, 3) := by decide +kernel
theorem dX11_run_14 : decode cX11_run 14 = .ok (.invokestatic 88, 3) := by decide +kernel
theorem dX11_run_17 : decode cX11_run 17 = .ok (.ifCond .eq 13, 3) := by decide +kernel
theorem dX11_run_20 : decode cX11_run 20 = .ok (.iload 4, 2) := by decide +kernel
theorem dX11_run_22 : decode cX11_run 22 = .ok (.iconst 0, 1) := by decide +kernel
theorem dX11_run_23 : decode cX11_run 23 = .ok (.iconst 4, 1) := by decide +kernel
theorem dX11_run_24 : decode cX11_run 24 = .ok (.invokestatic 88, 3) := by decide +kernel
theorem dX11_run_27 : decode cX11_run 27 = .ok (.ifCond .ne 7, 3) := by decide +kernel
theorem dX11_run_30 : decode cX11_run 30 = .ok (.ldc2_w 185, 3) := by decide +kernel
theorem dX11_run_33 : decode cX11_run 33 = .ok (.lreturn, 1) := by decide +kernel
theorem dX11_run_34 : decode cX11_run 34 = .ok (.aload_n 0, 1) := by decide +kernel
theorem dX11_run_35 : decode cX11_run 35 = .ok (.getfield 52, 3) := by decide +kernel
theorem dX11_run_38 : decode cX11_run 38 = .ok (.iload_n 1, 1) := by decide +kernel
theorem dX11_run_39 : decode cX11_run 39 = .ok (.iload_n 2, 1) := by decide +kernel
theorem dX11_run_40 : decode cX11_run 40 = .ok (.invokevirtual 161, 3) := by decide +kernel
theorem dX11_run_43 : decode cX11_run 43 = .ok (.aload_n 0, 1) := by decide +kernel
theorem dX11_run_44 : decode cX11_run 44 = .ok (.getfield 68, 3) := by decide +kernel
theorem dX11_run_47 : decode cX11_run 47 = .ok (.iload_n 1, 1) := by decide +kernel
theorem dX11_run_48 : decode cX11_run 48 = .ok (.iload_n 2, 1) := by decide +kernel
theorem dX11_run_49 : decode cX11_run 49 = .ok (.iload_n 3, 1) := by decide +kernel
theorem dX11_run_50 : decode cX11_run 50 = .ok (.invokevirtual 280, 3) := by decide +kernel
theorem dX11_run_53 : decode cX11_run 53 = .ok (.aload_n 0, 1) := by decide +kernel
theorem dX11_run_54 : decode cX11_run 54 = .ok (.getfield 68, 3) := by decide +kernel
theorem dX11_run_57 : decode cX11_run 57 = .ok (.iload 4, 2) := by decide +kernel
theorem dX11_run_59 : decode cX11_run 59 = .ok (.invokevirtual 284, 3) := by decide +kernel
theorem dX11_run_62 : decode cX11_run 62 = .ok (.lreturn, 1) := by decide +kernel
set_option maxRecDepth 20000 in
theorem ggX11_keep_X11_within : GoodIn wsX11_keep wsX11_within := goodIn_r _ [7] (by decide +kernel) (by decide +kernel)
set_option maxRecDepth 20000 in
theorem gX11_keep_X11_within : GoodIn wsX11_keep (va_wsS RX11 88 yX11_within wsX11_within) := goodIn_app (goodIn_of _ (by decide +kernel)) ggX11_keep_X11_within
set_option maxRecDepth 20000 in
theorem ggX11_keep_X1_copy : GoodIn wsX11_keep wsX1_copy := goodIn_r _ [12, 13, 14, 15, 16, 17, 18, 19, 20, 21, 22, 35, 36, 37, 38, 39, 40] (by decide +kernel) (by decide +kernel)
set_option maxRecDepth 20000 in
theorem gX11_keep_X1_copy : GoodIn wsX11_keep (wsV RX11 286 RX1 yX1_copy wsX1_copy) := goodIn_app (goodIn_of _ (by decide +kernel)) ggX11_keep_X1_copy
theorem dX11_keep_0 : decode cX11_keep 0 = .ok (.aload_n 0, 1) := by decide +kernel
theorem dX11_keep_1 : decode cX11_keep 1 = .ok (.getfield 116, 3) := by decide +kernel
theorem dX11_keep_4 : decode cX11_keep 4 = .ok (.iconst 0, 1) := by decide +kernel
theorem dX11_keep_5 : decode cX11_keep 5 = .ok (.aload_n 0, 1) := by decide +kernel
theorem dX11_keep_6 : decode cX11_keep 6 = .ok (.getfield 33, 3) := by decide +kernel
theorem dX11_keep_9 : decode cX11_keep 9 = .ok (.arraylength, 1) := by decide +kernel
theorem dX11_keep_10 : decode cX11_keep 10 = .ok (.iconst 1, 1) := by decide +kernel
theorem dX11_keep_11 : decode cX11_keep 11 = .ok (.isub, 1) := by decide +kernel
theorem dX11_keep_12 : decode cX11_keep 12 = .ok (.invokestatic 88, 3) := by decide +kernel
theorem dX11_keep_15 : decode cX11_keep 15 = .ok (.ifCond .ne 6, 3) := by decide +kernel
theorem dX11_keep_18 : decode cX11_keep 18 = .ok (.bipush (-3), 2) := by decide +kernel
theorem dX11_keep_20 : decode cX11_keep 20 = .ok (.ireturn, 1) := by decide +kernel
theorem dX11_keep_21 : decode cX11_keep 21 = .ok (.aload_n 0, 1) := by decide +kernel
theorem dX11_keep_22 : decode cX11_keep 22 = .ok (.getfield 33, 3) := by decide +kernel
theorem dX11_keep_25 : decode cX11_keep 25 = .ok (.aload_n 0, 1) := by decide +kernel
theorem dX11_keep_26 : decode cX11_keep 26 = .ok (.getfield 116, 3) := by decide +kernel
theorem dX11_keep_29 : decode cX11_keep 29 = .ok (.aaload, 1) := by decide +kernel
theorem dX11_keep_30 : decode cX11_keep 30 = .ok (.aload_n 0, 1) := by decide +kernel
theorem dX11_keep_31 : decode cX11_keep 31 = .ok (.getfield 29, 3) := by decide +kernel
theorem dX11_keep_34 : decode cX11_keep 34 = .ok (.invokevirtual 286, 3) := by decide +kernel
theorem dX11_keep_37 : decode cX11_keep 37 = .ok (.aload_n 0, 1) := by decide +kernel
theorem dX11_keep_38 : decode cX11_keep 38 = .ok (.dup, 1) := by decide +kernel
theorem dX11_keep_39 : decode cX11_keep 39 = .ok (.getfield 116, 3) := by decide +kernel
theorem dX11_keep_42 : decode cX11_keep 42 = .ok (.iconst 1, 1) := by decide +kernel
theorem dX11_keep_43 : decode cX11_keep 43 = .ok (.iadd, 1) := by decide +kernel
theorem dX11_keep_44 : decode cX11_keep 44 = .ok (.putfield 116, 3) := by decide +kernel
theorem dX11_keep_47 : decode cX11_keep 47 = .ok (.aload_n 0, 1) := by decide +kernel
theorem dX11_keep_48 : decode cX11_keep 48 = .ok (.getfield 116, 3) := by decide +kernel
theorem dX11_keep_51 : decode cX11_keep 51 = .ok (.ireturn, 1) := by decide +kernel
set_option maxRecDepth 20000 in
theorem ggX11_back_X11_within : GoodIn wsX11_back wsX11_within := goodIn_r _ [7] (by decide +kernel) (by decide +kernel)
set_option maxRecDepth 20000 in
theorem gX11_back_X11_within : GoodIn wsX11_back (va_wsS RX11 88 yX11_within wsX11_within) := goodIn_app (goodIn_of _ (by decide +kernel)) ggX11_back_X11_within
set_option maxRecDepth 20000 in
theorem ggX11_back_X1_copy : GoodIn wsX11_back wsX1_copy := goodIn_r _ [12, 13, 14, 15, 16, 17, 18, 19, 20, 21, 22, 35, 36, 37, 38, 39, 40] (by decide +kernel) (by decide +kernel)
set_option maxRecDepth 20000 in
theorem gX11_back_X1_copy : GoodIn wsX11_back (wsV RX11 286 RX1 yX1_copy wsX1_copy) := goodIn_app (goodIn_of _ (by decide +kernel)) ggX11_back_X1_copy
theorem dX11_back_0 : decode cX11_back 0 = .ok (.aload_n 0, 1) := by decide +kernel
theorem dX11_back_1 : decode cX11_back 1 = .ok (.getfield 116, 3) := by decide +kernel
theorem dX11_back_4 : decode cX11_back 4 = .ok (.iconst 1, 1) := by decide +kernel
theorem dX11_back_5 : decode cX11_back 5 = .ok (.aload_n 0, 1) := by decide +kernel
theorem dX11_back_6 : decode cX11_back 6 = .ok (.getfield 33, 3) := by decide +kernel
theorem dX11_back_9 : decode cX11_back 9 = .ok (.arraylength, 1) := by decide +kernel
theorem dX11_back_10 : decode cX11_back 10 = .ok (.invokestatic 88, 3) := by decide +kernel
theorem dX11_back_13 : decode cX11_back 13 = .ok (.ifCond .ne 6, 3) := by decide +kernel
theorem dX11_back_16 : decode cX11_back 16 = .ok (.bipush (-2), 2) := by decide +kernel
theorem dX11_back_18 : decode cX11_back 18 = .ok (.ireturn, 1) := by decide +kernel
theorem dX11_back_19 : decode cX11_back 19 = .ok (.aload_n 0, 1) := by decide +kernel
theorem dX11_back_20 : decode cX11_back 20 = .ok (.dup, 1) := by decide +kernel
theorem dX11_back_21 : decode cX11_back 21 = .ok (.getfield 116, 3) := by decide +kernel
theorem dX11_back_24 : decode cX11_back 24 = .ok (.iconst 1, 1) := by decide +kernel
theorem dX11_back_25 : decode cX11_back 25 = .ok (.isub, 1) := by decide +kernel
theorem dX11_back_26 : decode cX11_back 26 = .ok (.putfield 116, 3) := by decide +kernel
theorem dX11_back_29 : decode cX11_back 29 = .ok (.aload_n 0, 1) := by decide +kernel
theorem dX11_back_30 : decode cX11_back 30 = .ok (.getfield 29, 3) := by decide +kernel
theorem dX11_back_33 : decode cX11_back 33 = .ok (.aload_n 0, 1) := by decide +kernel
theorem dX11_back_34 : decode cX11_back 34 = .ok (.getfield 33, 3) := by decide +kernel
theorem dX11_back_37 : decode cX11_back 37 = .ok (.aload_n 0, 1) := by decide +kernel
theorem dX11_back_38 : decode cX11_back 38 = .ok (.getfield 116, 3) := by decide +kernel
theorem dX11_back_41 : decode cX11_back 41 = .ok (.aaload, 1) := by decide +kernel
theorem dX11_back_42 : decode cX11_back 42 = .ok (.invokevirtual 286, 3) := by decide +kernel
theorem dX11_back_45 : decode cX11_back 45 = .ok (.aload_n 0, 1) := by decide +kernel
theorem dX11_back_46 : decode cX11_back 46 = .ok (.getfield 116, 3) := by decide +kernel
theorem dX11_back_49 : decode cX11_back 49 = .ok (.ireturn, 1) := by decide +kernel
theorem dX11_count_0 : decode cX11_count 0 = .ok (.iload_n 1, 1) := by decide +kernel
theorem dX11_count_1 : decode cX11_count 1 = .ok (.tableswitch 84 0 5 #[39, 47, 55, 63, 71, 79], 39) := by decide +kernel
theorem dX11_count_40 : decode cX11_count 40 = .ok (.aload_n 0, 1) := by decide +kernel
theorem dX11_count_41 : decode cX11_count 41 = .ok (.getfield 19, 3) := by decide +kernel
theorem dX11_count_44 : decode cX11_count 44 = .ok (.getfield 104, 3) := by decide +kernel
theorem dX11_count_47 : decode cX11_count 47 = .ok (.ireturn, 1) := by decide +kernel
theorem dX11_count_48 : decode cX11_count 48 = .ok (.aload_n 0, 1) := by decide +kernel
theorem dX11_count_49 : decode cX11_count 49 = .ok (.getfield 19, 3) := by decide +kernel
theorem dX11_count_52 : decode cX11_count 52 = .ok (.getfield 107, 3) := by decide +kernel
theorem dX11_count_55 : decode cX11_count 55 = .ok (.ireturn, 1) := by decide +kernel
theorem dX11_count_56 : decode cX11_count 56 = .ok (.aload_n 0, 1) := by decide +kernel
theorem dX11_count_57 : decode cX11_count 57 = .ok (.getfield 19, 3) := by decide +kernel
theorem dX11_count_60 : decode cX11_count 60 = .ok (.getfield 211, 3) := by decide +kernel
theorem dX11_count_63 : decode cX11_count 63 = .ok (.ireturn, 1) := by decide +kernel
theorem dX11_count_64 : decode cX11_count 64 = .ok (.aload_n 0, 1) := by decide +kernel
theorem dX11_count_65 : decode cX11_count 65 = .ok (.getfield 12, 3) := by decide +kernel
theorem dX11_count_68 : decode cX11_count 68 = .ok (.getfield 96, 3) := by decide +kernel
theorem dX11_count_71 : decode cX11_count 71 = .ok (.ireturn, 1) := by decide +kernel
theorem dX11_count_72 : decode cX11_count 72 = .ok (.aload_n 0, 1) := by decide +kernel
theorem dX11_count_73 : decode cX11_count 73 = .ok (.getfield 29, 3) := by decide +kernel
theorem dX11_count_76 : decode cX11_count 76 = .ok (.getfield 271, 3) := by decide +kernel
theorem dX11_count_79 : decode cX11_count 79 = .ok (.ireturn, 1) := by decide +kernel
theorem dX11_count_80 : decode cX11_count 80 = .ok (.aload_n 0, 1) := by decide +kernel
theorem dX11_count_81 : decode cX11_count 81 = .ok (.getfield 116, 3) := by decide +kernel
theorem dX11_count_84 : decode cX11_count 84 = .ok (.ireturn, 1) := by decide +kernel
theorem dX11_count_85 : decode cX11_count 85 = .ok (.iconst (-1), 1) := by decide +kernel
theorem dX11_count_86 : decode cX11_count 86 = .ok (.ireturn, 1) := by decide +kernel
set_option maxRecDepth 20000 in
theorem ggX11_isHandIn_X11_within : GoodIn wsX11_isHandIn wsX11_within := goodIn_r _ [5] (by decide +kernel) (by decide +kernel)
set_option maxRecDepth 20000 in
theorem gX11_isHandIn_X11_within : GoodIn wsX11_isHandIn (va_wsS RX11 88 yX11_within wsX11_within) := goodIn_app (goodIn_of _ (by decide +kernel)) ggX11_isHandIn_X11_within
set_option maxRecDepth 20000 in
theorem ggX11_isHandIn_X0_hasSteel : GoodIn wsX11_isHandIn wsX0_hasSteel := goodIn_r _ [10, 11, 3, 4, 5, 24, 25, 26, 27, 28, 29, 30, 31, 32, 33, 34, 35, 36, 37, 38, 39, 40] (by decide +kernel) (by decide +kernel)
set_option maxRecDepth 20000 in
theorem gX11_isHandIn_X0_hasSteel : GoodIn wsX11_isHandIn (wsV RX11 126 RX0 yX0_hasSteel wsX0_hasSteel) := goodIn_app (goodIn_of _ (by decide +kernel)) ggX11_isHandIn_X0_hasSteel
theorem dX11_isHandIn_0 : decode cX11_isHandIn 0 = .ok (.iload_n 1, 1) := by decide +kernel
theorem dX11_isHandIn_1 : decode cX11_isHandIn 1 = .ok (.iconst 0, 1) := by decide +kernel
theorem dX11_isHandIn_2 : decode cX11_isHandIn 2 = .ok (.iconst 5, 1) := by decide +kernel
theorem dX11_isHandIn_3 : decode cX11_isHandIn 3 = .ok (.invokestatic 88, 3) := by decide +kernel
theorem dX11_isHandIn_6 : decode cX11_isHandIn 6 = .ok (.ifCond .eq 18, 3) := by decide +kernel
theorem dX11_isHandIn_9 : decode cX11_isHandIn 9 = .ok (.aload_n 0, 1) := by decide +kernel
theorem dX11_isHandIn_10 : decode cX11_isHandIn 10 = .ok (.getfield 19, 3) := by decide +kernel
theorem dX11_isHandIn_13 : decode cX11_isHandIn 13 = .ok (.iload_n 2, 1) := by decide +kernel
theorem dX11_isHandIn_14 : decode cX11_isHandIn 14 = .ok (.invokevirtual 126, 3) := by decide +kernel
theorem dX11_isHandIn_17 : decode cX11_isHandIn 17 = .ok (.ifCond .eq 7, 3) := by decide +kernel
theorem dX11_isHandIn_20 : decode cX11_isHandIn 20 = .ok (.iconst 1, 1) := by decide +kernel
theorem dX11_isHandIn_21 : decode cX11_isHandIn 21 = .ok (.goto 4, 3) := by decide +kernel
theorem dX11_isHandIn_24 : decode cX11_isHandIn 24 = .ok (.iconst 0, 1) := by decide +kernel
theorem dX11_isHandIn_25 : decode cX11_isHandIn 25 = .ok (.ireturn, 1) := by decide +kernel
theorem dX11_within_0 : decode cX11_within 0 = .ok (.iload_n 0, 1) := by decide +kernel
theorem dX11_within_1 : decode cX11_within 1 = .ok (.iload_n 1, 1) := by decide +kernel
theorem dX11_within_2 : decode cX11_within 2 = .ok (.if_icmp .lt 12, 3) := by decide +kernel
theorem dX11_within_5 : decode cX11_within 5 = .ok (.iload_n 0, 1) := by decide +kernel
theorem dX11_within_6 : decode cX11_within 6 = .ok (.iload_n 2, 1) := by decide +kernel
theorem dX11_within_7 : decode cX11_within 7 = .ok (.if_icmp .gt 7, 3) := by decide +kernel
theorem dX11_within_10 : decode cX11_within 10 = .ok (.iconst 1, 1) := by decide +kernel
theorem dX11_within_11 : decode cX11_within 11 = .ok (.goto 4, 3) := by decide +kernel
theorem dX11_within_14 : decode cX11_within 14 = .ok (.iconst 0, 1) := by decide +kernel
theorem dX11_within_15 : decode cX11_within 15 = .ok (.ireturn, 1) := by decide +kernel
theorem dX11_at_0 : decode cX11_at 0 = .ok (.iload_n 1, 1) := by decide +kernel
theorem dX11_at_1 : decode cX11_at 1 = .ok (.ifCond .lt 15, 3) := by decide +kernel
theorem dX11_at_4 : decode cX11_at 4 = .ok (.iload_n 1, 1) := by decide +kernel
theorem dX11_at_5 : decode cX11_at 5 = .ok (.aload_n 0, 1) := by decide +kernel
theorem dX11_at_6 : decode cX11_at 6 = .ok (.arraylength, 1) := by decide +kernel
theorem dX11_at_7 : decode cX11_at 7 = .ok (.if_icmp .ge 9, 3) := by decide +kernel
theorem dX11_at_10 : decode cX11_at 10 = .ok (.aload_n 0, 1) := by decide +kernel
theorem dX11_at_11 : decode cX11_at 11 = .ok (.iload_n 1, 1) := by decide +kernel
theorem dX11_at_12 : decode cX11_at 12 = .ok (.iaload, 1) := by decide +kernel
theorem dX11_at_13 : decode cX11_at 13 = .ok (.goto 4, 3) := by decide +kernel
theorem dX11_at_16 : decode cX11_at 16 = .ok (.iconst 0, 1) := by decide +kernel
theorem dX11_at_17 : decode cX11_at 17 = .ok (.ireturn, 1) := by decide +kernel
theorem dX11_speedOf_0 : decode cX11_speedOf 0 = .ok (.iload_n 0, 1) := by decide +kernel
theorem dX11_speedOf_1 : decode cX11_speedOf 1 = .ok (.bipush 8, 2) := by decide +kernel
theorem dX11_speedOf_3 : decode cX11_speedOf 3 = .ok (.idiv, 1) := by decide +kernel
theorem dX11_speedOf_4 : decode cX11_speedOf 4 = .ok (.ireturn, 1) := by decide +kernel
theorem dX11_depthOf_0 : decode cX11_depthOf 0 = .ok (.iload_n 0, 1) := by decide +kernel
theorem dX11_depthOf_1 : decode cX11_depthOf 1 = .ok (.bipush 8, 2) := by decide +kernel
theorem dX11_depthOf_3 : decode cX11_depthOf 3 = .ok (.irem, 1) := by decide +kernel
theorem dX11_depthOf_4 : decode cX11_depthOf 4 = .ok (.iconst 1, 1) := by decide +kernel
theorem dX11_depthOf_5 : decode cX11_depthOf 5 = .ok (.iadd, 1) := by decide +kernel
theorem dX11_depthOf_6 : decode cX11_depthOf 6 = .ok (.ireturn, 1) := by decide +kernel
set_option maxRecDepth 20000 in
theorem ggX12_init_X12_begins : GoodIn wsX12_init wsX12_begins := goodIn_r _ [36, 8, 10, 12, 14, 16, 46, 47, 48, 49, 50, 51, 52, 53, 54, 55, 56, 57, 58, 59, 60, 61, 62, 63, 64, 65, 66, 67, 68, 69, 70, 71, 72, 73, 74, 75, 76] (by decide +kernel) (by decide +kernel)
set_option maxRecDepth 20000 in
theorem gX12_init_X12_begins : GoodIn wsX12_init (wsV RX12 85 RX12 yX12_begins wsX12_begins) := goodIn_app (goodIn_of _ (by decide +kernel)) ggX12_init_X12_begins
set_option maxRecDepth 20000 in
theorem ggX12_init_X12_ends : GoodIn wsX12_init wsX12_ends := goodIn_r _ [40, 14, 15, 46, 47, 48, 49, 50, 51, 52, 53, 54, 55, 56, 57, 58, 59, 60, 61, 62, 63, 64, 65, 66, 67, 68, 69, 70, 71, 72, 73, 74, 75, 76] (by decide +kernel) (by decide +kernel)
set_option maxRecDepth 20000 in
theorem gX12_init_X12_ends : GoodIn wsX12_init (wsV RX12 89 RX12 yX12_ends wsX12_ends) := goodIn_app (goodIn_of _ (by decide +kernel)) ggX12_init_X12_ends
set_option maxRecDepth 20000 in
theorem ggX12_init_X12_handsBegin : GoodIn wsX12_init wsX12_handsBegin := goodIn_r _ [44, 17, 18, 45, 46, 47, 48, 49, 50, 51, 52, 53, 54, 55, 56, 57, 58, 59, 60, 61, 62, 63, 64, 65, 66, 67, 68, 69, 70, 71, 72, 73, 74, 75, 76] (by decide +kernel) (by decide +kernel)
set_option maxRecDepth 20000 in
theorem gX12_init_X12_handsBegin : GoodIn wsX12_init (wsV RX12 92 RX12 yX12_handsBegin wsX12_handsBegin) := goodIn_app (goodIn_of _ (by decide +kernel)) ggX12_init_X12_handsBegin
theorem dX12_init_0 : decode cX12_init 0 = .ok (.aload_n 0, 1) := by decide +kernel
theorem dX12_init_1 : decode cX12_init 1 = .ok (.invokespecial 1, 3) := by decide +kernel
theorem dX12_init_4 : decode cX12_init 4 = .ok (.aload_n 0, 1) := by decide +kernel
theorem dX12_init_5 : decode cX12_init 5 = .ok (.sipush 500, 3) := by decide +kernel
theorem dX12_init_8 : decode cX12_init 8 = .ok (.newarray .byte, 2) := by decide +kernel
theorem dX12_init_10 : decode cX12_init 10 = .ok (.putfield 7, 3) := by decide +kernel
theorem dX12_init_13 : decode cX12_init 13 = .ok (.aload_n 0, 1) := by decide +kernel
theorem dX12_init_14 : decode cX12_init 14 = .ok (.iconst 4, 1) := by decide +kernel
theorem dX12_init_15 : decode cX12_init 15 = .ok (.newarray .int, 2) := by decide +kernel
theorem dX12_init_17 : decode cX12_init 17 = .ok (.putfield 13, 3) := by decide +kernel
theorem dX12_init_20 : decode cX12_init 20 = .ok (.aload_n 0, 1) := by decide +kernel
theorem dX12_init_21 : decode cX12_init 21 = .ok (.iconst 2, 1) := by decide +kernel
theorem dX12_init_22 : decode cX12_init 22 = .ok (.newarray .int, 2) := by decide +kernel
theorem dX12_init_24 : decode cX12_init 24 = .ok (.putfield 17, 3) := by decide +kernel
theorem dX12_init_27 : decode cX12_init 27 = .ok (.aload_n 0, 1) := by decide +kernel
theorem dX12_init_28 : decode cX12_init 28 = .ok (.bipush 24, 2) := by decide +kernel
theorem dX12_init_30 : decode cX12_init 30 = .ok (.newarray .int, 2) := by decide +kernel
theorem dX12_init_32 : decode cX12_init 32 = .ok (.putfield 20, 3) := by decide +kernel
theorem dX12_init_35 : decode cX12_init 35 = .ok (.aload_n 0, 1) := by decide +kernel
theorem dX12_init_36 : decode cX12_init 36 = .ok (.iconst 2, 1) := by decide +kernel
theorem dX12_init_37 : decode cX12_init 37 = .ok (.newarray .int, 2) := by decide +kernel
theorem dX12_init_39 : decode cX12_init 39 = .ok (.putfield 23, 3) := by decide +kernel
theorem dX12_init_42 : decode cX12_init 42 = .ok (.aload_n 0, 1) := by decide +kernel
theorem dX12_init_43 : decode cX12_init 43 = .ok (.bipush 64, 2) := by decide +kernel
theorem dX12_init_45 : decode cX12_init 45 = .ok (.newarray .int, 2) := by decide +kernel
theorem dX12_init_47 : decode cX12_init 47 = .ok (.putfield 26, 3) := by decide +kernel
theorem dX12_init_50 : decode cX12_init 50 = .ok (.aload_n 0, 1) := by decide +kernel
theorem dX12_init_51 : decode cX12_init 51 = .ok (.iconst 2, 1) := by decide +kernel
theorem dX12_init_52 : decode cX12_init 52 = .ok (.newarray .int, 2) := by decide +kernel
theorem dX12_init_54 : decode cX12_init 54 = .ok (.putfield 29, 3) := by decide +kernel
theorem dX12_init_57 : decode cX12_init 57 = .ok (.aload_n 0, 1) := by decide +kernel
theorem dX12_init_58 : decode cX12_init 58 = .ok (.sipush 400, 3) := by decide +kernel
theorem dX12_init_61 : decode cX12_init 61 = .ok (.newarray .int, 2) := by decide +kernel
theorem dX12_init_63 : decode cX12_init 63 = .ok (.putfield 32, 3) := by decide +kernel
theorem dX12_init_66 : decode cX12_init 66 = .ok (.aload_n 0, 1) := by decide +kernel
theorem dX12_init_67 : decode cX12_init 67 = .ok (.iconst 2, 1) := by decide +kernel
theorem dX12_init_68 : decode cX12_init 68 = .ok (.newarray .int, 2) := by decide +kernel
theorem dX12_init_70 : decode cX12_init 70 = .ok (.putfield 35, 3) := by decide +kernel
theorem dX12_init_73 : decode cX12_init 73 = .ok (.aload_n 0, 1) := by decide +kernel
theorem dX12_init_74 : decode cX12_init 74 = .ok (.bipush 16, 2) := by decide +kernel
theorem dX12_init_76 : decode cX12_init 76 = .ok (.newarray .int, 2) := by decide +kernel
theorem dX12_init_78 : decode cX12_init 78 = .ok (.putfield 38, 3) := by decide +kernel
theorem dX12_init_81 : decode cX12_init 81 = .ok (.aload_n 0, 1) := by decide +kernel
theorem dX12_init_82 : decode cX12_init 82 = .ok (.bipush 10, 2) := by decide +kernel
theorem dX12_init_84 : decode cX12_init 84 = .ok (.newarray .int, 2) := by decide +kernel
theorem dX12_init_86 : decode cX12_init 86 = .ok (.putfield 41, 3) := by decide +kernel
theorem dX12_init_89 : decode cX12_init 89 = .ok (.aload_n 0, 1) := by decide +kernel
theorem dX12_init_90 : decode cX12_init 90 = .ok (.bipush 9, 2) := by decide +kernel
theorem dX12_init_92 : decode cX12_init 92 = .ok (.newarray .int, 2) := by decide +kernel
theorem dX12_init_94 : decode cX12_init 94 = .ok (.putfield 44, 3) := by decide +kernel
theorem dX12_init_97 : decode cX12_init 97 = .ok (.aload_n 0, 1) := by decide +kernel
theorem dX12_init_98 : decode cX12_init 98 = .ok (.iconst 3, 1) := by decide +kernel
theorem dX12_init_99 : decode cX12_init 99 = .ok (.newarray .int, 2) := by decide +kernel
theorem dX12_init_101 : decode cX12_init 101 = .ok (.putfield 47, 3) := by decide +kernel
theorem dX12_init_104 : decode cX12_init 104 = .ok (.aload_n 0, 1) := by decide +kernel
theorem dX12_init_105 : decode cX12_init 105 = .ok (.bipush 120, 2) := by decide +kernel
theorem dX12_init_107 : decode cX12_init 107 = .ok (.newarray .int, 2) := by decide +kernel
theorem dX12_init_109 : decode cX12_init 109 = .ok (.putfield 50, 3) := by decide +kernel
theorem dX12_init_112 : decode cX12_init 112 = .ok (.aload_n 0, 1) := by decide +kernel
theorem dX12_init_113 : decode cX12_init 113 = .ok (.sipush 7272, 3) := by decide +kernel
theorem dX12_init_116 : decode cX12_init 116 = .ok (.newarray .int, 2) := by decide +kernel
theorem dX12_init_118 : decode cX12_init 118 = .ok (.putfield 53, 3) := by decide +kernel
theorem dX12_init_121 : decode cX12_init 121 = .ok (.aload_n 0, 1) := by decide +kernel
theorem dX12_init_122 : decode cX12_init 122 = .ok (.sipush 7272, 3) := by decide +kernel
theorem dX12_init_125 : decode cX12_init 125 = .ok (.newarray .long, 2) := by decide +kernel
theorem dX12_init_127 : decode cX12_init 127 = .ok (.putfield 56, 3) := by decide +kernel
theorem dX12_init_130 : decode cX12_init 130 = .ok (.aload_n 0, 1) := by decide +kernel
theorem dX12_init_131 : decode cX12_init 131 = .ok (.sipush 7272, 3) := by decide +kernel
theorem dX12_init_134 : decode cX12_init 134 = .ok (.newarray .int, 2) := by decide +kernel
theorem dX12_init_136 : decode cX12_init 136 = .ok (.putfield 60, 3) := by decide +kernel
theorem dX12_init_139 : decode cX12_init 139 = .ok (.aload_n 0, 1) := by decide +kernel
theorem dX12_init_140 : decode cX12_init 140 = .ok (.sipush 7272, 3) := by decide +kernel
theorem dX12_init_143 : decode cX12_init 143 = .ok (.newarray .boolean, 2) := by decide +kernel
theorem dX12_init_145 : decode cX12_init 145 = .ok (.putfield 63, 3) := by decide +kernel
theorem dX12_init_148 : decode cX12_init 148 = .ok (.aload_n 0, 1) := by decide +kernel
theorem dX12_init_149 : decode cX12_init 149 = .ok (.sipush 909, 3) := by decide +kernel
theorem dX12_init_152 : decode cX12_init 152 = .ok (.newarray .int, 2) := by decide +kernel
theorem dX12_init_154 : decode cX12_init 154 = .ok (.putfield 67, 3) := by decide +kernel
theorem dX12_init_157 : decode cX12_init 157 = .ok (.aload_n 0, 1) := by decide +kernel
theorem dX12_init_158 : decode cX12_init 158 = .ok (.sipush 909, 3) := by decide +kernel
theorem dX12_init_161 : decode cX12_init 161 = .ok (.newarray .int, 2) := by decide +kernel
theorem dX12_init_163 : decode cX12_init 163 = .ok (.putfield 70, 3) := by decide +kernel
theorem dX12_init_166 : decode cX12_init 166 = .ok (.aload_n 0, 1) := by decide +kernel
theorem dX12_init_167 : decode cX12_init 167 = .ok (.sipush 909, 3) := by decide +kernel
theorem dX12_init_170 : decode cX12_init 170 = .ok (.newarray .int, 2) := by decide +kernel
theorem dX12_init_172 : decode cX12_init 172 = .ok (.putfield 73, 3) := by decide +kernel
theorem dX12_init_175 : decode cX12_init 175 = .ok (.aload_n 0, 1) := by decide +kernel
theorem dX12_init_176 : decode cX12_init 176 = .ok (.sipush 130, 3) := by decide +kernel
theorem dX12_init_179 : decode cX12_init 179 = .ok (.newarray .int, 2) := by decide +kernel
theorem dX12_init_181 : decode cX12_init 181 = .ok (.putfield 76, 3) := by decide +kernel
theorem dX12_init_184 : decode cX12_init 184 = .ok (.aload_n 0, 1) := by decide +kernel
theorem dX12_init_185 : decode cX12_init 185 = .ok (.sipush 130, 3) := by decide +kernel
theorem dX12_init_188 : decode cX12_init 188 = .ok (.newarray .int, 2) := by decide +kernel
theorem dX12_init_190 : decode cX12_init 190 = .ok (.putfield 79, 3) := by decide +kernel
theorem dX12_init_193 : decode cX12_init 193 = .ok (.aload_n 0, 1) := by decide +kernel
theorem dX12_init_194 : decode cX12_init 194 = .ok (.iconst 4, 1) := by decide +kernel
theorem dX12_init_195 : decode cX12_init 195 = .ok (.newarray .int, 2) := by decide +kernel
theorem dX12_init_197 : decode cX12_init 197 = .ok (.putfield 82, 3) := by decide +kernel
