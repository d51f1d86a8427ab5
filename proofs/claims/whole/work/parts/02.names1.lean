theorem dX0_init_0 : decode cX0_init 0 = .ok (.aload_n 0, 1) := by decide +kernel
theorem dX0_init_1 : decode cX0_init 1 = .ok (.invokespecial 3, 3) := by decide +kernel
theorem dX0_init_4 : decode cX0_init 4 = .ok (.aload_n 0, 1) := by decide +kernel
theorem dX0_init_5 : decode cX0_init 5 = .ok (.bipush 6, 2) := by decide +kernel
theorem dX0_init_7 : decode cX0_init 7 = .ok (.newarray .int, 2) := by decide +kernel
theorem dX0_init_9 : decode cX0_init 9 = .ok (.putfield 9, 3) := by decide +kernel
theorem dX0_init_12 : decode cX0_init 12 = .ok (.aload_n 0, 1) := by decide +kernel
theorem dX0_init_13 : decode cX0_init 13 = .ok (.bipush 6, 2) := by decide +kernel
theorem dX0_init_15 : decode cX0_init 15 = .ok (.newarray .int, 2) := by decide +kernel
theorem dX0_init_17 : decode cX0_init 17 = .ok (.putfield 15, 3) := by decide +kernel
theorem dX0_init_20 : decode cX0_init 20 = .ok (.aload_n 0, 1) := by decide +kernel
theorem dX0_init_21 : decode cX0_init 21 = .ok (.bipush 8, 2) := by decide +kernel
theorem dX0_init_23 : decode cX0_init 23 = .ok (.newarray .int, 2) := by decide +kernel
theorem dX0_init_25 : decode cX0_init 25 = .ok (.putfield 18, 3) := by decide +kernel
theorem dX0_init_28 : decode cX0_init 28 = .ok (.aload_n 0, 1) := by decide +kernel
theorem dX0_init_29 : decode cX0_init 29 = .ok (.bipush 8, 2) := by decide +kernel
theorem dX0_init_31 : decode cX0_init 31 = .ok (.newarray .int, 2) := by decide +kernel
theorem dX0_init_33 : decode cX0_init 33 = .ok (.putfield 21, 3) := by decide +kernel
theorem dX0_init_36 : decode cX0_init 36 = .ok (.aload_n 0, 1) := by decide +kernel
theorem dX0_init_37 : decode cX0_init 37 = .ok (.bipush 8, 2) := by decide +kernel
theorem dX0_init_39 : decode cX0_init 39 = .ok (.newarray .int, 2) := by decide +kernel
theorem dX0_init_41 : decode cX0_init 41 = .ok (.putfield 24, 3) := by decide +kernel
theorem dX0_init_44 : decode cX0_init 44 = .ok (.aload_n 0, 1) := by decide +kernel
theorem dX0_init_45 : decode cX0_init 45 = .ok (.bipush 8, 2) := by decide +kernel
theorem dX0_init_47 : decode cX0_init 47 = .ok (.newarray .int, 2) := by decide +kernel
theorem dX0_init_49 : decode cX0_init 49 = .ok (.putfield 27, 3) := by decide +kernel
theorem dX0_init_52 : decode cX0_init 52 = .ok (.aload_n 0, 1) := by decide +kernel
theorem dX0_init_53 : decode cX0_init 53 = .ok (.iconst 4, 1) := by decide +kernel
theorem dX0_init_54 : decode cX0_init 54 = .ok (.newarray .int, 2) := by decide +kernel
theorem dX0_init_56 : decode cX0_init 56 = .ok (.putfield 30, 3) := by decide +kernel
theorem dX0_init_59 : decode cX0_init 59 = .ok (.aload_n 0, 1) := by decide +kernel
theorem dX0_init_60 : decode cX0_init 60 = .ok (.iconst 4, 1) := by decide +kernel
theorem dX0_init_61 : decode cX0_init 61 = .ok (.newarray .int, 2) := by decide +kernel
theorem dX0_init_63 : decode cX0_init 63 = .ok (.putfield 33, 3) := by decide +kernel
theorem dX0_init_66 : decode cX0_init 66 = .ok (.aload_n 0, 1) := by decide +kernel
theorem dX0_init_67 : decode cX0_init 67 = .ok (.bipush 101, 2) := by decide +kernel
theorem dX0_init_69 : decode cX0_init 69 = .ok (.newarray .int, 2) := by decide +kernel
theorem dX0_init_71 : decode cX0_init 71 = .ok (.putfield 36, 3) := by decide +kernel
theorem dX0_init_74 : decode cX0_init 74 = .ok (.return_, 1) := by decide +kernel
set_option maxRecDepth 20000 in
theorem ggX0_layFirst_X0_clear : GoodIn wsX0_layFirst wsX0_clear := goodIn_r _ [5, 6, 7, 8, 9, 10, 11, 12, 13, 14, 15, 16, 17, 18, 52, 53, 54, 55, 56, 57, 58, 59, 60, 61, 62, 63, 64, 65, 66, 67, 68] (by decide +kernel) (by decide +kernel)
set_option maxRecDepth 20000 in
theorem gX0_layFirst_X0_clear : GoodIn wsX0_layFirst (wsV RX0 39 RX0 yX0_clear wsX0_clear) := goodIn_app (goodIn_of _ (by decide +kernel)) ggX0_layFirst_X0_clear
set_option maxRecDepth 20000 in
theorem ggX0_layFirst_X0_takeSpeed : GoodIn wsX0_layFirst wsX0_takeSpeed := goodIn_r _ [22, 6, 23, 24, 25, 26, 27, 52, 53, 54, 55, 56, 57, 58, 59, 60, 61, 62, 63, 64, 65, 66, 67, 68] (by decide +kernel) (by decide +kernel)
set_option maxRecDepth 20000 in
theorem gX0_layFirst_X0_takeSpeed : GoodIn wsX0_layFirst (wsV RX0 42 RX0 yX0_takeSpeed wsX0_takeSpeed) := goodIn_app (goodIn_of _ (by decide +kernel)) ggX0_layFirst_X0_takeSpeed
set_option maxRecDepth 20000 in
theorem ggX0_layFirst_X0_takePiece : GoodIn wsX0_layFirst wsX0_takePiece := goodIn_r _ [31, 7, 32, 33, 34, 35, 25, 26, 27, 52, 53, 54, 55, 56, 57, 58, 59, 60, 61, 62, 63, 64, 65, 66, 67, 68] (by decide +kernel) (by decide +kernel)
set_option maxRecDepth 20000 in
theorem gX0_layFirst_X0_takePiece : GoodIn wsX0_layFirst (wsV RX0 46 RX0 yX0_takePiece wsX0_takePiece) := goodIn_app (goodIn_of _ (by decide +kernel)) ggX0_layFirst_X0_takePiece
set_option maxRecDepth 20000 in
theorem ggX0_layFirst_X0_finish : GoodIn wsX0_layFirst wsX0_finish := goodIn_r _ [39, 8, 14, 40, 41, 42, 4, 43, 44, 45, 25, 26, 27, 46, 47, 48, 49, 50, 51, 52, 53, 54, 55, 56, 57, 58, 59, 60, 61, 62, 63, 64, 65, 66, 67, 68] (by decide +kernel) (by decide +kernel)
set_option maxRecDepth 20000 in
theorem gX0_layFirst_X0_finish : GoodIn wsX0_layFirst (wsV RX0 50 RX0 yX0_finish wsX0_finish) := goodIn_app (goodIn_of _ (by decide +kernel)) ggX0_layFirst_X0_finish
theorem dX0_layFirst_0 : decode cX0_layFirst 0 = .ok (.aload_n 0, 1) := by decide +kernel
theorem dX0_layFirst_1 : decode cX0_layFirst 1 = .ok (.invokevirtual 39, 3) := by decide +kernel
theorem dX0_layFirst_4 : decode cX0_layFirst 4 = .ok (.aload_n 0, 1) := by decide +kernel
theorem dX0_layFirst_5 : decode cX0_layFirst 5 = .ok (.bipush 10, 2) := by decide +kernel
theorem dX0_layFirst_7 : decode cX0_layFirst 7 = .ok (.bipush 10, 2) := by decide +kernel
theorem dX0_layFirst_9 : decode cX0_layFirst 9 = .ok (.invokevirtual 42, 3) := by decide +kernel
theorem dX0_layFirst_12 : decode cX0_layFirst 12 = .ok (.pop, 1) := by decide +kernel
theorem dX0_layFirst_13 : decode cX0_layFirst 13 = .ok (.aload_n 0, 1) := by decide +kernel
theorem dX0_layFirst_14 : decode cX0_layFirst 14 = .ok (.bipush 10, 2) := by decide +kernel
theorem dX0_layFirst_16 : decode cX0_layFirst 16 = .ok (.iconst 1, 1) := by decide +kernel
theorem dX0_layFirst_17 : decode cX0_layFirst 17 = .ok (.bipush 100, 2) := by decide +kernel
theorem dX0_layFirst_19 : decode cX0_layFirst 19 = .ok (.bipush 10, 2) := by decide +kernel
theorem dX0_layFirst_21 : decode cX0_layFirst 21 = .ok (.invokevirtual 46, 3) := by decide +kernel
theorem dX0_layFirst_24 : decode cX0_layFirst 24 = .ok (.pop, 1) := by decide +kernel
theorem dX0_layFirst_25 : decode cX0_layFirst 25 = .ok (.aload_n 0, 1) := by decide +kernel
theorem dX0_layFirst_26 : decode cX0_layFirst 26 = .ok (.invokevirtual 50, 3) := by decide +kernel
theorem dX0_layFirst_29 : decode cX0_layFirst 29 = .ok (.pop, 1) := by decide +kernel
theorem dX0_layFirst_30 : decode cX0_layFirst 30 = .ok (.return_, 1) := by decide +kernel
set_option maxRecDepth 20000 in
theorem ggX0_clear_J7_fill_53178 : GoodIn wsX0_clear wsJ7_fill_53178 := goodIn_r _ [13] (by decide +kernel) (by decide +kernel)
set_option maxRecDepth 20000 in
theorem gX0_clear_J7_fill_53178 : GoodIn wsX0_clear (va_wsS RX0 79 yJ7_fill_53178 wsJ7_fill_53178) := goodIn_app (goodIn_of _ (by decide +kernel)) ggX0_clear_J7_fill_53178
theorem dX0_clear_0 : decode cX0_clear 0 = .ok (.aload_n 0, 1) := by decide +kernel
theorem dX0_clear_1 : decode cX0_clear 1 = .ok (.iconst 0, 1) := by decide +kernel
theorem dX0_clear_2 : decode cX0_clear 2 = .ok (.putfield 54, 3) := by decide +kernel
theorem dX0_clear_5 : decode cX0_clear 5 = .ok (.aload_n 0, 1) := by decide +kernel
theorem dX0_clear_6 : decode cX0_clear 6 = .ok (.iconst 0, 1) := by decide +kernel
theorem dX0_clear_7 : decode cX0_clear 7 = .ok (.putfield 58, 3) := by decide +kernel
theorem dX0_clear_10 : decode cX0_clear 10 = .ok (.aload_n 0, 1) := by decide +kernel
theorem dX0_clear_11 : decode cX0_clear 11 = .ok (.iconst 0, 1) := by decide +kernel
theorem dX0_clear_12 : decode cX0_clear 12 = .ok (.putfield 61, 3) := by decide +kernel
theorem dX0_clear_15 : decode cX0_clear 15 = .ok (.aload_n 0, 1) := by decide +kernel
theorem dX0_clear_16 : decode cX0_clear 16 = .ok (.iconst 4, 1) := by decide +kernel
theorem dX0_clear_17 : decode cX0_clear 17 = .ok (.putfield 64, 3) := by decide +kernel
theorem dX0_clear_20 : decode cX0_clear 20 = .ok (.aload_n 0, 1) := by decide +kernel
theorem dX0_clear_21 : decode cX0_clear 21 = .ok (.bipush 9, 2) := by decide +kernel
theorem dX0_clear_23 : decode cX0_clear 23 = .ok (.putfield 67, 3) := by decide +kernel
theorem dX0_clear_26 : decode cX0_clear 26 = .ok (.aload_n 0, 1) := by decide +kernel
theorem dX0_clear_27 : decode cX0_clear 27 = .ok (.bipush 60, 2) := by decide +kernel
theorem dX0_clear_29 : decode cX0_clear 29 = .ok (.putfield 70, 3) := by decide +kernel
theorem dX0_clear_32 : decode cX0_clear 32 = .ok (.aload_n 0, 1) := by decide +kernel
theorem dX0_clear_33 : decode cX0_clear 33 = .ok (.bipush 8, 2) := by decide +kernel
theorem dX0_clear_35 : decode cX0_clear 35 = .ok (.putfield 73, 3) := by decide +kernel
theorem dX0_clear_38 : decode cX0_clear 38 = .ok (.aload_n 0, 1) := by decide +kernel
theorem dX0_clear_39 : decode cX0_clear 39 = .ok (.sipush 999, 3) := by decide +kernel
theorem dX0_clear_42 : decode cX0_clear 42 = .ok (.putfield 76, 3) := by decide +kernel
theorem dX0_clear_45 : decode cX0_clear 45 = .ok (.aload_n 0, 1) := by decide +kernel
theorem dX0_clear_46 : decode cX0_clear 46 = .ok (.getfield 36, 3) := by decide +kernel
theorem dX0_clear_49 : decode cX0_clear 49 = .ok (.iconst (-1), 1) := by decide +kernel
theorem dX0_clear_50 : decode cX0_clear 50 = .ok (.invokestatic 79, 3) := by decide +kernel
theorem dX0_clear_53 : decode cX0_clear 53 = .ok (.return_, 1) := by decide +kernel
set_option maxRecDepth 20000 in
theorem ggX0_take_X11_at : GoodIn wsX0_take wsX11_at := goodIn_r _ [3] (by decide +kernel) (by decide +kernel)
set_option maxRecDepth 20000 in
theorem gX0_take_X11_at_n85 : GoodIn wsX0_take (wsX11_at) := ggX0_take_X11_at
set_option maxRecDepth 20000 in
theorem ggX0_take_X0_takeSpeed : GoodIn wsX0_take wsX0_takeSpeed := goodIn_r _ [8, 9, 10, 11, 12, 2, 13, 52, 53, 54, 55, 56, 57, 58, 59, 60, 61, 62, 63, 64, 65, 66, 67, 68] (by decide +kernel) (by decide +kernel)
set_option maxRecDepth 20000 in
theorem gX0_take_X0_takeSpeed : GoodIn wsX0_take (wsV RX0 42 RX0 yX0_takeSpeed wsX0_takeSpeed) := goodIn_app (goodIn_of _ (by decide +kernel)) ggX0_take_X0_takeSpeed
set_option maxRecDepth 20000 in
theorem ggX0_take_X0_takePiece : GoodIn wsX0_take wsX0_takePiece := goodIn_r _ [17, 18, 19, 20, 21, 22, 12, 2, 13, 52, 53, 54, 55, 56, 57, 58, 59, 60, 61, 62, 63, 64, 65, 66, 67, 68] (by decide +kernel) (by decide +kernel)
set_option maxRecDepth 20000 in
theorem gX0_take_X0_takePiece : GoodIn wsX0_take (wsV RX0 46 RX0 yX0_takePiece wsX0_takePiece) := goodIn_app (goodIn_of _ (by decide +kernel)) ggX0_take_X0_takePiece
set_option maxRecDepth 20000 in
theorem ggX0_take_X0_takeBreak : GoodIn wsX0_take wsX0_takeBreak := goodIn_r _ [26, 27, 12, 2, 13, 52, 53, 54, 55, 56, 57, 58, 59, 60, 61, 62, 63, 64, 65, 66, 67, 68] (by decide +kernel) (by decide +kernel)
set_option maxRecDepth 20000 in
theorem gX0_take_X0_takeBreak : GoodIn wsX0_take (wsV RX0 89 RX0 yX0_takeBreak wsX0_takeBreak) := goodIn_app (goodIn_of _ (by decide +kernel)) ggX0_take_X0_takeBreak
set_option maxRecDepth 20000 in
theorem ggX0_take_X0_takeChange : GoodIn wsX0_take wsX0_takeChange := goodIn_r _ [31, 32, 33, 12, 2, 13, 52, 53, 54, 55, 56, 57, 58, 59, 60, 61, 62, 63, 64, 65, 66, 67, 68] (by decide +kernel) (by decide +kernel)
set_option maxRecDepth 20000 in
theorem gX0_take_X0_takeChange : GoodIn wsX0_take (wsV RX0 92 RX0 yX0_takeChange wsX0_takeChange) := goodIn_app (goodIn_of _ (by decide +kernel)) ggX0_take_X0_takeChange
set_option maxRecDepth 20000 in
theorem ggX0_take_X0_takeHour : GoodIn wsX0_take wsX0_takeHour := goodIn_r _ [37, 38, 12, 2, 13, 52, 53, 54, 55, 56, 57, 58, 59, 60, 61, 62, 63, 64, 65, 66, 67, 68] (by decide +kernel) (by decide +kernel)
set_option maxRecDepth 20000 in
theorem gX0_take_X0_takeHour : GoodIn wsX0_take (wsV RX0 95 RX0 yX0_takeHour wsX0_takeHour) := goodIn_app (goodIn_of _ (by decide +kernel)) ggX0_take_X0_takeHour
set_option maxRecDepth 20000 in
theorem ggX0_take_X0_takeMost : GoodIn wsX0_take wsX0_takeMost := goodIn_r _ [42, 43, 44, 12, 2, 13, 52, 53, 54, 55, 56, 57, 58, 59, 60, 61, 62, 63, 64, 65, 66, 67, 68] (by decide +kernel) (by decide +kernel)
set_option maxRecDepth 20000 in
theorem gX0_take_X0_takeMost : GoodIn wsX0_take (wsV RX0 99 RX0 yX0_takeMost wsX0_takeMost) := goodIn_app (goodIn_of _ (by decide +kernel)) ggX0_take_X0_takeMost
set_option maxRecDepth 20000 in
theorem ggX0_take_X0_takeSteel : GoodIn wsX0_take wsX0_takeSteel := goodIn_r _ [48, 49, 50, 51, 12, 2, 13, 52, 53, 54, 55, 56, 57, 58, 59, 60, 61, 62, 63, 64, 65, 66, 67, 68] (by decide +kernel) (by decide +kernel)
set_option maxRecDepth 20000 in
theorem gX0_take_X0_takeSteel : GoodIn wsX0_take (wsV RX0 102 RX0 yX0_takeSteel wsX0_takeSteel) := goodIn_app (goodIn_of _ (by decide +kernel)) ggX0_take_X0_takeSteel
theorem dX0_take_0 : decode cX0_take 0 = .ok (.aload_n 2, 1) := by decide +kernel
theorem dX0_take_1 : decode cX0_take 1 = .ok (.iconst 0, 1) := by decide +kernel
theorem dX0_take_2 : decode cX0_take 2 = .ok (.invokestatic 85, 3) := by decide +kernel
theorem dX0_take_5 : decode cX0_take 5 = .ok (.istore_n 3, 1) := by decide +kernel
theorem dX0_take_6 : decode cX0_take 6 = .ok (.aload_n 2, 1) := by decide +kernel
theorem dX0_take_7 : decode cX0_take 7 = .ok (.iconst 1, 1) := by decide +kernel
theorem dX0_take_8 : decode cX0_take 8 = .ok (.invokestatic 85, 3) := by decide +kernel
theorem dX0_take_11 : decode cX0_take 11 = .ok (.istore 4, 2) := by decide +kernel
theorem dX0_take_13 : decode cX0_take 13 = .ok (.iload_n 1, 1) := by decide +kernel
theorem dX0_take_14 : decode cX0_take 14 = .ok (.tableswitch 162 98 118 #[124, 132, 162, 162, 162, 162, 140, 162, 162, 146, 162, 162, 162, 162, 106, 162, 162, 162, 154, 162, 98], 98) := by decide +kernel
theorem dX0_take_112 : decode cX0_take 112 = .ok (.aload_n 0, 1) := by decide +kernel
theorem dX0_take_113 : decode cX0_take 113 = .ok (.iload_n 3, 1) := by decide +kernel
theorem dX0_take_114 : decode cX0_take 114 = .ok (.iload 4, 2) := by decide +kernel
theorem dX0_take_116 : decode cX0_take 116 = .ok (.invokevirtual 42, 3) := by decide +kernel
theorem dX0_take_119 : decode cX0_take 119 = .ok (.ireturn, 1) := by decide +kernel
theorem dX0_take_120 : decode cX0_take 120 = .ok (.aload_n 0, 1) := by decide +kernel
theorem dX0_take_121 : decode cX0_take 121 = .ok (.iload_n 3, 1) := by decide +kernel
theorem dX0_take_122 : decode cX0_take 122 = .ok (.iload 4, 2) := by decide +kernel
theorem dX0_take_124 : decode cX0_take 124 = .ok (.aload_n 2, 1) := by decide +kernel
theorem dX0_take_125 : decode cX0_take 125 = .ok (.iconst 2, 1) := by decide +kernel
theorem dX0_take_126 : decode cX0_take 126 = .ok (.invokestatic 85, 3) := by decide +kernel
theorem dX0_take_129 : decode cX0_take 129 = .ok (.aload_n 2, 1) := by decide +kernel
theorem dX0_take_130 : decode cX0_take 130 = .ok (.iconst 3, 1) := by decide +kernel
theorem dX0_take_131 : decode cX0_take 131 = .ok (.invokestatic 85, 3) := by decide +kernel
theorem dX0_take_134 : decode cX0_take 134 = .ok (.invokevirtual 46, 3) := by decide +kernel
theorem dX0_take_137 : decode cX0_take 137 = .ok (.ireturn, 1) := by decide +kernel
theorem dX0_take_138 : decode cX0_take 138 = .ok (.aload_n 0, 1) := by decide +kernel
theorem dX0_take_139 : decode cX0_take 139 = .ok (.iload_n 3, 1) := by decide +kernel
theorem dX0_take_140 : decode cX0_take 140 = .ok (.iload 4, 2) := by decide +kernel
theorem dX0_take_142 : decode cX0_take 142 = .ok (.invokevirtual 89, 3) := by decide +kernel
theorem dX0_take_145 : decode cX0_take 145 = .ok (.ireturn, 1) := by decide +kernel
theorem dX0_take_146 : decode cX0_take 146 = .ok (.aload_n 0, 1) := by decide +kernel
theorem dX0_take_147 : decode cX0_take 147 = .ok (.iload_n 3, 1) := by decide +kernel
theorem dX0_take_148 : decode cX0_take 148 = .ok (.iload 4, 2) := by decide +kernel
theorem dX0_take_150 : decode cX0_take 150 = .ok (.invokevirtual 92, 3) := by decide +kernel
theorem dX0_take_153 : decode cX0_take 153 = .ok (.ireturn, 1) := by decide +kernel
theorem dX0_take_154 : decode cX0_take 154 = .ok (.aload_n 0, 1) := by decide +kernel
theorem dX0_take_155 : decode cX0_take 155 = .ok (.iload_n 3, 1) := by decide +kernel
theorem dX0_take_156 : decode cX0_take 156 = .ok (.invokevirtual 95, 3) := by decide +kernel
theorem dX0_take_159 : decode cX0_take 159 = .ok (.ireturn, 1) := by decide +kernel
theorem dX0_take_160 : decode cX0_take 160 = .ok (.aload_n 0, 1) := by decide +kernel
theorem dX0_take_161 : decode cX0_take 161 = .ok (.iload_n 3, 1) := by decide +kernel
theorem dX0_take_162 : decode cX0_take 162 = .ok (.iload 4, 2) := by decide +kernel
theorem dX0_take_164 : decode cX0_take 164 = .ok (.invokevirtual 99, 3) := by decide +kernel
theorem dX0_take_167 : decode cX0_take 167 = .ok (.ireturn, 1) := by decide +kernel
theorem dX0_take_168 : decode cX0_take 168 = .ok (.aload_n 0, 1) := by decide +kernel
theorem dX0_take_169 : decode cX0_take 169 = .ok (.iload_n 3, 1) := by decide +kernel
theorem dX0_take_170 : decode cX0_take 170 = .ok (.iload 4, 2) := by decide +kernel
theorem dX0_take_172 : decode cX0_take 172 = .ok (.invokevirtual 102, 3) := by decide +kernel
theorem dX0_take_175 : decode cX0_take 175 = .ok (.ireturn, 1) := by decide +kernel
theorem dX0_take_176 : decode cX0_take 176 = .ok (.iconst 0, 1) := by decide +kernel
theorem dX0_take_177 : decode cX0_take 177 = .ok (.ireturn, 1) := by decide +kernel
set_option maxRecDepth 20000 in
theorem ggX0_takeSpeed_X11_within : GoodIn wsX0_takeSpeed wsX11_within := goodIn_r _ [6] (by decide +kernel) (by decide +kernel)
set_option maxRecDepth 20000 in
theorem gX0_takeSpeed_X11_within_n105 : GoodIn wsX0_takeSpeed (wsX11_within) := ggX0_takeSpeed_X11_within
theorem dX0_takeSpeed_0 : decode cX0_takeSpeed 0 = .ok (.iload_n 1, 1) := by decide +kernel
theorem dX0_takeSpeed_1 : decode cX0_takeSpeed 1 = .ok (.iconst 1, 1) := by decide +kernel
theorem dX0_takeSpeed_2 : decode cX0_takeSpeed 2 = .ok (.bipush 99, 2) := by decide +kernel
theorem dX0_takeSpeed_4 : decode cX0_takeSpeed 4 = .ok (.invokestatic 105, 3) := by decide +kernel
theorem dX0_takeSpeed_7 : decode cX0_takeSpeed 7 = .ok (.ifCond .eq 26, 3) := by decide +kernel
theorem dX0_takeSpeed_10 : decode cX0_takeSpeed 10 = .ok (.iload_n 2, 1) := by decide +kernel
theorem dX0_takeSpeed_11 : decode cX0_takeSpeed 11 = .ok (.iconst 0, 1) := by decide +kernel
theorem dX0_takeSpeed_12 : decode cX0_takeSpeed 12 = .ok (.sipush 999, 3) := by decide +kernel
theorem dX0_takeSpeed_15 : decode cX0_takeSpeed 15 = .ok (.invokestatic 105, 3) := by decide +kernel
theorem dX0_takeSpeed_18 : decode cX0_takeSpeed 18 = .ok (.ifCond .eq 15, 3) := by decide +kernel
theorem dX0_takeSpeed_21 : decode cX0_takeSpeed 21 = .ok (.aload_n 0, 1) := by decide +kernel
theorem dX0_takeSpeed_22 : decode cX0_takeSpeed 22 = .ok (.getfield 54, 3) := by decide +kernel
theorem dX0_takeSpeed_25 : decode cX0_takeSpeed 25 = .ok (.iconst 0, 1) := by decide +kernel
theorem dX0_takeSpeed_26 : decode cX0_takeSpeed 26 = .ok (.iconst 5, 1) := by decide +kernel
theorem dX0_takeSpeed_27 : decode cX0_takeSpeed 27 = .ok (.invokestatic 105, 3) := by decide +kernel
theorem dX0_takeSpeed_30 : decode cX0_takeSpeed 30 = .ok (.ifCond .ne 5, 3) := by decide +kernel
theorem dX0_takeSpeed_33 : decode cX0_takeSpeed 33 = .ok (.iconst 0, 1) := by decide +kernel
theorem dX0_takeSpeed_34 : decode cX0_takeSpeed 34 = .ok (.ireturn, 1) := by decide +kernel
theorem dX0_takeSpeed_35 : decode cX0_takeSpeed 35 = .ok (.aload_n 0, 1) := by decide +kernel
theorem dX0_takeSpeed_36 : decode cX0_takeSpeed 36 = .ok (.getfield 9, 3) := by decide +kernel
theorem dX0_takeSpeed_39 : decode cX0_takeSpeed 39 = .ok (.aload_n 0, 1) := by decide +kernel
theorem dX0_takeSpeed_40 : decode cX0_takeSpeed 40 = .ok (.getfield 54, 3) := by decide +kernel
theorem dX0_takeSpeed_43 : decode cX0_takeSpeed 43 = .ok (.iload_n 1, 1) := by decide +kernel
theorem dX0_takeSpeed_44 : decode cX0_takeSpeed 44 = .ok (.iastore, 1) := by decide +kernel
theorem dX0_takeSpeed_45 : decode cX0_takeSpeed 45 = .ok (.aload_n 0, 1) := by decide +kernel
theorem dX0_takeSpeed_46 : decode cX0_takeSpeed 46 = .ok (.getfield 15, 3) := by decide +kernel
theorem dX0_takeSpeed_49 : decode cX0_takeSpeed 49 = .ok (.aload_n 0, 1) := by decide +kernel
theorem dX0_takeSpeed_50 : decode cX0_takeSpeed 50 = .ok (.getfield 54, 3) := by decide +kernel
theorem dX0_takeSpeed_53 : decode cX0_takeSpeed 53 = .ok (.iload_n 2, 1) := by decide +kernel
theorem dX0_takeSpeed_54 : decode cX0_takeSpeed 54 = .ok (.iastore, 1) := by decide +kernel
theorem dX0_takeSpeed_55 : decode cX0_takeSpeed 55 = .ok (.aload_n 0, 1) := by decide +kernel
theorem dX0_takeSpeed_56 : decode cX0_takeSpeed 56 = .ok (.dup, 1) := by decide +kernel
theorem dX0_takeSpeed_57 : decode cX0_takeSpeed 57 = .ok (.getfield 54, 3) := by decide +kernel
theorem dX0_takeSpeed_60 : decode cX0_takeSpeed 60 = .ok (.iconst 1, 1) := by decide +kernel
theorem dX0_takeSpeed_61 : decode cX0_takeSpeed 61 = .ok (.iadd, 1) := by decide +kernel
theorem dX0_takeSpeed_62 : decode cX0_takeSpeed 62 = .ok (.putfield 54, 3) := by decide +kernel
theorem dX0_takeSpeed_65 : decode cX0_takeSpeed 65 = .ok (.iconst 1, 1) := by decide +kernel
theorem dX0_takeSpeed_66 : decode cX0_takeSpeed 66 = .ok (.ireturn, 1) := by decide +kernel
set_option maxRecDepth 20000 in
theorem ggX0_takePiece_X11_within : GoodIn wsX0_takePiece wsX11_within := goodIn_r _ [8] (by decide +kernel) (by decide +kernel)
set_option maxRecDepth 20000 in
theorem gX0_takePiece_X11_within_n105 : GoodIn wsX0_takePiece (wsX11_within) := ggX0_takePiece_X11_within
theorem dX0_takePiece_0 : decode cX0_takePiece 0 = .ok (.iload_n 1, 1) := by decide +kernel
theorem dX0_takePiece_1 : decode cX0_takePiece 1 = .ok (.iconst 1, 1) := by decide +kernel
theorem dX0_takePiece_2 : decode cX0_takePiece 2 = .ok (.bipush 99, 2) := by decide +kernel
theorem dX0_takePiece_4 : decode cX0_takePiece 4 = .ok (.invokestatic 105, 3) := by decide +kernel
theorem dX0_takePiece_7 : decode cX0_takePiece 7 = .ok (.ifCond .eq 23, 3) := by decide +kernel
theorem dX0_takePiece_10 : decode cX0_takePiece 10 = .ok (.iload_n 2, 1) := by decide +kernel
theorem dX0_takePiece_11 : decode cX0_takePiece 11 = .ok (.iconst 1, 1) := by decide +kernel
theorem dX0_takePiece_12 : decode cX0_takePiece 12 = .ok (.bipush 8, 2) := by decide +kernel
theorem dX0_takePiece_14 : decode cX0_takePiece 14 = .ok (.invokestatic 105, 3) := by decide +kernel
theorem dX0_takePiece_17 : decode cX0_takePiece 17 = .ok (.ifCond .eq 13, 3) := by decide +kernel
theorem dX0_takePiece_20 : decode cX0_takePiece 20 = .ok (.iload_n 3, 1) := by decide +kernel
theorem dX0_takePiece_21 : decode cX0_takePiece 21 = .ok (.iconst 0, 1) := by decide +kernel
theorem dX0_takePiece_22 : decode cX0_takePiece 22 = .ok (.bipush 100, 2) := by decide +kernel
theorem dX0_takePiece_24 : decode cX0_takePiece 24 = .ok (.invokestatic 105, 3) := by decide +kernel
theorem dX0_takePiece_27 : decode cX0_takePiece 27 = .ok (.ifCond .ne 5, 3) := by decide +kernel
theorem dX0_takePiece_30 : decode cX0_takePiece 30 = .ok (.iconst 0, 1) := by decide +kernel
theorem dX0_takePiece_31 : decode cX0_takePiece 31 = .ok (.ireturn, 1) := by decide +kernel
theorem dX0_takePiece_32 : decode cX0_takePiece 32 = .ok (.iload 4, 2) := by decide +kernel
theorem dX0_takePiece_34 : decode cX0_takePiece 34 = .ok (.iconst 0, 1) := by decide +kernel
theorem dX0_takePiece_35 : decode cX0_takePiece 35 = .ok (.sipush 999, 3) := by decide +kernel
theorem dX0_takePiece_38 : decode cX0_takePiece 38 = .ok (.invokestatic 105, 3) := by decide +kernel
theorem dX0_takePiece_41 : decode cX0_takePiece 41 = .ok (.ifCond .eq 16, 3) := by decide +kernel
theorem dX0_takePiece_44 : decode cX0_takePiece 44 = .ok (.aload_n 0, 1) := by decide +kernel
theorem dX0_takePiece_45 : decode cX0_takePiece 45 = .ok (.getfield 58, 3) := by decide +kernel
theorem dX0_takePiece_48 : decode cX0_takePiece 48 = .ok (.iconst 0, 1) := by decide +kernel
theorem dX0_takePiece_49 : decode cX0_takePiece 49 = .ok (.bipush 7, 2) := by decide +kernel
theorem dX0_takePiece_51 : decode cX0_takePiece 51 = .ok (.invokestatic 105, 3) := by decide +kernel
theorem dX0_takePiece_54 : decode cX0_takePiece 54 = .ok (.ifCond .ne 5, 3) := by decide +kernel
theorem dX0_takePiece_57 : decode cX0_takePiece 57 = .ok (.iconst 0, 1) := by decide +kernel
theorem dX0_takePiece_58 : decode cX0_takePiece 58 = .ok (.ireturn, 1) := by decide +kernel
theorem dX0_takePiece_59 : decode cX0_takePiece 59 = .ok (.aload_n 0, 1) := by decide +kernel
theorem dX0_takePiece_60 : decode cX0_takePiece 60 = .ok (.getfield 18, 3) := by decide +kernel
theorem dX0_takePiece_63 : decode cX0_takePiece 63 = .ok (.aload_n 0, 1) := by decide +kernel
theorem dX0_takePiece_64 : decode cX0_takePiece 64 = .ok (.getfield 58, 3) := by decide +kernel
theorem dX0_takePiece_67 : decode cX0_takePiece 67 = .ok (.iload_n 1, 1) := by decide +kernel
theorem dX0_takePiece_68 : decode cX0_takePiece 68 = .ok (.iastore, 1) := by decide +kernel
theorem dX0_takePiece_69 : decode cX0_takePiece 69 = .ok (.aload_n 0, 1) := by decide +kernel
theorem dX0_takePiece_70 : decode cX0_takePiece 70 = .ok (.getfield 21, 3) := by decide +kernel
theorem dX0_takePiece_73 : decode cX0_takePiece 73 = .ok (.aload_n 0, 1) := by decide +kernel
theorem dX0_takePiece_74 : decode cX0_takePiece 74 = .ok (.getfield 58, 3) := by decide +kernel
theorem dX0_takePiece_77 : decode cX0_takePiece 77 = .ok (.iload_n 2, 1) := by decide +kernel
theorem dX0_takePiece_78 : decode cX0_takePiece 78 = .ok (.iastore, 1) := by decide +kernel
theorem dX0_takePiece_79 : decode cX0_takePiece 79 = .ok (.aload_n 0, 1) := by decide +kernel
theorem dX0_takePiece_80 : decode cX0_takePiece 80 = .ok (.getfield 24, 3) := by decide +kernel
theorem dX0_takePiece_83 : decode cX0_takePiece 83 = .ok (.aload_n 0, 1) := by decide +kernel
theorem dX0_takePiece_84 : decode cX0_takePiece 84 = .ok (.getfield 58, 3) := by decide +kernel
theorem dX0_takePiece_87 : decode cX0_takePiece 87 = .ok (.iload_n 3, 1) := by decide +kernel
theorem dX0_takePiece_88 : decode cX0_takePiece 88 = .ok (.iastore, 1) := by decide +kernel
theorem dX0_takePiece_89 : decode cX0_takePiece 89 = .ok (.aload_n 0, 1) := by decide +kernel
theorem dX0_takePiece_90 : decode cX0_takePiece 90 = .ok (.getfield 27, 3) := by decide +kernel
theorem dX0_takePiece_93 : decode cX0_takePiece 93 = .ok (.aload_n 0, 1) := by decide +kernel
theorem dX0_takePiece_94 : decode cX0_takePiece 94 = .ok (.getfield 58, 3) := by decide +kernel
theorem dX0_takePiece_97 : decode cX0_takePiece 97 = .ok (.iload 4, 2) := by decide +kernel
theorem dX0_takePiece_99 : decode cX0_takePiece 99 = .ok (.iastore, 1) := by decide +kernel
theorem dX0_takePiece_100 : decode cX0_takePiece 100 = .ok (.aload_n 0, 1) := by decide +kernel
theorem dX0_takePiece_101 : decode cX0_takePiece 101 = .ok (.dup, 1) := by decide +kernel
theorem dX0_takePiece_102 : decode cX0_takePiece 102 = .ok (.getfield 58, 3) := by decide +kernel
theorem dX0_takePiece_105 : decode cX0_takePiece 105 = .ok (.iconst 1, 1) := by decide +kernel
theorem dX0_takePiece_106 : decode cX0_takePiece 106 = .ok (.iadd, 1) := by decide +kernel
theorem dX0_takePiece_107 : decode cX0_takePiece 107 = .ok (.putfield 58, 3) := by decide +kernel
theorem dX0_takePiece_110 : decode cX0_takePiece 110 = .ok (.iconst 1, 1) := by decide +kernel
theorem dX0_takePiece_111 : decode cX0_takePiece 111 = .ok (.ireturn, 1) := by decide +kernel
set_option maxRecDepth 20000 in
theorem ggX0_takeBreak_X11_within : GoodIn wsX0_takeBreak wsX11_within := goodIn_r _ [4] (by decide +kernel) (by decide +kernel)
set_option maxRecDepth 20000 in
theorem gX0_takeBreak_X11_within_n105 : GoodIn wsX0_takeBreak (wsX11_within) := ggX0_takeBreak_X11_within
theorem dX0_takeBreak_0 : decode cX0_takeBreak 0 = .ok (.iload_n 1, 1) := by decide +kernel
theorem dX0_takeBreak_1 : decode cX0_takeBreak 1 = .ok (.iconst 0, 1) := by decide +kernel
theorem dX0_takeBreak_2 : decode cX0_takeBreak 2 = .ok (.bipush 100, 2) := by decide +kernel
theorem dX0_takeBreak_4 : decode cX0_takeBreak 4 = .ok (.invokestatic 105, 3) := by decide +kernel
theorem dX0_takeBreak_7 : decode cX0_takeBreak 7 = .ok (.ifCond .eq 13, 3) := by decide +kernel
theorem dX0_takeBreak_10 : decode cX0_takeBreak 10 = .ok (.iload_n 2, 1) := by decide +kernel
theorem dX0_takeBreak_11 : decode cX0_takeBreak 11 = .ok (.iconst 0, 1) := by decide +kernel
theorem dX0_takeBreak_12 : decode cX0_takeBreak 12 = .ok (.bipush 100, 2) := by decide +kernel
theorem dX0_takeBreak_14 : decode cX0_takeBreak 14 = .ok (.invokestatic 105, 3) := by decide +kernel
theorem dX0_takeBreak_17 : decode cX0_takeBreak 17 = .ok (.ifCond .ne 5, 3) := by decide +kernel
theorem dX0_takeBreak_20 : decode cX0_takeBreak 20 = .ok (.iconst 0, 1) := by decide +kernel
theorem dX0_takeBreak_21 : decode cX0_takeBreak 21 = .ok (.ireturn, 1) := by decide +kernel
theorem dX0_takeBreak_22 : decode cX0_takeBreak 22 = .ok (.aload_n 0, 1) := by decide +kernel
theorem dX0_takeBreak_23 : decode cX0_takeBreak 23 = .ok (.getfield 36, 3) := by decide +kernel
theorem dX0_takeBreak_26 : decode cX0_takeBreak 26 = .ok (.iload_n 1, 1) := by decide +kernel
theorem dX0_takeBreak_27 : decode cX0_takeBreak 27 = .ok (.iload_n 2, 1) := by decide +kernel
theorem dX0_takeBreak_28 : decode cX0_takeBreak 28 = .ok (.iastore, 1) := by decide +kernel
theorem dX0_takeBreak_29 : decode cX0_takeBreak 29 = .ok (.iconst 1, 1) := by decide +kernel
theorem dX0_takeBreak_30 : decode cX0_takeBreak 30 = .ok (.ireturn, 1) := by decide +kernel
set_option maxRecDepth 20000 in
theorem ggX0_takeChange_X11_within : GoodIn wsX0_takeChange wsX11_within := goodIn_r _ [5] (by decide +kernel) (by decide +kernel)
set_option maxRecDepth 20000 in
theorem gX0_takeChange_X11_within_n105 : GoodIn wsX0_takeChange (wsX11_within) := ggX0_takeChange_X11_within
theorem dX0_takeChange_0 : decode cX0_takeChange 0 = .ok (.iload_n 1, 1) := by decide +kernel
theorem dX0_takeChange_1 : decode cX0_takeChange 1 = .ok (.iconst 0, 1) := by decide +kernel
theorem dX0_takeChange_2 : decode cX0_takeChange 2 = .ok (.bipush 99, 2) := by decide +kernel
theorem dX0_takeChange_4 : decode cX0_takeChange 4 = .ok (.invokestatic 105, 3) := by decide +kernel
theorem dX0_takeChange_7 : decode cX0_takeChange 7 = .ok (.ifCond .eq 13, 3) := by decide +kernel
theorem dX0_takeChange_10 : decode cX0_takeChange 10 = .ok (.iload_n 2, 1) := by decide +kernel
theorem dX0_takeChange_11 : decode cX0_takeChange 11 = .ok (.iconst 0, 1) := by decide +kernel
theorem dX0_takeChange_12 : decode cX0_takeChange 12 = .ok (.bipush 99, 2) := by decide +kernel
theorem dX0_takeChange_14 : decode cX0_takeChange 14 = .ok (.invokestatic 105, 3) := by decide +kernel
theorem dX0_takeChange_17 : decode cX0_takeChange 17 = .ok (.ifCond .ne 5, 3) := by decide +kernel
theorem dX0_takeChange_20 : decode cX0_takeChange 20 = .ok (.iconst 0, 1) := by decide +kernel
theorem dX0_takeChange_21 : decode cX0_takeChange 21 = .ok (.ireturn, 1) := by decide +kernel
theorem dX0_takeChange_22 : decode cX0_takeChange 22 = .ok (.aload_n 0, 1) := by decide +kernel
theorem dX0_takeChange_23 : decode cX0_takeChange 23 = .ok (.iload_n 1, 1) := by decide +kernel
theorem dX0_takeChange_24 : decode cX0_takeChange 24 = .ok (.putfield 64, 3) := by decide +kernel
theorem dX0_takeChange_27 : decode cX0_takeChange 27 = .ok (.aload_n 0, 1) := by decide +kernel
theorem dX0_takeChange_28 : decode cX0_takeChange 28 = .ok (.iload_n 2, 1) := by decide +kernel
theorem dX0_takeChange_29 : decode cX0_takeChange 29 = .ok (.putfield 67, 3) := by decide +kernel
theorem dX0_takeChange_32 : decode cX0_takeChange 32 = .ok (.iconst 1, 1) := by decide +kernel
theorem dX0_takeChange_33 : decode cX0_takeChange 33 = .ok (.ireturn, 1) := by decide +kernel
set_option maxRecDepth 20000 in
theorem ggX0_takeHour_X11_within : GoodIn wsX0_takeHour wsX11_within := goodIn_r _ [4] (by decide +kernel) (by decide +kernel)
set_option maxRecDepth 20000 in
theorem gX0_takeHour_X11_within_n105 : GoodIn wsX0_takeHour (wsX11_within) := ggX0_takeHour_X11_within
theorem dX0_takeHour_0 : decode cX0_takeHour 0 = .ok (.iload_n 1, 1) := by decide +kernel
theorem dX0_takeHour_1 : decode cX0_takeHour 1 = .ok (.iconst 0, 1) := by decide +kernel
theorem dX0_takeHour_2 : decode cX0_takeHour 2 = .ok (.sipush 999, 3) := by decide +kernel
theorem dX0_takeHour_5 : decode cX0_takeHour 5 = .ok (.invokestatic 105, 3) := by decide +kernel
theorem dX0_takeHour_8 : decode cX0_takeHour 8 = .ok (.ifCond .ne 5, 3) := by decide +kernel
theorem dX0_takeHour_11 : decode cX0_takeHour 11 = .ok (.iconst 0, 1) := by decide +kernel
theorem dX0_takeHour_12 : decode cX0_takeHour 12 = .ok (.ireturn, 1) := by decide +kernel
theorem dX0_takeHour_13 : decode cX0_takeHour 13 = .ok (.aload_n 0, 1) := by decide +kernel
theorem dX0_takeHour_14 : decode cX0_takeHour 14 = .ok (.iload_n 1, 1) := by decide +kernel
theorem dX0_takeHour_15 : decode cX0_takeHour 15 = .ok (.putfield 70, 3) := by decide +kernel
theorem dX0_takeHour_18 : decode cX0_takeHour 18 = .ok (.iconst 1, 1) := by decide +kernel
theorem dX0_takeHour_19 : decode cX0_takeHour 19 = .ok (.ireturn, 1) := by decide +kernel
set_option maxRecDepth 20000 in
theorem ggX0_takeMost_X11_within : GoodIn wsX0_takeMost wsX11_within := goodIn_r _ [5] (by decide +kernel) (by decide +kernel)
set_option maxRecDepth 20000 in
theorem gX0_takeMost_X11_within_n105 : GoodIn wsX0_takeMost (wsX11_within) := ggX0_takeMost_X11_within
theorem dX0_takeMost_0 : decode cX0_takeMost 0 = .ok (.iload_n 1, 1) := by decide +kernel
theorem dX0_takeMost_1 : decode cX0_takeMost 1 = .ok (.iconst 1, 1) := by decide +kernel
theorem dX0_takeMost_2 : decode cX0_takeMost 2 = .ok (.bipush 8, 2) := by decide +kernel
theorem dX0_takeMost_4 : decode cX0_takeMost 4 = .ok (.invokestatic 105, 3) := by decide +kernel
theorem dX0_takeMost_7 : decode cX0_takeMost 7 = .ok (.ifCond .eq 14, 3) := by decide +kernel
theorem dX0_takeMost_10 : decode cX0_takeMost 10 = .ok (.iload_n 2, 1) := by decide +kernel
theorem dX0_takeMost_11 : decode cX0_takeMost 11 = .ok (.iconst 1, 1) := by decide +kernel
theorem dX0_takeMost_12 : decode cX0_takeMost 12 = .ok (.sipush 999, 3) := by decide +kernel
theorem dX0_takeMost_15 : decode cX0_takeMost 15 = .ok (.invokestatic 105, 3) := by decide +kernel
theorem dX0_takeMost_18 : decode cX0_takeMost 18 = .ok (.ifCond .ne 5, 3) := by decide +kernel
theorem dX0_takeMost_21 : decode cX0_takeMost 21 = .ok (.iconst 0, 1) := by decide +kernel
theorem dX0_takeMost_22 : decode cX0_takeMost 22 = .ok (.ireturn, 1) := by decide +kernel
theorem dX0_takeMost_23 : decode cX0_takeMost 23 = .ok (.aload_n 0, 1) := by decide +kernel
theorem dX0_takeMost_24 : decode cX0_takeMost 24 = .ok (.iload_n 1, 1) := by decide +kernel
theorem dX0_takeMost_25 : decode cX0_takeMost 25 = .ok (.putfield 73, 3) := by decide +kernel
theorem dX0_takeMost_28 : decode cX0_takeMost 28 = .ok (.aload_n 0, 1) := by decide +kernel
theorem dX0_takeMost_29 : decode cX0_takeMost 29 = .ok (.iload_n 2, 1) := by decide +kernel
theorem dX0_takeMost_30 : decode cX0_takeMost 30 = .ok (.putfield 76, 3) := by decide +kernel
theorem dX0_takeMost_33 : decode cX0_takeMost 33 = .ok (.iconst 1, 1) := by decide +kernel
theorem dX0_takeMost_34 : decode cX0_takeMost 34 = .ok (.ireturn, 1) := by decide +kernel
set_option maxRecDepth 20000 in
theorem ggX0_takeSteel_X11_within : GoodIn wsX0_takeSteel wsX11_within := goodIn_r _ [6] (by decide +kernel) (by decide +kernel)
set_option maxRecDepth 20000 in
theorem gX0_takeSteel_X11_within_n105 : GoodIn wsX0_takeSteel (wsX11_within) := ggX0_takeSteel_X11_within
theorem dX0_takeSteel_0 : decode cX0_takeSteel 0 = .ok (.iload_n 1, 1) := by decide +kernel
theorem dX0_takeSteel_1 : decode cX0_takeSteel 1 = .ok (.iconst 1, 1) := by decide +kernel
theorem dX0_takeSteel_2 : decode cX0_takeSteel 2 = .ok (.sipush 400, 3) := by decide +kernel
theorem dX0_takeSteel_5 : decode cX0_takeSteel 5 = .ok (.invokestatic 105, 3) := by decide +kernel
theorem dX0_takeSteel_8 : decode cX0_takeSteel 8 = .ok (.ifCond .eq 25, 3) := by decide +kernel
theorem dX0_takeSteel_11 : decode cX0_takeSteel 11 = .ok (.iload_n 2, 1) := by decide +kernel
theorem dX0_takeSteel_12 : decode cX0_takeSteel 12 = .ok (.iconst 0, 1) := by decide +kernel
theorem dX0_takeSteel_13 : decode cX0_takeSteel 13 = .ok (.bipush 10, 2) := by decide +kernel
theorem dX0_takeSteel_15 : decode cX0_takeSteel 15 = .ok (.invokestatic 105, 3) := by decide +kernel
theorem dX0_takeSteel_18 : decode cX0_takeSteel 18 = .ok (.ifCond .eq 15, 3) := by decide +kernel
theorem dX0_takeSteel_21 : decode cX0_takeSteel 21 = .ok (.aload_n 0, 1) := by decide +kernel
theorem dX0_takeSteel_22 : decode cX0_takeSteel 22 = .ok (.getfield 61, 3) := by decide +kernel
theorem dX0_takeSteel_25 : decode cX0_takeSteel 25 = .ok (.iconst 0, 1) := by decide +kernel
theorem dX0_takeSteel_26 : decode cX0_takeSteel 26 = .ok (.iconst 3, 1) := by decide +kernel
theorem dX0_takeSteel_27 : decode cX0_takeSteel 27 = .ok (.invokestatic 105, 3) := by decide +kernel
theorem dX0_takeSteel_30 : decode cX0_takeSteel 30 = .ok (.ifCond .ne 5, 3) := by decide +kernel
theorem dX0_takeSteel_33 : decode cX0_takeSteel 33 = .ok (.iconst 0, 1) := by decide +kernel
theorem dX0_takeSteel_34 : decode cX0_takeSteel 34 = .ok (.ireturn, 1) := by decide +kernel
theorem dX0_takeSteel_35 : decode cX0_takeSteel 35 = .ok (.aload_n 0, 1) := by decide +kernel
theorem dX0_takeSteel_36 : decode cX0_takeSteel 36 = .ok (.getfield 30, 3) := by decide +kernel
theorem dX0_takeSteel_39 : decode cX0_takeSteel 39 = .ok (.aload_n 0, 1) := by decide +kernel
theorem dX0_takeSteel_40 : decode cX0_takeSteel 40 = .ok (.getfield 61, 3) := by decide +kernel
theorem dX0_takeSteel_43 : decode cX0_takeSteel 43 = .ok (.iload_n 1, 1) := by decide +kernel
theorem dX0_takeSteel_44 : decode cX0_takeSteel 44 = .ok (.iastore, 1) := by decide +kernel
theorem dX0_takeSteel_45 : decode cX0_takeSteel 45 = .ok (.aload_n 0, 1) := by decide +kernel
theorem dX0_takeSteel_46 : decode cX0_takeSteel 46 = .ok (.getfield 33, 3) := by decide +kernel
theorem dX0_takeSteel_49 : decode cX0_takeSteel 49 = .ok (.aload_n 0, 1) := by decide +kernel
theorem dX0_takeSteel_50 : decode cX0_takeSteel 50 = .ok (.getfield 61, 3) := by decide +kernel
theorem dX0_takeSteel_53 : decode cX0_takeSteel 53 = .ok (.iload_n 2, 1) := by decide +kernel
theorem dX0_takeSteel_54 : decode cX0_takeSteel 54 = .ok (.iastore, 1) := by decide +kernel
theorem dX0_takeSteel_55 : decode cX0_takeSteel 55 = .ok (.aload_n 0, 1) := by decide +kernel
theorem dX0_takeSteel_56 : decode cX0_takeSteel 56 = .ok (.dup, 1) := by decide +kernel
theorem dX0_takeSteel_57 : decode cX0_takeSteel 57 = .ok (.getfield 61, 3) := by decide +kernel
theorem dX0_takeSteel_60 : decode cX0_takeSteel 60 = .ok (.iconst 1, 1) := by decide +kernel
theorem dX0_takeSteel_61 : decode cX0_takeSteel 61 = .ok (.iadd, 1) := by decide +kernel
theorem dX0_takeSteel_62 : decode cX0_takeSteel 62 = .ok (.putfield 61, 3) := by decide +kernel
theorem dX0_takeSteel_65 : decode cX0_takeSteel 65 = .ok (.iconst 1, 1) := by decide +kernel
theorem dX0_takeSteel_66 : decode cX0_takeSteel 66 = .ok (.ireturn, 1) := by decide +kernel
set_option maxRecDepth 20000 in
theorem ggX0_finish_X0_takeSteel : GoodIn wsX0_finish wsX0_takeSteel := goodIn_r _ [7, 1, 8, 9, 10, 11, 12, 19, 20, 21, 22, 23, 24, 25, 26, 27, 28, 29, 30, 31, 32, 33, 34, 35] (by decide +kernel) (by decide +kernel)
set_option maxRecDepth 20000 in
theorem gX0_finish_X0_takeSteel : GoodIn wsX0_finish (wsV RX0 102 RX0 yX0_takeSteel wsX0_takeSteel) := goodIn_app (goodIn_of _ (by decide +kernel)) ggX0_finish_X0_takeSteel
set_option maxRecDepth 20000 in
theorem ggX0_finish_X0_tenthsOf : GoodIn wsX0_finish wsX0_tenthsOf := goodIn_r _ [16, 9, 17, 11, 18, 19, 20, 21, 22, 23, 24, 25, 26, 27, 28, 29, 30, 31, 32, 33, 34, 35] (by decide +kernel) (by decide +kernel)
set_option maxRecDepth 20000 in
theorem gX0_finish_X0_tenthsOf : GoodIn wsX0_finish (wsV RX0 109 RX0 yX0_tenthsOf wsX0_tenthsOf) := goodIn_app (goodIn_of _ (by decide +kernel)) ggX0_finish_X0_tenthsOf
theorem dX0_finish_0 : decode cX0_finish 0 = .ok (.aload_n 0, 1) := by decide +kernel
theorem dX0_finish_1 : decode cX0_finish 1 = .ok (.getfield 61, 3) := by decide +kernel
theorem dX0_finish_4 : decode cX0_finish 4 = .ok (.ifCond .ne 12, 3) := by decide +kernel
theorem dX0_finish_7 : decode cX0_finish 7 = .ok (.aload_n 0, 1) := by decide +kernel
theorem dX0_finish_8 : decode cX0_finish 8 = .ok (.bipush 100, 2) := by decide +kernel
theorem dX0_finish_10 : decode cX0_finish 10 = .ok (.bipush 10, 2) := by decide +kernel
theorem dX0_finish_12 : decode cX0_finish 12 = .ok (.invokevirtual 102, 3) := by decide +kernel
theorem dX0_finish_15 : decode cX0_finish 15 = .ok (.pop, 1) := by decide +kernel
theorem dX0_finish_16 : decode cX0_finish 16 = .ok (.iconst 0, 1) := by decide +kernel
theorem dX0_finish_17 : decode cX0_finish 17 = .ok (.istore_n 1, 1) := by decide +kernel
theorem dX0_finish_18 : decode cX0_finish 18 = .ok (.iconst 0, 1) := by decide +kernel
theorem dX0_finish_19 : decode cX0_finish 19 = .ok (.istore_n 2, 1) := by decide +kernel
theorem dX0_finish_20 : decode cX0_finish 20 = .ok (.iload_n 2, 1) := by decide +kernel
theorem dX0_finish_21 : decode cX0_finish 21 = .ok (.aload_n 0, 1) := by decide +kernel
theorem dX0_finish_22 : decode cX0_finish 22 = .ok (.getfield 36, 3) := by decide +kernel
theorem dX0_finish_25 : decode cX0_finish 25 = .ok (.arraylength, 1) := by decide +kernel
theorem dX0_finish_26 : decode cX0_finish 26 = .ok (.if_icmp .ge 36, 3) := by decide +kernel
theorem dX0_finish_29 : decode cX0_finish 29 = .ok (.aload_n 0, 1) := by decide +kernel
theorem dX0_finish_30 : decode cX0_finish 30 = .ok (.getfield 36, 3) := by decide +kernel
theorem dX0_finish_33 : decode cX0_finish 33 = .ok (.iload_n 2, 1) := by decide +kernel
theorem dX0_finish_34 : decode cX0_finish 34 = .ok (.iaload, 1) := by decide +kernel
theorem dX0_finish_35 : decode cX0_finish 35 = .ok (.ifCond .ge 7, 3) := by decide +kernel
theorem dX0_finish_38 : decode cX0_finish 38 = .ok (.iload_n 1, 1) := by decide +kernel
theorem dX0_finish_39 : decode cX0_finish 39 = .ok (.goto 9, 3) := by decide +kernel
theorem dX0_finish_42 : decode cX0_finish 42 = .ok (.aload_n 0, 1) := by decide +kernel
theorem dX0_finish_43 : decode cX0_finish 43 = .ok (.getfield 36, 3) := by decide +kernel
theorem dX0_finish_46 : decode cX0_finish 46 = .ok (.iload_n 2, 1) := by decide +kernel
theorem dX0_finish_47 : decode cX0_finish 47 = .ok (.iaload, 1) := by decide +kernel
theorem dX0_finish_48 : decode cX0_finish 48 = .ok (.istore_n 1, 1) := by decide +kernel
theorem dX0_finish_49 : decode cX0_finish 49 = .ok (.aload_n 0, 1) := by decide +kernel
theorem dX0_finish_50 : decode cX0_finish 50 = .ok (.getfield 36, 3) := by decide +kernel
theorem dX0_finish_53 : decode cX0_finish 53 = .ok (.iload_n 2, 1) := by decide +kernel
theorem dX0_finish_54 : decode cX0_finish 54 = .ok (.iload_n 1, 1) := by decide +kernel
theorem dX0_finish_55 : decode cX0_finish 55 = .ok (.iastore, 1) := by decide +kernel
theorem dX0_finish_56 : decode cX0_finish 56 = .ok (.iinc 2 1, 3) := by decide +kernel
theorem dX0_finish_59 : decode cX0_finish 59 = .ok (.goto (-39), 3) := by decide +kernel
theorem dX0_finish_62 : decode cX0_finish 62 = .ok (.iconst 0, 1) := by decide +kernel
theorem dX0_finish_63 : decode cX0_finish 63 = .ok (.istore_n 2, 1) := by decide +kernel
theorem dX0_finish_64 : decode cX0_finish 64 = .ok (.iconst 0, 1) := by decide +kernel
theorem dX0_finish_65 : decode cX0_finish 65 = .ok (.istore_n 3, 1) := by decide +kernel
theorem dX0_finish_66 : decode cX0_finish 66 = .ok (.iload_n 3, 1) := by decide +kernel
theorem dX0_finish_67 : decode cX0_finish 67 = .ok (.aload_n 0, 1) := by decide +kernel
theorem dX0_finish_68 : decode cX0_finish 68 = .ok (.getfield 61, 3) := by decide +kernel
theorem dX0_finish_71 : decode cX0_finish 71 = .ok (.if_icmp .ge 17, 3) := by decide +kernel
theorem dX0_finish_74 : decode cX0_finish 74 = .ok (.iload_n 2, 1) := by decide +kernel
theorem dX0_finish_75 : decode cX0_finish 75 = .ok (.aload_n 0, 1) := by decide +kernel
theorem dX0_finish_76 : decode cX0_finish 76 = .ok (.iload_n 3, 1) := by decide +kernel
theorem dX0_finish_77 : decode cX0_finish 77 = .ok (.invokevirtual 109, 3) := by decide +kernel
theorem dX0_finish_80 : decode cX0_finish 80 = .ok (.iadd, 1) := by decide +kernel
theorem dX0_finish_81 : decode cX0_finish 81 = .ok (.istore_n 2, 1) := by decide +kernel
theorem dX0_finish_82 : decode cX0_finish 82 = .ok (.iinc 3 1, 3) := by decide +kernel
theorem dX0_finish_85 : decode cX0_finish 85 = .ok (.goto (-19), 3) := by decide +kernel
theorem dX0_finish_88 : decode cX0_finish 88 = .ok (.iload_n 2, 1) := by decide +kernel
theorem dX0_finish_89 : decode cX0_finish 89 = .ok (.bipush 10, 2) := by decide +kernel
theorem dX0_finish_91 : decode cX0_finish 91 = .ok (.if_icmp .ne 7, 3) := by decide +kernel
theorem dX0_finish_94 : decode cX0_finish 94 = .ok (.iconst 1, 1) := by decide +kernel
theorem dX0_finish_95 : decode cX0_finish 95 = .ok (.goto 4, 3) := by decide +kernel
theorem dX0_finish_98 : decode cX0_finish 98 = .ok (.iconst 0, 1) := by decide +kernel
theorem dX0_finish_99 : decode cX0_finish 99 = .ok (.ireturn, 1) := by decide +kernel
set_option maxRecDepth 20000 in
theorem ggX0_hasPiece_X11_within : GoodIn wsX0_hasPiece wsX11_within := goodIn_r _ [4] (by decide +kernel) (by decide +kernel)
set_option maxRecDepth 20000 in
theorem gX0_hasPiece_X11_within_n105 : GoodIn wsX0_hasPiece (wsX11_within) := ggX0_hasPiece_X11_within
theorem dX0_hasPiece_0 : decode cX0_hasPiece 0 = .ok (.iload_n 1, 1) := by decide +kernel
theorem dX0_hasPiece_1 : decode cX0_hasPiece 1 = .ok (.iconst 0, 1) := by decide +kernel
theorem dX0_hasPiece_2 : decode cX0_hasPiece 2 = .ok (.aload_n 0, 1) := by decide +kernel
theorem dX0_hasPiece_3 : decode cX0_hasPiece 3 = .ok (.getfield 58, 3) := by decide +kernel
theorem dX0_hasPiece_6 : decode cX0_hasPiece 6 = .ok (.iconst 1, 1) := by decide +kernel
theorem dX0_hasPiece_7 : decode cX0_hasPiece 7 = .ok (.isub, 1) := by decide +kernel
theorem dX0_hasPiece_8 : decode cX0_hasPiece 8 = .ok (.invokestatic 105, 3) := by decide +kernel
theorem dX0_hasPiece_11 : decode cX0_hasPiece 11 = .ok (.ireturn, 1) := by decide +kernel
set_option maxRecDepth 20000 in
theorem ggX0_hasSpeed_X11_within : GoodIn wsX0_hasSpeed wsX11_within := goodIn_r _ [4] (by decide +kernel) (by decide +kernel)
set_option maxRecDepth 20000 in
theorem gX0_hasSpeed_X11_within_n105 : GoodIn wsX0_hasSpeed (wsX11_within) := ggX0_hasSpeed_X11_within
theorem dX0_hasSpeed_0 : decode cX0_hasSpeed 0 = .ok (.iload_n 1, 1) := by decide +kernel
theorem dX0_hasSpeed_1 : decode cX0_hasSpeed 1 = .ok (.iconst 0, 1) := by decide +kernel
theorem dX0_hasSpeed_2 : decode cX0_hasSpeed 2 = .ok (.aload_n 0, 1) := by decide +kernel
theorem dX0_hasSpeed_3 : decode cX0_hasSpeed 3 = .ok (.getfield 54, 3) := by decide +kernel
theorem dX0_hasSpeed_6 : decode cX0_hasSpeed 6 = .ok (.iconst 1, 1) := by decide +kernel
theorem dX0_hasSpeed_7 : decode cX0_hasSpeed 7 = .ok (.isub, 1) := by decide +kernel
theorem dX0_hasSpeed_8 : decode cX0_hasSpeed 8 = .ok (.invokestatic 105, 3) := by decide +kernel
theorem dX0_hasSpeed_11 : decode cX0_hasSpeed 11 = .ok (.ireturn, 1) := by decide +kernel
set_option maxRecDepth 20000 in
theorem ggX0_hasSteel_X11_within : GoodIn wsX0_hasSteel wsX11_within := goodIn_r _ [4] (by decide +kernel) (by decide +kernel)
set_option maxRecDepth 20000 in
theorem gX0_hasSteel_X11_within_n105 : GoodIn wsX0_hasSteel (wsX11_within) := ggX0_hasSteel_X11_within
theorem dX0_hasSteel_0 : decode cX0_hasSteel 0 = .ok (.iload_n 1, 1) := by decide +kernel
theorem dX0_hasSteel_1 : decode cX0_hasSteel 1 = .ok (.iconst 0, 1) := by decide +kernel
theorem dX0_hasSteel_2 : decode cX0_hasSteel 2 = .ok (.aload_n 0, 1) := by decide +kernel
theorem dX0_hasSteel_3 : decode cX0_hasSteel 3 = .ok (.getfield 61, 3) := by decide +kernel
theorem dX0_hasSteel_6 : decode cX0_hasSteel 6 = .ok (.iconst 1, 1) := by decide +kernel
theorem dX0_hasSteel_7 : decode cX0_hasSteel 7 = .ok (.isub, 1) := by decide +kernel
theorem dX0_hasSteel_8 : decode cX0_hasSteel 8 = .ok (.invokestatic 105, 3) := by decide +kernel
theorem dX0_hasSteel_11 : decode cX0_hasSteel 11 = .ok (.ireturn, 1) := by decide +kernel
set_option maxRecDepth 20000 in
theorem ggX0_isState_X0_hasPiece : GoodIn wsX0_isState wsX0_hasPiece := goodIn_r _ [5, 6, 7, 8, 9, 17, 18, 19, 20, 21, 22, 23, 24, 25, 26, 27, 28, 29, 30, 31, 32, 33] (by decide +kernel) (by decide +kernel)
set_option maxRecDepth 20000 in
theorem gX0_isState_X0_hasPiece : GoodIn wsX0_isState (wsV RX0 113 RX0 yX0_hasPiece wsX0_hasPiece) := goodIn_app (goodIn_of _ (by decide +kernel)) ggX0_isState_X0_hasPiece
set_option maxRecDepth 20000 in
theorem ggX0_isState_X0_stepsOf : GoodIn wsX0_isState wsX0_stepsOf := goodIn_r _ [13, 14, 15, 8, 16, 17, 18, 19, 20, 21, 22, 23, 24, 25, 26, 27, 28, 29, 30, 31, 32, 33] (by decide +kernel) (by decide +kernel)
set_option maxRecDepth 20000 in
theorem gX0_isState_X0_stepsOf : GoodIn wsX0_isState (wsV RX0 116 RX0 yX0_stepsOf wsX0_stepsOf) := goodIn_app (goodIn_of _ (by decide +kernel)) ggX0_isState_X0_stepsOf
set_option maxRecDepth 20000 in
theorem ggX0_isState_X11_within : GoodIn wsX0_isState wsX11_within := goodIn_r _ [9] (by decide +kernel) (by decide +kernel)
set_option maxRecDepth 20000 in
theorem gX0_isState_X11_within_n105 : GoodIn wsX0_isState (wsX11_within) := ggX0_isState_X11_within
theorem dX0_isState_0 : decode cX0_isState 0 = .ok (.aload_n 0, 1) := by decide +kernel
theorem dX0_isState_1 : decode cX0_isState 1 = .ok (.iload_n 1, 1) := by decide +kernel
theorem dX0_isState_2 : decode cX0_isState 2 = .ok (.invokevirtual 113, 3) := by decide +kernel
theorem dX0_isState_5 : decode cX0_isState 5 = .ok (.ifCond .eq 30, 3) := by decide +kernel
theorem dX0_isState_8 : decode cX0_isState 8 = .ok (.iload_n 2, 1) := by decide +kernel
theorem dX0_isState_9 : decode cX0_isState 9 = .ok (.iconst 1, 1) := by decide +kernel
theorem dX0_isState_10 : decode cX0_isState 10 = .ok (.aload_n 0, 1) := by decide +kernel
theorem dX0_isState_11 : decode cX0_isState 11 = .ok (.iload_n 1, 1) := by decide +kernel
theorem dX0_isState_12 : decode cX0_isState 12 = .ok (.invokevirtual 116, 3) := by decide +kernel
theorem dX0_isState_15 : decode cX0_isState 15 = .ok (.invokestatic 105, 3) := by decide +kernel
theorem dX0_isState_18 : decode cX0_isState 18 = .ok (.ifCond .eq 17, 3) := by decide +kernel
theorem dX0_isState_21 : decode cX0_isState 21 = .ok (.iload_n 3, 1) := by decide +kernel
theorem dX0_isState_22 : decode cX0_isState 22 = .ok (.iconst 0, 1) := by decide +kernel
theorem dX0_isState_23 : decode cX0_isState 23 = .ok (.bipush 100, 2) := by decide +kernel
theorem dX0_isState_25 : decode cX0_isState 25 = .ok (.invokestatic 105, 3) := by decide +kernel
theorem dX0_isState_28 : decode cX0_isState 28 = .ok (.ifCond .eq 7, 3) := by decide +kernel
theorem dX0_isState_31 : decode cX0_isState 31 = .ok (.iconst 1, 1) := by decide +kernel
theorem dX0_isState_32 : decode cX0_isState 32 = .ok (.goto 4, 3) := by decide +kernel
theorem dX0_isState_35 : decode cX0_isState 35 = .ok (.iconst 0, 1) := by decide +kernel
theorem dX0_isState_36 : decode cX0_isState 36 = .ok (.ireturn, 1) := by decide +kernel
set_option maxRecDepth 20000 in
theorem ggX0_isPass_X11_depthOf : GoodIn wsX0_isPass wsX11_depthOf := goodIn_r _ [3] (by decide +kernel) (by decide +kernel)
set_option maxRecDepth 20000 in
theorem gX0_isPass_X11_depthOf_n119 : GoodIn wsX0_isPass (wsX11_depthOf) := ggX0_isPass_X11_depthOf
set_option maxRecDepth 20000 in
theorem ggX0_isPass_X11_speedOf : GoodIn wsX0_isPass wsX11_speedOf := goodIn_r _ [5] (by decide +kernel) (by decide +kernel)
set_option maxRecDepth 20000 in
theorem gX0_isPass_X11_speedOf_n122 : GoodIn wsX0_isPass (wsX11_speedOf) := ggX0_isPass_X11_speedOf
set_option maxRecDepth 20000 in
theorem ggX0_isPass_X0_hasSpeed : GoodIn wsX0_isPass wsX0_hasSpeed := goodIn_r _ [10, 11, 12, 2, 13, 23, 24, 25, 26, 27, 28, 29, 30, 31, 32, 33, 34, 35, 36, 37, 38, 39] (by decide +kernel) (by decide +kernel)
set_option maxRecDepth 20000 in
theorem gX0_isPass_X0_hasSpeed : GoodIn wsX0_isPass (wsV RX0 125 RX0 yX0_hasSpeed wsX0_hasSpeed) := goodIn_app (goodIn_of _ (by decide +kernel)) ggX0_isPass_X0_hasSpeed
set_option maxRecDepth 20000 in
theorem ggX0_isPass_X0_mayCut : GoodIn wsX0_isPass wsX0_mayCut := goodIn_r _ [17, 18, 19, 20, 21, 2, 22, 23, 24, 25, 26, 27, 28, 29, 30, 31, 32, 33, 34, 35, 36, 37, 38, 39] (by decide +kernel) (by decide +kernel)
set_option maxRecDepth 20000 in
theorem gX0_isPass_X0_mayCut : GoodIn wsX0_isPass (wsV RX0 128 RX0 yX0_mayCut wsX0_mayCut) := goodIn_app (goodIn_of _ (by decide +kernel)) ggX0_isPass_X0_mayCut
theorem dX0_isPass_0 : decode cX0_isPass 0 = .ok (.iload_n 1, 1) := by decide +kernel
theorem dX0_isPass_1 : decode cX0_isPass 1 = .ok (.invokestatic 119, 3) := by decide +kernel
theorem dX0_isPass_4 : decode cX0_isPass 4 = .ok (.istore_n 3, 1) := by decide +kernel
theorem dX0_isPass_5 : decode cX0_isPass 5 = .ok (.aload_n 0, 1) := by decide +kernel
theorem dX0_isPass_6 : decode cX0_isPass 6 = .ok (.iload_n 1, 1) := by decide +kernel
theorem dX0_isPass_7 : decode cX0_isPass 7 = .ok (.invokestatic 122, 3) := by decide +kernel
theorem dX0_isPass_10 : decode cX0_isPass 10 = .ok (.invokevirtual 125, 3) := by decide +kernel
theorem dX0_isPass_13 : decode cX0_isPass 13 = .ok (.ifCond .eq 24, 3) := by decide +kernel
theorem dX0_isPass_16 : decode cX0_isPass 16 = .ok (.iload_n 3, 1) := by decide +kernel
theorem dX0_isPass_17 : decode cX0_isPass 17 = .ok (.iload_n 2, 1) := by decide +kernel
theorem dX0_isPass_18 : decode cX0_isPass 18 = .ok (.if_icmp .gt 19, 3) := by decide +kernel
theorem dX0_isPass_21 : decode cX0_isPass 21 = .ok (.aload_n 0, 1) := by decide +kernel
theorem dX0_isPass_22 : decode cX0_isPass 22 = .ok (.iload_n 1, 1) := by decide +kernel
theorem dX0_isPass_23 : decode cX0_isPass 23 = .ok (.invokestatic 122, 3) := by decide +kernel
theorem dX0_isPass_26 : decode cX0_isPass 26 = .ok (.iload_n 3, 1) := by decide +kernel
theorem dX0_isPass_27 : decode cX0_isPass 27 = .ok (.invokevirtual 128, 3) := by decide +kernel
theorem dX0_isPass_30 : decode cX0_isPass 30 = .ok (.ifCond .eq 7, 3) := by decide +kernel
theorem dX0_isPass_33 : decode cX0_isPass 33 = .ok (.iconst 1, 1) := by decide +kernel
theorem dX0_isPass_34 : decode cX0_isPass 34 = .ok (.goto 4, 3) := by decide +kernel
theorem dX0_isPass_37 : decode cX0_isPass 37 = .ok (.iconst 0, 1) := by decide +kernel
theorem dX0_isPass_38 : decode cX0_isPass 38 = .ok (.ireturn, 1) := by decide +kernel
set_option maxRecDepth 20000 in
theorem ggX0_stepsOf_X11_at : GoodIn wsX0_stepsOf wsX11_at := goodIn_r _ [4] (by decide +kernel) (by decide +kernel)
set_option maxRecDepth 20000 in
theorem gX0_stepsOf_X11_at_n85 : GoodIn wsX0_stepsOf (wsX11_at) := ggX0_stepsOf_X11_at
theorem dX0_stepsOf_0 : decode cX0_stepsOf 0 = .ok (.aload_n 0, 1) := by decide +kernel
theorem dX0_stepsOf_1 : decode cX0_stepsOf 1 = .ok (.getfield 21, 3) := by decide +kernel
theorem dX0_stepsOf_4 : decode cX0_stepsOf 4 = .ok (.iload_n 1, 1) := by decide +kernel
theorem dX0_stepsOf_5 : decode cX0_stepsOf 5 = .ok (.invokestatic 85, 3) := by decide +kernel
theorem dX0_stepsOf_8 : decode cX0_stepsOf 8 = .ok (.ireturn, 1) := by decide +kernel
set_option maxRecDepth 20000 in
theorem ggX0_fineOf_X11_at : GoodIn wsX0_fineOf wsX11_at := goodIn_r _ [4] (by decide +kernel) (by decide +kernel)
set_option maxRecDepth 20000 in
theorem gX0_fineOf_X11_at_n85 : GoodIn wsX0_fineOf (wsX11_at) := ggX0_fineOf_X11_at
theorem dX0_fineOf_0 : decode cX0_fineOf 0 = .ok (.aload_n 0, 1) := by decide +kernel
theorem dX0_fineOf_1 : decode cX0_fineOf 1 = .ok (.getfield 24, 3) := by decide +kernel
theorem dX0_fineOf_4 : decode cX0_fineOf 4 = .ok (.iload_n 1, 1) := by decide +kernel
theorem dX0_fineOf_5 : decode cX0_fineOf 5 = .ok (.invokestatic 85, 3) := by decide +kernel
theorem dX0_fineOf_8 : decode cX0_fineOf 8 = .ok (.ireturn, 1) := by decide +kernel
set_option maxRecDepth 20000 in
theorem ggX0_worthOf_X11_at : GoodIn wsX0_worthOf wsX11_at := goodIn_r _ [4] (by decide +kernel) (by decide +kernel)
set_option maxRecDepth 20000 in
theorem gX0_worthOf_X11_at_n85 : GoodIn wsX0_worthOf (wsX11_at) := ggX0_worthOf_X11_at
theorem dX0_worthOf_0 : decode cX0_worthOf 0 = .ok (.aload_n 0, 1) := by decide +kernel
theorem dX0_worthOf_1 : decode cX0_worthOf 1 = .ok (.getfield 27, 3) := by decide +kernel
theorem dX0_worthOf_4 : decode cX0_worthOf 4 = .ok (.iload_n 1, 1) := by decide +kernel
theorem dX0_worthOf_5 : decode cX0_worthOf 5 = .ok (.invokestatic 85, 3) := by decide +kernel
theorem dX0_worthOf_8 : decode cX0_worthOf 8 = .ok (.ireturn, 1) := by decide +kernel
set_option maxRecDepth 20000 in
theorem ggX0_inchesOf_X11_at : GoodIn wsX0_inchesOf wsX11_at := goodIn_r _ [4] (by decide +kernel) (by decide +kernel)
set_option maxRecDepth 20000 in
theorem gX0_inchesOf_X11_at_n85 : GoodIn wsX0_inchesOf (wsX11_at) := ggX0_inchesOf_X11_at
theorem dX0_inchesOf_0 : decode cX0_inchesOf 0 = .ok (.aload_n 0, 1) := by decide +kernel
theorem dX0_inchesOf_1 : decode cX0_inchesOf 1 = .ok (.getfield 9, 3) := by decide +kernel
theorem dX0_inchesOf_4 : decode cX0_inchesOf 4 = .ok (.iload_n 1, 1) := by decide +kernel
theorem dX0_inchesOf_5 : decode cX0_inchesOf 5 = .ok (.invokestatic 85, 3) := by decide +kernel
theorem dX0_inchesOf_8 : decode cX0_inchesOf 8 = .ok (.ireturn, 1) := by decide +kernel
set_option maxRecDepth 20000 in
theorem ggX0_tenthsOf_X11_at : GoodIn wsX0_tenthsOf wsX11_at := goodIn_r _ [4] (by decide +kernel) (by decide +kernel)
set_option maxRecDepth 20000 in
theorem gX0_tenthsOf_X11_at_n85 : GoodIn wsX0_tenthsOf (wsX11_at) := ggX0_tenthsOf_X11_at
theorem dX0_tenthsOf_0 : decode cX0_tenthsOf 0 = .ok (.aload_n 0, 1) := by decide +kernel
theorem dX0_tenthsOf_1 : decode cX0_tenthsOf 1 = .ok (.getfield 33, 3) := by decide +kernel
theorem dX0_tenthsOf_4 : decode cX0_tenthsOf 4 = .ok (.iload_n 1, 1) := by decide +kernel
theorem dX0_tenthsOf_5 : decode cX0_tenthsOf 5 = .ok (.invokestatic 85, 3) := by decide +kernel
theorem dX0_tenthsOf_8 : decode cX0_tenthsOf 8 = .ok (.ireturn, 1) := by decide +kernel
set_option maxRecDepth 20000 in
theorem ggX0_mayCut_X11_at : GoodIn wsX0_mayCut wsX11_at := goodIn_r _ [6] (by decide +kernel) (by decide +kernel)
set_option maxRecDepth 20000 in
theorem gX0_mayCut_X11_at_n85 : GoodIn wsX0_mayCut (wsX11_at) := ggX0_mayCut_X11_at
theorem dX0_mayCut_0 : decode cX0_mayCut 0 = .ok (.iload_n 2, 1) := by decide +kernel
theorem dX0_mayCut_1 : decode cX0_mayCut 1 = .ok (.aload_n 0, 1) := by decide +kernel
theorem dX0_mayCut_2 : decode cX0_mayCut 2 = .ok (.getfield 73, 3) := by decide +kernel
theorem dX0_mayCut_5 : decode cX0_mayCut 5 = .ok (.if_icmp .gt 24, 3) := by decide +kernel
theorem dX0_mayCut_8 : decode cX0_mayCut 8 = .ok (.aload_n 0, 1) := by decide +kernel
theorem dX0_mayCut_9 : decode cX0_mayCut 9 = .ok (.getfield 9, 3) := by decide +kernel
theorem dX0_mayCut_12 : decode cX0_mayCut 12 = .ok (.iload_n 1, 1) := by decide +kernel
theorem dX0_mayCut_13 : decode cX0_mayCut 13 = .ok (.invokestatic 85, 3) := by decide +kernel
theorem dX0_mayCut_16 : decode cX0_mayCut 16 = .ok (.iload_n 2, 1) := by decide +kernel
theorem dX0_mayCut_17 : decode cX0_mayCut 17 = .ok (.imul, 1) := by decide +kernel
theorem dX0_mayCut_18 : decode cX0_mayCut 18 = .ok (.aload_n 0, 1) := by decide +kernel
theorem dX0_mayCut_19 : decode cX0_mayCut 19 = .ok (.getfield 76, 3) := by decide +kernel
theorem dX0_mayCut_22 : decode cX0_mayCut 22 = .ok (.if_icmp .gt 7, 3) := by decide +kernel
theorem dX0_mayCut_25 : decode cX0_mayCut 25 = .ok (.iconst 1, 1) := by decide +kernel
theorem dX0_mayCut_26 : decode cX0_mayCut 26 = .ok (.goto 4, 3) := by decide +kernel
theorem dX0_mayCut_29 : decode cX0_mayCut 29 = .ok (.iconst 0, 1) := by decide +kernel
theorem dX0_mayCut_30 : decode cX0_mayCut 30 = .ok (.ireturn, 1) := by decide +kernel
set_option maxRecDepth 20000 in
theorem ggX0_deepest_X11_at : GoodIn wsX0_deepest wsX11_at := goodIn_r _ [10] (by decide +kernel) (by decide +kernel)
set_option maxRecDepth 20000 in
theorem gX0_deepest_X11_at_n85 : GoodIn wsX0_deepest (wsX11_at) := ggX0_deepest_X11_at
theorem dX0_deepest_0 : decode cX0_deepest 0 = .ok (.aload_n 0, 1) := by decide +kernel
theorem dX0_deepest_1 : decode cX0_deepest 1 = .ok (.getfield 9, 3) := by decide +kernel
theorem dX0_deepest_4 : decode cX0_deepest 4 = .ok (.iload_n 1, 1) := by decide +kernel
theorem dX0_deepest_5 : decode cX0_deepest 5 = .ok (.invokestatic 85, 3) := by decide +kernel
theorem dX0_deepest_8 : decode cX0_deepest 8 = .ok (.istore_n 3, 1) := by decide +kernel
theorem dX0_deepest_9 : decode cX0_deepest 9 = .ok (.iload_n 3, 1) := by decide +kernel
theorem dX0_deepest_10 : decode cX0_deepest 10 = .ok (.iconst 1, 1) := by decide +kernel
theorem dX0_deepest_11 : decode cX0_deepest 11 = .ok (.if_icmp .ge 7, 3) := by decide +kernel
theorem dX0_deepest_14 : decode cX0_deepest 14 = .ok (.iconst 0, 1) := by decide +kernel
theorem dX0_deepest_15 : decode cX0_deepest 15 = .ok (.goto 20, 3) := by decide +kernel
theorem dX0_deepest_18 : decode cX0_deepest 18 = .ok (.iload_n 2, 1) := by decide +kernel
theorem dX0_deepest_19 : decode cX0_deepest 19 = .ok (.aload_n 0, 1) := by decide +kernel
theorem dX0_deepest_20 : decode cX0_deepest 20 = .ok (.getfield 73, 3) := by decide +kernel
theorem dX0_deepest_23 : decode cX0_deepest 23 = .ok (.aload_n 0, 1) := by decide +kernel
theorem dX0_deepest_24 : decode cX0_deepest 24 = .ok (.getfield 76, 3) := by decide +kernel
theorem dX0_deepest_27 : decode cX0_deepest 27 = .ok (.iload_n 3, 1) := by decide +kernel
theorem dX0_deepest_28 : decode cX0_deepest 28 = .ok (.idiv, 1) := by decide +kernel
theorem dX0_deepest_29 : decode cX0_deepest 29 = .ok (.invokestatic 131, 3) := by decide +kernel
theorem dX0_deepest_32 : decode cX0_deepest 32 = .ok (.invokestatic 131, 3) := by decide +kernel
theorem dX0_deepest_35 : decode cX0_deepest 35 = .ok (.ireturn, 1) := by decide +kernel
set_option maxRecDepth 20000 in
theorem ggX0_slowest_X11_at : GoodIn wsX0_slowest wsX11_at := goodIn_r _ [5] (by decide +kernel) (by decide +kernel)
set_option maxRecDepth 20000 in
theorem gX0_slowest_X11_at_n85 : GoodIn wsX0_slowest (wsX11_at) := ggX0_slowest_X11_at
theorem dX0_slowest_0 : decode cX0_slowest 0 = .ok (.iconst 0, 1) := by decide +kernel
theorem dX0_slowest_1 : decode cX0_slowest 1 = .ok (.istore_n 1, 1) := by decide +kernel
theorem dX0_slowest_2 : decode cX0_slowest 2 = .ok (.iconst 1, 1) := by decide +kernel
theorem dX0_slowest_3 : decode cX0_slowest 3 = .ok (.istore_n 2, 1) := by decide +kernel
theorem dX0_slowest_4 : decode cX0_slowest 4 = .ok (.iload_n 2, 1) := by decide +kernel
theorem dX0_slowest_5 : decode cX0_slowest 5 = .ok (.aload_n 0, 1) := by decide +kernel
theorem dX0_slowest_6 : decode cX0_slowest 6 = .ok (.getfield 54, 3) := by decide +kernel
theorem dX0_slowest_9 : decode cX0_slowest 9 = .ok (.if_icmp .ge 34, 3) := by decide +kernel
theorem dX0_slowest_12 : decode cX0_slowest 12 = .ok (.aload_n 0, 1) := by decide +kernel
theorem dX0_slowest_13 : decode cX0_slowest 13 = .ok (.getfield 15, 3) := by decide +kernel
theorem dX0_slowest_16 : decode cX0_slowest 16 = .ok (.iload_n 2, 1) := by decide +kernel
theorem dX0_slowest_17 : decode cX0_slowest 17 = .ok (.invokestatic 85, 3) := by decide +kernel
theorem dX0_slowest_20 : decode cX0_slowest 20 = .ok (.aload_n 0, 1) := by decide +kernel
theorem dX0_slowest_21 : decode cX0_slowest 21 = .ok (.getfield 15, 3) := by decide +kernel
theorem dX0_slowest_24 : decode cX0_slowest 24 = .ok (.iload_n 1, 1) := by decide +kernel
theorem dX0_slowest_25 : decode cX0_slowest 25 = .ok (.invokestatic 85, 3) := by decide +kernel
theorem dX0_slowest_28 : decode cX0_slowest 28 = .ok (.if_icmp .ge 7, 3) := by decide +kernel
theorem dX0_slowest_31 : decode cX0_slowest 31 = .ok (.iload_n 2, 1) := by decide +kernel
theorem dX0_slowest_32 : decode cX0_slowest 32 = .ok (.goto 4, 3) := by decide +kernel
theorem dX0_slowest_35 : decode cX0_slowest 35 = .ok (.iload_n 1, 1) := by decide +kernel
theorem dX0_slowest_36 : decode cX0_slowest 36 = .ok (.istore_n 1, 1) := by decide +kernel
theorem dX0_slowest_37 : decode cX0_slowest 37 = .ok (.iinc 2 1, 3) := by decide +kernel
theorem dX0_slowest_40 : decode cX0_slowest 40 = .ok (.goto (-36), 3) := by decide +kernel
theorem dX0_slowest_43 : decode cX0_slowest 43 = .ok (.iload_n 1, 1) := by decide +kernel
theorem dX0_slowest_44 : decode cX0_slowest 44 = .ok (.ireturn, 1) := by decide +kernel
set_option maxRecDepth 20000 in
theorem ggX0_minutes_X11_at : GoodIn wsX0_minutes wsX11_at := goodIn_r _ [5] (by decide +kernel) (by decide +kernel)
set_option maxRecDepth 20000 in
theorem gX0_minutes_X11_at_n85 : GoodIn wsX0_minutes (wsX11_at) := ggX0_minutes_X11_at
theorem dX0_minutes_0 : decode cX0_minutes 0 = .ok (.aload_n 0, 1) := by decide +kernel
theorem dX0_minutes_1 : decode cX0_minutes 1 = .ok (.getfield 9, 3) := by decide +kernel
theorem dX0_minutes_4 : decode cX0_minutes 4 = .ok (.iload_n 2, 1) := by decide +kernel
theorem dX0_minutes_5 : decode cX0_minutes 5 = .ok (.invokestatic 85, 3) := by decide +kernel
theorem dX0_minutes_8 : decode cX0_minutes 8 = .ok (.istore_n 3, 1) := by decide +kernel
theorem dX0_minutes_9 : decode cX0_minutes 9 = .ok (.iload_n 3, 1) := by decide +kernel
theorem dX0_minutes_10 : decode cX0_minutes 10 = .ok (.iconst 1, 1) := by decide +kernel
theorem dX0_minutes_11 : decode cX0_minutes 11 = .ok (.if_icmp .ge 7, 3) := by decide +kernel
theorem dX0_minutes_14 : decode cX0_minutes 14 = .ok (.iconst 0, 1) := by decide +kernel
theorem dX0_minutes_15 : decode cX0_minutes 15 = .ok (.goto 20, 3) := by decide +kernel
theorem dX0_minutes_18 : decode cX0_minutes 18 = .ok (.bipush 100, 2) := by decide +kernel
theorem dX0_minutes_20 : decode cX0_minutes 20 = .ok (.aload_n 0, 1) := by decide +kernel
theorem dX0_minutes_21 : decode cX0_minutes 21 = .ok (.getfield 18, 3) := by decide +kernel
theorem dX0_minutes_24 : decode cX0_minutes 24 = .ok (.iload_n 1, 1) := by decide +kernel
theorem dX0_minutes_25 : decode cX0_minutes 25 = .ok (.invokestatic 85, 3) := by decide +kernel
theorem dX0_minutes_28 : decode cX0_minutes 28 = .ok (.imul, 1) := by decide +kernel
theorem dX0_minutes_29 : decode cX0_minutes 29 = .ok (.iload_n 3, 1) := by decide +kernel
theorem dX0_minutes_30 : decode cX0_minutes 30 = .ok (.iadd, 1) := by decide +kernel
theorem dX0_minutes_31 : decode cX0_minutes 31 = .ok (.iconst 1, 1) := by decide +kernel
theorem dX0_minutes_32 : decode cX0_minutes 32 = .ok (.isub, 1) := by decide +kernel
theorem dX0_minutes_33 : decode cX0_minutes 33 = .ok (.iload_n 3, 1) := by decide +kernel
theorem dX0_minutes_34 : decode cX0_minutes 34 = .ok (.idiv, 1) := by decide +kernel
theorem dX0_minutes_35 : decode cX0_minutes 35 = .ok (.ireturn, 1) := by decide +kernel
set_option maxRecDepth 20000 in
theorem ggX0_wears_X11_at : GoodIn wsX0_wears wsX11_at := goodIn_r _ [6] (by decide +kernel) (by decide +kernel)
set_option maxRecDepth 20000 in
theorem gX0_wears_X11_at_n85 : GoodIn wsX0_wears (wsX11_at) := ggX0_wears_X11_at
theorem dX0_wears_0 : decode cX0_wears 0 = .ok (.aload_n 0, 1) := by decide +kernel
theorem dX0_wears_1 : decode cX0_wears 1 = .ok (.getfield 18, 3) := by decide +kernel
theorem dX0_wears_4 : decode cX0_wears 4 = .ok (.iload_n 1, 1) := by decide +kernel
theorem dX0_wears_5 : decode cX0_wears 5 = .ok (.invokestatic 85, 3) := by decide +kernel
theorem dX0_wears_8 : decode cX0_wears 8 = .ok (.aload_n 0, 1) := by decide +kernel
theorem dX0_wears_9 : decode cX0_wears 9 = .ok (.getfield 15, 3) := by decide +kernel
theorem dX0_wears_12 : decode cX0_wears 12 = .ok (.iload_n 2, 1) := by decide +kernel
theorem dX0_wears_13 : decode cX0_wears 13 = .ok (.invokestatic 85, 3) := by decide +kernel
theorem dX0_wears_16 : decode cX0_wears 16 = .ok (.imul, 1) := by decide +kernel
theorem dX0_wears_17 : decode cX0_wears 17 = .ok (.iload_n 3, 1) := by decide +kernel
theorem dX0_wears_18 : decode cX0_wears 18 = .ok (.imul, 1) := by decide +kernel
theorem dX0_wears_19 : decode cX0_wears 19 = .ok (.aload_n 0, 1) := by decide +kernel
theorem dX0_wears_20 : decode cX0_wears 20 = .ok (.getfield 30, 3) := by decide +kernel
theorem dX0_wears_23 : decode cX0_wears 23 = .ok (.iload 4, 2) := by decide +kernel
theorem dX0_wears_25 : decode cX0_wears 25 = .ok (.invokestatic 85, 3) := by decide +kernel
theorem dX0_wears_28 : decode cX0_wears 28 = .ok (.imul, 1) := by decide +kernel
theorem dX0_wears_29 : decode cX0_wears 29 = .ok (.sipush 10000, 3) := by decide +kernel
theorem dX0_wears_32 : decode cX0_wears 32 = .ok (.idiv, 1) := by decide +kernel
theorem dX0_wears_33 : decode cX0_wears 33 = .ok (.ireturn, 1) := by decide +kernel
set_option maxRecDepth 20000 in
theorem ggX0_risk_X11_at : GoodIn wsX0_risk wsX11_at := goodIn_r _ [4] (by decide +kernel) (by decide +kernel)
set_option maxRecDepth 20000 in
theorem gX0_risk_X11_at_n85 : GoodIn wsX0_risk (wsX11_at) := ggX0_risk_X11_at
theorem dX0_risk_0 : decode cX0_risk 0 = .ok (.iload_n 1, 1) := by decide +kernel
theorem dX0_risk_1 : decode cX0_risk 1 = .ok (.iload_n 2, 1) := by decide +kernel
theorem dX0_risk_2 : decode cX0_risk 2 = .ok (.iadd, 1) := by decide +kernel
theorem dX0_risk_3 : decode cX0_risk 3 = .ok (.bipush 100, 2) := by decide +kernel
theorem dX0_risk_5 : decode cX0_risk 5 = .ok (.if_icmp .le 8, 3) := by decide +kernel
theorem dX0_risk_8 : decode cX0_risk 8 = .ok (.bipush 100, 2) := by decide +kernel
theorem dX0_risk_10 : decode cX0_risk 10 = .ok (.goto 11, 3) := by decide +kernel
theorem dX0_risk_13 : decode cX0_risk 13 = .ok (.aload_n 0, 1) := by decide +kernel
theorem dX0_risk_14 : decode cX0_risk 14 = .ok (.getfield 36, 3) := by decide +kernel
theorem dX0_risk_17 : decode cX0_risk 17 = .ok (.iload_n 1, 1) := by decide +kernel
theorem dX0_risk_18 : decode cX0_risk 18 = .ok (.invokestatic 85, 3) := by decide +kernel
theorem dX0_risk_21 : decode cX0_risk 21 = .ok (.ireturn, 1) := by decide +kernel
theorem dX0_cost_0 : decode cX0_cost 0 = .ok (.iload_n 1, 1) := by decide +kernel
theorem dX0_cost_1 : decode cX0_cost 1 = .ok (.i2l, 1) := by decide +kernel
theorem dX0_cost_2 : decode cX0_cost 2 = .ok (.aload_n 0, 1) := by decide +kernel
theorem dX0_cost_3 : decode cX0_cost 3 = .ok (.getfield 70, 3) := by decide +kernel
theorem dX0_cost_6 : decode cX0_cost 6 = .ok (.i2l, 1) := by decide +kernel
theorem dX0_cost_7 : decode cX0_cost 7 = .ok (.lmul, 1) := by decide +kernel
theorem dX0_cost_8 : decode cX0_cost 8 = .ok (.ldc2_w 137, 3) := by decide +kernel
theorem dX0_cost_11 : decode cX0_cost 11 = .ok (.iload_n 2, 1) := by decide +kernel
theorem dX0_cost_12 : decode cX0_cost 12 = .ok (.i2l, 1) := by decide +kernel
theorem dX0_cost_13 : decode cX0_cost 13 = .ok (.lmul, 1) := by decide +kernel
theorem dX0_cost_14 : decode cX0_cost 14 = .ok (.ladd, 1) := by decide +kernel
theorem dX0_cost_15 : decode cX0_cost 15 = .ok (.lreturn, 1) := by decide +kernel
theorem dX0_changeHundredths_0 : decode cX0_changeHundredths 0 = .ok (.bipush 100, 2) := by decide +kernel
theorem dX0_changeHundredths_2 : decode cX0_changeHundredths 2 = .ok (.aload_n 0, 1) := by decide +kernel
theorem dX0_changeHundredths_3 : decode cX0_changeHundredths 3 = .ok (.getfield 64, 3) := by decide +kernel
theorem dX0_changeHundredths_6 : decode cX0_changeHundredths 6 = .ok (.imul, 1) := by decide +kernel
theorem dX0_changeHundredths_7 : decode cX0_changeHundredths 7 = .ok (.ireturn, 1) := by decide +kernel
set_option maxRecDepth 20000 in
theorem ggX0_changeCost_X0_changeHundredths : GoodIn wsX0_changeCost wsX0_changeHundredths := goodIn_r _ [6, 7, 14, 15, 16, 17, 18, 19, 20, 21, 22, 23, 24, 25, 26, 27, 28, 29, 30] (by decide +kernel) (by decide +kernel)
set_option maxRecDepth 20000 in
theorem gX0_changeCost_X0_changeHundredths : GoodIn wsX0_changeCost (wsV RX0 139 RX0 yX0_changeHundredths wsX0_changeHundredths) := goodIn_app (goodIn_of _ (by decide +kernel)) ggX0_changeCost_X0_changeHundredths
set_option maxRecDepth 20000 in
theorem ggX0_changeCost_X0_cost : GoodIn wsX0_changeCost wsX0_cost := goodIn_r _ [11, 12, 13, 14, 15, 16, 17, 18, 19, 20, 21, 22, 23, 24, 25, 26, 27, 28, 29, 30] (by decide +kernel) (by decide +kernel)
set_option maxRecDepth 20000 in
theorem gX0_changeCost_X0_cost : GoodIn wsX0_changeCost (wsV RX0 143 RX0 yX0_cost wsX0_cost) := goodIn_app (goodIn_of _ (by decide +kernel)) ggX0_changeCost_X0_cost
theorem dX0_changeCost_0 : decode cX0_changeCost 0 = .ok (.aload_n 0, 1) := by decide +kernel
theorem dX0_changeCost_1 : decode cX0_changeCost 1 = .ok (.aload_n 0, 1) := by decide +kernel
theorem dX0_changeCost_2 : decode cX0_changeCost 2 = .ok (.invokevirtual 139, 3) := by decide +kernel
theorem dX0_changeCost_5 : decode cX0_changeCost 5 = .ok (.aload_n 0, 1) := by decide +kernel
theorem dX0_changeCost_6 : decode cX0_changeCost 6 = .ok (.getfield 67, 3) := by decide +kernel
theorem dX0_changeCost_9 : decode cX0_changeCost 9 = .ok (.invokevirtual 143, 3) := by decide +kernel
theorem dX0_changeCost_12 : decode cX0_changeCost 12 = .ok (.lreturn, 1) := by decide +kernel
theorem dX1_init_0 : decode cX1_init 0 = .ok (.aload_n 0, 1) := by decide +kernel
theorem dX1_init_1 : decode cX1_init 1 = .ok (.invokespecial 3, 3) := by decide +kernel
theorem dX1_init_4 : decode cX1_init 4 = .ok (.aload_n 0, 1) := by decide +kernel
theorem dX1_init_5 : decode cX1_init 5 = .ok (.bipush 20, 2) := by decide +kernel
theorem dX1_init_7 : decode cX1_init 7 = .ok (.newarray .int, 2) := by decide +kernel
theorem dX1_init_9 : decode cX1_init 9 = .ok (.putfield 9, 3) := by decide +kernel
theorem dX1_init_12 : decode cX1_init 12 = .ok (.aload_n 0, 1) := by decide +kernel
theorem dX1_init_13 : decode cX1_init 13 = .ok (.bipush 20, 2) := by decide +kernel
theorem dX1_init_15 : decode cX1_init 15 = .ok (.newarray .int, 2) := by decide +kernel
theorem dX1_init_17 : decode cX1_init 17 = .ok (.putfield 15, 3) := by decide +kernel
theorem dX1_init_20 : decode cX1_init 20 = .ok (.aload_n 0, 1) := by decide +kernel
theorem dX1_init_21 : decode cX1_init 21 = .ok (.bipush 100, 2) := by decide +kernel
theorem dX1_init_23 : decode cX1_init 23 = .ok (.putfield 18, 3) := by decide +kernel
theorem dX1_init_26 : decode cX1_init 26 = .ok (.aload_n 0, 1) := by decide +kernel
theorem dX1_init_27 : decode cX1_init 27 = .ok (.bipush 8, 2) := by decide +kernel
theorem dX1_init_29 : decode cX1_init 29 = .ok (.putfield 22, 3) := by decide +kernel
theorem dX1_init_32 : decode cX1_init 32 = .ok (.return_, 1) := by decide +kernel
theorem dX1_reset_0 : decode cX1_reset 0 = .ok (.aload_n 0, 1) := by decide +kernel
theorem dX1_reset_1 : decode cX1_reset 1 = .ok (.iconst 0, 1) := by decide +kernel
theorem dX1_reset_2 : decode cX1_reset 2 = .ok (.putfield 25, 3) := by decide +kernel
theorem dX1_reset_5 : decode cX1_reset 5 = .ok (.aload_n 0, 1) := by decide +kernel
theorem dX1_reset_6 : decode cX1_reset 6 = .ok (.iconst 0, 1) := by decide +kernel
theorem dX1_reset_7 : decode cX1_reset 7 = .ok (.putfield 28, 3) := by decide +kernel
theorem dX1_reset_10 : decode cX1_reset 10 = .ok (.aload_n 0, 1) := by decide +kernel
theorem dX1_reset_11 : decode cX1_reset 11 = .ok (.bipush 100, 2) := by decide +kernel
theorem dX1_reset_13 : decode cX1_reset 13 = .ok (.putfield 18, 3) := by decide +kernel
theorem dX1_reset_16 : decode cX1_reset 16 = .ok (.aload_n 0, 1) := by decide +kernel
theorem dX1_reset_17 : decode cX1_reset 17 = .ok (.bipush 8, 2) := by decide +kernel
theorem dX1_reset_19 : decode cX1_reset 19 = .ok (.putfield 22, 3) := by decide +kernel
theorem dX1_reset_22 : decode cX1_reset 22 = .ok (.return_, 1) := by decide +kernel
theorem dX1_copy_0 : decode cX1_copy 0 = .ok (.aload_n 0, 1) := by decide +kernel
theorem dX1_copy_1 : decode cX1_copy 1 = .ok (.aload_n 1, 1) := by decide +kernel
theorem dX1_copy_2 : decode cX1_copy 2 = .ok (.getfield 25, 3) := by decide +kernel
theorem dX1_copy_5 : decode cX1_copy 5 = .ok (.putfield 25, 3) := by decide +kernel
theorem dX1_copy_8 : decode cX1_copy 8 = .ok (.aload_n 0, 1) := by decide +kernel
theorem dX1_copy_9 : decode cX1_copy 9 = .ok (.aload_n 1, 1) := by decide +kernel
theorem dX1_copy_10 : decode cX1_copy 10 = .ok (.getfield 28, 3) := by decide +kernel
theorem dX1_copy_13 : decode cX1_copy 13 = .ok (.putfield 28, 3) := by decide +kernel
theorem dX1_copy_16 : decode cX1_copy 16 = .ok (.aload_n 0, 1) := by decide +kernel
theorem dX1_copy_17 : decode cX1_copy 17 = .ok (.aload_n 1, 1) := by decide +kernel
theorem dX1_copy_18 : decode cX1_copy 18 = .ok (.getfield 18, 3) := by decide +kernel
theorem dX1_copy_21 : decode cX1_copy 21 = .ok (.putfield 18, 3) := by decide +kernel
theorem dX1_copy_24 : decode cX1_copy 24 = .ok (.aload_n 0, 1) := by decide +kernel
theorem dX1_copy_25 : decode cX1_copy 25 = .ok (.aload_n 1, 1) := by decide +kernel
theorem dX1_copy_26 : decode cX1_copy 26 = .ok (.getfield 22, 3) := by decide +kernel
theorem dX1_copy_29 : decode cX1_copy 29 = .ok (.putfield 22, 3) := by decide +kernel
theorem dX1_copy_32 : decode cX1_copy 32 = .ok (.aload_n 1, 1) := by decide +kernel
theorem dX1_copy_33 : decode cX1_copy 33 = .ok (.getfield 9, 3) := by decide +kernel
theorem dX1_copy_36 : decode cX1_copy 36 = .ok (.iconst 0, 1) := by decide +kernel
theorem dX1_copy_37 : decode cX1_copy 37 = .ok (.aload_n 0, 1) := by decide +kernel
theorem dX1_copy_38 : decode cX1_copy 38 = .ok (.getfield 9, 3) := by decide +kernel
theorem dX1_copy_41 : decode cX1_copy 41 = .ok (.iconst 0, 1) := by decide +kernel
theorem dX1_copy_42 : decode cX1_copy 42 = .ok (.bipush 20, 2) := by decide +kernel
theorem dX1_copy_44 : decode cX1_copy 44 = .ok (.invokestatic 31, 3) := by decide +kernel
theorem dX1_copy_47 : decode cX1_copy 47 = .ok (.aload_n 1, 1) := by decide +kernel
theorem dX1_copy_48 : decode cX1_copy 48 = .ok (.getfield 15, 3) := by decide +kernel
theorem dX1_copy_51 : decode cX1_copy 51 = .ok (.iconst 0, 1) := by decide +kernel
theorem dX1_copy_52 : decode cX1_copy 52 = .ok (.aload_n 0, 1) := by decide +kernel
theorem dX1_copy_53 : decode cX1_copy 53 = .ok (.getfield 15, 3) := by decide +kernel
theorem dX1_copy_56 : decode cX1_copy 56 = .ok (.iconst 0, 1) := by decide +kernel
theorem dX1_copy_57 : decode cX1_copy 57 = .ok (.bipush 20, 2) := by decide +kernel
theorem dX1_copy_59 : decode cX1_copy 59 = .ok (.invokestatic 31, 3) := by decide +kernel
theorem dX1_copy_62 : decode cX1_copy 62 = .ok (.return_, 1) := by decide +kernel
theorem dX1_swapSpeed_0 : decode cX1_swapSpeed 0 = .ok (.aload_n 0, 1) := by decide +kernel
theorem dX1_swapSpeed_1 : decode cX1_swapSpeed 1 = .ok (.getfield 28, 3) := by decide +kernel
theorem dX1_swapSpeed_4 : decode cX1_swapSpeed 4 = .ok (.istore_n 2, 1) := by decide +kernel
theorem dX1_swapSpeed_5 : decode cX1_swapSpeed 5 = .ok (.aload_n 0, 1) := by decide +kernel
theorem dX1_swapSpeed_6 : decode cX1_swapSpeed 6 = .ok (.iload_n 1, 1) := by decide +kernel
theorem dX1_swapSpeed_7 : decode cX1_swapSpeed 7 = .ok (.putfield 28, 3) := by decide +kernel
theorem dX1_swapSpeed_10 : decode cX1_swapSpeed 10 = .ok (.iload_n 2, 1) := by decide +kernel
theorem dX1_swapSpeed_11 : decode cX1_swapSpeed 11 = .ok (.ireturn, 1) := by decide +kernel
theorem dX1_swapLimit_0 : decode cX1_swapLimit 0 = .ok (.aload_n 0, 1) := by decide +kernel
theorem dX1_swapLimit_1 : decode cX1_swapLimit 1 = .ok (.getfield 18, 3) := by decide +kernel
theorem dX1_swapLimit_4 : decode cX1_swapLimit 4 = .ok (.istore_n 2, 1) := by decide +kernel
theorem dX1_swapLimit_5 : decode cX1_swapLimit 5 = .ok (.aload_n 0, 1) := by decide +kernel
theorem dX1_swapLimit_6 : decode cX1_swapLimit 6 = .ok (.iload_n 1, 1) := by decide +kernel
theorem dX1_swapLimit_7 : decode cX1_swapLimit 7 = .ok (.putfield 18, 3) := by decide +kernel
theorem dX1_swapLimit_10 : decode cX1_swapLimit 10 = .ok (.iload_n 2, 1) := by decide +kernel
theorem dX1_swapLimit_11 : decode cX1_swapLimit 11 = .ok (.ireturn, 1) := by decide +kernel
theorem dX1_swapEvery_0 : decode cX1_swapEvery 0 = .ok (.aload_n 0, 1) := by decide +kernel
theorem dX1_swapEvery_1 : decode cX1_swapEvery 1 = .ok (.getfield 22, 3) := by decide +kernel
theorem dX1_swapEvery_4 : decode cX1_swapEvery 4 = .ok (.istore_n 2, 1) := by decide +kernel
theorem dX1_swapEvery_5 : decode cX1_swapEvery 5 = .ok (.aload_n 0, 1) := by decide +kernel
theorem dX1_swapEvery_6 : decode cX1_swapEvery 6 = .ok (.iload_n 1, 1) := by decide +kernel
theorem dX1_swapEvery_7 : decode cX1_swapEvery 7 = .ok (.putfield 22, 3) := by decide +kernel
theorem dX1_swapEvery_10 : decode cX1_swapEvery 10 = .ok (.iload_n 2, 1) := by decide +kernel
theorem dX1_swapEvery_11 : decode cX1_swapEvery 11 = .ok (.ireturn, 1) := by decide +kernel
set_option maxRecDepth 20000 in
theorem ggX1_note_X11_within : GoodIn wsX1_note wsX11_within := goodIn_r _ [6] (by decide +kernel) (by decide +kernel)
set_option maxRecDepth 20000 in
theorem gX1_note_X11_within_n37 : GoodIn wsX1_note (wsX11_within) := ggX1_note_X11_within
theorem dX1_note_0 : decode cX1_note 0 = .ok (.aload_n 0, 1) := by decide +kernel
theorem dX1_note_1 : decode cX1_note 1 = .ok (.getfield 25, 3) := by decide +kernel
theorem dX1_note_4 : decode cX1_note 4 = .ok (.iconst 0, 1) := by decide +kernel
theorem dX1_note_5 : decode cX1_note 5 = .ok (.bipush 19, 2) := by decide +kernel
theorem dX1_note_7 : decode cX1_note 7 = .ok (.invokestatic 37, 3) := by decide +kernel
theorem dX1_note_10 : decode cX1_note 10 = .ok (.ifCond .ne 5, 3) := by decide +kernel
theorem dX1_note_13 : decode cX1_note 13 = .ok (.iconst 0, 1) := by decide +kernel
theorem dX1_note_14 : decode cX1_note 14 = .ok (.ireturn, 1) := by decide +kernel
theorem dX1_note_15 : decode cX1_note 15 = .ok (.aload_n 0, 1) := by decide +kernel
theorem dX1_note_16 : decode cX1_note 16 = .ok (.getfield 9, 3) := by decide +kernel
theorem dX1_note_19 : decode cX1_note 19 = .ok (.aload_n 0, 1) := by decide +kernel
theorem dX1_note_20 : decode cX1_note 20 = .ok (.getfield 25, 3) := by decide +kernel
theorem dX1_note_23 : decode cX1_note 23 = .ok (.iload_n 1, 1) := by decide +kernel
theorem dX1_note_24 : decode cX1_note 24 = .ok (.iastore, 1) := by decide +kernel
theorem dX1_note_25 : decode cX1_note 25 = .ok (.aload_n 0, 1) := by decide +kernel
theorem dX1_note_26 : decode cX1_note 26 = .ok (.getfield 15, 3) := by decide +kernel
theorem dX1_note_29 : decode cX1_note 29 = .ok (.aload_n 0, 1) := by decide +kernel
theorem dX1_note_30 : decode cX1_note 30 = .ok (.getfield 25, 3) := by decide +kernel
theorem dX1_note_33 : decode cX1_note 33 = .ok (.iload_n 2, 1) := by decide +kernel
theorem dX1_note_34 : decode cX1_note 34 = .ok (.iastore, 1) := by decide +kernel
theorem dX1_note_35 : decode cX1_note 35 = .ok (.aload_n 0, 1) := by decide +kernel
theorem dX1_note_36 : decode cX1_note 36 = .ok (.dup, 1) := by decide +kernel
theorem dX1_note_37 : decode cX1_note 37 = .ok (.getfield 25, 3) := by decide +kernel
theorem dX1_note_40 : decode cX1_note 40 = .ok (.iconst 1, 1) := by decide +kernel
theorem dX1_note_41 : decode cX1_note 41 = .ok (.iadd, 1) := by decide +kernel
theorem dX1_note_42 : decode cX1_note 42 = .ok (.putfield 25, 3) := by decide +kernel
theorem dX1_note_45 : decode cX1_note 45 = .ok (.iconst 1, 1) := by decide +kernel
theorem dX1_note_46 : decode cX1_note 46 = .ok (.ireturn, 1) := by decide +kernel
theorem dX1_offBy_0 : decode cX1_offBy 0 = .ok (.iconst 0, 1) := by decide +kernel
theorem dX1_offBy_1 : decode cX1_offBy 1 = .ok (.istore 4, 2) := by decide +kernel
theorem dX1_offBy_3 : decode cX1_offBy 3 = .ok (.iconst 0, 1) := by decide +kernel
theorem dX1_offBy_4 : decode cX1_offBy 4 = .ok (.istore 5, 2) := by decide +kernel
theorem dX1_offBy_6 : decode cX1_offBy 6 = .ok (.iload 5, 2) := by decide +kernel
theorem dX1_offBy_8 : decode cX1_offBy 8 = .ok (.aload_n 0, 1) := by decide +kernel
theorem dX1_offBy_9 : decode cX1_offBy 9 = .ok (.getfield 25, 3) := by decide +kernel
theorem dX1_offBy_12 : decode cX1_offBy 12 = .ok (.if_icmp .ge 56, 3) := by decide +kernel
theorem dX1_offBy_15 : decode cX1_offBy 15 = .ok (.iload 5, 2) := by decide +kernel
theorem dX1_offBy_17 : decode cX1_offBy 17 = .ok (.bipush 20, 2) := by decide +kernel
theorem dX1_offBy_19 : decode cX1_offBy 19 = .ok (.if_icmp .ge 49, 3) := by decide +kernel
theorem dX1_offBy_22 : decode cX1_offBy 22 = .ok (.aload_n 0, 1) := by decide +kernel
theorem dX1_offBy_23 : decode cX1_offBy 23 = .ok (.getfield 9, 3) := by decide +kernel
theorem dX1_offBy_26 : decode cX1_offBy 26 = .ok (.iload 5, 2) := by decide +kernel
theorem dX1_offBy_28 : decode cX1_offBy 28 = .ok (.iaload, 1) := by decide +kernel
theorem dX1_offBy_29 : decode cX1_offBy 29 = .ok (.iload_n 2, 1) := by decide +kernel
theorem dX1_offBy_30 : decode cX1_offBy 30 = .ok (.if_icmp .ge 7, 3) := by decide +kernel
theorem dX1_offBy_33 : decode cX1_offBy 33 = .ok (.iload_n 1, 1) := by decide +kernel
theorem dX1_offBy_34 : decode cX1_offBy 34 = .ok (.goto 4, 3) := by decide +kernel
theorem dX1_offBy_37 : decode cX1_offBy 37 = .ok (.iload_n 3, 1) := by decide +kernel
theorem dX1_offBy_38 : decode cX1_offBy 38 = .ok (.istore 6, 2) := by decide +kernel
theorem dX1_offBy_40 : decode cX1_offBy 40 = .ok (.iload 4, 2) := by decide +kernel
theorem dX1_offBy_42 : decode cX1_offBy 42 = .ok (.iload 6, 2) := by decide +kernel
theorem dX1_offBy_44 : decode cX1_offBy 44 = .ok (.aload_n 0, 1) := by decide +kernel
theorem dX1_offBy_45 : decode cX1_offBy 45 = .ok (.getfield 15, 3) := by decide +kernel
theorem dX1_offBy_48 : decode cX1_offBy 48 = .ok (.iload 5, 2) := by decide +kernel
theorem dX1_offBy_50 : decode cX1_offBy 50 = .ok (.iaload, 1) := by decide +kernel
theorem dX1_offBy_51 : decode cX1_offBy 51 = .ok (.if_icmp .ne 7, 3) := by decide +kernel
theorem dX1_offBy_54 : decode cX1_offBy 54 = .ok (.iconst 0, 1) := by decide +kernel
theorem dX1_offBy_55 : decode cX1_offBy 55 = .ok (.goto 4, 3) := by decide +kernel
theorem dX1_offBy_58 : decode cX1_offBy 58 = .ok (.iconst 1, 1) := by decide +kernel
theorem dX1_offBy_59 : decode cX1_offBy 59 = .ok (.iadd, 1) := by decide +kernel
theorem dX1_offBy_60 : decode cX1_offBy 60 = .ok (.istore 4, 2) := by decide +kernel
theorem dX1_offBy_62 : decode cX1_offBy 62 = .ok (.iinc 5 1, 3) := by decide +kernel
theorem dX1_offBy_65 : decode cX1_offBy 65 = .ok (.goto (-59), 3) := by decide +kernel
theorem dX1_offBy_68 : decode cX1_offBy 68 = .ok (.iload 4, 2) := by decide +kernel
theorem dX1_offBy_70 : decode cX1_offBy 70 = .ok (.ireturn, 1) := by decide +kernel
set_option maxRecDepth 20000 in
theorem ggX1_plainestRule_X1_rankOf : GoodIn wsX1_plainestRule wsX1_rankOf := goodIn_r _ [9, 10, 11, 12, 8, 13, 14, 15, 16, 17, 18, 19, 20, 21, 22] (by decide +kernel) (by decide +kernel)
set_option maxRecDepth 20000 in
theorem gX1_plainestRule_X1_rankOf : GoodIn wsX1_plainestRule (wsV RX1 41 RX1 yX1_rankOf wsX1_rankOf) := goodIn_app (goodIn_of _ (by decide +kernel)) ggX1_plainestRule_X1_rankOf
theorem dX1_plainestRule_0 : decode cX1_plainestRule 0 = .ok (.aload_n 0, 1) := by decide +kernel
theorem dX1_plainestRule_1 : decode cX1_plainestRule 1 = .ok (.iconst 0, 1) := by decide +kernel
theorem dX1_plainestRule_2 : decode cX1_plainestRule 2 = .ok (.iconst 0, 1) := by decide +kernel
theorem dX1_plainestRule_3 : decode cX1_plainestRule 3 = .ok (.iconst 0, 1) := by decide +kernel
theorem dX1_plainestRule_4 : decode cX1_plainestRule 4 = .ok (.invokevirtual 41, 3) := by decide +kernel
theorem dX1_plainestRule_7 : decode cX1_plainestRule 7 = .ok (.istore_n 3, 1) := by decide +kernel
theorem dX1_plainestRule_8 : decode cX1_plainestRule 8 = .ok (.iconst 0, 1) := by decide +kernel
theorem dX1_plainestRule_9 : decode cX1_plainestRule 9 = .ok (.istore 4, 2) := by decide +kernel
theorem dX1_plainestRule_11 : decode cX1_plainestRule 11 = .ok (.iload 4, 2) := by decide +kernel
theorem dX1_plainestRule_13 : decode cX1_plainestRule 13 = .ok (.iload_n 1, 1) := by decide +kernel
theorem dX1_plainestRule_14 : decode cX1_plainestRule 14 = .ok (.if_icmp .ge 80, 3) := by decide +kernel
theorem dX1_plainestRule_17 : decode cX1_plainestRule 17 = .ok (.iload_n 3, 1) := by decide +kernel
theorem dX1_plainestRule_18 : decode cX1_plainestRule 18 = .ok (.aload_n 0, 1) := by decide +kernel
theorem dX1_plainestRule_19 : decode cX1_plainestRule 19 = .ok (.iload 4, 2) := by decide +kernel
theorem dX1_plainestRule_21 : decode cX1_plainestRule 21 = .ok (.iconst 0, 1) := by decide +kernel
theorem dX1_plainestRule_22 : decode cX1_plainestRule 22 = .ok (.iload 4, 2) := by decide +kernel
theorem dX1_plainestRule_24 : decode cX1_plainestRule 24 = .ok (.invokevirtual 41, 3) := by decide +kernel
theorem dX1_plainestRule_27 : decode cX1_plainestRule 27 = .ok (.invokestatic 45, 3) := by decide +kernel
theorem dX1_plainestRule_30 : decode cX1_plainestRule 30 = .ok (.istore_n 3, 1) := by decide +kernel
theorem dX1_plainestRule_31 : decode cX1_plainestRule 31 = .ok (.iconst 0, 1) := by decide +kernel
theorem dX1_plainestRule_32 : decode cX1_plainestRule 32 = .ok (.istore 5, 2) := by decide +kernel
theorem dX1_plainestRule_34 : decode cX1_plainestRule 34 = .ok (.iload 5, 2) := by decide +kernel
theorem dX1_plainestRule_36 : decode cX1_plainestRule 36 = .ok (.bipush 100, 2) := by decide +kernel
theorem dX1_plainestRule_38 : decode cX1_plainestRule 38 = .ok (.if_icmp .gt 50, 3) := by decide +kernel
theorem dX1_plainestRule_41 : decode cX1_plainestRule 41 = .ok (.iconst 0, 1) := by decide +kernel
theorem dX1_plainestRule_42 : decode cX1_plainestRule 42 = .ok (.istore 6, 2) := by decide +kernel
theorem dX1_plainestRule_44 : decode cX1_plainestRule 44 = .ok (.iload 6, 2) := by decide +kernel
theorem dX1_plainestRule_46 : decode cX1_plainestRule 46 = .ok (.iload_n 1, 1) := by decide +kernel
theorem dX1_plainestRule_47 : decode cX1_plainestRule 47 = .ok (.if_icmp .ge 35, 3) := by decide +kernel
theorem dX1_plainestRule_50 : decode cX1_plainestRule 50 = .ok (.iload 4, 2) := by decide +kernel
theorem dX1_plainestRule_52 : decode cX1_plainestRule 52 = .ok (.iload 6, 2) := by decide +kernel
theorem dX1_plainestRule_54 : decode cX1_plainestRule 54 = .ok (.if_icmp .ne 7, 3) := by decide +kernel
theorem dX1_plainestRule_57 : decode cX1_plainestRule 57 = .ok (.iload_n 3, 1) := by decide +kernel
theorem dX1_plainestRule_58 : decode cX1_plainestRule 58 = .ok (.goto 17, 3) := by decide +kernel
theorem dX1_plainestRule_61 : decode cX1_plainestRule 61 = .ok (.iload_n 3, 1) := by decide +kernel
theorem dX1_plainestRule_62 : decode cX1_plainestRule 62 = .ok (.aload_n 0, 1) := by decide +kernel
theorem dX1_plainestRule_63 : decode cX1_plainestRule 63 = .ok (.iload 4, 2) := by decide +kernel
theorem dX1_plainestRule_65 : decode cX1_plainestRule 65 = .ok (.iload 5, 2) := by decide +kernel
theorem dX1_plainestRule_67 : decode cX1_plainestRule 67 = .ok (.iload 6, 2) := by decide +kernel
theorem dX1_plainestRule_69 : decode cX1_plainestRule 69 = .ok (.invokevirtual 41, 3) := by decide +kernel
theorem dX1_plainestRule_72 : decode cX1_plainestRule 72 = .ok (.invokestatic 45, 3) := by decide +kernel
theorem dX1_plainestRule_75 : decode cX1_plainestRule 75 = .ok (.istore_n 3, 1) := by decide +kernel
theorem dX1_plainestRule_76 : decode cX1_plainestRule 76 = .ok (.iinc 6 1, 3) := by decide +kernel
theorem dX1_plainestRule_79 : decode cX1_plainestRule 79 = .ok (.goto (-35), 3) := by decide +kernel
theorem dX1_plainestRule_82 : decode cX1_plainestRule 82 = .ok (.iinc 5 1, 3) := by decide +kernel
theorem dX1_plainestRule_85 : decode cX1_plainestRule 85 = .ok (.goto (-51), 3) := by decide +kernel
theorem dX1_plainestRule_88 : decode cX1_plainestRule 88 = .ok (.iinc 4 1, 3) := by decide +kernel
theorem dX1_plainestRule_91 : decode cX1_plainestRule 91 = .ok (.goto (-80), 3) := by decide +kernel
theorem dX1_plainestRule_94 : decode cX1_plainestRule 94 = .ok (.iload_n 2, 1) := by decide +kernel
theorem dX1_plainestRule_95 : decode cX1_plainestRule 95 = .ok (.tableswitch 49 0 2 #[25, 36, 44], 25) := by decide +kernel
theorem dX1_plainestRule_120 : decode cX1_plainestRule 120 = .ok (.iload_n 3, 1) := by decide +kernel
theorem dX1_plainestRule_121 : decode cX1_plainestRule 121 = .ok (.bipush 6, 2) := by decide +kernel
theorem dX1_plainestRule_123 : decode cX1_plainestRule 123 = .ok (.idiv, 1) := by decide +kernel
theorem dX1_plainestRule_124 : decode cX1_plainestRule 124 = .ok (.bipush 101, 2) := by decide +kernel
theorem dX1_plainestRule_126 : decode cX1_plainestRule 126 = .ok (.idiv, 1) := by decide +kernel
theorem dX1_plainestRule_127 : decode cX1_plainestRule 127 = .ok (.bipush 6, 2) := by decide +kernel
theorem dX1_plainestRule_129 : decode cX1_plainestRule 129 = .ok (.irem, 1) := by decide +kernel
theorem dX1_plainestRule_130 : decode cX1_plainestRule 130 = .ok (.ireturn, 1) := by decide +kernel
theorem dX1_plainestRule_131 : decode cX1_plainestRule 131 = .ok (.iload_n 3, 1) := by decide +kernel
theorem dX1_plainestRule_132 : decode cX1_plainestRule 132 = .ok (.bipush 6, 2) := by decide +kernel
theorem dX1_plainestRule_134 : decode cX1_plainestRule 134 = .ok (.idiv, 1) := by decide +kernel
theorem dX1_plainestRule_135 : decode cX1_plainestRule 135 = .ok (.bipush 101, 2) := by decide +kernel
theorem dX1_plainestRule_137 : decode cX1_plainestRule 137 = .ok (.irem, 1) := by decide +kernel
theorem dX1_plainestRule_138 : decode cX1_plainestRule 138 = .ok (.ireturn, 1) := by decide +kernel
theorem dX1_plainestRule_139 : decode cX1_plainestRule 139 = .ok (.iload_n 3, 1) := by decide +kernel
theorem dX1_plainestRule_140 : decode cX1_plainestRule 140 = .ok (.bipush 6, 2) := by decide +kernel
theorem dX1_plainestRule_142 : decode cX1_plainestRule 142 = .ok (.irem, 1) := by decide +kernel
theorem dX1_plainestRule_143 : decode cX1_plainestRule 143 = .ok (.ireturn, 1) := by decide +kernel
theorem dX1_plainestRule_144 : decode cX1_plainestRule 144 = .ok (.iload_n 3, 1) := by decide +kernel
theorem dX1_plainestRule_145 : decode cX1_plainestRule 145 = .ok (.bipush 6, 2) := by decide +kernel
theorem dX1_plainestRule_147 : decode cX1_plainestRule 147 = .ok (.idiv, 1) := by decide +kernel
theorem dX1_plainestRule_148 : decode cX1_plainestRule 148 = .ok (.bipush 101, 2) := by decide +kernel
theorem dX1_plainestRule_150 : decode cX1_plainestRule 150 = .ok (.idiv, 1) := by decide +kernel
theorem dX1_plainestRule_151 : decode cX1_plainestRule 151 = .ok (.bipush 6, 2) := by decide +kernel
theorem dX1_plainestRule_153 : decode cX1_plainestRule 153 = .ok (.idiv, 1) := by decide +kernel
theorem dX1_plainestRule_154 : decode cX1_plainestRule 154 = .ok (.iconst 2, 1) := by decide +kernel
theorem dX1_plainestRule_155 : decode cX1_plainestRule 155 = .ok (.idiv, 1) := by decide +kernel
theorem dX1_plainestRule_156 : decode cX1_plainestRule 156 = .ok (.ireturn, 1) := by decide +kernel
set_option maxRecDepth 20000 in
theorem ggX1_rankOf_X1_offBy : GoodIn wsX1_rankOf wsX1_offBy := goodIn_r _ [5, 6, 7, 8, 9, 10, 11, 12, 13, 14] (by decide +kernel) (by decide +kernel)
set_option maxRecDepth 20000 in
theorem gX1_rankOf_X1_offBy : GoodIn wsX1_rankOf (wsV RX1 51 RX1 yX1_offBy wsX1_offBy) := goodIn_app (goodIn_of _ (by decide +kernel)) ggX1_rankOf_X1_offBy
theorem dX1_rankOf_0 : decode cX1_rankOf 0 = .ok (.iconst 2, 1) := by decide +kernel
theorem dX1_rankOf_1 : decode cX1_rankOf 1 = .ok (.aload_n 0, 1) := by decide +kernel
theorem dX1_rankOf_2 : decode cX1_rankOf 2 = .ok (.iload_n 1, 1) := by decide +kernel
theorem dX1_rankOf_3 : decode cX1_rankOf 3 = .ok (.iload_n 2, 1) := by decide +kernel
theorem dX1_rankOf_4 : decode cX1_rankOf 4 = .ok (.iload_n 3, 1) := by decide +kernel
theorem dX1_rankOf_5 : decode cX1_rankOf 5 = .ok (.invokevirtual 51, 3) := by decide +kernel
theorem dX1_rankOf_8 : decode cX1_rankOf 8 = .ok (.imul, 1) := by decide +kernel
theorem dX1_rankOf_9 : decode cX1_rankOf 9 = .ok (.iload_n 1, 1) := by decide +kernel
theorem dX1_rankOf_10 : decode cX1_rankOf 10 = .ok (.iload_n 3, 1) := by decide +kernel
theorem dX1_rankOf_11 : decode cX1_rankOf 11 = .ok (.if_icmp .ne 7, 3) := by decide +kernel
theorem dX1_rankOf_14 : decode cX1_rankOf 14 = .ok (.iconst 0, 1) := by decide +kernel
theorem dX1_rankOf_15 : decode cX1_rankOf 15 = .ok (.goto 4, 3) := by decide +kernel
theorem dX1_rankOf_18 : decode cX1_rankOf 18 = .ok (.iconst 1, 1) := by decide +kernel
theorem dX1_rankOf_19 : decode cX1_rankOf 19 = .ok (.iadd, 1) := by decide +kernel
theorem dX1_rankOf_20 : decode cX1_rankOf 20 = .ok (.istore 4, 2) := by decide +kernel
theorem dX1_rankOf_22 : decode cX1_rankOf 22 = .ok (.iload 4, 2) := by decide +kernel
theorem dX1_rankOf_24 : decode cX1_rankOf 24 = .ok (.bipush 6, 2) := by decide +kernel
theorem dX1_rankOf_26 : decode cX1_rankOf 26 = .ok (.imul, 1) := by decide +kernel
theorem dX1_rankOf_27 : decode cX1_rankOf 27 = .ok (.iload_n 1, 1) := by decide +kernel
theorem dX1_rankOf_28 : decode cX1_rankOf 28 = .ok (.iadd, 1) := by decide +kernel
theorem dX1_rankOf_29 : decode cX1_rankOf 29 = .ok (.bipush 101, 2) := by decide +kernel
theorem dX1_rankOf_31 : decode cX1_rankOf 31 = .ok (.imul, 1) := by decide +kernel
theorem dX1_rankOf_32 : decode cX1_rankOf 32 = .ok (.iload_n 2, 1) := by decide +kernel
theorem dX1_rankOf_33 : decode cX1_rankOf 33 = .ok (.iadd, 1) := by decide +kernel
theorem dX1_rankOf_34 : decode cX1_rankOf 34 = .ok (.bipush 6, 2) := by decide +kernel
theorem dX1_rankOf_36 : decode cX1_rankOf 36 = .ok (.imul, 1) := by decide +kernel
theorem dX1_rankOf_37 : decode cX1_rankOf 37 = .ok (.iload_n 3, 1) := by decide +kernel
theorem dX1_rankOf_38 : decode cX1_rankOf 38 = .ok (.iadd, 1) := by decide +kernel
theorem dX1_rankOf_39 : decode cX1_rankOf 39 = .ok (.ireturn, 1) := by decide +kernel
set_option maxRecDepth 20000 in
theorem ggX2_init_X6_init : GoodIn wsX2_init wsX6_init := goodIn_r _ [13, 14, 2, 3, 15, 16, 17, 18, 19, 20, 21, 26, 27, 28, 29, 30, 31, 32] (by decide +kernel) (by decide +kernel)
set_option maxRecDepth 20000 in
theorem gX2_init_X6_init : GoodIn wsX2_init (wsX6_init) := ggX2_init_X6_init
theorem dX2_init_0 : decode cX2_init 0 = .ok (.aload_n 0, 1) := by decide +kernel
theorem dX2_init_1 : decode cX2_init 1 = .ok (.invokespecial 3, 3) := by decide +kernel
theorem dX2_init_4 : decode cX2_init 4 = .ok (.aload_n 0, 1) := by decide +kernel
theorem dX2_init_5 : decode cX2_init 5 = .ok (.iconst 4, 1) := by decide +kernel
theorem dX2_init_6 : decode cX2_init 6 = .ok (.anewarray 9, 3) := by decide +kernel
theorem dX2_init_9 : decode cX2_init 9 = .ok (.putfield 11, 3) := by decide +kernel
theorem dX2_init_12 : decode cX2_init 12 = .ok (.aload_n 0, 1) := by decide +kernel
theorem dX2_init_13 : decode cX2_init 13 = .ok (.iconst 4, 1) := by decide +kernel
theorem dX2_init_14 : decode cX2_init 14 = .ok (.anewarray 9, 3) := by decide +kernel
theorem dX2_init_17 : decode cX2_init 17 = .ok (.putfield 17, 3) := by decide +kernel
theorem dX2_init_20 : decode cX2_init 20 = .ok (.aload_n 0, 1) := by decide +kernel
theorem dX2_init_21 : decode cX2_init 21 = .ok (.aload_n 1, 1) := by decide +kernel
theorem dX2_init_22 : decode cX2_init 22 = .ok (.putfield 20, 3) := by decide +kernel
theorem dX2_init_25 : decode cX2_init 25 = .ok (.aload_n 0, 1) := by decide +kernel
theorem dX2_init_26 : decode cX2_init 26 = .ok (.aload_n 2, 1) := by decide +kernel
theorem dX2_init_27 : decode cX2_init 27 = .ok (.putfield 24, 3) := by decide +kernel
theorem dX2_init_30 : decode cX2_init 30 = .ok (.iconst 0, 1) := by decide +kernel
theorem dX2_init_31 : decode cX2_init 31 = .ok (.istore_n 3, 1) := by decide +kernel
theorem dX2_init_32 : decode cX2_init 32 = .ok (.iload_n 3, 1) := by decide +kernel
theorem dX2_init_33 : decode cX2_init 33 = .ok (.iconst 4, 1) := by decide +kernel
theorem dX2_init_34 : decode cX2_init 34 = .ok (.if_icmp .ge 37, 3) := by decide +kernel
theorem dX2_init_37 : decode cX2_init 37 = .ok (.aload_n 0, 1) := by decide +kernel
theorem dX2_init_38 : decode cX2_init 38 = .ok (.getfield 11, 3) := by decide +kernel
theorem dX2_init_41 : decode cX2_init 41 = .ok (.iload_n 3, 1) := by decide +kernel
theorem dX2_init_42 : decode cX2_init 42 = .ok (.new 9, 3) := by decide +kernel
theorem dX2_init_45 : decode cX2_init 45 = .ok (.dup, 1) := by decide +kernel
theorem dX2_init_46 : decode cX2_init 46 = .ok (.aload_n 1, 1) := by decide +kernel
theorem dX2_init_47 : decode cX2_init 47 = .ok (.invokespecial 28, 3) := by decide +kernel
theorem dX2_init_50 : decode cX2_init 50 = .ok (.aastore, 1) := by decide +kernel
theorem dX2_init_51 : decode cX2_init 51 = .ok (.aload_n 0, 1) := by decide +kernel
theorem dX2_init_52 : decode cX2_init 52 = .ok (.getfield 17, 3) := by decide +kernel
theorem dX2_init_55 : decode cX2_init 55 = .ok (.iload_n 3, 1) := by decide +kernel
theorem dX2_init_56 : decode cX2_init 56 = .ok (.new 9, 3) := by decide +kernel
theorem dX2_init_59 : decode cX2_init 59 = .ok (.dup, 1) := by decide +kernel
theorem dX2_init_60 : decode cX2_init 60 = .ok (.aload_n 1, 1) := by decide +kernel
theorem dX2_init_61 : decode cX2_init 61 = .ok (.invokespecial 28, 3) := by decide +kernel
theorem dX2_init_64 : decode cX2_init 64 = .ok (.aastore, 1) := by decide +kernel
theorem dX2_init_65 : decode cX2_init 65 = .ok (.iinc 3 1, 3) := by decide +kernel
theorem dX2_init_68 : decode cX2_init 68 = .ok (.goto (-36), 3) := by decide +kernel
theorem dX2_init_71 : decode cX2_init 71 = .ok (.return_, 1) := by decide +kernel
set_option maxRecDepth 20000 in
theorem ggX2_forget_X6_clear : GoodIn wsX2_forget wsX6_clear := goodIn_r _ [7, 8, 9, 10, 11, 12, 13, 18, 19, 20, 21, 22, 23, 24] (by decide +kernel) (by decide +kernel)
set_option maxRecDepth 20000 in
theorem gX2_forget_X6_clear : GoodIn wsX2_forget (wsV RX2 31 RX6 yX6_clear wsX6_clear) := goodIn_app (goodIn_of _ (by decide +kernel)) ggX2_forget_X6_clear
theorem dX2_forget_0 : decode cX2_forget 0 = .ok (.iconst 0, 1) := by decide +kernel
theorem dX2_forget_1 : decode cX2_forget 1 = .ok (.istore_n 1, 1) := by decide +kernel
theorem dX2_forget_2 : decode cX2_forget 2 = .ok (.iload_n 1, 1) := by decide +kernel
theorem dX2_forget_3 : decode cX2_forget 3 = .ok (.iconst 4, 1) := by decide +kernel
theorem dX2_forget_4 : decode cX2_forget 4 = .ok (.if_icmp .ge 27, 3) := by decide +kernel
theorem dX2_forget_7 : decode cX2_forget 7 = .ok (.aload_n 0, 1) := by decide +kernel
theorem dX2_forget_8 : decode cX2_forget 8 = .ok (.getfield 11, 3) := by decide +kernel
theorem dX2_forget_11 : decode cX2_forget 11 = .ok (.iload_n 1, 1) := by decide +kernel
theorem dX2_forget_12 : decode cX2_forget 12 = .ok (.aaload, 1) := by decide +kernel
theorem dX2_forget_13 : decode cX2_forget 13 = .ok (.invokevirtual 31, 3) := by decide +kernel
theorem dX2_forget_16 : decode cX2_forget 16 = .ok (.aload_n 0, 1) := by decide +kernel
theorem dX2_forget_17 : decode cX2_forget 17 = .ok (.getfield 17, 3) := by decide +kernel
theorem dX2_forget_20 : decode cX2_forget 20 = .ok (.iload_n 1, 1) := by decide +kernel
theorem dX2_forget_21 : decode cX2_forget 21 = .ok (.aaload, 1) := by decide +kernel
theorem dX2_forget_22 : decode cX2_forget 22 = .ok (.invokevirtual 31, 3) := by decide +kernel
theorem dX2_forget_25 : decode cX2_forget 25 = .ok (.iinc 1 1, 3) := by decide +kernel
theorem dX2_forget_28 : decode cX2_forget 28 = .ok (.goto (-26), 3) := by decide +kernel
theorem dX2_forget_31 : decode cX2_forget 31 = .ok (.return_, 1) := by decide +kernel
set_option maxRecDepth 20000 in
theorem ggX2_prepare_X2_bestBy : GoodIn wsX2_prepare wsX2_bestBy := goodIn_r _ [7, 8, 9, 10, 11, 171, 172, 173, 174] (by decide +kernel) (by decide +kernel)
set_option maxRecDepth 20000 in
theorem gX2_prepare_X2_bestBy : GoodIn wsX2_prepare (wsV RX2 34 RX2 yX2_bestBy wsX2_bestBy) := goodIn_app (goodIn_of _ (by decide +kernel)) ggX2_prepare_X2_bestBy
set_option maxRecDepth 20000 in
theorem ggX2_prepare_X6_solve : GoodIn wsX2_prepare wsX6_solve := goodIn_r _ [16, 17, 18, 19, 20, 21, 15, 22, 23, 24, 25, 26, 27, 28, 29, 30, 31, 32, 33, 34, 35, 36, 37, 38, 39, 40, 41, 42, 43, 44, 45, 46, 47, 48, 49, 50, 51, 52, 53, 54, 55, 56, 57, 58, 59, 60, 61, 62, 63, 64, 65, 10, 66, 67, 68, 69, 70, 71, 72, 73, 74, 75, 76, 77, 78, 79, 80, 81, 82, 83, 9, 11, 84, 85, 86, 87, 88, 89, 90, 91, 92, 93, 94, 95, 96, 97, 98, 99, 100, 101, 102, 103, 104, 105, 106, 107, 108, 109, 110, 111, 112, 113, 114, 115, 116, 117, 118, 119, 120, 121, 122, 123, 124, 125, 126, 127, 128, 129, 130, 131, 132, 133, 134, 135, 136, 137, 138, 139, 140, 141, 142, 143, 144, 145, 146, 147, 148, 149, 150, 151, 152, 153, 154, 155, 156, 157, 158, 159, 160, 161, 162, 163, 164, 165, 175, 176, 177, 178, 179, 180, 181, 182, 183, 184, 185, 186, 187, 188, 189, 190, 191, 192, 193, 194, 195, 196, 197, 198] (by decide +kernel) (by decide +kernel)
set_option maxRecDepth 20000 in
theorem gX2_prepare_X6_solve : GoodIn wsX2_prepare (wsV RX2 44 RX6 yX6_solve wsX6_solve) := goodIn_app (goodIn_of _ (by decide +kernel)) ggX2_prepare_X6_solve
set_option maxRecDepth 20000 in
theorem ggX2_prepare_X2_quickBy : GoodIn wsX2_prepare wsX2_quickBy := goodIn_r _ [169, 170, 9, 10, 11, 171, 172, 173, 174] (by decide +kernel) (by decide +kernel)
set_option maxRecDepth 20000 in
theorem gX2_prepare_X2_quickBy : GoodIn wsX2_prepare (wsV RX2 48 RX2 yX2_quickBy wsX2_quickBy) := goodIn_app (goodIn_of _ (by decide +kernel)) ggX2_prepare_X2_quickBy
theorem dX2_prepare_0 : decode cX2_prepare 0 = .ok (.iload_n 1, 1) := by decide +kernel
theorem dX2_prepare_1 : decode cX2_prepare 1 = .ok (.ifCond .ne 18, 3) := by decide +kernel
theorem dX2_prepare_4 : decode cX2_prepare 4 = .ok (.aload_n 0, 1) := by decide +kernel
theorem dX2_prepare_5 : decode cX2_prepare 5 = .ok (.iload_n 2, 1) := by decide +kernel
theorem dX2_prepare_6 : decode cX2_prepare 6 = .ok (.invokevirtual 34, 3) := by decide +kernel
theorem dX2_prepare_9 : decode cX2_prepare 9 = .ok (.getstatic 38, 3) := by decide +kernel
theorem dX2_prepare_12 : decode cX2_prepare 12 = .ok (.iload_n 2, 1) := by decide +kernel
theorem dX2_prepare_13 : decode cX2_prepare 13 = .ok (.invokevirtual 44, 3) := by decide +kernel
theorem dX2_prepare_16 : decode cX2_prepare 16 = .ok (.goto 20, 3) := by decide +kernel
theorem dX2_prepare_19 : decode cX2_prepare 19 = .ok (.iload_n 1, 1) := by decide +kernel
theorem dX2_prepare_20 : decode cX2_prepare 20 = .ok (.iconst 4, 1) := by decide +kernel
theorem dX2_prepare_21 : decode cX2_prepare 21 = .ok (.if_icmp .ne 15, 3) := by decide +kernel
theorem dX2_prepare_24 : decode cX2_prepare 24 = .ok (.aload_n 0, 1) := by decide +kernel
theorem dX2_prepare_25 : decode cX2_prepare 25 = .ok (.iload_n 2, 1) := by decide +kernel
theorem dX2_prepare_26 : decode cX2_prepare 26 = .ok (.invokevirtual 48, 3) := by decide +kernel
theorem dX2_prepare_29 : decode cX2_prepare 29 = .ok (.getstatic 51, 3) := by decide +kernel
theorem dX2_prepare_32 : decode cX2_prepare 32 = .ok (.iload_n 2, 1) := by decide +kernel
theorem dX2_prepare_33 : decode cX2_prepare 33 = .ok (.invokevirtual 44, 3) := by decide +kernel
theorem dX2_prepare_36 : decode cX2_prepare 36 = .ok (.return_, 1) := by decide +kernel
set_option maxRecDepth 20000 in
theorem ggX2_bestBy_X11_within : GoodIn wsX2_bestBy wsX11_within := goodIn_r _ [4] (by decide +kernel) (by decide +kernel)
set_option maxRecDepth 20000 in
theorem gX2_bestBy_X11_within_n54 : GoodIn wsX2_bestBy (wsX11_within) := ggX2_bestBy_X11_within
theorem dX2_bestBy_0 : decode cX2_bestBy 0 = .ok (.aload_n 0, 1) := by decide +kernel
theorem dX2_bestBy_1 : decode cX2_bestBy 1 = .ok (.getfield 11, 3) := by decide +kernel
theorem dX2_bestBy_4 : decode cX2_bestBy 4 = .ok (.iload_n 1, 1) := by decide +kernel
theorem dX2_bestBy_5 : decode cX2_bestBy 5 = .ok (.iconst 0, 1) := by decide +kernel
theorem dX2_bestBy_6 : decode cX2_bestBy 6 = .ok (.iconst 3, 1) := by decide +kernel
theorem dX2_bestBy_7 : decode cX2_bestBy 7 = .ok (.invokestatic 54, 3) := by decide +kernel
theorem dX2_bestBy_10 : decode cX2_bestBy 10 = .ok (.ifCond .eq 7, 3) := by decide +kernel
theorem dX2_bestBy_13 : decode cX2_bestBy 13 = .ok (.iload_n 1, 1) := by decide +kernel
theorem dX2_bestBy_14 : decode cX2_bestBy 14 = .ok (.goto 4, 3) := by decide +kernel
theorem dX2_bestBy_17 : decode cX2_bestBy 17 = .ok (.iconst 0, 1) := by decide +kernel
theorem dX2_bestBy_18 : decode cX2_bestBy 18 = .ok (.aaload, 1) := by decide +kernel
theorem dX2_bestBy_19 : decode cX2_bestBy 19 = .ok (.areturn, 1) := by decide +kernel
set_option maxRecDepth 20000 in
theorem ggX2_quickBy_X11_within : GoodIn wsX2_quickBy wsX11_within := goodIn_r _ [4] (by decide +kernel) (by decide +kernel)
set_option maxRecDepth 20000 in
theorem gX2_quickBy_X11_within_n54 : GoodIn wsX2_quickBy (wsX11_within) := ggX2_quickBy_X11_within
theorem dX2_quickBy_0 : decode cX2_quickBy 0 = .ok (.aload_n 0, 1) := by decide +kernel
theorem dX2_quickBy_1 : decode cX2_quickBy 1 = .ok (.getfield 17, 3) := by decide +kernel
theorem dX2_quickBy_4 : decode cX2_quickBy 4 = .ok (.iload_n 1, 1) := by decide +kernel
theorem dX2_quickBy_5 : decode cX2_quickBy 5 = .ok (.iconst 0, 1) := by decide +kernel
theorem dX2_quickBy_6 : decode cX2_quickBy 6 = .ok (.iconst 3, 1) := by decide +kernel
theorem dX2_quickBy_7 : decode cX2_quickBy 7 = .ok (.invokestatic 54, 3) := by decide +kernel
theorem dX2_quickBy_10 : decode cX2_quickBy 10 = .ok (.ifCond .eq 7, 3) := by decide +kernel
theorem dX2_quickBy_13 : decode cX2_quickBy 13 = .ok (.iload_n 1, 1) := by decide +kernel
theorem dX2_quickBy_14 : decode cX2_quickBy 14 = .ok (.goto 4, 3) := by decide +kernel
theorem dX2_quickBy_17 : decode cX2_quickBy 17 = .ok (.iconst 0, 1) := by decide +kernel
theorem dX2_quickBy_18 : decode cX2_quickBy 18 = .ok (.aaload, 1) := by decide +kernel
theorem dX2_quickBy_19 : decode cX2_quickBy 19 = .ok (.areturn, 1) := by decide +kernel
set_option maxRecDepth 20000 in
theorem ggX2_choose_X2_bySpeed : GoodIn wsX2_choose wsX2_bySpeed := goodIn_r _ [7, 2, 1, 8, 9, 10, 11, 12, 13, 14, 15, 16, 17, 18, 19, 20, 21, 22, 23, 24, 25, 26, 27, 28, 29, 6, 30, 71, 72, 73, 74, 75, 76, 77, 78, 79, 80, 81, 82, 83, 84, 85, 86, 87, 88, 89, 90, 91, 92, 93, 94, 95, 96, 97] (by decide +kernel) (by decide +kernel)
set_option maxRecDepth 20000 in
theorem gX2_choose_X2_bySpeed : GoodIn wsX2_choose (wsV RX2 64 RX2 yX2_bySpeed wsX2_bySpeed) := goodIn_app (goodIn_of _ (by decide +kernel)) ggX2_choose_X2_bySpeed
set_option maxRecDepth 20000 in
theorem ggX2_choose_X2_byCount : GoodIn wsX2_choose wsX2_byCount := goodIn_r _ [34, 2, 1, 8, 9, 10, 11, 12, 13, 14, 15, 16, 17, 18, 19, 20, 21, 22, 35, 36, 37, 38, 39, 40, 41, 42, 6, 43, 28, 29, 30, 71, 72, 73, 74, 75, 76, 77, 78, 79, 80, 81, 82, 83, 84, 85, 86, 87, 88, 89, 90, 91, 92, 93, 94, 95, 96, 97] (by decide +kernel) (by decide +kernel)
set_option maxRecDepth 20000 in
theorem gX2_choose_X2_byCount : GoodIn wsX2_choose (wsV RX2 68 RX2 yX2_byCount wsX2_byCount) := goodIn_app (goodIn_of _ (by decide +kernel)) ggX2_choose_X2_byCount
set_option maxRecDepth 20000 in
theorem ggX2_choose_X0_slowest : GoodIn wsX2_choose wsX0_slowest := goodIn_r _ [47, 48, 49, 20, 21, 22, 81, 82, 83, 84, 85, 86, 87, 88, 89, 90, 91, 92, 93, 94, 95, 96, 97] (by decide +kernel) (by decide +kernel)
set_option maxRecDepth 20000 in
theorem gX2_choose_X0_slowest : GoodIn wsX2_choose (wsV RX2 72 RX0 yX0_slowest wsX0_slowest) := goodIn_app (goodIn_of _ (by decide +kernel)) ggX2_choose_X0_slowest
set_option maxRecDepth 20000 in
theorem ggX2_choose_X2_quickBy : GoodIn wsX2_choose wsX2_quickBy := goodIn_r _ [53, 54, 55, 21, 56, 71, 72, 73, 74] (by decide +kernel) (by decide +kernel)
set_option maxRecDepth 20000 in
theorem gX2_choose_X2_quickBy : GoodIn wsX2_choose (wsV RX2 48 RX2 yX2_quickBy wsX2_quickBy) := goodIn_app (goodIn_of _ (by decide +kernel)) ggX2_choose_X2_quickBy
set_option maxRecDepth 20000 in
theorem ggX2_choose_X6_actAt : GoodIn wsX2_choose wsX6_actAt := goodIn_r _ [61, 62, 63, 64, 60, 65, 98, 99, 100, 101, 102, 103, 104] (by decide +kernel) (by decide +kernel)
set_option maxRecDepth 20000 in
theorem gX2_choose_X6_actAt : GoodIn wsX2_choose (wsV RX2 78 RX6 yX6_actAt wsX6_actAt) := goodIn_app (goodIn_of _ (by decide +kernel)) ggX2_choose_X6_actAt
set_option maxRecDepth 20000 in
theorem ggX2_choose_X2_bestBy : GoodIn wsX2_choose wsX2_bestBy := goodIn_r _ [69, 70, 55, 21, 56, 71, 72, 73, 74] (by decide +kernel) (by decide +kernel)
set_option maxRecDepth 20000 in
theorem gX2_choose_X2_bestBy : GoodIn wsX2_choose (wsV RX2 34 RX2 yX2_bestBy wsX2_bestBy) := goodIn_app (goodIn_of _ (by decide +kernel)) ggX2_choose_X2_bestBy
theorem dX2_choose_0 : decode cX2_choose 0 = .ok (.iload_n 1, 1) := by decide +kernel
theorem dX2_choose_1 : decode cX2_choose 1 = .ok (.tableswitch 116 1 5 #[35, 52, 62, 102, 85], 35) := by decide +kernel
theorem dX2_choose_36 : decode cX2_choose 36 = .ok (.aload_n 0, 1) := by decide +kernel
theorem dX2_choose_37 : decode cX2_choose 37 = .ok (.aload_n 0, 1) := by decide +kernel
theorem dX2_choose_38 : decode cX2_choose 38 = .ok (.getfield 24, 3) := by decide +kernel
theorem dX2_choose_41 : decode cX2_choose 41 = .ok (.getfield 58, 3) := by decide +kernel
theorem dX2_choose_44 : decode cX2_choose 44 = .ok (.iload_n 3, 1) := by decide +kernel
theorem dX2_choose_45 : decode cX2_choose 45 = .ok (.iload 4, 2) := by decide +kernel
theorem dX2_choose_47 : decode cX2_choose 47 = .ok (.iload 5, 2) := by decide +kernel
theorem dX2_choose_49 : decode cX2_choose 49 = .ok (.invokevirtual 64, 3) := by decide +kernel
theorem dX2_choose_52 : decode cX2_choose 52 = .ok (.ireturn, 1) := by decide +kernel
theorem dX2_choose_53 : decode cX2_choose 53 = .ok (.aload_n 0, 1) := by decide +kernel
theorem dX2_choose_54 : decode cX2_choose 54 = .ok (.iload_n 3, 1) := by decide +kernel
theorem dX2_choose_55 : decode cX2_choose 55 = .ok (.iload 4, 2) := by decide +kernel
theorem dX2_choose_57 : decode cX2_choose 57 = .ok (.iload 5, 2) := by decide +kernel
theorem dX2_choose_59 : decode cX2_choose 59 = .ok (.invokevirtual 68, 3) := by decide +kernel
theorem dX2_choose_62 : decode cX2_choose 62 = .ok (.ireturn, 1) := by decide +kernel
theorem dX2_choose_63 : decode cX2_choose 63 = .ok (.aload_n 0, 1) := by decide +kernel
theorem dX2_choose_64 : decode cX2_choose 64 = .ok (.aload_n 0, 1) := by decide +kernel
theorem dX2_choose_65 : decode cX2_choose 65 = .ok (.getfield 24, 3) := by decide +kernel
theorem dX2_choose_68 : decode cX2_choose 68 = .ok (.getfield 58, 3) := by decide +kernel
theorem dX2_choose_71 : decode cX2_choose 71 = .ok (.iload_n 3, 1) := by decide +kernel
theorem dX2_choose_72 : decode cX2_choose 72 = .ok (.iload 4, 2) := by decide +kernel
theorem dX2_choose_74 : decode cX2_choose 74 = .ok (.iload 5, 2) := by decide +kernel
theorem dX2_choose_76 : decode cX2_choose 76 = .ok (.iload 5, 2) := by decide +kernel
theorem dX2_choose_78 : decode cX2_choose 78 = .ok (.bipush 10, 2) := by decide +kernel
theorem dX2_choose_80 : decode cX2_choose 80 = .ok (.irem, 1) := by decide +kernel
theorem dX2_choose_81 : decode cX2_choose 81 = .ok (.isub, 1) := by decide +kernel
theorem dX2_choose_82 : decode cX2_choose 82 = .ok (.invokevirtual 64, 3) := by decide +kernel
theorem dX2_choose_85 : decode cX2_choose 85 = .ok (.ireturn, 1) := by decide +kernel
theorem dX2_choose_86 : decode cX2_choose 86 = .ok (.aload_n 0, 1) := by decide +kernel
theorem dX2_choose_87 : decode cX2_choose 87 = .ok (.aload_n 0, 1) := by decide +kernel
theorem dX2_choose_88 : decode cX2_choose 88 = .ok (.getfield 20, 3) := by decide +kernel
theorem dX2_choose_91 : decode cX2_choose 91 = .ok (.invokevirtual 72, 3) := by decide +kernel
theorem dX2_choose_94 : decode cX2_choose 94 = .ok (.iload_n 3, 1) := by decide +kernel
theorem dX2_choose_95 : decode cX2_choose 95 = .ok (.iload 4, 2) := by decide +kernel
theorem dX2_choose_97 : decode cX2_choose 97 = .ok (.iload 5, 2) := by decide +kernel
theorem dX2_choose_99 : decode cX2_choose 99 = .ok (.invokevirtual 64, 3) := by decide +kernel
theorem dX2_choose_102 : decode cX2_choose 102 = .ok (.ireturn, 1) := by decide +kernel
theorem dX2_choose_103 : decode cX2_choose 103 = .ok (.aload_n 0, 1) := by decide +kernel
theorem dX2_choose_104 : decode cX2_choose 104 = .ok (.iload_n 2, 1) := by decide +kernel
theorem dX2_choose_105 : decode cX2_choose 105 = .ok (.invokevirtual 48, 3) := by decide +kernel
theorem dX2_choose_108 : decode cX2_choose 108 = .ok (.iload_n 3, 1) := by decide +kernel
theorem dX2_choose_109 : decode cX2_choose 109 = .ok (.iload 4, 2) := by decide +kernel
theorem dX2_choose_111 : decode cX2_choose 111 = .ok (.iload 5, 2) := by decide +kernel
theorem dX2_choose_113 : decode cX2_choose 113 = .ok (.invokevirtual 78, 3) := by decide +kernel
theorem dX2_choose_116 : decode cX2_choose 116 = .ok (.ireturn, 1) := by decide +kernel
theorem dX2_choose_117 : decode cX2_choose 117 = .ok (.aload_n 0, 1) := by decide +kernel
theorem dX2_choose_118 : decode cX2_choose 118 = .ok (.iload_n 2, 1) := by decide +kernel
theorem dX2_choose_119 : decode cX2_choose 119 = .ok (.invokevirtual 34, 3) := by decide +kernel
theorem dX2_choose_122 : decode cX2_choose 122 = .ok (.iload_n 3, 1) := by decide +kernel
theorem dX2_choose_123 : decode cX2_choose 123 = .ok (.iload 4, 2) := by decide +kernel
theorem dX2_choose_125 : decode cX2_choose 125 = .ok (.iload 5, 2) := by decide +kernel
theorem dX2_choose_127 : decode cX2_choose 127 = .ok (.invokevirtual 78, 3) := by decide +kernel
theorem dX2_choose_130 : decode cX2_choose 130 = .ok (.ireturn, 1) := by decide +kernel
set_option maxRecDepth 20000 in
theorem ggX2_bySpeed_X0_deepest : GoodIn wsX2_bySpeed wsX0_deepest := goodIn_r _ [7, 8, 9, 10, 11, 12, 13, 14, 15, 16, 17, 37, 38, 39, 40, 41, 42, 43, 44, 45, 46, 47, 48, 49, 50, 51, 52, 53] (by decide +kernel) (by decide +kernel)
set_option maxRecDepth 20000 in
theorem gX2_bySpeed_X0_deepest : GoodIn wsX2_bySpeed (wsV RX2 81 RX0 yX0_deepest wsX0_deepest) := goodIn_app (goodIn_of _ (by decide +kernel)) ggX2_bySpeed_X0_deepest
set_option maxRecDepth 20000 in
theorem ggX2_bySpeed_X0_fineOf : GoodIn wsX2_bySpeed wsX0_fineOf := goodIn_r _ [21, 22, 15, 16, 17, 37, 38, 39, 40, 41, 42, 43, 44, 45, 46, 47, 48, 49, 50, 51, 52, 53] (by decide +kernel) (by decide +kernel)
set_option maxRecDepth 20000 in
theorem gX2_bySpeed_X0_fineOf : GoodIn wsX2_bySpeed (wsV RX2 88 RX0 yX0_fineOf wsX0_fineOf) := goodIn_app (goodIn_of _ (by decide +kernel)) ggX2_bySpeed_X0_fineOf
set_option maxRecDepth 20000 in
theorem ggX2_bySpeed_X2_passOf : GoodIn wsX2_bySpeed wsX2_passOf := goodIn_r _ [26] (by decide +kernel) (by decide +kernel)
set_option maxRecDepth 20000 in
theorem gX2_bySpeed_X2_passOf : GoodIn wsX2_bySpeed (va_wsS RX2 92 yX2_passOf wsX2_passOf) := goodIn_app (goodIn_of _ (by decide +kernel)) ggX2_bySpeed_X2_passOf
theorem dX2_bySpeed_0 : decode cX2_bySpeed 0 = .ok (.aload_n 0, 1) := by decide +kernel
theorem dX2_bySpeed_1 : decode cX2_bySpeed 1 = .ok (.getfield 20, 3) := by decide +kernel
theorem dX2_bySpeed_4 : decode cX2_bySpeed 4 = .ok (.iload_n 1, 1) := by decide +kernel
theorem dX2_bySpeed_5 : decode cX2_bySpeed 5 = .ok (.iload_n 3, 1) := by decide +kernel
theorem dX2_bySpeed_6 : decode cX2_bySpeed 6 = .ok (.invokevirtual 81, 3) := by decide +kernel
theorem dX2_bySpeed_9 : decode cX2_bySpeed 9 = .ok (.istore 5, 2) := by decide +kernel
theorem dX2_bySpeed_11 : decode cX2_bySpeed 11 = .ok (.iload 5, 2) := by decide +kernel
theorem dX2_bySpeed_13 : decode cX2_bySpeed 13 = .ok (.ifCond .ne 6, 3) := by decide +kernel
theorem dX2_bySpeed_16 : decode cX2_bySpeed 16 = .ok (.bipush 49, 2) := by decide +kernel
theorem dX2_bySpeed_18 : decode cX2_bySpeed 18 = .ok (.ireturn, 1) := by decide +kernel
theorem dX2_bySpeed_19 : decode cX2_bySpeed 19 = .ok (.iload 4, 2) := by decide +kernel
theorem dX2_bySpeed_21 : decode cX2_bySpeed 21 = .ok (.aload_n 0, 1) := by decide +kernel
theorem dX2_bySpeed_22 : decode cX2_bySpeed 22 = .ok (.getfield 24, 3) := by decide +kernel
theorem dX2_bySpeed_25 : decode cX2_bySpeed 25 = .ok (.getfield 85, 3) := by decide +kernel
theorem dX2_bySpeed_28 : decode cX2_bySpeed 28 = .ok (.if_icmp .gt 22, 3) := by decide +kernel
theorem dX2_bySpeed_31 : decode cX2_bySpeed 31 = .ok (.iload 5, 2) := by decide +kernel
theorem dX2_bySpeed_33 : decode cX2_bySpeed 33 = .ok (.iload_n 3, 1) := by decide +kernel
theorem dX2_bySpeed_34 : decode cX2_bySpeed 34 = .ok (.if_icmp .ne 20, 3) := by decide +kernel
theorem dX2_bySpeed_37 : decode cX2_bySpeed 37 = .ok (.iload 4, 2) := by decide +kernel
theorem dX2_bySpeed_39 : decode cX2_bySpeed 39 = .ok (.aload_n 0, 1) := by decide +kernel
theorem dX2_bySpeed_40 : decode cX2_bySpeed 40 = .ok (.getfield 20, 3) := by decide +kernel
theorem dX2_bySpeed_43 : decode cX2_bySpeed 43 = .ok (.iload_n 2, 1) := by decide +kernel
theorem dX2_bySpeed_44 : decode cX2_bySpeed 44 = .ok (.invokevirtual 88, 3) := by decide +kernel
theorem dX2_bySpeed_47 : decode cX2_bySpeed 47 = .ok (.if_icmp .le 7, 3) := by decide +kernel
theorem dX2_bySpeed_50 : decode cX2_bySpeed 50 = .ok (.iconst 1, 1) := by decide +kernel
theorem dX2_bySpeed_51 : decode cX2_bySpeed 51 = .ok (.goto 4, 3) := by decide +kernel
theorem dX2_bySpeed_54 : decode cX2_bySpeed 54 = .ok (.iconst 0, 1) := by decide +kernel
theorem dX2_bySpeed_55 : decode cX2_bySpeed 55 = .ok (.istore 6, 2) := by decide +kernel
theorem dX2_bySpeed_57 : decode cX2_bySpeed 57 = .ok (.iload 6, 2) := by decide +kernel
theorem dX2_bySpeed_59 : decode cX2_bySpeed 59 = .ok (.ifCond .eq 8, 3) := by decide +kernel
theorem dX2_bySpeed_62 : decode cX2_bySpeed 62 = .ok (.bipush 48, 2) := by decide +kernel
theorem dX2_bySpeed_64 : decode cX2_bySpeed 64 = .ok (.goto 9, 3) := by decide +kernel
theorem dX2_bySpeed_67 : decode cX2_bySpeed 67 = .ok (.iload_n 1, 1) := by decide +kernel
theorem dX2_bySpeed_68 : decode cX2_bySpeed 68 = .ok (.iload 5, 2) := by decide +kernel
theorem dX2_bySpeed_70 : decode cX2_bySpeed 70 = .ok (.invokestatic 92, 3) := by decide +kernel
theorem dX2_bySpeed_73 : decode cX2_bySpeed 73 = .ok (.ireturn, 1) := by decide +kernel
set_option maxRecDepth 20000 in
theorem ggX2_byCount_X0_deepest : GoodIn wsX2_byCount wsX0_deepest := goodIn_r _ [7, 8, 9, 10, 11, 12, 13, 14, 15, 16, 17, 41, 42, 43, 44, 45, 46, 47, 48, 49, 50, 51, 52, 53, 54, 55, 56, 57] (by decide +kernel) (by decide +kernel)
set_option maxRecDepth 20000 in
theorem gX2_byCount_X0_deepest : GoodIn wsX2_byCount (wsV RX2 81 RX0 yX0_deepest wsX0_deepest) := goodIn_app (goodIn_of _ (by decide +kernel)) ggX2_byCount_X0_deepest
set_option maxRecDepth 20000 in
theorem ggX2_byCount_X0_stepsOf : GoodIn wsX2_byCount wsX0_stepsOf := goodIn_r _ [21, 22, 15, 16, 17, 41, 42, 43, 44, 45, 46, 47, 48, 49, 50, 51, 52, 53, 54, 55, 56, 57] (by decide +kernel) (by decide +kernel)
set_option maxRecDepth 20000 in
theorem gX2_byCount_X0_stepsOf : GoodIn wsX2_byCount (wsV RX2 95 RX0 yX0_stepsOf wsX0_stepsOf) := goodIn_app (goodIn_of _ (by decide +kernel)) ggX2_byCount_X0_stepsOf
set_option maxRecDepth 20000 in
theorem ggX2_byCount_X2_isCounted : GoodIn wsX2_byCount wsX2_isCounted := goodIn_r _ [27, 2, 31, 32, 33, 34, 35, 36, 37, 38, 39, 40] (by decide +kernel) (by decide +kernel)
set_option maxRecDepth 20000 in
theorem gX2_byCount_X2_isCounted : GoodIn wsX2_byCount (wsV RX2 98 RX2 yX2_isCounted wsX2_isCounted) := goodIn_app (goodIn_of _ (by decide +kernel)) ggX2_byCount_X2_isCounted
set_option maxRecDepth 20000 in
theorem ggX2_byCount_X2_passOf : GoodIn wsX2_byCount wsX2_passOf := goodIn_r _ [30] (by decide +kernel) (by decide +kernel)
set_option maxRecDepth 20000 in
theorem gX2_byCount_X2_passOf : GoodIn wsX2_byCount (va_wsS RX2 92 yX2_passOf wsX2_passOf) := goodIn_app (goodIn_of _ (by decide +kernel)) ggX2_byCount_X2_passOf
theorem dX2_byCount_0 : decode cX2_byCount 0 = .ok (.aload_n 0, 1) := by decide +kernel
theorem dX2_byCount_1 : decode cX2_byCount 1 = .ok (.getfield 20, 3) := by decide +kernel
theorem dX2_byCount_4 : decode cX2_byCount 4 = .ok (.aload_n 0, 1) := by decide +kernel
theorem dX2_byCount_5 : decode cX2_byCount 5 = .ok (.getfield 24, 3) := by decide +kernel
theorem dX2_byCount_8 : decode cX2_byCount 8 = .ok (.getfield 58, 3) := by decide +kernel
theorem dX2_byCount_11 : decode cX2_byCount 11 = .ok (.iload_n 2, 1) := by decide +kernel
theorem dX2_byCount_12 : decode cX2_byCount 12 = .ok (.invokevirtual 81, 3) := by decide +kernel
theorem dX2_byCount_15 : decode cX2_byCount 15 = .ok (.istore 4, 2) := by decide +kernel
theorem dX2_byCount_17 : decode cX2_byCount 17 = .ok (.iload 4, 2) := by decide +kernel
theorem dX2_byCount_19 : decode cX2_byCount 19 = .ok (.ifCond .ne 6, 3) := by decide +kernel
theorem dX2_byCount_22 : decode cX2_byCount 22 = .ok (.bipush 49, 2) := by decide +kernel
theorem dX2_byCount_24 : decode cX2_byCount 24 = .ok (.ireturn, 1) := by decide +kernel
theorem dX2_byCount_25 : decode cX2_byCount 25 = .ok (.iload_n 2, 1) := by decide +kernel
theorem dX2_byCount_26 : decode cX2_byCount 26 = .ok (.aload_n 0, 1) := by decide +kernel
theorem dX2_byCount_27 : decode cX2_byCount 27 = .ok (.getfield 20, 3) := by decide +kernel
theorem dX2_byCount_30 : decode cX2_byCount 30 = .ok (.iload_n 1, 1) := by decide +kernel
theorem dX2_byCount_31 : decode cX2_byCount 31 = .ok (.invokevirtual 95, 3) := by decide +kernel
theorem dX2_byCount_34 : decode cX2_byCount 34 = .ok (.if_icmp .ne 11, 3) := by decide +kernel
theorem dX2_byCount_37 : decode cX2_byCount 37 = .ok (.iload_n 3, 1) := by decide +kernel
theorem dX2_byCount_38 : decode cX2_byCount 38 = .ok (.ifCond .le 7, 3) := by decide +kernel
theorem dX2_byCount_41 : decode cX2_byCount 41 = .ok (.iconst 1, 1) := by decide +kernel
theorem dX2_byCount_42 : decode cX2_byCount 42 = .ok (.goto 4, 3) := by decide +kernel
theorem dX2_byCount_45 : decode cX2_byCount 45 = .ok (.iconst 0, 1) := by decide +kernel
theorem dX2_byCount_46 : decode cX2_byCount 46 = .ok (.istore 5, 2) := by decide +kernel
theorem dX2_byCount_48 : decode cX2_byCount 48 = .ok (.iload 5, 2) := by decide +kernel
theorem dX2_byCount_50 : decode cX2_byCount 50 = .ok (.ifCond .eq 16, 3) := by decide +kernel
theorem dX2_byCount_53 : decode cX2_byCount 53 = .ok (.aload_n 0, 1) := by decide +kernel
theorem dX2_byCount_54 : decode cX2_byCount 54 = .ok (.iload_n 1, 1) := by decide +kernel
theorem dX2_byCount_55 : decode cX2_byCount 55 = .ok (.invokevirtual 98, 3) := by decide +kernel
theorem dX2_byCount_58 : decode cX2_byCount 58 = .ok (.ifCond .eq 8, 3) := by decide +kernel
theorem dX2_byCount_61 : decode cX2_byCount 61 = .ok (.bipush 48, 2) := by decide +kernel
theorem dX2_byCount_63 : decode cX2_byCount 63 = .ok (.goto 15, 3) := by decide +kernel
theorem dX2_byCount_66 : decode cX2_byCount 66 = .ok (.aload_n 0, 1) := by decide +kernel
theorem dX2_byCount_67 : decode cX2_byCount 67 = .ok (.getfield 24, 3) := by decide +kernel
theorem dX2_byCount_70 : decode cX2_byCount 70 = .ok (.getfield 58, 3) := by decide +kernel
theorem dX2_byCount_73 : decode cX2_byCount 73 = .ok (.iload 4, 2) := by decide +kernel
theorem dX2_byCount_75 : decode cX2_byCount 75 = .ok (.invokestatic 92, 3) := by decide +kernel
theorem dX2_byCount_78 : decode cX2_byCount 78 = .ok (.ireturn, 1) := by decide +kernel
theorem dX2_isCounted_0 : decode cX2_isCounted 0 = .ok (.iload_n 1, 1) := by decide +kernel
theorem dX2_isCounted_1 : decode cX2_isCounted 1 = .ok (.ifCond .le 29, 3) := by decide +kernel
theorem dX2_isCounted_4 : decode cX2_isCounted 4 = .ok (.aload_n 0, 1) := by decide +kernel
theorem dX2_isCounted_5 : decode cX2_isCounted 5 = .ok (.getfield 24, 3) := by decide +kernel
theorem dX2_isCounted_8 : decode cX2_isCounted 8 = .ok (.getfield 102, 3) := by decide +kernel
theorem dX2_isCounted_11 : decode cX2_isCounted 11 = .ok (.ifCond .le 19, 3) := by decide +kernel
theorem dX2_isCounted_14 : decode cX2_isCounted 14 = .ok (.iload_n 1, 1) := by decide +kernel
theorem dX2_isCounted_15 : decode cX2_isCounted 15 = .ok (.aload_n 0, 1) := by decide +kernel
theorem dX2_isCounted_16 : decode cX2_isCounted 16 = .ok (.getfield 24, 3) := by decide +kernel
theorem dX2_isCounted_19 : decode cX2_isCounted 19 = .ok (.getfield 102, 3) := by decide +kernel
theorem dX2_isCounted_22 : decode cX2_isCounted 22 = .ok (.irem, 1) := by decide +kernel
theorem dX2_isCounted_23 : decode cX2_isCounted 23 = .ok (.ifCond .ne 7, 3) := by decide +kernel
theorem dX2_isCounted_26 : decode cX2_isCounted 26 = .ok (.iconst 1, 1) := by decide +kernel
theorem dX2_isCounted_27 : decode cX2_isCounted 27 = .ok (.goto 4, 3) := by decide +kernel
theorem dX2_isCounted_30 : decode cX2_isCounted 30 = .ok (.iconst 0, 1) := by decide +kernel
theorem dX2_isCounted_31 : decode cX2_isCounted 31 = .ok (.ireturn, 1) := by decide +kernel
theorem dX2_passOf_0 : decode cX2_passOf 0 = .ok (.iload_n 0, 1) := by decide +kernel
theorem dX2_passOf_1 : decode cX2_passOf 1 = .ok (.bipush 8, 2) := by decide +kernel
theorem dX2_passOf_3 : decode cX2_passOf 3 = .ok (.imul, 1) := by decide +kernel
theorem dX2_passOf_4 : decode cX2_passOf 4 = .ok (.iload_n 1, 1) := by decide +kernel
theorem dX2_passOf_5 : decode cX2_passOf 5 = .ok (.iadd, 1) := by decide +kernel
theorem dX2_passOf_6 : decode cX2_passOf 6 = .ok (.iconst 1, 1) := by decide +kernel
theorem dX2_passOf_7 : decode cX2_passOf 7 = .ok (.isub, 1) := by decide +kernel
theorem dX2_passOf_8 : decode cX2_passOf 8 = .ok (.ireturn, 1) := by decide +kernel
theorem dX3_init_0 : decode cX3_init 0 = .ok (.aload_n 0, 1) := by decide +kernel
theorem dX3_init_1 : decode cX3_init 1 = .ok (.invokespecial 1, 3) := by decide +kernel
theorem dX3_init_4 : decode cX3_init 4 = .ok (.aload_n 0, 1) := by decide +kernel
theorem dX3_init_5 : decode cX3_init 5 = .ok (.sipush 256, 3) := by decide +kernel
theorem dX3_init_8 : decode cX3_init 8 = .ok (.newarray .int, 2) := by decide +kernel
theorem dX3_init_10 : decode cX3_init 10 = .ok (.putfield 9, 3) := by decide +kernel
theorem dX3_init_13 : decode cX3_init 13 = .ok (.aload_n 0, 1) := by decide +kernel
theorem dX3_init_14 : decode cX3_init 14 = .ok (.sipush 256, 3) := by decide +kernel
theorem dX3_init_17 : decode cX3_init 17 = .ok (.newarray .int, 2) := by decide +kernel
theorem dX3_init_19 : decode cX3_init 19 = .ok (.putfield 13, 3) := by decide +kernel
theorem dX3_init_22 : decode cX3_init 22 = .ok (.return_, 1) := by decide +kernel
set_option maxRecDepth 20000 in
theorem ggX3_goRound_J7_fill_53178 : GoodIn wsX3_goRound wsJ7_fill_53178 := goodIn_r _ [10] (by decide +kernel) (by decide +kernel)
set_option maxRecDepth 20000 in
theorem gX3_goRound_J7_fill_53178 : GoodIn wsX3_goRound (va_wsS RX3 16 yJ7_fill_53178 wsJ7_fill_53178) := goodIn_app (goodIn_of _ (by decide +kernel)) ggX3_goRound_J7_fill_53178
set_option maxRecDepth 20000 in
theorem ggX3_goRound_X3_endsRound : GoodIn wsX3_goRound wsX3_endsRound := goodIn_r _ [15, 1, 16, 17, 18, 19, 20, 21, 22, 23, 24, 25, 26, 27] (by decide +kernel) (by decide +kernel)
set_option maxRecDepth 20000 in
theorem gX3_goRound_X3_endsRound : GoodIn wsX3_goRound (wsV RX3 22 RX3 yX3_endsRound wsX3_endsRound) := goodIn_app (goodIn_of _ (by decide +kernel)) ggX3_goRound_X3_endsRound
theorem dX3_goRound_0 : decode cX3_goRound 0 = .ok (.aload_n 0, 1) := by decide +kernel
theorem dX3_goRound_1 : decode cX3_goRound 1 = .ok (.getfield 9, 3) := by decide +kernel
theorem dX3_goRound_4 : decode cX3_goRound 4 = .ok (.iconst (-1), 1) := by decide +kernel
theorem dX3_goRound_5 : decode cX3_goRound 5 = .ok (.invokestatic 16, 3) := by decide +kernel
theorem dX3_goRound_8 : decode cX3_goRound 8 = .ok (.iload_n 1, 1) := by decide +kernel
theorem dX3_goRound_9 : decode cX3_goRound 9 = .ok (.istore 5, 2) := by decide +kernel
theorem dX3_goRound_11 : decode cX3_goRound 11 = .ok (.iload_n 3, 1) := by decide +kernel
theorem dX3_goRound_12 : decode cX3_goRound 12 = .ok (.istore 6, 2) := by decide +kernel
theorem dX3_goRound_14 : decode cX3_goRound 14 = .ok (.iconst 0, 1) := by decide +kernel
theorem dX3_goRound_15 : decode cX3_goRound 15 = .ok (.istore 7, 2) := by decide +kernel
theorem dX3_goRound_17 : decode cX3_goRound 17 = .ok (.iconst 0, 1) := by decide +kernel
theorem dX3_goRound_18 : decode cX3_goRound 18 = .ok (.istore 8, 2) := by decide +kernel
theorem dX3_goRound_20 : decode cX3_goRound 20 = .ok (.aload_n 0, 1) := by decide +kernel
theorem dX3_goRound_21 : decode cX3_goRound 21 = .ok (.iconst 0, 1) := by decide +kernel
theorem dX3_goRound_22 : decode cX3_goRound 22 = .ok (.iload 6, 2) := by decide +kernel
theorem dX3_goRound_24 : decode cX3_goRound 24 = .ok (.iconst 0, 1) := by decide +kernel
theorem dX3_goRound_25 : decode cX3_goRound 25 = .ok (.invokevirtual 22, 3) := by decide +kernel
theorem dX3_goRound_28 : decode cX3_goRound 28 = .ok (.pop, 1) := by decide +kernel
theorem dX3_goRound_29 : decode cX3_goRound 29 = .ok (.iconst 0, 1) := by decide +kernel
theorem dX3_goRound_30 : decode cX3_goRound 30 = .ok (.istore 9, 2) := by decide +kernel
theorem dX3_goRound_32 : decode cX3_goRound 32 = .ok (.iload 9, 2) := by decide +kernel
theorem dX3_goRound_34 : decode cX3_goRound 34 = .ok (.ldc 26, 2) := by decide +kernel
theorem dX3_goRound_36 : decode cX3_goRound 36 = .ok (.if_icmp .ge 126, 3) := by decide +kernel
theorem dX3_goRound_39 : decode cX3_goRound 39 = .ok (.iload 7, 2) := by decide +kernel
theorem dX3_goRound_41 : decode cX3_goRound 41 = .ok (.sipush 20000, 3) := by decide +kernel
theorem dX3_goRound_44 : decode cX3_goRound 44 = .ok (.if_icmp .gt 118, 3) := by decide +kernel
theorem dX3_goRound_47 : decode cX3_goRound 47 = .ok (.iload 5, 2) := by decide +kernel
theorem dX3_goRound_49 : decode cX3_goRound 49 = .ok (.iload 6, 2) := by decide +kernel
theorem dX3_goRound_51 : decode cX3_goRound 51 = .ok (.if_icmp .gt 7, 3) := by decide +kernel
theorem dX3_goRound_54 : decode cX3_goRound 54 = .ok (.iconst 1, 1) := by decide +kernel
theorem dX3_goRound_55 : decode cX3_goRound 55 = .ok (.goto 4, 3) := by decide +kernel
theorem dX3_goRound_58 : decode cX3_goRound 58 = .ok (.iconst 0, 1) := by decide +kernel
theorem dX3_goRound_59 : decode cX3_goRound 59 = .ok (.istore 10, 2) := by decide +kernel
theorem dX3_goRound_61 : decode cX3_goRound 61 = .ok (.iload 10, 2) := by decide +kernel
theorem dX3_goRound_63 : decode cX3_goRound 63 = .ok (.ifCond .eq 8, 3) := by decide +kernel
theorem dX3_goRound_66 : decode cX3_goRound 66 = .ok (.iload 5, 2) := by decide +kernel
theorem dX3_goRound_68 : decode cX3_goRound 68 = .ok (.goto 5, 3) := by decide +kernel
theorem dX3_goRound_71 : decode cX3_goRound 71 = .ok (.iload 6, 2) := by decide +kernel
theorem dX3_goRound_73 : decode cX3_goRound 73 = .ok (.istore 11, 2) := by decide +kernel
theorem dX3_goRound_75 : decode cX3_goRound 75 = .ok (.iload 11, 2) := by decide +kernel
theorem dX3_goRound_77 : decode cX3_goRound 77 = .ok (.iload 7, 2) := by decide +kernel
theorem dX3_goRound_79 : decode cX3_goRound 79 = .ok (.invokestatic 27, 3) := by decide +kernel
theorem dX3_goRound_82 : decode cX3_goRound 82 = .ok (.istore 12, 2) := by decide +kernel
theorem dX3_goRound_84 : decode cX3_goRound 84 = .ok (.iload 8, 2) := by decide +kernel
theorem dX3_goRound_86 : decode cX3_goRound 86 = .ok (.iload 12, 2) := by decide +kernel
theorem dX3_goRound_88 : decode cX3_goRound 88 = .ok (.iload 11, 2) := by decide +kernel
theorem dX3_goRound_90 : decode cX3_goRound 90 = .ok (.isub, 1) := by decide +kernel
theorem dX3_goRound_91 : decode cX3_goRound 91 = .ok (.iadd, 1) := by decide +kernel
theorem dX3_goRound_92 : decode cX3_goRound 92 = .ok (.istore 8, 2) := by decide +kernel
theorem dX3_goRound_94 : decode cX3_goRound 94 = .ok (.iload 12, 2) := by decide +kernel
theorem dX3_goRound_96 : decode cX3_goRound 96 = .ok (.iload 10, 2) := by decide +kernel
theorem dX3_goRound_98 : decode cX3_goRound 98 = .ok (.ifCond .eq 7, 3) := by decide +kernel
theorem dX3_goRound_101 : decode cX3_goRound 101 = .ok (.iload_n 2, 1) := by decide +kernel
theorem dX3_goRound_102 : decode cX3_goRound 102 = .ok (.goto 5, 3) := by decide +kernel
theorem dX3_goRound_105 : decode cX3_goRound 105 = .ok (.iload 4, 2) := by decide +kernel
theorem dX3_goRound_107 : decode cX3_goRound 107 = .ok (.iadd, 1) := by decide +kernel
theorem dX3_goRound_108 : decode cX3_goRound 108 = .ok (.istore 7, 2) := by decide +kernel
theorem dX3_goRound_110 : decode cX3_goRound 110 = .ok (.iload 10, 2) := by decide +kernel
theorem dX3_goRound_112 : decode cX3_goRound 112 = .ok (.ifCond .ne 12, 3) := by decide +kernel
theorem dX3_goRound_115 : decode cX3_goRound 115 = .ok (.iload 7, 2) := by decide +kernel
theorem dX3_goRound_117 : decode cX3_goRound 117 = .ok (.iload_n 3, 1) := by decide +kernel
theorem dX3_goRound_118 : decode cX3_goRound 118 = .ok (.iadd, 1) := by decide +kernel
theorem dX3_goRound_119 : decode cX3_goRound 119 = .ok (.istore 6, 2) := by decide +kernel
theorem dX3_goRound_121 : decode cX3_goRound 121 = .ok (.goto 35, 3) := by decide +kernel
theorem dX3_goRound_124 : decode cX3_goRound 124 = .ok (.iload 7, 2) := by decide +kernel
theorem dX3_goRound_126 : decode cX3_goRound 126 = .ok (.iload_n 1, 1) := by decide +kernel
theorem dX3_goRound_127 : decode cX3_goRound 127 = .ok (.iadd, 1) := by decide +kernel
theorem dX3_goRound_128 : decode cX3_goRound 128 = .ok (.istore 5, 2) := by decide +kernel
theorem dX3_goRound_130 : decode cX3_goRound 130 = .ok (.iload 7, 2) := by decide +kernel
theorem dX3_goRound_132 : decode cX3_goRound 132 = .ok (.sipush 20000, 3) := by decide +kernel
theorem dX3_goRound_135 : decode cX3_goRound 135 = .ok (.if_icmp .gt 21, 3) := by decide +kernel
theorem dX3_goRound_138 : decode cX3_goRound 138 = .ok (.aload_n 0, 1) := by decide +kernel
theorem dX3_goRound_139 : decode cX3_goRound 139 = .ok (.iload 7, 2) := by decide +kernel
theorem dX3_goRound_141 : decode cX3_goRound 141 = .ok (.iload 6, 2) := by decide +kernel
theorem dX3_goRound_143 : decode cX3_goRound 143 = .ok (.iload 7, 2) := by decide +kernel
theorem dX3_goRound_145 : decode cX3_goRound 145 = .ok (.isub, 1) := by decide +kernel
theorem dX3_goRound_146 : decode cX3_goRound 146 = .ok (.iload 8, 2) := by decide +kernel
theorem dX3_goRound_148 : decode cX3_goRound 148 = .ok (.invokevirtual 22, 3) := by decide +kernel
theorem dX3_goRound_151 : decode cX3_goRound 151 = .ok (.ifCond .eq 5, 3) := by decide +kernel
theorem dX3_goRound_154 : decode cX3_goRound 154 = .ok (.iconst 1, 1) := by decide +kernel
theorem dX3_goRound_155 : decode cX3_goRound 155 = .ok (.ireturn, 1) := by decide +kernel
theorem dX3_goRound_156 : decode cX3_goRound 156 = .ok (.iinc 9 1, 3) := by decide +kernel
theorem dX3_goRound_159 : decode cX3_goRound 159 = .ok (.goto (-127), 3) := by decide +kernel
theorem dX3_goRound_162 : decode cX3_goRound 162 = .ok (.iconst 0, 1) := by decide +kernel
theorem dX3_goRound_163 : decode cX3_goRound 163 = .ok (.ireturn, 1) := by decide +kernel
set_option maxRecDepth 20000 in
theorem ggX3_endsRound_X11_within : GoodIn wsX3_endsRound wsX11_within := goodIn_r _ [8] (by decide +kernel) (by decide +kernel)
set_option maxRecDepth 20000 in
theorem gX3_endsRound_X11_within_n33 : GoodIn wsX3_endsRound (wsX11_within) := ggX3_endsRound_X11_within
theorem dX3_endsRound_0 : decode cX3_endsRound 0 = .ok (.iload_n 2, 1) := by decide +kernel
theorem dX3_endsRound_1 : decode cX3_endsRound 1 = .ok (.bipush 100, 2) := by decide +kernel
theorem dX3_endsRound_3 : decode cX3_endsRound 3 = .ok (.iadd, 1) := by decide +kernel
theorem dX3_endsRound_4 : decode cX3_endsRound 4 = .ok (.istore 4, 2) := by decide +kernel
theorem dX3_endsRound_6 : decode cX3_endsRound 6 = .ok (.iload 4, 2) := by decide +kernel
theorem dX3_endsRound_8 : decode cX3_endsRound 8 = .ok (.iconst 0, 1) := by decide +kernel
theorem dX3_endsRound_9 : decode cX3_endsRound 9 = .ok (.sipush 255, 3) := by decide +kernel
theorem dX3_endsRound_12 : decode cX3_endsRound 12 = .ok (.invokestatic 33, 3) := by decide +kernel
theorem dX3_endsRound_15 : decode cX3_endsRound 15 = .ok (.ifCond .ne 5, 3) := by decide +kernel
theorem dX3_endsRound_18 : decode cX3_endsRound 18 = .ok (.iconst 0, 1) := by decide +kernel
theorem dX3_endsRound_19 : decode cX3_endsRound 19 = .ok (.ireturn, 1) := by decide +kernel
theorem dX3_endsRound_20 : decode cX3_endsRound 20 = .ok (.aload_n 0, 1) := by decide +kernel
theorem dX3_endsRound_21 : decode cX3_endsRound 21 = .ok (.getfield 9, 3) := by decide +kernel
theorem dX3_endsRound_24 : decode cX3_endsRound 24 = .ok (.iload 4, 2) := by decide +kernel
theorem dX3_endsRound_26 : decode cX3_endsRound 26 = .ok (.iaload, 1) := by decide +kernel
theorem dX3_endsRound_27 : decode cX3_endsRound 27 = .ok (.ifCond .ge 21, 3) := by decide +kernel
theorem dX3_endsRound_30 : decode cX3_endsRound 30 = .ok (.aload_n 0, 1) := by decide +kernel
theorem dX3_endsRound_31 : decode cX3_endsRound 31 = .ok (.getfield 9, 3) := by decide +kernel
theorem dX3_endsRound_34 : decode cX3_endsRound 34 = .ok (.iload 4, 2) := by decide +kernel
theorem dX3_endsRound_36 : decode cX3_endsRound 36 = .ok (.iload_n 1, 1) := by decide +kernel
theorem dX3_endsRound_37 : decode cX3_endsRound 37 = .ok (.iastore, 1) := by decide +kernel
theorem dX3_endsRound_38 : decode cX3_endsRound 38 = .ok (.aload_n 0, 1) := by decide +kernel
theorem dX3_endsRound_39 : decode cX3_endsRound 39 = .ok (.getfield 13, 3) := by decide +kernel
theorem dX3_endsRound_42 : decode cX3_endsRound 42 = .ok (.iload 4, 2) := by decide +kernel
theorem dX3_endsRound_44 : decode cX3_endsRound 44 = .ok (.iload_n 3, 1) := by decide +kernel
theorem dX3_endsRound_45 : decode cX3_endsRound 45 = .ok (.iastore, 1) := by decide +kernel
theorem dX3_endsRound_46 : decode cX3_endsRound 46 = .ok (.iconst 0, 1) := by decide +kernel
theorem dX3_endsRound_47 : decode cX3_endsRound 47 = .ok (.ireturn, 1) := by decide +kernel
theorem dX3_endsRound_48 : decode cX3_endsRound 48 = .ok (.aload_n 0, 1) := by decide +kernel
theorem dX3_endsRound_49 : decode cX3_endsRound 49 = .ok (.aload_n 0, 1) := by decide +kernel
theorem dX3_endsRound_50 : decode cX3_endsRound 50 = .ok (.getfield 9, 3) := by decide +kernel
theorem dX3_endsRound_53 : decode cX3_endsRound 53 = .ok (.iload 4, 2) := by decide +kernel
theorem dX3_endsRound_55 : decode cX3_endsRound 55 = .ok (.iaload, 1) := by decide +kernel
theorem dX3_endsRound_56 : decode cX3_endsRound 56 = .ok (.putfield 38, 3) := by decide +kernel
theorem dX3_endsRound_59 : decode cX3_endsRound 59 = .ok (.aload_n 0, 1) := by decide +kernel
theorem dX3_endsRound_60 : decode cX3_endsRound 60 = .ok (.iload_n 1, 1) := by decide +kernel
theorem dX3_endsRound_61 : decode cX3_endsRound 61 = .ok (.aload_n 0, 1) := by decide +kernel
theorem dX3_endsRound_62 : decode cX3_endsRound 62 = .ok (.getfield 38, 3) := by decide +kernel
theorem dX3_endsRound_65 : decode cX3_endsRound 65 = .ok (.isub, 1) := by decide +kernel
theorem dX3_endsRound_66 : decode cX3_endsRound 66 = .ok (.putfield 42, 3) := by decide +kernel
theorem dX3_endsRound_69 : decode cX3_endsRound 69 = .ok (.aload_n 0, 1) := by decide +kernel
theorem dX3_endsRound_70 : decode cX3_endsRound 70 = .ok (.iload_n 3, 1) := by decide +kernel
theorem dX3_endsRound_71 : decode cX3_endsRound 71 = .ok (.aload_n 0, 1) := by decide +kernel
theorem dX3_endsRound_72 : decode cX3_endsRound 72 = .ok (.getfield 13, 3) := by decide +kernel
theorem dX3_endsRound_75 : decode cX3_endsRound 75 = .ok (.iload 4, 2) := by decide +kernel
theorem dX3_endsRound_77 : decode cX3_endsRound 77 = .ok (.iaload, 1) := by decide +kernel
theorem dX3_endsRound_78 : decode cX3_endsRound 78 = .ok (.isub, 1) := by decide +kernel
theorem dX3_endsRound_79 : decode cX3_endsRound 79 = .ok (.putfield 45, 3) := by decide +kernel
theorem dX3_endsRound_82 : decode cX3_endsRound 82 = .ok (.iconst 1, 1) := by decide +kernel
theorem dX3_endsRound_83 : decode cX3_endsRound 83 = .ok (.ireturn, 1) := by decide +kernel
theorem dX3_told_0 : decode cX3_told 0 = .ok (.iload_n 1, 1) := by decide +kernel
theorem dX3_told_1 : decode cX3_told 1 = .ok (.ifCond .ne 8, 3) := by decide +kernel
theorem dX3_told_4 : decode cX3_told 4 = .ok (.aload_n 0, 1) := by decide +kernel
theorem dX3_told_5 : decode cX3_told 5 = .ok (.getfield 42, 3) := by decide +kernel
theorem dX3_told_8 : decode cX3_told 8 = .ok (.ireturn, 1) := by decide +kernel
theorem dX3_told_9 : decode cX3_told 9 = .ok (.iload_n 1, 1) := by decide +kernel
theorem dX3_told_10 : decode cX3_told 10 = .ok (.iconst 1, 1) := by decide +kernel
theorem dX3_told_11 : decode cX3_told 11 = .ok (.if_icmp .ne 10, 3) := by decide +kernel
theorem dX3_told_14 : decode cX3_told 14 = .ok (.aload_n 0, 1) := by decide +kernel
theorem dX3_told_15 : decode cX3_told 15 = .ok (.getfield 45, 3) := by decide +kernel
theorem dX3_told_18 : decode cX3_told 18 = .ok (.goto 7, 3) := by decide +kernel
theorem dX3_told_21 : decode cX3_told 21 = .ok (.aload_n 0, 1) := by decide +kernel
theorem dX3_told_22 : decode cX3_told 22 = .ok (.getfield 38, 3) := by decide +kernel
theorem dX3_told_25 : decode cX3_told 25 = .ok (.ireturn, 1) := by decide +kernel
theorem dX4_ofDone_0 : decode cX4_ofDone 0 = .ok (.aload_n 0, 1) := by decide +kernel
theorem dX4_ofDone_1 : decode cX4_ofDone 1 = .ok (.getfield 37, 3) := by decide +kernel
theorem dX4_ofDone_4 : decode cX4_ofDone 4 = .ok (.iload_n 1, 1) := by decide +kernel
theorem dX4_ofDone_5 : decode cX4_ofDone 5 = .ok (.i2l, 1) := by decide +kernel
theorem dX4_ofDone_6 : decode cX4_ofDone 6 = .ok (.lmul, 1) := by decide +kernel
theorem dX4_ofDone_7 : decode cX4_ofDone 7 = .ok (.aload_n 0, 1) := by decide +kernel
theorem dX4_ofDone_8 : decode cX4_ofDone 8 = .ok (.getfield 41, 3) := by decide +kernel
theorem dX4_ofDone_11 : decode cX4_ofDone 11 = .ok (.ladd, 1) := by decide +kernel
theorem dX4_ofDone_12 : decode cX4_ofDone 12 = .ok (.lreturn, 1) := by decide +kernel
theorem dX4_ofSpending_0 : decode cX4_ofSpending 0 = .ok (.aload_n 0, 1) := by decide +kernel
theorem dX4_ofSpending_1 : decode cX4_ofSpending 1 = .ok (.getfield 47, 3) := by decide +kernel
theorem dX4_ofSpending_4 : decode cX4_ofSpending 4 = .ok (.iload_n 1, 1) := by decide +kernel
theorem dX4_ofSpending_5 : decode cX4_ofSpending 5 = .ok (.i2l, 1) := by decide +kernel
theorem dX4_ofSpending_6 : decode cX4_ofSpending 6 = .ok (.lmul, 1) := by decide +kernel
theorem dX4_ofSpending_7 : decode cX4_ofSpending 7 = .ok (.aload_n 0, 1) := by decide +kernel
theorem dX4_ofSpending_8 : decode cX4_ofSpending 8 = .ok (.getfield 50, 3) := by decide +kernel
theorem dX4_ofSpending_11 : decode cX4_ofSpending 11 = .ok (.lload_n 2, 1) := by decide +kernel
theorem dX4_ofSpending_12 : decode cX4_ofSpending 12 = .ok (.lmul, 1) := by decide +kernel
theorem dX4_ofSpending_13 : decode cX4_ofSpending 13 = .ok (.ladd, 1) := by decide +kernel
theorem dX4_ofSpending_14 : decode cX4_ofSpending 14 = .ok (.lreturn, 1) := by decide +kernel
theorem dX5_init_0 : decode cX5_init 0 = .ok (.aload_n 0, 1) := by decide +kernel
theorem dX5_init_1 : decode cX5_init 1 = .ok (.invokespecial 3, 3) := by decide +kernel
theorem dX5_init_4 : decode cX5_init 4 = .ok (.aload_n 0, 1) := by decide +kernel
theorem dX5_init_5 : decode cX5_init 5 = .ok (.sipush 909, 3) := by decide +kernel
theorem dX5_init_8 : decode cX5_init 8 = .ok (.newarray .long, 2) := by decide +kernel
theorem dX5_init_10 : decode cX5_init 10 = .ok (.putfield 11, 3) := by decide +kernel
theorem dX5_init_13 : decode cX5_init 13 = .ok (.aload_n 0, 1) := by decide +kernel
theorem dX5_init_14 : decode cX5_init 14 = .ok (.sipush 909, 3) := by decide +kernel
theorem dX5_init_17 : decode cX5_init 17 = .ok (.newarray .int, 2) := by decide +kernel
theorem dX5_init_19 : decode cX5_init 19 = .ok (.putfield 15, 3) := by decide +kernel
theorem dX5_init_22 : decode cX5_init 22 = .ok (.aload_n 0, 1) := by decide +kernel
theorem dX5_init_23 : decode cX5_init 23 = .ok (.sipush 909, 3) := by decide +kernel
theorem dX5_init_26 : decode cX5_init 26 = .ok (.newarray .int, 2) := by decide +kernel
theorem dX5_init_28 : decode cX5_init 28 = .ok (.putfield 19, 3) := by decide +kernel
theorem dX5_init_31 : decode cX5_init 31 = .ok (.aload_n 0, 1) := by decide +kernel
theorem dX5_init_32 : decode cX5_init 32 = .ok (.aload_n 1, 1) := by decide +kernel
theorem dX5_init_33 : decode cX5_init 33 = .ok (.putfield 22, 3) := by decide +kernel
theorem dX5_init_36 : decode cX5_init 36 = .ok (.return_, 1) := by decide +kernel
set_option maxRecDepth 20000 in
theorem ggX5_find_J7_fill_53178 : GoodIn wsX5_find wsJ7_fill_53178 := goodIn_r _ [6] (by decide +kernel) (by decide +kernel)
set_option maxRecDepth 20000 in
theorem gX5_find_J7_fill_53178 : GoodIn wsX5_find (va_wsS RX5 26 yJ7_fill_53178 wsJ7_fill_53178) := goodIn_app (goodIn_of _ (by decide +kernel)) ggX5_find_J7_fill_53178
set_option maxRecDepth 20000 in
theorem ggX5_find_X0_stepsOf : GoodIn wsX5_find wsX0_stepsOf := goodIn_r _ [11, 12, 13, 14, 15, 82, 83, 84, 85, 86, 87, 88, 89, 90, 91, 92, 93, 94, 95, 96, 97, 98] (by decide +kernel) (by decide +kernel)
set_option maxRecDepth 20000 in
theorem gX5_find_X0_stepsOf : GoodIn wsX5_find (wsV RX5 32 RX0 yX0_stepsOf wsX0_stepsOf) := goodIn_app (goodIn_of _ (by decide +kernel)) ggX5_find_X0_stepsOf
set_option maxRecDepth 20000 in
theorem ggX5_find_X0_isPass : GoodIn wsX5_find wsX0_isPass := goodIn_r _ [19, 20, 14, 21, 22, 23, 24, 25, 26, 10, 27, 28, 29, 30, 31, 32, 33, 34, 35, 36, 37, 13, 15, 82, 83, 84, 85, 86, 87, 88, 89, 90, 91, 92, 93, 94, 95, 96, 97, 98] (by decide +kernel) (by decide +kernel)
set_option maxRecDepth 20000 in
theorem gX5_find_X0_isPass : GoodIn wsX5_find (wsV RX5 38 RX0 yX0_isPass wsX0_isPass) := goodIn_app (goodIn_of _ (by decide +kernel)) ggX5_find_X0_isPass
set_option maxRecDepth 20000 in
theorem ggX5_find_X5_offer : GoodIn wsX5_find wsX5_offer := goodIn_r _ [42, 2, 43, 44, 45, 46, 1, 47, 48, 20, 14, 21, 22, 23, 49, 50, 51, 10, 52, 53, 54, 55, 13, 15, 56, 57, 58, 59, 36, 60, 61, 62, 63, 64, 65, 66, 67, 68, 69, 70, 71, 72, 41, 73, 74, 75, 76, 77, 29, 30, 78, 79, 80, 81, 82, 83, 84, 85, 86, 87, 88, 89, 90, 91, 92, 93, 94, 95, 96, 97, 98] (by decide +kernel) (by decide +kernel)
set_option maxRecDepth 20000 in
theorem gX5_find_X5_offer : GoodIn wsX5_find (wsV RX5 42 RX5 yX5_offer wsX5_offer) := goodIn_app (goodIn_of _ (by decide +kernel)) ggX5_find_X5_offer
theorem dX5_find_0 : decode cX5_find 0 = .ok (.aload_n 0, 1) := by decide +kernel
theorem dX5_find_1 : decode cX5_find 1 = .ok (.getfield 19, 3) := by decide +kernel
theorem dX5_find_4 : decode cX5_find 4 = .ok (.bipush (-4), 2) := by decide +kernel
theorem dX5_find_6 : decode cX5_find 6 = .ok (.invokestatic 26, 3) := by decide +kernel
theorem dX5_find_9 : decode cX5_find 9 = .ok (.iconst 1, 1) := by decide +kernel
theorem dX5_find_10 : decode cX5_find 10 = .ok (.istore_n 3, 1) := by decide +kernel
theorem dX5_find_11 : decode cX5_find 11 = .ok (.iload_n 3, 1) := by decide +kernel
theorem dX5_find_12 : decode cX5_find 12 = .ok (.aload_n 0, 1) := by decide +kernel
theorem dX5_find_13 : decode cX5_find 13 = .ok (.getfield 22, 3) := by decide +kernel
theorem dX5_find_16 : decode cX5_find 16 = .ok (.iload_n 1, 1) := by decide +kernel
theorem dX5_find_17 : decode cX5_find 17 = .ok (.invokevirtual 32, 3) := by decide +kernel
theorem dX5_find_20 : decode cX5_find 20 = .ok (.if_icmp .gt 47, 3) := by decide +kernel
theorem dX5_find_23 : decode cX5_find 23 = .ok (.iconst 0, 1) := by decide +kernel
theorem dX5_find_24 : decode cX5_find 24 = .ok (.istore 4, 2) := by decide +kernel
theorem dX5_find_26 : decode cX5_find 26 = .ok (.iload 4, 2) := by decide +kernel
theorem dX5_find_28 : decode cX5_find 28 = .ok (.bipush 48, 2) := by decide +kernel
theorem dX5_find_30 : decode cX5_find 30 = .ok (.if_icmp .ge 31, 3) := by decide +kernel
theorem dX5_find_33 : decode cX5_find 33 = .ok (.aload_n 0, 1) := by decide +kernel
theorem dX5_find_34 : decode cX5_find 34 = .ok (.getfield 22, 3) := by decide +kernel
theorem dX5_find_37 : decode cX5_find 37 = .ok (.iload 4, 2) := by decide +kernel
theorem dX5_find_39 : decode cX5_find 39 = .ok (.iload_n 3, 1) := by decide +kernel
theorem dX5_find_40 : decode cX5_find 40 = .ok (.invokevirtual 38, 3) := by decide +kernel
theorem dX5_find_43 : decode cX5_find 43 = .ok (.ifCond .eq 12, 3) := by decide +kernel
theorem dX5_find_46 : decode cX5_find 46 = .ok (.aload_n 0, 1) := by decide +kernel
theorem dX5_find_47 : decode cX5_find 47 = .ok (.iload 4, 2) := by decide +kernel
theorem dX5_find_49 : decode cX5_find 49 = .ok (.iload_n 1, 1) := by decide +kernel
theorem dX5_find_50 : decode cX5_find 50 = .ok (.iload_n 3, 1) := by decide +kernel
theorem dX5_find_51 : decode cX5_find 51 = .ok (.iload_n 2, 1) := by decide +kernel
theorem dX5_find_52 : decode cX5_find 52 = .ok (.invokevirtual 42, 3) := by decide +kernel
theorem dX5_find_55 : decode cX5_find 55 = .ok (.iinc 4 1, 3) := by decide +kernel
theorem dX5_find_58 : decode cX5_find 58 = .ok (.goto (-32), 3) := by decide +kernel
theorem dX5_find_61 : decode cX5_find 61 = .ok (.iinc 3 1, 3) := by decide +kernel
theorem dX5_find_64 : decode cX5_find 64 = .ok (.goto (-53), 3) := by decide +kernel
theorem dX5_find_67 : decode cX5_find 67 = .ok (.return_, 1) := by decide +kernel
set_option maxRecDepth 20000 in
theorem ggX5_offer_X11_depthOf : GoodIn wsX5_offer wsX11_depthOf := goodIn_r _ [11] (by decide +kernel) (by decide +kernel)
set_option maxRecDepth 20000 in
theorem gX5_offer_X11_depthOf_n46 : GoodIn wsX5_offer (wsX11_depthOf) := ggX5_offer_X11_depthOf
set_option maxRecDepth 20000 in
theorem ggX5_offer_X11_speedOf : GoodIn wsX5_offer wsX11_speedOf := goodIn_r _ [13] (by decide +kernel) (by decide +kernel)
set_option maxRecDepth 20000 in
theorem gX5_offer_X11_speedOf_n49 : GoodIn wsX5_offer (wsX11_speedOf) := ggX5_offer_X11_speedOf
set_option maxRecDepth 20000 in
theorem ggX5_offer_X0_wears : GoodIn wsX5_offer wsX0_wears := goodIn_r _ [18, 19, 20, 21, 22, 10, 23, 54, 55, 56, 57, 58, 59, 60, 61, 62, 63, 64, 65, 66, 67, 68, 69, 70] (by decide +kernel) (by decide +kernel)
set_option maxRecDepth 20000 in
theorem gX5_offer_X0_wears : GoodIn wsX5_offer (wsV RX5 52 RX0 yX0_wears wsX0_wears) := goodIn_app (goodIn_of _ (by decide +kernel)) ggX5_offer_X0_wears
set_option maxRecDepth 20000 in
theorem ggX5_offer_X0_minutes : GoodIn wsX5_offer wsX0_minutes := goodIn_r _ [27, 28, 19, 22, 10, 23, 54, 55, 56, 57, 58, 59, 60, 61, 62, 63, 64, 65, 66, 67, 68, 69, 70] (by decide +kernel) (by decide +kernel)
set_option maxRecDepth 20000 in
theorem gX5_offer_X0_minutes : GoodIn wsX5_offer (wsV RX5 56 RX0 yX0_minutes wsX0_minutes) := goodIn_app (goodIn_of _ (by decide +kernel)) ggX5_offer_X0_minutes
set_option maxRecDepth 20000 in
theorem ggX5_offer_X0_cost : GoodIn wsX5_offer wsX0_cost := goodIn_r _ [32, 33, 34, 54, 55, 56, 57, 58, 59, 60, 61, 62, 63, 64, 65, 66, 67, 68, 69, 70] (by decide +kernel) (by decide +kernel)
set_option maxRecDepth 20000 in
theorem gX5_offer_X0_cost : GoodIn wsX5_offer (wsV RX5 60 RX0 yX0_cost wsX0_cost) := goodIn_app (goodIn_of _ (by decide +kernel)) ggX5_offer_X0_cost
set_option maxRecDepth 20000 in
theorem ggX5_offer_X0_fineOf : GoodIn wsX5_offer wsX0_fineOf := goodIn_r _ [38, 39, 22, 10, 23, 54, 55, 56, 57, 58, 59, 60, 61, 62, 63, 64, 65, 66, 67, 68, 69, 70] (by decide +kernel) (by decide +kernel)
set_option maxRecDepth 20000 in
theorem gX5_offer_X0_fineOf : GoodIn wsX5_offer (wsV RX5 64 RX0 yX0_fineOf wsX0_fineOf) := goodIn_app (goodIn_of _ (by decide +kernel)) ggX5_offer_X0_fineOf
set_option maxRecDepth 20000 in
theorem ggX5_offer_X5_cell : GoodIn wsX5_offer wsX5_cell := goodIn_r _ [43] (by decide +kernel) (by decide +kernel)
set_option maxRecDepth 20000 in
theorem gX5_offer_X5_cell : GoodIn wsX5_offer (va_wsS RX5 72 yX5_cell wsX5_cell) := goodIn_app (goodIn_of _ (by decide +kernel)) ggX5_offer_X5_cell
set_option maxRecDepth 20000 in
theorem ggX5_offer_X5_offerHere : GoodIn wsX5_offer wsX5_offerHere := goodIn_r _ [47, 6, 7, 8, 48, 10, 49, 50, 51, 52, 53] (by decide +kernel) (by decide +kernel)
set_option maxRecDepth 20000 in
theorem gX5_offer_X5_offerHere : GoodIn wsX5_offer (wsV RX5 75 RX5 yX5_offerHere wsX5_offerHere) := goodIn_app (goodIn_of _ (by decide +kernel)) ggX5_offer_X5_offerHere
set_option maxRecDepth 20000 in
theorem ggX5_offer_X11_within : GoodIn wsX5_offer wsX11_within := goodIn_r _ [49] (by decide +kernel) (by decide +kernel)
set_option maxRecDepth 20000 in
theorem gX5_offer_X11_within_n79 : GoodIn wsX5_offer (wsX11_within) := ggX5_offer_X11_within
theorem dX5_offer_0 : decode cX5_offer 0 = .ok (.iload_n 1, 1) := by decide +kernel
theorem dX5_offer_1 : decode cX5_offer 1 = .ok (.invokestatic 46, 3) := by decide +kernel
theorem dX5_offer_4 : decode cX5_offer 4 = .ok (.istore 5, 2) := by decide +kernel
theorem dX5_offer_6 : decode cX5_offer 6 = .ok (.aload_n 0, 1) := by decide +kernel
theorem dX5_offer_7 : decode cX5_offer 7 = .ok (.getfield 22, 3) := by decide +kernel
theorem dX5_offer_10 : decode cX5_offer 10 = .ok (.iload_n 2, 1) := by decide +kernel
theorem dX5_offer_11 : decode cX5_offer 11 = .ok (.iload_n 1, 1) := by decide +kernel
theorem dX5_offer_12 : decode cX5_offer 12 = .ok (.invokestatic 49, 3) := by decide +kernel
theorem dX5_offer_15 : decode cX5_offer 15 = .ok (.iload 5, 2) := by decide +kernel
theorem dX5_offer_17 : decode cX5_offer 17 = .ok (.iload 4, 2) := by decide +kernel
theorem dX5_offer_19 : decode cX5_offer 19 = .ok (.invokevirtual 52, 3) := by decide +kernel
theorem dX5_offer_22 : decode cX5_offer 22 = .ok (.istore 6, 2) := by decide +kernel
theorem dX5_offer_24 : decode cX5_offer 24 = .ok (.aload_n 0, 1) := by decide +kernel
theorem dX5_offer_25 : decode cX5_offer 25 = .ok (.getfield 22, 3) := by decide +kernel
theorem dX5_offer_28 : decode cX5_offer 28 = .ok (.aload_n 0, 1) := by decide +kernel
theorem dX5_offer_29 : decode cX5_offer 29 = .ok (.getfield 22, 3) := by decide +kernel
theorem dX5_offer_32 : decode cX5_offer 32 = .ok (.iload_n 2, 1) := by decide +kernel
theorem dX5_offer_33 : decode cX5_offer 33 = .ok (.iload_n 1, 1) := by decide +kernel
theorem dX5_offer_34 : decode cX5_offer 34 = .ok (.invokestatic 49, 3) := by decide +kernel
theorem dX5_offer_37 : decode cX5_offer 37 = .ok (.invokevirtual 56, 3) := by decide +kernel
theorem dX5_offer_40 : decode cX5_offer 40 = .ok (.iconst 0, 1) := by decide +kernel
theorem dX5_offer_41 : decode cX5_offer 41 = .ok (.invokevirtual 60, 3) := by decide +kernel
theorem dX5_offer_44 : decode cX5_offer 44 = .ok (.lstore 7, 2) := by decide +kernel
theorem dX5_offer_46 : decode cX5_offer 46 = .ok (.iload 5, 2) := by decide +kernel
theorem dX5_offer_48 : decode cX5_offer 48 = .ok (.iload_n 3, 1) := by decide +kernel
theorem dX5_offer_49 : decode cX5_offer 49 = .ok (.if_icmp .ne 22, 3) := by decide +kernel
theorem dX5_offer_52 : decode cX5_offer 52 = .ok (.bipush 100, 2) := by decide +kernel
theorem dX5_offer_54 : decode cX5_offer 54 = .ok (.iload 6, 2) := by decide +kernel
theorem dX5_offer_56 : decode cX5_offer 56 = .ok (.isub, 1) := by decide +kernel
theorem dX5_offer_57 : decode cX5_offer 57 = .ok (.aload_n 0, 1) := by decide +kernel
theorem dX5_offer_58 : decode cX5_offer 58 = .ok (.getfield 22, 3) := by decide +kernel
theorem dX5_offer_61 : decode cX5_offer 61 = .ok (.iload_n 2, 1) := by decide +kernel
theorem dX5_offer_62 : decode cX5_offer 62 = .ok (.invokevirtual 64, 3) := by decide +kernel
theorem dX5_offer_65 : decode cX5_offer 65 = .ok (.invokestatic 67, 3) := by decide +kernel
theorem dX5_offer_68 : decode cX5_offer 68 = .ok (.goto 8, 3) := by decide +kernel
theorem dX5_offer_71 : decode cX5_offer 71 = .ok (.bipush 100, 2) := by decide +kernel
theorem dX5_offer_73 : decode cX5_offer 73 = .ok (.iload 6, 2) := by decide +kernel
theorem dX5_offer_75 : decode cX5_offer 75 = .ok (.isub, 1) := by decide +kernel
theorem dX5_offer_76 : decode cX5_offer 76 = .ok (.istore 9, 2) := by decide +kernel
theorem dX5_offer_78 : decode cX5_offer 78 = .ok (.iconst 0, 1) := by decide +kernel
theorem dX5_offer_79 : decode cX5_offer 79 = .ok (.istore 10, 2) := by decide +kernel
theorem dX5_offer_81 : decode cX5_offer 81 = .ok (.iload 10, 2) := by decide +kernel
theorem dX5_offer_83 : decode cX5_offer 83 = .ok (.iload 9, 2) := by decide +kernel
theorem dX5_offer_85 : decode cX5_offer 85 = .ok (.if_icmp .gt 100, 3) := by decide +kernel
theorem dX5_offer_88 : decode cX5_offer 88 = .ok (.iload_n 3, 1) := by decide +kernel
theorem dX5_offer_89 : decode cX5_offer 89 = .ok (.iload 5, 2) := by decide +kernel
theorem dX5_offer_91 : decode cX5_offer 91 = .ok (.isub, 1) := by decide +kernel
theorem dX5_offer_92 : decode cX5_offer 92 = .ok (.iload 10, 2) := by decide +kernel
theorem dX5_offer_94 : decode cX5_offer 94 = .ok (.iload 6, 2) := by decide +kernel
theorem dX5_offer_96 : decode cX5_offer 96 = .ok (.iadd, 1) := by decide +kernel
theorem dX5_offer_97 : decode cX5_offer 97 = .ok (.invokestatic 72, 3) := by decide +kernel
theorem dX5_offer_100 : decode cX5_offer 100 = .ok (.istore 11, 2) := by decide +kernel
theorem dX5_offer_102 : decode cX5_offer 102 = .ok (.iload 5, 2) := by decide +kernel
theorem dX5_offer_104 : decode cX5_offer 104 = .ok (.iload_n 3, 1) := by decide +kernel
theorem dX5_offer_105 : decode cX5_offer 105 = .ok (.if_icmp .ne 20, 3) := by decide +kernel
theorem dX5_offer_108 : decode cX5_offer 108 = .ok (.aload_n 0, 1) := by decide +kernel
theorem dX5_offer_109 : decode cX5_offer 109 = .ok (.iload_n 3, 1) := by decide +kernel
theorem dX5_offer_110 : decode cX5_offer 110 = .ok (.iload 10, 2) := by decide +kernel
theorem dX5_offer_112 : decode cX5_offer 112 = .ok (.invokestatic 72, 3) := by decide +kernel
theorem dX5_offer_115 : decode cX5_offer 115 = .ok (.iload_n 1, 1) := by decide +kernel
theorem dX5_offer_116 : decode cX5_offer 116 = .ok (.lload 7, 2) := by decide +kernel
theorem dX5_offer_118 : decode cX5_offer 118 = .ok (.iconst 1, 1) := by decide +kernel
theorem dX5_offer_119 : decode cX5_offer 119 = .ok (.invokevirtual 75, 3) := by decide +kernel
theorem dX5_offer_122 : decode cX5_offer 122 = .ok (.goto 57, 3) := by decide +kernel
theorem dX5_offer_125 : decode cX5_offer 125 = .ok (.iload 11, 2) := by decide +kernel
theorem dX5_offer_127 : decode cX5_offer 127 = .ok (.iconst 0, 1) := by decide +kernel
theorem dX5_offer_128 : decode cX5_offer 128 = .ok (.sipush 908, 3) := by decide +kernel
theorem dX5_offer_131 : decode cX5_offer 131 = .ok (.invokestatic 79, 3) := by decide +kernel
theorem dX5_offer_134 : decode cX5_offer 134 = .ok (.ifCond .eq 45, 3) := by decide +kernel
theorem dX5_offer_137 : decode cX5_offer 137 = .ok (.aload_n 0, 1) := by decide +kernel
theorem dX5_offer_138 : decode cX5_offer 138 = .ok (.getfield 19, 3) := by decide +kernel
theorem dX5_offer_141 : decode cX5_offer 141 = .ok (.iload 11, 2) := by decide +kernel
theorem dX5_offer_143 : decode cX5_offer 143 = .ok (.iaload, 1) := by decide +kernel
theorem dX5_offer_144 : decode cX5_offer 144 = .ok (.bipush (-4), 2) := by decide +kernel
theorem dX5_offer_146 : decode cX5_offer 146 = .ok (.if_icmp .eq 33, 3) := by decide +kernel
theorem dX5_offer_149 : decode cX5_offer 149 = .ok (.aload_n 0, 1) := by decide +kernel
theorem dX5_offer_150 : decode cX5_offer 150 = .ok (.iload_n 3, 1) := by decide +kernel
theorem dX5_offer_151 : decode cX5_offer 151 = .ok (.iload 10, 2) := by decide +kernel
theorem dX5_offer_153 : decode cX5_offer 153 = .ok (.invokestatic 72, 3) := by decide +kernel
theorem dX5_offer_156 : decode cX5_offer 156 = .ok (.iload_n 1, 1) := by decide +kernel
theorem dX5_offer_157 : decode cX5_offer 157 = .ok (.lload 7, 2) := by decide +kernel
theorem dX5_offer_159 : decode cX5_offer 159 = .ok (.aload_n 0, 1) := by decide +kernel
theorem dX5_offer_160 : decode cX5_offer 160 = .ok (.getfield 11, 3) := by decide +kernel
theorem dX5_offer_163 : decode cX5_offer 163 = .ok (.iload 11, 2) := by decide +kernel
theorem dX5_offer_165 : decode cX5_offer 165 = .ok (.laload, 1) := by decide +kernel
theorem dX5_offer_166 : decode cX5_offer 166 = .ok (.ladd, 1) := by decide +kernel
theorem dX5_offer_167 : decode cX5_offer 167 = .ok (.iconst 1, 1) := by decide +kernel
theorem dX5_offer_168 : decode cX5_offer 168 = .ok (.aload_n 0, 1) := by decide +kernel
theorem dX5_offer_169 : decode cX5_offer 169 = .ok (.getfield 15, 3) := by decide +kernel
theorem dX5_offer_172 : decode cX5_offer 172 = .ok (.iload 11, 2) := by decide +kernel
theorem dX5_offer_174 : decode cX5_offer 174 = .ok (.iaload, 1) := by decide +kernel
theorem dX5_offer_175 : decode cX5_offer 175 = .ok (.iadd, 1) := by decide +kernel
theorem dX5_offer_176 : decode cX5_offer 176 = .ok (.invokevirtual 75, 3) := by decide +kernel
theorem dX5_offer_179 : decode cX5_offer 179 = .ok (.iinc 10 1, 3) := by decide +kernel
theorem dX5_offer_182 : decode cX5_offer 182 = .ok (.goto (-101), 3) := by decide +kernel
theorem dX5_offer_185 : decode cX5_offer 185 = .ok (.return_, 1) := by decide +kernel
set_option maxRecDepth 20000 in
theorem ggX5_offerHere_X11_within : GoodIn wsX5_offerHere wsX11_within := goodIn_r _ [6] (by decide +kernel) (by decide +kernel)
set_option maxRecDepth 20000 in
theorem gX5_offerHere_X11_within_n79 : GoodIn wsX5_offerHere (wsX11_within) := ggX5_offerHere_X11_within
theorem dX5_offerHere_0 : decode cX5_offerHere 0 = .ok (.iload_n 1, 1) := by decide +kernel
theorem dX5_offerHere_1 : decode cX5_offerHere 1 = .ok (.iconst 0, 1) := by decide +kernel
theorem dX5_offerHere_2 : decode cX5_offerHere 2 = .ok (.sipush 908, 3) := by decide +kernel
theorem dX5_offerHere_5 : decode cX5_offerHere 5 = .ok (.invokestatic 79, 3) := by decide +kernel
theorem dX5_offerHere_8 : decode cX5_offerHere 8 = .ok (.ifCond .ne 4, 3) := by decide +kernel
theorem dX5_offerHere_11 : decode cX5_offerHere 11 = .ok (.return_, 1) := by decide +kernel
theorem dX5_offerHere_12 : decode cX5_offerHere 12 = .ok (.aload_n 0, 1) := by decide +kernel
theorem dX5_offerHere_13 : decode cX5_offerHere 13 = .ok (.getfield 19, 3) := by decide +kernel
theorem dX5_offerHere_16 : decode cX5_offerHere 16 = .ok (.iload_n 1, 1) := by decide +kernel
theorem dX5_offerHere_17 : decode cX5_offerHere 17 = .ok (.iaload, 1) := by decide +kernel
theorem dX5_offerHere_18 : decode cX5_offerHere 18 = .ok (.bipush (-4), 2) := by decide +kernel
theorem dX5_offerHere_20 : decode cX5_offerHere 20 = .ok (.if_icmp .eq 18, 3) := by decide +kernel
theorem dX5_offerHere_23 : decode cX5_offerHere 23 = .ok (.lload_n 3, 1) := by decide +kernel
theorem dX5_offerHere_24 : decode cX5_offerHere 24 = .ok (.aload_n 0, 1) := by decide +kernel
theorem dX5_offerHere_25 : decode cX5_offerHere 25 = .ok (.getfield 11, 3) := by decide +kernel
theorem dX5_offerHere_28 : decode cX5_offerHere 28 = .ok (.iload_n 1, 1) := by decide +kernel
theorem dX5_offerHere_29 : decode cX5_offerHere 29 = .ok (.laload, 1) := by decide +kernel
theorem dX5_offerHere_30 : decode cX5_offerHere 30 = .ok (.lcmp, 1) := by decide +kernel
theorem dX5_offerHere_31 : decode cX5_offerHere 31 = .ok (.ifCond .ne 7, 3) := by decide +kernel
theorem dX5_offerHere_34 : decode cX5_offerHere 34 = .ok (.iconst 1, 1) := by decide +kernel
theorem dX5_offerHere_35 : decode cX5_offerHere 35 = .ok (.goto 4, 3) := by decide +kernel
theorem dX5_offerHere_38 : decode cX5_offerHere 38 = .ok (.iconst 0, 1) := by decide +kernel
theorem dX5_offerHere_39 : decode cX5_offerHere 39 = .ok (.istore 6, 2) := by decide +kernel
theorem dX5_offerHere_41 : decode cX5_offerHere 41 = .ok (.aload_n 0, 1) := by decide +kernel
theorem dX5_offerHere_42 : decode cX5_offerHere 42 = .ok (.getfield 19, 3) := by decide +kernel
theorem dX5_offerHere_45 : decode cX5_offerHere 45 = .ok (.iload_n 1, 1) := by decide +kernel
theorem dX5_offerHere_46 : decode cX5_offerHere 46 = .ok (.iaload, 1) := by decide +kernel
theorem dX5_offerHere_47 : decode cX5_offerHere 47 = .ok (.bipush (-4), 2) := by decide +kernel
theorem dX5_offerHere_49 : decode cX5_offerHere 49 = .ok (.if_icmp .eq 30, 3) := by decide +kernel
theorem dX5_offerHere_52 : decode cX5_offerHere 52 = .ok (.lload_n 3, 1) := by decide +kernel
theorem dX5_offerHere_53 : decode cX5_offerHere 53 = .ok (.aload_n 0, 1) := by decide +kernel
theorem dX5_offerHere_54 : decode cX5_offerHere 54 = .ok (.getfield 11, 3) := by decide +kernel
theorem dX5_offerHere_57 : decode cX5_offerHere 57 = .ok (.iload_n 1, 1) := by decide +kernel
theorem dX5_offerHere_58 : decode cX5_offerHere 58 = .ok (.laload, 1) := by decide +kernel
theorem dX5_offerHere_59 : decode cX5_offerHere 59 = .ok (.lcmp, 1) := by decide +kernel
theorem dX5_offerHere_60 : decode cX5_offerHere 60 = .ok (.ifCond .lt 19, 3) := by decide +kernel
theorem dX5_offerHere_63 : decode cX5_offerHere 63 = .ok (.iload 6, 2) := by decide +kernel
theorem dX5_offerHere_65 : decode cX5_offerHere 65 = .ok (.ifCond .eq 36, 3) := by decide +kernel
theorem dX5_offerHere_68 : decode cX5_offerHere 68 = .ok (.iload 5, 2) := by decide +kernel
theorem dX5_offerHere_70 : decode cX5_offerHere 70 = .ok (.aload_n 0, 1) := by decide +kernel
theorem dX5_offerHere_71 : decode cX5_offerHere 71 = .ok (.getfield 15, 3) := by decide +kernel
theorem dX5_offerHere_74 : decode cX5_offerHere 74 = .ok (.iload_n 1, 1) := by decide +kernel
theorem dX5_offerHere_75 : decode cX5_offerHere 75 = .ok (.iaload, 1) := by decide +kernel
theorem dX5_offerHere_76 : decode cX5_offerHere 76 = .ok (.if_icmp .ge 25, 3) := by decide +kernel
theorem dX5_offerHere_79 : decode cX5_offerHere 79 = .ok (.aload_n 0, 1) := by decide +kernel
theorem dX5_offerHere_80 : decode cX5_offerHere 80 = .ok (.getfield 11, 3) := by decide +kernel
theorem dX5_offerHere_83 : decode cX5_offerHere 83 = .ok (.iload_n 1, 1) := by decide +kernel
theorem dX5_offerHere_84 : decode cX5_offerHere 84 = .ok (.lload_n 3, 1) := by decide +kernel
theorem dX5_offerHere_85 : decode cX5_offerHere 85 = .ok (.lastore, 1) := by decide +kernel
theorem dX5_offerHere_86 : decode cX5_offerHere 86 = .ok (.aload_n 0, 1) := by decide +kernel
theorem dX5_offerHere_87 : decode cX5_offerHere 87 = .ok (.getfield 15, 3) := by decide +kernel
theorem dX5_offerHere_90 : decode cX5_offerHere 90 = .ok (.iload_n 1, 1) := by decide +kernel
