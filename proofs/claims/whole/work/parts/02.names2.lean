theorem dX5_offerHere_91 : decode cX5_offerHere 91 = .ok (.iload 5, 2) := by decide +kernel
theorem dX5_offerHere_93 : decode cX5_offerHere 93 = .ok (.iastore, 1) := by decide +kernel
theorem dX5_offerHere_94 : decode cX5_offerHere 94 = .ok (.aload_n 0, 1) := by decide +kernel
theorem dX5_offerHere_95 : decode cX5_offerHere 95 = .ok (.getfield 19, 3) := by decide +kernel
theorem dX5_offerHere_98 : decode cX5_offerHere 98 = .ok (.iload_n 1, 1) := by decide +kernel
theorem dX5_offerHere_99 : decode cX5_offerHere 99 = .ok (.iload_n 2, 1) := by decide +kernel
theorem dX5_offerHere_100 : decode cX5_offerHere 100 = .ok (.iastore, 1) := by decide +kernel
theorem dX5_offerHere_101 : decode cX5_offerHere 101 = .ok (.return_, 1) := by decide +kernel
theorem dX5_cell_0 : decode cX5_cell 0 = .ok (.iload_n 0, 1) := by decide +kernel
theorem dX5_cell_1 : decode cX5_cell 1 = .ok (.bipush 101, 2) := by decide +kernel
theorem dX5_cell_3 : decode cX5_cell 3 = .ok (.imul, 1) := by decide +kernel
theorem dX5_cell_4 : decode cX5_cell 4 = .ok (.iload_n 1, 1) := by decide +kernel
theorem dX5_cell_5 : decode cX5_cell 5 = .ok (.iadd, 1) := by decide +kernel
theorem dX5_cell_6 : decode cX5_cell 6 = .ok (.ireturn, 1) := by decide +kernel
set_option maxRecDepth 20000 in
theorem ggX5_told_X5_cell : GoodIn wsX5_told wsX5_cell := goodIn_r _ [8] (by decide +kernel) (by decide +kernel)
set_option maxRecDepth 20000 in
theorem gX5_told_X5_cell : GoodIn wsX5_told (va_wsS RX5 72 yX5_cell wsX5_cell) := goodIn_app (goodIn_of _ (by decide +kernel)) ggX5_told_X5_cell
set_option maxRecDepth 20000 in
theorem ggX5_told_X11_within : GoodIn wsX5_told wsX11_within := goodIn_r _ [11] (by decide +kernel) (by decide +kernel)
set_option maxRecDepth 20000 in
theorem gX5_told_X11_within_n79 : GoodIn wsX5_told (wsX11_within) := ggX5_told_X11_within
theorem dX5_told_0 : decode cX5_told 0 = .ok (.iload_n 1, 1) := by decide +kernel
theorem dX5_told_1 : decode cX5_told 1 = .ok (.iload_n 2, 1) := by decide +kernel
theorem dX5_told_2 : decode cX5_told 2 = .ok (.invokestatic 72, 3) := by decide +kernel
theorem dX5_told_5 : decode cX5_told 5 = .ok (.istore 4, 2) := by decide +kernel
theorem dX5_told_7 : decode cX5_told 7 = .ok (.iload 4, 2) := by decide +kernel
theorem dX5_told_9 : decode cX5_told 9 = .ok (.iconst 0, 1) := by decide +kernel
theorem dX5_told_10 : decode cX5_told 10 = .ok (.sipush 908, 3) := by decide +kernel
theorem dX5_told_13 : decode cX5_told 13 = .ok (.invokestatic 79, 3) := by decide +kernel
theorem dX5_told_16 : decode cX5_told 16 = .ok (.ifCond .eq 15, 3) := by decide +kernel
theorem dX5_told_19 : decode cX5_told 19 = .ok (.aload_n 0, 1) := by decide +kernel
theorem dX5_told_20 : decode cX5_told 20 = .ok (.getfield 19, 3) := by decide +kernel
theorem dX5_told_23 : decode cX5_told 23 = .ok (.iload 4, 2) := by decide +kernel
theorem dX5_told_25 : decode cX5_told 25 = .ok (.iaload, 1) := by decide +kernel
theorem dX5_told_26 : decode cX5_told 26 = .ok (.bipush (-4), 2) := by decide +kernel
theorem dX5_told_28 : decode cX5_told 28 = .ok (.if_icmp .ne 7, 3) := by decide +kernel
theorem dX5_told_31 : decode cX5_told 31 = .ok (.ldc2_w 83, 3) := by decide +kernel
theorem dX5_told_34 : decode cX5_told 34 = .ok (.lreturn, 1) := by decide +kernel
theorem dX5_told_35 : decode cX5_told 35 = .ok (.iload_n 3, 1) := by decide +kernel
theorem dX5_told_36 : decode cX5_told 36 = .ok (.ifCond .ne 11, 3) := by decide +kernel
theorem dX5_told_39 : decode cX5_told 39 = .ok (.aload_n 0, 1) := by decide +kernel
theorem dX5_told_40 : decode cX5_told 40 = .ok (.getfield 11, 3) := by decide +kernel
theorem dX5_told_43 : decode cX5_told 43 = .ok (.iload 4, 2) := by decide +kernel
theorem dX5_told_45 : decode cX5_told 45 = .ok (.laload, 1) := by decide +kernel
theorem dX5_told_46 : decode cX5_told 46 = .ok (.lreturn, 1) := by decide +kernel
theorem dX5_told_47 : decode cX5_told 47 = .ok (.iload_n 3, 1) := by decide +kernel
theorem dX5_told_48 : decode cX5_told 48 = .ok (.iconst 1, 1) := by decide +kernel
theorem dX5_told_49 : decode cX5_told 49 = .ok (.if_icmp .ne 14, 3) := by decide +kernel
theorem dX5_told_52 : decode cX5_told 52 = .ok (.aload_n 0, 1) := by decide +kernel
theorem dX5_told_53 : decode cX5_told 53 = .ok (.getfield 15, 3) := by decide +kernel
theorem dX5_told_56 : decode cX5_told 56 = .ok (.iload 4, 2) := by decide +kernel
theorem dX5_told_58 : decode cX5_told 58 = .ok (.iaload, 1) := by decide +kernel
theorem dX5_told_59 : decode cX5_told 59 = .ok (.i2l, 1) := by decide +kernel
theorem dX5_told_60 : decode cX5_told 60 = .ok (.goto 11, 3) := by decide +kernel
theorem dX5_told_63 : decode cX5_told 63 = .ok (.aload_n 0, 1) := by decide +kernel
theorem dX5_told_64 : decode cX5_told 64 = .ok (.getfield 19, 3) := by decide +kernel
theorem dX5_told_67 : decode cX5_told 67 = .ok (.iload 4, 2) := by decide +kernel
theorem dX5_told_69 : decode cX5_told 69 = .ok (.iaload, 1) := by decide +kernel
theorem dX5_told_70 : decode cX5_told 70 = .ok (.i2l, 1) := by decide +kernel
theorem dX5_told_71 : decode cX5_told 71 = .ok (.lreturn, 1) := by decide +kernel
theorem dX6_init_0 : decode cX6_init 0 = .ok (.aload_n 0, 1) := by decide +kernel
theorem dX6_init_1 : decode cX6_init 1 = .ok (.invokespecial 3, 3) := by decide +kernel
theorem dX6_init_4 : decode cX6_init 4 = .ok (.aload_n 0, 1) := by decide +kernel
theorem dX6_init_5 : decode cX6_init 5 = .ok (.sipush 6464, 3) := by decide +kernel
theorem dX6_init_8 : decode cX6_init 8 = .ok (.newarray .long, 2) := by decide +kernel
theorem dX6_init_10 : decode cX6_init 10 = .ok (.putfield 9, 3) := by decide +kernel
theorem dX6_init_13 : decode cX6_init 13 = .ok (.aload_n 0, 1) := by decide +kernel
theorem dX6_init_14 : decode cX6_init 14 = .ok (.sipush 6464, 3) := by decide +kernel
theorem dX6_init_17 : decode cX6_init 17 = .ok (.newarray .byte, 2) := by decide +kernel
theorem dX6_init_19 : decode cX6_init 19 = .ok (.putfield 15, 3) := by decide +kernel
theorem dX6_init_22 : decode cX6_init 22 = .ok (.aload_n 0, 1) := by decide +kernel
theorem dX6_init_23 : decode cX6_init 23 = .ok (.getstatic 19, 3) := by decide +kernel
theorem dX6_init_26 : decode cX6_init 26 = .ok (.putfield 25, 3) := by decide +kernel
theorem dX6_init_29 : decode cX6_init 29 = .ok (.aload_n 0, 1) := by decide +kernel
theorem dX6_init_30 : decode cX6_init 30 = .ok (.aload_n 1, 1) := by decide +kernel
theorem dX6_init_31 : decode cX6_init 31 = .ok (.putfield 28, 3) := by decide +kernel
theorem dX6_init_34 : decode cX6_init 34 = .ok (.return_, 1) := by decide +kernel
set_option maxRecDepth 20000 in
theorem ggX6_clear_J7_fill_031fb : GoodIn wsX6_clear wsJ7_fill_031fb := goodIn_r _ [6] (by decide +kernel) (by decide +kernel)
set_option maxRecDepth 20000 in
theorem gX6_clear_J7_fill_031fb : GoodIn wsX6_clear (va_wsS RX6 32 yJ7_fill_031fb wsJ7_fill_031fb) := goodIn_app (goodIn_of _ (by decide +kernel)) ggX6_clear_J7_fill_031fb
theorem dX6_clear_0 : decode cX6_clear 0 = .ok (.aload_n 0, 1) := by decide +kernel
theorem dX6_clear_1 : decode cX6_clear 1 = .ok (.getfield 15, 3) := by decide +kernel
theorem dX6_clear_4 : decode cX6_clear 4 = .ok (.iconst (-1), 1) := by decide +kernel
theorem dX6_clear_5 : decode cX6_clear 5 = .ok (.invokestatic 32, 3) := by decide +kernel
theorem dX6_clear_8 : decode cX6_clear 8 = .ok (.aload_n 0, 1) := by decide +kernel
theorem dX6_clear_9 : decode cX6_clear 9 = .ok (.iconst 0, 1) := by decide +kernel
theorem dX6_clear_10 : decode cX6_clear 10 = .ok (.putfield 38, 3) := by decide +kernel
theorem dX6_clear_13 : decode cX6_clear 13 = .ok (.return_, 1) := by decide +kernel
set_option maxRecDepth 20000 in
theorem ggX6_measure_X0_changeHundredths : GoodIn wsX6_measure wsX0_changeHundredths := goodIn_r _ [9, 10, 37, 38, 39, 40, 41, 42, 43, 44, 45, 46, 47, 48, 49, 50, 51, 52, 53] (by decide +kernel) (by decide +kernel)
set_option maxRecDepth 20000 in
theorem gX6_measure_X0_changeHundredths : GoodIn wsX6_measure (wsV RX6 46 RX0 yX0_changeHundredths wsX0_changeHundredths) := goodIn_app (goodIn_of _ (by decide +kernel)) ggX6_measure_X0_changeHundredths
set_option maxRecDepth 20000 in
theorem ggX6_measure_X0_changeCost : GoodIn wsX6_measure wsX0_changeCost := goodIn_r _ [14, 15, 16, 6, 7, 8, 9, 10, 17, 18, 19, 20, 21, 22, 37, 38, 39, 40, 41, 42, 43, 44, 45, 46, 47, 48, 49, 50, 51, 52, 53] (by decide +kernel) (by decide +kernel)
set_option maxRecDepth 20000 in
theorem gX6_measure_X0_changeCost : GoodIn wsX6_measure (wsV RX6 52 RX0 yX0_changeCost wsX0_changeCost) := goodIn_app (goodIn_of _ (by decide +kernel)) ggX6_measure_X0_changeCost
set_option maxRecDepth 20000 in
theorem ggX6_measure_X4_ofSpending : GoodIn wsX6_measure wsX4_ofSpending := goodIn_r _ [27, 28, 29] (by decide +kernel) (by decide +kernel)
set_option maxRecDepth 20000 in
theorem gX6_measure_X4_ofSpending : GoodIn wsX6_measure (wsV RX6 56 RX4 yX4_ofSpending wsX4_ofSpending) := goodIn_app (goodIn_of _ (by decide +kernel)) ggX6_measure_X4_ofSpending
theorem dX6_measure_0 : decode cX6_measure 0 = .ok (.aload_n 0, 1) := by decide +kernel
theorem dX6_measure_1 : decode cX6_measure 1 = .ok (.aload_n 1, 1) := by decide +kernel
theorem dX6_measure_2 : decode cX6_measure 2 = .ok (.putfield 25, 3) := by decide +kernel
theorem dX6_measure_5 : decode cX6_measure 5 = .ok (.aload_n 0, 1) := by decide +kernel
theorem dX6_measure_6 : decode cX6_measure 6 = .ok (.iload_n 2, 1) := by decide +kernel
theorem dX6_measure_7 : decode cX6_measure 7 = .ok (.putfield 42, 3) := by decide +kernel
theorem dX6_measure_10 : decode cX6_measure 10 = .ok (.aload_n 0, 1) := by decide +kernel
theorem dX6_measure_11 : decode cX6_measure 11 = .ok (.aload_n 1, 1) := by decide +kernel
theorem dX6_measure_12 : decode cX6_measure 12 = .ok (.aload_n 0, 1) := by decide +kernel
theorem dX6_measure_13 : decode cX6_measure 13 = .ok (.getfield 28, 3) := by decide +kernel
theorem dX6_measure_16 : decode cX6_measure 16 = .ok (.invokevirtual 46, 3) := by decide +kernel
theorem dX6_measure_19 : decode cX6_measure 19 = .ok (.aload_n 0, 1) := by decide +kernel
theorem dX6_measure_20 : decode cX6_measure 20 = .ok (.getfield 28, 3) := by decide +kernel
theorem dX6_measure_23 : decode cX6_measure 23 = .ok (.invokevirtual 52, 3) := by decide +kernel
theorem dX6_measure_26 : decode cX6_measure 26 = .ok (.invokevirtual 56, 3) := by decide +kernel
theorem dX6_measure_29 : decode cX6_measure 29 = .ok (.putfield 60, 3) := by decide +kernel
theorem dX6_measure_32 : decode cX6_measure 32 = .ok (.return_, 1) := by decide +kernel
theorem dX6_placeOf_0 : decode cX6_placeOf 0 = .ok (.iload_n 0, 1) := by decide +kernel
theorem dX6_placeOf_1 : decode cX6_placeOf 1 = .ok (.bipush 8, 2) := by decide +kernel
theorem dX6_placeOf_3 : decode cX6_placeOf 3 = .ok (.imul, 1) := by decide +kernel
theorem dX6_placeOf_4 : decode cX6_placeOf 4 = .ok (.iload_n 1, 1) := by decide +kernel
theorem dX6_placeOf_5 : decode cX6_placeOf 5 = .ok (.iadd, 1) := by decide +kernel
theorem dX6_placeOf_6 : decode cX6_placeOf 6 = .ok (.iconst 1, 1) := by decide +kernel
theorem dX6_placeOf_7 : decode cX6_placeOf 7 = .ok (.isub, 1) := by decide +kernel
theorem dX6_placeOf_8 : decode cX6_placeOf 8 = .ok (.bipush 101, 2) := by decide +kernel
theorem dX6_placeOf_10 : decode cX6_placeOf 10 = .ok (.imul, 1) := by decide +kernel
theorem dX6_placeOf_11 : decode cX6_placeOf 11 = .ok (.iload_n 2, 1) := by decide +kernel
theorem dX6_placeOf_12 : decode cX6_placeOf 12 = .ok (.iadd, 1) := by decide +kernel
theorem dX6_placeOf_13 : decode cX6_placeOf 13 = .ok (.ireturn, 1) := by decide +kernel
set_option maxRecDepth 20000 in
theorem ggX6_actAt_X6_placeOf : GoodIn wsX6_actAt wsX6_placeOf := goodIn_r _ [5] (by decide +kernel) (by decide +kernel)
set_option maxRecDepth 20000 in
theorem gX6_actAt_X6_placeOf : GoodIn wsX6_actAt (va_wsS RX6 64 yX6_placeOf wsX6_placeOf) := goodIn_app (goodIn_of _ (by decide +kernel)) ggX6_actAt_X6_placeOf
theorem dX6_actAt_0 : decode cX6_actAt 0 = .ok (.iload_n 1, 1) := by decide +kernel
theorem dX6_actAt_1 : decode cX6_actAt 1 = .ok (.iload_n 2, 1) := by decide +kernel
theorem dX6_actAt_2 : decode cX6_actAt 2 = .ok (.iload_n 3, 1) := by decide +kernel
theorem dX6_actAt_3 : decode cX6_actAt 3 = .ok (.invokestatic 64, 3) := by decide +kernel
theorem dX6_actAt_6 : decode cX6_actAt 6 = .ok (.istore 4, 2) := by decide +kernel
theorem dX6_actAt_8 : decode cX6_actAt 8 = .ok (.iload 4, 2) := by decide +kernel
theorem dX6_actAt_10 : decode cX6_actAt 10 = .ok (.ifCond .lt 23, 3) := by decide +kernel
theorem dX6_actAt_13 : decode cX6_actAt 13 = .ok (.iload 4, 2) := by decide +kernel
theorem dX6_actAt_15 : decode cX6_actAt 15 = .ok (.aload_n 0, 1) := by decide +kernel
theorem dX6_actAt_16 : decode cX6_actAt 16 = .ok (.getfield 15, 3) := by decide +kernel
theorem dX6_actAt_19 : decode cX6_actAt 19 = .ok (.arraylength, 1) := by decide +kernel
theorem dX6_actAt_20 : decode cX6_actAt 20 = .ok (.if_icmp .ge 13, 3) := by decide +kernel
theorem dX6_actAt_23 : decode cX6_actAt 23 = .ok (.aload_n 0, 1) := by decide +kernel
theorem dX6_actAt_24 : decode cX6_actAt 24 = .ok (.getfield 15, 3) := by decide +kernel
theorem dX6_actAt_27 : decode cX6_actAt 27 = .ok (.iload 4, 2) := by decide +kernel
theorem dX6_actAt_29 : decode cX6_actAt 29 = .ok (.baload, 1) := by decide +kernel
theorem dX6_actAt_30 : decode cX6_actAt 30 = .ok (.goto 4, 3) := by decide +kernel
theorem dX6_actAt_33 : decode cX6_actAt 33 = .ok (.iconst (-1), 1) := by decide +kernel
theorem dX6_actAt_34 : decode cX6_actAt 34 = .ok (.ireturn, 1) := by decide +kernel
set_option maxRecDepth 20000 in
theorem ggX6_setAct_X6_placeOf : GoodIn wsX6_setAct wsX6_placeOf := goodIn_r _ [5] (by decide +kernel) (by decide +kernel)
set_option maxRecDepth 20000 in
theorem gX6_setAct_X6_placeOf : GoodIn wsX6_setAct (va_wsS RX6 64 yX6_placeOf wsX6_placeOf) := goodIn_app (goodIn_of _ (by decide +kernel)) ggX6_setAct_X6_placeOf
theorem dX6_setAct_0 : decode cX6_setAct 0 = .ok (.iload_n 1, 1) := by decide +kernel
theorem dX6_setAct_1 : decode cX6_setAct 1 = .ok (.iload_n 2, 1) := by decide +kernel
theorem dX6_setAct_2 : decode cX6_setAct 2 = .ok (.iload_n 3, 1) := by decide +kernel
theorem dX6_setAct_3 : decode cX6_setAct 3 = .ok (.invokestatic 64, 3) := by decide +kernel
theorem dX6_setAct_6 : decode cX6_setAct 6 = .ok (.istore 5, 2) := by decide +kernel
theorem dX6_setAct_8 : decode cX6_setAct 8 = .ok (.iload 5, 2) := by decide +kernel
theorem dX6_setAct_10 : decode cX6_setAct 10 = .ok (.ifCond .lt 23, 3) := by decide +kernel
theorem dX6_setAct_13 : decode cX6_setAct 13 = .ok (.iload 5, 2) := by decide +kernel
theorem dX6_setAct_15 : decode cX6_setAct 15 = .ok (.aload_n 0, 1) := by decide +kernel
theorem dX6_setAct_16 : decode cX6_setAct 16 = .ok (.getfield 15, 3) := by decide +kernel
theorem dX6_setAct_19 : decode cX6_setAct 19 = .ok (.arraylength, 1) := by decide +kernel
theorem dX6_setAct_20 : decode cX6_setAct 20 = .ok (.if_icmp .ge 13, 3) := by decide +kernel
theorem dX6_setAct_23 : decode cX6_setAct 23 = .ok (.aload_n 0, 1) := by decide +kernel
theorem dX6_setAct_24 : decode cX6_setAct 24 = .ok (.getfield 15, 3) := by decide +kernel
theorem dX6_setAct_27 : decode cX6_setAct 27 = .ok (.iload 5, 2) := by decide +kernel
theorem dX6_setAct_29 : decode cX6_setAct 29 = .ok (.iload 4, 2) := by decide +kernel
theorem dX6_setAct_31 : decode cX6_setAct 31 = .ok (.i2b, 1) := by decide +kernel
theorem dX6_setAct_32 : decode cX6_setAct 32 = .ok (.bastore, 1) := by decide +kernel
theorem dX6_setAct_33 : decode cX6_setAct 33 = .ok (.return_, 1) := by decide +kernel
set_option maxRecDepth 20000 in
theorem ggX6_gainAt_X6_placeOf : GoodIn wsX6_gainAt wsX6_placeOf := goodIn_r _ [5] (by decide +kernel) (by decide +kernel)
set_option maxRecDepth 20000 in
theorem gX6_gainAt_X6_placeOf : GoodIn wsX6_gainAt (va_wsS RX6 64 yX6_placeOf wsX6_placeOf) := goodIn_app (goodIn_of _ (by decide +kernel)) ggX6_gainAt_X6_placeOf
theorem dX6_gainAt_0 : decode cX6_gainAt 0 = .ok (.iload_n 1, 1) := by decide +kernel
theorem dX6_gainAt_1 : decode cX6_gainAt 1 = .ok (.iload_n 2, 1) := by decide +kernel
theorem dX6_gainAt_2 : decode cX6_gainAt 2 = .ok (.iload_n 3, 1) := by decide +kernel
theorem dX6_gainAt_3 : decode cX6_gainAt 3 = .ok (.invokestatic 64, 3) := by decide +kernel
theorem dX6_gainAt_6 : decode cX6_gainAt 6 = .ok (.istore 4, 2) := by decide +kernel
theorem dX6_gainAt_8 : decode cX6_gainAt 8 = .ok (.iload 4, 2) := by decide +kernel
theorem dX6_gainAt_10 : decode cX6_gainAt 10 = .ok (.ifCond .lt 23, 3) := by decide +kernel
theorem dX6_gainAt_13 : decode cX6_gainAt 13 = .ok (.iload 4, 2) := by decide +kernel
theorem dX6_gainAt_15 : decode cX6_gainAt 15 = .ok (.aload_n 0, 1) := by decide +kernel
theorem dX6_gainAt_16 : decode cX6_gainAt 16 = .ok (.getfield 9, 3) := by decide +kernel
theorem dX6_gainAt_19 : decode cX6_gainAt 19 = .ok (.arraylength, 1) := by decide +kernel
theorem dX6_gainAt_20 : decode cX6_gainAt 20 = .ok (.if_icmp .ge 13, 3) := by decide +kernel
theorem dX6_gainAt_23 : decode cX6_gainAt 23 = .ok (.aload_n 0, 1) := by decide +kernel
theorem dX6_gainAt_24 : decode cX6_gainAt 24 = .ok (.getfield 9, 3) := by decide +kernel
theorem dX6_gainAt_27 : decode cX6_gainAt 27 = .ok (.iload 4, 2) := by decide +kernel
theorem dX6_gainAt_29 : decode cX6_gainAt 29 = .ok (.laload, 1) := by decide +kernel
theorem dX6_gainAt_30 : decode cX6_gainAt 30 = .ok (.goto 4, 3) := by decide +kernel
theorem dX6_gainAt_33 : decode cX6_gainAt 33 = .ok (.lconst 0, 1) := by decide +kernel
theorem dX6_gainAt_34 : decode cX6_gainAt 34 = .ok (.lreturn, 1) := by decide +kernel
set_option maxRecDepth 20000 in
theorem ggX6_setGain_X6_placeOf : GoodIn wsX6_setGain wsX6_placeOf := goodIn_r _ [5] (by decide +kernel) (by decide +kernel)
set_option maxRecDepth 20000 in
theorem gX6_setGain_X6_placeOf : GoodIn wsX6_setGain (va_wsS RX6 64 yX6_placeOf wsX6_placeOf) := goodIn_app (goodIn_of _ (by decide +kernel)) ggX6_setGain_X6_placeOf
theorem dX6_setGain_0 : decode cX6_setGain 0 = .ok (.iload_n 1, 1) := by decide +kernel
theorem dX6_setGain_1 : decode cX6_setGain 1 = .ok (.iload_n 2, 1) := by decide +kernel
theorem dX6_setGain_2 : decode cX6_setGain 2 = .ok (.iload_n 3, 1) := by decide +kernel
theorem dX6_setGain_3 : decode cX6_setGain 3 = .ok (.invokestatic 64, 3) := by decide +kernel
theorem dX6_setGain_6 : decode cX6_setGain 6 = .ok (.istore 6, 2) := by decide +kernel
theorem dX6_setGain_8 : decode cX6_setGain 8 = .ok (.iload 6, 2) := by decide +kernel
theorem dX6_setGain_10 : decode cX6_setGain 10 = .ok (.ifCond .lt 22, 3) := by decide +kernel
theorem dX6_setGain_13 : decode cX6_setGain 13 = .ok (.iload 6, 2) := by decide +kernel
theorem dX6_setGain_15 : decode cX6_setGain 15 = .ok (.aload_n 0, 1) := by decide +kernel
theorem dX6_setGain_16 : decode cX6_setGain 16 = .ok (.getfield 9, 3) := by decide +kernel
theorem dX6_setGain_19 : decode cX6_setGain 19 = .ok (.arraylength, 1) := by decide +kernel
theorem dX6_setGain_20 : decode cX6_setGain 20 = .ok (.if_icmp .ge 12, 3) := by decide +kernel
theorem dX6_setGain_23 : decode cX6_setGain 23 = .ok (.aload_n 0, 1) := by decide +kernel
theorem dX6_setGain_24 : decode cX6_setGain 24 = .ok (.getfield 9, 3) := by decide +kernel
theorem dX6_setGain_27 : decode cX6_setGain 27 = .ok (.iload 6, 2) := by decide +kernel
theorem dX6_setGain_29 : decode cX6_setGain 29 = .ok (.lload 4, 2) := by decide +kernel
theorem dX6_setGain_31 : decode cX6_setGain 31 = .ok (.lastore, 1) := by decide +kernel
theorem dX6_setGain_32 : decode cX6_setGain 32 = .ok (.return_, 1) := by decide +kernel
set_option maxRecDepth 20000 in
theorem ggX6_gainAtStart_X0_hasPiece : GoodIn wsX6_gainAtStart wsX0_hasPiece := goodIn_r _ [6, 7, 8, 9, 10, 34, 35, 36, 37, 38, 39, 40, 41, 42, 43, 44, 45, 46, 47, 48, 49, 50] (by decide +kernel) (by decide +kernel)
set_option maxRecDepth 20000 in
theorem gX6_gainAtStart_X0_hasPiece : GoodIn wsX6_gainAtStart (wsV RX6 68 RX0 yX0_hasPiece wsX0_hasPiece) := goodIn_app (goodIn_of _ (by decide +kernel)) ggX6_gainAtStart_X0_hasPiece
set_option maxRecDepth 20000 in
theorem ggX6_gainAtStart_X0_stepsOf : GoodIn wsX6_gainAtStart wsX0_stepsOf := goodIn_r _ [14, 15, 16, 9, 17, 34, 35, 36, 37, 38, 39, 40, 41, 42, 43, 44, 45, 46, 47, 48, 49, 50] (by decide +kernel) (by decide +kernel)
set_option maxRecDepth 20000 in
theorem gX6_gainAtStart_X0_stepsOf : GoodIn wsX6_gainAtStart (wsV RX6 72 RX0 yX0_stepsOf wsX0_stepsOf) := goodIn_app (goodIn_of _ (by decide +kernel)) ggX6_gainAtStart_X0_stepsOf
set_option maxRecDepth 20000 in
theorem ggX6_gainAtStart_X6_gainAt : GoodIn wsX6_gainAtStart wsX6_gainAt := goodIn_r _ [22, 23, 24, 25, 21, 26, 27, 28, 29, 30, 31, 32, 33] (by decide +kernel) (by decide +kernel)
set_option maxRecDepth 20000 in
theorem gX6_gainAtStart_X6_gainAt : GoodIn wsX6_gainAtStart (wsV RX6 76 RX6 yX6_gainAt wsX6_gainAt) := goodIn_app (goodIn_of _ (by decide +kernel)) ggX6_gainAtStart_X6_gainAt
theorem dX6_gainAtStart_0 : decode cX6_gainAtStart 0 = .ok (.aload_n 0, 1) := by decide +kernel
theorem dX6_gainAtStart_1 : decode cX6_gainAtStart 1 = .ok (.getfield 28, 3) := by decide +kernel
theorem dX6_gainAtStart_4 : decode cX6_gainAtStart 4 = .ok (.iload_n 1, 1) := by decide +kernel
theorem dX6_gainAtStart_5 : decode cX6_gainAtStart 5 = .ok (.invokevirtual 68, 3) := by decide +kernel
theorem dX6_gainAtStart_8 : decode cX6_gainAtStart 8 = .ok (.ifCond .eq 20, 3) := by decide +kernel
theorem dX6_gainAtStart_11 : decode cX6_gainAtStart 11 = .ok (.aload_n 0, 1) := by decide +kernel
theorem dX6_gainAtStart_12 : decode cX6_gainAtStart 12 = .ok (.iload_n 1, 1) := by decide +kernel
theorem dX6_gainAtStart_13 : decode cX6_gainAtStart 13 = .ok (.aload_n 0, 1) := by decide +kernel
theorem dX6_gainAtStart_14 : decode cX6_gainAtStart 14 = .ok (.getfield 28, 3) := by decide +kernel
theorem dX6_gainAtStart_17 : decode cX6_gainAtStart 17 = .ok (.iload_n 1, 1) := by decide +kernel
theorem dX6_gainAtStart_18 : decode cX6_gainAtStart 18 = .ok (.invokevirtual 72, 3) := by decide +kernel
theorem dX6_gainAtStart_21 : decode cX6_gainAtStart 21 = .ok (.iload_n 2, 1) := by decide +kernel
theorem dX6_gainAtStart_22 : decode cX6_gainAtStart 22 = .ok (.invokevirtual 76, 3) := by decide +kernel
theorem dX6_gainAtStart_25 : decode cX6_gainAtStart 25 = .ok (.goto 4, 3) := by decide +kernel
theorem dX6_gainAtStart_28 : decode cX6_gainAtStart 28 = .ok (.lconst 0, 1) := by decide +kernel
theorem dX6_gainAtStart_29 : decode cX6_gainAtStart 29 = .ok (.lreturn, 1) := by decide +kernel
set_option maxRecDepth 20000 in
theorem ggX6_gainOf_X6_gainAt : GoodIn wsX6_gainOf wsX6_gainAt := goodIn_r _ [9, 10, 11, 12, 8, 13, 101, 102, 103, 104, 105, 106, 107] (by decide +kernel) (by decide +kernel)
set_option maxRecDepth 20000 in
theorem gX6_gainOf_X6_gainAt : GoodIn wsX6_gainOf (wsV RX6 76 RX6 yX6_gainAt wsX6_gainAt) := goodIn_app (goodIn_of _ (by decide +kernel)) ggX6_gainOf_X6_gainAt
set_option maxRecDepth 20000 in
theorem ggX6_gainOf_X6_gainAtStart : GoodIn wsX6_gainOf wsX6_gainAtStart := goodIn_r _ [17, 3, 18, 19, 20, 21, 22, 23, 24, 25, 26, 27, 28, 29, 30, 31, 32, 33, 5, 6, 7, 8, 9, 10, 11, 12, 13, 101, 102, 103, 104, 105, 106, 107, 108, 109, 110, 111, 112, 113, 114, 115, 116, 117, 118, 119, 120, 121, 122, 123, 124] (by decide +kernel) (by decide +kernel)
set_option maxRecDepth 20000 in
theorem gX6_gainOf_X6_gainAtStart : GoodIn wsX6_gainOf (wsV RX6 83 RX6 yX6_gainAtStart wsX6_gainAtStart) := goodIn_app (goodIn_of _ (by decide +kernel)) ggX6_gainOf_X6_gainAtStart
set_option maxRecDepth 20000 in
theorem ggX6_gainOf_X11_depthOf : GoodIn wsX6_gainOf wsX11_depthOf := goodIn_r _ [35] (by decide +kernel) (by decide +kernel)
set_option maxRecDepth 20000 in
theorem gX6_gainOf_X11_depthOf_n87 : GoodIn wsX6_gainOf (wsX11_depthOf) := ggX6_gainOf_X11_depthOf
set_option maxRecDepth 20000 in
theorem ggX6_gainOf_X11_speedOf : GoodIn wsX6_gainOf wsX11_speedOf := goodIn_r _ [37] (by decide +kernel) (by decide +kernel)
set_option maxRecDepth 20000 in
theorem gX6_gainOf_X11_speedOf_n90 : GoodIn wsX6_gainOf (wsX11_speedOf) := ggX6_gainOf_X11_speedOf
set_option maxRecDepth 20000 in
theorem ggX6_gainOf_X0_wears : GoodIn wsX6_gainOf wsX0_wears := goodIn_r _ [41, 42, 43, 44, 32, 25, 33, 108, 109, 110, 111, 112, 113, 114, 115, 116, 117, 118, 119, 120, 121, 122, 123, 124] (by decide +kernel) (by decide +kernel)
set_option maxRecDepth 20000 in
theorem gX6_gainOf_X0_wears : GoodIn wsX6_gainOf (wsV RX6 93 RX0 yX0_wears wsX0_wears) := goodIn_app (goodIn_of _ (by decide +kernel)) ggX6_gainOf_X0_wears
set_option maxRecDepth 20000 in
theorem ggX6_gainOf_X6_ofBreaking : GoodIn wsX6_gainOf wsX6_ofBreaking := goodIn_r _ [48, 2, 1, 14, 15, 16, 8, 17, 3, 18, 19, 20, 21, 22, 23, 24, 25, 26, 27, 28, 29, 30, 31, 32, 33, 5, 6, 7, 9, 10, 11, 12, 13, 101, 102, 103, 104, 105, 106, 107, 108, 109, 110, 111, 112, 113, 114, 115, 116, 117, 118, 119, 120, 121, 122, 123, 124] (by decide +kernel) (by decide +kernel)
set_option maxRecDepth 20000 in
theorem gX6_gainOf_X6_ofBreaking : GoodIn wsX6_gainOf (wsV RX6 97 RX6 yX6_ofBreaking wsX6_ofBreaking) := goodIn_app (goodIn_of _ (by decide +kernel)) ggX6_gainOf_X6_ofBreaking
set_option maxRecDepth 20000 in
theorem ggX6_gainOf_X6_comes : GoodIn wsX6_gainOf wsX6_comes := goodIn_r _ [52, 3, 53, 54, 55, 56, 21, 57, 58, 32, 25, 33, 5, 6, 7, 8, 9, 10, 11, 12, 13, 59, 60, 61, 62, 2, 63, 64, 65, 66, 67, 68, 69, 70, 71, 72, 73, 74, 75, 76, 77, 78, 79, 14, 15, 16, 17, 18, 19, 20, 22, 23, 24, 26, 27, 28, 29, 30, 31, 101, 102, 103, 104, 105, 106, 107, 108, 109, 110, 111, 112, 113, 114, 115, 116, 117, 118, 119, 120, 121, 122, 123, 124] (by decide +kernel) (by decide +kernel)
set_option maxRecDepth 20000 in
theorem gX6_gainOf_X6_comes : GoodIn wsX6_gainOf (wsV RX6 101 RX6 yX6_comes wsX6_comes) := goodIn_app (goodIn_of _ (by decide +kernel)) ggX6_gainOf_X6_comes
set_option maxRecDepth 20000 in
theorem ggX6_gainOf_X6_ofTime : GoodIn wsX6_gainOf wsX6_ofTime := goodIn_r _ [83, 3, 2, 84, 85, 86, 21, 87, 88, 42, 32, 25, 33, 89, 90, 91, 92, 93, 94, 95, 96, 97, 76, 98, 99, 100, 101, 102, 103, 104, 105, 106, 107, 108, 109, 110, 111, 112, 113, 114, 115, 116, 117, 118, 119, 120, 121, 122, 123, 124] (by decide +kernel) (by decide +kernel)
set_option maxRecDepth 20000 in
theorem gX6_gainOf_X6_ofTime : GoodIn wsX6_gainOf (wsV RX6 105 RX6 yX6_ofTime wsX6_ofTime) := goodIn_app (goodIn_of _ (by decide +kernel)) ggX6_gainOf_X6_ofTime
theorem dX6_gainOf_0 : decode cX6_gainOf 0 = .ok (.iload_n 1, 1) := by decide +kernel
theorem dX6_gainOf_1 : decode cX6_gainOf 1 = .ok (.bipush 48, 2) := by decide +kernel
theorem dX6_gainOf_3 : decode cX6_gainOf 3 = .ok (.if_icmp .ne 16, 3) := by decide +kernel
theorem dX6_gainOf_6 : decode cX6_gainOf 6 = .ok (.aload_n 0, 1) := by decide +kernel
theorem dX6_gainOf_7 : decode cX6_gainOf 7 = .ok (.iload_n 2, 1) := by decide +kernel
theorem dX6_gainOf_8 : decode cX6_gainOf 8 = .ok (.iload_n 3, 1) := by decide +kernel
theorem dX6_gainOf_9 : decode cX6_gainOf 9 = .ok (.iconst 0, 1) := by decide +kernel
theorem dX6_gainOf_10 : decode cX6_gainOf 10 = .ok (.invokevirtual 76, 3) := by decide +kernel
theorem dX6_gainOf_13 : decode cX6_gainOf 13 = .ok (.aload_n 0, 1) := by decide +kernel
theorem dX6_gainOf_14 : decode cX6_gainOf 14 = .ok (.getfield 60, 3) := by decide +kernel
theorem dX6_gainOf_17 : decode cX6_gainOf 17 = .ok (.ladd, 1) := by decide +kernel
theorem dX6_gainOf_18 : decode cX6_gainOf 18 = .ok (.lreturn, 1) := by decide +kernel
theorem dX6_gainOf_19 : decode cX6_gainOf 19 = .ok (.iload_n 1, 1) := by decide +kernel
theorem dX6_gainOf_20 : decode cX6_gainOf 20 = .ok (.bipush 49, 2) := by decide +kernel
theorem dX6_gainOf_22 : decode cX6_gainOf 22 = .ok (.if_icmp .ne 21, 3) := by decide +kernel
theorem dX6_gainOf_25 : decode cX6_gainOf 25 = .ok (.aload_n 0, 1) := by decide +kernel
theorem dX6_gainOf_26 : decode cX6_gainOf 26 = .ok (.getfield 25, 3) := by decide +kernel
theorem dX6_gainOf_29 : decode cX6_gainOf 29 = .ok (.getfield 80, 3) := by decide +kernel
theorem dX6_gainOf_32 : decode cX6_gainOf 32 = .ok (.aload_n 0, 1) := by decide +kernel
theorem dX6_gainOf_33 : decode cX6_gainOf 33 = .ok (.iload_n 2, 1) := by decide +kernel
theorem dX6_gainOf_34 : decode cX6_gainOf 34 = .ok (.iconst 1, 1) := by decide +kernel
theorem dX6_gainOf_35 : decode cX6_gainOf 35 = .ok (.iadd, 1) := by decide +kernel
theorem dX6_gainOf_36 : decode cX6_gainOf 36 = .ok (.iload 4, 2) := by decide +kernel
theorem dX6_gainOf_38 : decode cX6_gainOf 38 = .ok (.invokevirtual 83, 3) := by decide +kernel
theorem dX6_gainOf_41 : decode cX6_gainOf 41 = .ok (.ladd, 1) := by decide +kernel
theorem dX6_gainOf_42 : decode cX6_gainOf 42 = .ok (.lreturn, 1) := by decide +kernel
theorem dX6_gainOf_43 : decode cX6_gainOf 43 = .ok (.iload_n 3, 1) := by decide +kernel
theorem dX6_gainOf_44 : decode cX6_gainOf 44 = .ok (.iload_n 1, 1) := by decide +kernel
theorem dX6_gainOf_45 : decode cX6_gainOf 45 = .ok (.invokestatic 87, 3) := by decide +kernel
theorem dX6_gainOf_48 : decode cX6_gainOf 48 = .ok (.isub, 1) := by decide +kernel
theorem dX6_gainOf_49 : decode cX6_gainOf 49 = .ok (.istore 5, 2) := by decide +kernel
theorem dX6_gainOf_51 : decode cX6_gainOf 51 = .ok (.aload_n 0, 1) := by decide +kernel
theorem dX6_gainOf_52 : decode cX6_gainOf 52 = .ok (.getfield 28, 3) := by decide +kernel
theorem dX6_gainOf_55 : decode cX6_gainOf 55 = .ok (.iload_n 2, 1) := by decide +kernel
theorem dX6_gainOf_56 : decode cX6_gainOf 56 = .ok (.iload_n 1, 1) := by decide +kernel
theorem dX6_gainOf_57 : decode cX6_gainOf 57 = .ok (.invokestatic 90, 3) := by decide +kernel
theorem dX6_gainOf_60 : decode cX6_gainOf 60 = .ok (.iload_n 1, 1) := by decide +kernel
theorem dX6_gainOf_61 : decode cX6_gainOf 61 = .ok (.invokestatic 87, 3) := by decide +kernel
theorem dX6_gainOf_64 : decode cX6_gainOf 64 = .ok (.aload_n 0, 1) := by decide +kernel
theorem dX6_gainOf_65 : decode cX6_gainOf 65 = .ok (.getfield 42, 3) := by decide +kernel
theorem dX6_gainOf_68 : decode cX6_gainOf 68 = .ok (.invokevirtual 93, 3) := by decide +kernel
theorem dX6_gainOf_71 : decode cX6_gainOf 71 = .ok (.istore 6, 2) := by decide +kernel
theorem dX6_gainOf_73 : decode cX6_gainOf 73 = .ok (.aload_n 0, 1) := by decide +kernel
theorem dX6_gainOf_74 : decode cX6_gainOf 74 = .ok (.iload_n 2, 1) := by decide +kernel
theorem dX6_gainOf_75 : decode cX6_gainOf 75 = .ok (.iload 5, 2) := by decide +kernel
theorem dX6_gainOf_77 : decode cX6_gainOf 77 = .ok (.iload 4, 2) := by decide +kernel
theorem dX6_gainOf_79 : decode cX6_gainOf 79 = .ok (.iload 6, 2) := by decide +kernel
theorem dX6_gainOf_81 : decode cX6_gainOf 81 = .ok (.aload_n 0, 1) := by decide +kernel
theorem dX6_gainOf_82 : decode cX6_gainOf 82 = .ok (.iload_n 2, 1) := by decide +kernel
theorem dX6_gainOf_83 : decode cX6_gainOf 83 = .ok (.invokevirtual 97, 3) := by decide +kernel
theorem dX6_gainOf_86 : decode cX6_gainOf 86 = .ok (.invokevirtual 101, 3) := by decide +kernel
theorem dX6_gainOf_89 : decode cX6_gainOf 89 = .ok (.aload_n 0, 1) := by decide +kernel
theorem dX6_gainOf_90 : decode cX6_gainOf 90 = .ok (.iload_n 2, 1) := by decide +kernel
theorem dX6_gainOf_91 : decode cX6_gainOf 91 = .ok (.iload_n 1, 1) := by decide +kernel
theorem dX6_gainOf_92 : decode cX6_gainOf 92 = .ok (.invokestatic 90, 3) := by decide +kernel
theorem dX6_gainOf_95 : decode cX6_gainOf 95 = .ok (.invokevirtual 105, 3) := by decide +kernel
theorem dX6_gainOf_98 : decode cX6_gainOf 98 = .ok (.ladd, 1) := by decide +kernel
theorem dX6_gainOf_99 : decode cX6_gainOf 99 = .ok (.lreturn, 1) := by decide +kernel
set_option maxRecDepth 20000 in
theorem ggX6_ofTime_X0_minutes : GoodIn wsX6_ofTime wsX0_minutes := goodIn_r _ [7, 8, 9, 10, 11, 12, 33, 34, 35, 36, 37, 38, 39, 40, 41, 42, 43, 44, 45, 46, 47, 48, 49] (by decide +kernel) (by decide +kernel)
set_option maxRecDepth 20000 in
theorem gX6_ofTime_X0_minutes : GoodIn wsX6_ofTime (wsV RX6 108 RX0 yX0_minutes wsX0_minutes) := goodIn_app (goodIn_of _ (by decide +kernel)) ggX6_ofTime_X0_minutes
set_option maxRecDepth 20000 in
theorem ggX6_ofTime_X0_cost : GoodIn wsX6_ofTime wsX0_cost := goodIn_r _ [16, 17, 18, 33, 34, 35, 36, 37, 38, 39, 40, 41, 42, 43, 44, 45, 46, 47, 48, 49] (by decide +kernel) (by decide +kernel)
set_option maxRecDepth 20000 in
theorem gX6_ofTime_X0_cost : GoodIn wsX6_ofTime (wsV RX6 112 RX0 yX0_cost wsX0_cost) := goodIn_app (goodIn_of _ (by decide +kernel)) ggX6_ofTime_X0_cost
set_option maxRecDepth 20000 in
theorem ggX6_ofTime_X4_ofSpending : GoodIn wsX6_ofTime wsX4_ofSpending := goodIn_r _ [23, 24, 25] (by decide +kernel) (by decide +kernel)
set_option maxRecDepth 20000 in
theorem gX6_ofTime_X4_ofSpending : GoodIn wsX6_ofTime (wsV RX6 56 RX4 yX4_ofSpending wsX4_ofSpending) := goodIn_app (goodIn_of _ (by decide +kernel)) ggX6_ofTime_X4_ofSpending
theorem dX6_ofTime_0 : decode cX6_ofTime 0 = .ok (.aload_n 0, 1) := by decide +kernel
theorem dX6_ofTime_1 : decode cX6_ofTime 1 = .ok (.getfield 28, 3) := by decide +kernel
theorem dX6_ofTime_4 : decode cX6_ofTime 4 = .ok (.iload_n 1, 1) := by decide +kernel
theorem dX6_ofTime_5 : decode cX6_ofTime 5 = .ok (.iload_n 2, 1) := by decide +kernel
theorem dX6_ofTime_6 : decode cX6_ofTime 6 = .ok (.invokevirtual 108, 3) := by decide +kernel
theorem dX6_ofTime_9 : decode cX6_ofTime 9 = .ok (.istore_n 3, 1) := by decide +kernel
theorem dX6_ofTime_10 : decode cX6_ofTime 10 = .ok (.aload_n 0, 1) := by decide +kernel
theorem dX6_ofTime_11 : decode cX6_ofTime 11 = .ok (.getfield 25, 3) := by decide +kernel
theorem dX6_ofTime_14 : decode cX6_ofTime 14 = .ok (.iload_n 3, 1) := by decide +kernel
theorem dX6_ofTime_15 : decode cX6_ofTime 15 = .ok (.aload_n 0, 1) := by decide +kernel
theorem dX6_ofTime_16 : decode cX6_ofTime 16 = .ok (.getfield 28, 3) := by decide +kernel
theorem dX6_ofTime_19 : decode cX6_ofTime 19 = .ok (.iload_n 3, 1) := by decide +kernel
theorem dX6_ofTime_20 : decode cX6_ofTime 20 = .ok (.iconst 0, 1) := by decide +kernel
theorem dX6_ofTime_21 : decode cX6_ofTime 21 = .ok (.invokevirtual 112, 3) := by decide +kernel
theorem dX6_ofTime_24 : decode cX6_ofTime 24 = .ok (.invokevirtual 56, 3) := by decide +kernel
theorem dX6_ofTime_27 : decode cX6_ofTime 27 = .ok (.lreturn, 1) := by decide +kernel
set_option maxRecDepth 20000 in
theorem ggX6_ofBreaking_X6_gainAtStart : GoodIn wsX6_ofBreaking wsX6_gainAtStart := goodIn_r _ [7, 8, 9, 10, 11, 12, 13, 14, 15, 16, 17, 18, 19, 20, 21, 22, 23, 24, 25, 26, 27, 6, 28, 29, 30, 31, 32, 33, 34, 35, 36, 37, 38, 39, 40, 41, 42, 43, 44, 45, 46, 47, 48, 49, 50, 51, 52, 53, 54, 55, 56] (by decide +kernel) (by decide +kernel)
set_option maxRecDepth 20000 in
theorem gX6_ofBreaking_X6_gainAtStart : GoodIn wsX6_ofBreaking (wsV RX6 83 RX6 yX6_gainAtStart wsX6_gainAtStart) := goodIn_app (goodIn_of _ (by decide +kernel)) ggX6_ofBreaking_X6_gainAtStart
theorem dX6_ofBreaking_0 : decode cX6_ofBreaking 0 = .ok (.aload_n 0, 1) := by decide +kernel
theorem dX6_ofBreaking_1 : decode cX6_ofBreaking 1 = .ok (.getfield 25, 3) := by decide +kernel
theorem dX6_ofBreaking_4 : decode cX6_ofBreaking 4 = .ok (.getfield 80, 3) := by decide +kernel
theorem dX6_ofBreaking_7 : decode cX6_ofBreaking 7 = .ok (.aload_n 0, 1) := by decide +kernel
theorem dX6_ofBreaking_8 : decode cX6_ofBreaking 8 = .ok (.getfield 60, 3) := by decide +kernel
theorem dX6_ofBreaking_11 : decode cX6_ofBreaking 11 = .ok (.ladd, 1) := by decide +kernel
theorem dX6_ofBreaking_12 : decode cX6_ofBreaking 12 = .ok (.aload_n 0, 1) := by decide +kernel
theorem dX6_ofBreaking_13 : decode cX6_ofBreaking 13 = .ok (.iload_n 1, 1) := by decide +kernel
theorem dX6_ofBreaking_14 : decode cX6_ofBreaking 14 = .ok (.iconst 1, 1) := by decide +kernel
theorem dX6_ofBreaking_15 : decode cX6_ofBreaking 15 = .ok (.iadd, 1) := by decide +kernel
theorem dX6_ofBreaking_16 : decode cX6_ofBreaking 16 = .ok (.iconst 0, 1) := by decide +kernel
theorem dX6_ofBreaking_17 : decode cX6_ofBreaking 17 = .ok (.invokevirtual 83, 3) := by decide +kernel
theorem dX6_ofBreaking_20 : decode cX6_ofBreaking 20 = .ok (.ladd, 1) := by decide +kernel
theorem dX6_ofBreaking_21 : decode cX6_ofBreaking 21 = .ok (.lreturn, 1) := by decide +kernel
set_option maxRecDepth 20000 in
theorem ggX6_comes_X0_risk : GoodIn wsX6_comes wsX0_risk := goodIn_r _ [7, 8, 9, 10, 11, 66, 67, 68, 69, 70, 71, 72, 73, 74, 75, 76, 77, 78, 79, 80, 81, 82] (by decide +kernel) (by decide +kernel)
set_option maxRecDepth 20000 in
theorem gX6_comes_X0_risk : GoodIn wsX6_comes (wsV RX6 115 RX0 yX0_risk wsX0_risk) := goodIn_app (goodIn_of _ (by decide +kernel)) ggX6_comes_X0_risk
set_option maxRecDepth 20000 in
theorem ggX6_comes_X6_gainAt : GoodIn wsX6_comes wsX6_gainAt := goodIn_r _ [16, 17, 18, 19, 15, 20, 59, 60, 61, 62, 63, 64, 65] (by decide +kernel) (by decide +kernel)
set_option maxRecDepth 20000 in
theorem gX6_comes_X6_gainAt : GoodIn wsX6_comes (wsV RX6 76 RX6 yX6_gainAt wsX6_gainAt) := goodIn_app (goodIn_of _ (by decide +kernel)) ggX6_comes_X6_gainAt
set_option maxRecDepth 20000 in
theorem ggX6_comes_X6_ofEnd : GoodIn wsX6_comes wsX6_ofEnd := goodIn_r _ [24, 1, 25, 26, 27, 28, 6, 29, 30, 9, 10, 11, 31, 32, 33, 34, 35, 36, 37, 38, 39, 40, 41, 42, 59, 60, 61, 62, 63, 64, 65, 66, 67, 68, 69, 70, 71, 72, 73, 74, 75, 76, 77, 78, 79, 80, 81, 82] (by decide +kernel) (by decide +kernel)
set_option maxRecDepth 20000 in
theorem gX6_comes_X6_ofEnd : GoodIn wsX6_comes (wsV RX6 118 RX6 yX6_ofEnd wsX6_ofEnd) := goodIn_app (goodIn_of _ (by decide +kernel)) ggX6_comes_X6_ofEnd
set_option maxRecDepth 20000 in
theorem ggX6_comes_X6_gainAtStart : GoodIn wsX6_comes wsX6_gainAtStart := goodIn_r _ [46, 1, 47, 48, 49, 6, 50, 51, 52, 10, 53, 54, 55, 56, 57, 58, 9, 11, 12, 13, 14, 15, 16, 17, 18, 19, 20, 59, 60, 61, 62, 63, 64, 65, 66, 67, 68, 69, 70, 71, 72, 73, 74, 75, 76, 77, 78, 79, 80, 81, 82] (by decide +kernel) (by decide +kernel)
set_option maxRecDepth 20000 in
theorem gX6_comes_X6_gainAtStart : GoodIn wsX6_comes (wsV RX6 83 RX6 yX6_gainAtStart wsX6_gainAtStart) := goodIn_app (goodIn_of _ (by decide +kernel)) ggX6_comes_X6_gainAtStart
theorem dX6_comes_0 : decode cX6_comes 0 = .ok (.aload_n 0, 1) := by decide +kernel
theorem dX6_comes_1 : decode cX6_comes 1 = .ok (.getfield 28, 3) := by decide +kernel
theorem dX6_comes_4 : decode cX6_comes 4 = .ok (.iload_n 3, 1) := by decide +kernel
theorem dX6_comes_5 : decode cX6_comes 5 = .ok (.iload 4, 2) := by decide +kernel
theorem dX6_comes_7 : decode cX6_comes 7 = .ok (.invokevirtual 115, 3) := by decide +kernel
theorem dX6_comes_10 : decode cX6_comes 10 = .ok (.istore 7, 2) := by decide +kernel
theorem dX6_comes_12 : decode cX6_comes 12 = .ok (.iload 7, 2) := by decide +kernel
theorem dX6_comes_14 : decode cX6_comes 14 = .ok (.bipush 100, 2) := by decide +kernel
theorem dX6_comes_16 : decode cX6_comes 16 = .ok (.if_icmp .ne 6, 3) := by decide +kernel
theorem dX6_comes_19 : decode cX6_comes 19 = .ok (.lload 5, 2) := by decide +kernel
theorem dX6_comes_21 : decode cX6_comes 21 = .ok (.lreturn, 1) := by decide +kernel
theorem dX6_comes_22 : decode cX6_comes 22 = .ok (.iload_n 2, 1) := by decide +kernel
theorem dX6_comes_23 : decode cX6_comes 23 = .ok (.ifCond .le 16, 3) := by decide +kernel
theorem dX6_comes_26 : decode cX6_comes 26 = .ok (.aload_n 0, 1) := by decide +kernel
theorem dX6_comes_27 : decode cX6_comes 27 = .ok (.iload_n 1, 1) := by decide +kernel
theorem dX6_comes_28 : decode cX6_comes 28 = .ok (.iload_n 2, 1) := by decide +kernel
theorem dX6_comes_29 : decode cX6_comes 29 = .ok (.iload_n 3, 1) := by decide +kernel
theorem dX6_comes_30 : decode cX6_comes 30 = .ok (.iload 4, 2) := by decide +kernel
theorem dX6_comes_32 : decode cX6_comes 32 = .ok (.iadd, 1) := by decide +kernel
theorem dX6_comes_33 : decode cX6_comes 33 = .ok (.invokevirtual 76, 3) := by decide +kernel
theorem dX6_comes_36 : decode cX6_comes 36 = .ok (.goto 21, 3) := by decide +kernel
theorem dX6_comes_39 : decode cX6_comes 39 = .ok (.aload_n 0, 1) := by decide +kernel
theorem dX6_comes_40 : decode cX6_comes 40 = .ok (.iload_n 1, 1) := by decide +kernel
theorem dX6_comes_41 : decode cX6_comes 41 = .ok (.iload_n 3, 1) := by decide +kernel
theorem dX6_comes_42 : decode cX6_comes 42 = .ok (.invokevirtual 118, 3) := by decide +kernel
theorem dX6_comes_45 : decode cX6_comes 45 = .ok (.aload_n 0, 1) := by decide +kernel
theorem dX6_comes_46 : decode cX6_comes 46 = .ok (.iload_n 1, 1) := by decide +kernel
theorem dX6_comes_47 : decode cX6_comes 47 = .ok (.iconst 1, 1) := by decide +kernel
theorem dX6_comes_48 : decode cX6_comes 48 = .ok (.iadd, 1) := by decide +kernel
theorem dX6_comes_49 : decode cX6_comes 49 = .ok (.iload_n 3, 1) := by decide +kernel
theorem dX6_comes_50 : decode cX6_comes 50 = .ok (.iload 4, 2) := by decide +kernel
theorem dX6_comes_52 : decode cX6_comes 52 = .ok (.iadd, 1) := by decide +kernel
theorem dX6_comes_53 : decode cX6_comes 53 = .ok (.invokevirtual 83, 3) := by decide +kernel
theorem dX6_comes_56 : decode cX6_comes 56 = .ok (.ladd, 1) := by decide +kernel
theorem dX6_comes_57 : decode cX6_comes 57 = .ok (.lstore 8, 2) := by decide +kernel
theorem dX6_comes_59 : decode cX6_comes 59 = .ok (.iload 7, 2) := by decide +kernel
theorem dX6_comes_61 : decode cX6_comes 61 = .ok (.ifCond .ne 8, 3) := by decide +kernel
theorem dX6_comes_64 : decode cX6_comes 64 = .ok (.lload 8, 2) := by decide +kernel
theorem dX6_comes_66 : decode cX6_comes 66 = .ok (.goto 23, 3) := by decide +kernel
theorem dX6_comes_69 : decode cX6_comes 69 = .ok (.bipush 100, 2) := by decide +kernel
theorem dX6_comes_71 : decode cX6_comes 71 = .ok (.iload 7, 2) := by decide +kernel
theorem dX6_comes_73 : decode cX6_comes 73 = .ok (.isub, 1) := by decide +kernel
theorem dX6_comes_74 : decode cX6_comes 74 = .ok (.i2l, 1) := by decide +kernel
theorem dX6_comes_75 : decode cX6_comes 75 = .ok (.lload 8, 2) := by decide +kernel
theorem dX6_comes_77 : decode cX6_comes 77 = .ok (.lmul, 1) := by decide +kernel
theorem dX6_comes_78 : decode cX6_comes 78 = .ok (.iload 7, 2) := by decide +kernel
theorem dX6_comes_80 : decode cX6_comes 80 = .ok (.i2l, 1) := by decide +kernel
theorem dX6_comes_81 : decode cX6_comes 81 = .ok (.lload 5, 2) := by decide +kernel
theorem dX6_comes_83 : decode cX6_comes 83 = .ok (.lmul, 1) := by decide +kernel
theorem dX6_comes_84 : decode cX6_comes 84 = .ok (.ladd, 1) := by decide +kernel
theorem dX6_comes_85 : decode cX6_comes 85 = .ok (.ldc2_w 121, 3) := by decide +kernel
theorem dX6_comes_88 : decode cX6_comes 88 = .ok (.ldiv, 1) := by decide +kernel
theorem dX6_comes_89 : decode cX6_comes 89 = .ok (.lreturn, 1) := by decide +kernel
set_option maxRecDepth 20000 in
theorem ggX6_ofEnd_X0_fineOf : GoodIn wsX6_ofEnd wsX0_fineOf := goodIn_r _ [7, 8, 9, 10, 11, 31, 32, 33, 34, 35, 36, 37, 38, 39, 40, 41, 42, 43, 44, 45, 46, 47] (by decide +kernel) (by decide +kernel)
set_option maxRecDepth 20000 in
theorem gX6_ofEnd_X0_fineOf : GoodIn wsX6_ofEnd (wsV RX6 123 RX0 yX0_fineOf wsX0_fineOf) := goodIn_app (goodIn_of _ (by decide +kernel)) ggX6_ofEnd_X0_fineOf
set_option maxRecDepth 20000 in
theorem ggX6_ofEnd_X0_worthOf : GoodIn wsX6_ofEnd wsX0_worthOf := goodIn_r _ [15, 16, 9, 10, 11, 31, 32, 33, 34, 35, 36, 37, 38, 39, 40, 41, 42, 43, 44, 45, 46, 47] (by decide +kernel) (by decide +kernel)
set_option maxRecDepth 20000 in
theorem gX6_ofEnd_X0_worthOf : GoodIn wsX6_ofEnd (wsV RX6 126 RX0 yX0_worthOf wsX0_worthOf) := goodIn_app (goodIn_of _ (by decide +kernel)) ggX6_ofEnd_X0_worthOf
set_option maxRecDepth 20000 in
theorem ggX6_ofEnd_X4_ofDone : GoodIn wsX6_ofEnd wsX4_ofDone := goodIn_r _ [21, 22, 23] (by decide +kernel) (by decide +kernel)
set_option maxRecDepth 20000 in
theorem gX6_ofEnd_X4_ofDone : GoodIn wsX6_ofEnd (wsV RX6 129 RX4 yX4_ofDone wsX4_ofDone) := goodIn_app (goodIn_of _ (by decide +kernel)) ggX6_ofEnd_X4_ofDone
theorem dX6_ofEnd_0 : decode cX6_ofEnd 0 = .ok (.iload_n 2, 1) := by decide +kernel
theorem dX6_ofEnd_1 : decode cX6_ofEnd 1 = .ok (.aload_n 0, 1) := by decide +kernel
theorem dX6_ofEnd_2 : decode cX6_ofEnd 2 = .ok (.getfield 28, 3) := by decide +kernel
theorem dX6_ofEnd_5 : decode cX6_ofEnd 5 = .ok (.iload_n 1, 1) := by decide +kernel
theorem dX6_ofEnd_6 : decode cX6_ofEnd 6 = .ok (.invokevirtual 123, 3) := by decide +kernel
theorem dX6_ofEnd_9 : decode cX6_ofEnd 9 = .ok (.if_icmp .le 13, 3) := by decide +kernel
theorem dX6_ofEnd_12 : decode cX6_ofEnd 12 = .ok (.aload_n 0, 1) := by decide +kernel
theorem dX6_ofEnd_13 : decode cX6_ofEnd 13 = .ok (.getfield 25, 3) := by decide +kernel
theorem dX6_ofEnd_16 : decode cX6_ofEnd 16 = .ok (.getfield 80, 3) := by decide +kernel
theorem dX6_ofEnd_19 : decode cX6_ofEnd 19 = .ok (.goto 18, 3) := by decide +kernel
theorem dX6_ofEnd_22 : decode cX6_ofEnd 22 = .ok (.aload_n 0, 1) := by decide +kernel
theorem dX6_ofEnd_23 : decode cX6_ofEnd 23 = .ok (.getfield 25, 3) := by decide +kernel
theorem dX6_ofEnd_26 : decode cX6_ofEnd 26 = .ok (.aload_n 0, 1) := by decide +kernel
theorem dX6_ofEnd_27 : decode cX6_ofEnd 27 = .ok (.getfield 28, 3) := by decide +kernel
theorem dX6_ofEnd_30 : decode cX6_ofEnd 30 = .ok (.iload_n 1, 1) := by decide +kernel
theorem dX6_ofEnd_31 : decode cX6_ofEnd 31 = .ok (.invokevirtual 126, 3) := by decide +kernel
theorem dX6_ofEnd_34 : decode cX6_ofEnd 34 = .ok (.invokevirtual 129, 3) := by decide +kernel
theorem dX6_ofEnd_37 : decode cX6_ofEnd 37 = .ok (.lreturn, 1) := by decide +kernel
set_option maxRecDepth 20000 in
theorem ggX6_solve_X6_clear : GoodIn wsX6_solve wsX6_clear := goodIn_r _ [7, 8, 1, 9, 10, 11, 12, 154, 155, 156, 157, 158, 159, 160] (by decide +kernel) (by decide +kernel)
set_option maxRecDepth 20000 in
theorem gX6_solve_X6_clear : GoodIn wsX6_solve (wsV RX6 132 RX6 yX6_clear wsX6_clear) := goodIn_app (goodIn_of _ (by decide +kernel)) ggX6_solve_X6_clear
set_option maxRecDepth 20000 in
theorem ggX6_solve_X6_measure : GoodIn wsX6_solve wsX6_measure := goodIn_r _ [16, 17, 18, 2, 19, 20, 21, 22, 23, 24, 25, 26, 27, 28, 29, 30, 31, 32, 33, 34, 35, 36, 37, 38, 39, 40, 41, 42, 43, 44, 154, 155, 156, 157, 158, 159, 160, 161, 162, 163, 164, 165, 166, 167, 168, 169, 170, 171, 172, 173, 174, 175, 176, 177] (by decide +kernel) (by decide +kernel)
set_option maxRecDepth 20000 in
theorem gX6_solve_X6_measure : GoodIn wsX6_solve (wsV RX6 135 RX6 yX6_measure wsX6_measure) := goodIn_app (goodIn_of _ (by decide +kernel)) ggX6_solve_X6_measure
set_option maxRecDepth 20000 in
theorem ggX6_solve_X0_stepsOf : GoodIn wsX6_solve wsX0_stepsOf := goodIn_r _ [48, 49, 50, 51, 52, 161, 162, 163, 164, 165, 166, 167, 168, 169, 170, 171, 172, 173, 174, 175, 176, 177] (by decide +kernel) (by decide +kernel)
set_option maxRecDepth 20000 in
theorem gX6_solve_X0_stepsOf : GoodIn wsX6_solve (wsV RX6 72 RX0 yX0_stepsOf wsX0_stepsOf) := goodIn_app (goodIn_of _ (by decide +kernel)) ggX6_solve_X0_stepsOf
set_option maxRecDepth 20000 in
theorem ggX6_solve_X6_offerPass : GoodIn wsX6_solve wsX6_offerPass := goodIn_r _ [56, 2, 18, 57, 58, 59, 23, 60, 61, 51, 62, 63, 64, 65, 66, 67, 68, 69, 70, 71, 72, 73, 74, 75, 76, 77, 78, 50, 52, 79, 80, 81, 82, 83, 84, 85, 86, 87, 88, 6, 89, 17, 90, 91, 92, 93, 94, 33, 34, 35, 36, 37, 38, 39, 40, 41, 42, 43, 44, 95, 96, 97, 98, 19, 99, 100, 101, 102, 103, 104, 105, 106, 107, 45, 46, 47, 48, 49, 108, 109, 110, 111, 112, 113, 114, 115, 116, 117, 118, 119, 120, 121, 122, 123, 124, 125, 126, 127, 128, 129, 130, 131, 132, 133, 134, 135, 136, 137, 138, 139, 140, 141, 142, 143, 144, 145, 146, 147, 148, 149, 8, 154, 155, 156, 157, 158, 159, 160, 161, 162, 163, 164, 165, 166, 167, 168, 169, 170, 171, 172, 173, 174, 175, 176, 177] (by decide +kernel) (by decide +kernel)
set_option maxRecDepth 20000 in
theorem gX6_solve_X6_offerPass : GoodIn wsX6_solve (wsV RX6 142 RX6 yX6_offerPass wsX6_offerPass) := goodIn_app (goodIn_of _ (by decide +kernel)) ggX6_solve_X6_offerPass
set_option maxRecDepth 20000 in
theorem ggX6_solve_X6_offerRest : GoodIn wsX6_solve wsX6_offerRest := goodIn_r _ [153, 19, 17, 108, 109, 110, 6, 111, 112, 113, 114, 115, 146, 147, 148, 149, 8, 99, 100, 101, 102, 2, 103, 104, 105, 23, 106, 107, 70, 51, 71, 45, 46, 47, 48, 49, 50, 52, 154, 155, 156, 157, 158, 159, 160, 161, 162, 163, 164, 165, 166, 167, 168, 169, 170, 171, 172, 173, 174, 175, 176, 177] (by decide +kernel) (by decide +kernel)
set_option maxRecDepth 20000 in
theorem gX6_solve_X6_offerRest : GoodIn wsX6_solve (wsV RX6 146 RX6 yX6_offerRest wsX6_offerRest) := goodIn_app (goodIn_of _ (by decide +kernel)) ggX6_solve_X6_offerRest
theorem dX6_solve_0 : decode cX6_solve 0 = .ok (.aload_n 0, 1) := by decide +kernel
theorem dX6_solve_1 : decode cX6_solve 1 = .ok (.getfield 38, 3) := by decide +kernel
theorem dX6_solve_4 : decode cX6_solve 4 = .ok (.ifCond .eq 4, 3) := by decide +kernel
theorem dX6_solve_7 : decode cX6_solve 7 = .ok (.return_, 1) := by decide +kernel
theorem dX6_solve_8 : decode cX6_solve 8 = .ok (.aload_n 0, 1) := by decide +kernel
theorem dX6_solve_9 : decode cX6_solve 9 = .ok (.invokevirtual 132, 3) := by decide +kernel
theorem dX6_solve_12 : decode cX6_solve 12 = .ok (.aload_n 0, 1) := by decide +kernel
theorem dX6_solve_13 : decode cX6_solve 13 = .ok (.aload_n 1, 1) := by decide +kernel
theorem dX6_solve_14 : decode cX6_solve 14 = .ok (.iload_n 2, 1) := by decide +kernel
theorem dX6_solve_15 : decode cX6_solve 15 = .ok (.invokevirtual 135, 3) := by decide +kernel
theorem dX6_solve_18 : decode cX6_solve 18 = .ok (.aload_n 0, 1) := by decide +kernel
theorem dX6_solve_19 : decode cX6_solve 19 = .ok (.getfield 28, 3) := by decide +kernel
theorem dX6_solve_22 : decode cX6_solve 22 = .ok (.getfield 139, 3) := by decide +kernel
theorem dX6_solve_25 : decode cX6_solve 25 = .ok (.iconst 1, 1) := by decide +kernel
theorem dX6_solve_26 : decode cX6_solve 26 = .ok (.isub, 1) := by decide +kernel
theorem dX6_solve_27 : decode cX6_solve 27 = .ok (.istore_n 3, 1) := by decide +kernel
theorem dX6_solve_28 : decode cX6_solve 28 = .ok (.iload_n 3, 1) := by decide +kernel
theorem dX6_solve_29 : decode cX6_solve 29 = .ok (.ifCond .lt 63, 3) := by decide +kernel
theorem dX6_solve_32 : decode cX6_solve 32 = .ok (.iconst 1, 1) := by decide +kernel
theorem dX6_solve_33 : decode cX6_solve 33 = .ok (.istore 4, 2) := by decide +kernel
theorem dX6_solve_35 : decode cX6_solve 35 = .ok (.iload 4, 2) := by decide +kernel
theorem dX6_solve_37 : decode cX6_solve 37 = .ok (.aload_n 0, 1) := by decide +kernel
theorem dX6_solve_38 : decode cX6_solve 38 = .ok (.getfield 28, 3) := by decide +kernel
theorem dX6_solve_41 : decode cX6_solve 41 = .ok (.iload_n 3, 1) := by decide +kernel
theorem dX6_solve_42 : decode cX6_solve 42 = .ok (.invokevirtual 72, 3) := by decide +kernel
theorem dX6_solve_45 : decode cX6_solve 45 = .ok (.if_icmp .gt 41, 3) := by decide +kernel
theorem dX6_solve_48 : decode cX6_solve 48 = .ok (.iconst 0, 1) := by decide +kernel
theorem dX6_solve_49 : decode cX6_solve 49 = .ok (.istore 5, 2) := by decide +kernel
theorem dX6_solve_51 : decode cX6_solve 51 = .ok (.iload 5, 2) := by decide +kernel
theorem dX6_solve_53 : decode cX6_solve 53 = .ok (.bipush 48, 2) := by decide +kernel
theorem dX6_solve_55 : decode cX6_solve 55 = .ok (.if_icmp .ge 18, 3) := by decide +kernel
theorem dX6_solve_58 : decode cX6_solve 58 = .ok (.aload_n 0, 1) := by decide +kernel
theorem dX6_solve_59 : decode cX6_solve 59 = .ok (.iload 5, 2) := by decide +kernel
theorem dX6_solve_61 : decode cX6_solve 61 = .ok (.iload_n 3, 1) := by decide +kernel
theorem dX6_solve_62 : decode cX6_solve 62 = .ok (.iload 4, 2) := by decide +kernel
theorem dX6_solve_64 : decode cX6_solve 64 = .ok (.invokevirtual 142, 3) := by decide +kernel
theorem dX6_solve_67 : decode cX6_solve 67 = .ok (.iinc 5 1, 3) := by decide +kernel
theorem dX6_solve_70 : decode cX6_solve 70 = .ok (.goto (-19), 3) := by decide +kernel
theorem dX6_solve_73 : decode cX6_solve 73 = .ok (.aload_n 0, 1) := by decide +kernel
theorem dX6_solve_74 : decode cX6_solve 74 = .ok (.iload_n 3, 1) := by decide +kernel
theorem dX6_solve_75 : decode cX6_solve 75 = .ok (.iload 4, 2) := by decide +kernel
theorem dX6_solve_77 : decode cX6_solve 77 = .ok (.invokevirtual 146, 3) := by decide +kernel
theorem dX6_solve_80 : decode cX6_solve 80 = .ok (.iinc 4 1, 3) := by decide +kernel
theorem dX6_solve_83 : decode cX6_solve 83 = .ok (.goto (-48), 3) := by decide +kernel
theorem dX6_solve_86 : decode cX6_solve 86 = .ok (.iinc 3 (-1), 3) := by decide +kernel
theorem dX6_solve_89 : decode cX6_solve 89 = .ok (.goto (-61), 3) := by decide +kernel
theorem dX6_solve_92 : decode cX6_solve 92 = .ok (.aload_n 0, 1) := by decide +kernel
theorem dX6_solve_93 : decode cX6_solve 93 = .ok (.iconst 1, 1) := by decide +kernel
theorem dX6_solve_94 : decode cX6_solve 94 = .ok (.putfield 38, 3) := by decide +kernel
theorem dX6_solve_97 : decode cX6_solve 97 = .ok (.return_, 1) := by decide +kernel
set_option maxRecDepth 20000 in
theorem ggX6_offerPass_X0_isPass : GoodIn wsX6_offerPass wsX0_isPass := goodIn_r _ [7, 8, 9, 10, 11, 12, 13, 14, 15, 6, 16, 17, 18, 19, 20, 21, 22, 23, 24, 25, 26, 27, 28, 128, 129, 130, 131, 132, 133, 134, 135, 136, 137, 138, 139, 140, 141, 142, 143, 144] (by decide +kernel) (by decide +kernel)
set_option maxRecDepth 20000 in
theorem gX6_offerPass_X0_isPass : GoodIn wsX6_offerPass (wsV RX6 150 RX0 yX0_isPass wsX0_isPass) := goodIn_app (goodIn_of _ (by decide +kernel)) ggX6_offerPass_X0_isPass
set_option maxRecDepth 20000 in
theorem ggX6_offerPass_X11_depthOf : GoodIn wsX6_offerPass wsX11_depthOf := goodIn_r _ [10] (by decide +kernel) (by decide +kernel)
set_option maxRecDepth 20000 in
theorem gX6_offerPass_X11_depthOf_n87 : GoodIn wsX6_offerPass (wsX11_depthOf) := ggX6_offerPass_X11_depthOf
set_option maxRecDepth 20000 in
theorem ggX6_offerPass_X11_speedOf : GoodIn wsX6_offerPass wsX11_speedOf := goodIn_r _ [12] (by decide +kernel) (by decide +kernel)
set_option maxRecDepth 20000 in
theorem gX6_offerPass_X11_speedOf_n90 : GoodIn wsX6_offerPass (wsX11_speedOf) := ggX6_offerPass_X11_speedOf
set_option maxRecDepth 20000 in
theorem ggX6_offerPass_X0_wears : GoodIn wsX6_offerPass wsX0_wears := goodIn_r _ [32, 33, 34, 35, 27, 9, 28, 128, 129, 130, 131, 132, 133, 134, 135, 136, 137, 138, 139, 140, 141, 142, 143, 144] (by decide +kernel) (by decide +kernel)
set_option maxRecDepth 20000 in
theorem gX6_offerPass_X0_wears : GoodIn wsX6_offerPass (wsV RX6 93 RX0 yX0_wears wsX0_wears) := goodIn_app (goodIn_of _ (by decide +kernel)) ggX6_offerPass_X0_wears
set_option maxRecDepth 20000 in
theorem ggX6_offerPass_X6_ofTime : GoodIn wsX6_offerPass wsX6_ofTime := goodIn_r _ [40, 1, 41, 42, 43, 44, 6, 45, 25, 33, 27, 9, 28, 46, 47, 48, 49, 50, 51, 52, 53, 54, 55, 56, 57, 58, 121, 122, 123, 124, 125, 126, 127, 128, 129, 130, 131, 132, 133, 134, 135, 136, 137, 138, 139, 140, 141, 142, 143, 144] (by decide +kernel) (by decide +kernel)
set_option maxRecDepth 20000 in
theorem gX6_offerPass_X6_ofTime : GoodIn wsX6_offerPass (wsV RX6 105 RX6 yX6_ofTime wsX6_ofTime) := goodIn_app (goodIn_of _ (by decide +kernel)) ggX6_offerPass_X6_ofTime
set_option maxRecDepth 20000 in
theorem ggX6_offerPass_X6_ofBreaking : GoodIn wsX6_offerPass wsX6_ofBreaking := goodIn_r _ [62, 41, 63, 64, 65, 66, 39, 67, 1, 68, 69, 70, 6, 71, 72, 18, 9, 19, 73, 74, 75, 76, 77, 27, 28, 78, 79, 80, 81, 82, 83, 84, 85, 121, 122, 123, 124, 125, 126, 127, 128, 129, 130, 131, 132, 133, 134, 135, 136, 137, 138, 139, 140, 141, 142, 143, 144] (by decide +kernel) (by decide +kernel)
set_option maxRecDepth 20000 in
theorem gX6_offerPass_X6_ofBreaking : GoodIn wsX6_offerPass (wsV RX6 97 RX6 yX6_ofBreaking wsX6_ofBreaking) := goodIn_app (goodIn_of _ (by decide +kernel)) ggX6_offerPass_X6_ofBreaking
set_option maxRecDepth 20000 in
theorem ggX6_offerPass_X6_comes : GoodIn wsX6_offerPass wsX6_comes := goodIn_r _ [89, 1, 90, 91, 92, 93, 6, 94, 95, 27, 9, 28, 78, 79, 80, 39, 81, 82, 83, 84, 85, 96, 97, 98, 99, 41, 100, 101, 102, 103, 104, 105, 106, 107, 108, 109, 110, 111, 112, 55, 113, 114, 115, 64, 65, 66, 67, 68, 69, 70, 71, 72, 18, 19, 73, 74, 75, 76, 77, 121, 122, 123, 124, 125, 126, 127, 128, 129, 130, 131, 132, 133, 134, 135, 136, 137, 138, 139, 140, 141, 142, 143, 144] (by decide +kernel) (by decide +kernel)
set_option maxRecDepth 20000 in
theorem gX6_offerPass_X6_comes : GoodIn wsX6_offerPass (wsV RX6 101 RX6 yX6_comes wsX6_comes) := goodIn_app (goodIn_of _ (by decide +kernel)) ggX6_offerPass_X6_comes
set_option maxRecDepth 20000 in
theorem ggX6_offerPass_X6_offer : GoodIn wsX6_offerPass wsX6_offer := goodIn_r _ [119, 82, 120, 83, 84, 39, 85, 121, 122, 123, 124, 125, 126, 127] (by decide +kernel) (by decide +kernel)
set_option maxRecDepth 20000 in
theorem gX6_offerPass_X6_offer : GoodIn wsX6_offerPass (wsV RX6 154 RX6 yX6_offer wsX6_offer) := goodIn_app (goodIn_of _ (by decide +kernel)) ggX6_offerPass_X6_offer
theorem dX6_offerPass_0 : decode cX6_offerPass 0 = .ok (.aload_n 0, 1) := by decide +kernel
theorem dX6_offerPass_1 : decode cX6_offerPass 1 = .ok (.getfield 28, 3) := by decide +kernel
theorem dX6_offerPass_4 : decode cX6_offerPass 4 = .ok (.iload_n 1, 1) := by decide +kernel
theorem dX6_offerPass_5 : decode cX6_offerPass 5 = .ok (.iload_n 3, 1) := by decide +kernel
theorem dX6_offerPass_6 : decode cX6_offerPass 6 = .ok (.invokevirtual 150, 3) := by decide +kernel
theorem dX6_offerPass_9 : decode cX6_offerPass 9 = .ok (.ifCond .ne 4, 3) := by decide +kernel
theorem dX6_offerPass_12 : decode cX6_offerPass 12 = .ok (.return_, 1) := by decide +kernel
theorem dX6_offerPass_13 : decode cX6_offerPass 13 = .ok (.iload_n 3, 1) := by decide +kernel
theorem dX6_offerPass_14 : decode cX6_offerPass 14 = .ok (.iload_n 1, 1) := by decide +kernel
theorem dX6_offerPass_15 : decode cX6_offerPass 15 = .ok (.invokestatic 87, 3) := by decide +kernel
theorem dX6_offerPass_18 : decode cX6_offerPass 18 = .ok (.isub, 1) := by decide +kernel
theorem dX6_offerPass_19 : decode cX6_offerPass 19 = .ok (.istore 4, 2) := by decide +kernel
theorem dX6_offerPass_21 : decode cX6_offerPass 21 = .ok (.aload_n 0, 1) := by decide +kernel
theorem dX6_offerPass_22 : decode cX6_offerPass 22 = .ok (.getfield 28, 3) := by decide +kernel
theorem dX6_offerPass_25 : decode cX6_offerPass 25 = .ok (.iload_n 2, 1) := by decide +kernel
theorem dX6_offerPass_26 : decode cX6_offerPass 26 = .ok (.iload_n 1, 1) := by decide +kernel
theorem dX6_offerPass_27 : decode cX6_offerPass 27 = .ok (.invokestatic 90, 3) := by decide +kernel
theorem dX6_offerPass_30 : decode cX6_offerPass 30 = .ok (.iload_n 1, 1) := by decide +kernel
theorem dX6_offerPass_31 : decode cX6_offerPass 31 = .ok (.invokestatic 87, 3) := by decide +kernel
theorem dX6_offerPass_34 : decode cX6_offerPass 34 = .ok (.aload_n 0, 1) := by decide +kernel
theorem dX6_offerPass_35 : decode cX6_offerPass 35 = .ok (.getfield 42, 3) := by decide +kernel
theorem dX6_offerPass_38 : decode cX6_offerPass 38 = .ok (.invokevirtual 93, 3) := by decide +kernel
theorem dX6_offerPass_41 : decode cX6_offerPass 41 = .ok (.istore 5, 2) := by decide +kernel
theorem dX6_offerPass_43 : decode cX6_offerPass 43 = .ok (.aload_n 0, 1) := by decide +kernel
theorem dX6_offerPass_44 : decode cX6_offerPass 44 = .ok (.iload_n 2, 1) := by decide +kernel
theorem dX6_offerPass_45 : decode cX6_offerPass 45 = .ok (.iload_n 1, 1) := by decide +kernel
theorem dX6_offerPass_46 : decode cX6_offerPass 46 = .ok (.invokestatic 90, 3) := by decide +kernel
theorem dX6_offerPass_49 : decode cX6_offerPass 49 = .ok (.invokevirtual 105, 3) := by decide +kernel
theorem dX6_offerPass_52 : decode cX6_offerPass 52 = .ok (.lstore 6, 2) := by decide +kernel
theorem dX6_offerPass_54 : decode cX6_offerPass 54 = .ok (.aload_n 0, 1) := by decide +kernel
theorem dX6_offerPass_55 : decode cX6_offerPass 55 = .ok (.iload_n 2, 1) := by decide +kernel
theorem dX6_offerPass_56 : decode cX6_offerPass 56 = .ok (.invokevirtual 97, 3) := by decide +kernel
theorem dX6_offerPass_59 : decode cX6_offerPass 59 = .ok (.lstore 8, 2) := by decide +kernel
theorem dX6_offerPass_61 : decode cX6_offerPass 61 = .ok (.iconst 0, 1) := by decide +kernel
theorem dX6_offerPass_62 : decode cX6_offerPass 62 = .ok (.istore 10, 2) := by decide +kernel
theorem dX6_offerPass_64 : decode cX6_offerPass 64 = .ok (.iload 10, 2) := by decide +kernel
theorem dX6_offerPass_66 : decode cX6_offerPass 66 = .ok (.bipush 100, 2) := by decide +kernel
theorem dX6_offerPass_68 : decode cX6_offerPass 68 = .ok (.if_icmp .gt 34, 3) := by decide +kernel
theorem dX6_offerPass_71 : decode cX6_offerPass 71 = .ok (.aload_n 0, 1) := by decide +kernel
theorem dX6_offerPass_72 : decode cX6_offerPass 72 = .ok (.iload_n 1, 1) := by decide +kernel
theorem dX6_offerPass_73 : decode cX6_offerPass 73 = .ok (.iload_n 2, 1) := by decide +kernel
theorem dX6_offerPass_74 : decode cX6_offerPass 74 = .ok (.iload_n 3, 1) := by decide +kernel
theorem dX6_offerPass_75 : decode cX6_offerPass 75 = .ok (.iload 10, 2) := by decide +kernel
theorem dX6_offerPass_77 : decode cX6_offerPass 77 = .ok (.aload_n 0, 1) := by decide +kernel
theorem dX6_offerPass_78 : decode cX6_offerPass 78 = .ok (.iload_n 2, 1) := by decide +kernel
theorem dX6_offerPass_79 : decode cX6_offerPass 79 = .ok (.iload 4, 2) := by decide +kernel
theorem dX6_offerPass_81 : decode cX6_offerPass 81 = .ok (.iload 10, 2) := by decide +kernel
theorem dX6_offerPass_83 : decode cX6_offerPass 83 = .ok (.iload 5, 2) := by decide +kernel
theorem dX6_offerPass_85 : decode cX6_offerPass 85 = .ok (.lload 8, 2) := by decide +kernel
theorem dX6_offerPass_87 : decode cX6_offerPass 87 = .ok (.invokevirtual 101, 3) := by decide +kernel
theorem dX6_offerPass_90 : decode cX6_offerPass 90 = .ok (.lload 6, 2) := by decide +kernel
theorem dX6_offerPass_92 : decode cX6_offerPass 92 = .ok (.ladd, 1) := by decide +kernel
theorem dX6_offerPass_93 : decode cX6_offerPass 93 = .ok (.invokevirtual 154, 3) := by decide +kernel
theorem dX6_offerPass_96 : decode cX6_offerPass 96 = .ok (.iinc 10 1, 3) := by decide +kernel
theorem dX6_offerPass_99 : decode cX6_offerPass 99 = .ok (.goto (-35), 3) := by decide +kernel
theorem dX6_offerPass_102 : decode cX6_offerPass 102 = .ok (.return_, 1) := by decide +kernel
set_option maxRecDepth 20000 in
theorem ggX6_offerRest_X6_gainAt : GoodIn wsX6_offerRest wsX6_gainAt := goodIn_r _ [7, 8, 9, 10, 6, 11, 38, 39, 40, 41, 42, 43, 44] (by decide +kernel) (by decide +kernel)
set_option maxRecDepth 20000 in
theorem gX6_offerRest_X6_gainAt : GoodIn wsX6_offerRest (wsV RX6 76 RX6 yX6_gainAt wsX6_gainAt) := goodIn_app (goodIn_of _ (by decide +kernel)) ggX6_offerRest_X6_gainAt
set_option maxRecDepth 20000 in
theorem ggX6_offerRest_X6_offer : GoodIn wsX6_offerRest wsX6_offer := goodIn_r _ [15, 8, 16, 9, 10, 6, 11, 38, 39, 40, 41, 42, 43, 44] (by decide +kernel) (by decide +kernel)
set_option maxRecDepth 20000 in
theorem gX6_offerRest_X6_offer : GoodIn wsX6_offerRest (wsV RX6 154 RX6 yX6_offer wsX6_offer) := goodIn_app (goodIn_of _ (by decide +kernel)) ggX6_offerRest_X6_offer
set_option maxRecDepth 20000 in
theorem ggX6_offerRest_X6_gainAtStart : GoodIn wsX6_offerRest wsX6_gainAtStart := goodIn_r _ [20, 21, 22, 23, 24, 25, 26, 27, 28, 29, 30, 31, 32, 33, 34, 35, 36, 37, 3, 4, 5, 6, 7, 8, 9, 10, 11, 38, 39, 40, 41, 42, 43, 44, 45, 46, 47, 48, 49, 50, 51, 52, 53, 54, 55, 56, 57, 58, 59, 60, 61] (by decide +kernel) (by decide +kernel)
set_option maxRecDepth 20000 in
theorem gX6_offerRest_X6_gainAtStart : GoodIn wsX6_offerRest (wsV RX6 83 RX6 yX6_gainAtStart wsX6_gainAtStart) := goodIn_app (goodIn_of _ (by decide +kernel)) ggX6_offerRest_X6_gainAtStart
theorem dX6_offerRest_0 : decode cX6_offerRest 0 = .ok (.iconst 0, 1) := by decide +kernel
theorem dX6_offerRest_1 : decode cX6_offerRest 1 = .ok (.istore_n 3, 1) := by decide +kernel
theorem dX6_offerRest_2 : decode cX6_offerRest 2 = .ok (.iload_n 3, 1) := by decide +kernel
theorem dX6_offerRest_3 : decode cX6_offerRest 3 = .ok (.bipush 100, 2) := by decide +kernel
theorem dX6_offerRest_5 : decode cX6_offerRest 5 = .ok (.if_icmp .gt 59, 3) := by decide +kernel
theorem dX6_offerRest_8 : decode cX6_offerRest 8 = .ok (.iload_n 3, 1) := by decide +kernel
theorem dX6_offerRest_9 : decode cX6_offerRest 9 = .ok (.ifCond .le 24, 3) := by decide +kernel
theorem dX6_offerRest_12 : decode cX6_offerRest 12 = .ok (.aload_n 0, 1) := by decide +kernel
theorem dX6_offerRest_13 : decode cX6_offerRest 13 = .ok (.bipush 48, 2) := by decide +kernel
theorem dX6_offerRest_15 : decode cX6_offerRest 15 = .ok (.iload_n 1, 1) := by decide +kernel
theorem dX6_offerRest_16 : decode cX6_offerRest 16 = .ok (.iload_n 2, 1) := by decide +kernel
theorem dX6_offerRest_17 : decode cX6_offerRest 17 = .ok (.iload_n 3, 1) := by decide +kernel
theorem dX6_offerRest_18 : decode cX6_offerRest 18 = .ok (.aload_n 0, 1) := by decide +kernel
theorem dX6_offerRest_19 : decode cX6_offerRest 19 = .ok (.iload_n 1, 1) := by decide +kernel
theorem dX6_offerRest_20 : decode cX6_offerRest 20 = .ok (.iload_n 2, 1) := by decide +kernel
theorem dX6_offerRest_21 : decode cX6_offerRest 21 = .ok (.iconst 0, 1) := by decide +kernel
theorem dX6_offerRest_22 : decode cX6_offerRest 22 = .ok (.invokevirtual 76, 3) := by decide +kernel
theorem dX6_offerRest_25 : decode cX6_offerRest 25 = .ok (.aload_n 0, 1) := by decide +kernel
theorem dX6_offerRest_26 : decode cX6_offerRest 26 = .ok (.getfield 60, 3) := by decide +kernel
theorem dX6_offerRest_29 : decode cX6_offerRest 29 = .ok (.ladd, 1) := by decide +kernel
theorem dX6_offerRest_30 : decode cX6_offerRest 30 = .ok (.invokevirtual 154, 3) := by decide +kernel
theorem dX6_offerRest_33 : decode cX6_offerRest 33 = .ok (.aload_n 0, 1) := by decide +kernel
theorem dX6_offerRest_34 : decode cX6_offerRest 34 = .ok (.bipush 49, 2) := by decide +kernel
theorem dX6_offerRest_36 : decode cX6_offerRest 36 = .ok (.iload_n 1, 1) := by decide +kernel
theorem dX6_offerRest_37 : decode cX6_offerRest 37 = .ok (.iload_n 2, 1) := by decide +kernel
theorem dX6_offerRest_38 : decode cX6_offerRest 38 = .ok (.iload_n 3, 1) := by decide +kernel
theorem dX6_offerRest_39 : decode cX6_offerRest 39 = .ok (.aload_n 0, 1) := by decide +kernel
theorem dX6_offerRest_40 : decode cX6_offerRest 40 = .ok (.getfield 25, 3) := by decide +kernel
theorem dX6_offerRest_43 : decode cX6_offerRest 43 = .ok (.getfield 80, 3) := by decide +kernel
theorem dX6_offerRest_46 : decode cX6_offerRest 46 = .ok (.aload_n 0, 1) := by decide +kernel
theorem dX6_offerRest_47 : decode cX6_offerRest 47 = .ok (.iload_n 1, 1) := by decide +kernel
theorem dX6_offerRest_48 : decode cX6_offerRest 48 = .ok (.iconst 1, 1) := by decide +kernel
theorem dX6_offerRest_49 : decode cX6_offerRest 49 = .ok (.iadd, 1) := by decide +kernel
theorem dX6_offerRest_50 : decode cX6_offerRest 50 = .ok (.iload_n 3, 1) := by decide +kernel
theorem dX6_offerRest_51 : decode cX6_offerRest 51 = .ok (.invokevirtual 83, 3) := by decide +kernel
theorem dX6_offerRest_54 : decode cX6_offerRest 54 = .ok (.ladd, 1) := by decide +kernel
theorem dX6_offerRest_55 : decode cX6_offerRest 55 = .ok (.invokevirtual 154, 3) := by decide +kernel
theorem dX6_offerRest_58 : decode cX6_offerRest 58 = .ok (.iinc 3 1, 3) := by decide +kernel
theorem dX6_offerRest_61 : decode cX6_offerRest 61 = .ok (.goto (-59), 3) := by decide +kernel
theorem dX6_offerRest_64 : decode cX6_offerRest 64 = .ok (.return_, 1) := by decide +kernel
set_option maxRecDepth 20000 in
theorem ggX6_offer_X6_placeOf : GoodIn wsX6_offer wsX6_placeOf := goodIn_r _ [6] (by decide +kernel) (by decide +kernel)
set_option maxRecDepth 20000 in
theorem gX6_offer_X6_placeOf : GoodIn wsX6_offer (va_wsS RX6 64 yX6_placeOf wsX6_placeOf) := goodIn_app (goodIn_of _ (by decide +kernel)) ggX6_offer_X6_placeOf
theorem dX6_offer_0 : decode cX6_offer 0 = .ok (.iload_n 2, 1) := by decide +kernel
theorem dX6_offer_1 : decode cX6_offer 1 = .ok (.iload_n 3, 1) := by decide +kernel
theorem dX6_offer_2 : decode cX6_offer 2 = .ok (.iload 4, 2) := by decide +kernel
theorem dX6_offer_4 : decode cX6_offer 4 = .ok (.invokestatic 64, 3) := by decide +kernel
theorem dX6_offer_7 : decode cX6_offer 7 = .ok (.istore 7, 2) := by decide +kernel
theorem dX6_offer_9 : decode cX6_offer 9 = .ok (.iload 7, 2) := by decide +kernel
theorem dX6_offer_11 : decode cX6_offer 11 = .ok (.ifCond .lt 23, 3) := by decide +kernel
theorem dX6_offer_14 : decode cX6_offer 14 = .ok (.iload 7, 2) := by decide +kernel
theorem dX6_offer_16 : decode cX6_offer 16 = .ok (.aload_n 0, 1) := by decide +kernel
theorem dX6_offer_17 : decode cX6_offer 17 = .ok (.getfield 9, 3) := by decide +kernel
theorem dX6_offer_20 : decode cX6_offer 20 = .ok (.arraylength, 1) := by decide +kernel
theorem dX6_offer_21 : decode cX6_offer 21 = .ok (.if_icmp .ge 13, 3) := by decide +kernel
theorem dX6_offer_24 : decode cX6_offer 24 = .ok (.iload 7, 2) := by decide +kernel
theorem dX6_offer_26 : decode cX6_offer 26 = .ok (.aload_n 0, 1) := by decide +kernel
theorem dX6_offer_27 : decode cX6_offer 27 = .ok (.getfield 15, 3) := by decide +kernel
theorem dX6_offer_30 : decode cX6_offer 30 = .ok (.arraylength, 1) := by decide +kernel
theorem dX6_offer_31 : decode cX6_offer 31 = .ok (.if_icmp .lt 4, 3) := by decide +kernel
theorem dX6_offer_34 : decode cX6_offer 34 = .ok (.return_, 1) := by decide +kernel
theorem dX6_offer_35 : decode cX6_offer 35 = .ok (.aload_n 0, 1) := by decide +kernel
theorem dX6_offer_36 : decode cX6_offer 36 = .ok (.getfield 15, 3) := by decide +kernel
theorem dX6_offer_39 : decode cX6_offer 39 = .ok (.iload 7, 2) := by decide +kernel
theorem dX6_offer_41 : decode cX6_offer 41 = .ok (.baload, 1) := by decide +kernel
theorem dX6_offer_42 : decode cX6_offer 42 = .ok (.iconst (-1), 1) := by decide +kernel
theorem dX6_offer_43 : decode cX6_offer 43 = .ok (.if_icmp .eq 16, 3) := by decide +kernel
theorem dX6_offer_46 : decode cX6_offer 46 = .ok (.lload 5, 2) := by decide +kernel
theorem dX6_offer_48 : decode cX6_offer 48 = .ok (.aload_n 0, 1) := by decide +kernel
theorem dX6_offer_49 : decode cX6_offer 49 = .ok (.getfield 9, 3) := by decide +kernel
theorem dX6_offer_52 : decode cX6_offer 52 = .ok (.iload 7, 2) := by decide +kernel
theorem dX6_offer_54 : decode cX6_offer 54 = .ok (.laload, 1) := by decide +kernel
theorem dX6_offer_55 : decode cX6_offer 55 = .ok (.lcmp, 1) := by decide +kernel
theorem dX6_offer_56 : decode cX6_offer 56 = .ok (.ifCond .le 21, 3) := by decide +kernel
theorem dX6_offer_59 : decode cX6_offer 59 = .ok (.aload_n 0, 1) := by decide +kernel
theorem dX6_offer_60 : decode cX6_offer 60 = .ok (.getfield 15, 3) := by decide +kernel
theorem dX6_offer_63 : decode cX6_offer 63 = .ok (.iload 7, 2) := by decide +kernel
theorem dX6_offer_65 : decode cX6_offer 65 = .ok (.iload_n 1, 1) := by decide +kernel
theorem dX6_offer_66 : decode cX6_offer 66 = .ok (.i2b, 1) := by decide +kernel
theorem dX6_offer_67 : decode cX6_offer 67 = .ok (.bastore, 1) := by decide +kernel
theorem dX6_offer_68 : decode cX6_offer 68 = .ok (.aload_n 0, 1) := by decide +kernel
theorem dX6_offer_69 : decode cX6_offer 69 = .ok (.getfield 9, 3) := by decide +kernel
theorem dX6_offer_72 : decode cX6_offer 72 = .ok (.iload 7, 2) := by decide +kernel
theorem dX6_offer_74 : decode cX6_offer 74 = .ok (.lload 5, 2) := by decide +kernel
theorem dX6_offer_76 : decode cX6_offer 76 = .ok (.lastore, 1) := by decide +kernel
theorem dX6_offer_77 : decode cX6_offer 77 = .ok (.return_, 1) := by decide +kernel
theorem dX7_init_0 : decode cX7_init 0 = .ok (.aload_n 0, 1) := by decide +kernel
theorem dX7_init_1 : decode cX7_init 1 = .ok (.invokespecial 3, 3) := by decide +kernel
theorem dX7_init_4 : decode cX7_init 4 = .ok (.aload_n 0, 1) := by decide +kernel
theorem dX7_init_5 : decode cX7_init 5 = .ok (.aload_n 1, 1) := by decide +kernel
theorem dX7_init_6 : decode cX7_init 6 = .ok (.putfield 9, 3) := by decide +kernel
theorem dX7_init_9 : decode cX7_init 9 = .ok (.return_, 1) := by decide +kernel
set_option maxRecDepth 20000 in
theorem ggX7_mayBe_X0_stepsOf : GoodIn wsX7_mayBe wsX0_stepsOf := goodIn_r _ [6, 7, 8, 9, 10, 19, 20, 21, 22, 23, 24, 25, 26, 27, 28, 29, 30, 31, 32, 33, 34, 35] (by decide +kernel) (by decide +kernel)
set_option maxRecDepth 20000 in
theorem gX7_mayBe_X0_stepsOf : GoodIn wsX7_mayBe (wsV RX7 15 RX0 yX0_stepsOf wsX0_stepsOf) := goodIn_app (goodIn_of _ (by decide +kernel)) ggX7_mayBe_X0_stepsOf
set_option maxRecDepth 20000 in
theorem ggX7_mayBe_X0_mayCut : GoodIn wsX7_mayBe wsX0_mayCut := goodIn_r _ [14, 15, 16, 17, 8, 9, 10, 19, 20, 21, 22, 23, 24, 25, 26, 27, 28, 29, 30, 31, 32, 33, 34, 35] (by decide +kernel) (by decide +kernel)
set_option maxRecDepth 20000 in
theorem gX7_mayBe_X0_mayCut : GoodIn wsX7_mayBe (wsV RX7 21 RX0 yX0_mayCut wsX0_mayCut) := goodIn_app (goodIn_of _ (by decide +kernel)) ggX7_mayBe_X0_mayCut
theorem dX7_mayBe_0 : decode cX7_mayBe 0 = .ok (.aload_n 0, 1) := by decide +kernel
theorem dX7_mayBe_1 : decode cX7_mayBe 1 = .ok (.getfield 9, 3) := by decide +kernel
theorem dX7_mayBe_4 : decode cX7_mayBe 4 = .ok (.iload_n 2, 1) := by decide +kernel
theorem dX7_mayBe_5 : decode cX7_mayBe 5 = .ok (.aload_n 0, 1) := by decide +kernel
theorem dX7_mayBe_6 : decode cX7_mayBe 6 = .ok (.getfield 9, 3) := by decide +kernel
theorem dX7_mayBe_9 : decode cX7_mayBe 9 = .ok (.iload_n 1, 1) := by decide +kernel
theorem dX7_mayBe_10 : decode cX7_mayBe 10 = .ok (.invokevirtual 15, 3) := by decide +kernel
theorem dX7_mayBe_13 : decode cX7_mayBe 13 = .ok (.invokevirtual 21, 3) := by decide +kernel
theorem dX7_mayBe_16 : decode cX7_mayBe 16 = .ok (.ireturn, 1) := by decide +kernel
set_option maxRecDepth 20000 in
theorem ggX7_wearsOf_X0_stepsOf : GoodIn wsX7_wearsOf wsX0_stepsOf := goodIn_r _ [6, 7, 8, 9, 10, 19, 20, 21, 22, 23, 24, 25, 26, 27, 28, 29, 30, 31, 32, 33, 34, 35] (by decide +kernel) (by decide +kernel)
set_option maxRecDepth 20000 in
theorem gX7_wearsOf_X0_stepsOf : GoodIn wsX7_wearsOf (wsV RX7 15 RX0 yX0_stepsOf wsX0_stepsOf) := goodIn_app (goodIn_of _ (by decide +kernel)) ggX7_wearsOf_X0_stepsOf
set_option maxRecDepth 20000 in
theorem ggX7_wearsOf_X0_wears : GoodIn wsX7_wearsOf wsX0_wears := goodIn_r _ [14, 15, 16, 17, 8, 9, 10, 19, 20, 21, 22, 23, 24, 25, 26, 27, 28, 29, 30, 31, 32, 33, 34, 35] (by decide +kernel) (by decide +kernel)
set_option maxRecDepth 20000 in
theorem gX7_wearsOf_X0_wears : GoodIn wsX7_wearsOf (wsV RX7 25 RX0 yX0_wears wsX0_wears) := goodIn_app (goodIn_of _ (by decide +kernel)) ggX7_wearsOf_X0_wears
theorem dX7_wearsOf_0 : decode cX7_wearsOf 0 = .ok (.aload_n 0, 1) := by decide +kernel
theorem dX7_wearsOf_1 : decode cX7_wearsOf 1 = .ok (.getfield 9, 3) := by decide +kernel
theorem dX7_wearsOf_4 : decode cX7_wearsOf 4 = .ok (.iload_n 1, 1) := by decide +kernel
theorem dX7_wearsOf_5 : decode cX7_wearsOf 5 = .ok (.iload_n 2, 1) := by decide +kernel
theorem dX7_wearsOf_6 : decode cX7_wearsOf 6 = .ok (.aload_n 0, 1) := by decide +kernel
theorem dX7_wearsOf_7 : decode cX7_wearsOf 7 = .ok (.getfield 9, 3) := by decide +kernel
theorem dX7_wearsOf_10 : decode cX7_wearsOf 10 = .ok (.iload_n 1, 1) := by decide +kernel
theorem dX7_wearsOf_11 : decode cX7_wearsOf 11 = .ok (.invokevirtual 15, 3) := by decide +kernel
theorem dX7_wearsOf_14 : decode cX7_wearsOf 14 = .ok (.iconst 0, 1) := by decide +kernel
theorem dX7_wearsOf_15 : decode cX7_wearsOf 15 = .ok (.invokevirtual 25, 3) := by decide +kernel
theorem dX7_wearsOf_18 : decode cX7_wearsOf 18 = .ok (.ireturn, 1) := by decide +kernel
set_option maxRecDepth 20000 in
theorem ggX7_timeOf_X0_minutes : GoodIn wsX7_timeOf wsX0_minutes := goodIn_r _ [6, 7, 8, 9, 10, 11, 29, 30, 31, 32, 33, 34, 35, 36, 37, 38, 39, 40, 41, 42, 43, 44, 45] (by decide +kernel) (by decide +kernel)
set_option maxRecDepth 20000 in
theorem gX7_timeOf_X0_minutes : GoodIn wsX7_timeOf (wsV RX7 29 RX0 yX0_minutes wsX0_minutes) := goodIn_app (goodIn_of _ (by decide +kernel)) ggX7_timeOf_X0_minutes
set_option maxRecDepth 20000 in
theorem ggX7_timeOf_X7_wearsOf : GoodIn wsX7_timeOf wsX7_wearsOf := goodIn_r _ [16, 1, 17, 18, 19, 5, 20, 21, 9, 10, 11, 22, 23, 24, 25, 8, 26, 27, 28, 29, 30, 31, 32, 33, 34, 35, 36, 37, 38, 39, 40, 41, 42, 43, 44, 45] (by decide +kernel) (by decide +kernel)
set_option maxRecDepth 20000 in
theorem gX7_timeOf_X7_wearsOf : GoodIn wsX7_timeOf (wsV RX7 33 RX7 yX7_wearsOf wsX7_wearsOf) := goodIn_app (goodIn_of _ (by decide +kernel)) ggX7_timeOf_X7_wearsOf
theorem dX7_timeOf_0 : decode cX7_timeOf 0 = .ok (.aload_n 0, 1) := by decide +kernel
theorem dX7_timeOf_1 : decode cX7_timeOf 1 = .ok (.getfield 9, 3) := by decide +kernel
theorem dX7_timeOf_4 : decode cX7_timeOf 4 = .ok (.iload_n 1, 1) := by decide +kernel
theorem dX7_timeOf_5 : decode cX7_timeOf 5 = .ok (.iload_n 2, 1) := by decide +kernel
theorem dX7_timeOf_6 : decode cX7_timeOf 6 = .ok (.invokevirtual 29, 3) := by decide +kernel
theorem dX7_timeOf_9 : decode cX7_timeOf 9 = .ok (.aload_n 0, 1) := by decide +kernel
theorem dX7_timeOf_10 : decode cX7_timeOf 10 = .ok (.iload_n 1, 1) := by decide +kernel
theorem dX7_timeOf_11 : decode cX7_timeOf 11 = .ok (.iload_n 2, 1) := by decide +kernel
theorem dX7_timeOf_12 : decode cX7_timeOf 12 = .ok (.invokevirtual 33, 3) := by decide +kernel
theorem dX7_timeOf_15 : decode cX7_timeOf 15 = .ok (.aload_n 0, 1) := by decide +kernel
theorem dX7_timeOf_16 : decode cX7_timeOf 16 = .ok (.getfield 9, 3) := by decide +kernel
theorem dX7_timeOf_19 : decode cX7_timeOf 19 = .ok (.getfield 36, 3) := by decide +kernel
theorem dX7_timeOf_22 : decode cX7_timeOf 22 = .ok (.imul, 1) := by decide +kernel
theorem dX7_timeOf_23 : decode cX7_timeOf 23 = .ok (.iadd, 1) := by decide +kernel
theorem dX7_timeOf_24 : decode cX7_timeOf 24 = .ok (.ireturn, 1) := by decide +kernel
theorem dX7_perHour_0 : decode cX7_perHour 0 = .ok (.iload_n 2, 1) := by decide +kernel
theorem dX7_perHour_1 : decode cX7_perHour 1 = .ok (.iconst 1, 1) := by decide +kernel
theorem dX7_perHour_2 : decode cX7_perHour 2 = .ok (.if_icmp .ge 7, 3) := by decide +kernel
theorem dX7_perHour_5 : decode cX7_perHour 5 = .ok (.lconst 0, 1) := by decide +kernel
theorem dX7_perHour_6 : decode cX7_perHour 6 = .ok (.goto 11, 3) := by decide +kernel
theorem dX7_perHour_9 : decode cX7_perHour 9 = .ok (.lload_n 0, 1) := by decide +kernel
theorem dX7_perHour_10 : decode cX7_perHour 10 = .ok (.ldc2_w 40, 3) := by decide +kernel
theorem dX7_perHour_13 : decode cX7_perHour 13 = .ok (.lmul, 1) := by decide +kernel
theorem dX7_perHour_14 : decode cX7_perHour 14 = .ok (.iload_n 2, 1) := by decide +kernel
theorem dX7_perHour_15 : decode cX7_perHour 15 = .ok (.i2l, 1) := by decide +kernel
theorem dX7_perHour_16 : decode cX7_perHour 16 = .ok (.ldiv, 1) := by decide +kernel
theorem dX7_perHour_17 : decode cX7_perHour 17 = .ok (.lreturn, 1) := by decide +kernel
set_option maxRecDepth 20000 in
theorem ggX7_earned_X7_wearsOf : GoodIn wsX7_earned wsX7_wearsOf := goodIn_r _ [12, 2, 13, 14, 15, 16, 17, 18, 19, 20, 21, 22, 23, 24, 25, 26, 27, 28, 46, 47, 48, 49, 50, 51, 52, 53, 54, 55, 56, 57, 58, 59, 60, 61, 62, 63] (by decide +kernel) (by decide +kernel)
set_option maxRecDepth 20000 in
theorem gX7_earned_X7_wearsOf : GoodIn wsX7_earned (wsV RX7 33 RX7 yX7_wearsOf wsX7_wearsOf) := goodIn_app (goodIn_of _ (by decide +kernel)) ggX7_earned_X7_wearsOf
set_option maxRecDepth 20000 in
theorem ggX7_earned_X0_worthOf : GoodIn wsX7_earned wsX0_worthOf := goodIn_r _ [32, 33, 19, 20, 21, 47, 48, 49, 50, 51, 52, 53, 54, 55, 56, 57, 58, 59, 60, 61, 62, 63] (by decide +kernel) (by decide +kernel)
set_option maxRecDepth 20000 in
theorem gX7_earned_X0_worthOf : GoodIn wsX7_earned (wsV RX7 47 RX0 yX0_worthOf wsX0_worthOf) := goodIn_app (goodIn_of _ (by decide +kernel)) ggX7_earned_X0_worthOf
set_option maxRecDepth 20000 in
theorem ggX7_earned_X7_timeOf : GoodIn wsX7_earned wsX7_timeOf := goodIn_r _ [37, 2, 38, 39, 40, 16, 41, 42, 26, 19, 20, 21, 8, 9, 10, 11, 12, 13, 14, 15, 17, 18, 22, 23, 24, 25, 27, 28, 46, 47, 48, 49, 50, 51, 52, 53, 54, 55, 56, 57, 58, 59, 60, 61, 62, 63] (by decide +kernel) (by decide +kernel)
set_option maxRecDepth 20000 in
theorem gX7_earned_X7_timeOf : GoodIn wsX7_earned (wsV RX7 50 RX7 yX7_timeOf wsX7_timeOf) := goodIn_app (goodIn_of _ (by decide +kernel)) ggX7_earned_X7_timeOf
set_option maxRecDepth 20000 in
theorem ggX7_earned_X7_perHour : GoodIn wsX7_earned wsX7_perHour := goodIn_r _ [45, 3] (by decide +kernel) (by decide +kernel)
set_option maxRecDepth 20000 in
theorem gX7_earned_X7_perHour : GoodIn wsX7_earned (va_wsS RX7 58 yX7_perHour wsX7_perHour) := goodIn_app (goodIn_of _ (by decide +kernel)) ggX7_earned_X7_perHour
theorem dX7_earned_0 : decode cX7_earned 0 = .ok (.ldc2_w 42, 3) := by decide +kernel
theorem dX7_earned_3 : decode cX7_earned 3 = .ok (.aload_n 0, 1) := by decide +kernel
theorem dX7_earned_4 : decode cX7_earned 4 = .ok (.iload_n 1, 1) := by decide +kernel
theorem dX7_earned_5 : decode cX7_earned 5 = .ok (.iload_n 2, 1) := by decide +kernel
theorem dX7_earned_6 : decode cX7_earned 6 = .ok (.invokevirtual 33, 3) := by decide +kernel
theorem dX7_earned_9 : decode cX7_earned 9 = .ok (.i2l, 1) := by decide +kernel
theorem dX7_earned_10 : decode cX7_earned 10 = .ok (.lmul, 1) := by decide +kernel
theorem dX7_earned_11 : decode cX7_earned 11 = .ok (.aload_n 0, 1) := by decide +kernel
theorem dX7_earned_12 : decode cX7_earned 12 = .ok (.getfield 9, 3) := by decide +kernel
theorem dX7_earned_15 : decode cX7_earned 15 = .ok (.getfield 44, 3) := by decide +kernel
theorem dX7_earned_18 : decode cX7_earned 18 = .ok (.i2l, 1) := by decide +kernel
theorem dX7_earned_19 : decode cX7_earned 19 = .ok (.lmul, 1) := by decide +kernel
theorem dX7_earned_20 : decode cX7_earned 20 = .ok (.lstore 4, 2) := by decide +kernel
theorem dX7_earned_22 : decode cX7_earned 22 = .ok (.ldc2_w 40, 3) := by decide +kernel
theorem dX7_earned_25 : decode cX7_earned 25 = .ok (.aload_n 0, 1) := by decide +kernel
theorem dX7_earned_26 : decode cX7_earned 26 = .ok (.getfield 9, 3) := by decide +kernel
theorem dX7_earned_29 : decode cX7_earned 29 = .ok (.iload_n 1, 1) := by decide +kernel
theorem dX7_earned_30 : decode cX7_earned 30 = .ok (.invokevirtual 47, 3) := by decide +kernel
theorem dX7_earned_33 : decode cX7_earned 33 = .ok (.i2l, 1) := by decide +kernel
theorem dX7_earned_34 : decode cX7_earned 34 = .ok (.lmul, 1) := by decide +kernel
theorem dX7_earned_35 : decode cX7_earned 35 = .ok (.lload 4, 2) := by decide +kernel
theorem dX7_earned_37 : decode cX7_earned 37 = .ok (.lsub, 1) := by decide +kernel
theorem dX7_earned_38 : decode cX7_earned 38 = .ok (.lstore 6, 2) := by decide +kernel
theorem dX7_earned_40 : decode cX7_earned 40 = .ok (.lload 6, 2) := by decide +kernel
theorem dX7_earned_42 : decode cX7_earned 42 = .ok (.aload_n 0, 1) := by decide +kernel
theorem dX7_earned_43 : decode cX7_earned 43 = .ok (.iload_n 1, 1) := by decide +kernel
theorem dX7_earned_44 : decode cX7_earned 44 = .ok (.iload_n 2, 1) := by decide +kernel
theorem dX7_earned_45 : decode cX7_earned 45 = .ok (.invokevirtual 50, 3) := by decide +kernel
theorem dX7_earned_48 : decode cX7_earned 48 = .ok (.iload_n 3, 1) := by decide +kernel
theorem dX7_earned_49 : decode cX7_earned 49 = .ok (.invokestatic 53, 3) := by decide +kernel
theorem dX7_earned_52 : decode cX7_earned 52 = .ok (.invokestatic 58, 3) := by decide +kernel
theorem dX7_earned_55 : decode cX7_earned 55 = .ok (.ldc2_w 40, 3) := by decide +kernel
theorem dX7_earned_58 : decode cX7_earned 58 = .ok (.aload_n 0, 1) := by decide +kernel
theorem dX7_earned_59 : decode cX7_earned 59 = .ok (.getfield 9, 3) := by decide +kernel
theorem dX7_earned_62 : decode cX7_earned 62 = .ok (.getfield 62, 3) := by decide +kernel
theorem dX7_earned_65 : decode cX7_earned 65 = .ok (.i2l, 1) := by decide +kernel
theorem dX7_earned_66 : decode cX7_earned 66 = .ok (.lmul, 1) := by decide +kernel
theorem dX7_earned_67 : decode cX7_earned 67 = .ok (.lsub, 1) := by decide +kernel
theorem dX7_earned_68 : decode cX7_earned 68 = .ok (.lreturn, 1) := by decide +kernel
set_option maxRecDepth 20000 in
theorem ggX7_speedFor_X7_mayBe : GoodIn wsX7_speedFor wsX7_mayBe := goodIn_r _ [6, 1, 7, 8, 9, 10, 11, 12, 13, 14, 15, 16, 17, 18, 19, 20, 21, 22, 60, 61, 62, 63, 64, 65, 66, 67, 68, 69, 70, 71, 72, 73, 74, 75, 76, 77] (by decide +kernel) (by decide +kernel)
set_option maxRecDepth 20000 in
theorem gX7_speedFor_X7_mayBe : GoodIn wsX7_speedFor (wsV RX7 68 RX7 yX7_mayBe wsX7_mayBe) := goodIn_app (goodIn_of _ (by decide +kernel)) ggX7_speedFor_X7_mayBe
set_option maxRecDepth 20000 in
theorem ggX7_speedFor_X7_earned : GoodIn wsX7_speedFor wsX7_earned := goodIn_r _ [26, 27, 1, 28, 29, 30, 31, 32, 33, 34, 35, 5, 36, 7, 8, 9, 10, 11, 12, 13, 14, 15, 37, 38, 39, 40, 41, 42, 43, 44, 45, 46, 47, 48, 49, 50, 51, 52, 53, 54, 55, 56, 21, 57, 58, 59, 60, 61, 62, 63, 64, 65, 66, 67, 68, 69, 70, 71, 72, 73, 74, 75, 76, 77] (by decide +kernel) (by decide +kernel)
set_option maxRecDepth 20000 in
theorem gX7_speedFor_X7_earned : GoodIn wsX7_speedFor (wsV RX7 71 RX7 yX7_earned wsX7_earned) := goodIn_app (goodIn_of _ (by decide +kernel)) ggX7_speedFor_X7_earned
theorem dX7_speedFor_0 : decode cX7_speedFor 0 = .ok (.bipush (-4), 2) := by decide +kernel
theorem dX7_speedFor_2 : decode cX7_speedFor 2 = .ok (.istore_n 3, 1) := by decide +kernel
theorem dX7_speedFor_3 : decode cX7_speedFor 3 = .ok (.lconst 0, 1) := by decide +kernel
theorem dX7_speedFor_4 : decode cX7_speedFor 4 = .ok (.lstore 4, 2) := by decide +kernel
theorem dX7_speedFor_6 : decode cX7_speedFor 6 = .ok (.iconst 0, 1) := by decide +kernel
theorem dX7_speedFor_7 : decode cX7_speedFor 7 = .ok (.istore 6, 2) := by decide +kernel
theorem dX7_speedFor_9 : decode cX7_speedFor 9 = .ok (.iload 6, 2) := by decide +kernel
theorem dX7_speedFor_11 : decode cX7_speedFor 11 = .ok (.aload_n 0, 1) := by decide +kernel
theorem dX7_speedFor_12 : decode cX7_speedFor 12 = .ok (.getfield 9, 3) := by decide +kernel
theorem dX7_speedFor_15 : decode cX7_speedFor 15 = .ok (.getfield 65, 3) := by decide +kernel
theorem dX7_speedFor_18 : decode cX7_speedFor 18 = .ok (.if_icmp .ge 50, 3) := by decide +kernel
theorem dX7_speedFor_21 : decode cX7_speedFor 21 = .ok (.aload_n 0, 1) := by decide +kernel
theorem dX7_speedFor_22 : decode cX7_speedFor 22 = .ok (.iload_n 1, 1) := by decide +kernel
theorem dX7_speedFor_23 : decode cX7_speedFor 23 = .ok (.iload 6, 2) := by decide +kernel
theorem dX7_speedFor_25 : decode cX7_speedFor 25 = .ok (.invokevirtual 68, 3) := by decide +kernel
theorem dX7_speedFor_28 : decode cX7_speedFor 28 = .ok (.ifCond .eq 34, 3) := by decide +kernel
theorem dX7_speedFor_31 : decode cX7_speedFor 31 = .ok (.aload_n 0, 1) := by decide +kernel
theorem dX7_speedFor_32 : decode cX7_speedFor 32 = .ok (.iload_n 1, 1) := by decide +kernel
theorem dX7_speedFor_33 : decode cX7_speedFor 33 = .ok (.iload 6, 2) := by decide +kernel
theorem dX7_speedFor_35 : decode cX7_speedFor 35 = .ok (.iload_n 2, 1) := by decide +kernel
theorem dX7_speedFor_36 : decode cX7_speedFor 36 = .ok (.invokevirtual 71, 3) := by decide +kernel
theorem dX7_speedFor_39 : decode cX7_speedFor 39 = .ok (.lstore 7, 2) := by decide +kernel
theorem dX7_speedFor_41 : decode cX7_speedFor 41 = .ok (.iload_n 3, 1) := by decide +kernel
theorem dX7_speedFor_42 : decode cX7_speedFor 42 = .ok (.bipush (-4), 2) := by decide +kernel
theorem dX7_speedFor_44 : decode cX7_speedFor 44 = .ok (.if_icmp .eq 11, 3) := by decide +kernel
theorem dX7_speedFor_47 : decode cX7_speedFor 47 = .ok (.lload 7, 2) := by decide +kernel
theorem dX7_speedFor_49 : decode cX7_speedFor 49 = .ok (.lload 4, 2) := by decide +kernel
theorem dX7_speedFor_51 : decode cX7_speedFor 51 = .ok (.lcmp, 1) := by decide +kernel
theorem dX7_speedFor_52 : decode cX7_speedFor 52 = .ok (.ifCond .le 10, 3) := by decide +kernel
theorem dX7_speedFor_55 : decode cX7_speedFor 55 = .ok (.iload 6, 2) := by decide +kernel
theorem dX7_speedFor_57 : decode cX7_speedFor 57 = .ok (.istore_n 3, 1) := by decide +kernel
theorem dX7_speedFor_58 : decode cX7_speedFor 58 = .ok (.lload 7, 2) := by decide +kernel
theorem dX7_speedFor_60 : decode cX7_speedFor 60 = .ok (.lstore 4, 2) := by decide +kernel
theorem dX7_speedFor_62 : decode cX7_speedFor 62 = .ok (.iinc 6 1, 3) := by decide +kernel
theorem dX7_speedFor_65 : decode cX7_speedFor 65 = .ok (.goto (-56), 3) := by decide +kernel
theorem dX7_speedFor_68 : decode cX7_speedFor 68 = .ok (.iload_n 3, 1) := by decide +kernel
theorem dX7_speedFor_69 : decode cX7_speedFor 69 = .ok (.ireturn, 1) := by decide +kernel
set_option maxRecDepth 20000 in
theorem ggX7_manGets_X7_timeOf : GoodIn wsX7_manGets wsX7_timeOf := goodIn_r _ [6, 7, 8, 9, 10, 11, 12, 13, 14, 15, 16, 17, 18, 19, 20, 5, 21, 22, 23, 24, 25, 26, 27, 28, 29, 30, 31, 32, 36, 37, 38, 39, 40, 41, 42, 43, 44, 45, 46, 47, 48, 49, 50, 51, 52, 53] (by decide +kernel) (by decide +kernel)
set_option maxRecDepth 20000 in
theorem gX7_manGets_X7_timeOf : GoodIn wsX7_manGets (wsV RX7 50 RX7 yX7_timeOf wsX7_timeOf) := goodIn_app (goodIn_of _ (by decide +kernel)) ggX7_manGets_X7_timeOf
set_option maxRecDepth 20000 in
theorem ggX7_manGets_X7_perHour : GoodIn wsX7_manGets wsX7_perHour := goodIn_r _ [35, 1] (by decide +kernel) (by decide +kernel)
set_option maxRecDepth 20000 in
theorem gX7_manGets_X7_perHour : GoodIn wsX7_manGets (va_wsS RX7 58 yX7_perHour wsX7_perHour) := goodIn_app (goodIn_of _ (by decide +kernel)) ggX7_manGets_X7_perHour
theorem dX7_manGets_0 : decode cX7_manGets 0 = .ok (.ldc2_w 40, 3) := by decide +kernel
theorem dX7_manGets_3 : decode cX7_manGets 3 = .ok (.iload_n 3, 1) := by decide +kernel
theorem dX7_manGets_4 : decode cX7_manGets 4 = .ok (.i2l, 1) := by decide +kernel
theorem dX7_manGets_5 : decode cX7_manGets 5 = .ok (.lmul, 1) := by decide +kernel
theorem dX7_manGets_6 : decode cX7_manGets 6 = .ok (.aload_n 0, 1) := by decide +kernel
theorem dX7_manGets_7 : decode cX7_manGets 7 = .ok (.iload_n 1, 1) := by decide +kernel
theorem dX7_manGets_8 : decode cX7_manGets 8 = .ok (.iload_n 2, 1) := by decide +kernel
theorem dX7_manGets_9 : decode cX7_manGets 9 = .ok (.invokevirtual 50, 3) := by decide +kernel
theorem dX7_manGets_12 : decode cX7_manGets 12 = .ok (.invokestatic 58, 3) := by decide +kernel
theorem dX7_manGets_15 : decode cX7_manGets 15 = .ok (.lreturn, 1) := by decide +kernel
set_option maxRecDepth 20000 in
theorem ggX7_speedOfMan_X7_mayBe : GoodIn wsX7_speedOfMan wsX7_mayBe := goodIn_r _ [7, 1, 8, 9, 10, 11, 12, 13, 14, 15, 16, 17, 18, 19, 20, 21, 22, 23, 54, 55, 56, 57, 58, 59, 60, 61, 62, 63, 64, 65, 66, 67, 68, 69, 70, 71] (by decide +kernel) (by decide +kernel)
set_option maxRecDepth 20000 in
theorem gX7_speedOfMan_X7_mayBe : GoodIn wsX7_speedOfMan (wsV RX7 68 RX7 yX7_mayBe wsX7_mayBe) := goodIn_app (goodIn_of _ (by decide +kernel)) ggX7_speedOfMan_X7_mayBe
set_option maxRecDepth 20000 in
theorem ggX7_speedOfMan_X7_manGets : GoodIn wsX7_speedOfMan wsX7_manGets := goodIn_r _ [27, 2, 28, 29, 30, 6, 31, 1, 32, 33, 34, 11, 35, 22, 36, 14, 15, 16, 37, 38, 39, 40, 8, 9, 10, 12, 13, 41, 42, 43, 44, 45, 46, 47, 48, 49, 54, 55, 56, 57, 58, 59, 60, 61, 62, 63, 64, 65, 66, 67, 68, 69, 70, 71] (by decide +kernel) (by decide +kernel)
set_option maxRecDepth 20000 in
theorem gX7_speedOfMan_X7_manGets : GoodIn wsX7_speedOfMan (wsV RX7 75 RX7 yX7_manGets wsX7_manGets) := goodIn_app (goodIn_of _ (by decide +kernel)) ggX7_speedOfMan_X7_manGets
set_option maxRecDepth 20000 in
theorem ggX7_speedOfMan_X0_inchesOf : GoodIn wsX7_speedOfMan wsX0_inchesOf := goodIn_r _ [53, 22, 14, 15, 16, 55, 56, 57, 58, 59, 60, 61, 62, 63, 64, 65, 66, 67, 68, 69, 70, 71] (by decide +kernel) (by decide +kernel)
set_option maxRecDepth 20000 in
theorem gX7_speedOfMan_X0_inchesOf : GoodIn wsX7_speedOfMan (wsV RX7 78 RX0 yX0_inchesOf wsX0_inchesOf) := goodIn_app (goodIn_of _ (by decide +kernel)) ggX7_speedOfMan_X0_inchesOf
theorem dX7_speedOfMan_0 : decode cX7_speedOfMan 0 = .ok (.bipush (-4), 2) := by decide +kernel
theorem dX7_speedOfMan_2 : decode cX7_speedOfMan 2 = .ok (.istore 4, 2) := by decide +kernel
theorem dX7_speedOfMan_4 : decode cX7_speedOfMan 4 = .ok (.lconst 0, 1) := by decide +kernel
theorem dX7_speedOfMan_5 : decode cX7_speedOfMan 5 = .ok (.lstore 5, 2) := by decide +kernel
theorem dX7_speedOfMan_7 : decode cX7_speedOfMan 7 = .ok (.iconst 0, 1) := by decide +kernel
theorem dX7_speedOfMan_8 : decode cX7_speedOfMan 8 = .ok (.istore 7, 2) := by decide +kernel
theorem dX7_speedOfMan_10 : decode cX7_speedOfMan 10 = .ok (.iload 7, 2) := by decide +kernel
theorem dX7_speedOfMan_12 : decode cX7_speedOfMan 12 = .ok (.aload_n 0, 1) := by decide +kernel
theorem dX7_speedOfMan_13 : decode cX7_speedOfMan 13 = .ok (.getfield 9, 3) := by decide +kernel
theorem dX7_speedOfMan_16 : decode cX7_speedOfMan 16 = .ok (.getfield 65, 3) := by decide +kernel
theorem dX7_speedOfMan_19 : decode cX7_speedOfMan 19 = .ok (.if_icmp .ge 70, 3) := by decide +kernel
theorem dX7_speedOfMan_22 : decode cX7_speedOfMan 22 = .ok (.aload_n 0, 1) := by decide +kernel
theorem dX7_speedOfMan_23 : decode cX7_speedOfMan 23 = .ok (.iload_n 1, 1) := by decide +kernel
theorem dX7_speedOfMan_24 : decode cX7_speedOfMan 24 = .ok (.iload 7, 2) := by decide +kernel
theorem dX7_speedOfMan_26 : decode cX7_speedOfMan 26 = .ok (.invokevirtual 68, 3) := by decide +kernel
theorem dX7_speedOfMan_29 : decode cX7_speedOfMan 29 = .ok (.ifCond .eq 54, 3) := by decide +kernel
theorem dX7_speedOfMan_32 : decode cX7_speedOfMan 32 = .ok (.aload_n 0, 1) := by decide +kernel
theorem dX7_speedOfMan_33 : decode cX7_speedOfMan 33 = .ok (.iload_n 1, 1) := by decide +kernel
theorem dX7_speedOfMan_34 : decode cX7_speedOfMan 34 = .ok (.iload 7, 2) := by decide +kernel
theorem dX7_speedOfMan_36 : decode cX7_speedOfMan 36 = .ok (.iload_n 2, 1) := by decide +kernel
theorem dX7_speedOfMan_37 : decode cX7_speedOfMan 37 = .ok (.invokevirtual 75, 3) := by decide +kernel
theorem dX7_speedOfMan_40 : decode cX7_speedOfMan 40 = .ok (.ldc2_w 40, 3) := by decide +kernel
theorem dX7_speedOfMan_43 : decode cX7_speedOfMan 43 = .ok (.iload_n 3, 1) := by decide +kernel
theorem dX7_speedOfMan_44 : decode cX7_speedOfMan 44 = .ok (.i2l, 1) := by decide +kernel
theorem dX7_speedOfMan_45 : decode cX7_speedOfMan 45 = .ok (.lmul, 1) := by decide +kernel
theorem dX7_speedOfMan_46 : decode cX7_speedOfMan 46 = .ok (.aload_n 0, 1) := by decide +kernel
theorem dX7_speedOfMan_47 : decode cX7_speedOfMan 47 = .ok (.getfield 9, 3) := by decide +kernel
theorem dX7_speedOfMan_50 : decode cX7_speedOfMan 50 = .ok (.iload 7, 2) := by decide +kernel
theorem dX7_speedOfMan_52 : decode cX7_speedOfMan 52 = .ok (.invokevirtual 78, 3) := by decide +kernel
theorem dX7_speedOfMan_55 : decode cX7_speedOfMan 55 = .ok (.i2l, 1) := by decide +kernel
theorem dX7_speedOfMan_56 : decode cX7_speedOfMan 56 = .ok (.lmul, 1) := by decide +kernel
theorem dX7_speedOfMan_57 : decode cX7_speedOfMan 57 = .ok (.lsub, 1) := by decide +kernel
theorem dX7_speedOfMan_58 : decode cX7_speedOfMan 58 = .ok (.lstore 8, 2) := by decide +kernel
theorem dX7_speedOfMan_60 : decode cX7_speedOfMan 60 = .ok (.iload 4, 2) := by decide +kernel
theorem dX7_speedOfMan_62 : decode cX7_speedOfMan 62 = .ok (.bipush (-4), 2) := by decide +kernel
theorem dX7_speedOfMan_64 : decode cX7_speedOfMan 64 = .ok (.if_icmp .eq 11, 3) := by decide +kernel
theorem dX7_speedOfMan_67 : decode cX7_speedOfMan 67 = .ok (.lload 8, 2) := by decide +kernel
theorem dX7_speedOfMan_69 : decode cX7_speedOfMan 69 = .ok (.lload 5, 2) := by decide +kernel
theorem dX7_speedOfMan_71 : decode cX7_speedOfMan 71 = .ok (.lcmp, 1) := by decide +kernel
theorem dX7_speedOfMan_72 : decode cX7_speedOfMan 72 = .ok (.ifCond .le 11, 3) := by decide +kernel
theorem dX7_speedOfMan_75 : decode cX7_speedOfMan 75 = .ok (.iload 7, 2) := by decide +kernel
theorem dX7_speedOfMan_77 : decode cX7_speedOfMan 77 = .ok (.istore 4, 2) := by decide +kernel
theorem dX7_speedOfMan_79 : decode cX7_speedOfMan 79 = .ok (.lload 8, 2) := by decide +kernel
theorem dX7_speedOfMan_81 : decode cX7_speedOfMan 81 = .ok (.lstore 5, 2) := by decide +kernel
theorem dX7_speedOfMan_83 : decode cX7_speedOfMan 83 = .ok (.iinc 7 1, 3) := by decide +kernel
theorem dX7_speedOfMan_86 : decode cX7_speedOfMan 86 = .ok (.goto (-76), 3) := by decide +kernel
theorem dX7_speedOfMan_89 : decode cX7_speedOfMan 89 = .ok (.iload 4, 2) := by decide +kernel
theorem dX7_speedOfMan_91 : decode cX7_speedOfMan 91 = .ok (.ireturn, 1) := by decide +kernel
set_option maxRecDepth 20000 in
theorem ggX7_leftToShop_X7_earned : GoodIn wsX7_leftToShop wsX7_earned := goodIn_r _ [5, 6, 7, 8, 9, 10, 11, 12, 13, 14, 15, 4, 16, 17, 18, 19, 20, 21, 22, 23, 24, 25, 26, 27, 28, 29, 30, 31, 32, 33, 34, 35, 36, 37, 38, 39, 40, 41, 42, 43, 44, 45, 46, 47, 48, 49, 54, 55, 56, 57, 58, 59, 60, 61, 62, 63, 64, 65, 66, 67, 68, 69, 70, 71] (by decide +kernel) (by decide +kernel)
set_option maxRecDepth 20000 in
theorem gX7_leftToShop_X7_earned : GoodIn wsX7_leftToShop (wsV RX7 71 RX7 yX7_earned wsX7_earned) := goodIn_app (goodIn_of _ (by decide +kernel)) ggX7_leftToShop_X7_earned
set_option maxRecDepth 20000 in
theorem ggX7_leftToShop_X7_manGets : GoodIn wsX7_leftToShop wsX7_manGets := goodIn_r _ [53, 8, 38, 39, 40, 4, 41, 7, 42, 43, 44, 20, 45, 46, 30, 23, 24, 25, 13, 14, 15, 16, 17, 18, 19, 21, 22, 26, 27, 28, 29, 31, 32, 47, 48, 49, 54, 55, 56, 57, 58, 59, 60, 61, 62, 63, 64, 65, 66, 67, 68, 69, 70, 71] (by decide +kernel) (by decide +kernel)
set_option maxRecDepth 20000 in
theorem gX7_leftToShop_X7_manGets : GoodIn wsX7_leftToShop (wsV RX7 75 RX7 yX7_manGets wsX7_manGets) := goodIn_app (goodIn_of _ (by decide +kernel)) ggX7_leftToShop_X7_manGets
theorem dX7_leftToShop_0 : decode cX7_leftToShop 0 = .ok (.aload_n 0, 1) := by decide +kernel
theorem dX7_leftToShop_1 : decode cX7_leftToShop 1 = .ok (.iload_n 1, 1) := by decide +kernel
theorem dX7_leftToShop_2 : decode cX7_leftToShop 2 = .ok (.iload_n 2, 1) := by decide +kernel
theorem dX7_leftToShop_3 : decode cX7_leftToShop 3 = .ok (.iconst 1, 1) := by decide +kernel
theorem dX7_leftToShop_4 : decode cX7_leftToShop 4 = .ok (.invokevirtual 71, 3) := by decide +kernel
theorem dX7_leftToShop_7 : decode cX7_leftToShop 7 = .ok (.aload_n 0, 1) := by decide +kernel
theorem dX7_leftToShop_8 : decode cX7_leftToShop 8 = .ok (.iload_n 1, 1) := by decide +kernel
theorem dX7_leftToShop_9 : decode cX7_leftToShop 9 = .ok (.iload_n 2, 1) := by decide +kernel
theorem dX7_leftToShop_10 : decode cX7_leftToShop 10 = .ok (.iload_n 3, 1) := by decide +kernel
theorem dX7_leftToShop_11 : decode cX7_leftToShop 11 = .ok (.invokevirtual 75, 3) := by decide +kernel
theorem dX7_leftToShop_14 : decode cX7_leftToShop 14 = .ok (.lsub, 1) := by decide +kernel
theorem dX7_leftToShop_15 : decode cX7_leftToShop 15 = .ok (.lreturn, 1) := by decide +kernel
set_option maxRecDepth 20000 in
theorem ggX7_payFor_X7_speedOfMan : GoodIn wsX7_payFor wsX7_speedOfMan := goodIn_r _ [5, 6, 7, 8, 9, 10, 4, 11, 12, 13, 14, 15, 16, 17, 18, 19, 20, 21, 22, 23, 24, 25, 26, 27, 28, 29, 30, 31, 32, 33, 34, 35, 36, 37, 38, 39, 40, 41, 42, 43, 44, 45, 46, 47, 48, 49, 50, 51, 52, 53, 54, 55, 56, 57, 76, 77, 78, 79, 80, 81, 82, 83, 84, 85, 86, 87, 88, 89, 90, 91, 92, 93] (by decide +kernel) (by decide +kernel)
set_option maxRecDepth 20000 in
theorem gX7_payFor_X7_speedOfMan : GoodIn wsX7_payFor (wsV RX7 81 RX7 yX7_speedOfMan wsX7_speedOfMan) := goodIn_app (goodIn_of _ (by decide +kernel)) ggX7_payFor_X7_speedOfMan
set_option maxRecDepth 20000 in
theorem ggX7_payFor_X7_leftToShop : GoodIn wsX7_payFor wsX7_leftToShop := goodIn_r _ [61, 62, 63, 64, 4, 65, 66, 6, 7, 67, 68, 69, 70, 41, 42, 43, 44, 12, 13, 14, 15, 16, 17, 18, 19, 20, 45, 46, 47, 48, 40, 49, 50, 71, 72, 73, 74, 75, 32, 33, 34, 35, 36, 37, 38, 39, 26, 51, 52, 53, 28, 29, 30, 31, 76, 77, 78, 79, 80, 81, 82, 83, 84, 85, 86, 87, 88, 89, 90, 91, 92, 93] (by decide +kernel) (by decide +kernel)
set_option maxRecDepth 20000 in
theorem gX7_payFor_X7_leftToShop : GoodIn wsX7_payFor (wsV RX7 85 RX7 yX7_leftToShop wsX7_leftToShop) := goodIn_app (goodIn_of _ (by decide +kernel)) ggX7_payFor_X7_leftToShop
theorem dX7_payFor_0 : decode cX7_payFor 0 = .ok (.bipush (-4), 2) := by decide +kernel
theorem dX7_payFor_2 : decode cX7_payFor 2 = .ok (.istore_n 3, 1) := by decide +kernel
theorem dX7_payFor_3 : decode cX7_payFor 3 = .ok (.lconst 0, 1) := by decide +kernel
theorem dX7_payFor_4 : decode cX7_payFor 4 = .ok (.lstore 4, 2) := by decide +kernel
theorem dX7_payFor_6 : decode cX7_payFor 6 = .ok (.iconst 0, 1) := by decide +kernel
theorem dX7_payFor_7 : decode cX7_payFor 7 = .ok (.istore 6, 2) := by decide +kernel
theorem dX7_payFor_9 : decode cX7_payFor 9 = .ok (.iload 6, 2) := by decide +kernel
theorem dX7_payFor_11 : decode cX7_payFor 11 = .ok (.bipush 99, 2) := by decide +kernel
theorem dX7_payFor_13 : decode cX7_payFor 13 = .ok (.if_icmp .gt 58, 3) := by decide +kernel
theorem dX7_payFor_16 : decode cX7_payFor 16 = .ok (.aload_n 0, 1) := by decide +kernel
theorem dX7_payFor_17 : decode cX7_payFor 17 = .ok (.iload_n 1, 1) := by decide +kernel
theorem dX7_payFor_18 : decode cX7_payFor 18 = .ok (.iload 6, 2) := by decide +kernel
theorem dX7_payFor_20 : decode cX7_payFor 20 = .ok (.iload_n 2, 1) := by decide +kernel
theorem dX7_payFor_21 : decode cX7_payFor 21 = .ok (.invokevirtual 81, 3) := by decide +kernel
theorem dX7_payFor_24 : decode cX7_payFor 24 = .ok (.istore 7, 2) := by decide +kernel
theorem dX7_payFor_26 : decode cX7_payFor 26 = .ok (.iload 7, 2) := by decide +kernel
theorem dX7_payFor_28 : decode cX7_payFor 28 = .ok (.bipush (-4), 2) := by decide +kernel
theorem dX7_payFor_30 : decode cX7_payFor 30 = .ok (.if_icmp .eq 35, 3) := by decide +kernel
theorem dX7_payFor_33 : decode cX7_payFor 33 = .ok (.aload_n 0, 1) := by decide +kernel
theorem dX7_payFor_34 : decode cX7_payFor 34 = .ok (.iload_n 1, 1) := by decide +kernel
theorem dX7_payFor_35 : decode cX7_payFor 35 = .ok (.iload 7, 2) := by decide +kernel
theorem dX7_payFor_37 : decode cX7_payFor 37 = .ok (.iload 6, 2) := by decide +kernel
theorem dX7_payFor_39 : decode cX7_payFor 39 = .ok (.invokevirtual 85, 3) := by decide +kernel
theorem dX7_payFor_42 : decode cX7_payFor 42 = .ok (.lstore 8, 2) := by decide +kernel
theorem dX7_payFor_44 : decode cX7_payFor 44 = .ok (.iload_n 3, 1) := by decide +kernel
theorem dX7_payFor_45 : decode cX7_payFor 45 = .ok (.bipush (-4), 2) := by decide +kernel
theorem dX7_payFor_47 : decode cX7_payFor 47 = .ok (.if_icmp .eq 11, 3) := by decide +kernel
theorem dX7_payFor_50 : decode cX7_payFor 50 = .ok (.lload 8, 2) := by decide +kernel
theorem dX7_payFor_52 : decode cX7_payFor 52 = .ok (.lload 4, 2) := by decide +kernel
theorem dX7_payFor_54 : decode cX7_payFor 54 = .ok (.lcmp, 1) := by decide +kernel
theorem dX7_payFor_55 : decode cX7_payFor 55 = .ok (.ifCond .le 10, 3) := by decide +kernel
theorem dX7_payFor_58 : decode cX7_payFor 58 = .ok (.iload 6, 2) := by decide +kernel
theorem dX7_payFor_60 : decode cX7_payFor 60 = .ok (.istore_n 3, 1) := by decide +kernel
theorem dX7_payFor_61 : decode cX7_payFor 61 = .ok (.lload 8, 2) := by decide +kernel
theorem dX7_payFor_63 : decode cX7_payFor 63 = .ok (.lstore 4, 2) := by decide +kernel
theorem dX7_payFor_65 : decode cX7_payFor 65 = .ok (.iinc 6 1, 3) := by decide +kernel
theorem dX7_payFor_68 : decode cX7_payFor 68 = .ok (.goto (-59), 3) := by decide +kernel
theorem dX7_payFor_71 : decode cX7_payFor 71 = .ok (.iload_n 3, 1) := by decide +kernel
theorem dX7_payFor_72 : decode cX7_payFor 72 = .ok (.ireturn, 1) := by decide +kernel
theorem dX8_init_0 : decode cX8_init 0 = .ok (.aload_n 0, 1) := by decide +kernel
theorem dX8_init_1 : decode cX8_init 1 = .ok (.invokespecial 3, 3) := by decide +kernel
theorem dX8_init_4 : decode cX8_init 4 = .ok (.aload_n 0, 1) := by decide +kernel
theorem dX8_init_5 : decode cX8_init 5 = .ok (.sipush 500, 3) := by decide +kernel
theorem dX8_init_8 : decode cX8_init 8 = .ok (.newarray .byte, 2) := by decide +kernel
theorem dX8_init_10 : decode cX8_init 10 = .ok (.putfield 9, 3) := by decide +kernel
theorem dX8_init_13 : decode cX8_init 13 = .ok (.aload_n 0, 1) := by decide +kernel
theorem dX8_init_14 : decode cX8_init 14 = .ok (.iconst 4, 1) := by decide +kernel
theorem dX8_init_15 : decode cX8_init 15 = .ok (.newarray .int, 2) := by decide +kernel
theorem dX8_init_17 : decode cX8_init 17 = .ok (.putfield 15, 3) := by decide +kernel
theorem dX8_init_20 : decode cX8_init 20 = .ok (.return_, 1) := by decide +kernel
theorem dX8_append_0 : decode cX8_append 0 = .ok (.aload_n 0, 1) := by decide +kernel
theorem dX8_append_1 : decode cX8_append 1 = .ok (.getfield 19, 3) := by decide +kernel
theorem dX8_append_4 : decode cX8_append 4 = .ok (.iload_n 1, 1) := by decide +kernel
theorem dX8_append_5 : decode cX8_append 5 = .ok (.iadd, 1) := by decide +kernel
theorem dX8_append_6 : decode cX8_append 6 = .ok (.aload_n 0, 1) := by decide +kernel
theorem dX8_append_7 : decode cX8_append 7 = .ok (.getfield 9, 3) := by decide +kernel
theorem dX8_append_10 : decode cX8_append 10 = .ok (.arraylength, 1) := by decide +kernel
theorem dX8_append_11 : decode cX8_append 11 = .ok (.if_icmp .le 5, 3) := by decide +kernel
theorem dX8_append_14 : decode cX8_append 14 = .ok (.iconst 0, 1) := by decide +kernel
theorem dX8_append_15 : decode cX8_append 15 = .ok (.ireturn, 1) := by decide +kernel
theorem dX8_append_16 : decode cX8_append 16 = .ok (.iload_n 1, 1) := by decide +kernel
theorem dX8_append_17 : decode cX8_append 17 = .ok (.iconst 1, 1) := by decide +kernel
theorem dX8_append_18 : decode cX8_append 18 = .ok (.isub, 1) := by decide +kernel
theorem dX8_append_19 : decode cX8_append 19 = .ok (.istore 4, 2) := by decide +kernel
theorem dX8_append_21 : decode cX8_append 21 = .ok (.iload 4, 2) := by decide +kernel
theorem dX8_append_23 : decode cX8_append 23 = .ok (.ifCond .lt 37, 3) := by decide +kernel
theorem dX8_append_26 : decode cX8_append 26 = .ok (.aload_n 0, 1) := by decide +kernel
theorem dX8_append_27 : decode cX8_append 27 = .ok (.getfield 9, 3) := by decide +kernel
theorem dX8_append_30 : decode cX8_append 30 = .ok (.aload_n 0, 1) := by decide +kernel
theorem dX8_append_31 : decode cX8_append 31 = .ok (.getfield 19, 3) := by decide +kernel
theorem dX8_append_34 : decode cX8_append 34 = .ok (.lload_n 2, 1) := by decide +kernel
theorem dX8_append_35 : decode cX8_append 35 = .ok (.bipush 8, 2) := by decide +kernel
theorem dX8_append_37 : decode cX8_append 37 = .ok (.iload 4, 2) := by decide +kernel
theorem dX8_append_39 : decode cX8_append 39 = .ok (.imul, 1) := by decide +kernel
theorem dX8_append_40 : decode cX8_append 40 = .ok (.lushr, 1) := by decide +kernel
theorem dX8_append_41 : decode cX8_append 41 = .ok (.l2i, 1) := by decide +kernel
theorem dX8_append_42 : decode cX8_append 42 = .ok (.i2b, 1) := by decide +kernel
theorem dX8_append_43 : decode cX8_append 43 = .ok (.bastore, 1) := by decide +kernel
theorem dX8_append_44 : decode cX8_append 44 = .ok (.aload_n 0, 1) := by decide +kernel
theorem dX8_append_45 : decode cX8_append 45 = .ok (.dup, 1) := by decide +kernel
theorem dX8_append_46 : decode cX8_append 46 = .ok (.getfield 19, 3) := by decide +kernel
theorem dX8_append_49 : decode cX8_append 49 = .ok (.iconst 1, 1) := by decide +kernel
theorem dX8_append_50 : decode cX8_append 50 = .ok (.iadd, 1) := by decide +kernel
theorem dX8_append_51 : decode cX8_append 51 = .ok (.putfield 19, 3) := by decide +kernel
theorem dX8_append_54 : decode cX8_append 54 = .ok (.iinc 4 (-1), 3) := by decide +kernel
theorem dX8_append_57 : decode cX8_append 57 = .ok (.goto (-36), 3) := by decide +kernel
theorem dX8_append_60 : decode cX8_append 60 = .ok (.iconst 1, 1) := by decide +kernel
theorem dX8_append_61 : decode cX8_append 61 = .ok (.ireturn, 1) := by decide +kernel
set_option maxRecDepth 20000 in
theorem ggX8_readInto_X0_clear : GoodIn wsX8_readInto wsX0_clear := goodIn_r _ [8, 9, 10, 11, 12, 13, 14, 15, 16, 17, 18, 19, 20, 21, 96, 97, 98, 99, 100, 101, 102, 103, 104, 105, 106, 107, 108, 109, 110, 111, 112] (by decide +kernel) (by decide +kernel)
set_option maxRecDepth 20000 in
theorem gX8_readInto_X0_clear : GoodIn wsX8_readInto (wsV RX8 23 RX0 yX0_clear wsX0_clear) := goodIn_app (goodIn_of _ (by decide +kernel)) ggX8_readInto_X0_clear
set_option maxRecDepth 20000 in
theorem ggX8_readInto_X8_byteAt : GoodIn wsX8_readInto wsX8_byteAt := goodIn_r _ [26, 2, 27, 92, 93, 94, 95] (by decide +kernel) (by decide +kernel)
set_option maxRecDepth 20000 in
theorem gX8_readInto_X8_byteAt : GoodIn wsX8_readInto (wsV RX8 31 RX8 yX8_byteAt wsX8_byteAt) := goodIn_app (goodIn_of _ (by decide +kernel)) ggX8_readInto_X8_byteAt
set_option maxRecDepth 20000 in
theorem ggX8_readInto_X8_numbersOf : GoodIn wsX8_readInto wsX8_numbersOf := goodIn_r _ [30] (by decide +kernel) (by decide +kernel)
set_option maxRecDepth 20000 in
theorem gX8_readInto_X8_numbersOf : GoodIn wsX8_readInto (va_wsS RX8 35 yX8_numbersOf wsX8_numbersOf) := goodIn_app (goodIn_of _ (by decide +kernel)) ggX8_readInto_X8_numbersOf
set_option maxRecDepth 20000 in
theorem ggX8_readInto_X8_readNumbers : GoodIn wsX8_readInto wsX8_readNumbers := goodIn_r _ [34, 1, 35, 36, 37, 25, 38, 3, 22, 23, 24, 26, 2, 27, 39, 40, 41, 92, 93, 94, 95] (by decide +kernel) (by decide +kernel)
set_option maxRecDepth 20000 in
theorem gX8_readInto_X8_readNumbers : GoodIn wsX8_readInto (wsV RX8 38 RX8 yX8_readNumbers wsX8_readNumbers) := goodIn_app (goodIn_of _ (by decide +kernel)) ggX8_readInto_X8_readNumbers
set_option maxRecDepth 20000 in
theorem ggX8_readInto_X0_take : GoodIn wsX8_readInto wsX0_take := goodIn_r _ [45, 46, 40, 47, 48, 49, 50, 7, 51, 9, 52, 53, 39, 41, 54, 55, 56, 57, 10, 58, 59, 60, 61, 62, 63, 64, 65, 17, 66, 67, 68, 69, 12, 13, 70, 71, 72, 73, 14, 74, 75, 76, 77, 15, 16, 78, 79, 80, 81, 11, 82, 83, 96, 97, 98, 99, 100, 101, 102, 103, 104, 105, 106, 107, 108, 109, 110, 111, 112] (by decide +kernel) (by decide +kernel)
set_option maxRecDepth 20000 in
theorem gX8_readInto_X0_take : GoodIn wsX8_readInto (wsV RX8 42 RX0 yX0_take wsX0_take) := goodIn_app (goodIn_of _ (by decide +kernel)) ggX8_readInto_X0_take
set_option maxRecDepth 20000 in
theorem ggX8_readInto_X0_finish : GoodIn wsX8_readInto wsX0_finish := goodIn_r _ [87, 11, 17, 78, 79, 80, 7, 81, 82, 83, 39, 40, 41, 88, 89, 90, 91, 46, 47, 96, 97, 98, 99, 100, 101, 102, 103, 104, 105, 106, 107, 108, 109, 110, 111, 112] (by decide +kernel) (by decide +kernel)
set_option maxRecDepth 20000 in
theorem gX8_readInto_X0_finish : GoodIn wsX8_readInto (wsV RX8 46 RX0 yX0_finish wsX0_finish) := goodIn_app (goodIn_of _ (by decide +kernel)) ggX8_readInto_X0_finish
theorem dX8_readInto_0 : decode cX8_readInto 0 = .ok (.aload_n 1, 1) := by decide +kernel
theorem dX8_readInto_1 : decode cX8_readInto 1 = .ok (.invokevirtual 23, 3) := by decide +kernel
theorem dX8_readInto_4 : decode cX8_readInto 4 = .ok (.aload_n 0, 1) := by decide +kernel
theorem dX8_readInto_5 : decode cX8_readInto 5 = .ok (.iconst 0, 1) := by decide +kernel
theorem dX8_readInto_6 : decode cX8_readInto 6 = .ok (.putfield 28, 3) := by decide +kernel
theorem dX8_readInto_9 : decode cX8_readInto 9 = .ok (.iconst 0, 1) := by decide +kernel
theorem dX8_readInto_10 : decode cX8_readInto 10 = .ok (.istore_n 2, 1) := by decide +kernel
theorem dX8_readInto_11 : decode cX8_readInto 11 = .ok (.iload_n 2, 1) := by decide +kernel
theorem dX8_readInto_12 : decode cX8_readInto 12 = .ok (.sipush 500, 3) := by decide +kernel
theorem dX8_readInto_15 : decode cX8_readInto 15 = .ok (.if_icmp .ge 62, 3) := by decide +kernel
theorem dX8_readInto_18 : decode cX8_readInto 18 = .ok (.aload_n 0, 1) := by decide +kernel
theorem dX8_readInto_19 : decode cX8_readInto 19 = .ok (.getfield 28, 3) := by decide +kernel
theorem dX8_readInto_22 : decode cX8_readInto 22 = .ok (.aload_n 0, 1) := by decide +kernel
theorem dX8_readInto_23 : decode cX8_readInto 23 = .ok (.getfield 19, 3) := by decide +kernel
theorem dX8_readInto_26 : decode cX8_readInto 26 = .ok (.if_icmp .ge 51, 3) := by decide +kernel
theorem dX8_readInto_29 : decode cX8_readInto 29 = .ok (.aload_n 0, 1) := by decide +kernel
theorem dX8_readInto_30 : decode cX8_readInto 30 = .ok (.getfield 28, 3) := by decide +kernel
theorem dX8_readInto_33 : decode cX8_readInto 33 = .ok (.istore_n 3, 1) := by decide +kernel
theorem dX8_readInto_34 : decode cX8_readInto 34 = .ok (.aload_n 0, 1) := by decide +kernel
theorem dX8_readInto_35 : decode cX8_readInto 35 = .ok (.aload_n 0, 1) := by decide +kernel
theorem dX8_readInto_36 : decode cX8_readInto 36 = .ok (.getfield 28, 3) := by decide +kernel
theorem dX8_readInto_39 : decode cX8_readInto 39 = .ok (.invokevirtual 31, 3) := by decide +kernel
theorem dX8_readInto_42 : decode cX8_readInto 42 = .ok (.istore 4, 2) := by decide +kernel
theorem dX8_readInto_44 : decode cX8_readInto 44 = .ok (.aload_n 0, 1) := by decide +kernel
theorem dX8_readInto_45 : decode cX8_readInto 45 = .ok (.iload 4, 2) := by decide +kernel
theorem dX8_readInto_47 : decode cX8_readInto 47 = .ok (.invokestatic 35, 3) := by decide +kernel
theorem dX8_readInto_50 : decode cX8_readInto 50 = .ok (.invokevirtual 38, 3) := by decide +kernel
theorem dX8_readInto_53 : decode cX8_readInto 53 = .ok (.ifCond .eq 16, 3) := by decide +kernel
theorem dX8_readInto_56 : decode cX8_readInto 56 = .ok (.aload_n 1, 1) := by decide +kernel
theorem dX8_readInto_57 : decode cX8_readInto 57 = .ok (.iload 4, 2) := by decide +kernel
theorem dX8_readInto_59 : decode cX8_readInto 59 = .ok (.aload_n 0, 1) := by decide +kernel
theorem dX8_readInto_60 : decode cX8_readInto 60 = .ok (.getfield 15, 3) := by decide +kernel
theorem dX8_readInto_63 : decode cX8_readInto 63 = .ok (.invokevirtual 42, 3) := by decide +kernel
theorem dX8_readInto_66 : decode cX8_readInto 66 = .ok (.ifCond .ne 5, 3) := by decide +kernel
theorem dX8_readInto_69 : decode cX8_readInto 69 = .ok (.iload_n 3, 1) := by decide +kernel
theorem dX8_readInto_70 : decode cX8_readInto 70 = .ok (.ireturn, 1) := by decide +kernel
theorem dX8_readInto_71 : decode cX8_readInto 71 = .ok (.iinc 2 1, 3) := by decide +kernel
theorem dX8_readInto_74 : decode cX8_readInto 74 = .ok (.goto (-63), 3) := by decide +kernel
theorem dX8_readInto_77 : decode cX8_readInto 77 = .ok (.aload_n 1, 1) := by decide +kernel
theorem dX8_readInto_78 : decode cX8_readInto 78 = .ok (.invokevirtual 46, 3) := by decide +kernel
theorem dX8_readInto_81 : decode cX8_readInto 81 = .ok (.ifCond .eq 8, 3) := by decide +kernel
theorem dX8_readInto_84 : decode cX8_readInto 84 = .ok (.bipush (-4), 2) := by decide +kernel
theorem dX8_readInto_86 : decode cX8_readInto 86 = .ok (.goto 7, 3) := by decide +kernel
theorem dX8_readInto_89 : decode cX8_readInto 89 = .ok (.aload_n 0, 1) := by decide +kernel
theorem dX8_readInto_90 : decode cX8_readInto 90 = .ok (.getfield 19, 3) := by decide +kernel
theorem dX8_readInto_93 : decode cX8_readInto 93 = .ok (.ireturn, 1) := by decide +kernel
theorem dX8_numbersOf_0 : decode cX8_numbersOf 0 = .ok (.iload_n 0, 1) := by decide +kernel
theorem dX8_numbersOf_1 : decode cX8_numbersOf 1 = .ok (.tableswitch 105 98 118 #[101, 101, 105, 105, 105, 105, 99, 105, 105, 101, 105, 105, 105, 105, 103, 105, 105, 105, 101, 105, 101], 99) := by decide +kernel
theorem dX8_numbersOf_100 : decode cX8_numbersOf 100 = .ok (.iconst 1, 1) := by decide +kernel
theorem dX8_numbersOf_101 : decode cX8_numbersOf 101 = .ok (.ireturn, 1) := by decide +kernel
theorem dX8_numbersOf_102 : decode cX8_numbersOf 102 = .ok (.iconst 2, 1) := by decide +kernel
theorem dX8_numbersOf_103 : decode cX8_numbersOf 103 = .ok (.ireturn, 1) := by decide +kernel
theorem dX8_numbersOf_104 : decode cX8_numbersOf 104 = .ok (.iconst 4, 1) := by decide +kernel
theorem dX8_numbersOf_105 : decode cX8_numbersOf 105 = .ok (.ireturn, 1) := by decide +kernel
theorem dX8_numbersOf_106 : decode cX8_numbersOf 106 = .ok (.iconst 0, 1) := by decide +kernel
theorem dX8_numbersOf_107 : decode cX8_numbersOf 107 = .ok (.ireturn, 1) := by decide +kernel
set_option maxRecDepth 20000 in
theorem ggX8_readNumbers_X8_readNumber : GoodIn wsX8_readNumbers wsX8_readNumber := goodIn_r _ [6, 1, 7, 8, 9, 10, 5, 11, 12, 13, 14, 15, 16, 17, 18, 19, 20] (by decide +kernel) (by decide +kernel)
set_option maxRecDepth 20000 in
theorem gX8_readNumbers_X8_readNumber : GoodIn wsX8_readNumbers (wsV RX8 50 RX8 yX8_readNumber wsX8_readNumber) := goodIn_app (goodIn_of _ (by decide +kernel)) ggX8_readNumbers_X8_readNumber
set_option maxRecDepth 20000 in
theorem ggX8_readNumbers_X8_byteAt : GoodIn wsX8_readNumbers wsX8_byteAt := goodIn_r _ [11, 12, 13, 17, 18, 19, 20] (by decide +kernel) (by decide +kernel)
set_option maxRecDepth 20000 in
theorem gX8_readNumbers_X8_byteAt : GoodIn wsX8_readNumbers (wsV RX8 31 RX8 yX8_byteAt wsX8_byteAt) := goodIn_app (goodIn_of _ (by decide +kernel)) ggX8_readNumbers_X8_byteAt
theorem dX8_readNumbers_0 : decode cX8_readNumbers 0 = .ok (.aload_n 0, 1) := by decide +kernel
theorem dX8_readNumbers_1 : decode cX8_readNumbers 1 = .ok (.dup, 1) := by decide +kernel
theorem dX8_readNumbers_2 : decode cX8_readNumbers 2 = .ok (.getfield 28, 3) := by decide +kernel
theorem dX8_readNumbers_5 : decode cX8_readNumbers 5 = .ok (.iconst 1, 1) := by decide +kernel
theorem dX8_readNumbers_6 : decode cX8_readNumbers 6 = .ok (.iadd, 1) := by decide +kernel
theorem dX8_readNumbers_7 : decode cX8_readNumbers 7 = .ok (.putfield 28, 3) := by decide +kernel
theorem dX8_readNumbers_10 : decode cX8_readNumbers 10 = .ok (.iconst 0, 1) := by decide +kernel
theorem dX8_readNumbers_11 : decode cX8_readNumbers 11 = .ok (.istore_n 2, 1) := by decide +kernel
theorem dX8_readNumbers_12 : decode cX8_readNumbers 12 = .ok (.iload_n 2, 1) := by decide +kernel
theorem dX8_readNumbers_13 : decode cX8_readNumbers 13 = .ok (.iload_n 1, 1) := by decide +kernel
theorem dX8_readNumbers_14 : decode cX8_readNumbers 14 = .ok (.if_icmp .ge 54, 3) := by decide +kernel
theorem dX8_readNumbers_17 : decode cX8_readNumbers 17 = .ok (.aload_n 0, 1) := by decide +kernel
theorem dX8_readNumbers_18 : decode cX8_readNumbers 18 = .ok (.iload_n 2, 1) := by decide +kernel
theorem dX8_readNumbers_19 : decode cX8_readNumbers 19 = .ok (.invokevirtual 50, 3) := by decide +kernel
theorem dX8_readNumbers_22 : decode cX8_readNumbers 22 = .ok (.ifCond .eq 28, 3) := by decide +kernel
theorem dX8_readNumbers_25 : decode cX8_readNumbers 25 = .ok (.aload_n 0, 1) := by decide +kernel
theorem dX8_readNumbers_26 : decode cX8_readNumbers 26 = .ok (.aload_n 0, 1) := by decide +kernel
theorem dX8_readNumbers_27 : decode cX8_readNumbers 27 = .ok (.getfield 28, 3) := by decide +kernel
theorem dX8_readNumbers_30 : decode cX8_readNumbers 30 = .ok (.invokevirtual 31, 3) := by decide +kernel
theorem dX8_readNumbers_33 : decode cX8_readNumbers 33 = .ok (.iload_n 2, 1) := by decide +kernel
theorem dX8_readNumbers_34 : decode cX8_readNumbers 34 = .ok (.iconst 1, 1) := by decide +kernel
theorem dX8_readNumbers_35 : decode cX8_readNumbers 35 = .ok (.iadd, 1) := by decide +kernel
theorem dX8_readNumbers_36 : decode cX8_readNumbers 36 = .ok (.iload_n 1, 1) := by decide +kernel
theorem dX8_readNumbers_37 : decode cX8_readNumbers 37 = .ok (.if_icmp .ge 8, 3) := by decide +kernel
theorem dX8_readNumbers_40 : decode cX8_readNumbers 40 = .ok (.bipush 44, 2) := by decide +kernel
theorem dX8_readNumbers_42 : decode cX8_readNumbers 42 = .ok (.goto 5, 3) := by decide +kernel
theorem dX8_readNumbers_45 : decode cX8_readNumbers 45 = .ok (.bipush 59, 2) := by decide +kernel
theorem dX8_readNumbers_47 : decode cX8_readNumbers 47 = .ok (.if_icmp .eq 5, 3) := by decide +kernel
theorem dX8_readNumbers_50 : decode cX8_readNumbers 50 = .ok (.iconst 0, 1) := by decide +kernel
theorem dX8_readNumbers_51 : decode cX8_readNumbers 51 = .ok (.ireturn, 1) := by decide +kernel
theorem dX8_readNumbers_52 : decode cX8_readNumbers 52 = .ok (.aload_n 0, 1) := by decide +kernel
theorem dX8_readNumbers_53 : decode cX8_readNumbers 53 = .ok (.dup, 1) := by decide +kernel
theorem dX8_readNumbers_54 : decode cX8_readNumbers 54 = .ok (.getfield 28, 3) := by decide +kernel
theorem dX8_readNumbers_57 : decode cX8_readNumbers 57 = .ok (.iconst 1, 1) := by decide +kernel
theorem dX8_readNumbers_58 : decode cX8_readNumbers 58 = .ok (.iadd, 1) := by decide +kernel
theorem dX8_readNumbers_59 : decode cX8_readNumbers 59 = .ok (.putfield 28, 3) := by decide +kernel
theorem dX8_readNumbers_62 : decode cX8_readNumbers 62 = .ok (.iinc 2 1, 3) := by decide +kernel
theorem dX8_readNumbers_65 : decode cX8_readNumbers 65 = .ok (.goto (-53), 3) := by decide +kernel
theorem dX8_readNumbers_68 : decode cX8_readNumbers 68 = .ok (.iload_n 1, 1) := by decide +kernel
theorem dX8_readNumbers_69 : decode cX8_readNumbers 69 = .ok (.ifCond .le 7, 3) := by decide +kernel
theorem dX8_readNumbers_72 : decode cX8_readNumbers 72 = .ok (.iconst 1, 1) := by decide +kernel
theorem dX8_readNumbers_73 : decode cX8_readNumbers 73 = .ok (.goto 4, 3) := by decide +kernel
theorem dX8_readNumbers_76 : decode cX8_readNumbers 76 = .ok (.iconst 0, 1) := by decide +kernel
theorem dX8_readNumbers_77 : decode cX8_readNumbers 77 = .ok (.ireturn, 1) := by decide +kernel
set_option maxRecDepth 20000 in
theorem ggX8_readNumber_X8_byteAt : GoodIn wsX8_readNumber wsX8_byteAt := goodIn_r _ [7, 8, 9, 13, 14, 15, 16] (by decide +kernel) (by decide +kernel)
set_option maxRecDepth 20000 in
theorem gX8_readNumber_X8_byteAt : GoodIn wsX8_readNumber (wsV RX8 31 RX8 yX8_byteAt wsX8_byteAt) := goodIn_app (goodIn_of _ (by decide +kernel)) ggX8_readNumber_X8_byteAt
set_option maxRecDepth 20000 in
theorem ggX8_readNumber_X11_within : GoodIn wsX8_readNumber wsX11_within := goodIn_r _ [12] (by decide +kernel) (by decide +kernel)
set_option maxRecDepth 20000 in
theorem gX8_readNumber_X11_within_n53 : GoodIn wsX8_readNumber (wsX11_within) := ggX8_readNumber_X11_within
theorem dX8_readNumber_0 : decode cX8_readNumber 0 = .ok (.iconst 0, 1) := by decide +kernel
theorem dX8_readNumber_1 : decode cX8_readNumber 1 = .ok (.istore_n 2, 1) := by decide +kernel
theorem dX8_readNumber_2 : decode cX8_readNumber 2 = .ok (.iconst 0, 1) := by decide +kernel
theorem dX8_readNumber_3 : decode cX8_readNumber 3 = .ok (.istore_n 3, 1) := by decide +kernel
theorem dX8_readNumber_4 : decode cX8_readNumber 4 = .ok (.iload_n 3, 1) := by decide +kernel
theorem dX8_readNumber_5 : decode cX8_readNumber 5 = .ok (.iconst 4, 1) := by decide +kernel
theorem dX8_readNumber_6 : decode cX8_readNumber 6 = .ok (.if_icmp .ge 54, 3) := by decide +kernel
theorem dX8_readNumber_9 : decode cX8_readNumber 9 = .ok (.aload_n 0, 1) := by decide +kernel
theorem dX8_readNumber_10 : decode cX8_readNumber 10 = .ok (.aload_n 0, 1) := by decide +kernel
theorem dX8_readNumber_11 : decode cX8_readNumber 11 = .ok (.getfield 28, 3) := by decide +kernel
theorem dX8_readNumber_14 : decode cX8_readNumber 14 = .ok (.invokevirtual 31, 3) := by decide +kernel
theorem dX8_readNumber_17 : decode cX8_readNumber 17 = .ok (.bipush 48, 2) := by decide +kernel
theorem dX8_readNumber_19 : decode cX8_readNumber 19 = .ok (.bipush 57, 2) := by decide +kernel
theorem dX8_readNumber_21 : decode cX8_readNumber 21 = .ok (.invokestatic 53, 3) := by decide +kernel
theorem dX8_readNumber_24 : decode cX8_readNumber 24 = .ok (.ifCond .eq 36, 3) := by decide +kernel
theorem dX8_readNumber_27 : decode cX8_readNumber 27 = .ok (.bipush 10, 2) := by decide +kernel
theorem dX8_readNumber_29 : decode cX8_readNumber 29 = .ok (.iload_n 2, 1) := by decide +kernel
theorem dX8_readNumber_30 : decode cX8_readNumber 30 = .ok (.imul, 1) := by decide +kernel
theorem dX8_readNumber_31 : decode cX8_readNumber 31 = .ok (.aload_n 0, 1) := by decide +kernel
theorem dX8_readNumber_32 : decode cX8_readNumber 32 = .ok (.aload_n 0, 1) := by decide +kernel
theorem dX8_readNumber_33 : decode cX8_readNumber 33 = .ok (.getfield 28, 3) := by decide +kernel
theorem dX8_readNumber_36 : decode cX8_readNumber 36 = .ok (.invokevirtual 31, 3) := by decide +kernel
theorem dX8_readNumber_39 : decode cX8_readNumber 39 = .ok (.iadd, 1) := by decide +kernel
theorem dX8_readNumber_40 : decode cX8_readNumber 40 = .ok (.bipush 48, 2) := by decide +kernel
theorem dX8_readNumber_42 : decode cX8_readNumber 42 = .ok (.isub, 1) := by decide +kernel
theorem dX8_readNumber_43 : decode cX8_readNumber 43 = .ok (.istore_n 2, 1) := by decide +kernel
theorem dX8_readNumber_44 : decode cX8_readNumber 44 = .ok (.iinc 3 1, 3) := by decide +kernel
theorem dX8_readNumber_47 : decode cX8_readNumber 47 = .ok (.aload_n 0, 1) := by decide +kernel
theorem dX8_readNumber_48 : decode cX8_readNumber 48 = .ok (.dup, 1) := by decide +kernel
theorem dX8_readNumber_49 : decode cX8_readNumber 49 = .ok (.getfield 28, 3) := by decide +kernel
theorem dX8_readNumber_52 : decode cX8_readNumber 52 = .ok (.iconst 1, 1) := by decide +kernel
theorem dX8_readNumber_53 : decode cX8_readNumber 53 = .ok (.iadd, 1) := by decide +kernel
theorem dX8_readNumber_54 : decode cX8_readNumber 54 = .ok (.putfield 28, 3) := by decide +kernel
theorem dX8_readNumber_57 : decode cX8_readNumber 57 = .ok (.goto (-53), 3) := by decide +kernel
theorem dX8_readNumber_60 : decode cX8_readNumber 60 = .ok (.iload_n 1, 1) := by decide +kernel
theorem dX8_readNumber_61 : decode cX8_readNumber 61 = .ok (.iconst 0, 1) := by decide +kernel
theorem dX8_readNumber_62 : decode cX8_readNumber 62 = .ok (.aload_n 0, 1) := by decide +kernel
theorem dX8_readNumber_63 : decode cX8_readNumber 63 = .ok (.getfield 15, 3) := by decide +kernel
theorem dX8_readNumber_66 : decode cX8_readNumber 66 = .ok (.arraylength, 1) := by decide +kernel
theorem dX8_readNumber_67 : decode cX8_readNumber 67 = .ok (.iconst 1, 1) := by decide +kernel
theorem dX8_readNumber_68 : decode cX8_readNumber 68 = .ok (.isub, 1) := by decide +kernel
theorem dX8_readNumber_69 : decode cX8_readNumber 69 = .ok (.invokestatic 53, 3) := by decide +kernel
theorem dX8_readNumber_72 : decode cX8_readNumber 72 = .ok (.ifCond .ne 5, 3) := by decide +kernel
theorem dX8_readNumber_75 : decode cX8_readNumber 75 = .ok (.iconst 0, 1) := by decide +kernel
theorem dX8_readNumber_76 : decode cX8_readNumber 76 = .ok (.ireturn, 1) := by decide +kernel
theorem dX8_readNumber_77 : decode cX8_readNumber 77 = .ok (.aload_n 0, 1) := by decide +kernel
theorem dX8_readNumber_78 : decode cX8_readNumber 78 = .ok (.getfield 15, 3) := by decide +kernel
theorem dX8_readNumber_81 : decode cX8_readNumber 81 = .ok (.iload_n 1, 1) := by decide +kernel
theorem dX8_readNumber_82 : decode cX8_readNumber 82 = .ok (.iload_n 2, 1) := by decide +kernel
theorem dX8_readNumber_83 : decode cX8_readNumber 83 = .ok (.iastore, 1) := by decide +kernel
theorem dX8_readNumber_84 : decode cX8_readNumber 84 = .ok (.iload_n 3, 1) := by decide +kernel
theorem dX8_readNumber_85 : decode cX8_readNumber 85 = .ok (.iconst 1, 1) := by decide +kernel
theorem dX8_readNumber_86 : decode cX8_readNumber 86 = .ok (.iconst 3, 1) := by decide +kernel
theorem dX8_readNumber_87 : decode cX8_readNumber 87 = .ok (.invokestatic 53, 3) := by decide +kernel
theorem dX8_readNumber_90 : decode cX8_readNumber 90 = .ok (.ireturn, 1) := by decide +kernel
theorem dX8_byteAt_0 : decode cX8_byteAt 0 = .ok (.iload_n 1, 1) := by decide +kernel
theorem dX8_byteAt_1 : decode cX8_byteAt 1 = .ok (.ifCond .lt 33, 3) := by decide +kernel
theorem dX8_byteAt_4 : decode cX8_byteAt 4 = .ok (.iload_n 1, 1) := by decide +kernel
theorem dX8_byteAt_5 : decode cX8_byteAt 5 = .ok (.aload_n 0, 1) := by decide +kernel
theorem dX8_byteAt_6 : decode cX8_byteAt 6 = .ok (.getfield 19, 3) := by decide +kernel
theorem dX8_byteAt_9 : decode cX8_byteAt 9 = .ok (.if_icmp .ge 25, 3) := by decide +kernel
theorem dX8_byteAt_12 : decode cX8_byteAt 12 = .ok (.iload_n 1, 1) := by decide +kernel
theorem dX8_byteAt_13 : decode cX8_byteAt 13 = .ok (.aload_n 0, 1) := by decide +kernel
theorem dX8_byteAt_14 : decode cX8_byteAt 14 = .ok (.getfield 9, 3) := by decide +kernel
theorem dX8_byteAt_17 : decode cX8_byteAt 17 = .ok (.arraylength, 1) := by decide +kernel
theorem dX8_byteAt_18 : decode cX8_byteAt 18 = .ok (.if_icmp .ge 16, 3) := by decide +kernel
theorem dX8_byteAt_21 : decode cX8_byteAt 21 = .ok (.aload_n 0, 1) := by decide +kernel
theorem dX8_byteAt_22 : decode cX8_byteAt 22 = .ok (.getfield 9, 3) := by decide +kernel
theorem dX8_byteAt_25 : decode cX8_byteAt 25 = .ok (.iload_n 1, 1) := by decide +kernel
theorem dX8_byteAt_26 : decode cX8_byteAt 26 = .ok (.baload, 1) := by decide +kernel
theorem dX8_byteAt_27 : decode cX8_byteAt 27 = .ok (.sipush 255, 3) := by decide +kernel
theorem dX8_byteAt_30 : decode cX8_byteAt 30 = .ok (.iand, 1) := by decide +kernel
theorem dX8_byteAt_31 : decode cX8_byteAt 31 = .ok (.goto 4, 3) := by decide +kernel
theorem dX8_byteAt_34 : decode cX8_byteAt 34 = .ok (.iconst 0, 1) := by decide +kernel
theorem dX8_byteAt_35 : decode cX8_byteAt 35 = .ok (.ireturn, 1) := by decide +kernel
theorem dX9_init_0 : decode cX9_init 0 = .ok (.aload_n 0, 1) := by decide +kernel
theorem dX9_init_1 : decode cX9_init 1 = .ok (.invokespecial 3, 3) := by decide +kernel
theorem dX9_init_4 : decode cX9_init 4 = .ok (.aload_n 0, 1) := by decide +kernel
theorem dX9_init_5 : decode cX9_init 5 = .ok (.aload_n 1, 1) := by decide +kernel
theorem dX9_init_6 : decode cX9_init 6 = .ok (.putfield 9, 3) := by decide +kernel
theorem dX9_init_9 : decode cX9_init 9 = .ok (.aload_n 0, 1) := by decide +kernel
theorem dX9_init_10 : decode cX9_init 10 = .ok (.aload_n 2, 1) := by decide +kernel
theorem dX9_init_11 : decode cX9_init 11 = .ok (.putfield 15, 3) := by decide +kernel
theorem dX9_init_14 : decode cX9_init 14 = .ok (.return_, 1) := by decide +kernel
set_option maxRecDepth 20000 in
theorem ggX9_go_X9_start : GoodIn wsX9_go wsX9_start := goodIn_r _ [10, 2, 1, 4, 5, 11, 12, 13, 14, 15, 16, 17, 18, 19, 20, 21, 22, 23, 24, 144, 145, 146, 147, 148, 149, 150, 151, 152, 153, 154, 155, 156, 157, 158, 159, 160, 161, 162, 163, 164, 165, 166, 167, 168, 169, 170] (by decide +kernel) (by decide +kernel)
set_option maxRecDepth 20000 in
theorem gX9_go_X9_start : GoodIn wsX9_go (wsV RX9 19 RX9 yX9_start wsX9_start) := goodIn_app (goodIn_of _ (by decide +kernel)) ggX9_go_X9_start
set_option maxRecDepth 20000 in
theorem ggX9_go_X0_hasPiece : GoodIn wsX9_go wsX0_hasPiece := goodIn_r _ [28, 29, 30, 23, 31, 154, 155, 156, 157, 158, 159, 160, 161, 162, 163, 164, 165, 166, 167, 168, 169, 170] (by decide +kernel) (by decide +kernel)
set_option maxRecDepth 20000 in
theorem gX9_go_X0_hasPiece : GoodIn wsX9_go (wsV RX9 26 RX0 yX0_hasPiece wsX0_hasPiece) := goodIn_app (goodIn_of _ (by decide +kernel)) ggX9_go_X0_hasPiece
set_option maxRecDepth 20000 in
theorem ggX9_go_X2_choose : GoodIn wsX9_go wsX2_choose := goodIn_r _ [36, 37, 38, 39, 40, 41, 35, 42, 43, 44, 45, 19, 46, 47, 48, 49, 50, 51, 52, 53, 22, 23, 24, 54, 55, 56, 57, 58, 59, 60, 61, 62, 63, 64, 65, 66, 17, 18, 20, 21, 67, 68, 69, 70, 71, 72, 73, 74, 75, 76, 77, 78, 79, 80, 81, 30, 31, 82, 83, 84, 85, 86, 87, 88, 89, 90, 91, 92, 93, 94, 95, 171, 172, 173, 174, 175, 176, 177, 178, 179, 180, 154, 155, 156, 157, 158, 159, 160, 161, 162, 163, 164, 165, 166, 167, 168, 169, 170, 181, 182, 183, 184, 185, 186, 187] (by decide +kernel) (by decide +kernel)
set_option maxRecDepth 20000 in
theorem gX9_go_X2_choose : GoodIn wsX9_go (wsV RX9 38 RX2 yX2_choose wsX2_choose) := goodIn_app (goodIn_of _ (by decide +kernel)) ggX9_go_X2_choose
set_option maxRecDepth 20000 in
theorem ggX9_go_X9_change : GoodIn wsX9_go wsX9_change := goodIn_r _ [99, 5, 15, 12, 1, 100, 101, 102, 19, 103, 104, 144, 145, 146, 147, 148, 149, 150, 151, 152, 153, 154, 155, 156, 157, 158, 159, 160, 161, 162, 163, 164, 165, 166, 167, 168, 169, 170] (by decide +kernel) (by decide +kernel)
set_option maxRecDepth 20000 in
theorem gX9_go_X9_change : GoodIn wsX9_go (wsV RX9 44 RX9 yX9_change wsX9_change) := goodIn_app (goodIn_of _ (by decide +kernel)) ggX9_go_X9_change
set_option maxRecDepth 20000 in
theorem ggX9_go_X9_spoil : GoodIn wsX9_go wsX9_spoil := goodIn_r _ [108, 14, 109, 110, 111, 9, 112, 2, 1, 4, 16, 17, 18, 19, 20, 21, 22, 23, 24, 144, 145, 146, 147, 148, 149, 150, 151, 152, 153, 154, 155, 156, 157, 158, 159, 160, 161, 162, 163, 164, 165, 166, 167, 168, 169, 170] (by decide +kernel) (by decide +kernel)
set_option maxRecDepth 20000 in
theorem gX9_go_X9_spoil : GoodIn wsX9_go (wsV RX9 47 RX9 yX9_spoil wsX9_spoil) := goodIn_app (goodIn_of _ (by decide +kernel)) ggX9_go_X9_spoil
set_option maxRecDepth 20000 in
theorem ggX9_go_X9_cut : GoodIn wsX9_go wsX9_cut := goodIn_r _ [116, 1, 2, 11, 5, 12, 4, 13, 117, 23, 118, 119, 120, 121, 122, 123, 19, 124, 125, 76, 126, 22, 24, 127, 128, 9, 129, 130, 131, 132, 133, 134, 135, 136, 137, 138, 139, 140, 141, 142, 47, 96, 97, 98, 99, 15, 100, 101, 102, 103, 104, 105, 106, 107, 108, 14, 109, 110, 111, 112, 16, 17, 18, 20, 21, 143, 55, 56, 57, 58, 144, 145, 146, 147, 148, 149, 150, 151, 152, 153, 154, 155, 156, 157, 158, 159, 160, 161, 162, 163, 164, 165, 166, 167, 168, 169, 170] (by decide +kernel) (by decide +kernel)
set_option maxRecDepth 20000 in
theorem gX9_go_X9_cut : GoodIn wsX9_go (wsV RX9 50 RX9 yX9_cut wsX9_cut) := goodIn_app (goodIn_of _ (by decide +kernel)) ggX9_go_X9_cut
theorem dX9_go_0 : decode cX9_go 0 = .ok (.aload_n 0, 1) := by decide +kernel
theorem dX9_go_1 : decode cX9_go 1 = .ok (.invokevirtual 19, 3) := by decide +kernel
theorem dX9_go_4 : decode cX9_go 4 = .ok (.iconst 0, 1) := by decide +kernel
theorem dX9_go_5 : decode cX9_go 5 = .ok (.istore 4, 2) := by decide +kernel
theorem dX9_go_7 : decode cX9_go 7 = .ok (.iload 4, 2) := by decide +kernel
theorem dX9_go_9 : decode cX9_go 9 = .ok (.sipush 1000, 3) := by decide +kernel
theorem dX9_go_12 : decode cX9_go 12 = .ok (.if_icmp .ge 82, 3) := by decide +kernel
theorem dX9_go_15 : decode cX9_go 15 = .ok (.aload_n 0, 1) := by decide +kernel
theorem dX9_go_16 : decode cX9_go 16 = .ok (.getfield 9, 3) := by decide +kernel
theorem dX9_go_19 : decode cX9_go 19 = .ok (.aload_n 0, 1) := by decide +kernel
theorem dX9_go_20 : decode cX9_go 20 = .ok (.getfield 22, 3) := by decide +kernel
theorem dX9_go_23 : decode cX9_go 23 = .ok (.invokevirtual 26, 3) := by decide +kernel
theorem dX9_go_26 : decode cX9_go 26 = .ok (.ifCond .eq 68, 3) := by decide +kernel
theorem dX9_go_29 : decode cX9_go 29 = .ok (.aload_n 0, 1) := by decide +kernel
theorem dX9_go_30 : decode cX9_go 30 = .ok (.getfield 15, 3) := by decide +kernel
theorem dX9_go_33 : decode cX9_go 33 = .ok (.iload_n 1, 1) := by decide +kernel
theorem dX9_go_34 : decode cX9_go 34 = .ok (.iload_n 2, 1) := by decide +kernel
theorem dX9_go_35 : decode cX9_go 35 = .ok (.aload_n 0, 1) := by decide +kernel
theorem dX9_go_36 : decode cX9_go 36 = .ok (.getfield 22, 3) := by decide +kernel
theorem dX9_go_39 : decode cX9_go 39 = .ok (.aload_n 0, 1) := by decide +kernel
theorem dX9_go_40 : decode cX9_go 40 = .ok (.getfield 32, 3) := by decide +kernel
theorem dX9_go_43 : decode cX9_go 43 = .ok (.aload_n 0, 1) := by decide +kernel
theorem dX9_go_44 : decode cX9_go 44 = .ok (.getfield 35, 3) := by decide +kernel
theorem dX9_go_47 : decode cX9_go 47 = .ok (.invokevirtual 38, 3) := by decide +kernel
theorem dX9_go_50 : decode cX9_go 50 = .ok (.istore 5, 2) := by decide +kernel
theorem dX9_go_52 : decode cX9_go 52 = .ok (.iload 5, 2) := by decide +kernel
theorem dX9_go_54 : decode cX9_go 54 = .ok (.bipush 48, 2) := by decide +kernel
theorem dX9_go_56 : decode cX9_go 56 = .ok (.if_icmp .ne 10, 3) := by decide +kernel
theorem dX9_go_59 : decode cX9_go 59 = .ok (.aload_n 0, 1) := by decide +kernel
theorem dX9_go_60 : decode cX9_go 60 = .ok (.invokevirtual 44, 3) := by decide +kernel
theorem dX9_go_63 : decode cX9_go 63 = .ok (.goto 25, 3) := by decide +kernel
theorem dX9_go_66 : decode cX9_go 66 = .ok (.iload 5, 2) := by decide +kernel
theorem dX9_go_68 : decode cX9_go 68 = .ok (.bipush 49, 2) := by decide +kernel
theorem dX9_go_70 : decode cX9_go 70 = .ok (.if_icmp .ne 10, 3) := by decide +kernel
theorem dX9_go_73 : decode cX9_go 73 = .ok (.aload_n 0, 1) := by decide +kernel
theorem dX9_go_74 : decode cX9_go 74 = .ok (.invokevirtual 47, 3) := by decide +kernel
theorem dX9_go_77 : decode cX9_go 77 = .ok (.goto 11, 3) := by decide +kernel
theorem dX9_go_80 : decode cX9_go 80 = .ok (.aload_n 0, 1) := by decide +kernel
theorem dX9_go_81 : decode cX9_go 81 = .ok (.iload 5, 2) := by decide +kernel
theorem dX9_go_83 : decode cX9_go 83 = .ok (.iload_n 2, 1) := by decide +kernel
theorem dX9_go_84 : decode cX9_go 84 = .ok (.iload_n 3, 1) := by decide +kernel
theorem dX9_go_85 : decode cX9_go 85 = .ok (.invokevirtual 50, 3) := by decide +kernel
theorem dX9_go_88 : decode cX9_go 88 = .ok (.iinc 4 1, 3) := by decide +kernel
theorem dX9_go_91 : decode cX9_go 91 = .ok (.goto (-84), 3) := by decide +kernel
theorem dX9_go_94 : decode cX9_go 94 = .ok (.return_, 1) := by decide +kernel
set_option maxRecDepth 20000 in
theorem ggX9_start_X0_stepsOf : GoodIn wsX9_start wsX0_stepsOf := goodIn_r _ [14, 15, 16, 17, 18, 29, 30, 31, 32, 33, 34, 35, 36, 37, 38, 39, 40, 41, 42, 43, 44, 45] (by decide +kernel) (by decide +kernel)
set_option maxRecDepth 20000 in
theorem gX9_start_X0_stepsOf : GoodIn wsX9_start (wsV RX9 54 RX0 yX0_stepsOf wsX0_stepsOf) := goodIn_app (goodIn_of _ (by decide +kernel)) ggX9_start_X0_stepsOf
theorem dX9_start_0 : decode cX9_start 0 = .ok (.aload_n 0, 1) := by decide +kernel
theorem dX9_start_1 : decode cX9_start 1 = .ok (.iconst 0, 1) := by decide +kernel
theorem dX9_start_2 : decode cX9_start 2 = .ok (.putfield 22, 3) := by decide +kernel
theorem dX9_start_5 : decode cX9_start 5 = .ok (.aload_n 0, 1) := by decide +kernel
theorem dX9_start_6 : decode cX9_start 6 = .ok (.aload_n 0, 1) := by decide +kernel
theorem dX9_start_7 : decode cX9_start 7 = .ok (.getfield 9, 3) := by decide +kernel
theorem dX9_start_10 : decode cX9_start 10 = .ok (.iconst 0, 1) := by decide +kernel
theorem dX9_start_11 : decode cX9_start 11 = .ok (.invokevirtual 54, 3) := by decide +kernel
theorem dX9_start_14 : decode cX9_start 14 = .ok (.putfield 32, 3) := by decide +kernel
theorem dX9_start_17 : decode cX9_start 17 = .ok (.aload_n 0, 1) := by decide +kernel
theorem dX9_start_18 : decode cX9_start 18 = .ok (.iconst 0, 1) := by decide +kernel
theorem dX9_start_19 : decode cX9_start 19 = .ok (.putfield 35, 3) := by decide +kernel
theorem dX9_start_22 : decode cX9_start 22 = .ok (.aload_n 0, 1) := by decide +kernel
theorem dX9_start_23 : decode cX9_start 23 = .ok (.iconst 0, 1) := by decide +kernel
theorem dX9_start_24 : decode cX9_start 24 = .ok (.putfield 58, 3) := by decide +kernel
theorem dX9_start_27 : decode cX9_start 27 = .ok (.aload_n 0, 1) := by decide +kernel
theorem dX9_start_28 : decode cX9_start 28 = .ok (.iconst 0, 1) := by decide +kernel
theorem dX9_start_29 : decode cX9_start 29 = .ok (.putfield 61, 3) := by decide +kernel
theorem dX9_start_32 : decode cX9_start 32 = .ok (.aload_n 0, 1) := by decide +kernel
theorem dX9_start_33 : decode cX9_start 33 = .ok (.iconst 0, 1) := by decide +kernel
theorem dX9_start_34 : decode cX9_start 34 = .ok (.putfield 64, 3) := by decide +kernel
theorem dX9_start_37 : decode cX9_start 37 = .ok (.aload_n 0, 1) := by decide +kernel
theorem dX9_start_38 : decode cX9_start 38 = .ok (.iconst 0, 1) := by decide +kernel
theorem dX9_start_39 : decode cX9_start 39 = .ok (.putfield 67, 3) := by decide +kernel
theorem dX9_start_42 : decode cX9_start 42 = .ok (.aload_n 0, 1) := by decide +kernel
theorem dX9_start_43 : decode cX9_start 43 = .ok (.iconst 0, 1) := by decide +kernel
theorem dX9_start_44 : decode cX9_start 44 = .ok (.putfield 70, 3) := by decide +kernel
theorem dX9_start_47 : decode cX9_start 47 = .ok (.return_, 1) := by decide +kernel
set_option maxRecDepth 20000 in
theorem ggX9_change_X0_changeHundredths : GoodIn wsX9_change wsX0_changeHundredths := goodIn_r _ [9, 10, 21, 22, 23, 24, 25, 26, 27, 28, 29, 30, 31, 32, 33, 34, 35, 36, 37] (by decide +kernel) (by decide +kernel)
set_option maxRecDepth 20000 in
theorem gX9_change_X0_changeHundredths : GoodIn wsX9_change (wsV RX9 73 RX0 yX0_changeHundredths wsX0_changeHundredths) := goodIn_app (goodIn_of _ (by decide +kernel)) ggX9_change_X0_changeHundredths
theorem dX9_change_0 : decode cX9_change 0 = .ok (.aload_n 0, 1) := by decide +kernel
theorem dX9_change_1 : decode cX9_change 1 = .ok (.iconst 0, 1) := by decide +kernel
theorem dX9_change_2 : decode cX9_change 2 = .ok (.putfield 35, 3) := by decide +kernel
theorem dX9_change_5 : decode cX9_change 5 = .ok (.aload_n 0, 1) := by decide +kernel
theorem dX9_change_6 : decode cX9_change 6 = .ok (.dup, 1) := by decide +kernel
theorem dX9_change_7 : decode cX9_change 7 = .ok (.getfield 70, 3) := by decide +kernel
theorem dX9_change_10 : decode cX9_change 10 = .ok (.iconst 1, 1) := by decide +kernel
theorem dX9_change_11 : decode cX9_change 11 = .ok (.iadd, 1) := by decide +kernel
theorem dX9_change_12 : decode cX9_change 12 = .ok (.putfield 70, 3) := by decide +kernel
theorem dX9_change_15 : decode cX9_change 15 = .ok (.aload_n 0, 1) := by decide +kernel
theorem dX9_change_16 : decode cX9_change 16 = .ok (.dup, 1) := by decide +kernel
theorem dX9_change_17 : decode cX9_change 17 = .ok (.getfield 61, 3) := by decide +kernel
theorem dX9_change_20 : decode cX9_change 20 = .ok (.aload_n 0, 1) := by decide +kernel
theorem dX9_change_21 : decode cX9_change 21 = .ok (.getfield 9, 3) := by decide +kernel
theorem dX9_change_24 : decode cX9_change 24 = .ok (.invokevirtual 73, 3) := by decide +kernel
theorem dX9_change_27 : decode cX9_change 27 = .ok (.iadd, 1) := by decide +kernel
theorem dX9_change_28 : decode cX9_change 28 = .ok (.putfield 61, 3) := by decide +kernel
theorem dX9_change_31 : decode cX9_change 31 = .ok (.return_, 1) := by decide +kernel
set_option maxRecDepth 20000 in
theorem ggX9_spoil_X9_next : GoodIn wsX9_spoil wsX9_next := goodIn_r _ [6, 7, 8, 9, 10, 11, 12, 13, 14, 15, 16, 17, 18, 19, 20, 21, 22, 23, 24, 25, 26, 27, 28, 29, 30, 31, 32, 33, 34, 35, 36, 37, 38, 39, 40, 41, 42, 43, 44, 45] (by decide +kernel) (by decide +kernel)
set_option maxRecDepth 20000 in
theorem gX9_spoil_X9_next : GoodIn wsX9_spoil (wsV RX9 77 RX9 yX9_next wsX9_next) := goodIn_app (goodIn_of _ (by decide +kernel)) ggX9_spoil_X9_next
theorem dX9_spoil_0 : decode cX9_spoil 0 = .ok (.aload_n 0, 1) := by decide +kernel
theorem dX9_spoil_1 : decode cX9_spoil 1 = .ok (.dup, 1) := by decide +kernel
theorem dX9_spoil_2 : decode cX9_spoil 2 = .ok (.getfield 67, 3) := by decide +kernel
theorem dX9_spoil_5 : decode cX9_spoil 5 = .ok (.iconst 1, 1) := by decide +kernel
theorem dX9_spoil_6 : decode cX9_spoil 6 = .ok (.iadd, 1) := by decide +kernel
theorem dX9_spoil_7 : decode cX9_spoil 7 = .ok (.putfield 67, 3) := by decide +kernel
theorem dX9_spoil_10 : decode cX9_spoil 10 = .ok (.aload_n 0, 1) := by decide +kernel
theorem dX9_spoil_11 : decode cX9_spoil 11 = .ok (.invokevirtual 77, 3) := by decide +kernel
theorem dX9_spoil_14 : decode cX9_spoil 14 = .ok (.return_, 1) := by decide +kernel
set_option maxRecDepth 20000 in
theorem ggX9_next_X0_stepsOf : GoodIn wsX9_next wsX0_stepsOf := goodIn_r _ [8, 9, 10, 11, 12, 23, 24, 25, 26, 27, 28, 29, 30, 31, 32, 33, 34, 35, 36, 37, 38, 39] (by decide +kernel) (by decide +kernel)
set_option maxRecDepth 20000 in
theorem gX9_next_X0_stepsOf : GoodIn wsX9_next (wsV RX9 54 RX0 yX0_stepsOf wsX0_stepsOf) := goodIn_app (goodIn_of _ (by decide +kernel)) ggX9_next_X0_stepsOf
theorem dX9_next_0 : decode cX9_next 0 = .ok (.aload_n 0, 1) := by decide +kernel
theorem dX9_next_1 : decode cX9_next 1 = .ok (.dup, 1) := by decide +kernel
theorem dX9_next_2 : decode cX9_next 2 = .ok (.getfield 22, 3) := by decide +kernel
theorem dX9_next_5 : decode cX9_next 5 = .ok (.iconst 1, 1) := by decide +kernel
theorem dX9_next_6 : decode cX9_next 6 = .ok (.iadd, 1) := by decide +kernel
theorem dX9_next_7 : decode cX9_next 7 = .ok (.putfield 22, 3) := by decide +kernel
theorem dX9_next_10 : decode cX9_next 10 = .ok (.aload_n 0, 1) := by decide +kernel
theorem dX9_next_11 : decode cX9_next 11 = .ok (.aload_n 0, 1) := by decide +kernel
theorem dX9_next_12 : decode cX9_next 12 = .ok (.getfield 9, 3) := by decide +kernel
theorem dX9_next_15 : decode cX9_next 15 = .ok (.aload_n 0, 1) := by decide +kernel
theorem dX9_next_16 : decode cX9_next 16 = .ok (.getfield 22, 3) := by decide +kernel
theorem dX9_next_19 : decode cX9_next 19 = .ok (.invokevirtual 54, 3) := by decide +kernel
theorem dX9_next_22 : decode cX9_next 22 = .ok (.putfield 32, 3) := by decide +kernel
theorem dX9_next_25 : decode cX9_next 25 = .ok (.return_, 1) := by decide +kernel
set_option maxRecDepth 20000 in
theorem ggX9_cut_X11_depthOf : GoodIn wsX9_cut wsX11_depthOf := goodIn_r _ [10] (by decide +kernel) (by decide +kernel)
set_option maxRecDepth 20000 in
theorem gX9_cut_X11_depthOf_n80 : GoodIn wsX9_cut (wsX11_depthOf) := ggX9_cut_X11_depthOf
set_option maxRecDepth 20000 in
theorem ggX9_cut_X11_speedOf : GoodIn wsX9_cut wsX11_speedOf := goodIn_r _ [12] (by decide +kernel) (by decide +kernel)
set_option maxRecDepth 20000 in
theorem gX9_cut_X11_speedOf_n83 : GoodIn wsX9_cut (wsX11_speedOf) := ggX9_cut_X11_speedOf
set_option maxRecDepth 20000 in
theorem ggX9_cut_X0_wears : GoodIn wsX9_cut wsX0_wears := goodIn_r _ [17, 18, 19, 20, 21, 9, 22, 80, 81, 82, 83, 84, 85, 86, 87, 88, 89, 90, 91, 92, 93, 94, 95, 96] (by decide +kernel) (by decide +kernel)
set_option maxRecDepth 20000 in
theorem gX9_cut_X0_wears : GoodIn wsX9_cut (wsV RX9 86 RX0 yX0_wears wsX0_wears) := goodIn_app (goodIn_of _ (by decide +kernel)) ggX9_cut_X0_wears
set_option maxRecDepth 20000 in
theorem ggX9_cut_X9_draw : GoodIn wsX9_cut wsX9_draw := goodIn_r _ [26, 27, 28, 29, 30] (by decide +kernel) (by decide +kernel)
set_option maxRecDepth 20000 in
theorem gX9_cut_X9_draw : GoodIn wsX9_cut (va_wsS RX9 90 yX9_draw wsX9_draw) := goodIn_app (goodIn_of _ (by decide +kernel)) ggX9_cut_X9_draw
set_option maxRecDepth 20000 in
theorem ggX9_cut_X0_risk : GoodIn wsX9_cut wsX0_risk := goodIn_r _ [34, 35, 21, 9, 22, 80, 81, 82, 83, 84, 85, 86, 87, 88, 89, 90, 91, 92, 93, 94, 95, 96] (by decide +kernel) (by decide +kernel)
set_option maxRecDepth 20000 in
theorem gX9_cut_X0_risk : GoodIn wsX9_cut (wsV RX9 94 RX0 yX0_risk wsX0_risk) := goodIn_app (goodIn_of _ (by decide +kernel)) ggX9_cut_X0_risk
set_option maxRecDepth 20000 in
theorem ggX9_cut_X0_minutes : GoodIn wsX9_cut wsX0_minutes := goodIn_r _ [39, 40, 18, 21, 9, 22, 80, 81, 82, 83, 84, 85, 86, 87, 88, 89, 90, 91, 92, 93, 94, 95, 96] (by decide +kernel) (by decide +kernel)
set_option maxRecDepth 20000 in
theorem gX9_cut_X0_minutes : GoodIn wsX9_cut (wsV RX9 98 RX0 yX0_minutes wsX0_minutes) := goodIn_app (goodIn_of _ (by decide +kernel)) ggX9_cut_X0_minutes
set_option maxRecDepth 20000 in
theorem ggX9_cut_X9_change : GoodIn wsX9_cut wsX9_change := goodIn_r _ [44, 4, 45, 5, 1, 46, 47, 48, 16, 49, 50, 70, 71, 72, 73, 74, 75, 76, 77, 78, 79, 80, 81, 82, 83, 84, 85, 86, 87, 88, 89, 90, 91, 92, 93, 94, 95, 96] (by decide +kernel) (by decide +kernel)
set_option maxRecDepth 20000 in
theorem gX9_cut_X9_change : GoodIn wsX9_cut (wsV RX9 44 RX9 yX9_change wsX9_change) := goodIn_app (goodIn_of _ (by decide +kernel)) ggX9_cut_X9_change
set_option maxRecDepth 20000 in
theorem ggX9_cut_X9_spoil : GoodIn wsX9_cut wsX9_spoil := goodIn_r _ [54, 55, 56, 57, 58, 25, 59, 2, 1, 6, 60, 61, 62, 16, 63, 64, 21, 9, 22, 70, 71, 72, 73, 74, 75, 76, 77, 78, 79, 80, 81, 82, 83, 84, 85, 86, 87, 88, 89, 90, 91, 92, 93, 94, 95, 96] (by decide +kernel) (by decide +kernel)
set_option maxRecDepth 20000 in
theorem gX9_cut_X9_spoil : GoodIn wsX9_cut (wsV RX9 47 RX9 yX9_spoil wsX9_spoil) := goodIn_app (goodIn_of _ (by decide +kernel)) ggX9_cut_X9_spoil
set_option maxRecDepth 20000 in
theorem ggX9_cut_X0_fineOf : GoodIn wsX9_cut wsX0_fineOf := goodIn_r _ [68, 69, 21, 9, 22, 80, 81, 82, 83, 84, 85, 86, 87, 88, 89, 90, 91, 92, 93, 94, 95, 96] (by decide +kernel) (by decide +kernel)
set_option maxRecDepth 20000 in
theorem gX9_cut_X0_fineOf : GoodIn wsX9_cut (wsV RX9 100 RX0 yX0_fineOf wsX0_fineOf) := goodIn_app (goodIn_of _ (by decide +kernel)) ggX9_cut_X0_fineOf
set_option maxRecDepth 20000 in
theorem ggX9_cut_X9_next : GoodIn wsX9_cut wsX9_next := goodIn_r _ [59, 2, 1, 6, 60, 61, 62, 16, 63, 64, 21, 9, 22, 70, 71, 72, 73, 74, 75, 76, 77, 78, 79, 80, 81, 82, 83, 84, 85, 86, 87, 88, 89, 90, 91, 92, 93, 94, 95, 96] (by decide +kernel) (by decide +kernel)
set_option maxRecDepth 20000 in
theorem gX9_cut_X9_next : GoodIn wsX9_cut (wsV RX9 77 RX9 yX9_next wsX9_next) := goodIn_app (goodIn_of _ (by decide +kernel)) ggX9_cut_X9_next
theorem dX9_cut_0 : decode cX9_cut 0 = .ok (.iload_n 1, 1) := by decide +kernel
theorem dX9_cut_1 : decode cX9_cut 1 = .ok (.invokestatic 80, 3) := by decide +kernel
theorem dX9_cut_4 : decode cX9_cut 4 = .ok (.istore 4, 2) := by decide +kernel
theorem dX9_cut_6 : decode cX9_cut 6 = .ok (.aload_n 0, 1) := by decide +kernel
theorem dX9_cut_7 : decode cX9_cut 7 = .ok (.getfield 9, 3) := by decide +kernel
theorem dX9_cut_10 : decode cX9_cut 10 = .ok (.aload_n 0, 1) := by decide +kernel
theorem dX9_cut_11 : decode cX9_cut 11 = .ok (.getfield 22, 3) := by decide +kernel
theorem dX9_cut_14 : decode cX9_cut 14 = .ok (.iload_n 1, 1) := by decide +kernel
theorem dX9_cut_15 : decode cX9_cut 15 = .ok (.invokestatic 83, 3) := by decide +kernel
theorem dX9_cut_18 : decode cX9_cut 18 = .ok (.iload 4, 2) := by decide +kernel
theorem dX9_cut_20 : decode cX9_cut 20 = .ok (.iload_n 2, 1) := by decide +kernel
theorem dX9_cut_21 : decode cX9_cut 21 = .ok (.invokevirtual 86, 3) := by decide +kernel
theorem dX9_cut_24 : decode cX9_cut 24 = .ok (.istore 5, 2) := by decide +kernel
theorem dX9_cut_26 : decode cX9_cut 26 = .ok (.iload_n 3, 1) := by decide +kernel
theorem dX9_cut_27 : decode cX9_cut 27 = .ok (.aload_n 0, 1) := by decide +kernel
theorem dX9_cut_28 : decode cX9_cut 28 = .ok (.getfield 58, 3) := by decide +kernel
theorem dX9_cut_31 : decode cX9_cut 31 = .ok (.invokestatic 90, 3) := by decide +kernel
theorem dX9_cut_34 : decode cX9_cut 34 = .ok (.aload_n 0, 1) := by decide +kernel
theorem dX9_cut_35 : decode cX9_cut 35 = .ok (.getfield 9, 3) := by decide +kernel
theorem dX9_cut_38 : decode cX9_cut 38 = .ok (.aload_n 0, 1) := by decide +kernel
theorem dX9_cut_39 : decode cX9_cut 39 = .ok (.getfield 35, 3) := by decide +kernel
theorem dX9_cut_42 : decode cX9_cut 42 = .ok (.iload 5, 2) := by decide +kernel
theorem dX9_cut_44 : decode cX9_cut 44 = .ok (.invokevirtual 94, 3) := by decide +kernel
theorem dX9_cut_47 : decode cX9_cut 47 = .ok (.i2l, 1) := by decide +kernel
theorem dX9_cut_48 : decode cX9_cut 48 = .ok (.lcmp, 1) := by decide +kernel
theorem dX9_cut_49 : decode cX9_cut 49 = .ok (.ifCond .ge 7, 3) := by decide +kernel
theorem dX9_cut_52 : decode cX9_cut 52 = .ok (.iconst 1, 1) := by decide +kernel
theorem dX9_cut_53 : decode cX9_cut 53 = .ok (.goto 4, 3) := by decide +kernel
theorem dX9_cut_56 : decode cX9_cut 56 = .ok (.iconst 0, 1) := by decide +kernel
theorem dX9_cut_57 : decode cX9_cut 57 = .ok (.istore 6, 2) := by decide +kernel
theorem dX9_cut_59 : decode cX9_cut 59 = .ok (.aload_n 0, 1) := by decide +kernel
theorem dX9_cut_60 : decode cX9_cut 60 = .ok (.dup, 1) := by decide +kernel
theorem dX9_cut_61 : decode cX9_cut 61 = .ok (.getfield 61, 3) := by decide +kernel
theorem dX9_cut_64 : decode cX9_cut 64 = .ok (.aload_n 0, 1) := by decide +kernel
theorem dX9_cut_65 : decode cX9_cut 65 = .ok (.getfield 9, 3) := by decide +kernel
theorem dX9_cut_68 : decode cX9_cut 68 = .ok (.aload_n 0, 1) := by decide +kernel
theorem dX9_cut_69 : decode cX9_cut 69 = .ok (.getfield 22, 3) := by decide +kernel
theorem dX9_cut_72 : decode cX9_cut 72 = .ok (.iload_n 1, 1) := by decide +kernel
theorem dX9_cut_73 : decode cX9_cut 73 = .ok (.invokestatic 83, 3) := by decide +kernel
theorem dX9_cut_76 : decode cX9_cut 76 = .ok (.invokevirtual 98, 3) := by decide +kernel
theorem dX9_cut_79 : decode cX9_cut 79 = .ok (.iadd, 1) := by decide +kernel
theorem dX9_cut_80 : decode cX9_cut 80 = .ok (.putfield 61, 3) := by decide +kernel
theorem dX9_cut_83 : decode cX9_cut 83 = .ok (.aload_n 0, 1) := by decide +kernel
theorem dX9_cut_84 : decode cX9_cut 84 = .ok (.dup, 1) := by decide +kernel
theorem dX9_cut_85 : decode cX9_cut 85 = .ok (.getfield 58, 3) := by decide +kernel
theorem dX9_cut_88 : decode cX9_cut 88 = .ok (.iconst 1, 1) := by decide +kernel
theorem dX9_cut_89 : decode cX9_cut 89 = .ok (.iadd, 1) := by decide +kernel
theorem dX9_cut_90 : decode cX9_cut 90 = .ok (.putfield 58, 3) := by decide +kernel
theorem dX9_cut_93 : decode cX9_cut 93 = .ok (.iload 6, 2) := by decide +kernel
theorem dX9_cut_95 : decode cX9_cut 95 = .ok (.ifCond .eq 12, 3) := by decide +kernel
theorem dX9_cut_98 : decode cX9_cut 98 = .ok (.aload_n 0, 1) := by decide +kernel
theorem dX9_cut_99 : decode cX9_cut 99 = .ok (.invokevirtual 44, 3) := by decide +kernel
theorem dX9_cut_102 : decode cX9_cut 102 = .ok (.aload_n 0, 1) := by decide +kernel
theorem dX9_cut_103 : decode cX9_cut 103 = .ok (.invokevirtual 47, 3) := by decide +kernel
theorem dX9_cut_106 : decode cX9_cut 106 = .ok (.return_, 1) := by decide +kernel
theorem dX9_cut_107 : decode cX9_cut 107 = .ok (.aload_n 0, 1) := by decide +kernel
theorem dX9_cut_108 : decode cX9_cut 108 = .ok (.getfield 35, 3) := by decide +kernel
theorem dX9_cut_111 : decode cX9_cut 111 = .ok (.aload_n 0, 1) := by decide +kernel
theorem dX9_cut_112 : decode cX9_cut 112 = .ok (.getfield 9, 3) := by decide +kernel
theorem dX9_cut_115 : decode cX9_cut 115 = .ok (.aload_n 0, 1) := by decide +kernel
theorem dX9_cut_116 : decode cX9_cut 116 = .ok (.getfield 22, 3) := by decide +kernel
theorem dX9_cut_119 : decode cX9_cut 119 = .ok (.invokevirtual 100, 3) := by decide +kernel
theorem dX9_cut_122 : decode cX9_cut 122 = .ok (.if_icmp .le 7, 3) := by decide +kernel
theorem dX9_cut_125 : decode cX9_cut 125 = .ok (.iconst 1, 1) := by decide +kernel
theorem dX9_cut_126 : decode cX9_cut 126 = .ok (.goto 4, 3) := by decide +kernel
theorem dX9_cut_129 : decode cX9_cut 129 = .ok (.iconst 0, 1) := by decide +kernel
theorem dX9_cut_130 : decode cX9_cut 130 = .ok (.istore 7, 2) := by decide +kernel
theorem dX9_cut_132 : decode cX9_cut 132 = .ok (.aload_n 0, 1) := by decide +kernel
theorem dX9_cut_133 : decode cX9_cut 133 = .ok (.dup, 1) := by decide +kernel
theorem dX9_cut_134 : decode cX9_cut 134 = .ok (.getfield 35, 3) := by decide +kernel
theorem dX9_cut_137 : decode cX9_cut 137 = .ok (.iload 5, 2) := by decide +kernel
theorem dX9_cut_139 : decode cX9_cut 139 = .ok (.iadd, 1) := by decide +kernel
theorem dX9_cut_140 : decode cX9_cut 140 = .ok (.putfield 35, 3) := by decide +kernel
theorem dX9_cut_143 : decode cX9_cut 143 = .ok (.aload_n 0, 1) := by decide +kernel
theorem dX9_cut_144 : decode cX9_cut 144 = .ok (.dup, 1) := by decide +kernel
theorem dX9_cut_145 : decode cX9_cut 145 = .ok (.getfield 32, 3) := by decide +kernel
theorem dX9_cut_148 : decode cX9_cut 148 = .ok (.iload 4, 2) := by decide +kernel
theorem dX9_cut_150 : decode cX9_cut 150 = .ok (.isub, 1) := by decide +kernel
theorem dX9_cut_151 : decode cX9_cut 151 = .ok (.putfield 32, 3) := by decide +kernel
theorem dX9_cut_154 : decode cX9_cut 154 = .ok (.aload_n 0, 1) := by decide +kernel
theorem dX9_cut_155 : decode cX9_cut 155 = .ok (.getfield 32, 3) := by decide +kernel
theorem dX9_cut_158 : decode cX9_cut 158 = .ok (.ifCond .ne 15, 3) := by decide +kernel
theorem dX9_cut_161 : decode cX9_cut 161 = .ok (.iload 7, 2) := by decide +kernel
theorem dX9_cut_163 : decode cX9_cut 163 = .ok (.ifCond .eq 10, 3) := by decide +kernel
theorem dX9_cut_166 : decode cX9_cut 166 = .ok (.aload_n 0, 1) := by decide +kernel
theorem dX9_cut_167 : decode cX9_cut 167 = .ok (.invokevirtual 47, 3) := by decide +kernel
theorem dX9_cut_170 : decode cX9_cut 170 = .ok (.goto 24, 3) := by decide +kernel
theorem dX9_cut_173 : decode cX9_cut 173 = .ok (.aload_n 0, 1) := by decide +kernel
theorem dX9_cut_174 : decode cX9_cut 174 = .ok (.getfield 32, 3) := by decide +kernel
theorem dX9_cut_177 : decode cX9_cut 177 = .ok (.ifCond .ne 17, 3) := by decide +kernel
theorem dX9_cut_180 : decode cX9_cut 180 = .ok (.aload_n 0, 1) := by decide +kernel
theorem dX9_cut_181 : decode cX9_cut 181 = .ok (.dup, 1) := by decide +kernel
theorem dX9_cut_182 : decode cX9_cut 182 = .ok (.getfield 64, 3) := by decide +kernel
theorem dX9_cut_185 : decode cX9_cut 185 = .ok (.iconst 1, 1) := by decide +kernel
theorem dX9_cut_186 : decode cX9_cut 186 = .ok (.iadd, 1) := by decide +kernel
theorem dX9_cut_187 : decode cX9_cut 187 = .ok (.putfield 64, 3) := by decide +kernel
theorem dX9_cut_190 : decode cX9_cut 190 = .ok (.aload_n 0, 1) := by decide +kernel
theorem dX9_cut_191 : decode cX9_cut 191 = .ok (.invokevirtual 77, 3) := by decide +kernel
theorem dX9_cut_194 : decode cX9_cut 194 = .ok (.return_, 1) := by decide +kernel
theorem dX9_draw_0 : decode cX9_draw 0 = .ok (.ldc2_w 103, 3) := by decide +kernel
theorem dX9_draw_3 : decode cX9_draw 3 = .ok (.iload_n 0, 1) := by decide +kernel
theorem dX9_draw_4 : decode cX9_draw 4 = .ok (.i2l, 1) := by decide +kernel
theorem dX9_draw_5 : decode cX9_draw 5 = .ok (.lmul, 1) := by decide +kernel
theorem dX9_draw_6 : decode cX9_draw 6 = .ok (.ldc2_w 105, 3) := by decide +kernel
theorem dX9_draw_9 : decode cX9_draw 9 = .ok (.iload_n 1, 1) := by decide +kernel
theorem dX9_draw_10 : decode cX9_draw 10 = .ok (.i2l, 1) := by decide +kernel
theorem dX9_draw_11 : decode cX9_draw 11 = .ok (.lmul, 1) := by decide +kernel
theorem dX9_draw_12 : decode cX9_draw 12 = .ok (.ladd, 1) := by decide +kernel
theorem dX9_draw_13 : decode cX9_draw 13 = .ok (.lconst 1, 1) := by decide +kernel
theorem dX9_draw_14 : decode cX9_draw 14 = .ok (.ladd, 1) := by decide +kernel
theorem dX9_draw_15 : decode cX9_draw 15 = .ok (.lstore_n 2, 1) := by decide +kernel
theorem dX9_draw_16 : decode cX9_draw 16 = .ok (.lload_n 2, 1) := by decide +kernel
theorem dX9_draw_17 : decode cX9_draw 17 = .ok (.lload_n 2, 1) := by decide +kernel
theorem dX9_draw_18 : decode cX9_draw 18 = .ok (.lmul, 1) := by decide +kernel
theorem dX9_draw_19 : decode cX9_draw 19 = .ok (.ldc2_w 107, 3) := by decide +kernel
theorem dX9_draw_22 : decode cX9_draw 22 = .ok (.lrem, 1) := by decide +kernel
theorem dX9_draw_23 : decode cX9_draw 23 = .ok (.ldc2_w 109, 3) := by decide +kernel
theorem dX9_draw_26 : decode cX9_draw 26 = .ok (.lrem, 1) := by decide +kernel
theorem dX9_draw_27 : decode cX9_draw 27 = .ok (.lreturn, 1) := by decide +kernel
set_option maxRecDepth 20000 in
theorem ggX9_told_X0_cost : GoodIn wsX9_told wsX0_cost := goodIn_r _ [10, 11, 12, 23, 24, 25, 26, 27, 28, 29, 30, 31, 32, 33, 34, 35, 36, 37, 38, 39] (by decide +kernel) (by decide +kernel)
set_option maxRecDepth 20000 in
theorem gX9_told_X0_cost : GoodIn wsX9_told (wsV RX9 114 RX0 yX0_cost wsX0_cost) := goodIn_app (goodIn_of _ (by decide +kernel)) ggX9_told_X0_cost
theorem dX9_told_0 : decode cX9_told 0 = .ok (.iload_n 1, 1) := by decide +kernel
theorem dX9_told_1 : decode cX9_told 1 = .ok (.tableswitch 73 0 3 #[31, 37, 61, 67], 31) := by decide +kernel
theorem dX9_told_32 : decode cX9_told 32 = .ok (.aload_n 0, 1) := by decide +kernel
theorem dX9_told_33 : decode cX9_told 33 = .ok (.getfield 61, 3) := by decide +kernel
theorem dX9_told_36 : decode cX9_told 36 = .ok (.i2l, 1) := by decide +kernel
theorem dX9_told_37 : decode cX9_told 37 = .ok (.lreturn, 1) := by decide +kernel
theorem dX9_told_38 : decode cX9_told 38 = .ok (.aload_n 0, 1) := by decide +kernel
theorem dX9_told_39 : decode cX9_told 39 = .ok (.getfield 9, 3) := by decide +kernel
theorem dX9_told_42 : decode cX9_told 42 = .ok (.aload_n 0, 1) := by decide +kernel
theorem dX9_told_43 : decode cX9_told 43 = .ok (.getfield 61, 3) := by decide +kernel
theorem dX9_told_46 : decode cX9_told 46 = .ok (.aload_n 0, 1) := by decide +kernel
theorem dX9_told_47 : decode cX9_told 47 = .ok (.getfield 9, 3) := by decide +kernel
theorem dX9_told_50 : decode cX9_told 50 = .ok (.getfield 111, 3) := by decide +kernel
theorem dX9_told_53 : decode cX9_told 53 = .ok (.aload_n 0, 1) := by decide +kernel
theorem dX9_told_54 : decode cX9_told 54 = .ok (.getfield 70, 3) := by decide +kernel
theorem dX9_told_57 : decode cX9_told 57 = .ok (.imul, 1) := by decide +kernel
theorem dX9_told_58 : decode cX9_told 58 = .ok (.invokevirtual 114, 3) := by decide +kernel
theorem dX9_told_61 : decode cX9_told 61 = .ok (.lreturn, 1) := by decide +kernel
theorem dX9_told_62 : decode cX9_told 62 = .ok (.aload_n 0, 1) := by decide +kernel
theorem dX9_told_63 : decode cX9_told 63 = .ok (.getfield 64, 3) := by decide +kernel
theorem dX9_told_66 : decode cX9_told 66 = .ok (.i2l, 1) := by decide +kernel
theorem dX9_told_67 : decode cX9_told 67 = .ok (.lreturn, 1) := by decide +kernel
theorem dX9_told_68 : decode cX9_told 68 = .ok (.aload_n 0, 1) := by decide +kernel
theorem dX9_told_69 : decode cX9_told 69 = .ok (.getfield 67, 3) := by decide +kernel
theorem dX9_told_72 : decode cX9_told 72 = .ok (.i2l, 1) := by decide +kernel
theorem dX9_told_73 : decode cX9_told 73 = .ok (.lreturn, 1) := by decide +kernel
theorem dX9_told_74 : decode cX9_told 74 = .ok (.aload_n 0, 1) := by decide +kernel
theorem dX9_told_75 : decode cX9_told 75 = .ok (.getfield 70, 3) := by decide +kernel
theorem dX9_told_78 : decode cX9_told 78 = .ok (.i2l, 1) := by decide +kernel
theorem dX9_told_79 : decode cX9_told 79 = .ok (.lreturn, 1) := by decide +kernel
set_option maxRecDepth 20000 in
theorem ggX10_init_X6_init : GoodIn wsX10_init wsX6_init := goodIn_r _ [12, 13, 2, 3, 14, 15, 16, 17, 18, 19, 20, 30, 31, 32, 33, 34, 35, 36] (by decide +kernel) (by decide +kernel)
set_option maxRecDepth 20000 in
theorem gX10_init_X6_init : GoodIn wsX10_init (wsX6_init) := ggX10_init_X6_init
theorem dX10_init_0 : decode cX10_init 0 = .ok (.aload_n 0, 1) := by decide +kernel
theorem dX10_init_1 : decode cX10_init 1 = .ok (.invokespecial 3, 3) := by decide +kernel
theorem dX10_init_4 : decode cX10_init 4 = .ok (.aload_n 0, 1) := by decide +kernel
theorem dX10_init_5 : decode cX10_init 5 = .ok (.aload_n 1, 1) := by decide +kernel
theorem dX10_init_6 : decode cX10_init 6 = .ok (.putfield 9, 3) := by decide +kernel
theorem dX10_init_9 : decode cX10_init 9 = .ok (.aload_n 0, 1) := by decide +kernel
theorem dX10_init_10 : decode cX10_init 10 = .ok (.aload_n 2, 1) := by decide +kernel
theorem dX10_init_11 : decode cX10_init 11 = .ok (.putfield 15, 3) := by decide +kernel
theorem dX10_init_14 : decode cX10_init 14 = .ok (.aload_n 0, 1) := by decide +kernel
theorem dX10_init_15 : decode cX10_init 15 = .ok (.new 19, 3) := by decide +kernel
theorem dX10_init_18 : decode cX10_init 18 = .ok (.dup, 1) := by decide +kernel
theorem dX10_init_19 : decode cX10_init 19 = .ok (.aload_n 1, 1) := by decide +kernel
theorem dX10_init_20 : decode cX10_init 20 = .ok (.invokespecial 21, 3) := by decide +kernel
theorem dX10_init_23 : decode cX10_init 23 = .ok (.putfield 24, 3) := by decide +kernel
theorem dX10_init_26 : decode cX10_init 26 = .ok (.return_, 1) := by decide +kernel
set_option maxRecDepth 20000 in
theorem ggX10_spread_X6_clear : GoodIn wsX10_spread wsX6_clear := goodIn_r _ [13, 14, 15, 16, 17, 18, 19, 158, 159, 160, 161, 162, 163, 164] (by decide +kernel) (by decide +kernel)
set_option maxRecDepth 20000 in
theorem gX10_spread_X6_clear : GoodIn wsX10_spread (wsV RX10 47 RX6 yX6_clear wsX6_clear) := goodIn_app (goodIn_of _ (by decide +kernel)) ggX10_spread_X6_clear
set_option maxRecDepth 20000 in
theorem ggX10_spread_X6_setAct : GoodIn wsX10_spread wsX6_setAct := goodIn_r _ [23, 14, 24, 25, 12, 26, 158, 159, 160, 161, 162, 163, 164] (by decide +kernel) (by decide +kernel)
set_option maxRecDepth 20000 in
theorem gX10_spread_X6_setAct : GoodIn wsX10_spread (wsV RX10 50 RX6 yX6_setAct wsX6_setAct) := goodIn_app (goodIn_of _ (by decide +kernel)) ggX10_spread_X6_setAct
set_option maxRecDepth 20000 in
theorem ggX10_spread_X0_stepsOf : GoodIn wsX10_spread wsX0_stepsOf := goodIn_r _ [31, 32, 33, 34, 35, 141, 142, 143, 144, 145, 146, 147, 148, 149, 150, 151, 152, 153, 154, 155, 156, 157] (by decide +kernel) (by decide +kernel)
set_option maxRecDepth 20000 in
theorem gX10_spread_X0_stepsOf : GoodIn wsX10_spread (wsV RX10 59 RX0 yX0_stepsOf wsX0_stepsOf) := goodIn_app (goodIn_of _ (by decide +kernel)) ggX10_spread_X0_stepsOf
set_option maxRecDepth 20000 in
theorem ggX10_spread_X6_actAt : GoodIn wsX10_spread wsX6_actAt := goodIn_r _ [39, 14, 24, 25, 12, 26, 158, 159, 160, 161, 162, 163, 164] (by decide +kernel) (by decide +kernel)
set_option maxRecDepth 20000 in
theorem gX10_spread_X6_actAt : GoodIn wsX10_spread (wsV RX10 63 RX6 yX6_actAt wsX6_actAt) := goodIn_app (goodIn_of _ (by decide +kernel)) ggX10_spread_X6_actAt
set_option maxRecDepth 20000 in
theorem ggX10_spread_X10_step : GoodIn wsX10_spread wsX10_step := goodIn_r _ [44, 45, 1, 2, 7, 46, 47, 48, 49, 50, 51, 52, 53, 54, 55, 56, 57, 58, 59, 30, 60, 61, 62, 63, 64, 65, 66, 67, 33, 34, 35, 68, 69, 70, 71, 72, 73, 74, 75, 76, 77, 78, 79, 80, 28, 29, 31, 32, 81, 82, 83, 84, 85, 86, 87, 88, 89, 90, 91, 92, 93, 94, 95, 96, 97, 98, 37, 38, 12, 39, 14, 24, 25, 26, 99, 100, 101, 102, 103, 20, 21, 22, 23, 104, 105, 106, 43, 107, 8, 108, 109, 110, 111, 112, 27, 113, 114, 115, 116, 3, 117, 118, 119, 120, 121, 122, 123, 124, 125, 126, 127, 128, 129, 130, 131, 132, 133, 134, 135, 136, 137, 138, 139, 140, 165, 166, 167, 168, 169, 170, 171, 172, 173, 174, 141, 142, 143, 144, 145, 146, 147, 148, 149, 150, 151, 152, 153, 154, 155, 156, 157, 158, 159, 160, 161, 162, 163, 164] (by decide +kernel) (by decide +kernel)
set_option maxRecDepth 20000 in
theorem gX10_spread_X10_step : GoodIn wsX10_spread (wsV RX10 67 RX10 yX10_step wsX10_step) := goodIn_app (goodIn_of _ (by decide +kernel)) ggX10_spread_X10_step
theorem dX10_spread_0 : decode cX10_spread 0 = .ok (.aload_n 0, 1) := by decide +kernel
theorem dX10_spread_1 : decode cX10_spread 1 = .ok (.iload_n 1, 1) := by decide +kernel
theorem dX10_spread_2 : decode cX10_spread 2 = .ok (.putfield 28, 3) := by decide +kernel
theorem dX10_spread_5 : decode cX10_spread 5 = .ok (.aload_n 0, 1) := by decide +kernel
theorem dX10_spread_6 : decode cX10_spread 6 = .ok (.iload_n 2, 1) := by decide +kernel
theorem dX10_spread_7 : decode cX10_spread 7 = .ok (.putfield 32, 3) := by decide +kernel
theorem dX10_spread_10 : decode cX10_spread 10 = .ok (.aload_n 0, 1) := by decide +kernel
theorem dX10_spread_11 : decode cX10_spread 11 = .ok (.iload_n 3, 1) := by decide +kernel
theorem dX10_spread_12 : decode cX10_spread 12 = .ok (.putfield 35, 3) := by decide +kernel
theorem dX10_spread_15 : decode cX10_spread 15 = .ok (.aload_n 0, 1) := by decide +kernel
theorem dX10_spread_16 : decode cX10_spread 16 = .ok (.iload 4, 2) := by decide +kernel
theorem dX10_spread_18 : decode cX10_spread 18 = .ok (.putfield 38, 3) := by decide +kernel
theorem dX10_spread_21 : decode cX10_spread 21 = .ok (.aload_n 0, 1) := by decide +kernel
theorem dX10_spread_22 : decode cX10_spread 22 = .ok (.iload 5, 2) := by decide +kernel
theorem dX10_spread_24 : decode cX10_spread 24 = .ok (.putfield 41, 3) := by decide +kernel
theorem dX10_spread_27 : decode cX10_spread 27 = .ok (.aload_n 0, 1) := by decide +kernel
theorem dX10_spread_28 : decode cX10_spread 28 = .ok (.iload 6, 2) := by decide +kernel
theorem dX10_spread_30 : decode cX10_spread 30 = .ok (.putfield 44, 3) := by decide +kernel
theorem dX10_spread_33 : decode cX10_spread 33 = .ok (.aload_n 0, 1) := by decide +kernel
theorem dX10_spread_34 : decode cX10_spread 34 = .ok (.getfield 24, 3) := by decide +kernel
theorem dX10_spread_37 : decode cX10_spread 37 = .ok (.invokevirtual 47, 3) := by decide +kernel
theorem dX10_spread_40 : decode cX10_spread 40 = .ok (.aload_n 0, 1) := by decide +kernel
theorem dX10_spread_41 : decode cX10_spread 41 = .ok (.getfield 24, 3) := by decide +kernel
theorem dX10_spread_44 : decode cX10_spread 44 = .ok (.iload 4, 2) := by decide +kernel
theorem dX10_spread_46 : decode cX10_spread 46 = .ok (.iload 5, 2) := by decide +kernel
theorem dX10_spread_48 : decode cX10_spread 48 = .ok (.iload 6, 2) := by decide +kernel
theorem dX10_spread_50 : decode cX10_spread 50 = .ok (.iconst 0, 1) := by decide +kernel
theorem dX10_spread_51 : decode cX10_spread 51 = .ok (.invokevirtual 50, 3) := by decide +kernel
theorem dX10_spread_54 : decode cX10_spread 54 = .ok (.iload 4, 2) := by decide +kernel
theorem dX10_spread_56 : decode cX10_spread 56 = .ok (.istore 7, 2) := by decide +kernel
theorem dX10_spread_58 : decode cX10_spread 58 = .ok (.iload 7, 2) := by decide +kernel
theorem dX10_spread_60 : decode cX10_spread 60 = .ok (.aload_n 0, 1) := by decide +kernel
theorem dX10_spread_61 : decode cX10_spread 61 = .ok (.getfield 9, 3) := by decide +kernel
theorem dX10_spread_64 : decode cX10_spread 64 = .ok (.getfield 54, 3) := by decide +kernel
theorem dX10_spread_67 : decode cX10_spread 67 = .ok (.if_icmp .ge 74, 3) := by decide +kernel
theorem dX10_spread_70 : decode cX10_spread 70 = .ok (.aload_n 0, 1) := by decide +kernel
theorem dX10_spread_71 : decode cX10_spread 71 = .ok (.getfield 9, 3) := by decide +kernel
theorem dX10_spread_74 : decode cX10_spread 74 = .ok (.iload 7, 2) := by decide +kernel
theorem dX10_spread_76 : decode cX10_spread 76 = .ok (.invokevirtual 59, 3) := by decide +kernel
theorem dX10_spread_79 : decode cX10_spread 79 = .ok (.istore 8, 2) := by decide +kernel
theorem dX10_spread_81 : decode cX10_spread 81 = .ok (.iload 8, 2) := by decide +kernel
theorem dX10_spread_83 : decode cX10_spread 83 = .ok (.iconst 1, 1) := by decide +kernel
theorem dX10_spread_84 : decode cX10_spread 84 = .ok (.if_icmp .lt 51, 3) := by decide +kernel
theorem dX10_spread_87 : decode cX10_spread 87 = .ok (.bipush 100, 2) := by decide +kernel
theorem dX10_spread_89 : decode cX10_spread 89 = .ok (.istore 9, 2) := by decide +kernel
theorem dX10_spread_91 : decode cX10_spread 91 = .ok (.iload 9, 2) := by decide +kernel
theorem dX10_spread_93 : decode cX10_spread 93 = .ok (.ifCond .lt 36, 3) := by decide +kernel
theorem dX10_spread_96 : decode cX10_spread 96 = .ok (.aload_n 0, 1) := by decide +kernel
theorem dX10_spread_97 : decode cX10_spread 97 = .ok (.getfield 24, 3) := by decide +kernel
theorem dX10_spread_100 : decode cX10_spread 100 = .ok (.iload 7, 2) := by decide +kernel
theorem dX10_spread_102 : decode cX10_spread 102 = .ok (.iload 8, 2) := by decide +kernel
theorem dX10_spread_104 : decode cX10_spread 104 = .ok (.iload 9, 2) := by decide +kernel
theorem dX10_spread_106 : decode cX10_spread 106 = .ok (.invokevirtual 63, 3) := by decide +kernel
theorem dX10_spread_109 : decode cX10_spread 109 = .ok (.iconst (-1), 1) := by decide +kernel
theorem dX10_spread_110 : decode cX10_spread 110 = .ok (.if_icmp .eq 13, 3) := by decide +kernel
theorem dX10_spread_113 : decode cX10_spread 113 = .ok (.aload_n 0, 1) := by decide +kernel
theorem dX10_spread_114 : decode cX10_spread 114 = .ok (.iload 7, 2) := by decide +kernel
theorem dX10_spread_116 : decode cX10_spread 116 = .ok (.iload 8, 2) := by decide +kernel
theorem dX10_spread_118 : decode cX10_spread 118 = .ok (.iload 9, 2) := by decide +kernel
theorem dX10_spread_120 : decode cX10_spread 120 = .ok (.invokevirtual 67, 3) := by decide +kernel
theorem dX10_spread_123 : decode cX10_spread 123 = .ok (.iinc 9 (-1), 3) := by decide +kernel
theorem dX10_spread_126 : decode cX10_spread 126 = .ok (.goto (-35), 3) := by decide +kernel
theorem dX10_spread_129 : decode cX10_spread 129 = .ok (.iinc 8 (-1), 3) := by decide +kernel
theorem dX10_spread_132 : decode cX10_spread 132 = .ok (.goto (-51), 3) := by decide +kernel
theorem dX10_spread_135 : decode cX10_spread 135 = .ok (.iinc 7 1, 3) := by decide +kernel
theorem dX10_spread_138 : decode cX10_spread 138 = .ok (.goto (-80), 3) := by decide +kernel
theorem dX10_spread_141 : decode cX10_spread 141 = .ok (.return_, 1) := by decide +kernel
set_option maxRecDepth 20000 in
theorem ggX10_step_X2_choose : GoodIn wsX10_step wsX2_choose := goodIn_r _ [9, 10, 11, 12, 13, 14, 8, 15, 16, 17, 18, 19, 20, 21, 22, 23, 24, 25, 26, 27, 28, 29, 30, 31, 32, 33, 34, 35, 36, 37, 38, 39, 40, 41, 42, 43, 44, 45, 46, 47, 48, 49, 50, 51, 52, 53, 54, 55, 56, 57, 58, 59, 60, 61, 62, 63, 64, 65, 66, 67, 68, 69, 70, 71, 72, 73, 74, 75, 76, 77, 78, 124, 125, 126, 127, 128, 129, 130, 131, 132, 133, 134, 135, 136, 137, 138, 139, 140, 141, 142, 143, 144, 145, 146, 147, 148, 149, 150, 151, 152, 153, 154, 155, 156, 157] (by decide +kernel) (by decide +kernel)
set_option maxRecDepth 20000 in
theorem gX10_step_X2_choose : GoodIn wsX10_step (wsV RX10 71 RX2 yX2_choose wsX2_choose) := goodIn_app (goodIn_of _ (by decide +kernel)) ggX10_step_X2_choose
set_option maxRecDepth 20000 in
theorem ggX10_step_X6_setAct : GoodIn wsX10_step wsX6_setAct := goodIn_r _ [82, 70, 71, 72, 68, 73, 151, 152, 153, 154, 155, 156, 157] (by decide +kernel) (by decide +kernel)
set_option maxRecDepth 20000 in
theorem gX10_step_X6_setAct : GoodIn wsX10_step (wsV RX10 50 RX6 yX6_setAct wsX6_setAct) := goodIn_app (goodIn_of _ (by decide +kernel)) ggX10_step_X6_setAct
set_option maxRecDepth 20000 in
theorem ggX10_step_X10_markStart : GoodIn wsX10_step wsX10_markStart := goodIn_r _ [87, 88, 4, 89, 90, 91, 19, 92, 93, 63, 29, 64, 94, 44, 45, 46, 47, 28, 30, 79, 80, 81, 68, 82, 70, 71, 72, 73, 115, 116, 117, 118, 119, 120, 121, 122, 123, 134, 135, 136, 137, 138, 139, 140, 141, 142, 143, 144, 145, 146, 147, 148, 149, 150, 151, 152, 153, 154, 155, 156, 157] (by decide +kernel) (by decide +kernel)
set_option maxRecDepth 20000 in
theorem gX10_step_X10_markStart : GoodIn wsX10_step (wsV RX10 77 RX10 yX10_markStart wsX10_markStart) := goodIn_app (goodIn_of _ (by decide +kernel)) ggX10_step_X10_markStart
set_option maxRecDepth 20000 in
theorem ggX10_step_X10_markBehindPass : GoodIn wsX10_step wsX10_markBehindPass := goodIn_r _ [98, 88, 99, 4, 100, 29, 101, 102, 103, 104, 105, 106, 19, 107, 108, 57, 109, 28, 30, 110, 111, 112, 113, 114, 83, 84, 85, 86, 87, 89, 90, 91, 92, 93, 63, 64, 94, 44, 45, 46, 47, 79, 80, 81, 68, 82, 70, 71, 72, 73, 115, 116, 117, 118, 119, 120, 121, 122, 123, 134, 135, 136, 137, 138, 139, 140, 141, 142, 143, 144, 145, 146, 147, 148, 149, 150, 151, 152, 153, 154, 155, 156, 157] (by decide +kernel) (by decide +kernel)
set_option maxRecDepth 20000 in
theorem gX10_step_X10_markBehindPass : GoodIn wsX10_step (wsV RX10 81 RX10 yX10_markBehindPass wsX10_markBehindPass) := goodIn_app (goodIn_of _ (by decide +kernel)) ggX10_step_X10_markBehindPass
theorem dX10_step_0 : decode cX10_step 0 = .ok (.aload_n 0, 1) := by decide +kernel
theorem dX10_step_1 : decode cX10_step 1 = .ok (.getfield 15, 3) := by decide +kernel
theorem dX10_step_4 : decode cX10_step 4 = .ok (.aload_n 0, 1) := by decide +kernel
theorem dX10_step_5 : decode cX10_step 5 = .ok (.getfield 28, 3) := by decide +kernel
theorem dX10_step_8 : decode cX10_step 8 = .ok (.aload_n 0, 1) := by decide +kernel
theorem dX10_step_9 : decode cX10_step 9 = .ok (.getfield 32, 3) := by decide +kernel
theorem dX10_step_12 : decode cX10_step 12 = .ok (.iload_n 1, 1) := by decide +kernel
theorem dX10_step_13 : decode cX10_step 13 = .ok (.iload_n 2, 1) := by decide +kernel
theorem dX10_step_14 : decode cX10_step 14 = .ok (.iload_n 3, 1) := by decide +kernel
theorem dX10_step_15 : decode cX10_step 15 = .ok (.invokevirtual 71, 3) := by decide +kernel
theorem dX10_step_18 : decode cX10_step 18 = .ok (.istore 4, 2) := by decide +kernel
theorem dX10_step_20 : decode cX10_step 20 = .ok (.aload_n 0, 1) := by decide +kernel
theorem dX10_step_21 : decode cX10_step 21 = .ok (.getfield 24, 3) := by decide +kernel
theorem dX10_step_24 : decode cX10_step 24 = .ok (.iload_n 1, 1) := by decide +kernel
theorem dX10_step_25 : decode cX10_step 25 = .ok (.iload_n 2, 1) := by decide +kernel
theorem dX10_step_26 : decode cX10_step 26 = .ok (.iload_n 3, 1) := by decide +kernel
theorem dX10_step_27 : decode cX10_step 27 = .ok (.iload 4, 2) := by decide +kernel
theorem dX10_step_29 : decode cX10_step 29 = .ok (.invokevirtual 50, 3) := by decide +kernel
theorem dX10_step_32 : decode cX10_step 32 = .ok (.iload 4, 2) := by decide +kernel
theorem dX10_step_34 : decode cX10_step 34 = .ok (.bipush 48, 2) := by decide +kernel
theorem dX10_step_36 : decode cX10_step 36 = .ok (.if_icmp .ne 17, 3) := by decide +kernel
theorem dX10_step_39 : decode cX10_step 39 = .ok (.aload_n 0, 1) := by decide +kernel
theorem dX10_step_40 : decode cX10_step 40 = .ok (.getfield 24, 3) := by decide +kernel
theorem dX10_step_43 : decode cX10_step 43 = .ok (.iload_n 1, 1) := by decide +kernel
theorem dX10_step_44 : decode cX10_step 44 = .ok (.iload_n 2, 1) := by decide +kernel
theorem dX10_step_45 : decode cX10_step 45 = .ok (.iconst 0, 1) := by decide +kernel
theorem dX10_step_46 : decode cX10_step 46 = .ok (.iconst 0, 1) := by decide +kernel
theorem dX10_step_47 : decode cX10_step 47 = .ok (.invokevirtual 50, 3) := by decide +kernel
theorem dX10_step_50 : decode cX10_step 50 = .ok (.goto 30, 3) := by decide +kernel
theorem dX10_step_53 : decode cX10_step 53 = .ok (.iload 4, 2) := by decide +kernel
theorem dX10_step_55 : decode cX10_step 55 = .ok (.bipush 49, 2) := by decide +kernel
theorem dX10_step_57 : decode cX10_step 57 = .ok (.if_icmp .ne 14, 3) := by decide +kernel
theorem dX10_step_60 : decode cX10_step 60 = .ok (.aload_n 0, 1) := by decide +kernel
theorem dX10_step_61 : decode cX10_step 61 = .ok (.iload_n 1, 1) := by decide +kernel
theorem dX10_step_62 : decode cX10_step 62 = .ok (.iconst 1, 1) := by decide +kernel
theorem dX10_step_63 : decode cX10_step 63 = .ok (.iadd, 1) := by decide +kernel
theorem dX10_step_64 : decode cX10_step 64 = .ok (.iload_n 3, 1) := by decide +kernel
theorem dX10_step_65 : decode cX10_step 65 = .ok (.invokevirtual 77, 3) := by decide +kernel
theorem dX10_step_68 : decode cX10_step 68 = .ok (.goto 12, 3) := by decide +kernel
theorem dX10_step_71 : decode cX10_step 71 = .ok (.aload_n 0, 1) := by decide +kernel
theorem dX10_step_72 : decode cX10_step 72 = .ok (.iload 4, 2) := by decide +kernel
theorem dX10_step_74 : decode cX10_step 74 = .ok (.iload_n 1, 1) := by decide +kernel
theorem dX10_step_75 : decode cX10_step 75 = .ok (.iload_n 2, 1) := by decide +kernel
theorem dX10_step_76 : decode cX10_step 76 = .ok (.iload_n 3, 1) := by decide +kernel
theorem dX10_step_77 : decode cX10_step 77 = .ok (.invokevirtual 81, 3) := by decide +kernel
theorem dX10_step_80 : decode cX10_step 80 = .ok (.return_, 1) := by decide +kernel
set_option maxRecDepth 20000 in
theorem ggX10_markBehindPass_X11_depthOf : GoodIn wsX10_markBehindPass wsX11_depthOf := goodIn_r _ [6] (by decide +kernel) (by decide +kernel)
set_option maxRecDepth 20000 in
theorem gX10_markBehindPass_X11_depthOf_n84 : GoodIn wsX10_markBehindPass (wsX11_depthOf) := ggX10_markBehindPass_X11_depthOf
set_option maxRecDepth 20000 in
theorem ggX10_markBehindPass_X11_speedOf : GoodIn wsX10_markBehindPass wsX11_speedOf := goodIn_r _ [8] (by decide +kernel) (by decide +kernel)
set_option maxRecDepth 20000 in
theorem gX10_markBehindPass_X11_speedOf_n87 : GoodIn wsX10_markBehindPass (wsX11_speedOf) := ggX10_markBehindPass_X11_speedOf
set_option maxRecDepth 20000 in
theorem ggX10_markBehindPass_X0_wears : GoodIn wsX10_markBehindPass wsX0_wears := goodIn_r _ [13, 14, 15, 16, 17, 5, 18, 59, 60, 61, 62, 63, 64, 65, 66, 67, 68, 69, 70, 71, 72, 73, 74, 75] (by decide +kernel) (by decide +kernel)
set_option maxRecDepth 20000 in
theorem gX10_markBehindPass_X0_wears : GoodIn wsX10_markBehindPass (wsV RX10 90 RX0 yX0_wears wsX0_wears) := goodIn_app (goodIn_of _ (by decide +kernel)) ggX10_markBehindPass_X0_wears
set_option maxRecDepth 20000 in
theorem ggX10_markBehindPass_X0_risk : GoodIn wsX10_markBehindPass wsX0_risk := goodIn_r _ [22, 23, 17, 5, 18, 59, 60, 61, 62, 63, 64, 65, 66, 67, 68, 69, 70, 71, 72, 73, 74, 75] (by decide +kernel) (by decide +kernel)
set_option maxRecDepth 20000 in
theorem gX10_markBehindPass_X0_risk : GoodIn wsX10_markBehindPass (wsV RX10 94 RX0 yX0_risk wsX0_risk) := goodIn_app (goodIn_of _ (by decide +kernel)) ggX10_markBehindPass_X0_risk
set_option maxRecDepth 20000 in
theorem ggX10_markBehindPass_X10_markStart : GoodIn wsX10_markBehindPass wsX10_markStart := goodIn_r _ [28, 1, 3, 29, 30, 31, 12, 32, 33, 34, 5, 35, 36, 37, 38, 39, 40, 17, 18, 41, 42, 43, 44, 45, 46, 47, 48, 49, 50, 51, 52, 53, 54, 55, 56, 57, 58, 59, 60, 61, 62, 63, 64, 65, 66, 67, 68, 69, 70, 71, 72, 73, 74, 75, 76, 77, 78, 79, 80, 81, 82] (by decide +kernel) (by decide +kernel)
