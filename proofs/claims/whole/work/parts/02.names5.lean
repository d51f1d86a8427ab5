set_option maxRecDepth 20000 in
theorem ggX12_habit_X12_steps : GoodIn wsX12_habit wsX12_steps := goodIn_r _ [22, 2, 23, 24, 25, 26, 27, 28, 29, 30, 31, 32, 33, 34, 35, 36, 37, 38, 39, 40, 41, 42, 43, 44, 45, 46, 47, 48, 49, 50, 51, 52, 53] (by decide +kernel) (by decide +kernel)
set_option maxRecDepth 20000 in
theorem gX12_habit_X12_steps : GoodIn wsX12_habit (wsV RX12 170 RX12 yX12_steps wsX12_steps) := goodIn_app (goodIn_of _ (by decide +kernel)) ggX12_habit_X12_steps
theorem dX12_habit_0 : decode cX12_habit 0 = .ok (.iload_n 1, 1) := by decide +kernel
theorem dX12_habit_1 : decode cX12_habit 1 = .ok (.iconst 5, 1) := by decide +kernel
theorem dX12_habit_2 : decode cX12_habit 2 = .ok (.if_icmp .ne 10, 3) := by decide +kernel
theorem dX12_habit_5 : decode cX12_habit 5 = .ok (.aload_n 0, 1) := by decide +kernel
theorem dX12_habit_6 : decode cX12_habit 6 = .ok (.invokevirtual 210, 3) := by decide +kernel
theorem dX12_habit_9 : decode cX12_habit 9 = .ok (.goto 9, 3) := by decide +kernel
theorem dX12_habit_12 : decode cX12_habit 12 = .ok (.aload_n 0, 1) := by decide +kernel
theorem dX12_habit_13 : decode cX12_habit 13 = .ok (.getfield 44, 3) := by decide +kernel
theorem dX12_habit_16 : decode cX12_habit 16 = .ok (.iconst 0, 1) := by decide +kernel
theorem dX12_habit_17 : decode cX12_habit 17 = .ok (.iaload, 1) := by decide +kernel
theorem dX12_habit_18 : decode cX12_habit 18 = .ok (.istore 5, 2) := by decide +kernel
theorem dX12_habit_20 : decode cX12_habit 20 = .ok (.aload_n 0, 1) := by decide +kernel
theorem dX12_habit_21 : decode cX12_habit 21 = .ok (.iload 5, 2) := by decide +kernel
theorem dX12_habit_23 : decode cX12_habit 23 = .ok (.iload_n 3, 1) := by decide +kernel
theorem dX12_habit_24 : decode cX12_habit 24 = .ok (.invokevirtual 213, 3) := by decide +kernel
theorem dX12_habit_27 : decode cX12_habit 27 = .ok (.istore 6, 2) := by decide +kernel
theorem dX12_habit_29 : decode cX12_habit 29 = .ok (.iload 6, 2) := by decide +kernel
theorem dX12_habit_31 : decode cX12_habit 31 = .ok (.ifCond .ne 6, 3) := by decide +kernel
theorem dX12_habit_34 : decode cX12_habit 34 = .ok (.bipush 49, 2) := by decide +kernel
theorem dX12_habit_36 : decode cX12_habit 36 = .ok (.ireturn, 1) := by decide +kernel
theorem dX12_habit_37 : decode cX12_habit 37 = .ok (.iload_n 1, 1) := by decide +kernel
theorem dX12_habit_38 : decode cX12_habit 38 = .ok (.iconst 3, 1) := by decide +kernel
theorem dX12_habit_39 : decode cX12_habit 39 = .ok (.if_icmp .ne 14, 3) := by decide +kernel
theorem dX12_habit_42 : decode cX12_habit 42 = .ok (.iload 4, 2) := by decide +kernel
theorem dX12_habit_44 : decode cX12_habit 44 = .ok (.iload 4, 2) := by decide +kernel
theorem dX12_habit_46 : decode cX12_habit 46 = .ok (.bipush 10, 2) := by decide +kernel
theorem dX12_habit_48 : decode cX12_habit 48 = .ok (.irem, 1) := by decide +kernel
theorem dX12_habit_49 : decode cX12_habit 49 = .ok (.isub, 1) := by decide +kernel
theorem dX12_habit_50 : decode cX12_habit 50 = .ok (.goto 5, 3) := by decide +kernel
theorem dX12_habit_53 : decode cX12_habit 53 = .ok (.iload 4, 2) := by decide +kernel
theorem dX12_habit_55 : decode cX12_habit 55 = .ok (.istore 7, 2) := by decide +kernel
theorem dX12_habit_57 : decode cX12_habit 57 = .ok (.iload 7, 2) := by decide +kernel
theorem dX12_habit_59 : decode cX12_habit 59 = .ok (.aload_n 0, 1) := by decide +kernel
theorem dX12_habit_60 : decode cX12_habit 60 = .ok (.getfield 44, 3) := by decide +kernel
theorem dX12_habit_63 : decode cX12_habit 63 = .ok (.iconst 1, 1) := by decide +kernel
theorem dX12_habit_64 : decode cX12_habit 64 = .ok (.iaload, 1) := by decide +kernel
theorem dX12_habit_65 : decode cX12_habit 65 = .ok (.if_icmp .gt 24, 3) := by decide +kernel
theorem dX12_habit_68 : decode cX12_habit 68 = .ok (.iload 6, 2) := by decide +kernel
theorem dX12_habit_70 : decode cX12_habit 70 = .ok (.iload_n 3, 1) := by decide +kernel
theorem dX12_habit_71 : decode cX12_habit 71 = .ok (.if_icmp .ne 22, 3) := by decide +kernel
theorem dX12_habit_74 : decode cX12_habit 74 = .ok (.iload 7, 2) := by decide +kernel
theorem dX12_habit_76 : decode cX12_habit 76 = .ok (.aload_n 0, 1) := by decide +kernel
theorem dX12_habit_77 : decode cX12_habit 77 = .ok (.getfield 26, 3) := by decide +kernel
theorem dX12_habit_80 : decode cX12_habit 80 = .ok (.iconst 4, 1) := by decide +kernel
theorem dX12_habit_81 : decode cX12_habit 81 = .ok (.iload_n 2, 1) := by decide +kernel
theorem dX12_habit_82 : decode cX12_habit 82 = .ok (.imul, 1) := by decide +kernel
theorem dX12_habit_83 : decode cX12_habit 83 = .ok (.iconst 2, 1) := by decide +kernel
theorem dX12_habit_84 : decode cX12_habit 84 = .ok (.iadd, 1) := by decide +kernel
theorem dX12_habit_85 : decode cX12_habit 85 = .ok (.iaload, 1) := by decide +kernel
theorem dX12_habit_86 : decode cX12_habit 86 = .ok (.if_icmp .le 7, 3) := by decide +kernel
theorem dX12_habit_89 : decode cX12_habit 89 = .ok (.iconst 1, 1) := by decide +kernel
theorem dX12_habit_90 : decode cX12_habit 90 = .ok (.goto 4, 3) := by decide +kernel
theorem dX12_habit_93 : decode cX12_habit 93 = .ok (.iconst 0, 1) := by decide +kernel
theorem dX12_habit_94 : decode cX12_habit 94 = .ok (.istore 8, 2) := by decide +kernel
theorem dX12_habit_96 : decode cX12_habit 96 = .ok (.iload_n 1, 1) := by decide +kernel
theorem dX12_habit_97 : decode cX12_habit 97 = .ok (.iconst 2, 1) := by decide +kernel
theorem dX12_habit_98 : decode cX12_habit 98 = .ok (.if_icmp .ne 34, 3) := by decide +kernel
theorem dX12_habit_101 : decode cX12_habit 101 = .ok (.iload_n 2, 1) := by decide +kernel
theorem dX12_habit_102 : decode cX12_habit 102 = .ok (.ifCond .le 27, 3) := by decide +kernel
theorem dX12_habit_105 : decode cX12_habit 105 = .ok (.iload_n 2, 1) := by decide +kernel
theorem dX12_habit_106 : decode cX12_habit 106 = .ok (.aload_n 0, 1) := by decide +kernel
theorem dX12_habit_107 : decode cX12_habit 107 = .ok (.getfield 44, 3) := by decide +kernel
theorem dX12_habit_110 : decode cX12_habit 110 = .ok (.iconst 2, 1) := by decide +kernel
theorem dX12_habit_111 : decode cX12_habit 111 = .ok (.iaload, 1) := by decide +kernel
theorem dX12_habit_112 : decode cX12_habit 112 = .ok (.irem, 1) := by decide +kernel
theorem dX12_habit_113 : decode cX12_habit 113 = .ok (.ifCond .ne 16, 3) := by decide +kernel
theorem dX12_habit_116 : decode cX12_habit 116 = .ok (.iload_n 3, 1) := by decide +kernel
theorem dX12_habit_117 : decode cX12_habit 117 = .ok (.aload_n 0, 1) := by decide +kernel
theorem dX12_habit_118 : decode cX12_habit 118 = .ok (.iload_n 2, 1) := by decide +kernel
theorem dX12_habit_119 : decode cX12_habit 119 = .ok (.invokevirtual 170, 3) := by decide +kernel
theorem dX12_habit_122 : decode cX12_habit 122 = .ok (.if_icmp .ne 7, 3) := by decide +kernel
theorem dX12_habit_125 : decode cX12_habit 125 = .ok (.iconst 1, 1) := by decide +kernel
theorem dX12_habit_126 : decode cX12_habit 126 = .ok (.goto 4, 3) := by decide +kernel
theorem dX12_habit_129 : decode cX12_habit 129 = .ok (.iconst 0, 1) := by decide +kernel
theorem dX12_habit_130 : decode cX12_habit 130 = .ok (.istore 8, 2) := by decide +kernel
theorem dX12_habit_132 : decode cX12_habit 132 = .ok (.iload 8, 2) := by decide +kernel
theorem dX12_habit_134 : decode cX12_habit 134 = .ok (.ifCond .eq 13, 3) := by decide +kernel
theorem dX12_habit_137 : decode cX12_habit 137 = .ok (.iload 4, 2) := by decide +kernel
theorem dX12_habit_139 : decode cX12_habit 139 = .ok (.ifCond .le 8, 3) := by decide +kernel
theorem dX12_habit_142 : decode cX12_habit 142 = .ok (.bipush 48, 2) := by decide +kernel
theorem dX12_habit_144 : decode cX12_habit 144 = .ok (.goto 13, 3) := by decide +kernel
theorem dX12_habit_147 : decode cX12_habit 147 = .ok (.bipush 8, 2) := by decide +kernel
theorem dX12_habit_149 : decode cX12_habit 149 = .ok (.iload 5, 2) := by decide +kernel
theorem dX12_habit_151 : decode cX12_habit 151 = .ok (.imul, 1) := by decide +kernel
theorem dX12_habit_152 : decode cX12_habit 152 = .ok (.iload 6, 2) := by decide +kernel
theorem dX12_habit_154 : decode cX12_habit 154 = .ok (.iadd, 1) := by decide +kernel
theorem dX12_habit_155 : decode cX12_habit 155 = .ok (.iconst 1, 1) := by decide +kernel
theorem dX12_habit_156 : decode cX12_habit 156 = .ok (.isub, 1) := by decide +kernel
theorem dX12_habit_157 : decode cX12_habit 157 = .ok (.ireturn, 1) := by decide +kernel
set_option maxRecDepth 20000 in
theorem ggX12_handles_X12_counts : GoodIn wsX12_handles wsX12_counts := goodIn_r _ [7, 8, 9, 10, 11, 12, 13, 14, 15, 16, 17, 85, 86, 87, 88, 89, 90, 91, 92, 93, 94, 95, 96, 97, 98, 99, 100, 101, 102, 103, 104, 105, 106, 107, 108, 109, 110, 111, 112, 113, 114, 115] (by decide +kernel) (by decide +kernel)
set_option maxRecDepth 20000 in
theorem gX12_handles_X12_counts : GoodIn wsX12_handles (wsV RX12 216 RX12 yX12_counts wsX12_counts) := goodIn_app (goodIn_of _ (by decide +kernel)) ggX12_handles_X12_counts
set_option maxRecDepth 20000 in
theorem ggX12_handles_X12_solves : GoodIn wsX12_handles wsX12_solves := goodIn_r _ [21, 1, 2, 22, 23, 24, 25, 6, 26, 27, 28, 29, 30, 31, 32, 33, 34, 35, 36, 37, 38, 39, 40, 41, 42, 43, 44, 45, 46, 8, 47, 48, 49, 50, 51, 12, 17, 15, 11, 10, 9, 52, 53, 54, 55, 56, 57, 58, 59, 60, 61, 62, 63, 64, 65, 66, 67, 68, 69, 70, 71, 85, 86, 87, 88, 89, 90, 91, 92, 93, 94, 95, 96, 97, 98, 99, 100, 101, 102, 103, 104, 105, 106, 107, 108, 109, 110, 111, 112, 113, 114, 115] (by decide +kernel) (by decide +kernel)
set_option maxRecDepth 20000 in
theorem gX12_handles_X12_solves : GoodIn wsX12_handles (wsV RX12 219 RX12 yX12_solves wsX12_solves) := goodIn_app (goodIn_of _ (by decide +kernel)) ggX12_handles_X12_solves
set_option maxRecDepth 20000 in
theorem ggX12_handles_X12_steps : GoodIn wsX12_handles wsX12_steps := goodIn_r _ [26, 27, 85, 86, 87, 88, 89, 90, 91, 92, 93, 94, 95, 96, 97, 98, 99, 100, 101, 102, 103, 104, 105, 106, 107, 108, 109, 110, 111, 112, 113, 114, 115] (by decide +kernel) (by decide +kernel)
set_option maxRecDepth 20000 in
theorem gX12_handles_X12_steps : GoodIn wsX12_handles (wsV RX12 170 RX12 yX12_steps wsX12_steps) := goodIn_app (goodIn_of _ (by decide +kernel)) ggX12_handles_X12_steps
set_option maxRecDepth 20000 in
theorem ggX12_handles_X12_cell : GoodIn wsX12_handles wsX12_cell := goodIn_r _ [30] (by decide +kernel) (by decide +kernel)
set_option maxRecDepth 20000 in
theorem gX12_handles_X12_cell : GoodIn wsX12_handles (va_wsS RX12 173 yX12_cell wsX12_cell) := goodIn_app (goodIn_of _ (by decide +kernel)) ggX12_handles_X12_cell
set_option maxRecDepth 20000 in
theorem ggX12_handles_X12_habit : GoodIn wsX12_handles wsX12_habit := goodIn_r _ [75, 76, 27, 77, 78, 79, 6, 80, 39, 47, 81, 82, 83, 84, 43, 44, 45, 46, 8, 23, 24, 25, 26, 85, 86, 87, 88, 89, 90, 91, 92, 93, 94, 95, 96, 97, 98, 99, 100, 101, 102, 103, 104, 105, 106, 107, 108, 109, 110, 111, 112, 113, 114, 115] (by decide +kernel) (by decide +kernel)
set_option maxRecDepth 20000 in
theorem gX12_handles_X12_habit : GoodIn wsX12_handles (wsV RX12 222 RX12 yX12_habit wsX12_habit) := goodIn_app (goodIn_of _ (by decide +kernel)) ggX12_handles_X12_habit
theorem dX12_handles_0 : decode cX12_handles 0 = .ok (.iload_n 1, 1) := by decide +kernel
theorem dX12_handles_1 : decode cX12_handles 1 = .ok (.ifCond .eq 8, 3) := by decide +kernel
theorem dX12_handles_4 : decode cX12_handles 4 = .ok (.iload_n 1, 1) := by decide +kernel
theorem dX12_handles_5 : decode cX12_handles 5 = .ok (.iconst 4, 1) := by decide +kernel
theorem dX12_handles_6 : decode cX12_handles 6 = .ok (.if_icmp .ne 22, 3) := by decide +kernel
theorem dX12_handles_9 : decode cX12_handles 9 = .ok (.aload_n 0, 1) := by decide +kernel
theorem dX12_handles_10 : decode cX12_handles 10 = .ok (.iload_n 1, 1) := by decide +kernel
theorem dX12_handles_11 : decode cX12_handles 11 = .ok (.ifCond .ne 7, 3) := by decide +kernel
theorem dX12_handles_14 : decode cX12_handles 14 = .ok (.iconst 0, 1) := by decide +kernel
theorem dX12_handles_15 : decode cX12_handles 15 = .ok (.goto 4, 3) := by decide +kernel
theorem dX12_handles_18 : decode cX12_handles 18 = .ok (.iconst 1, 1) := by decide +kernel
theorem dX12_handles_19 : decode cX12_handles 19 = .ok (.invokevirtual 216, 3) := by decide +kernel
theorem dX12_handles_22 : decode cX12_handles 22 = .ok (.aload_n 0, 1) := by decide +kernel
theorem dX12_handles_23 : decode cX12_handles 23 = .ok (.iload_n 2, 1) := by decide +kernel
theorem dX12_handles_24 : decode cX12_handles 24 = .ok (.invokevirtual 219, 3) := by decide +kernel
theorem dX12_handles_27 : decode cX12_handles 27 = .ok (.return_, 1) := by decide +kernel
theorem dX12_handles_28 : decode cX12_handles 28 = .ok (.iconst 0, 1) := by decide +kernel
theorem dX12_handles_29 : decode cX12_handles 29 = .ok (.istore_n 3, 1) := by decide +kernel
theorem dX12_handles_30 : decode cX12_handles 30 = .ok (.iload_n 3, 1) := by decide +kernel
theorem dX12_handles_31 : decode cX12_handles 31 = .ok (.aload_n 0, 1) := by decide +kernel
theorem dX12_handles_32 : decode cX12_handles 32 = .ok (.getfield 23, 3) := by decide +kernel
theorem dX12_handles_35 : decode cX12_handles 35 = .ok (.iconst 0, 1) := by decide +kernel
theorem dX12_handles_36 : decode cX12_handles 36 = .ok (.iaload, 1) := by decide +kernel
theorem dX12_handles_37 : decode cX12_handles 37 = .ok (.if_icmp .ge 67, 3) := by decide +kernel
theorem dX12_handles_40 : decode cX12_handles 40 = .ok (.iconst 1, 1) := by decide +kernel
theorem dX12_handles_41 : decode cX12_handles 41 = .ok (.istore 4, 2) := by decide +kernel
theorem dX12_handles_43 : decode cX12_handles 43 = .ok (.iload 4, 2) := by decide +kernel
theorem dX12_handles_45 : decode cX12_handles 45 = .ok (.aload_n 0, 1) := by decide +kernel
theorem dX12_handles_46 : decode cX12_handles 46 = .ok (.iload_n 3, 1) := by decide +kernel
theorem dX12_handles_47 : decode cX12_handles 47 = .ok (.invokevirtual 170, 3) := by decide +kernel
theorem dX12_handles_50 : decode cX12_handles 50 = .ok (.if_icmp .gt 48, 3) := by decide +kernel
theorem dX12_handles_53 : decode cX12_handles 53 = .ok (.iconst 0, 1) := by decide +kernel
theorem dX12_handles_54 : decode cX12_handles 54 = .ok (.istore 5, 2) := by decide +kernel
theorem dX12_handles_56 : decode cX12_handles 56 = .ok (.iload 5, 2) := by decide +kernel
theorem dX12_handles_58 : decode cX12_handles 58 = .ok (.bipush 100, 2) := by decide +kernel
theorem dX12_handles_60 : decode cX12_handles 60 = .ok (.if_icmp .gt 32, 3) := by decide +kernel
theorem dX12_handles_63 : decode cX12_handles 63 = .ok (.aload_n 0, 1) := by decide +kernel
theorem dX12_handles_64 : decode cX12_handles 64 = .ok (.getfield 53, 3) := by decide +kernel
theorem dX12_handles_67 : decode cX12_handles 67 = .ok (.iload_n 3, 1) := by decide +kernel
theorem dX12_handles_68 : decode cX12_handles 68 = .ok (.iload 4, 2) := by decide +kernel
theorem dX12_handles_70 : decode cX12_handles 70 = .ok (.iload 5, 2) := by decide +kernel
theorem dX12_handles_72 : decode cX12_handles 72 = .ok (.invokestatic 173, 3) := by decide +kernel
theorem dX12_handles_75 : decode cX12_handles 75 = .ok (.aload_n 0, 1) := by decide +kernel
theorem dX12_handles_76 : decode cX12_handles 76 = .ok (.iload_n 1, 1) := by decide +kernel
theorem dX12_handles_77 : decode cX12_handles 77 = .ok (.iload_n 3, 1) := by decide +kernel
theorem dX12_handles_78 : decode cX12_handles 78 = .ok (.iload 4, 2) := by decide +kernel
theorem dX12_handles_80 : decode cX12_handles 80 = .ok (.iload 5, 2) := by decide +kernel
theorem dX12_handles_82 : decode cX12_handles 82 = .ok (.invokevirtual 222, 3) := by decide +kernel
theorem dX12_handles_85 : decode cX12_handles 85 = .ok (.iastore, 1) := by decide +kernel
theorem dX12_handles_86 : decode cX12_handles 86 = .ok (.iinc 5 1, 3) := by decide +kernel
theorem dX12_handles_89 : decode cX12_handles 89 = .ok (.goto (-33), 3) := by decide +kernel
theorem dX12_handles_92 : decode cX12_handles 92 = .ok (.iinc 4 1, 3) := by decide +kernel
theorem dX12_handles_95 : decode cX12_handles 95 = .ok (.goto (-52), 3) := by decide +kernel
theorem dX12_handles_98 : decode cX12_handles 98 = .ok (.iinc 3 1, 3) := by decide +kernel
theorem dX12_handles_101 : decode cX12_handles 101 = .ok (.goto (-71), 3) := by decide +kernel
theorem dX12_handles_104 : decode cX12_handles 104 = .ok (.return_, 1) := by decide +kernel
set_option maxRecDepth 20000 in
theorem ggX12_isAsked_X12_in : GoodIn wsX12_isAsked wsX12_in := goodIn_r _ [5] (by decide +kernel) (by decide +kernel)
set_option maxRecDepth 20000 in
theorem gX12_isAsked_X12_in : GoodIn wsX12_isAsked (va_wsS RX12 101 yX12_in wsX12_in) := goodIn_app (goodIn_of _ (by decide +kernel)) ggX12_isAsked_X12_in
set_option maxRecDepth 20000 in
theorem ggX12_isAsked_X12_isSteel : GoodIn wsX12_isAsked wsX12_isSteel := goodIn_r _ [9, 10, 2, 3, 4, 5, 26, 27, 28, 29, 30, 31, 32, 33, 34, 35, 36, 37, 38, 39, 40, 41, 42, 43, 44, 45, 46, 47, 48, 49, 50, 51, 52, 53, 54, 55, 56] (by decide +kernel) (by decide +kernel)
set_option maxRecDepth 20000 in
theorem gX12_isAsked_X12_isSteel : GoodIn wsX12_isAsked (wsV RX12 148 RX12 yX12_isSteel wsX12_isSteel) := goodIn_app (goodIn_of _ (by decide +kernel)) ggX12_isAsked_X12_isSteel
set_option maxRecDepth 20000 in
theorem ggX12_isAsked_X12_isState : GoodIn wsX12_isAsked wsX12_isState := goodIn_r _ [14, 15, 16, 17, 18, 4, 19, 20, 2, 3, 5, 21, 22, 23, 24, 25, 26, 27, 28, 29, 30, 31, 32, 33, 34, 35, 36, 37, 38, 39, 40, 41, 42, 43, 44, 45, 46, 47, 48, 49, 50, 51, 52, 53, 54, 55, 56] (by decide +kernel) (by decide +kernel)
set_option maxRecDepth 20000 in
theorem gX12_isAsked_X12_isState : GoodIn wsX12_isAsked (wsV RX12 227 RX12 yX12_isState wsX12_isState) := goodIn_app (goodIn_of _ (by decide +kernel)) ggX12_isAsked_X12_isState
theorem dX12_isAsked_0 : decode cX12_isAsked 0 = .ok (.iload_n 1, 1) := by decide +kernel
theorem dX12_isAsked_1 : decode cX12_isAsked 1 = .ok (.i2l, 1) := by decide +kernel
theorem dX12_isAsked_2 : decode cX12_isAsked 2 = .ok (.lconst 0, 1) := by decide +kernel
theorem dX12_isAsked_3 : decode cX12_isAsked 3 = .ok (.ldc2_w 225, 3) := by decide +kernel
theorem dX12_isAsked_6 : decode cX12_isAsked 6 = .ok (.invokestatic 101, 3) := by decide +kernel
theorem dX12_isAsked_9 : decode cX12_isAsked 9 = .ok (.ifCond .eq 27, 3) := by decide +kernel
theorem dX12_isAsked_12 : decode cX12_isAsked 12 = .ok (.aload_n 0, 1) := by decide +kernel
theorem dX12_isAsked_13 : decode cX12_isAsked 13 = .ok (.iload_n 2, 1) := by decide +kernel
theorem dX12_isAsked_14 : decode cX12_isAsked 14 = .ok (.invokevirtual 148, 3) := by decide +kernel
theorem dX12_isAsked_17 : decode cX12_isAsked 17 = .ok (.ifCond .eq 19, 3) := by decide +kernel
theorem dX12_isAsked_20 : decode cX12_isAsked 20 = .ok (.aload_n 0, 1) := by decide +kernel
theorem dX12_isAsked_21 : decode cX12_isAsked 21 = .ok (.iload_n 3, 1) := by decide +kernel
theorem dX12_isAsked_22 : decode cX12_isAsked 22 = .ok (.iload 4, 2) := by decide +kernel
theorem dX12_isAsked_24 : decode cX12_isAsked 24 = .ok (.iload 5, 2) := by decide +kernel
theorem dX12_isAsked_26 : decode cX12_isAsked 26 = .ok (.invokevirtual 227, 3) := by decide +kernel
theorem dX12_isAsked_29 : decode cX12_isAsked 29 = .ok (.ifCond .eq 7, 3) := by decide +kernel
theorem dX12_isAsked_32 : decode cX12_isAsked 32 = .ok (.iconst 1, 1) := by decide +kernel
theorem dX12_isAsked_33 : decode cX12_isAsked 33 = .ok (.goto 4, 3) := by decide +kernel
theorem dX12_isAsked_36 : decode cX12_isAsked 36 = .ok (.iconst 0, 1) := by decide +kernel
theorem dX12_isAsked_37 : decode cX12_isAsked 37 = .ok (.ireturn, 1) := by decide +kernel
set_option maxRecDepth 20000 in
theorem ggX12_does_X12_isAsked : GoodIn wsX12_does wsX12_isAsked := goodIn_r _ [6, 7, 8, 9, 5, 10, 11, 12, 13, 14, 15, 16, 17, 18, 19, 20, 21, 22, 23, 24, 25, 26, 27, 28, 29, 30, 107, 108, 109, 110, 111, 112, 113, 114, 115, 116, 117, 118, 119, 120, 121, 122, 123, 124, 125, 126, 127, 128, 129, 130, 131, 132, 133, 134, 135, 136, 137] (by decide +kernel) (by decide +kernel)
set_option maxRecDepth 20000 in
theorem gX12_does_X12_isAsked : GoodIn wsX12_does (wsV RX12 231 RX12 yX12_isAsked wsX12_isAsked) := goodIn_app (goodIn_of _ (by decide +kernel)) ggX12_does_X12_isAsked
set_option maxRecDepth 20000 in
theorem ggX12_does_X12_handles : GoodIn wsX12_does wsX12_handles := goodIn_r _ [34, 25, 1, 35, 36, 37, 5, 38, 39, 40, 20, 41, 42, 43, 44, 45, 46, 47, 48, 49, 50, 51, 52, 26, 27, 28, 29, 30, 53, 54, 55, 56, 57, 58, 59, 60, 61, 62, 63, 64, 8, 9, 10, 65, 66, 67, 68, 69, 70, 71, 72, 73, 74, 75, 76, 77, 78, 79, 80, 81, 82, 83, 84, 85, 86, 87, 88, 89, 90, 91, 92, 93, 94, 95, 96, 97, 98, 99, 100, 101, 102, 103, 104, 105, 106, 107, 108, 109, 110, 111, 112, 113, 114, 115, 116, 117, 118, 119, 120, 121, 122, 123, 124, 125, 126, 127, 128, 129, 130, 131, 132, 133, 134, 135, 136, 137] (by decide +kernel) (by decide +kernel)
set_option maxRecDepth 20000 in
theorem gX12_does_X12_handles : GoodIn wsX12_does (wsV RX12 235 RX12 yX12_handles wsX12_handles) := goodIn_app (goodIn_of _ (by decide +kernel)) ggX12_does_X12_handles
set_option maxRecDepth 20000 in
theorem ggX12_does_X12_cell : GoodIn wsX12_does wsX12_cell := goodIn_r _ [55] (by decide +kernel) (by decide +kernel)
set_option maxRecDepth 20000 in
theorem gX12_does_X12_cell : GoodIn wsX12_does (va_wsS RX12 173 yX12_cell wsX12_cell) := goodIn_app (goodIn_of _ (by decide +kernel)) ggX12_does_X12_cell
theorem dX12_does_0 : decode cX12_does 0 = .ok (.aload_n 0, 1) := by decide +kernel
theorem dX12_does_1 : decode cX12_does 1 = .ok (.iload_n 1, 1) := by decide +kernel
theorem dX12_does_2 : decode cX12_does 2 = .ok (.iload_n 2, 1) := by decide +kernel
theorem dX12_does_3 : decode cX12_does 3 = .ok (.iload_n 3, 1) := by decide +kernel
theorem dX12_does_4 : decode cX12_does 4 = .ok (.iload 4, 2) := by decide +kernel
theorem dX12_does_6 : decode cX12_does 6 = .ok (.iload 5, 2) := by decide +kernel
theorem dX12_does_8 : decode cX12_does 8 = .ok (.invokevirtual 231, 3) := by decide +kernel
theorem dX12_does_11 : decode cX12_does 11 = .ok (.ifCond .ne 5, 3) := by decide +kernel
theorem dX12_does_14 : decode cX12_does 14 = .ok (.iconst (-1), 1) := by decide +kernel
theorem dX12_does_15 : decode cX12_does 15 = .ok (.ireturn, 1) := by decide +kernel
theorem dX12_does_16 : decode cX12_does 16 = .ok (.aload_n 0, 1) := by decide +kernel
theorem dX12_does_17 : decode cX12_does 17 = .ok (.iload_n 1, 1) := by decide +kernel
theorem dX12_does_18 : decode cX12_does 18 = .ok (.iload_n 2, 1) := by decide +kernel
theorem dX12_does_19 : decode cX12_does 19 = .ok (.invokevirtual 235, 3) := by decide +kernel
theorem dX12_does_22 : decode cX12_does 22 = .ok (.aload_n 0, 1) := by decide +kernel
theorem dX12_does_23 : decode cX12_does 23 = .ok (.getfield 53, 3) := by decide +kernel
theorem dX12_does_26 : decode cX12_does 26 = .ok (.iload_n 3, 1) := by decide +kernel
theorem dX12_does_27 : decode cX12_does 27 = .ok (.iload 4, 2) := by decide +kernel
theorem dX12_does_29 : decode cX12_does 29 = .ok (.iload 5, 2) := by decide +kernel
theorem dX12_does_31 : decode cX12_does 31 = .ok (.invokestatic 173, 3) := by decide +kernel
theorem dX12_does_34 : decode cX12_does 34 = .ok (.iaload, 1) := by decide +kernel
theorem dX12_does_35 : decode cX12_does 35 = .ok (.ireturn, 1) := by decide +kernel
set_option maxRecDepth 20000 in
theorem ggX12_value_X12_isAsked : GoodIn wsX12_value wsX12_isAsked := goodIn_r _ [7, 8, 9, 10, 6, 11, 12, 13, 14, 15, 16, 17, 18, 19, 20, 21, 22, 23, 24, 25, 26, 27, 28, 29, 30, 31, 112, 113, 114, 115, 116, 117, 118, 119, 120, 121, 122, 123, 124, 125, 126, 127, 128, 129, 130, 131, 132, 133, 134, 135, 136, 137, 138, 139, 140, 141, 142] (by decide +kernel) (by decide +kernel)
set_option maxRecDepth 20000 in
theorem gX12_value_X12_isAsked : GoodIn wsX12_value (wsV RX12 231 RX12 yX12_isAsked wsX12_isAsked) := goodIn_app (goodIn_of _ (by decide +kernel)) ggX12_value_X12_isAsked
set_option maxRecDepth 20000 in
theorem ggX12_value_X12_handles : GoodIn wsX12_value wsX12_handles := goodIn_r _ [35, 26, 36, 37, 38, 39, 6, 40, 41, 42, 21, 43, 44, 45, 46, 47, 48, 49, 50, 51, 52, 53, 2, 27, 28, 29, 30, 31, 54, 55, 56, 57, 58, 59, 60, 61, 62, 63, 64, 65, 9, 10, 11, 66, 67, 68, 69, 70, 71, 72, 73, 74, 75, 76, 77, 78, 79, 80, 81, 82, 83, 84, 85, 86, 87, 88, 89, 90, 91, 92, 93, 94, 95, 96, 97, 98, 99, 100, 101, 102, 103, 104, 105, 106, 107, 112, 113, 114, 115, 116, 117, 118, 119, 120, 121, 122, 123, 124, 125, 126, 127, 128, 129, 130, 131, 132, 133, 134, 135, 136, 137, 138, 139, 140, 141, 142] (by decide +kernel) (by decide +kernel)
set_option maxRecDepth 20000 in
theorem gX12_value_X12_handles : GoodIn wsX12_value (wsV RX12 235 RX12 yX12_handles wsX12_handles) := goodIn_app (goodIn_of _ (by decide +kernel)) ggX12_value_X12_handles
set_option maxRecDepth 20000 in
theorem ggX12_value_X12_counts : GoodIn wsX12_value wsX12_counts := goodIn_r _ [40, 41, 42, 21, 43, 44, 45, 46, 47, 48, 49, 112, 113, 114, 115, 116, 117, 118, 119, 120, 121, 122, 123, 124, 125, 126, 127, 128, 129, 130, 131, 132, 133, 134, 135, 136, 137, 138, 139, 140, 141, 142] (by decide +kernel) (by decide +kernel)
set_option maxRecDepth 20000 in
theorem gX12_value_X12_counts : GoodIn wsX12_value (wsV RX12 216 RX12 yX12_counts wsX12_counts) := goodIn_app (goodIn_of _ (by decide +kernel)) ggX12_value_X12_counts
set_option maxRecDepth 20000 in
theorem ggX12_value_X12_follows : GoodIn wsX12_value wsX12_follows := goodIn_r _ [111, 26, 2, 36, 27, 28, 29, 6, 30, 31, 54, 55, 56, 71, 72, 73, 74, 44, 49, 47, 43, 21, 42, 75, 76, 77, 78, 79, 80, 81, 82, 70, 83, 84, 85, 86, 87, 88, 89, 90, 91, 92, 93, 94, 112, 113, 114, 115, 116, 117, 118, 119, 120, 121, 122, 123, 124, 125, 126, 127, 128, 129, 130, 131, 132, 133, 134, 135, 136, 137, 138, 139, 140, 141, 142] (by decide +kernel) (by decide +kernel)
set_option maxRecDepth 20000 in
theorem gX12_value_X12_follows : GoodIn wsX12_value (wsV RX12 240 RX12 yX12_follows wsX12_follows) := goodIn_app (goodIn_of _ (by decide +kernel)) ggX12_value_X12_follows
set_option maxRecDepth 20000 in
theorem ggX12_value_X12_cell : GoodIn wsX12_value wsX12_cell := goodIn_r _ [56] (by decide +kernel) (by decide +kernel)
set_option maxRecDepth 20000 in
theorem gX12_value_X12_cell : GoodIn wsX12_value (va_wsS RX12 173 yX12_cell wsX12_cell) := goodIn_app (goodIn_of _ (by decide +kernel)) ggX12_value_X12_cell
theorem dX12_value_0 : decode cX12_value 0 = .ok (.aload_n 0, 1) := by decide +kernel
theorem dX12_value_1 : decode cX12_value 1 = .ok (.iload_n 1, 1) := by decide +kernel
theorem dX12_value_2 : decode cX12_value 2 = .ok (.iload_n 2, 1) := by decide +kernel
theorem dX12_value_3 : decode cX12_value 3 = .ok (.iload_n 3, 1) := by decide +kernel
theorem dX12_value_4 : decode cX12_value 4 = .ok (.iload 4, 2) := by decide +kernel
theorem dX12_value_6 : decode cX12_value 6 = .ok (.iload 5, 2) := by decide +kernel
theorem dX12_value_8 : decode cX12_value 8 = .ok (.invokevirtual 231, 3) := by decide +kernel
theorem dX12_value_11 : decode cX12_value 11 = .ok (.ifCond .ne 7, 3) := by decide +kernel
theorem dX12_value_14 : decode cX12_value 14 = .ok (.ldc2_w 238, 3) := by decide +kernel
theorem dX12_value_17 : decode cX12_value 17 = .ok (.lreturn, 1) := by decide +kernel
theorem dX12_value_18 : decode cX12_value 18 = .ok (.aload_n 0, 1) := by decide +kernel
theorem dX12_value_19 : decode cX12_value 19 = .ok (.iload_n 1, 1) := by decide +kernel
theorem dX12_value_20 : decode cX12_value 20 = .ok (.iload_n 2, 1) := by decide +kernel
theorem dX12_value_21 : decode cX12_value 21 = .ok (.invokevirtual 235, 3) := by decide +kernel
theorem dX12_value_24 : decode cX12_value 24 = .ok (.aload_n 0, 1) := by decide +kernel
theorem dX12_value_25 : decode cX12_value 25 = .ok (.iconst 0, 1) := by decide +kernel
theorem dX12_value_26 : decode cX12_value 26 = .ok (.invokevirtual 216, 3) := by decide +kernel
theorem dX12_value_29 : decode cX12_value 29 = .ok (.aload_n 0, 1) := by decide +kernel
theorem dX12_value_30 : decode cX12_value 30 = .ok (.iload_n 2, 1) := by decide +kernel
theorem dX12_value_31 : decode cX12_value 31 = .ok (.invokevirtual 240, 3) := by decide +kernel
theorem dX12_value_34 : decode cX12_value 34 = .ok (.aload_n 0, 1) := by decide +kernel
theorem dX12_value_35 : decode cX12_value 35 = .ok (.getfield 56, 3) := by decide +kernel
theorem dX12_value_38 : decode cX12_value 38 = .ok (.iload_n 3, 1) := by decide +kernel
theorem dX12_value_39 : decode cX12_value 39 = .ok (.iload 4, 2) := by decide +kernel
theorem dX12_value_41 : decode cX12_value 41 = .ok (.iload 5, 2) := by decide +kernel
theorem dX12_value_43 : decode cX12_value 43 = .ok (.invokestatic 173, 3) := by decide +kernel
theorem dX12_value_46 : decode cX12_value 46 = .ok (.laload, 1) := by decide +kernel
theorem dX12_value_47 : decode cX12_value 47 = .ok (.lreturn, 1) := by decide +kernel
set_option maxRecDepth 20000 in
theorem ggX12_mean_X12_isAsked : GoodIn wsX12_mean wsX12_isAsked := goodIn_r _ [7, 8, 9, 10, 6, 11, 12, 13, 14, 15, 16, 17, 18, 19, 20, 21, 22, 23, 24, 25, 26, 27, 28, 29, 30, 31, 111, 112, 113, 114, 115, 116, 117, 118, 119, 120, 121, 122, 123, 124, 125, 126, 127, 128, 129, 130, 131, 132, 133, 134, 135, 136, 137, 138, 139, 140, 141] (by decide +kernel) (by decide +kernel)
set_option maxRecDepth 20000 in
theorem gX12_mean_X12_isAsked : GoodIn wsX12_mean (wsV RX12 231 RX12 yX12_isAsked wsX12_isAsked) := goodIn_app (goodIn_of _ (by decide +kernel)) ggX12_mean_X12_isAsked
set_option maxRecDepth 20000 in
theorem ggX12_mean_X12_in : GoodIn wsX12_mean wsX12_in := goodIn_r _ [11] (by decide +kernel) (by decide +kernel)
set_option maxRecDepth 20000 in
theorem gX12_mean_X12_in : GoodIn wsX12_mean (va_wsS RX12 101 yX12_in wsX12_in) := goodIn_app (goodIn_of _ (by decide +kernel)) ggX12_mean_X12_in
set_option maxRecDepth 20000 in
theorem ggX12_mean_X12_handles : GoodIn wsX12_mean wsX12_handles := goodIn_r _ [35, 26, 36, 37, 38, 39, 6, 40, 41, 42, 21, 43, 44, 1, 45, 46, 47, 48, 49, 50, 51, 52, 2, 27, 28, 29, 30, 31, 53, 54, 55, 56, 57, 58, 59, 60, 61, 62, 63, 64, 9, 10, 11, 65, 66, 67, 68, 69, 70, 71, 72, 73, 74, 75, 76, 77, 78, 79, 80, 81, 82, 83, 84, 85, 86, 87, 88, 89, 90, 91, 92, 93, 94, 95, 96, 97, 98, 99, 100, 101, 102, 103, 104, 105, 106, 111, 112, 113, 114, 115, 116, 117, 118, 119, 120, 121, 122, 123, 124, 125, 126, 127, 128, 129, 130, 131, 132, 133, 134, 135, 136, 137, 138, 139, 140, 141] (by decide +kernel) (by decide +kernel)
set_option maxRecDepth 20000 in
theorem gX12_mean_X12_handles : GoodIn wsX12_mean (wsV RX12 235 RX12 yX12_handles wsX12_handles) := goodIn_app (goodIn_of _ (by decide +kernel)) ggX12_mean_X12_handles
set_option maxRecDepth 20000 in
theorem ggX12_mean_X12_counts : GoodIn wsX12_mean wsX12_counts := goodIn_r _ [40, 41, 42, 21, 43, 44, 1, 45, 46, 47, 48, 111, 112, 113, 114, 115, 116, 117, 118, 119, 120, 121, 122, 123, 124, 125, 126, 127, 128, 129, 130, 131, 132, 133, 134, 135, 136, 137, 138, 139, 140, 141] (by decide +kernel) (by decide +kernel)
set_option maxRecDepth 20000 in
theorem gX12_mean_X12_counts : GoodIn wsX12_mean (wsV RX12 216 RX12 yX12_counts wsX12_counts) := goodIn_app (goodIn_of _ (by decide +kernel)) ggX12_mean_X12_counts
set_option maxRecDepth 20000 in
theorem ggX12_mean_X12_follows : GoodIn wsX12_mean wsX12_follows := goodIn_r _ [110, 26, 2, 36, 27, 28, 29, 6, 30, 31, 53, 54, 55, 70, 71, 72, 73, 44, 48, 46, 43, 21, 42, 74, 75, 76, 77, 78, 79, 80, 81, 69, 82, 83, 84, 85, 86, 87, 88, 89, 90, 91, 92, 93, 111, 112, 113, 114, 115, 116, 117, 118, 119, 120, 121, 122, 123, 124, 125, 126, 127, 128, 129, 130, 131, 132, 133, 134, 135, 136, 137, 138, 139, 140, 141] (by decide +kernel) (by decide +kernel)
set_option maxRecDepth 20000 in
theorem gX12_mean_X12_follows : GoodIn wsX12_mean (wsV RX12 240 RX12 yX12_follows wsX12_follows) := goodIn_app (goodIn_of _ (by decide +kernel)) ggX12_mean_X12_follows
set_option maxRecDepth 20000 in
theorem ggX12_mean_X12_cell : GoodIn wsX12_mean wsX12_cell := goodIn_r _ [55] (by decide +kernel) (by decide +kernel)
set_option maxRecDepth 20000 in
theorem gX12_mean_X12_cell : GoodIn wsX12_mean (va_wsS RX12 173 yX12_cell wsX12_cell) := goodIn_app (goodIn_of _ (by decide +kernel)) ggX12_mean_X12_cell
theorem dX12_mean_0 : decode cX12_mean 0 = .ok (.aload_n 0, 1) := by decide +kernel
theorem dX12_mean_1 : decode cX12_mean 1 = .ok (.iload_n 1, 1) := by decide +kernel
theorem dX12_mean_2 : decode cX12_mean 2 = .ok (.iload_n 2, 1) := by decide +kernel
theorem dX12_mean_3 : decode cX12_mean 3 = .ok (.iload_n 3, 1) := by decide +kernel
theorem dX12_mean_4 : decode cX12_mean 4 = .ok (.iload 4, 2) := by decide +kernel
theorem dX12_mean_6 : decode cX12_mean 6 = .ok (.iload 5, 2) := by decide +kernel
theorem dX12_mean_8 : decode cX12_mean 8 = .ok (.invokevirtual 231, 3) := by decide +kernel
theorem dX12_mean_11 : decode cX12_mean 11 = .ok (.ifCond .eq 14, 3) := by decide +kernel
theorem dX12_mean_14 : decode cX12_mean 14 = .ok (.iload 6, 2) := by decide +kernel
theorem dX12_mean_16 : decode cX12_mean 16 = .ok (.i2l, 1) := by decide +kernel
theorem dX12_mean_17 : decode cX12_mean 17 = .ok (.lconst 0, 1) := by decide +kernel
theorem dX12_mean_18 : decode cX12_mean 18 = .ok (.lconst 1, 1) := by decide +kernel
theorem dX12_mean_19 : decode cX12_mean 19 = .ok (.invokestatic 101, 3) := by decide +kernel
theorem dX12_mean_22 : decode cX12_mean 22 = .ok (.ifCond .ne 7, 3) := by decide +kernel
theorem dX12_mean_25 : decode cX12_mean 25 = .ok (.ldc2_w 196, 3) := by decide +kernel
theorem dX12_mean_28 : decode cX12_mean 28 = .ok (.lreturn, 1) := by decide +kernel
theorem dX12_mean_29 : decode cX12_mean 29 = .ok (.aload_n 0, 1) := by decide +kernel
theorem dX12_mean_30 : decode cX12_mean 30 = .ok (.iload_n 1, 1) := by decide +kernel
theorem dX12_mean_31 : decode cX12_mean 31 = .ok (.iload_n 2, 1) := by decide +kernel
theorem dX12_mean_32 : decode cX12_mean 32 = .ok (.invokevirtual 235, 3) := by decide +kernel
theorem dX12_mean_35 : decode cX12_mean 35 = .ok (.aload_n 0, 1) := by decide +kernel
theorem dX12_mean_36 : decode cX12_mean 36 = .ok (.iload 6, 2) := by decide +kernel
theorem dX12_mean_38 : decode cX12_mean 38 = .ok (.ifCond .ne 7, 3) := by decide +kernel
theorem dX12_mean_41 : decode cX12_mean 41 = .ok (.iconst 3, 1) := by decide +kernel
theorem dX12_mean_42 : decode cX12_mean 42 = .ok (.goto 4, 3) := by decide +kernel
theorem dX12_mean_45 : decode cX12_mean 45 = .ok (.iconst 2, 1) := by decide +kernel
theorem dX12_mean_46 : decode cX12_mean 46 = .ok (.invokevirtual 216, 3) := by decide +kernel
theorem dX12_mean_49 : decode cX12_mean 49 = .ok (.aload_n 0, 1) := by decide +kernel
theorem dX12_mean_50 : decode cX12_mean 50 = .ok (.iload_n 2, 1) := by decide +kernel
theorem dX12_mean_51 : decode cX12_mean 51 = .ok (.invokevirtual 240, 3) := by decide +kernel
theorem dX12_mean_54 : decode cX12_mean 54 = .ok (.aload_n 0, 1) := by decide +kernel
theorem dX12_mean_55 : decode cX12_mean 55 = .ok (.getfield 56, 3) := by decide +kernel
theorem dX12_mean_58 : decode cX12_mean 58 = .ok (.iload_n 3, 1) := by decide +kernel
theorem dX12_mean_59 : decode cX12_mean 59 = .ok (.iload 4, 2) := by decide +kernel
theorem dX12_mean_61 : decode cX12_mean 61 = .ok (.iload 5, 2) := by decide +kernel
theorem dX12_mean_63 : decode cX12_mean 63 = .ok (.invokestatic 173, 3) := by decide +kernel
theorem dX12_mean_66 : decode cX12_mean 66 = .ok (.laload, 1) := by decide +kernel
theorem dX12_mean_67 : decode cX12_mean 67 = .ok (.lstore 7, 2) := by decide +kernel
theorem dX12_mean_69 : decode cX12_mean 69 = .ok (.iload 6, 2) := by decide +kernel
theorem dX12_mean_71 : decode cX12_mean 71 = .ok (.ifCond .ne 9, 3) := by decide +kernel
theorem dX12_mean_74 : decode cX12_mean 74 = .ok (.lload 7, 2) := by decide +kernel
theorem dX12_mean_76 : decode cX12_mean 76 = .ok (.lneg, 1) := by decide +kernel
theorem dX12_mean_77 : decode cX12_mean 77 = .ok (.goto 5, 3) := by decide +kernel
theorem dX12_mean_80 : decode cX12_mean 80 = .ok (.lload 7, 2) := by decide +kernel
theorem dX12_mean_82 : decode cX12_mean 82 = .ok (.lreturn, 1) := by decide +kernel
set_option maxRecDepth 20000 in
theorem ggX12_meets_X12_steps : GoodIn wsX12_meets wsX12_steps := goodIn_r _ [7, 8, 12, 13, 14, 15, 16, 17, 18, 19, 20, 21, 22, 23, 24, 25, 26, 27, 28, 29, 30, 31, 32, 33, 34, 35, 36, 37, 38, 39, 40, 41, 42] (by decide +kernel) (by decide +kernel)
set_option maxRecDepth 20000 in
theorem gX12_meets_X12_steps : GoodIn wsX12_meets (wsV RX12 170 RX12 yX12_steps wsX12_steps) := goodIn_app (goodIn_of _ (by decide +kernel)) ggX12_meets_X12_steps
set_option maxRecDepth 20000 in
theorem ggX12_meets_X12_cell : GoodIn wsX12_meets wsX12_cell := goodIn_r _ [11] (by decide +kernel) (by decide +kernel)
set_option maxRecDepth 20000 in
theorem gX12_meets_X12_cell : GoodIn wsX12_meets (va_wsS RX12 173 yX12_cell wsX12_cell) := goodIn_app (goodIn_of _ (by decide +kernel)) ggX12_meets_X12_cell
theorem dX12_meets_0 : decode cX12_meets 0 = .ok (.iload_n 1, 1) := by decide +kernel
theorem dX12_meets_1 : decode cX12_meets 1 = .ok (.aload_n 0, 1) := by decide +kernel
theorem dX12_meets_2 : decode cX12_meets 2 = .ok (.getfield 23, 3) := by decide +kernel
theorem dX12_meets_5 : decode cX12_meets 5 = .ok (.iconst 0, 1) := by decide +kernel
theorem dX12_meets_6 : decode cX12_meets 6 = .ok (.iaload, 1) := by decide +kernel
theorem dX12_meets_7 : decode cX12_meets 7 = .ok (.if_icmp .ge 27, 3) := by decide +kernel
theorem dX12_meets_10 : decode cX12_meets 10 = .ok (.aload_n 0, 1) := by decide +kernel
theorem dX12_meets_11 : decode cX12_meets 11 = .ok (.getfield 63, 3) := by decide +kernel
theorem dX12_meets_14 : decode cX12_meets 14 = .ok (.iload_n 1, 1) := by decide +kernel
theorem dX12_meets_15 : decode cX12_meets 15 = .ok (.iload_n 2, 1) := by decide +kernel
theorem dX12_meets_16 : decode cX12_meets 16 = .ok (.ifCond .ne 11, 3) := by decide +kernel
theorem dX12_meets_19 : decode cX12_meets 19 = .ok (.aload_n 0, 1) := by decide +kernel
theorem dX12_meets_20 : decode cX12_meets 20 = .ok (.iload_n 1, 1) := by decide +kernel
theorem dX12_meets_21 : decode cX12_meets 21 = .ok (.invokevirtual 170, 3) := by decide +kernel
theorem dX12_meets_24 : decode cX12_meets 24 = .ok (.goto 4, 3) := by decide +kernel
theorem dX12_meets_27 : decode cX12_meets 27 = .ok (.iload_n 2, 1) := by decide +kernel
theorem dX12_meets_28 : decode cX12_meets 28 = .ok (.iload_n 3, 1) := by decide +kernel
theorem dX12_meets_29 : decode cX12_meets 29 = .ok (.invokestatic 173, 3) := by decide +kernel
theorem dX12_meets_32 : decode cX12_meets 32 = .ok (.iconst 1, 1) := by decide +kernel
theorem dX12_meets_33 : decode cX12_meets 33 = .ok (.bastore, 1) := by decide +kernel
theorem dX12_meets_34 : decode cX12_meets 34 = .ok (.return_, 1) := by decide +kernel
set_option maxRecDepth 20000 in
theorem ggX12_walks_X12_meets : GoodIn wsX12_walks wsX12_meets := goodIn_r _ [7, 2, 1, 8, 9, 10, 6, 11, 12, 13, 14, 15, 34, 35, 36, 37, 38, 39, 40, 41, 42, 43, 44, 45, 46, 47, 48, 49, 50, 51, 52, 53, 54, 55, 56, 57, 58, 59, 60, 61, 62, 63, 64] (by decide +kernel) (by decide +kernel)
set_option maxRecDepth 20000 in
theorem gX12_walks_X12_meets : GoodIn wsX12_walks (wsV RX12 243 RX12 yX12_meets wsX12_meets) := goodIn_app (goodIn_of _ (by decide +kernel)) ggX12_walks_X12_meets
set_option maxRecDepth 20000 in
theorem ggX12_walks_X12_steps : GoodIn wsX12_walks wsX12_steps := goodIn_r _ [11, 12, 34, 35, 36, 37, 38, 39, 40, 41, 42, 43, 44, 45, 46, 47, 48, 49, 50, 51, 52, 53, 54, 55, 56, 57, 58, 59, 60, 61, 62, 63, 64] (by decide +kernel) (by decide +kernel)
set_option maxRecDepth 20000 in
theorem gX12_walks_X12_steps : GoodIn wsX12_walks (wsV RX12 170 RX12 yX12_steps wsX12_steps) := goodIn_app (goodIn_of _ (by decide +kernel)) ggX12_walks_X12_steps
set_option maxRecDepth 20000 in
theorem ggX12_walks_X12_cell : GoodIn wsX12_walks wsX12_cell := goodIn_r _ [15] (by decide +kernel) (by decide +kernel)
set_option maxRecDepth 20000 in
theorem gX12_walks_X12_cell : GoodIn wsX12_walks (va_wsS RX12 173 yX12_cell wsX12_cell) := goodIn_app (goodIn_of _ (by decide +kernel)) ggX12_walks_X12_cell
set_option maxRecDepth 20000 in
theorem ggX12_walks_X12_walksOn : GoodIn wsX12_walks wsX12_walksOn := goodIn_r _ [19, 20, 13, 14, 6, 15, 3, 4, 5, 7, 2, 1, 8, 9, 10, 11, 12, 21, 22, 23, 24, 25, 26, 27, 28, 29, 30, 31, 32, 33, 34, 35, 36, 37, 38, 39, 40, 41, 42, 43, 44, 45, 46, 47, 48, 49, 50, 51, 52, 53, 54, 55, 56, 57, 58, 59, 60, 61, 62, 63, 64] (by decide +kernel) (by decide +kernel)
set_option maxRecDepth 20000 in
theorem gX12_walks_X12_walksOn : GoodIn wsX12_walks (wsV RX12 247 RX12 yX12_walksOn wsX12_walksOn) := goodIn_app (goodIn_of _ (by decide +kernel)) ggX12_walks_X12_walksOn
theorem dX12_walks_0 : decode cX12_walks 0 = .ok (.iconst 0, 1) := by decide +kernel
theorem dX12_walks_1 : decode cX12_walks 1 = .ok (.istore_n 2, 1) := by decide +kernel
theorem dX12_walks_2 : decode cX12_walks 2 = .ok (.iload_n 2, 1) := by decide +kernel
theorem dX12_walks_3 : decode cX12_walks 3 = .ok (.sipush 7272, 3) := by decide +kernel
theorem dX12_walks_6 : decode cX12_walks 6 = .ok (.if_icmp .ge 16, 3) := by decide +kernel
theorem dX12_walks_9 : decode cX12_walks 9 = .ok (.aload_n 0, 1) := by decide +kernel
theorem dX12_walks_10 : decode cX12_walks 10 = .ok (.getfield 63, 3) := by decide +kernel
theorem dX12_walks_13 : decode cX12_walks 13 = .ok (.iload_n 2, 1) := by decide +kernel
theorem dX12_walks_14 : decode cX12_walks 14 = .ok (.iconst 0, 1) := by decide +kernel
theorem dX12_walks_15 : decode cX12_walks 15 = .ok (.bastore, 1) := by decide +kernel
theorem dX12_walks_16 : decode cX12_walks 16 = .ok (.iinc 2 1, 3) := by decide +kernel
theorem dX12_walks_19 : decode cX12_walks 19 = .ok (.goto (-17), 3) := by decide +kernel
theorem dX12_walks_22 : decode cX12_walks 22 = .ok (.aload_n 0, 1) := by decide +kernel
theorem dX12_walks_23 : decode cX12_walks 23 = .ok (.iconst 0, 1) := by decide +kernel
theorem dX12_walks_24 : decode cX12_walks 24 = .ok (.iconst 0, 1) := by decide +kernel
theorem dX12_walks_25 : decode cX12_walks 25 = .ok (.iconst 0, 1) := by decide +kernel
theorem dX12_walks_26 : decode cX12_walks 26 = .ok (.invokevirtual 243, 3) := by decide +kernel
theorem dX12_walks_29 : decode cX12_walks 29 = .ok (.iconst 0, 1) := by decide +kernel
theorem dX12_walks_30 : decode cX12_walks 30 = .ok (.istore_n 2, 1) := by decide +kernel
theorem dX12_walks_31 : decode cX12_walks 31 = .ok (.iload_n 2, 1) := by decide +kernel
theorem dX12_walks_32 : decode cX12_walks 32 = .ok (.aload_n 0, 1) := by decide +kernel
theorem dX12_walks_33 : decode cX12_walks 33 = .ok (.getfield 23, 3) := by decide +kernel
theorem dX12_walks_36 : decode cX12_walks 36 = .ok (.iconst 0, 1) := by decide +kernel
theorem dX12_walks_37 : decode cX12_walks 37 = .ok (.iaload, 1) := by decide +kernel
theorem dX12_walks_38 : decode cX12_walks 38 = .ok (.if_icmp .ge 64, 3) := by decide +kernel
theorem dX12_walks_41 : decode cX12_walks 41 = .ok (.aload_n 0, 1) := by decide +kernel
theorem dX12_walks_42 : decode cX12_walks 42 = .ok (.iload_n 2, 1) := by decide +kernel
theorem dX12_walks_43 : decode cX12_walks 43 = .ok (.invokevirtual 170, 3) := by decide +kernel
theorem dX12_walks_46 : decode cX12_walks 46 = .ok (.istore_n 3, 1) := by decide +kernel
theorem dX12_walks_47 : decode cX12_walks 47 = .ok (.iload_n 3, 1) := by decide +kernel
theorem dX12_walks_48 : decode cX12_walks 48 = .ok (.ifCond .le 48, 3) := by decide +kernel
theorem dX12_walks_51 : decode cX12_walks 51 = .ok (.bipush 100, 2) := by decide +kernel
theorem dX12_walks_53 : decode cX12_walks 53 = .ok (.istore 4, 2) := by decide +kernel
theorem dX12_walks_55 : decode cX12_walks 55 = .ok (.iload 4, 2) := by decide +kernel
theorem dX12_walks_57 : decode cX12_walks 57 = .ok (.ifCond .lt 33, 3) := by decide +kernel
theorem dX12_walks_60 : decode cX12_walks 60 = .ok (.aload_n 0, 1) := by decide +kernel
theorem dX12_walks_61 : decode cX12_walks 61 = .ok (.getfield 63, 3) := by decide +kernel
theorem dX12_walks_64 : decode cX12_walks 64 = .ok (.iload_n 2, 1) := by decide +kernel
theorem dX12_walks_65 : decode cX12_walks 65 = .ok (.iload_n 3, 1) := by decide +kernel
theorem dX12_walks_66 : decode cX12_walks 66 = .ok (.iload 4, 2) := by decide +kernel
theorem dX12_walks_68 : decode cX12_walks 68 = .ok (.invokestatic 173, 3) := by decide +kernel
theorem dX12_walks_71 : decode cX12_walks 71 = .ok (.baload, 1) := by decide +kernel
theorem dX12_walks_72 : decode cX12_walks 72 = .ok (.ifCond .eq 12, 3) := by decide +kernel
theorem dX12_walks_75 : decode cX12_walks 75 = .ok (.aload_n 0, 1) := by decide +kernel
theorem dX12_walks_76 : decode cX12_walks 76 = .ok (.iload_n 2, 1) := by decide +kernel
theorem dX12_walks_77 : decode cX12_walks 77 = .ok (.iload_n 3, 1) := by decide +kernel
theorem dX12_walks_78 : decode cX12_walks 78 = .ok (.iload 4, 2) := by decide +kernel
theorem dX12_walks_80 : decode cX12_walks 80 = .ok (.iload_n 1, 1) := by decide +kernel
theorem dX12_walks_81 : decode cX12_walks 81 = .ok (.invokevirtual 247, 3) := by decide +kernel
theorem dX12_walks_84 : decode cX12_walks 84 = .ok (.iinc 4 (-1), 3) := by decide +kernel
theorem dX12_walks_87 : decode cX12_walks 87 = .ok (.goto (-32), 3) := by decide +kernel
theorem dX12_walks_90 : decode cX12_walks 90 = .ok (.iinc 3 (-1), 3) := by decide +kernel
theorem dX12_walks_93 : decode cX12_walks 93 = .ok (.goto (-46), 3) := by decide +kernel
theorem dX12_walks_96 : decode cX12_walks 96 = .ok (.iinc 2 1, 3) := by decide +kernel
theorem dX12_walks_99 : decode cX12_walks 99 = .ok (.goto (-68), 3) := by decide +kernel
theorem dX12_walks_102 : decode cX12_walks 102 = .ok (.return_, 1) := by decide +kernel
set_option maxRecDepth 20000 in
theorem ggX12_walksOn_X12_cell : GoodIn wsX12_walksOn wsX12_cell := goodIn_r _ [5] (by decide +kernel) (by decide +kernel)
set_option maxRecDepth 20000 in
theorem gX12_walksOn_X12_cell : GoodIn wsX12_walksOn (va_wsS RX12 173 yX12_cell wsX12_cell) := goodIn_app (goodIn_of _ (by decide +kernel)) ggX12_walksOn_X12_cell
set_option maxRecDepth 20000 in
theorem ggX12_walksOn_X12_meets : GoodIn wsX12_walksOn wsX12_meets := goodIn_r _ [9, 10, 11, 12, 13, 14, 4, 15, 16, 2, 3, 5, 30, 31, 32, 33, 34, 35, 36, 37, 38, 39, 40, 41, 42, 43, 44, 45, 46, 47, 48, 49, 50, 51, 52, 53, 54, 55, 56, 57, 58, 59, 60] (by decide +kernel) (by decide +kernel)
set_option maxRecDepth 20000 in
theorem gX12_walksOn_X12_meets : GoodIn wsX12_walksOn (wsV RX12 243 RX12 yX12_meets wsX12_meets) := goodIn_app (goodIn_of _ (by decide +kernel)) ggX12_walksOn_X12_meets
set_option maxRecDepth 20000 in
theorem ggX12_walksOn_X12_wears : GoodIn wsX12_walksOn wsX12_wears := goodIn_r _ [20, 16, 21, 22, 23, 30, 31, 32, 33, 34, 35, 36, 37, 38, 39, 40, 41, 42, 43, 44, 45, 46, 47, 48, 49, 50, 51, 52, 53, 54, 55, 56, 57, 58, 59, 60] (by decide +kernel) (by decide +kernel)
set_option maxRecDepth 20000 in
theorem gX12_walksOn_X12_wears : GoodIn wsX12_walksOn (wsV RX12 156 RX12 yX12_wears wsX12_wears) := goodIn_app (goodIn_of _ (by decide +kernel)) ggX12_walksOn_X12_wears
set_option maxRecDepth 20000 in
theorem ggX12_walksOn_X12_breaksAt : GoodIn wsX12_walksOn wsX12_breaksAt := goodIn_r _ [27, 28, 29, 30, 31, 32, 33, 34, 35, 36, 37, 38, 39, 40, 41, 42, 43, 44, 45, 46, 47, 48, 49, 50, 51, 52, 53, 54, 55, 56, 57, 58, 59, 60] (by decide +kernel) (by decide +kernel)
set_option maxRecDepth 20000 in
theorem gX12_walksOn_X12_breaksAt : GoodIn wsX12_walksOn (wsV RX12 166 RX12 yX12_breaksAt wsX12_breaksAt) := goodIn_app (goodIn_of _ (by decide +kernel)) ggX12_walksOn_X12_breaksAt
theorem dX12_walksOn_0 : decode cX12_walksOn 0 = .ok (.aload_n 0, 1) := by decide +kernel
theorem dX12_walksOn_1 : decode cX12_walksOn 1 = .ok (.getfield 53, 3) := by decide +kernel
theorem dX12_walksOn_4 : decode cX12_walksOn 4 = .ok (.iload_n 1, 1) := by decide +kernel
theorem dX12_walksOn_5 : decode cX12_walksOn 5 = .ok (.iload_n 2, 1) := by decide +kernel
theorem dX12_walksOn_6 : decode cX12_walksOn 6 = .ok (.iload_n 3, 1) := by decide +kernel
theorem dX12_walksOn_7 : decode cX12_walksOn 7 = .ok (.invokestatic 173, 3) := by decide +kernel
theorem dX12_walksOn_10 : decode cX12_walksOn 10 = .ok (.iaload, 1) := by decide +kernel
theorem dX12_walksOn_11 : decode cX12_walksOn 11 = .ok (.istore 5, 2) := by decide +kernel
theorem dX12_walksOn_13 : decode cX12_walksOn 13 = .ok (.iload 5, 2) := by decide +kernel
theorem dX12_walksOn_15 : decode cX12_walksOn 15 = .ok (.bipush 48, 2) := by decide +kernel
theorem dX12_walksOn_17 : decode cX12_walksOn 17 = .ok (.if_icmp .ne 11, 3) := by decide +kernel
theorem dX12_walksOn_20 : decode cX12_walksOn 20 = .ok (.aload_n 0, 1) := by decide +kernel
theorem dX12_walksOn_21 : decode cX12_walksOn 21 = .ok (.iload_n 1, 1) := by decide +kernel
theorem dX12_walksOn_22 : decode cX12_walksOn 22 = .ok (.iload_n 2, 1) := by decide +kernel
theorem dX12_walksOn_23 : decode cX12_walksOn 23 = .ok (.iconst 0, 1) := by decide +kernel
theorem dX12_walksOn_24 : decode cX12_walksOn 24 = .ok (.invokevirtual 243, 3) := by decide +kernel
theorem dX12_walksOn_27 : decode cX12_walksOn 27 = .ok (.return_, 1) := by decide +kernel
theorem dX12_walksOn_28 : decode cX12_walksOn 28 = .ok (.iload 5, 2) := by decide +kernel
theorem dX12_walksOn_30 : decode cX12_walksOn 30 = .ok (.bipush 49, 2) := by decide +kernel
theorem dX12_walksOn_32 : decode cX12_walksOn 32 = .ok (.if_icmp .ne 13, 3) := by decide +kernel
theorem dX12_walksOn_35 : decode cX12_walksOn 35 = .ok (.aload_n 0, 1) := by decide +kernel
theorem dX12_walksOn_36 : decode cX12_walksOn 36 = .ok (.iload_n 1, 1) := by decide +kernel
theorem dX12_walksOn_37 : decode cX12_walksOn 37 = .ok (.iconst 1, 1) := by decide +kernel
theorem dX12_walksOn_38 : decode cX12_walksOn 38 = .ok (.iadd, 1) := by decide +kernel
theorem dX12_walksOn_39 : decode cX12_walksOn 39 = .ok (.iconst 0, 1) := by decide +kernel
theorem dX12_walksOn_40 : decode cX12_walksOn 40 = .ok (.iload_n 3, 1) := by decide +kernel
theorem dX12_walksOn_41 : decode cX12_walksOn 41 = .ok (.invokevirtual 243, 3) := by decide +kernel
theorem dX12_walksOn_44 : decode cX12_walksOn 44 = .ok (.return_, 1) := by decide +kernel
theorem dX12_walksOn_45 : decode cX12_walksOn 45 = .ok (.iload_n 3, 1) := by decide +kernel
theorem dX12_walksOn_46 : decode cX12_walksOn 46 = .ok (.aload_n 0, 1) := by decide +kernel
theorem dX12_walksOn_47 : decode cX12_walksOn 47 = .ok (.iload_n 1, 1) := by decide +kernel
theorem dX12_walksOn_48 : decode cX12_walksOn 48 = .ok (.iload 5, 2) := by decide +kernel
theorem dX12_walksOn_50 : decode cX12_walksOn 50 = .ok (.bipush 8, 2) := by decide +kernel
theorem dX12_walksOn_52 : decode cX12_walksOn 52 = .ok (.idiv, 1) := by decide +kernel
theorem dX12_walksOn_53 : decode cX12_walksOn 53 = .ok (.iload 5, 2) := by decide +kernel
theorem dX12_walksOn_55 : decode cX12_walksOn 55 = .ok (.bipush 8, 2) := by decide +kernel
theorem dX12_walksOn_57 : decode cX12_walksOn 57 = .ok (.irem, 1) := by decide +kernel
theorem dX12_walksOn_58 : decode cX12_walksOn 58 = .ok (.iconst 1, 1) := by decide +kernel
theorem dX12_walksOn_59 : decode cX12_walksOn 59 = .ok (.iadd, 1) := by decide +kernel
theorem dX12_walksOn_60 : decode cX12_walksOn 60 = .ok (.iload 4, 2) := by decide +kernel
theorem dX12_walksOn_62 : decode cX12_walksOn 62 = .ok (.invokevirtual 156, 3) := by decide +kernel
theorem dX12_walksOn_65 : decode cX12_walksOn 65 = .ok (.iadd, 1) := by decide +kernel
theorem dX12_walksOn_66 : decode cX12_walksOn 66 = .ok (.istore 6, 2) := by decide +kernel
theorem dX12_walksOn_68 : decode cX12_walksOn 68 = .ok (.iload 6, 2) := by decide +kernel
theorem dX12_walksOn_70 : decode cX12_walksOn 70 = .ok (.bipush 100, 2) := by decide +kernel
theorem dX12_walksOn_72 : decode cX12_walksOn 72 = .ok (.if_icmp .le 8, 3) := by decide +kernel
theorem dX12_walksOn_75 : decode cX12_walksOn 75 = .ok (.bipush 100, 2) := by decide +kernel
theorem dX12_walksOn_77 : decode cX12_walksOn 77 = .ok (.goto 8, 3) := by decide +kernel
theorem dX12_walksOn_80 : decode cX12_walksOn 80 = .ok (.aload_n 0, 1) := by decide +kernel
theorem dX12_walksOn_81 : decode cX12_walksOn 81 = .ok (.iload_n 3, 1) := by decide +kernel
theorem dX12_walksOn_82 : decode cX12_walksOn 82 = .ok (.invokevirtual 166, 3) := by decide +kernel
theorem dX12_walksOn_85 : decode cX12_walksOn 85 = .ok (.istore 7, 2) := by decide +kernel
theorem dX12_walksOn_87 : decode cX12_walksOn 87 = .ok (.iload 7, 2) := by decide +kernel
theorem dX12_walksOn_89 : decode cX12_walksOn 89 = .ok (.ifCond .le 12, 3) := by decide +kernel
theorem dX12_walksOn_92 : decode cX12_walksOn 92 = .ok (.aload_n 0, 1) := by decide +kernel
theorem dX12_walksOn_93 : decode cX12_walksOn 93 = .ok (.iload_n 1, 1) := by decide +kernel
theorem dX12_walksOn_94 : decode cX12_walksOn 94 = .ok (.iconst 1, 1) := by decide +kernel
theorem dX12_walksOn_95 : decode cX12_walksOn 95 = .ok (.iadd, 1) := by decide +kernel
theorem dX12_walksOn_96 : decode cX12_walksOn 96 = .ok (.iconst 0, 1) := by decide +kernel
theorem dX12_walksOn_97 : decode cX12_walksOn 97 = .ok (.iconst 0, 1) := by decide +kernel
theorem dX12_walksOn_98 : decode cX12_walksOn 98 = .ok (.invokevirtual 243, 3) := by decide +kernel
theorem dX12_walksOn_101 : decode cX12_walksOn 101 = .ok (.iload 7, 2) := by decide +kernel
theorem dX12_walksOn_103 : decode cX12_walksOn 103 = .ok (.bipush 100, 2) := by decide +kernel
theorem dX12_walksOn_105 : decode cX12_walksOn 105 = .ok (.if_icmp .ge 33, 3) := by decide +kernel
theorem dX12_walksOn_108 : decode cX12_walksOn 108 = .ok (.iload_n 2, 1) := by decide +kernel
theorem dX12_walksOn_109 : decode cX12_walksOn 109 = .ok (.iload 5, 2) := by decide +kernel
theorem dX12_walksOn_111 : decode cX12_walksOn 111 = .ok (.bipush 8, 2) := by decide +kernel
theorem dX12_walksOn_113 : decode cX12_walksOn 113 = .ok (.irem, 1) := by decide +kernel
theorem dX12_walksOn_114 : decode cX12_walksOn 114 = .ok (.iconst 1, 1) := by decide +kernel
theorem dX12_walksOn_115 : decode cX12_walksOn 115 = .ok (.iadd, 1) := by decide +kernel
theorem dX12_walksOn_116 : decode cX12_walksOn 116 = .ok (.if_icmp .le 22, 3) := by decide +kernel
theorem dX12_walksOn_119 : decode cX12_walksOn 119 = .ok (.aload_n 0, 1) := by decide +kernel
theorem dX12_walksOn_120 : decode cX12_walksOn 120 = .ok (.iload_n 1, 1) := by decide +kernel
theorem dX12_walksOn_121 : decode cX12_walksOn 121 = .ok (.iload_n 2, 1) := by decide +kernel
theorem dX12_walksOn_122 : decode cX12_walksOn 122 = .ok (.iload 5, 2) := by decide +kernel
theorem dX12_walksOn_124 : decode cX12_walksOn 124 = .ok (.bipush 8, 2) := by decide +kernel
theorem dX12_walksOn_126 : decode cX12_walksOn 126 = .ok (.irem, 1) := by decide +kernel
theorem dX12_walksOn_127 : decode cX12_walksOn 127 = .ok (.isub, 1) := by decide +kernel
theorem dX12_walksOn_128 : decode cX12_walksOn 128 = .ok (.iconst 1, 1) := by decide +kernel
theorem dX12_walksOn_129 : decode cX12_walksOn 129 = .ok (.isub, 1) := by decide +kernel
theorem dX12_walksOn_130 : decode cX12_walksOn 130 = .ok (.iload 6, 2) := by decide +kernel
theorem dX12_walksOn_132 : decode cX12_walksOn 132 = .ok (.invokevirtual 243, 3) := by decide +kernel
theorem dX12_walksOn_135 : decode cX12_walksOn 135 = .ok (.goto 20, 3) := by decide +kernel
theorem dX12_walksOn_138 : decode cX12_walksOn 138 = .ok (.iload 7, 2) := by decide +kernel
theorem dX12_walksOn_140 : decode cX12_walksOn 140 = .ok (.bipush 100, 2) := by decide +kernel
theorem dX12_walksOn_142 : decode cX12_walksOn 142 = .ok (.if_icmp .ge 13, 3) := by decide +kernel
theorem dX12_walksOn_145 : decode cX12_walksOn 145 = .ok (.aload_n 0, 1) := by decide +kernel
theorem dX12_walksOn_146 : decode cX12_walksOn 146 = .ok (.iload_n 1, 1) := by decide +kernel
theorem dX12_walksOn_147 : decode cX12_walksOn 147 = .ok (.iconst 1, 1) := by decide +kernel
theorem dX12_walksOn_148 : decode cX12_walksOn 148 = .ok (.iadd, 1) := by decide +kernel
theorem dX12_walksOn_149 : decode cX12_walksOn 149 = .ok (.iconst 0, 1) := by decide +kernel
theorem dX12_walksOn_150 : decode cX12_walksOn 150 = .ok (.iload 6, 2) := by decide +kernel
theorem dX12_walksOn_152 : decode cX12_walksOn 152 = .ok (.invokevirtual 243, 3) := by decide +kernel
theorem dX12_walksOn_155 : decode cX12_walksOn 155 = .ok (.return_, 1) := by decide +kernel
set_option maxRecDepth 20000 in
theorem ggX12_judge_X12_in : GoodIn wsX12_judge wsX12_in := goodIn_r _ [10] (by decide +kernel) (by decide +kernel)
set_option maxRecDepth 20000 in
theorem gX12_judge_X12_in : GoodIn wsX12_judge (va_wsS RX12 101 yX12_in wsX12_in) := goodIn_app (goodIn_of _ (by decide +kernel)) ggX12_judge_X12_in
set_option maxRecDepth 20000 in
theorem ggX12_judge_X12_isSteel : GoodIn wsX12_judge wsX12_isSteel := goodIn_r _ [14, 15, 7, 8, 9, 10, 109, 110, 111, 112, 113, 114, 115, 116, 117, 118, 119, 120, 121, 122, 123, 124, 125, 126, 127, 128, 129, 130, 131, 132, 133, 134, 135, 136, 137, 138, 139] (by decide +kernel) (by decide +kernel)
set_option maxRecDepth 20000 in
theorem gX12_judge_X12_isSteel : GoodIn wsX12_judge (wsV RX12 148 RX12 yX12_isSteel wsX12_isSteel) := goodIn_app (goodIn_of _ (by decide +kernel)) ggX12_judge_X12_isSteel
set_option maxRecDepth 20000 in
theorem ggX12_judge_X12_handles : GoodIn wsX12_judge wsX12_handles := goodIn_r _ [19, 4, 3, 20, 21, 22, 9, 23, 24, 25, 26, 27, 28, 29, 30, 31, 32, 33, 34, 35, 36, 37, 6, 38, 39, 40, 41, 42, 43, 44, 45, 46, 47, 48, 49, 50, 51, 52, 53, 54, 7, 8, 10, 55, 56, 57, 58, 59, 60, 61, 62, 63, 64, 65, 66, 67, 68, 69, 70, 71, 72, 73, 74, 75, 76, 77, 78, 79, 80, 81, 82, 83, 84, 85, 86, 87, 88, 89, 90, 91, 92, 93, 94, 95, 96, 109, 110, 111, 112, 113, 114, 115, 116, 117, 118, 119, 120, 121, 122, 123, 124, 125, 126, 127, 128, 129, 130, 131, 132, 133, 134, 135, 136, 137, 138, 139] (by decide +kernel) (by decide +kernel)
set_option maxRecDepth 20000 in
theorem gX12_judge_X12_handles : GoodIn wsX12_judge (wsV RX12 235 RX12 yX12_handles wsX12_handles) := goodIn_app (goodIn_of _ (by decide +kernel)) ggX12_judge_X12_handles
set_option maxRecDepth 20000 in
theorem ggX12_judge_X12_walks : GoodIn wsX12_judge wsX12_walks := goodIn_r _ [100, 5, 4, 101, 102, 103, 9, 104, 38, 39, 40, 41, 42, 43, 44, 45, 105, 106, 107, 108, 3, 68, 69, 70, 71, 59, 72, 73, 74, 75, 76, 77, 78, 79, 109, 110, 111, 112, 113, 114, 115, 116, 117, 118, 119, 120, 121, 122, 123, 124, 125, 126, 127, 128, 129, 130, 131, 132, 133, 134, 135, 136, 137, 138, 139] (by decide +kernel) (by decide +kernel)
set_option maxRecDepth 20000 in
theorem gX12_judge_X12_walks : GoodIn wsX12_judge (wsV RX12 251 RX12 yX12_walks wsX12_walks) := goodIn_app (goodIn_of _ (by decide +kernel)) ggX12_judge_X12_walks
set_option maxRecDepth 20000 in
theorem ggX12_judge_X12_counts : GoodIn wsX12_judge wsX12_counts := goodIn_r _ [23, 24, 25, 26, 27, 28, 29, 30, 31, 32, 33, 109, 110, 111, 112, 113, 114, 115, 116, 117, 118, 119, 120, 121, 122, 123, 124, 125, 126, 127, 128, 129, 130, 131, 132, 133, 134, 135, 136, 137, 138, 139] (by decide +kernel) (by decide +kernel)
set_option maxRecDepth 20000 in
theorem gX12_judge_X12_counts : GoodIn wsX12_judge (wsV RX12 216 RX12 yX12_counts wsX12_counts) := goodIn_app (goodIn_of _ (by decide +kernel)) ggX12_judge_X12_counts
set_option maxRecDepth 20000 in
theorem ggX12_judge_X12_solves : GoodIn wsX12_judge wsX12_solves := goodIn_r _ [37, 4, 3, 6, 38, 39, 40, 9, 41, 42, 43, 44, 45, 46, 47, 48, 49, 50, 51, 52, 53, 54, 7, 8, 10, 55, 56, 57, 58, 24, 59, 60, 61, 62, 63, 28, 33, 31, 27, 26, 25, 64, 65, 66, 67, 68, 69, 70, 71, 72, 73, 74, 75, 76, 77, 78, 79, 80, 81, 82, 83, 109, 110, 111, 112, 113, 114, 115, 116, 117, 118, 119, 120, 121, 122, 123, 124, 125, 126, 127, 128, 129, 130, 131, 132, 133, 134, 135, 136, 137, 138, 139] (by decide +kernel) (by decide +kernel)
set_option maxRecDepth 20000 in
theorem gX12_judge_X12_solves : GoodIn wsX12_judge (wsV RX12 219 RX12 yX12_solves wsX12_solves) := goodIn_app (goodIn_of _ (by decide +kernel)) ggX12_judge_X12_solves
set_option maxRecDepth 20000 in
theorem ggX12_judge_X12_steps : GoodIn wsX12_judge wsX12_steps := goodIn_r _ [41, 42, 109, 110, 111, 112, 113, 114, 115, 116, 117, 118, 119, 120, 121, 122, 123, 124, 125, 126, 127, 128, 129, 130, 131, 132, 133, 134, 135, 136, 137, 138, 139] (by decide +kernel) (by decide +kernel)
set_option maxRecDepth 20000 in
theorem gX12_judge_X12_steps : GoodIn wsX12_judge (wsV RX12 170 RX12 yX12_steps wsX12_steps) := goodIn_app (goodIn_of _ (by decide +kernel)) ggX12_judge_X12_steps
set_option maxRecDepth 20000 in
theorem ggX12_judge_X12_cell : GoodIn wsX12_judge wsX12_cell := goodIn_r _ [45] (by decide +kernel) (by decide +kernel)
set_option maxRecDepth 20000 in
theorem gX12_judge_X12_cell : GoodIn wsX12_judge (va_wsS RX12 173 yX12_cell wsX12_cell) := goodIn_app (goodIn_of _ (by decide +kernel)) ggX12_judge_X12_cell
set_option maxRecDepth 20000 in
theorem ggX12_judge_X12_comes : GoodIn wsX12_judge wsX12_comes := goodIn_r _ [63, 6, 28, 33, 31, 27, 42, 26, 25, 43, 44, 9, 45, 64, 65, 66, 67, 4, 38, 39, 40, 41, 68, 69, 70, 71, 59, 72, 73, 74, 75, 76, 77, 78, 79, 80, 81, 82, 83, 109, 110, 111, 112, 113, 114, 115, 116, 117, 118, 119, 120, 121, 122, 123, 124, 125, 126, 127, 128, 129, 130, 131, 132, 133, 134, 135, 136, 137, 138, 139] (by decide +kernel) (by decide +kernel)
set_option maxRecDepth 20000 in
theorem gX12_judge_X12_comes : GoodIn wsX12_judge (wsV RX12 206 RX12 yX12_comes wsX12_comes) := goodIn_app (goodIn_of _ (by decide +kernel)) ggX12_judge_X12_comes
theorem dX12_judge_0 : decode cX12_judge 0 = .ok (.iload_n 1, 1) := by decide +kernel
theorem dX12_judge_1 : decode cX12_judge 1 = .ok (.i2l, 1) := by decide +kernel
theorem dX12_judge_2 : decode cX12_judge 2 = .ok (.lconst 0, 1) := by decide +kernel
theorem dX12_judge_3 : decode cX12_judge 3 = .ok (.ldc2_w 225, 3) := by decide +kernel
theorem dX12_judge_6 : decode cX12_judge 6 = .ok (.invokestatic 101, 3) := by decide +kernel
theorem dX12_judge_9 : decode cX12_judge 9 = .ok (.ifCond .eq 11, 3) := by decide +kernel
theorem dX12_judge_12 : decode cX12_judge 12 = .ok (.aload_n 0, 1) := by decide +kernel
theorem dX12_judge_13 : decode cX12_judge 13 = .ok (.iload_n 2, 1) := by decide +kernel
theorem dX12_judge_14 : decode cX12_judge 14 = .ok (.invokevirtual 148, 3) := by decide +kernel
theorem dX12_judge_17 : decode cX12_judge 17 = .ok (.ifCond .ne 5, 3) := by decide +kernel
theorem dX12_judge_20 : decode cX12_judge 20 = .ok (.iconst (-1), 1) := by decide +kernel
theorem dX12_judge_21 : decode cX12_judge 21 = .ok (.ireturn, 1) := by decide +kernel
theorem dX12_judge_22 : decode cX12_judge 22 = .ok (.aload_n 0, 1) := by decide +kernel
theorem dX12_judge_23 : decode cX12_judge 23 = .ok (.iload_n 1, 1) := by decide +kernel
theorem dX12_judge_24 : decode cX12_judge 24 = .ok (.iload_n 2, 1) := by decide +kernel
theorem dX12_judge_25 : decode cX12_judge 25 = .ok (.invokevirtual 235, 3) := by decide +kernel
theorem dX12_judge_28 : decode cX12_judge 28 = .ok (.aload_n 0, 1) := by decide +kernel
theorem dX12_judge_29 : decode cX12_judge 29 = .ok (.iload_n 2, 1) := by decide +kernel
theorem dX12_judge_30 : decode cX12_judge 30 = .ok (.invokevirtual 251, 3) := by decide +kernel
theorem dX12_judge_33 : decode cX12_judge 33 = .ok (.iconst 0, 1) := by decide +kernel
theorem dX12_judge_34 : decode cX12_judge 34 = .ok (.istore_n 3, 1) := by decide +kernel
theorem dX12_judge_35 : decode cX12_judge 35 = .ok (.iload_n 3, 1) := by decide +kernel
theorem dX12_judge_36 : decode cX12_judge 36 = .ok (.sipush 7272, 3) := by decide +kernel
theorem dX12_judge_39 : decode cX12_judge 39 = .ok (.if_icmp .ge 21, 3) := by decide +kernel
theorem dX12_judge_42 : decode cX12_judge 42 = .ok (.aload_n 0, 1) := by decide +kernel
theorem dX12_judge_43 : decode cX12_judge 43 = .ok (.getfield 60, 3) := by decide +kernel
theorem dX12_judge_46 : decode cX12_judge 46 = .ok (.iload_n 3, 1) := by decide +kernel
theorem dX12_judge_47 : decode cX12_judge 47 = .ok (.aload_n 0, 1) := by decide +kernel
theorem dX12_judge_48 : decode cX12_judge 48 = .ok (.getfield 53, 3) := by decide +kernel
theorem dX12_judge_51 : decode cX12_judge 51 = .ok (.iload_n 3, 1) := by decide +kernel
theorem dX12_judge_52 : decode cX12_judge 52 = .ok (.iaload, 1) := by decide +kernel
theorem dX12_judge_53 : decode cX12_judge 53 = .ok (.iastore, 1) := by decide +kernel
theorem dX12_judge_54 : decode cX12_judge 54 = .ok (.iinc 3 1, 3) := by decide +kernel
theorem dX12_judge_57 : decode cX12_judge 57 = .ok (.goto (-22), 3) := by decide +kernel
theorem dX12_judge_60 : decode cX12_judge 60 = .ok (.aload_n 0, 1) := by decide +kernel
theorem dX12_judge_61 : decode cX12_judge 61 = .ok (.iconst 0, 1) := by decide +kernel
theorem dX12_judge_62 : decode cX12_judge 62 = .ok (.invokevirtual 216, 3) := by decide +kernel
theorem dX12_judge_65 : decode cX12_judge 65 = .ok (.aload_n 0, 1) := by decide +kernel
theorem dX12_judge_66 : decode cX12_judge 66 = .ok (.iload_n 2, 1) := by decide +kernel
theorem dX12_judge_67 : decode cX12_judge 67 = .ok (.invokevirtual 219, 3) := by decide +kernel
theorem dX12_judge_70 : decode cX12_judge 70 = .ok (.iconst 0, 1) := by decide +kernel
theorem dX12_judge_71 : decode cX12_judge 71 = .ok (.istore_n 3, 1) := by decide +kernel
theorem dX12_judge_72 : decode cX12_judge 72 = .ok (.iload_n 3, 1) := by decide +kernel
theorem dX12_judge_73 : decode cX12_judge 73 = .ok (.aload_n 0, 1) := by decide +kernel
theorem dX12_judge_74 : decode cX12_judge 74 = .ok (.getfield 23, 3) := by decide +kernel
theorem dX12_judge_77 : decode cX12_judge 77 = .ok (.iconst 0, 1) := by decide +kernel
theorem dX12_judge_78 : decode cX12_judge 78 = .ok (.iaload, 1) := by decide +kernel
theorem dX12_judge_79 : decode cX12_judge 79 = .ok (.if_icmp .ge 112, 3) := by decide +kernel
theorem dX12_judge_82 : decode cX12_judge 82 = .ok (.aload_n 0, 1) := by decide +kernel
theorem dX12_judge_83 : decode cX12_judge 83 = .ok (.iload_n 3, 1) := by decide +kernel
theorem dX12_judge_84 : decode cX12_judge 84 = .ok (.invokevirtual 170, 3) := by decide +kernel
theorem dX12_judge_87 : decode cX12_judge 87 = .ok (.istore 4, 2) := by decide +kernel
theorem dX12_judge_89 : decode cX12_judge 89 = .ok (.iload 4, 2) := by decide +kernel
theorem dX12_judge_91 : decode cX12_judge 91 = .ok (.ifCond .le 94, 3) := by decide +kernel
theorem dX12_judge_94 : decode cX12_judge 94 = .ok (.iconst 0, 1) := by decide +kernel
theorem dX12_judge_95 : decode cX12_judge 95 = .ok (.istore 5, 2) := by decide +kernel
theorem dX12_judge_97 : decode cX12_judge 97 = .ok (.iload 5, 2) := by decide +kernel
theorem dX12_judge_99 : decode cX12_judge 99 = .ok (.bipush 100, 2) := by decide +kernel
theorem dX12_judge_101 : decode cX12_judge 101 = .ok (.if_icmp .gt 78, 3) := by decide +kernel
theorem dX12_judge_104 : decode cX12_judge 104 = .ok (.iload_n 3, 1) := by decide +kernel
theorem dX12_judge_105 : decode cX12_judge 105 = .ok (.iload 4, 2) := by decide +kernel
theorem dX12_judge_107 : decode cX12_judge 107 = .ok (.iload 5, 2) := by decide +kernel
theorem dX12_judge_109 : decode cX12_judge 109 = .ok (.invokestatic 173, 3) := by decide +kernel
theorem dX12_judge_112 : decode cX12_judge 112 = .ok (.istore 6, 2) := by decide +kernel
theorem dX12_judge_114 : decode cX12_judge 114 = .ok (.aload_n 0, 1) := by decide +kernel
theorem dX12_judge_115 : decode cX12_judge 115 = .ok (.getfield 63, 3) := by decide +kernel
theorem dX12_judge_118 : decode cX12_judge 118 = .ok (.iload 6, 2) := by decide +kernel
theorem dX12_judge_120 : decode cX12_judge 120 = .ok (.baload, 1) := by decide +kernel
theorem dX12_judge_121 : decode cX12_judge 121 = .ok (.ifCond .eq 52, 3) := by decide +kernel
theorem dX12_judge_124 : decode cX12_judge 124 = .ok (.aload_n 0, 1) := by decide +kernel
theorem dX12_judge_125 : decode cX12_judge 125 = .ok (.iload_n 3, 1) := by decide +kernel
theorem dX12_judge_126 : decode cX12_judge 126 = .ok (.iload 4, 2) := by decide +kernel
theorem dX12_judge_128 : decode cX12_judge 128 = .ok (.iload 5, 2) := by decide +kernel
theorem dX12_judge_130 : decode cX12_judge 130 = .ok (.iload_n 2, 1) := by decide +kernel
theorem dX12_judge_131 : decode cX12_judge 131 = .ok (.aload_n 0, 1) := by decide +kernel
theorem dX12_judge_132 : decode cX12_judge 132 = .ok (.getfield 60, 3) := by decide +kernel
theorem dX12_judge_135 : decode cX12_judge 135 = .ok (.iload 6, 2) := by decide +kernel
theorem dX12_judge_137 : decode cX12_judge 137 = .ok (.iaload, 1) := by decide +kernel
theorem dX12_judge_138 : decode cX12_judge 138 = .ok (.invokevirtual 206, 3) := by decide +kernel
theorem dX12_judge_141 : decode cX12_judge 141 = .ok (.aload_n 0, 1) := by decide +kernel
theorem dX12_judge_142 : decode cX12_judge 142 = .ok (.getfield 56, 3) := by decide +kernel
theorem dX12_judge_145 : decode cX12_judge 145 = .ok (.iload 6, 2) := by decide +kernel
theorem dX12_judge_147 : decode cX12_judge 147 = .ok (.laload, 1) := by decide +kernel
theorem dX12_judge_148 : decode cX12_judge 148 = .ok (.lcmp, 1) := by decide +kernel
theorem dX12_judge_149 : decode cX12_judge 149 = .ok (.ifCond .ge 24, 3) := by decide +kernel
theorem dX12_judge_152 : decode cX12_judge 152 = .ok (.sipush 1000, 3) := by decide +kernel
theorem dX12_judge_155 : decode cX12_judge 155 = .ok (.iload_n 3, 1) := by decide +kernel
theorem dX12_judge_156 : decode cX12_judge 156 = .ok (.imul, 1) := by decide +kernel
theorem dX12_judge_157 : decode cX12_judge 157 = .ok (.bipush 101, 2) := by decide +kernel
theorem dX12_judge_159 : decode cX12_judge 159 = .ok (.aload_n 0, 1) := by decide +kernel
theorem dX12_judge_160 : decode cX12_judge 160 = .ok (.iload_n 3, 1) := by decide +kernel
theorem dX12_judge_161 : decode cX12_judge 161 = .ok (.invokevirtual 170, 3) := by decide +kernel
theorem dX12_judge_164 : decode cX12_judge 164 = .ok (.iload 4, 2) := by decide +kernel
theorem dX12_judge_166 : decode cX12_judge 166 = .ok (.isub, 1) := by decide +kernel
theorem dX12_judge_167 : decode cX12_judge 167 = .ok (.imul, 1) := by decide +kernel
theorem dX12_judge_168 : decode cX12_judge 168 = .ok (.iadd, 1) := by decide +kernel
theorem dX12_judge_169 : decode cX12_judge 169 = .ok (.iload 5, 2) := by decide +kernel
theorem dX12_judge_171 : decode cX12_judge 171 = .ok (.iadd, 1) := by decide +kernel
theorem dX12_judge_172 : decode cX12_judge 172 = .ok (.ireturn, 1) := by decide +kernel
theorem dX12_judge_173 : decode cX12_judge 173 = .ok (.iinc 5 1, 3) := by decide +kernel
theorem dX12_judge_176 : decode cX12_judge 176 = .ok (.goto (-79), 3) := by decide +kernel
theorem dX12_judge_179 : decode cX12_judge 179 = .ok (.iinc 4 (-1), 3) := by decide +kernel
theorem dX12_judge_182 : decode cX12_judge 182 = .ok (.goto (-93), 3) := by decide +kernel
theorem dX12_judge_185 : decode cX12_judge 185 = .ok (.iinc 3 1, 3) := by decide +kernel
theorem dX12_judge_188 : decode cX12_judge 188 = .ok (.goto (-116), 3) := by decide +kernel
theorem dX12_judge_191 : decode cX12_judge 191 = .ok (.bipush (-4), 2) := by decide +kernel
theorem dX12_judge_193 : decode cX12_judge 193 = .ok (.ireturn, 1) := by decide +kernel
set_option maxRecDepth 20000 in
theorem ggX12_parts_X12_can : GoodIn wsX12_parts wsX12_can := goodIn_r _ [11, 12, 13, 14, 10, 15, 16, 17, 18, 19, 20, 21, 22, 23, 4, 24, 35, 36, 37, 38, 39, 40, 41, 42, 43, 44, 45, 46, 47, 48, 49, 50, 51, 52, 53, 54, 55, 56, 57, 58, 59, 60, 61, 62, 63, 64, 65] (by decide +kernel) (by decide +kernel)
set_option maxRecDepth 20000 in
theorem gX12_parts_X12_can : GoodIn wsX12_parts (wsV RX12 202 RX12 yX12_can wsX12_can) := goodIn_app (goodIn_of _ (by decide +kernel)) ggX12_parts_X12_can
set_option maxRecDepth 20000 in
theorem ggX12_parts_X12_wears : GoodIn wsX12_parts wsX12_wears := goodIn_r _ [28, 3, 24, 29, 30, 35, 36, 37, 38, 39, 40, 41, 42, 43, 44, 45, 46, 47, 48, 49, 50, 51, 52, 53, 54, 55, 56, 57, 58, 59, 60, 61, 62, 63, 64, 65] (by decide +kernel) (by decide +kernel)
set_option maxRecDepth 20000 in
theorem gX12_parts_X12_wears : GoodIn wsX12_parts (wsV RX12 156 RX12 yX12_wears wsX12_wears) := goodIn_app (goodIn_of _ (by decide +kernel)) ggX12_parts_X12_wears
set_option maxRecDepth 20000 in
theorem ggX12_parts_X12_minutes : GoodIn wsX12_parts wsX12_minutes := goodIn_r _ [34, 3, 24, 35, 36, 37, 38, 39, 40, 41, 42, 43, 44, 45, 46, 47, 48, 49, 50, 51, 52, 53, 54, 55, 56, 57, 58, 59, 60, 61, 62, 63, 64, 65] (by decide +kernel) (by decide +kernel)
set_option maxRecDepth 20000 in
theorem gX12_parts_X12_minutes : GoodIn wsX12_parts (wsV RX12 153 RX12 yX12_minutes wsX12_minutes) := goodIn_app (goodIn_of _ (by decide +kernel)) ggX12_parts_X12_minutes
theorem dX12_parts_0 : decode cX12_parts 0 = .ok (.bipush 101, 2) := by decide +kernel
theorem dX12_parts_2 : decode cX12_parts 2 = .ok (.iload_n 3, 1) := by decide +kernel
theorem dX12_parts_3 : decode cX12_parts 3 = .ok (.imul, 1) := by decide +kernel
theorem dX12_parts_4 : decode cX12_parts 4 = .ok (.iload 4, 2) := by decide +kernel
theorem dX12_parts_6 : decode cX12_parts 6 = .ok (.iadd, 1) := by decide +kernel
theorem dX12_parts_7 : decode cX12_parts 7 = .ok (.istore 5, 2) := by decide +kernel
theorem dX12_parts_9 : decode cX12_parts 9 = .ok (.aload_n 0, 1) := by decide +kernel
theorem dX12_parts_10 : decode cX12_parts 10 = .ok (.getfield 67, 3) := by decide +kernel
theorem dX12_parts_13 : decode cX12_parts 13 = .ok (.iload 5, 2) := by decide +kernel
theorem dX12_parts_15 : decode cX12_parts 15 = .ok (.ldc 254, 2) := by decide +kernel
theorem dX12_parts_17 : decode cX12_parts 17 = .ok (.iastore, 1) := by decide +kernel
theorem dX12_parts_18 : decode cX12_parts 18 = .ok (.iconst 0, 1) := by decide +kernel
theorem dX12_parts_19 : decode cX12_parts 19 = .ok (.istore 6, 2) := by decide +kernel
theorem dX12_parts_21 : decode cX12_parts 21 = .ok (.iload 6, 2) := by decide +kernel
theorem dX12_parts_23 : decode cX12_parts 23 = .ok (.bipush 48, 2) := by decide +kernel
theorem dX12_parts_25 : decode cX12_parts 25 = .ok (.if_icmp .ge 232, 3) := by decide +kernel
theorem dX12_parts_28 : decode cX12_parts 28 = .ok (.iload 6, 2) := by decide +kernel
theorem dX12_parts_30 : decode cX12_parts 30 = .ok (.bipush 8, 2) := by decide +kernel
theorem dX12_parts_32 : decode cX12_parts 32 = .ok (.irem, 1) := by decide +kernel
theorem dX12_parts_33 : decode cX12_parts 33 = .ok (.iconst 1, 1) := by decide +kernel
theorem dX12_parts_34 : decode cX12_parts 34 = .ok (.iadd, 1) := by decide +kernel
theorem dX12_parts_35 : decode cX12_parts 35 = .ok (.istore 7, 2) := by decide +kernel
theorem dX12_parts_37 : decode cX12_parts 37 = .ok (.aload_n 0, 1) := by decide +kernel
theorem dX12_parts_38 : decode cX12_parts 38 = .ok (.iload_n 1, 1) := by decide +kernel
theorem dX12_parts_39 : decode cX12_parts 39 = .ok (.iload_n 3, 1) := by decide +kernel
theorem dX12_parts_40 : decode cX12_parts 40 = .ok (.iload 4, 2) := by decide +kernel
theorem dX12_parts_42 : decode cX12_parts 42 = .ok (.iload 6, 2) := by decide +kernel
theorem dX12_parts_44 : decode cX12_parts 44 = .ok (.invokevirtual 202, 3) := by decide +kernel
theorem dX12_parts_47 : decode cX12_parts 47 = .ok (.istore 8, 2) := by decide +kernel
theorem dX12_parts_49 : decode cX12_parts 49 = .ok (.iload 8, 2) := by decide +kernel
theorem dX12_parts_51 : decode cX12_parts 51 = .ok (.ifCond .eq 22, 3) := by decide +kernel
theorem dX12_parts_54 : decode cX12_parts 54 = .ok (.iload 4, 2) := by decide +kernel
theorem dX12_parts_56 : decode cX12_parts 56 = .ok (.aload_n 0, 1) := by decide +kernel
theorem dX12_parts_57 : decode cX12_parts 57 = .ok (.iload_n 1, 1) := by decide +kernel
theorem dX12_parts_58 : decode cX12_parts 58 = .ok (.iload 6, 2) := by decide +kernel
theorem dX12_parts_60 : decode cX12_parts 60 = .ok (.bipush 8, 2) := by decide +kernel
theorem dX12_parts_62 : decode cX12_parts 62 = .ok (.idiv, 1) := by decide +kernel
theorem dX12_parts_63 : decode cX12_parts 63 = .ok (.iload 7, 2) := by decide +kernel
theorem dX12_parts_65 : decode cX12_parts 65 = .ok (.iload_n 2, 1) := by decide +kernel
theorem dX12_parts_66 : decode cX12_parts 66 = .ok (.invokevirtual 156, 3) := by decide +kernel
theorem dX12_parts_69 : decode cX12_parts 69 = .ok (.iadd, 1) := by decide +kernel
theorem dX12_parts_70 : decode cX12_parts 70 = .ok (.goto 5, 3) := by decide +kernel
theorem dX12_parts_73 : decode cX12_parts 73 = .ok (.bipush 101, 2) := by decide +kernel
theorem dX12_parts_75 : decode cX12_parts 75 = .ok (.istore 9, 2) := by decide +kernel
theorem dX12_parts_77 : decode cX12_parts 77 = .ok (.iload 9, 2) := by decide +kernel
theorem dX12_parts_79 : decode cX12_parts 79 = .ok (.bipush 100, 2) := by decide +kernel
theorem dX12_parts_81 : decode cX12_parts 81 = .ok (.if_icmp .gt 28, 3) := by decide +kernel
theorem dX12_parts_84 : decode cX12_parts 84 = .ok (.iload 7, 2) := by decide +kernel
theorem dX12_parts_86 : decode cX12_parts 86 = .ok (.iload_n 3, 1) := by decide +kernel
theorem dX12_parts_87 : decode cX12_parts 87 = .ok (.if_icmp .lt 18, 3) := by decide +kernel
theorem dX12_parts_90 : decode cX12_parts 90 = .ok (.iload 4, 2) := by decide +kernel
theorem dX12_parts_92 : decode cX12_parts 92 = .ok (.aload_n 0, 1) := by decide +kernel
theorem dX12_parts_93 : decode cX12_parts 93 = .ok (.getfield 26, 3) := by decide +kernel
theorem dX12_parts_96 : decode cX12_parts 96 = .ok (.iconst 4, 1) := by decide +kernel
theorem dX12_parts_97 : decode cX12_parts 97 = .ok (.iload_n 1, 1) := by decide +kernel
theorem dX12_parts_98 : decode cX12_parts 98 = .ok (.imul, 1) := by decide +kernel
theorem dX12_parts_99 : decode cX12_parts 99 = .ok (.iconst 2, 1) := by decide +kernel
theorem dX12_parts_100 : decode cX12_parts 100 = .ok (.iadd, 1) := by decide +kernel
theorem dX12_parts_101 : decode cX12_parts 101 = .ok (.iaload, 1) := by decide +kernel
theorem dX12_parts_102 : decode cX12_parts 102 = .ok (.if_icmp .gt 7, 3) := by decide +kernel
theorem dX12_parts_105 : decode cX12_parts 105 = .ok (.iconst 1, 1) := by decide +kernel
theorem dX12_parts_106 : decode cX12_parts 106 = .ok (.goto 4, 3) := by decide +kernel
theorem dX12_parts_109 : decode cX12_parts 109 = .ok (.iconst 0, 1) := by decide +kernel
theorem dX12_parts_110 : decode cX12_parts 110 = .ok (.istore 8, 2) := by decide +kernel
theorem dX12_parts_112 : decode cX12_parts 112 = .ok (.iload 8, 2) := by decide +kernel
theorem dX12_parts_114 : decode cX12_parts 114 = .ok (.ifCond .eq 16, 3) := by decide +kernel
theorem dX12_parts_117 : decode cX12_parts 117 = .ok (.bipush 101, 2) := by decide +kernel
theorem dX12_parts_119 : decode cX12_parts 119 = .ok (.iload_n 3, 1) := by decide +kernel
theorem dX12_parts_120 : decode cX12_parts 120 = .ok (.iload 7, 2) := by decide +kernel
theorem dX12_parts_122 : decode cX12_parts 122 = .ok (.isub, 1) := by decide +kernel
theorem dX12_parts_123 : decode cX12_parts 123 = .ok (.imul, 1) := by decide +kernel
theorem dX12_parts_124 : decode cX12_parts 124 = .ok (.iload 9, 2) := by decide +kernel
theorem dX12_parts_126 : decode cX12_parts 126 = .ok (.iadd, 1) := by decide +kernel
theorem dX12_parts_127 : decode cX12_parts 127 = .ok (.goto 4, 3) := by decide +kernel
theorem dX12_parts_130 : decode cX12_parts 130 = .ok (.iconst 0, 1) := by decide +kernel
theorem dX12_parts_131 : decode cX12_parts 131 = .ok (.istore 10, 2) := by decide +kernel
theorem dX12_parts_133 : decode cX12_parts 133 = .ok (.iload 8, 2) := by decide +kernel
theorem dX12_parts_135 : decode cX12_parts 135 = .ok (.ifCond .eq 116, 3) := by decide +kernel
theorem dX12_parts_138 : decode cX12_parts 138 = .ok (.aload_n 0, 1) := by decide +kernel
theorem dX12_parts_139 : decode cX12_parts 139 = .ok (.getfield 67, 3) := by decide +kernel
theorem dX12_parts_142 : decode cX12_parts 142 = .ok (.iload 10, 2) := by decide +kernel
theorem dX12_parts_144 : decode cX12_parts 144 = .ok (.iaload, 1) := by decide +kernel
theorem dX12_parts_145 : decode cX12_parts 145 = .ok (.ldc 254, 2) := by decide +kernel
theorem dX12_parts_147 : decode cX12_parts 147 = .ok (.if_icmp .ge 104, 3) := by decide +kernel
theorem dX12_parts_150 : decode cX12_parts 150 = .ok (.aload_n 0, 1) := by decide +kernel
theorem dX12_parts_151 : decode cX12_parts 151 = .ok (.getfield 67, 3) := by decide +kernel
theorem dX12_parts_154 : decode cX12_parts 154 = .ok (.iload 10, 2) := by decide +kernel
theorem dX12_parts_156 : decode cX12_parts 156 = .ok (.iaload, 1) := by decide +kernel
theorem dX12_parts_157 : decode cX12_parts 157 = .ok (.aload_n 0, 1) := by decide +kernel
theorem dX12_parts_158 : decode cX12_parts 158 = .ok (.iload_n 1, 1) := by decide +kernel
theorem dX12_parts_159 : decode cX12_parts 159 = .ok (.iload 6, 2) := by decide +kernel
theorem dX12_parts_161 : decode cX12_parts 161 = .ok (.bipush 8, 2) := by decide +kernel
theorem dX12_parts_163 : decode cX12_parts 163 = .ok (.idiv, 1) := by decide +kernel
theorem dX12_parts_164 : decode cX12_parts 164 = .ok (.invokevirtual 153, 3) := by decide +kernel
theorem dX12_parts_167 : decode cX12_parts 167 = .ok (.aload_n 0, 1) := by decide +kernel
theorem dX12_parts_168 : decode cX12_parts 168 = .ok (.getfield 41, 3) := by decide +kernel
theorem dX12_parts_171 : decode cX12_parts 171 = .ok (.iconst 2, 1) := by decide +kernel
theorem dX12_parts_172 : decode cX12_parts 172 = .ok (.iaload, 1) := by decide +kernel
theorem dX12_parts_173 : decode cX12_parts 173 = .ok (.imul, 1) := by decide +kernel
theorem dX12_parts_174 : decode cX12_parts 174 = .ok (.iadd, 1) := by decide +kernel
theorem dX12_parts_175 : decode cX12_parts 175 = .ok (.istore 11, 2) := by decide +kernel
theorem dX12_parts_177 : decode cX12_parts 177 = .ok (.aload_n 0, 1) := by decide +kernel
theorem dX12_parts_178 : decode cX12_parts 178 = .ok (.getfield 70, 3) := by decide +kernel
theorem dX12_parts_181 : decode cX12_parts 181 = .ok (.iload 10, 2) := by decide +kernel
theorem dX12_parts_183 : decode cX12_parts 183 = .ok (.iaload, 1) := by decide +kernel
theorem dX12_parts_184 : decode cX12_parts 184 = .ok (.iconst 1, 1) := by decide +kernel
theorem dX12_parts_185 : decode cX12_parts 185 = .ok (.iadd, 1) := by decide +kernel
theorem dX12_parts_186 : decode cX12_parts 186 = .ok (.istore 12, 2) := by decide +kernel
theorem dX12_parts_188 : decode cX12_parts 188 = .ok (.iload 11, 2) := by decide +kernel
theorem dX12_parts_190 : decode cX12_parts 190 = .ok (.aload_n 0, 1) := by decide +kernel
theorem dX12_parts_191 : decode cX12_parts 191 = .ok (.getfield 67, 3) := by decide +kernel
theorem dX12_parts_194 : decode cX12_parts 194 = .ok (.iload 5, 2) := by decide +kernel
theorem dX12_parts_196 : decode cX12_parts 196 = .ok (.iaload, 1) := by decide +kernel
theorem dX12_parts_197 : decode cX12_parts 197 = .ok (.if_icmp .lt 27, 3) := by decide +kernel
theorem dX12_parts_200 : decode cX12_parts 200 = .ok (.iload 11, 2) := by decide +kernel
theorem dX12_parts_202 : decode cX12_parts 202 = .ok (.aload_n 0, 1) := by decide +kernel
theorem dX12_parts_203 : decode cX12_parts 203 = .ok (.getfield 67, 3) := by decide +kernel
theorem dX12_parts_206 : decode cX12_parts 206 = .ok (.iload 5, 2) := by decide +kernel
theorem dX12_parts_208 : decode cX12_parts 208 = .ok (.iaload, 1) := by decide +kernel
theorem dX12_parts_209 : decode cX12_parts 209 = .ok (.if_icmp .ne 42, 3) := by decide +kernel
theorem dX12_parts_212 : decode cX12_parts 212 = .ok (.iload 12, 2) := by decide +kernel
theorem dX12_parts_214 : decode cX12_parts 214 = .ok (.aload_n 0, 1) := by decide +kernel
theorem dX12_parts_215 : decode cX12_parts 215 = .ok (.getfield 70, 3) := by decide +kernel
theorem dX12_parts_218 : decode cX12_parts 218 = .ok (.iload 5, 2) := by decide +kernel
theorem dX12_parts_220 : decode cX12_parts 220 = .ok (.iaload, 1) := by decide +kernel
theorem dX12_parts_221 : decode cX12_parts 221 = .ok (.if_icmp .ge 30, 3) := by decide +kernel
theorem dX12_parts_224 : decode cX12_parts 224 = .ok (.aload_n 0, 1) := by decide +kernel
theorem dX12_parts_225 : decode cX12_parts 225 = .ok (.getfield 67, 3) := by decide +kernel
theorem dX12_parts_228 : decode cX12_parts 228 = .ok (.iload 5, 2) := by decide +kernel
theorem dX12_parts_230 : decode cX12_parts 230 = .ok (.iload 11, 2) := by decide +kernel
theorem dX12_parts_232 : decode cX12_parts 232 = .ok (.iastore, 1) := by decide +kernel
theorem dX12_parts_233 : decode cX12_parts 233 = .ok (.aload_n 0, 1) := by decide +kernel
theorem dX12_parts_234 : decode cX12_parts 234 = .ok (.getfield 70, 3) := by decide +kernel
theorem dX12_parts_237 : decode cX12_parts 237 = .ok (.iload 5, 2) := by decide +kernel
theorem dX12_parts_239 : decode cX12_parts 239 = .ok (.iload 12, 2) := by decide +kernel
theorem dX12_parts_241 : decode cX12_parts 241 = .ok (.iastore, 1) := by decide +kernel
theorem dX12_parts_242 : decode cX12_parts 242 = .ok (.aload_n 0, 1) := by decide +kernel
theorem dX12_parts_243 : decode cX12_parts 243 = .ok (.getfield 73, 3) := by decide +kernel
theorem dX12_parts_246 : decode cX12_parts 246 = .ok (.iload 5, 2) := by decide +kernel
theorem dX12_parts_248 : decode cX12_parts 248 = .ok (.iload 6, 2) := by decide +kernel
theorem dX12_parts_250 : decode cX12_parts 250 = .ok (.iastore, 1) := by decide +kernel
theorem dX12_parts_251 : decode cX12_parts 251 = .ok (.iinc 6 1, 3) := by decide +kernel
theorem dX12_parts_254 : decode cX12_parts 254 = .ok (.goto (-233), 3) := by decide +kernel
theorem dX12_parts_257 : decode cX12_parts 257 = .ok (.return_, 1) := by decide +kernel
set_option maxRecDepth 20000 in
theorem ggX12_parted_X12_isPiece : GoodIn wsX12_parted wsX12_isPiece := goodIn_r _ [13, 14, 15, 16, 12, 17, 57, 58, 59, 60, 61, 62, 63, 64, 65, 66, 67, 68, 69, 70, 71, 72, 73, 74, 75, 76, 77, 78, 79, 80, 81, 82, 83, 84, 85, 86, 87] (by decide +kernel) (by decide +kernel)
set_option maxRecDepth 20000 in
theorem gX12_parted_X12_isPiece : GoodIn wsX12_parted (wsV RX12 141 RX12 yX12_isPiece wsX12_isPiece) := goodIn_app (goodIn_of _ (by decide +kernel)) ggX12_parted_X12_isPiece
set_option maxRecDepth 20000 in
theorem ggX12_parted_X12_isSteel : GoodIn wsX12_parted wsX12_isSteel := goodIn_r _ [21, 22, 15, 16, 12, 17, 57, 58, 59, 60, 61, 62, 63, 64, 65, 66, 67, 68, 69, 70, 71, 72, 73, 74, 75, 76, 77, 78, 79, 80, 81, 82, 83, 84, 85, 86, 87] (by decide +kernel) (by decide +kernel)
set_option maxRecDepth 20000 in
theorem gX12_parted_X12_isSteel : GoodIn wsX12_parted (wsV RX12 148 RX12 yX12_isSteel wsX12_isSteel) := goodIn_app (goodIn_of _ (by decide +kernel)) ggX12_parted_X12_isSteel
set_option maxRecDepth 20000 in
theorem ggX12_parted_X12_in : GoodIn wsX12_parted wsX12_in := goodIn_r _ [17] (by decide +kernel) (by decide +kernel)
set_option maxRecDepth 20000 in
theorem gX12_parted_X12_in : GoodIn wsX12_parted (va_wsS RX12 101 yX12_in wsX12_in) := goodIn_app (goodIn_of _ (by decide +kernel)) ggX12_parted_X12_in
set_option maxRecDepth 20000 in
theorem ggX12_parted_X12_steps : GoodIn wsX12_parted wsX12_steps := goodIn_r _ [26, 27, 57, 58, 59, 60, 61, 62, 63, 64, 65, 66, 67, 68, 69, 70, 71, 72, 73, 74, 75, 76, 77, 78, 79, 80, 81, 82, 83, 84, 85, 86, 87] (by decide +kernel) (by decide +kernel)
set_option maxRecDepth 20000 in
theorem gX12_parted_X12_steps : GoodIn wsX12_parted (wsV RX12 170 RX12 yX12_steps wsX12_steps) := goodIn_app (goodIn_of _ (by decide +kernel)) ggX12_parted_X12_steps
set_option maxRecDepth 20000 in
theorem ggX12_parted_X12_parts : GoodIn wsX12_parted wsX12_parts := goodIn_r _ [31, 4, 6, 27, 32, 5, 8, 33, 34, 35, 12, 36, 37, 38, 39, 40, 41, 15, 16, 17, 42, 43, 44, 45, 46, 47, 48, 49, 50, 51, 52, 53, 54, 55, 56, 57, 58, 59, 60, 61, 62, 63, 64, 65, 66, 67, 68, 69, 70, 71, 72, 73, 74, 75, 76, 77, 78, 79, 80, 81, 82, 83, 84, 85, 86, 87] (by decide +kernel) (by decide +kernel)
set_option maxRecDepth 20000 in
theorem gX12_parted_X12_parts : GoodIn wsX12_parted (wsV RX12 255 RX12 yX12_parts wsX12_parts) := goodIn_app (goodIn_of _ (by decide +kernel)) ggX12_parted_X12_parts
theorem dX12_parted_0 : decode cX12_parted 0 = .ok (.aload_n 0, 1) := by decide +kernel
theorem dX12_parted_1 : decode cX12_parted 1 = .ok (.iload_n 1, 1) := by decide +kernel
theorem dX12_parted_2 : decode cX12_parted 2 = .ok (.invokevirtual 141, 3) := by decide +kernel
theorem dX12_parted_5 : decode cX12_parted 5 = .ok (.ifCond .eq 36, 3) := by decide +kernel
theorem dX12_parted_8 : decode cX12_parted 8 = .ok (.aload_n 0, 1) := by decide +kernel
theorem dX12_parted_9 : decode cX12_parted 9 = .ok (.iload_n 2, 1) := by decide +kernel
theorem dX12_parted_10 : decode cX12_parted 10 = .ok (.invokevirtual 148, 3) := by decide +kernel
theorem dX12_parted_13 : decode cX12_parted 13 = .ok (.ifCond .eq 28, 3) := by decide +kernel
theorem dX12_parted_16 : decode cX12_parted 16 = .ok (.iload_n 3, 1) := by decide +kernel
theorem dX12_parted_17 : decode cX12_parted 17 = .ok (.i2l, 1) := by decide +kernel
theorem dX12_parted_18 : decode cX12_parted 18 = .ok (.lconst 0, 1) := by decide +kernel
theorem dX12_parted_19 : decode cX12_parted 19 = .ok (.ldc2_w 164, 3) := by decide +kernel
theorem dX12_parted_22 : decode cX12_parted 22 = .ok (.invokestatic 101, 3) := by decide +kernel
theorem dX12_parted_25 : decode cX12_parted 25 = .ok (.ifCond .eq 16, 3) := by decide +kernel
theorem dX12_parted_28 : decode cX12_parted 28 = .ok (.iload 4, 2) := by decide +kernel
theorem dX12_parted_30 : decode cX12_parted 30 = .ok (.i2l, 1) := by decide +kernel
theorem dX12_parted_31 : decode cX12_parted 31 = .ok (.lconst 0, 1) := by decide +kernel
theorem dX12_parted_32 : decode cX12_parted 32 = .ok (.ldc2_w 151, 3) := by decide +kernel
theorem dX12_parted_35 : decode cX12_parted 35 = .ok (.invokestatic 101, 3) := by decide +kernel
theorem dX12_parted_38 : decode cX12_parted 38 = .ok (.ifCond .ne 7, 3) := by decide +kernel
theorem dX12_parted_41 : decode cX12_parted 41 = .ok (.ldc2_w 196, 3) := by decide +kernel
theorem dX12_parted_44 : decode cX12_parted 44 = .ok (.lreturn, 1) := by decide +kernel
theorem dX12_parted_45 : decode cX12_parted 45 = .ok (.iconst 0, 1) := by decide +kernel
theorem dX12_parted_46 : decode cX12_parted 46 = .ok (.istore 5, 2) := by decide +kernel
theorem dX12_parted_48 : decode cX12_parted 48 = .ok (.iload 5, 2) := by decide +kernel
theorem dX12_parted_50 : decode cX12_parted 50 = .ok (.aload_n 0, 1) := by decide +kernel
theorem dX12_parted_51 : decode cX12_parted 51 = .ok (.iload_n 1, 1) := by decide +kernel
theorem dX12_parted_52 : decode cX12_parted 52 = .ok (.invokevirtual 170, 3) := by decide +kernel
theorem dX12_parted_55 : decode cX12_parted 55 = .ok (.if_icmp .gt 59, 3) := by decide +kernel
theorem dX12_parted_58 : decode cX12_parted 58 = .ok (.iconst 0, 1) := by decide +kernel
theorem dX12_parted_59 : decode cX12_parted 59 = .ok (.istore 6, 2) := by decide +kernel
theorem dX12_parted_61 : decode cX12_parted 61 = .ok (.iload 6, 2) := by decide +kernel
theorem dX12_parted_63 : decode cX12_parted 63 = .ok (.bipush 100, 2) := by decide +kernel
theorem dX12_parted_65 : decode cX12_parted 65 = .ok (.if_icmp .gt 43, 3) := by decide +kernel
theorem dX12_parted_68 : decode cX12_parted 68 = .ok (.iload 5, 2) := by decide +kernel
theorem dX12_parted_70 : decode cX12_parted 70 = .ok (.ifCond .ne 22, 3) := by decide +kernel
theorem dX12_parted_73 : decode cX12_parted 73 = .ok (.aload_n 0, 1) := by decide +kernel
theorem dX12_parted_74 : decode cX12_parted 74 = .ok (.getfield 67, 3) := by decide +kernel
theorem dX12_parted_77 : decode cX12_parted 77 = .ok (.iload 6, 2) := by decide +kernel
theorem dX12_parted_79 : decode cX12_parted 79 = .ok (.iconst 0, 1) := by decide +kernel
theorem dX12_parted_80 : decode cX12_parted 80 = .ok (.iastore, 1) := by decide +kernel
theorem dX12_parted_81 : decode cX12_parted 81 = .ok (.aload_n 0, 1) := by decide +kernel
theorem dX12_parted_82 : decode cX12_parted 82 = .ok (.getfield 70, 3) := by decide +kernel
theorem dX12_parted_85 : decode cX12_parted 85 = .ok (.iload 6, 2) := by decide +kernel
theorem dX12_parted_87 : decode cX12_parted 87 = .ok (.iconst 0, 1) := by decide +kernel
theorem dX12_parted_88 : decode cX12_parted 88 = .ok (.iastore, 1) := by decide +kernel
theorem dX12_parted_89 : decode cX12_parted 89 = .ok (.goto 13, 3) := by decide +kernel
theorem dX12_parted_92 : decode cX12_parted 92 = .ok (.aload_n 0, 1) := by decide +kernel
theorem dX12_parted_93 : decode cX12_parted 93 = .ok (.iload_n 1, 1) := by decide +kernel
theorem dX12_parted_94 : decode cX12_parted 94 = .ok (.iload_n 2, 1) := by decide +kernel
theorem dX12_parted_95 : decode cX12_parted 95 = .ok (.iload 5, 2) := by decide +kernel
theorem dX12_parted_97 : decode cX12_parted 97 = .ok (.iload 6, 2) := by decide +kernel
theorem dX12_parted_99 : decode cX12_parted 99 = .ok (.invokevirtual 255, 3) := by decide +kernel
theorem dX12_parted_102 : decode cX12_parted 102 = .ok (.iinc 6 1, 3) := by decide +kernel
theorem dX12_parted_105 : decode cX12_parted 105 = .ok (.goto (-44), 3) := by decide +kernel
theorem dX12_parted_108 : decode cX12_parted 108 = .ok (.iinc 5 1, 3) := by decide +kernel
theorem dX12_parted_111 : decode cX12_parted 111 = .ok (.goto (-63), 3) := by decide +kernel
theorem dX12_parted_114 : decode cX12_parted 114 = .ok (.bipush 101, 2) := by decide +kernel
theorem dX12_parted_116 : decode cX12_parted 116 = .ok (.aload_n 0, 1) := by decide +kernel
theorem dX12_parted_117 : decode cX12_parted 117 = .ok (.iload_n 1, 1) := by decide +kernel
theorem dX12_parted_118 : decode cX12_parted 118 = .ok (.invokevirtual 170, 3) := by decide +kernel
theorem dX12_parted_121 : decode cX12_parted 121 = .ok (.imul, 1) := by decide +kernel
theorem dX12_parted_122 : decode cX12_parted 122 = .ok (.iload_n 3, 1) := by decide +kernel
theorem dX12_parted_123 : decode cX12_parted 123 = .ok (.iadd, 1) := by decide +kernel
theorem dX12_parted_124 : decode cX12_parted 124 = .ok (.istore 5, 2) := by decide +kernel
theorem dX12_parted_126 : decode cX12_parted 126 = .ok (.aload_n 0, 1) := by decide +kernel
theorem dX12_parted_127 : decode cX12_parted 127 = .ok (.getfield 67, 3) := by decide +kernel
theorem dX12_parted_130 : decode cX12_parted 130 = .ok (.iload 5, 2) := by decide +kernel
theorem dX12_parted_132 : decode cX12_parted 132 = .ok (.iaload, 1) := by decide +kernel
theorem dX12_parted_133 : decode cX12_parted 133 = .ok (.ldc 254, 2) := by decide +kernel
theorem dX12_parted_135 : decode cX12_parted 135 = .ok (.if_icmp .ne 9, 3) := by decide +kernel
theorem dX12_parted_138 : decode cX12_parted 138 = .ok (.ldc2_w 258, 3) := by decide +kernel
theorem dX12_parted_141 : decode cX12_parted 141 = .ok (.goto 44, 3) := by decide +kernel
theorem dX12_parted_144 : decode cX12_parted 144 = .ok (.iload 4, 2) := by decide +kernel
theorem dX12_parted_146 : decode cX12_parted 146 = .ok (.ifCond .ne 14, 3) := by decide +kernel
theorem dX12_parted_149 : decode cX12_parted 149 = .ok (.aload_n 0, 1) := by decide +kernel
theorem dX12_parted_150 : decode cX12_parted 150 = .ok (.getfield 67, 3) := by decide +kernel
theorem dX12_parted_153 : decode cX12_parted 153 = .ok (.iload 5, 2) := by decide +kernel
theorem dX12_parted_155 : decode cX12_parted 155 = .ok (.iaload, 1) := by decide +kernel
theorem dX12_parted_156 : decode cX12_parted 156 = .ok (.i2l, 1) := by decide +kernel
theorem dX12_parted_157 : decode cX12_parted 157 = .ok (.goto 28, 3) := by decide +kernel
theorem dX12_parted_160 : decode cX12_parted 160 = .ok (.iload 4, 2) := by decide +kernel
theorem dX12_parted_162 : decode cX12_parted 162 = .ok (.iconst 1, 1) := by decide +kernel
theorem dX12_parted_163 : decode cX12_parted 163 = .ok (.if_icmp .ne 14, 3) := by decide +kernel
theorem dX12_parted_166 : decode cX12_parted 166 = .ok (.aload_n 0, 1) := by decide +kernel
theorem dX12_parted_167 : decode cX12_parted 167 = .ok (.getfield 70, 3) := by decide +kernel
theorem dX12_parted_170 : decode cX12_parted 170 = .ok (.iload 5, 2) := by decide +kernel
theorem dX12_parted_172 : decode cX12_parted 172 = .ok (.iaload, 1) := by decide +kernel
theorem dX12_parted_173 : decode cX12_parted 173 = .ok (.i2l, 1) := by decide +kernel
theorem dX12_parted_174 : decode cX12_parted 174 = .ok (.goto 11, 3) := by decide +kernel
theorem dX12_parted_177 : decode cX12_parted 177 = .ok (.aload_n 0, 1) := by decide +kernel
theorem dX12_parted_178 : decode cX12_parted 178 = .ok (.getfield 73, 3) := by decide +kernel
theorem dX12_parted_181 : decode cX12_parted 181 = .ok (.iload 5, 2) := by decide +kernel
theorem dX12_parted_183 : decode cX12_parted 183 = .ok (.iaload, 1) := by decide +kernel
theorem dX12_parted_184 : decode cX12_parted 184 = .ok (.i2l, 1) := by decide +kernel
theorem dX12_parted_185 : decode cX12_parted 185 = .ok (.lreturn, 1) := by decide +kernel
set_option maxRecDepth 20000 in
theorem ggX12_guessOf_X12_counts : GoodIn wsX12_guessOf wsX12_counts := goodIn_r _ [6, 7, 8, 9, 10, 11, 12, 13, 14, 15, 16, 76, 77, 78, 79, 80, 81, 82, 83, 84, 85, 86, 87, 88, 89, 90, 91, 92, 93, 94, 95, 96, 97, 98, 99, 100, 101, 102, 103, 104, 105, 106] (by decide +kernel) (by decide +kernel)
set_option maxRecDepth 20000 in
theorem gX12_guessOf_X12_counts : GoodIn wsX12_guessOf (wsV RX12 216 RX12 yX12_counts wsX12_counts) := goodIn_app (goodIn_of _ (by decide +kernel)) ggX12_guessOf_X12_counts
set_option maxRecDepth 20000 in
theorem ggX12_guessOf_X12_solves : GoodIn wsX12_guessOf wsX12_solves := goodIn_r _ [20, 21, 22, 1, 23, 24, 25, 5, 26, 27, 28, 29, 30, 31, 32, 33, 34, 35, 36, 37, 38, 39, 40, 41, 42, 43, 44, 45, 46, 7, 47, 48, 49, 50, 51, 11, 16, 14, 10, 9, 8, 52, 53, 54, 55, 56, 57, 58, 59, 60, 61, 62, 63, 64, 65, 66, 67, 68, 69, 70, 71, 76, 77, 78, 79, 80, 81, 82, 83, 84, 85, 86, 87, 88, 89, 90, 91, 92, 93, 94, 95, 96, 97, 98, 99, 100, 101, 102, 103, 104, 105, 106] (by decide +kernel) (by decide +kernel)
set_option maxRecDepth 20000 in
theorem gX12_guessOf_X12_solves : GoodIn wsX12_guessOf (wsV RX12 219 RX12 yX12_solves wsX12_solves) := goodIn_app (goodIn_of _ (by decide +kernel)) ggX12_guessOf_X12_solves
set_option maxRecDepth 20000 in
theorem ggX12_guessOf_X12_follows : GoodIn wsX12_guessOf wsX12_follows := goodIn_r _ [75, 21, 1, 22, 23, 24, 25, 5, 26, 27, 28, 29, 30, 48, 49, 50, 51, 11, 16, 14, 10, 9, 8, 52, 53, 54, 55, 56, 57, 58, 59, 47, 60, 61, 62, 63, 64, 65, 66, 67, 68, 69, 70, 71, 76, 77, 78, 79, 80, 81, 82, 83, 84, 85, 86, 87, 88, 89, 90, 91, 92, 93, 94, 95, 96, 97, 98, 99, 100, 101, 102, 103, 104, 105, 106] (by decide +kernel) (by decide +kernel)
set_option maxRecDepth 20000 in
theorem gX12_guessOf_X12_follows : GoodIn wsX12_guessOf (wsV RX12 240 RX12 yX12_follows wsX12_follows) := goodIn_app (goodIn_of _ (by decide +kernel)) ggX12_guessOf_X12_follows
set_option maxRecDepth 20000 in
theorem ggX12_guessOf_X12_steps : GoodIn wsX12_guessOf wsX12_steps := goodIn_r _ [26, 27, 76, 77, 78, 79, 80, 81, 82, 83, 84, 85, 86, 87, 88, 89, 90, 91, 92, 93, 94, 95, 96, 97, 98, 99, 100, 101, 102, 103, 104, 105, 106] (by decide +kernel) (by decide +kernel)
set_option maxRecDepth 20000 in
theorem gX12_guessOf_X12_steps : GoodIn wsX12_guessOf (wsV RX12 170 RX12 yX12_steps wsX12_steps) := goodIn_app (goodIn_of _ (by decide +kernel)) ggX12_guessOf_X12_steps
set_option maxRecDepth 20000 in
theorem ggX12_guessOf_X12_cell : GoodIn wsX12_guessOf wsX12_cell := goodIn_r _ [30] (by decide +kernel) (by decide +kernel)
set_option maxRecDepth 20000 in
theorem gX12_guessOf_X12_cell : GoodIn wsX12_guessOf (va_wsS RX12 173 yX12_cell wsX12_cell) := goodIn_app (goodIn_of _ (by decide +kernel)) ggX12_guessOf_X12_cell
theorem dX12_guessOf_0 : decode cX12_guessOf 0 = .ok (.aload_n 0, 1) := by decide +kernel
theorem dX12_guessOf_1 : decode cX12_guessOf 1 = .ok (.iconst 0, 1) := by decide +kernel
theorem dX12_guessOf_2 : decode cX12_guessOf 2 = .ok (.invokevirtual 216, 3) := by decide +kernel
theorem dX12_guessOf_5 : decode cX12_guessOf 5 = .ok (.aload_n 0, 1) := by decide +kernel
theorem dX12_guessOf_6 : decode cX12_guessOf 6 = .ok (.iload_n 1, 1) := by decide +kernel
theorem dX12_guessOf_7 : decode cX12_guessOf 7 = .ok (.invokevirtual 219, 3) := by decide +kernel
theorem dX12_guessOf_10 : decode cX12_guessOf 10 = .ok (.aload_n 0, 1) := by decide +kernel
theorem dX12_guessOf_11 : decode cX12_guessOf 11 = .ok (.iload_n 2, 1) := by decide +kernel
theorem dX12_guessOf_12 : decode cX12_guessOf 12 = .ok (.invokevirtual 240, 3) := by decide +kernel
theorem dX12_guessOf_15 : decode cX12_guessOf 15 = .ok (.aload_n 0, 1) := by decide +kernel
theorem dX12_guessOf_16 : decode cX12_guessOf 16 = .ok (.getfield 56, 3) := by decide +kernel
theorem dX12_guessOf_19 : decode cX12_guessOf 19 = .ok (.iconst 0, 1) := by decide +kernel
theorem dX12_guessOf_20 : decode cX12_guessOf 20 = .ok (.aload_n 0, 1) := by decide +kernel
theorem dX12_guessOf_21 : decode cX12_guessOf 21 = .ok (.iconst 0, 1) := by decide +kernel
theorem dX12_guessOf_22 : decode cX12_guessOf 22 = .ok (.invokevirtual 170, 3) := by decide +kernel
theorem dX12_guessOf_25 : decode cX12_guessOf 25 = .ok (.iconst 0, 1) := by decide +kernel
theorem dX12_guessOf_26 : decode cX12_guessOf 26 = .ok (.invokestatic 173, 3) := by decide +kernel
theorem dX12_guessOf_29 : decode cX12_guessOf 29 = .ok (.laload, 1) := by decide +kernel
theorem dX12_guessOf_30 : decode cX12_guessOf 30 = .ok (.lreturn, 1) := by decide +kernel
set_option maxRecDepth 20000 in
theorem ggX12_guess_X12_isSteel : GoodIn wsX12_guess wsX12_isSteel := goodIn_r _ [6, 7, 8, 9, 5, 10, 86, 87, 88, 89, 90, 91, 92, 93, 94, 95, 96, 97, 98, 99, 100, 101, 102, 103, 104, 105, 106, 107, 108, 109, 110, 111, 112, 113, 114, 115, 116] (by decide +kernel) (by decide +kernel)
set_option maxRecDepth 20000 in
theorem gX12_guess_X12_isSteel : GoodIn wsX12_guess (wsV RX12 148 RX12 yX12_isSteel wsX12_isSteel) := goodIn_app (goodIn_of _ (by decide +kernel)) ggX12_guess_X12_isSteel
set_option maxRecDepth 20000 in
theorem ggX12_guess_X12_guessOf : GoodIn wsX12_guess wsX12_guessOf := goodIn_r _ [14, 15, 16, 17, 18, 5, 19, 20, 21, 22, 23, 24, 25, 26, 27, 28, 29, 30, 31, 32, 33, 34, 35, 36, 37, 38, 39, 40, 41, 42, 43, 44, 45, 46, 47, 48, 49, 50, 51, 52, 8, 9, 10, 53, 54, 55, 56, 57, 58, 59, 60, 61, 62, 63, 64, 65, 66, 67, 68, 69, 70, 71, 72, 73, 74, 75, 76, 77, 78, 79, 80, 81, 82, 83, 84, 85, 86, 87, 88, 89, 90, 91, 92, 93, 94, 95, 96, 97, 98, 99, 100, 101, 102, 103, 104, 105, 106, 107, 108, 109, 110, 111, 112, 113, 114, 115, 116] (by decide +kernel) (by decide +kernel)
set_option maxRecDepth 20000 in
theorem gX12_guess_X12_guessOf : GoodIn wsX12_guess (wsV RX12 260 RX12 yX12_guessOf wsX12_guessOf) := goodIn_app (goodIn_of _ (by decide +kernel)) ggX12_guess_X12_guessOf
theorem dX12_guess_0 : decode cX12_guess 0 = .ok (.aload_n 0, 1) := by decide +kernel
theorem dX12_guess_1 : decode cX12_guess 1 = .ok (.iload_n 1, 1) := by decide +kernel
theorem dX12_guess_2 : decode cX12_guess 2 = .ok (.invokevirtual 148, 3) := by decide +kernel
theorem dX12_guess_5 : decode cX12_guess 5 = .ok (.ifCond .eq 20, 3) := by decide +kernel
theorem dX12_guess_8 : decode cX12_guess 8 = .ok (.aload_n 0, 1) := by decide +kernel
theorem dX12_guess_9 : decode cX12_guess 9 = .ok (.iload_n 2, 1) := by decide +kernel
theorem dX12_guess_10 : decode cX12_guess 10 = .ok (.invokevirtual 148, 3) := by decide +kernel
theorem dX12_guess_13 : decode cX12_guess 13 = .ok (.ifCond .eq 12, 3) := by decide +kernel
theorem dX12_guess_16 : decode cX12_guess 16 = .ok (.aload_n 0, 1) := by decide +kernel
theorem dX12_guess_17 : decode cX12_guess 17 = .ok (.iload_n 1, 1) := by decide +kernel
theorem dX12_guess_18 : decode cX12_guess 18 = .ok (.iload_n 2, 1) := by decide +kernel
theorem dX12_guess_19 : decode cX12_guess 19 = .ok (.invokevirtual 260, 3) := by decide +kernel
theorem dX12_guess_22 : decode cX12_guess 22 = .ok (.goto 6, 3) := by decide +kernel
theorem dX12_guess_25 : decode cX12_guess 25 = .ok (.ldc2_w 238, 3) := by decide +kernel
theorem dX12_guess_28 : decode cX12_guess 28 = .ok (.lreturn, 1) := by decide +kernel
set_option maxRecDepth 20000 in
theorem ggX12_sumOf_X12_guessOf : GoodIn wsX12_sumOf wsX12_guessOf := goodIn_r _ [7, 8, 9, 10, 11, 6, 12, 13, 14, 15, 16, 17, 18, 19, 20, 21, 22, 23, 24, 25, 26, 27, 28, 29, 30, 31, 32, 33, 34, 35, 36, 37, 38, 39, 40, 41, 42, 43, 44, 45, 46, 47, 48, 49, 50, 51, 52, 53, 54, 55, 56, 57, 58, 59, 60, 61, 62, 63, 64, 65, 2, 66, 67, 68, 69, 70, 71, 72, 73, 74, 75, 76, 77, 78, 79, 80, 81, 82, 83, 84, 85, 86, 87, 88, 89, 90, 91, 92, 93, 94, 95, 96, 97, 98, 99, 100, 101, 102, 103, 104, 105, 106, 107, 108, 109, 110, 111] (by decide +kernel) (by decide +kernel)
set_option maxRecDepth 20000 in
theorem gX12_sumOf_X12_guessOf : GoodIn wsX12_sumOf (wsV RX12 260 RX12 yX12_guessOf wsX12_guessOf) := goodIn_app (goodIn_of _ (by decide +kernel)) ggX12_sumOf_X12_guessOf
theorem dX12_sumOf_0 : decode cX12_sumOf 0 = .ok (.lconst 0, 1) := by decide +kernel
theorem dX12_sumOf_1 : decode cX12_sumOf 1 = .ok (.lstore_n 2, 1) := by decide +kernel
theorem dX12_sumOf_2 : decode cX12_sumOf 2 = .ok (.iconst 0, 1) := by decide +kernel
theorem dX12_sumOf_3 : decode cX12_sumOf 3 = .ok (.istore 4, 2) := by decide +kernel
theorem dX12_sumOf_5 : decode cX12_sumOf 5 = .ok (.iload 4, 2) := by decide +kernel
theorem dX12_sumOf_7 : decode cX12_sumOf 7 = .ok (.aload_n 0, 1) := by decide +kernel
theorem dX12_sumOf_8 : decode cX12_sumOf 8 = .ok (.getfield 35, 3) := by decide +kernel
theorem dX12_sumOf_11 : decode cX12_sumOf 11 = .ok (.iconst 0, 1) := by decide +kernel
theorem dX12_sumOf_12 : decode cX12_sumOf 12 = .ok (.iaload, 1) := by decide +kernel
theorem dX12_sumOf_13 : decode cX12_sumOf 13 = .ok (.if_icmp .ge 41, 3) := by decide +kernel
theorem dX12_sumOf_16 : decode cX12_sumOf 16 = .ok (.lload_n 2, 1) := by decide +kernel
theorem dX12_sumOf_17 : decode cX12_sumOf 17 = .ok (.aload_n 0, 1) := by decide +kernel
theorem dX12_sumOf_18 : decode cX12_sumOf 18 = .ok (.getfield 38, 3) := by decide +kernel
theorem dX12_sumOf_21 : decode cX12_sumOf 21 = .ok (.iconst 2, 1) := by decide +kernel
theorem dX12_sumOf_22 : decode cX12_sumOf 22 = .ok (.iload 4, 2) := by decide +kernel
theorem dX12_sumOf_24 : decode cX12_sumOf 24 = .ok (.imul, 1) := by decide +kernel
theorem dX12_sumOf_25 : decode cX12_sumOf 25 = .ok (.iconst 1, 1) := by decide +kernel
theorem dX12_sumOf_26 : decode cX12_sumOf 26 = .ok (.iadd, 1) := by decide +kernel
theorem dX12_sumOf_27 : decode cX12_sumOf 27 = .ok (.iaload, 1) := by decide +kernel
theorem dX12_sumOf_28 : decode cX12_sumOf 28 = .ok (.i2l, 1) := by decide +kernel
theorem dX12_sumOf_29 : decode cX12_sumOf 29 = .ok (.aload_n 0, 1) := by decide +kernel
theorem dX12_sumOf_30 : decode cX12_sumOf 30 = .ok (.iload_n 1, 1) := by decide +kernel
theorem dX12_sumOf_31 : decode cX12_sumOf 31 = .ok (.ifCond .ge 8, 3) := by decide +kernel
theorem dX12_sumOf_34 : decode cX12_sumOf 34 = .ok (.iload 4, 2) := by decide +kernel
theorem dX12_sumOf_36 : decode cX12_sumOf 36 = .ok (.goto 4, 3) := by decide +kernel
theorem dX12_sumOf_39 : decode cX12_sumOf 39 = .ok (.iload_n 1, 1) := by decide +kernel
theorem dX12_sumOf_40 : decode cX12_sumOf 40 = .ok (.iload 4, 2) := by decide +kernel
theorem dX12_sumOf_42 : decode cX12_sumOf 42 = .ok (.invokevirtual 260, 3) := by decide +kernel
theorem dX12_sumOf_45 : decode cX12_sumOf 45 = .ok (.lmul, 1) := by decide +kernel
theorem dX12_sumOf_46 : decode cX12_sumOf 46 = .ok (.ladd, 1) := by decide +kernel
theorem dX12_sumOf_47 : decode cX12_sumOf 47 = .ok (.lstore_n 2, 1) := by decide +kernel
theorem dX12_sumOf_48 : decode cX12_sumOf 48 = .ok (.iinc 4 1, 3) := by decide +kernel
theorem dX12_sumOf_51 : decode cX12_sumOf 51 = .ok (.goto (-46), 3) := by decide +kernel
theorem dX12_sumOf_54 : decode cX12_sumOf 54 = .ok (.lload_n 2, 1) := by decide +kernel
theorem dX12_sumOf_55 : decode cX12_sumOf 55 = .ok (.lreturn, 1) := by decide +kernel
set_option maxRecDepth 20000 in
theorem ggX12_blind_X12_in : GoodIn wsX12_blind wsX12_in := goodIn_r _ [7] (by decide +kernel) (by decide +kernel)
set_option maxRecDepth 20000 in
theorem gX12_blind_X12_in : GoodIn wsX12_blind (va_wsS RX12 101 yX12_in wsX12_in) := goodIn_app (goodIn_of _ (by decide +kernel)) ggX12_blind_X12_in
set_option maxRecDepth 20000 in
theorem ggX12_blind_X12_sumOf : GoodIn wsX12_blind wsX12_sumOf := goodIn_r _ [11, 3, 12, 13, 14, 15, 6, 16, 17, 18, 19, 20, 21, 22, 23, 24, 25, 26, 27, 28, 29, 30, 31, 32, 33, 34, 35, 36, 37, 38, 39, 40, 41, 42, 43, 44, 45, 46, 47, 48, 49, 50, 51, 52, 53, 54, 4, 5, 7, 55, 56, 57, 58, 59, 60, 61, 62, 63, 64, 65, 66, 67, 68, 69, 70, 71, 72, 73, 74, 75, 76, 77, 78, 79, 80, 81, 82, 83, 84, 85, 86, 87, 88, 89, 90, 91, 92, 93, 94, 95, 96, 97, 98, 99, 100, 101, 102, 103, 104, 105, 106, 107, 108, 109, 110, 111, 112, 113, 114, 115, 116, 117] (by decide +kernel) (by decide +kernel)
set_option maxRecDepth 20000 in
theorem gX12_blind_X12_sumOf : GoodIn wsX12_blind (wsV RX12 263 RX12 yX12_sumOf wsX12_sumOf) := goodIn_app (goodIn_of _ (by decide +kernel)) ggX12_blind_X12_sumOf
theorem dX12_blind_0 : decode cX12_blind 0 = .ok (.iload_n 1, 1) := by decide +kernel
theorem dX12_blind_1 : decode cX12_blind 1 = .ok (.i2l, 1) := by decide +kernel
theorem dX12_blind_2 : decode cX12_blind 2 = .ok (.lconst 0, 1) := by decide +kernel
theorem dX12_blind_3 : decode cX12_blind 3 = .ok (.ldc2_w 115, 3) := by decide +kernel
theorem dX12_blind_6 : decode cX12_blind 6 = .ok (.invokestatic 101, 3) := by decide +kernel
theorem dX12_blind_9 : decode cX12_blind 9 = .ok (.ifCond .ne 7, 3) := by decide +kernel
theorem dX12_blind_12 : decode cX12_blind 12 = .ok (.ldc2_w 238, 3) := by decide +kernel
theorem dX12_blind_15 : decode cX12_blind 15 = .ok (.lreturn, 1) := by decide +kernel
theorem dX12_blind_16 : decode cX12_blind 16 = .ok (.iconst 0, 1) := by decide +kernel
theorem dX12_blind_17 : decode cX12_blind 17 = .ok (.istore_n 2, 1) := by decide +kernel
theorem dX12_blind_18 : decode cX12_blind 18 = .ok (.aload_n 0, 1) := by decide +kernel
theorem dX12_blind_19 : decode cX12_blind 19 = .ok (.iconst 0, 1) := by decide +kernel
theorem dX12_blind_20 : decode cX12_blind 20 = .ok (.invokevirtual 263, 3) := by decide +kernel
theorem dX12_blind_23 : decode cX12_blind 23 = .ok (.lstore_n 3, 1) := by decide +kernel
theorem dX12_blind_24 : decode cX12_blind 24 = .ok (.iconst 1, 1) := by decide +kernel
theorem dX12_blind_25 : decode cX12_blind 25 = .ok (.istore 5, 2) := by decide +kernel
theorem dX12_blind_27 : decode cX12_blind 27 = .ok (.iload 5, 2) := by decide +kernel
theorem dX12_blind_29 : decode cX12_blind 29 = .ok (.aload_n 0, 1) := by decide +kernel
theorem dX12_blind_30 : decode cX12_blind 30 = .ok (.getfield 35, 3) := by decide +kernel
theorem dX12_blind_33 : decode cX12_blind 33 = .ok (.iconst 0, 1) := by decide +kernel
theorem dX12_blind_34 : decode cX12_blind 34 = .ok (.iaload, 1) := by decide +kernel
theorem dX12_blind_35 : decode cX12_blind 35 = .ok (.if_icmp .ge 45, 3) := by decide +kernel
theorem dX12_blind_38 : decode cX12_blind 38 = .ok (.aload_n 0, 1) := by decide +kernel
theorem dX12_blind_39 : decode cX12_blind 39 = .ok (.iload 5, 2) := by decide +kernel
theorem dX12_blind_41 : decode cX12_blind 41 = .ok (.invokevirtual 263, 3) := by decide +kernel
theorem dX12_blind_44 : decode cX12_blind 44 = .ok (.lstore 6, 2) := by decide +kernel
theorem dX12_blind_46 : decode cX12_blind 46 = .ok (.lload 6, 2) := by decide +kernel
theorem dX12_blind_48 : decode cX12_blind 48 = .ok (.lload_n 3, 1) := by decide +kernel
theorem dX12_blind_49 : decode cX12_blind 49 = .ok (.lcmp, 1) := by decide +kernel
theorem dX12_blind_50 : decode cX12_blind 50 = .ok (.ifCond .le 8, 3) := by decide +kernel
theorem dX12_blind_53 : decode cX12_blind 53 = .ok (.iload 5, 2) := by decide +kernel
theorem dX12_blind_55 : decode cX12_blind 55 = .ok (.goto 4, 3) := by decide +kernel
theorem dX12_blind_58 : decode cX12_blind 58 = .ok (.iload_n 2, 1) := by decide +kernel
theorem dX12_blind_59 : decode cX12_blind 59 = .ok (.istore_n 2, 1) := by decide +kernel
theorem dX12_blind_60 : decode cX12_blind 60 = .ok (.lload 6, 2) := by decide +kernel
theorem dX12_blind_62 : decode cX12_blind 62 = .ok (.lload_n 3, 1) := by decide +kernel
theorem dX12_blind_63 : decode cX12_blind 63 = .ok (.lcmp, 1) := by decide +kernel
theorem dX12_blind_64 : decode cX12_blind 64 = .ok (.ifCond .le 8, 3) := by decide +kernel
theorem dX12_blind_67 : decode cX12_blind 67 = .ok (.lload 6, 2) := by decide +kernel
theorem dX12_blind_69 : decode cX12_blind 69 = .ok (.goto 4, 3) := by decide +kernel
theorem dX12_blind_72 : decode cX12_blind 72 = .ok (.lload_n 3, 1) := by decide +kernel
theorem dX12_blind_73 : decode cX12_blind 73 = .ok (.lstore_n 3, 1) := by decide +kernel
theorem dX12_blind_74 : decode cX12_blind 74 = .ok (.iinc 5 1, 3) := by decide +kernel
theorem dX12_blind_77 : decode cX12_blind 77 = .ok (.goto (-50), 3) := by decide +kernel
theorem dX12_blind_80 : decode cX12_blind 80 = .ok (.iload_n 1, 1) := by decide +kernel
theorem dX12_blind_81 : decode cX12_blind 81 = .ok (.ifCond .ne 8, 3) := by decide +kernel
theorem dX12_blind_84 : decode cX12_blind 84 = .ok (.iload_n 2, 1) := by decide +kernel
theorem dX12_blind_85 : decode cX12_blind 85 = .ok (.i2l, 1) := by decide +kernel
theorem dX12_blind_86 : decode cX12_blind 86 = .ok (.goto 32, 3) := by decide +kernel
theorem dX12_blind_89 : decode cX12_blind 89 = .ok (.iload_n 1, 1) := by decide +kernel
theorem dX12_blind_90 : decode cX12_blind 90 = .ok (.iconst 1, 1) := by decide +kernel
theorem dX12_blind_91 : decode cX12_blind 91 = .ok (.if_icmp .ne 7, 3) := by decide +kernel
theorem dX12_blind_94 : decode cX12_blind 94 = .ok (.lload_n 3, 1) := by decide +kernel
theorem dX12_blind_95 : decode cX12_blind 95 = .ok (.goto 23, 3) := by decide +kernel
theorem dX12_blind_98 : decode cX12_blind 98 = .ok (.iload_n 1, 1) := by decide +kernel
theorem dX12_blind_99 : decode cX12_blind 99 = .ok (.iconst 2, 1) := by decide +kernel
theorem dX12_blind_100 : decode cX12_blind 100 = .ok (.if_icmp .ne 11, 3) := by decide +kernel
theorem dX12_blind_103 : decode cX12_blind 103 = .ok (.aload_n 0, 1) := by decide +kernel
theorem dX12_blind_104 : decode cX12_blind 104 = .ok (.iconst (-1), 1) := by decide +kernel
theorem dX12_blind_105 : decode cX12_blind 105 = .ok (.invokevirtual 263, 3) := by decide +kernel
theorem dX12_blind_108 : decode cX12_blind 108 = .ok (.goto 10, 3) := by decide +kernel
theorem dX12_blind_111 : decode cX12_blind 111 = .ok (.aload_n 0, 1) := by decide +kernel
theorem dX12_blind_112 : decode cX12_blind 112 = .ok (.iconst (-1), 1) := by decide +kernel
theorem dX12_blind_113 : decode cX12_blind 113 = .ok (.invokevirtual 263, 3) := by decide +kernel
theorem dX12_blind_116 : decode cX12_blind 116 = .ok (.lload_n 3, 1) := by decide +kernel
theorem dX12_blind_117 : decode cX12_blind 117 = .ok (.lsub, 1) := by decide +kernel
theorem dX12_blind_118 : decode cX12_blind 118 = .ok (.lreturn, 1) := by decide +kernel
set_option maxRecDepth 20000 in
theorem ggX12_two_X12_in : GoodIn wsX12_two wsX12_in := goodIn_r _ [9] (by decide +kernel) (by decide +kernel)
set_option maxRecDepth 20000 in
theorem gX12_two_X12_in : GoodIn wsX12_two (va_wsS RX12 101 yX12_in wsX12_in) := goodIn_app (goodIn_of _ (by decide +kernel)) ggX12_two_X12_in
theorem dX12_two_0 : decode cX12_two 0 = .ok (.iload_n 1, 1) := by decide +kernel
theorem dX12_two_1 : decode cX12_two 1 = .ok (.i2l, 1) := by decide +kernel
theorem dX12_two_2 : decode cX12_two 2 = .ok (.lconst 1, 1) := by decide +kernel
theorem dX12_two_3 : decode cX12_two 3 = .ok (.ldc2_w 267, 3) := by decide +kernel
theorem dX12_two_6 : decode cX12_two 6 = .ok (.invokestatic 101, 3) := by decide +kernel
theorem dX12_two_9 : decode cX12_two 9 = .ok (.ifCond .eq 53, 3) := by decide +kernel
theorem dX12_two_12 : decode cX12_two 12 = .ok (.iload_n 2, 1) := by decide +kernel
theorem dX12_two_13 : decode cX12_two 13 = .ok (.i2l, 1) := by decide +kernel
theorem dX12_two_14 : decode cX12_two 14 = .ok (.lconst 1, 1) := by decide +kernel
theorem dX12_two_15 : decode cX12_two 15 = .ok (.ldc2_w 269, 3) := by decide +kernel
theorem dX12_two_18 : decode cX12_two 18 = .ok (.invokestatic 101, 3) := by decide +kernel
theorem dX12_two_21 : decode cX12_two 21 = .ok (.ifCond .eq 41, 3) := by decide +kernel
theorem dX12_two_24 : decode cX12_two 24 = .ok (.iload_n 3, 1) := by decide +kernel
theorem dX12_two_25 : decode cX12_two 25 = .ok (.i2l, 1) := by decide +kernel
theorem dX12_two_26 : decode cX12_two 26 = .ok (.lconst 1, 1) := by decide +kernel
theorem dX12_two_27 : decode cX12_two 27 = .ok (.ldc2_w 267, 3) := by decide +kernel
theorem dX12_two_30 : decode cX12_two 30 = .ok (.invokestatic 101, 3) := by decide +kernel
theorem dX12_two_33 : decode cX12_two 33 = .ok (.ifCond .eq 29, 3) := by decide +kernel
theorem dX12_two_36 : decode cX12_two 36 = .ok (.iload 4, 2) := by decide +kernel
theorem dX12_two_38 : decode cX12_two 38 = .ok (.i2l, 1) := by decide +kernel
theorem dX12_two_39 : decode cX12_two 39 = .ok (.lconst 1, 1) := by decide +kernel
theorem dX12_two_40 : decode cX12_two 40 = .ok (.ldc2_w 269, 3) := by decide +kernel
theorem dX12_two_43 : decode cX12_two 43 = .ok (.invokestatic 101, 3) := by decide +kernel
theorem dX12_two_46 : decode cX12_two 46 = .ok (.ifCond .eq 16, 3) := by decide +kernel
theorem dX12_two_49 : decode cX12_two 49 = .ok (.iload 5, 2) := by decide +kernel
theorem dX12_two_51 : decode cX12_two 51 = .ok (.i2l, 1) := by decide +kernel
theorem dX12_two_52 : decode cX12_two 52 = .ok (.lconst 0, 1) := by decide +kernel
theorem dX12_two_53 : decode cX12_two 53 = .ok (.ldc2_w 151, 3) := by decide +kernel
theorem dX12_two_56 : decode cX12_two 56 = .ok (.invokestatic 101, 3) := by decide +kernel
theorem dX12_two_59 : decode cX12_two 59 = .ok (.ifCond .ne 5, 3) := by decide +kernel
theorem dX12_two_62 : decode cX12_two 62 = .ok (.iconst (-1), 1) := by decide +kernel
theorem dX12_two_63 : decode cX12_two 63 = .ok (.ireturn, 1) := by decide +kernel
theorem dX12_two_64 : decode cX12_two 64 = .ok (.iconst 0, 1) := by decide +kernel
theorem dX12_two_65 : decode cX12_two 65 = .ok (.istore 6, 2) := by decide +kernel
theorem dX12_two_67 : decode cX12_two 67 = .ok (.iload 6, 2) := by decide +kernel
theorem dX12_two_69 : decode cX12_two 69 = .ok (.sipush 130, 3) := by decide +kernel
theorem dX12_two_72 : decode cX12_two 72 = .ok (.if_icmp .ge 17, 3) := by decide +kernel
theorem dX12_two_75 : decode cX12_two 75 = .ok (.aload_n 0, 1) := by decide +kernel
theorem dX12_two_76 : decode cX12_two 76 = .ok (.getfield 76, 3) := by decide +kernel
theorem dX12_two_79 : decode cX12_two 79 = .ok (.iload 6, 2) := by decide +kernel
theorem dX12_two_81 : decode cX12_two 81 = .ok (.iconst (-1), 1) := by decide +kernel
theorem dX12_two_82 : decode cX12_two 82 = .ok (.iastore, 1) := by decide +kernel
theorem dX12_two_83 : decode cX12_two 83 = .ok (.iinc 6 1, 3) := by decide +kernel
theorem dX12_two_86 : decode cX12_two 86 = .ok (.goto (-19), 3) := by decide +kernel
theorem dX12_two_89 : decode cX12_two 89 = .ok (.iload_n 1, 1) := by decide +kernel
theorem dX12_two_90 : decode cX12_two 90 = .ok (.istore 6, 2) := by decide +kernel
theorem dX12_two_92 : decode cX12_two 92 = .ok (.iload_n 3, 1) := by decide +kernel
theorem dX12_two_93 : decode cX12_two 93 = .ok (.istore 7, 2) := by decide +kernel
theorem dX12_two_95 : decode cX12_two 95 = .ok (.iconst 0, 1) := by decide +kernel
theorem dX12_two_96 : decode cX12_two 96 = .ok (.istore 8, 2) := by decide +kernel
theorem dX12_two_98 : decode cX12_two 98 = .ok (.iconst 0, 1) := by decide +kernel
theorem dX12_two_99 : decode cX12_two 99 = .ok (.istore 9, 2) := by decide +kernel
theorem dX12_two_101 : decode cX12_two 101 = .ok (.aload_n 0, 1) := by decide +kernel
theorem dX12_two_102 : decode cX12_two 102 = .ok (.getfield 76, 3) := by decide +kernel
theorem dX12_two_105 : decode cX12_two 105 = .ok (.bipush 30, 2) := by decide +kernel
theorem dX12_two_107 : decode cX12_two 107 = .ok (.iload_n 3, 1) := by decide +kernel
theorem dX12_two_108 : decode cX12_two 108 = .ok (.iadd, 1) := by decide +kernel
theorem dX12_two_109 : decode cX12_two 109 = .ok (.iconst 0, 1) := by decide +kernel
theorem dX12_two_110 : decode cX12_two 110 = .ok (.iastore, 1) := by decide +kernel
theorem dX12_two_111 : decode cX12_two 111 = .ok (.aload_n 0, 1) := by decide +kernel
theorem dX12_two_112 : decode cX12_two 112 = .ok (.getfield 79, 3) := by decide +kernel
theorem dX12_two_115 : decode cX12_two 115 = .ok (.bipush 30, 2) := by decide +kernel
theorem dX12_two_117 : decode cX12_two 117 = .ok (.iload_n 3, 1) := by decide +kernel
theorem dX12_two_118 : decode cX12_two 118 = .ok (.iadd, 1) := by decide +kernel
theorem dX12_two_119 : decode cX12_two 119 = .ok (.iconst 0, 1) := by decide +kernel
theorem dX12_two_120 : decode cX12_two 120 = .ok (.iastore, 1) := by decide +kernel
theorem dX12_two_121 : decode cX12_two 121 = .ok (.iload 8, 2) := by decide +kernel
theorem dX12_two_123 : decode cX12_two 123 = .ok (.sipush 20000, 3) := by decide +kernel
theorem dX12_two_126 : decode cX12_two 126 = .ok (.if_icmp .gt 187, 3) := by decide +kernel
theorem dX12_two_129 : decode cX12_two 129 = .ok (.iload 6, 2) := by decide +kernel
theorem dX12_two_131 : decode cX12_two 131 = .ok (.iload 7, 2) := by decide +kernel
theorem dX12_two_133 : decode cX12_two 133 = .ok (.if_icmp .gt 7, 3) := by decide +kernel
theorem dX12_two_136 : decode cX12_two 136 = .ok (.iconst 1, 1) := by decide +kernel
theorem dX12_two_137 : decode cX12_two 137 = .ok (.goto 4, 3) := by decide +kernel
theorem dX12_two_140 : decode cX12_two 140 = .ok (.iconst 0, 1) := by decide +kernel
theorem dX12_two_141 : decode cX12_two 141 = .ok (.istore 10, 2) := by decide +kernel
theorem dX12_two_143 : decode cX12_two 143 = .ok (.iload 10, 2) := by decide +kernel
theorem dX12_two_145 : decode cX12_two 145 = .ok (.ifCond .eq 8, 3) := by decide +kernel
theorem dX12_two_148 : decode cX12_two 148 = .ok (.iload 6, 2) := by decide +kernel
theorem dX12_two_150 : decode cX12_two 150 = .ok (.goto 5, 3) := by decide +kernel
theorem dX12_two_153 : decode cX12_two 153 = .ok (.iload 7, 2) := by decide +kernel
theorem dX12_two_155 : decode cX12_two 155 = .ok (.istore 11, 2) := by decide +kernel
theorem dX12_two_157 : decode cX12_two 157 = .ok (.iload 11, 2) := by decide +kernel
theorem dX12_two_159 : decode cX12_two 159 = .ok (.iload 8, 2) := by decide +kernel
theorem dX12_two_161 : decode cX12_two 161 = .ok (.if_icmp .le 8, 3) := by decide +kernel
theorem dX12_two_164 : decode cX12_two 164 = .ok (.iload 11, 2) := by decide +kernel
theorem dX12_two_166 : decode cX12_two 166 = .ok (.goto 5, 3) := by decide +kernel
theorem dX12_two_169 : decode cX12_two 169 = .ok (.iload 8, 2) := by decide +kernel
theorem dX12_two_171 : decode cX12_two 171 = .ok (.istore 12, 2) := by decide +kernel
theorem dX12_two_173 : decode cX12_two 173 = .ok (.iload 9, 2) := by decide +kernel
theorem dX12_two_175 : decode cX12_two 175 = .ok (.iload 12, 2) := by decide +kernel
theorem dX12_two_177 : decode cX12_two 177 = .ok (.iload 11, 2) := by decide +kernel
theorem dX12_two_179 : decode cX12_two 179 = .ok (.isub, 1) := by decide +kernel
theorem dX12_two_180 : decode cX12_two 180 = .ok (.iadd, 1) := by decide +kernel
theorem dX12_two_181 : decode cX12_two 181 = .ok (.istore 9, 2) := by decide +kernel
theorem dX12_two_183 : decode cX12_two 183 = .ok (.iload 12, 2) := by decide +kernel
theorem dX12_two_185 : decode cX12_two 185 = .ok (.iload 10, 2) := by decide +kernel
theorem dX12_two_187 : decode cX12_two 187 = .ok (.ifCond .eq 7, 3) := by decide +kernel
theorem dX12_two_190 : decode cX12_two 190 = .ok (.iload_n 2, 1) := by decide +kernel
theorem dX12_two_191 : decode cX12_two 191 = .ok (.goto 5, 3) := by decide +kernel
theorem dX12_two_194 : decode cX12_two 194 = .ok (.iload 4, 2) := by decide +kernel
theorem dX12_two_196 : decode cX12_two 196 = .ok (.iadd, 1) := by decide +kernel
theorem dX12_two_197 : decode cX12_two 197 = .ok (.istore 8, 2) := by decide +kernel
theorem dX12_two_199 : decode cX12_two 199 = .ok (.iload 10, 2) := by decide +kernel
theorem dX12_two_201 : decode cX12_two 201 = .ok (.ifCond .ne 12, 3) := by decide +kernel
theorem dX12_two_204 : decode cX12_two 204 = .ok (.iload 8, 2) := by decide +kernel
theorem dX12_two_206 : decode cX12_two 206 = .ok (.iload_n 3, 1) := by decide +kernel
theorem dX12_two_207 : decode cX12_two 207 = .ok (.iadd, 1) := by decide +kernel
theorem dX12_two_208 : decode cX12_two 208 = .ok (.istore 7, 2) := by decide +kernel
theorem dX12_two_210 : decode cX12_two 210 = .ok (.goto 100, 3) := by decide +kernel
theorem dX12_two_213 : decode cX12_two 213 = .ok (.iload 8, 2) := by decide +kernel
theorem dX12_two_215 : decode cX12_two 215 = .ok (.sipush 20000, 3) := by decide +kernel
theorem dX12_two_218 : decode cX12_two 218 = .ok (.if_icmp .gt 92, 3) := by decide +kernel
theorem dX12_two_221 : decode cX12_two 221 = .ok (.iload 8, 2) := by decide +kernel
theorem dX12_two_223 : decode cX12_two 223 = .ok (.iload_n 1, 1) := by decide +kernel
theorem dX12_two_224 : decode cX12_two 224 = .ok (.iadd, 1) := by decide +kernel
theorem dX12_two_225 : decode cX12_two 225 = .ok (.istore 6, 2) := by decide +kernel
theorem dX12_two_227 : decode cX12_two 227 = .ok (.bipush 30, 2) := by decide +kernel
theorem dX12_two_229 : decode cX12_two 229 = .ok (.iload 7, 2) := by decide +kernel
theorem dX12_two_231 : decode cX12_two 231 = .ok (.iadd, 1) := by decide +kernel
theorem dX12_two_232 : decode cX12_two 232 = .ok (.iload 8, 2) := by decide +kernel
theorem dX12_two_234 : decode cX12_two 234 = .ok (.isub, 1) := by decide +kernel
theorem dX12_two_235 : decode cX12_two 235 = .ok (.istore 13, 2) := by decide +kernel
theorem dX12_two_237 : decode cX12_two 237 = .ok (.aload_n 0, 1) := by decide +kernel
theorem dX12_two_238 : decode cX12_two 238 = .ok (.getfield 76, 3) := by decide +kernel
theorem dX12_two_241 : decode cX12_two 241 = .ok (.iload 13, 2) := by decide +kernel
theorem dX12_two_243 : decode cX12_two 243 = .ok (.iaload, 1) := by decide +kernel
theorem dX12_two_244 : decode cX12_two 244 = .ok (.ifCond .lt 48, 3) := by decide +kernel
theorem dX12_two_247 : decode cX12_two 247 = .ok (.iload 5, 2) := by decide +kernel
theorem dX12_two_249 : decode cX12_two 249 = .ok (.ifCond .ne 16, 3) := by decide +kernel
theorem dX12_two_252 : decode cX12_two 252 = .ok (.iload 8, 2) := by decide +kernel
theorem dX12_two_254 : decode cX12_two 254 = .ok (.aload_n 0, 1) := by decide +kernel
theorem dX12_two_255 : decode cX12_two 255 = .ok (.getfield 76, 3) := by decide +kernel
theorem dX12_two_258 : decode cX12_two 258 = .ok (.iload 13, 2) := by decide +kernel
theorem dX12_two_260 : decode cX12_two 260 = .ok (.iaload, 1) := by decide +kernel
theorem dX12_two_261 : decode cX12_two 261 = .ok (.isub, 1) := by decide +kernel
theorem dX12_two_262 : decode cX12_two 262 = .ok (.goto 29, 3) := by decide +kernel
theorem dX12_two_265 : decode cX12_two 265 = .ok (.iload 5, 2) := by decide +kernel
theorem dX12_two_267 : decode cX12_two 267 = .ok (.iconst 1, 1) := by decide +kernel
theorem dX12_two_268 : decode cX12_two 268 = .ok (.if_icmp .ne 16, 3) := by decide +kernel
theorem dX12_two_271 : decode cX12_two 271 = .ok (.iload 9, 2) := by decide +kernel
theorem dX12_two_273 : decode cX12_two 273 = .ok (.aload_n 0, 1) := by decide +kernel
theorem dX12_two_274 : decode cX12_two 274 = .ok (.getfield 79, 3) := by decide +kernel
theorem dX12_two_277 : decode cX12_two 277 = .ok (.iload 13, 2) := by decide +kernel
theorem dX12_two_279 : decode cX12_two 279 = .ok (.iaload, 1) := by decide +kernel
theorem dX12_two_280 : decode cX12_two 280 = .ok (.isub, 1) := by decide +kernel
theorem dX12_two_281 : decode cX12_two 281 = .ok (.goto 10, 3) := by decide +kernel
theorem dX12_two_284 : decode cX12_two 284 = .ok (.aload_n 0, 1) := by decide +kernel
theorem dX12_two_285 : decode cX12_two 285 = .ok (.getfield 76, 3) := by decide +kernel
theorem dX12_two_288 : decode cX12_two 288 = .ok (.iload 13, 2) := by decide +kernel
theorem dX12_two_290 : decode cX12_two 290 = .ok (.iaload, 1) := by decide +kernel
theorem dX12_two_291 : decode cX12_two 291 = .ok (.ireturn, 1) := by decide +kernel
theorem dX12_two_292 : decode cX12_two 292 = .ok (.aload_n 0, 1) := by decide +kernel
theorem dX12_two_293 : decode cX12_two 293 = .ok (.getfield 76, 3) := by decide +kernel
theorem dX12_two_296 : decode cX12_two 296 = .ok (.iload 13, 2) := by decide +kernel
theorem dX12_two_298 : decode cX12_two 298 = .ok (.iload 8, 2) := by decide +kernel
theorem dX12_two_300 : decode cX12_two 300 = .ok (.iastore, 1) := by decide +kernel
theorem dX12_two_301 : decode cX12_two 301 = .ok (.aload_n 0, 1) := by decide +kernel
theorem dX12_two_302 : decode cX12_two 302 = .ok (.getfield 79, 3) := by decide +kernel
theorem dX12_two_305 : decode cX12_two 305 = .ok (.iload 13, 2) := by decide +kernel
theorem dX12_two_307 : decode cX12_two 307 = .ok (.iload 9, 2) := by decide +kernel
theorem dX12_two_309 : decode cX12_two 309 = .ok (.iastore, 1) := by decide +kernel
theorem dX12_two_310 : decode cX12_two 310 = .ok (.goto (-189), 3) := by decide +kernel
theorem dX12_two_313 : decode cX12_two 313 = .ok (.bipush (-4), 2) := by decide +kernel
theorem dX12_two_315 : decode cX12_two 315 = .ok (.ireturn, 1) := by decide +kernel
set_option maxRecDepth 20000 in
theorem ggX12_whole_X12_steps : GoodIn wsX12_whole wsX12_steps := goodIn_r _ [5, 6, 13, 14, 15, 16, 17, 18, 19, 20, 21, 22, 23, 24, 25, 26, 27, 28, 29, 30, 31, 32, 33, 34, 35, 36, 37, 38, 39, 40, 41, 42, 43] (by decide +kernel) (by decide +kernel)
set_option maxRecDepth 20000 in
theorem gX12_whole_X12_steps : GoodIn wsX12_whole (wsV RX12 170 RX12 yX12_steps wsX12_steps) := goodIn_app (goodIn_of _ (by decide +kernel)) ggX12_whole_X12_steps
set_option maxRecDepth 20000 in
theorem ggX12_whole_X12_may : GoodIn wsX12_whole wsX12_may := goodIn_r _ [10, 11, 12, 13, 14, 15, 16, 17, 18, 19, 20, 21, 22, 23, 24, 25, 26, 27, 28, 29, 30, 31, 32, 33, 34, 35, 36, 37, 38, 39, 40, 41, 42, 43] (by decide +kernel) (by decide +kernel)
set_option maxRecDepth 20000 in
theorem gX12_whole_X12_may : GoodIn wsX12_whole (wsV RX12 160 RX12 yX12_may wsX12_may) := goodIn_app (goodIn_of _ (by decide +kernel)) ggX12_whole_X12_may
theorem dX12_whole_0 : decode cX12_whole 0 = .ok (.aload_n 0, 1) := by decide +kernel
theorem dX12_whole_1 : decode cX12_whole 1 = .ok (.iload_n 2, 1) := by decide +kernel
theorem dX12_whole_2 : decode cX12_whole 2 = .ok (.aload_n 0, 1) := by decide +kernel
theorem dX12_whole_3 : decode cX12_whole 3 = .ok (.iload_n 1, 1) := by decide +kernel
theorem dX12_whole_4 : decode cX12_whole 4 = .ok (.invokevirtual 170, 3) := by decide +kernel
theorem dX12_whole_7 : decode cX12_whole 7 = .ok (.invokevirtual 160, 3) := by decide +kernel
theorem dX12_whole_10 : decode cX12_whole 10 = .ok (.ireturn, 1) := by decide +kernel
set_option maxRecDepth 20000 in
theorem ggX12_hundredths_X12_minutes : GoodIn wsX12_hundredths wsX12_minutes := goodIn_r _ [6, 7, 8, 19, 20, 21, 22, 23, 24, 25, 26, 27, 28, 29, 30, 31, 32, 33, 34, 35, 36, 37, 38, 39, 40, 41, 42, 43, 44, 45, 46, 47, 48, 49] (by decide +kernel) (by decide +kernel)
set_option maxRecDepth 20000 in
theorem gX12_hundredths_X12_minutes : GoodIn wsX12_hundredths (wsV RX12 153 RX12 yX12_minutes wsX12_minutes) := goodIn_app (goodIn_of _ (by decide +kernel)) ggX12_hundredths_X12_minutes
set_option maxRecDepth 20000 in
theorem ggX12_hundredths_X12_steps : GoodIn wsX12_hundredths wsX12_steps := goodIn_r _ [12, 7, 19, 20, 21, 22, 23, 24, 25, 26, 27, 28, 29, 30, 31, 32, 33, 34, 35, 36, 37, 38, 39, 40, 41, 42, 43, 44, 45, 46, 47, 48, 49] (by decide +kernel) (by decide +kernel)
set_option maxRecDepth 20000 in
theorem gX12_hundredths_X12_steps : GoodIn wsX12_hundredths (wsV RX12 170 RX12 yX12_steps wsX12_steps) := goodIn_app (goodIn_of _ (by decide +kernel)) ggX12_hundredths_X12_steps
set_option maxRecDepth 20000 in
theorem ggX12_hundredths_X12_wears : GoodIn wsX12_hundredths wsX12_wears := goodIn_r _ [16, 7, 8, 17, 18, 19, 20, 21, 22, 23, 24, 25, 26, 27, 28, 29, 30, 31, 32, 33, 34, 35, 36, 37, 38, 39, 40, 41, 42, 43, 44, 45, 46, 47, 48, 49] (by decide +kernel) (by decide +kernel)
set_option maxRecDepth 20000 in
theorem gX12_hundredths_X12_wears : GoodIn wsX12_hundredths (wsV RX12 156 RX12 yX12_wears wsX12_wears) := goodIn_app (goodIn_of _ (by decide +kernel)) ggX12_hundredths_X12_wears
theorem dX12_hundredths_0 : decode cX12_hundredths 0 = .ok (.aload_n 0, 1) := by decide +kernel
theorem dX12_hundredths_1 : decode cX12_hundredths 1 = .ok (.iload_n 1, 1) := by decide +kernel
theorem dX12_hundredths_2 : decode cX12_hundredths 2 = .ok (.iload_n 2, 1) := by decide +kernel
theorem dX12_hundredths_3 : decode cX12_hundredths 3 = .ok (.invokevirtual 153, 3) := by decide +kernel
theorem dX12_hundredths_6 : decode cX12_hundredths 6 = .ok (.i2l, 1) := by decide +kernel
theorem dX12_hundredths_7 : decode cX12_hundredths 7 = .ok (.aload_n 0, 1) := by decide +kernel
theorem dX12_hundredths_8 : decode cX12_hundredths 8 = .ok (.iload_n 1, 1) := by decide +kernel
theorem dX12_hundredths_9 : decode cX12_hundredths 9 = .ok (.iload_n 2, 1) := by decide +kernel
theorem dX12_hundredths_10 : decode cX12_hundredths 10 = .ok (.aload_n 0, 1) := by decide +kernel
theorem dX12_hundredths_11 : decode cX12_hundredths 11 = .ok (.iload_n 1, 1) := by decide +kernel
theorem dX12_hundredths_12 : decode cX12_hundredths 12 = .ok (.invokevirtual 170, 3) := by decide +kernel
theorem dX12_hundredths_15 : decode cX12_hundredths 15 = .ok (.iconst 0, 1) := by decide +kernel
theorem dX12_hundredths_16 : decode cX12_hundredths 16 = .ok (.invokevirtual 156, 3) := by decide +kernel
theorem dX12_hundredths_19 : decode cX12_hundredths 19 = .ok (.i2l, 1) := by decide +kernel
theorem dX12_hundredths_20 : decode cX12_hundredths 20 = .ok (.aload_n 0, 1) := by decide +kernel
theorem dX12_hundredths_21 : decode cX12_hundredths 21 = .ok (.getfield 41, 3) := by decide +kernel
theorem dX12_hundredths_24 : decode cX12_hundredths 24 = .ok (.iconst 0, 1) := by decide +kernel
theorem dX12_hundredths_25 : decode cX12_hundredths 25 = .ok (.iaload, 1) := by decide +kernel
theorem dX12_hundredths_26 : decode cX12_hundredths 26 = .ok (.i2l, 1) := by decide +kernel
theorem dX12_hundredths_27 : decode cX12_hundredths 27 = .ok (.lmul, 1) := by decide +kernel
theorem dX12_hundredths_28 : decode cX12_hundredths 28 = .ok (.ladd, 1) := by decide +kernel
theorem dX12_hundredths_29 : decode cX12_hundredths 29 = .ok (.lreturn, 1) := by decide +kernel
set_option maxRecDepth 20000 in
theorem ggX12_earnsOf_X12_hundredths : GoodIn wsX12_earnsOf wsX12_hundredths := goodIn_r _ [9, 4, 10, 11, 12, 8, 13, 2, 14, 15, 16, 17, 18, 19, 20, 21, 22, 23, 24, 25, 26, 27, 28, 29, 30, 31, 32, 33, 34, 35, 36, 37, 38, 39, 40, 41, 42, 43, 44, 45, 46, 47, 48, 49, 50, 51, 52, 53, 54, 55] (by decide +kernel) (by decide +kernel)
set_option maxRecDepth 20000 in
theorem gX12_earnsOf_X12_hundredths : GoodIn wsX12_earnsOf (wsV RX12 271 RX12 yX12_hundredths wsX12_hundredths) := goodIn_app (goodIn_of _ (by decide +kernel)) ggX12_earnsOf_X12_hundredths
set_option maxRecDepth 20000 in
theorem ggX12_earnsOf_X12_steps : GoodIn wsX12_earnsOf wsX12_steps := goodIn_r _ [18, 2, 25, 26, 27, 28, 29, 30, 31, 32, 33, 34, 35, 36, 37, 38, 39, 40, 41, 42, 43, 44, 45, 46, 47, 48, 49, 50, 51, 52, 53, 54, 55] (by decide +kernel) (by decide +kernel)
set_option maxRecDepth 20000 in
theorem gX12_earnsOf_X12_steps : GoodIn wsX12_earnsOf (wsV RX12 170 RX12 yX12_steps wsX12_steps) := goodIn_app (goodIn_of _ (by decide +kernel)) ggX12_earnsOf_X12_steps
set_option maxRecDepth 20000 in
theorem ggX12_earnsOf_X12_wears : GoodIn wsX12_earnsOf wsX12_wears := goodIn_r _ [22, 2, 14, 23, 24, 25, 26, 27, 28, 29, 30, 31, 32, 33, 34, 35, 36, 37, 38, 39, 40, 41, 42, 43, 44, 45, 46, 47, 48, 49, 50, 51, 52, 53, 54, 55] (by decide +kernel) (by decide +kernel)
set_option maxRecDepth 20000 in
theorem gX12_earnsOf_X12_wears : GoodIn wsX12_earnsOf (wsV RX12 156 RX12 yX12_wears wsX12_wears) := goodIn_app (goodIn_of _ (by decide +kernel)) ggX12_earnsOf_X12_wears
theorem dX12_earnsOf_0 : decode cX12_earnsOf 0 = .ok (.aload_n 0, 1) := by decide +kernel
theorem dX12_earnsOf_1 : decode cX12_earnsOf 1 = .ok (.iload_n 1, 1) := by decide +kernel
theorem dX12_earnsOf_2 : decode cX12_earnsOf 2 = .ok (.iload_n 2, 1) := by decide +kernel
theorem dX12_earnsOf_3 : decode cX12_earnsOf 3 = .ok (.invokevirtual 271, 3) := by decide +kernel
theorem dX12_earnsOf_6 : decode cX12_earnsOf 6 = .ok (.iload_n 3, 1) := by decide +kernel
theorem dX12_earnsOf_7 : decode cX12_earnsOf 7 = .ok (.i2l, 1) := by decide +kernel
theorem dX12_earnsOf_8 : decode cX12_earnsOf 8 = .ok (.lcmp, 1) := by decide +kernel
theorem dX12_earnsOf_9 : decode cX12_earnsOf 9 = .ok (.ifCond .le 12, 3) := by decide +kernel
theorem dX12_earnsOf_12 : decode cX12_earnsOf 12 = .ok (.aload_n 0, 1) := by decide +kernel
theorem dX12_earnsOf_13 : decode cX12_earnsOf 13 = .ok (.iload_n 1, 1) := by decide +kernel
theorem dX12_earnsOf_14 : decode cX12_earnsOf 14 = .ok (.iload_n 2, 1) := by decide +kernel
theorem dX12_earnsOf_15 : decode cX12_earnsOf 15 = .ok (.invokevirtual 271, 3) := by decide +kernel
theorem dX12_earnsOf_18 : decode cX12_earnsOf 18 = .ok (.goto 5, 3) := by decide +kernel
theorem dX12_earnsOf_21 : decode cX12_earnsOf 21 = .ok (.iload_n 3, 1) := by decide +kernel
theorem dX12_earnsOf_22 : decode cX12_earnsOf 22 = .ok (.i2l, 1) := by decide +kernel
theorem dX12_earnsOf_23 : decode cX12_earnsOf 23 = .ok (.lstore 4, 2) := by decide +kernel
theorem dX12_earnsOf_25 : decode cX12_earnsOf 25 = .ok (.ldc2_w 191, 3) := by decide +kernel
theorem dX12_earnsOf_28 : decode cX12_earnsOf 28 = .ok (.aload_n 0, 1) := by decide +kernel
theorem dX12_earnsOf_29 : decode cX12_earnsOf 29 = .ok (.getfield 26, 3) := by decide +kernel
theorem dX12_earnsOf_32 : decode cX12_earnsOf 32 = .ok (.iconst 4, 1) := by decide +kernel
theorem dX12_earnsOf_33 : decode cX12_earnsOf 33 = .ok (.iload_n 1, 1) := by decide +kernel
theorem dX12_earnsOf_34 : decode cX12_earnsOf 34 = .ok (.imul, 1) := by decide +kernel
theorem dX12_earnsOf_35 : decode cX12_earnsOf 35 = .ok (.iconst 3, 1) := by decide +kernel
theorem dX12_earnsOf_36 : decode cX12_earnsOf 36 = .ok (.iadd, 1) := by decide +kernel
theorem dX12_earnsOf_37 : decode cX12_earnsOf 37 = .ok (.iaload, 1) := by decide +kernel
theorem dX12_earnsOf_38 : decode cX12_earnsOf 38 = .ok (.i2l, 1) := by decide +kernel
theorem dX12_earnsOf_39 : decode cX12_earnsOf 39 = .ok (.lmul, 1) := by decide +kernel
theorem dX12_earnsOf_40 : decode cX12_earnsOf 40 = .ok (.ldc2_w 274, 3) := by decide +kernel
theorem dX12_earnsOf_43 : decode cX12_earnsOf 43 = .ok (.aload_n 0, 1) := by decide +kernel
theorem dX12_earnsOf_44 : decode cX12_earnsOf 44 = .ok (.iload_n 1, 1) := by decide +kernel
theorem dX12_earnsOf_45 : decode cX12_earnsOf 45 = .ok (.iload_n 2, 1) := by decide +kernel
theorem dX12_earnsOf_46 : decode cX12_earnsOf 46 = .ok (.aload_n 0, 1) := by decide +kernel
theorem dX12_earnsOf_47 : decode cX12_earnsOf 47 = .ok (.iload_n 1, 1) := by decide +kernel
theorem dX12_earnsOf_48 : decode cX12_earnsOf 48 = .ok (.invokevirtual 170, 3) := by decide +kernel
theorem dX12_earnsOf_51 : decode cX12_earnsOf 51 = .ok (.iconst 0, 1) := by decide +kernel
theorem dX12_earnsOf_52 : decode cX12_earnsOf 52 = .ok (.invokevirtual 156, 3) := by decide +kernel
theorem dX12_earnsOf_55 : decode cX12_earnsOf 55 = .ok (.i2l, 1) := by decide +kernel
theorem dX12_earnsOf_56 : decode cX12_earnsOf 56 = .ok (.lmul, 1) := by decide +kernel
theorem dX12_earnsOf_57 : decode cX12_earnsOf 57 = .ok (.aload_n 0, 1) := by decide +kernel
theorem dX12_earnsOf_58 : decode cX12_earnsOf 58 = .ok (.getfield 41, 3) := by decide +kernel
theorem dX12_earnsOf_61 : decode cX12_earnsOf 61 = .ok (.iconst 1, 1) := by decide +kernel
theorem dX12_earnsOf_62 : decode cX12_earnsOf 62 = .ok (.iaload, 1) := by decide +kernel
theorem dX12_earnsOf_63 : decode cX12_earnsOf 63 = .ok (.i2l, 1) := by decide +kernel
theorem dX12_earnsOf_64 : decode cX12_earnsOf 64 = .ok (.lmul, 1) := by decide +kernel
theorem dX12_earnsOf_65 : decode cX12_earnsOf 65 = .ok (.lsub, 1) := by decide +kernel
theorem dX12_earnsOf_66 : decode cX12_earnsOf 66 = .ok (.lstore 6, 2) := by decide +kernel
theorem dX12_earnsOf_68 : decode cX12_earnsOf 68 = .ok (.lload 6, 2) := by decide +kernel
theorem dX12_earnsOf_70 : decode cX12_earnsOf 70 = .ok (.ldc2_w 191, 3) := by decide +kernel
theorem dX12_earnsOf_73 : decode cX12_earnsOf 73 = .ok (.lmul, 1) := by decide +kernel
theorem dX12_earnsOf_74 : decode cX12_earnsOf 74 = .ok (.lload 4, 2) := by decide +kernel
theorem dX12_earnsOf_76 : decode cX12_earnsOf 76 = .ok (.ldiv, 1) := by decide +kernel
theorem dX12_earnsOf_77 : decode cX12_earnsOf 77 = .ok (.ldc2_w 191, 3) := by decide +kernel
theorem dX12_earnsOf_80 : decode cX12_earnsOf 80 = .ok (.aload_n 0, 1) := by decide +kernel
theorem dX12_earnsOf_81 : decode cX12_earnsOf 81 = .ok (.getfield 41, 3) := by decide +kernel
theorem dX12_earnsOf_84 : decode cX12_earnsOf 84 = .ok (.iconst 2, 1) := by decide +kernel
theorem dX12_earnsOf_85 : decode cX12_earnsOf 85 = .ok (.iaload, 1) := by decide +kernel
theorem dX12_earnsOf_86 : decode cX12_earnsOf 86 = .ok (.i2l, 1) := by decide +kernel
theorem dX12_earnsOf_87 : decode cX12_earnsOf 87 = .ok (.lmul, 1) := by decide +kernel
theorem dX12_earnsOf_88 : decode cX12_earnsOf 88 = .ok (.lsub, 1) := by decide +kernel
theorem dX12_earnsOf_89 : decode cX12_earnsOf 89 = .ok (.lreturn, 1) := by decide +kernel
set_option maxRecDepth 20000 in
theorem ggX12_earns_X12_isPiece : GoodIn wsX12_earns wsX12_isPiece := goodIn_r _ [8, 9, 10, 11, 7, 12, 53, 54, 55, 56, 57, 58, 59, 60, 61, 62, 63, 64, 65, 66, 67, 68, 69, 70, 71, 72, 73, 74, 75, 76, 77, 78, 79, 80, 81, 82, 83] (by decide +kernel) (by decide +kernel)
set_option maxRecDepth 20000 in
theorem gX12_earns_X12_isPiece : GoodIn wsX12_earns (wsV RX12 141 RX12 yX12_isPiece wsX12_isPiece) := goodIn_app (goodIn_of _ (by decide +kernel)) ggX12_earns_X12_isPiece
set_option maxRecDepth 20000 in
theorem ggX12_earns_X12_isSpeed : GoodIn wsX12_earns wsX12_isSpeed := goodIn_r _ [16, 17, 10, 11, 7, 12, 53, 54, 55, 56, 57, 58, 59, 60, 61, 62, 63, 64, 65, 66, 67, 68, 69, 70, 71, 72, 73, 74, 75, 76, 77, 78, 79, 80, 81, 82, 83] (by decide +kernel) (by decide +kernel)
set_option maxRecDepth 20000 in
theorem gX12_earns_X12_isSpeed : GoodIn wsX12_earns (wsV RX12 145 RX12 yX12_isSpeed wsX12_isSpeed) := goodIn_app (goodIn_of _ (by decide +kernel)) ggX12_earns_X12_isSpeed
set_option maxRecDepth 20000 in
theorem ggX12_earns_X12_in : GoodIn wsX12_earns wsX12_in := goodIn_r _ [12] (by decide +kernel) (by decide +kernel)
set_option maxRecDepth 20000 in
theorem gX12_earns_X12_in : GoodIn wsX12_earns (va_wsS RX12 101 yX12_in wsX12_in) := goodIn_app (goodIn_of _ (by decide +kernel)) ggX12_earns_X12_in
set_option maxRecDepth 20000 in
theorem ggX12_earns_X12_whole : GoodIn wsX12_earns wsX12_whole := goodIn_r _ [21, 22, 23, 24, 7, 25, 26, 27, 28, 29, 30, 31, 32, 53, 54, 55, 56, 57, 58, 59, 60, 61, 62, 63, 64, 65, 66, 67, 68, 69, 70, 71, 72, 73, 74, 75, 76, 77, 78, 79, 80, 81, 82, 83] (by decide +kernel) (by decide +kernel)
set_option maxRecDepth 20000 in
theorem gX12_earns_X12_whole : GoodIn wsX12_earns (wsV RX12 278 RX12 yX12_whole wsX12_whole) := goodIn_app (goodIn_of _ (by decide +kernel)) ggX12_earns_X12_whole
set_option maxRecDepth 20000 in
theorem ggX12_earns_X12_earnsOf : GoodIn wsX12_earns wsX12_earnsOf := goodIn_r _ [36, 37, 26, 38, 31, 39, 40, 41, 7, 42, 43, 44, 45, 46, 32, 22, 23, 24, 25, 47, 48, 49, 50, 51, 52, 53, 54, 55, 56, 57, 58, 59, 60, 61, 62, 63, 64, 65, 66, 67, 68, 69, 70, 71, 72, 73, 74, 75, 76, 77, 78, 79, 80, 81, 82, 83] (by decide +kernel) (by decide +kernel)
set_option maxRecDepth 20000 in
theorem gX12_earns_X12_earnsOf : GoodIn wsX12_earns (wsV RX12 281 RX12 yX12_earnsOf wsX12_earnsOf) := goodIn_app (goodIn_of _ (by decide +kernel)) ggX12_earns_X12_earnsOf
theorem dX12_earns_0 : decode cX12_earns 0 = .ok (.aload_n 0, 1) := by decide +kernel
theorem dX12_earns_1 : decode cX12_earns 1 = .ok (.iload_n 1, 1) := by decide +kernel
theorem dX12_earns_2 : decode cX12_earns 2 = .ok (.invokevirtual 141, 3) := by decide +kernel
theorem dX12_earns_5 : decode cX12_earns 5 = .ok (.ifCond .eq 23, 3) := by decide +kernel
theorem dX12_earns_8 : decode cX12_earns 8 = .ok (.aload_n 0, 1) := by decide +kernel
theorem dX12_earns_9 : decode cX12_earns 9 = .ok (.iload_n 2, 1) := by decide +kernel
theorem dX12_earns_10 : decode cX12_earns 10 = .ok (.invokevirtual 145, 3) := by decide +kernel
theorem dX12_earns_13 : decode cX12_earns 13 = .ok (.ifCond .eq 15, 3) := by decide +kernel
theorem dX12_earns_16 : decode cX12_earns 16 = .ok (.iload_n 3, 1) := by decide +kernel
theorem dX12_earns_17 : decode cX12_earns 17 = .ok (.i2l, 1) := by decide +kernel
theorem dX12_earns_18 : decode cX12_earns 18 = .ok (.lconst 1, 1) := by decide +kernel
theorem dX12_earns_19 : decode cX12_earns 19 = .ok (.ldc2_w 276, 3) := by decide +kernel
theorem dX12_earns_22 : decode cX12_earns 22 = .ok (.invokestatic 101, 3) := by decide +kernel
theorem dX12_earns_25 : decode cX12_earns 25 = .ok (.ifCond .ne 7, 3) := by decide +kernel
theorem dX12_earns_28 : decode cX12_earns 28 = .ok (.ldc2_w 238, 3) := by decide +kernel
theorem dX12_earns_31 : decode cX12_earns 31 = .ok (.lreturn, 1) := by decide +kernel
theorem dX12_earns_32 : decode cX12_earns 32 = .ok (.aload_n 0, 1) := by decide +kernel
theorem dX12_earns_33 : decode cX12_earns 33 = .ok (.iload_n 1, 1) := by decide +kernel
theorem dX12_earns_34 : decode cX12_earns 34 = .ok (.iload_n 2, 1) := by decide +kernel
theorem dX12_earns_35 : decode cX12_earns 35 = .ok (.invokevirtual 278, 3) := by decide +kernel
theorem dX12_earns_38 : decode cX12_earns 38 = .ok (.ifCond .eq 13, 3) := by decide +kernel
theorem dX12_earns_41 : decode cX12_earns 41 = .ok (.aload_n 0, 1) := by decide +kernel
theorem dX12_earns_42 : decode cX12_earns 42 = .ok (.iload_n 1, 1) := by decide +kernel
theorem dX12_earns_43 : decode cX12_earns 43 = .ok (.iload_n 2, 1) := by decide +kernel
theorem dX12_earns_44 : decode cX12_earns 44 = .ok (.iload_n 3, 1) := by decide +kernel
theorem dX12_earns_45 : decode cX12_earns 45 = .ok (.invokevirtual 281, 3) := by decide +kernel
theorem dX12_earns_48 : decode cX12_earns 48 = .ok (.goto 6, 3) := by decide +kernel
theorem dX12_earns_51 : decode cX12_earns 51 = .ok (.ldc2_w 285, 3) := by decide +kernel
theorem dX12_earns_54 : decode cX12_earns 54 = .ok (.lreturn, 1) := by decide +kernel
set_option maxRecDepth 20000 in
theorem ggX12_shop_X12_isPiece : GoodIn wsX12_shop wsX12_isPiece := goodIn_r _ [7, 8, 9, 10, 6, 11, 47, 48, 49, 50, 51, 52, 53, 54, 55, 56, 57, 58, 59, 60, 61, 62, 63, 64, 65, 66, 67, 68, 69, 70, 71, 72, 73, 74, 75, 76, 77] (by decide +kernel) (by decide +kernel)
set_option maxRecDepth 20000 in
theorem gX12_shop_X12_isPiece : GoodIn wsX12_shop (wsV RX12 141 RX12 yX12_isPiece wsX12_isPiece) := goodIn_app (goodIn_of _ (by decide +kernel)) ggX12_shop_X12_isPiece
set_option maxRecDepth 20000 in
theorem ggX12_shop_X12_in : GoodIn wsX12_shop wsX12_in := goodIn_r _ [11] (by decide +kernel) (by decide +kernel)
set_option maxRecDepth 20000 in
theorem gX12_shop_X12_in : GoodIn wsX12_shop (va_wsS RX12 101 yX12_in wsX12_in) := goodIn_app (goodIn_of _ (by decide +kernel)) ggX12_shop_X12_in
set_option maxRecDepth 20000 in
theorem ggX12_shop_X12_whole : GoodIn wsX12_shop wsX12_whole := goodIn_r _ [15, 16, 17, 18, 6, 19, 20, 21, 22, 23, 24, 25, 26, 47, 48, 49, 50, 51, 52, 53, 54, 55, 56, 57, 58, 59, 60, 61, 62, 63, 64, 65, 66, 67, 68, 69, 70, 71, 72, 73, 74, 75, 76, 77] (by decide +kernel) (by decide +kernel)
set_option maxRecDepth 20000 in
theorem gX12_shop_X12_whole : GoodIn wsX12_shop (wsV RX12 278 RX12 yX12_whole wsX12_whole) := goodIn_app (goodIn_of _ (by decide +kernel)) ggX12_shop_X12_whole
set_option maxRecDepth 20000 in
theorem ggX12_shop_X12_earnsOf : GoodIn wsX12_shop wsX12_earnsOf := goodIn_r _ [30, 31, 20, 32, 25, 33, 34, 35, 6, 36, 37, 38, 39, 40, 26, 16, 17, 18, 19, 41, 42, 43, 44, 45, 46, 47, 48, 49, 50, 51, 52, 53, 54, 55, 56, 57, 58, 59, 60, 61, 62, 63, 64, 65, 66, 67, 68, 69, 70, 71, 72, 73, 74, 75, 76, 77] (by decide +kernel) (by decide +kernel)
set_option maxRecDepth 20000 in
theorem gX12_shop_X12_earnsOf : GoodIn wsX12_shop (wsV RX12 281 RX12 yX12_earnsOf wsX12_earnsOf) := goodIn_app (goodIn_of _ (by decide +kernel)) ggX12_shop_X12_earnsOf
theorem dX12_shop_0 : decode cX12_shop 0 = .ok (.aload_n 0, 1) := by decide +kernel
theorem dX12_shop_1 : decode cX12_shop 1 = .ok (.iload_n 1, 1) := by decide +kernel
theorem dX12_shop_2 : decode cX12_shop 2 = .ok (.invokevirtual 141, 3) := by decide +kernel
theorem dX12_shop_5 : decode cX12_shop 5 = .ok (.ifCond .eq 15, 3) := by decide +kernel
theorem dX12_shop_8 : decode cX12_shop 8 = .ok (.iload_n 2, 1) := by decide +kernel
theorem dX12_shop_9 : decode cX12_shop 9 = .ok (.i2l, 1) := by decide +kernel
theorem dX12_shop_10 : decode cX12_shop 10 = .ok (.lconst 1, 1) := by decide +kernel
theorem dX12_shop_11 : decode cX12_shop 11 = .ok (.ldc2_w 276, 3) := by decide +kernel
theorem dX12_shop_14 : decode cX12_shop 14 = .ok (.invokestatic 101, 3) := by decide +kernel
theorem dX12_shop_17 : decode cX12_shop 17 = .ok (.ifCond .ne 5, 3) := by decide +kernel
theorem dX12_shop_20 : decode cX12_shop 20 = .ok (.iconst (-1), 1) := by decide +kernel
theorem dX12_shop_21 : decode cX12_shop 21 = .ok (.ireturn, 1) := by decide +kernel
theorem dX12_shop_22 : decode cX12_shop 22 = .ok (.bipush (-4), 2) := by decide +kernel
theorem dX12_shop_24 : decode cX12_shop 24 = .ok (.istore_n 3, 1) := by decide +kernel
theorem dX12_shop_25 : decode cX12_shop 25 = .ok (.iconst 0, 1) := by decide +kernel
theorem dX12_shop_26 : decode cX12_shop 26 = .ok (.istore 4, 2) := by decide +kernel
theorem dX12_shop_28 : decode cX12_shop 28 = .ok (.iload 4, 2) := by decide +kernel
theorem dX12_shop_30 : decode cX12_shop 30 = .ok (.aload_n 0, 1) := by decide +kernel
theorem dX12_shop_31 : decode cX12_shop 31 = .ok (.getfield 17, 3) := by decide +kernel
theorem dX12_shop_34 : decode cX12_shop 34 = .ok (.iconst 0, 1) := by decide +kernel
theorem dX12_shop_35 : decode cX12_shop 35 = .ok (.iaload, 1) := by decide +kernel
theorem dX12_shop_36 : decode cX12_shop 36 = .ok (.if_icmp .ge 49, 3) := by decide +kernel
theorem dX12_shop_39 : decode cX12_shop 39 = .ok (.aload_n 0, 1) := by decide +kernel
theorem dX12_shop_40 : decode cX12_shop 40 = .ok (.iload_n 1, 1) := by decide +kernel
theorem dX12_shop_41 : decode cX12_shop 41 = .ok (.iload 4, 2) := by decide +kernel
theorem dX12_shop_43 : decode cX12_shop 43 = .ok (.invokevirtual 278, 3) := by decide +kernel
theorem dX12_shop_46 : decode cX12_shop 46 = .ok (.ifCond .eq 31, 3) := by decide +kernel
theorem dX12_shop_49 : decode cX12_shop 49 = .ok (.iload_n 3, 1) := by decide +kernel
theorem dX12_shop_50 : decode cX12_shop 50 = .ok (.ifCond .lt 22, 3) := by decide +kernel
theorem dX12_shop_53 : decode cX12_shop 53 = .ok (.aload_n 0, 1) := by decide +kernel
theorem dX12_shop_54 : decode cX12_shop 54 = .ok (.iload_n 1, 1) := by decide +kernel
theorem dX12_shop_55 : decode cX12_shop 55 = .ok (.iload 4, 2) := by decide +kernel
theorem dX12_shop_57 : decode cX12_shop 57 = .ok (.iload_n 2, 1) := by decide +kernel
theorem dX12_shop_58 : decode cX12_shop 58 = .ok (.invokevirtual 281, 3) := by decide +kernel
theorem dX12_shop_61 : decode cX12_shop 61 = .ok (.aload_n 0, 1) := by decide +kernel
theorem dX12_shop_62 : decode cX12_shop 62 = .ok (.iload_n 1, 1) := by decide +kernel
theorem dX12_shop_63 : decode cX12_shop 63 = .ok (.iload_n 3, 1) := by decide +kernel
theorem dX12_shop_64 : decode cX12_shop 64 = .ok (.iload_n 2, 1) := by decide +kernel
theorem dX12_shop_65 : decode cX12_shop 65 = .ok (.invokevirtual 281, 3) := by decide +kernel
theorem dX12_shop_68 : decode cX12_shop 68 = .ok (.lcmp, 1) := by decide +kernel
theorem dX12_shop_69 : decode cX12_shop 69 = .ok (.ifCond .le 8, 3) := by decide +kernel
theorem dX12_shop_72 : decode cX12_shop 72 = .ok (.iload 4, 2) := by decide +kernel
theorem dX12_shop_74 : decode cX12_shop 74 = .ok (.goto 4, 3) := by decide +kernel
theorem dX12_shop_77 : decode cX12_shop 77 = .ok (.iload_n 3, 1) := by decide +kernel
theorem dX12_shop_78 : decode cX12_shop 78 = .ok (.istore_n 3, 1) := by decide +kernel
theorem dX12_shop_79 : decode cX12_shop 79 = .ok (.iinc 4 1, 3) := by decide +kernel
theorem dX12_shop_82 : decode cX12_shop 82 = .ok (.goto (-54), 3) := by decide +kernel
theorem dX12_shop_85 : decode cX12_shop 85 = .ok (.iload_n 3, 1) := by decide +kernel
theorem dX12_shop_86 : decode cX12_shop 86 = .ok (.ireturn, 1) := by decide +kernel
set_option maxRecDepth 20000 in
theorem ggX12_pays_X12_hundredths : GoodIn wsX12_pays wsX12_hundredths := goodIn_r _ [6, 7, 8, 9, 10, 5, 11, 12, 13, 14, 15, 16, 17, 18, 19, 20, 21, 22, 23, 24, 25, 26, 27, 28, 29, 30, 31, 32, 33, 34, 35, 36, 37, 38, 39, 40, 41, 42, 43, 44, 45, 46, 47, 48, 49, 50, 51, 52, 53, 54] (by decide +kernel) (by decide +kernel)
set_option maxRecDepth 20000 in
theorem gX12_pays_X12_hundredths : GoodIn wsX12_pays (wsV RX12 271 RX12 yX12_hundredths wsX12_hundredths) := goodIn_app (goodIn_of _ (by decide +kernel)) ggX12_pays_X12_hundredths
theorem dX12_pays_0 : decode cX12_pays 0 = .ok (.ldc2_w 191, 3) := by decide +kernel
theorem dX12_pays_3 : decode cX12_pays 3 = .ok (.iload_n 3, 1) := by decide +kernel
theorem dX12_pays_4 : decode cX12_pays 4 = .ok (.i2l, 1) := by decide +kernel
theorem dX12_pays_5 : decode cX12_pays 5 = .ok (.lmul, 1) := by decide +kernel
theorem dX12_pays_6 : decode cX12_pays 6 = .ok (.ldc2_w 191, 3) := by decide +kernel
theorem dX12_pays_9 : decode cX12_pays 9 = .ok (.lmul, 1) := by decide +kernel
theorem dX12_pays_10 : decode cX12_pays 10 = .ok (.aload_n 0, 1) := by decide +kernel
theorem dX12_pays_11 : decode cX12_pays 11 = .ok (.iload_n 1, 1) := by decide +kernel
theorem dX12_pays_12 : decode cX12_pays 12 = .ok (.iload_n 2, 1) := by decide +kernel
theorem dX12_pays_13 : decode cX12_pays 13 = .ok (.invokevirtual 271, 3) := by decide +kernel
theorem dX12_pays_16 : decode cX12_pays 16 = .ok (.ldiv, 1) := by decide +kernel
theorem dX12_pays_17 : decode cX12_pays 17 = .ok (.lreturn, 1) := by decide +kernel
set_option maxRecDepth 20000 in
theorem ggX12_takes_X12_whole : GoodIn wsX12_takes wsX12_whole := goodIn_r _ [8, 9, 10, 11, 7, 12, 13, 14, 15, 16, 17, 18, 3, 37, 38, 39, 40, 41, 42, 43, 44, 45, 46, 47, 48, 49, 50, 51, 52, 53, 54, 55, 56, 57, 58, 59, 60, 61, 62, 63, 64, 65, 66, 67] (by decide +kernel) (by decide +kernel)
set_option maxRecDepth 20000 in
theorem gX12_takes_X12_whole : GoodIn wsX12_takes (wsV RX12 278 RX12 yX12_whole wsX12_whole) := goodIn_app (goodIn_of _ (by decide +kernel)) ggX12_takes_X12_whole
set_option maxRecDepth 20000 in
theorem ggX12_takes_X12_pays : GoodIn wsX12_takes wsX12_pays := goodIn_r _ [22, 2, 23, 24, 25, 7, 26, 18, 27, 28, 29, 30, 13, 3, 9, 10, 11, 12, 31, 32, 33, 34, 35, 36, 37, 38, 39, 40, 41, 42, 43, 44, 45, 46, 47, 48, 49, 50, 51, 52, 53, 54, 55, 56, 57, 58, 59, 60, 61, 62, 63, 64, 65, 66, 67] (by decide +kernel) (by decide +kernel)
set_option maxRecDepth 20000 in
theorem gX12_takes_X12_pays : GoodIn wsX12_takes (wsV RX12 287 RX12 yX12_pays wsX12_pays) := goodIn_app (goodIn_of _ (by decide +kernel)) ggX12_takes_X12_pays
theorem dX12_takes_0 : decode cX12_takes 0 = .ok (.bipush (-4), 2) := by decide +kernel
theorem dX12_takes_2 : decode cX12_takes 2 = .ok (.istore 4, 2) := by decide +kernel
theorem dX12_takes_4 : decode cX12_takes 4 = .ok (.lconst 0, 1) := by decide +kernel
theorem dX12_takes_5 : decode cX12_takes 5 = .ok (.lstore 5, 2) := by decide +kernel
theorem dX12_takes_7 : decode cX12_takes 7 = .ok (.iconst 0, 1) := by decide +kernel
theorem dX12_takes_8 : decode cX12_takes 8 = .ok (.istore 7, 2) := by decide +kernel
theorem dX12_takes_10 : decode cX12_takes 10 = .ok (.iload 7, 2) := by decide +kernel
theorem dX12_takes_12 : decode cX12_takes 12 = .ok (.aload_n 0, 1) := by decide +kernel
theorem dX12_takes_13 : decode cX12_takes 13 = .ok (.getfield 17, 3) := by decide +kernel
theorem dX12_takes_16 : decode cX12_takes 16 = .ok (.iconst 0, 1) := by decide +kernel
theorem dX12_takes_17 : decode cX12_takes 17 = .ok (.iaload, 1) := by decide +kernel
theorem dX12_takes_18 : decode cX12_takes 18 = .ok (.if_icmp .ge 68, 3) := by decide +kernel
theorem dX12_takes_21 : decode cX12_takes 21 = .ok (.aload_n 0, 1) := by decide +kernel
theorem dX12_takes_22 : decode cX12_takes 22 = .ok (.iload_n 1, 1) := by decide +kernel
theorem dX12_takes_23 : decode cX12_takes 23 = .ok (.iload 7, 2) := by decide +kernel
theorem dX12_takes_25 : decode cX12_takes 25 = .ok (.invokevirtual 278, 3) := by decide +kernel
theorem dX12_takes_28 : decode cX12_takes 28 = .ok (.ifCond .eq 52, 3) := by decide +kernel
theorem dX12_takes_31 : decode cX12_takes 31 = .ok (.aload_n 0, 1) := by decide +kernel
theorem dX12_takes_32 : decode cX12_takes 32 = .ok (.iload_n 1, 1) := by decide +kernel
theorem dX12_takes_33 : decode cX12_takes 33 = .ok (.iload 7, 2) := by decide +kernel
theorem dX12_takes_35 : decode cX12_takes 35 = .ok (.iload_n 2, 1) := by decide +kernel
theorem dX12_takes_36 : decode cX12_takes 36 = .ok (.invokevirtual 287, 3) := by decide +kernel
theorem dX12_takes_39 : decode cX12_takes 39 = .ok (.ldc2_w 191, 3) := by decide +kernel
theorem dX12_takes_42 : decode cX12_takes 42 = .ok (.iload_n 3, 1) := by decide +kernel
theorem dX12_takes_43 : decode cX12_takes 43 = .ok (.i2l, 1) := by decide +kernel
theorem dX12_takes_44 : decode cX12_takes 44 = .ok (.lmul, 1) := by decide +kernel
theorem dX12_takes_45 : decode cX12_takes 45 = .ok (.aload_n 0, 1) := by decide +kernel
theorem dX12_takes_46 : decode cX12_takes 46 = .ok (.getfield 20, 3) := by decide +kernel
theorem dX12_takes_49 : decode cX12_takes 49 = .ok (.iconst 2, 1) := by decide +kernel
theorem dX12_takes_50 : decode cX12_takes 50 = .ok (.iload 7, 2) := by decide +kernel
theorem dX12_takes_52 : decode cX12_takes 52 = .ok (.imul, 1) := by decide +kernel
theorem dX12_takes_53 : decode cX12_takes 53 = .ok (.iaload, 1) := by decide +kernel
theorem dX12_takes_54 : decode cX12_takes 54 = .ok (.i2l, 1) := by decide +kernel
theorem dX12_takes_55 : decode cX12_takes 55 = .ok (.lmul, 1) := by decide +kernel
theorem dX12_takes_56 : decode cX12_takes 56 = .ok (.lsub, 1) := by decide +kernel
theorem dX12_takes_57 : decode cX12_takes 57 = .ok (.lstore 8, 2) := by decide +kernel
theorem dX12_takes_59 : decode cX12_takes 59 = .ok (.iload 4, 2) := by decide +kernel
theorem dX12_takes_61 : decode cX12_takes 61 = .ok (.ifCond .lt 11, 3) := by decide +kernel
theorem dX12_takes_64 : decode cX12_takes 64 = .ok (.lload 8, 2) := by decide +kernel
theorem dX12_takes_66 : decode cX12_takes 66 = .ok (.lload 5, 2) := by decide +kernel
theorem dX12_takes_68 : decode cX12_takes 68 = .ok (.lcmp, 1) := by decide +kernel
theorem dX12_takes_69 : decode cX12_takes 69 = .ok (.ifCond .le 11, 3) := by decide +kernel
theorem dX12_takes_72 : decode cX12_takes 72 = .ok (.iload 7, 2) := by decide +kernel
theorem dX12_takes_74 : decode cX12_takes 74 = .ok (.istore 4, 2) := by decide +kernel
theorem dX12_takes_76 : decode cX12_takes 76 = .ok (.lload 8, 2) := by decide +kernel
theorem dX12_takes_78 : decode cX12_takes 78 = .ok (.lstore 5, 2) := by decide +kernel
theorem dX12_takes_80 : decode cX12_takes 80 = .ok (.iinc 7 1, 3) := by decide +kernel
theorem dX12_takes_83 : decode cX12_takes 83 = .ok (.goto (-73), 3) := by decide +kernel
theorem dX12_takes_86 : decode cX12_takes 86 = .ok (.iload 4, 2) := by decide +kernel
theorem dX12_takes_88 : decode cX12_takes 88 = .ok (.ireturn, 1) := by decide +kernel
set_option maxRecDepth 20000 in
theorem ggX12_isPence_X12_in : GoodIn wsX12_isPence wsX12_in := goodIn_r _ [5] (by decide +kernel) (by decide +kernel)
set_option maxRecDepth 20000 in
theorem gX12_isPence_X12_in : GoodIn wsX12_isPence (va_wsS RX12 101 yX12_in wsX12_in) := goodIn_app (goodIn_of _ (by decide +kernel)) ggX12_isPence_X12_in
theorem dX12_isPence_0 : decode cX12_isPence 0 = .ok (.iload_n 0, 1) := by decide +kernel
theorem dX12_isPence_1 : decode cX12_isPence 1 = .ok (.i2l, 1) := by decide +kernel
theorem dX12_isPence_2 : decode cX12_isPence 2 = .ok (.lconst 0, 1) := by decide +kernel
theorem dX12_isPence_3 : decode cX12_isPence 3 = .ok (.ldc2_w 267, 3) := by decide +kernel
theorem dX12_isPence_6 : decode cX12_isPence 6 = .ok (.invokestatic 101, 3) := by decide +kernel
theorem dX12_isPence_9 : decode cX12_isPence 9 = .ok (.ireturn, 1) := by decide +kernel
set_option maxRecDepth 20000 in
theorem ggX12_pay_X12_isPiece : GoodIn wsX12_pay wsX12_isPiece := goodIn_r _ [9, 10, 11, 12, 8, 13, 62, 63, 64, 65, 66, 67, 68, 69, 70, 71, 72, 73, 74, 75, 76, 77, 78, 79, 80, 81, 82, 83, 84, 85, 86, 87, 88, 89, 90, 91, 92] (by decide +kernel) (by decide +kernel)
set_option maxRecDepth 20000 in
theorem gX12_pay_X12_isPiece : GoodIn wsX12_pay (wsV RX12 141 RX12 yX12_isPiece wsX12_isPiece) := goodIn_app (goodIn_of _ (by decide +kernel)) ggX12_pay_X12_isPiece
set_option maxRecDepth 20000 in
theorem ggX12_pay_X12_isPence : GoodIn wsX12_pay wsX12_isPence := goodIn_r _ [16, 17, 11, 12, 8, 13] (by decide +kernel) (by decide +kernel)
set_option maxRecDepth 20000 in
theorem gX12_pay_X12_isPence : GoodIn wsX12_pay (va_wsS RX12 290 yX12_isPence wsX12_isPence) := goodIn_app (goodIn_of _ (by decide +kernel)) ggX12_pay_X12_isPence
set_option maxRecDepth 20000 in
theorem ggX12_pay_X12_in : GoodIn wsX12_pay wsX12_in := goodIn_r _ [13] (by decide +kernel) (by decide +kernel)
set_option maxRecDepth 20000 in
theorem gX12_pay_X12_in : GoodIn wsX12_pay (va_wsS RX12 101 yX12_in wsX12_in) := goodIn_app (goodIn_of _ (by decide +kernel)) ggX12_pay_X12_in
set_option maxRecDepth 20000 in
theorem ggX12_pay_X12_takes : GoodIn wsX12_pay wsX12_takes := goodIn_r _ [21, 22, 23, 24, 25, 26, 27, 8, 28, 29, 30, 31, 32, 33, 34, 35, 36, 37, 38, 39, 40, 41, 42, 43, 44, 45, 46, 47, 48, 49, 50, 51, 52, 53, 54, 55, 56, 62, 63, 64, 65, 66, 67, 68, 69, 70, 71, 72, 73, 74, 75, 76, 77, 78, 79, 80, 81, 82, 83, 84, 85, 86, 87, 88, 89, 90, 91, 92] (by decide +kernel) (by decide +kernel)
set_option maxRecDepth 20000 in
theorem gX12_pay_X12_takes : GoodIn wsX12_pay (wsV RX12 293 RX12 yX12_takes wsX12_takes) := goodIn_app (goodIn_of _ (by decide +kernel)) ggX12_pay_X12_takes
set_option maxRecDepth 20000 in
theorem ggX12_pay_X12_earnsOf : GoodIn wsX12_pay wsX12_earnsOf := goodIn_r _ [60, 23, 33, 61, 38, 43, 44, 45, 8, 46, 47, 48, 49, 50, 24, 29, 30, 31, 32, 51, 52, 53, 54, 55, 56, 62, 63, 64, 65, 66, 67, 68, 69, 70, 71, 72, 73, 74, 75, 76, 77, 78, 79, 80, 81, 82, 83, 84, 85, 86, 87, 88, 89, 90, 91, 92] (by decide +kernel) (by decide +kernel)
set_option maxRecDepth 20000 in
theorem gX12_pay_X12_earnsOf : GoodIn wsX12_pay (wsV RX12 281 RX12 yX12_earnsOf wsX12_earnsOf) := goodIn_app (goodIn_of _ (by decide +kernel)) ggX12_pay_X12_earnsOf
set_option maxRecDepth 20000 in
theorem ggX12_pay_X12_pays : GoodIn wsX12_pay wsX12_pays := goodIn_r _ [42, 23, 43, 44, 45, 8, 46, 38, 47, 48, 49, 50, 33, 24, 29, 30, 31, 32, 51, 52, 53, 54, 55, 56, 62, 63, 64, 65, 66, 67, 68, 69, 70, 71, 72, 73, 74, 75, 76, 77, 78, 79, 80, 81, 82, 83, 84, 85, 86, 87, 88, 89, 90, 91, 92] (by decide +kernel) (by decide +kernel)
set_option maxRecDepth 20000 in
theorem gX12_pay_X12_pays : GoodIn wsX12_pay (wsV RX12 287 RX12 yX12_pays wsX12_pays) := goodIn_app (goodIn_of _ (by decide +kernel)) ggX12_pay_X12_pays
theorem dX12_pay_0 : decode cX12_pay 0 = .ok (.aload_n 0, 1) := by decide +kernel
theorem dX12_pay_1 : decode cX12_pay 1 = .ok (.iload_n 1, 1) := by decide +kernel
theorem dX12_pay_2 : decode cX12_pay 2 = .ok (.invokevirtual 141, 3) := by decide +kernel
theorem dX12_pay_5 : decode cX12_pay 5 = .ok (.ifCond .eq 28, 3) := by decide +kernel
theorem dX12_pay_8 : decode cX12_pay 8 = .ok (.iload_n 2, 1) := by decide +kernel
theorem dX12_pay_9 : decode cX12_pay 9 = .ok (.invokestatic 290, 3) := by decide +kernel
theorem dX12_pay_12 : decode cX12_pay 12 = .ok (.ifCond .eq 21, 3) := by decide +kernel
theorem dX12_pay_15 : decode cX12_pay 15 = .ok (.iload_n 3, 1) := by decide +kernel
theorem dX12_pay_16 : decode cX12_pay 16 = .ok (.invokestatic 290, 3) := by decide +kernel
theorem dX12_pay_19 : decode cX12_pay 19 = .ok (.ifCond .eq 14, 3) := by decide +kernel
theorem dX12_pay_22 : decode cX12_pay 22 = .ok (.iload 4, 2) := by decide +kernel
theorem dX12_pay_24 : decode cX12_pay 24 = .ok (.i2l, 1) := by decide +kernel
theorem dX12_pay_25 : decode cX12_pay 25 = .ok (.lconst 0, 1) := by decide +kernel
theorem dX12_pay_26 : decode cX12_pay 26 = .ok (.lconst 1, 1) := by decide +kernel
theorem dX12_pay_27 : decode cX12_pay 27 = .ok (.invokestatic 101, 3) := by decide +kernel
theorem dX12_pay_30 : decode cX12_pay 30 = .ok (.ifCond .ne 19, 3) := by decide +kernel
theorem dX12_pay_33 : decode cX12_pay 33 = .ok (.iload 4, 2) := by decide +kernel
theorem dX12_pay_35 : decode cX12_pay 35 = .ok (.iconst 1, 1) := by decide +kernel
theorem dX12_pay_36 : decode cX12_pay 36 = .ok (.if_icmp .ne 9, 3) := by decide +kernel
theorem dX12_pay_39 : decode cX12_pay 39 = .ok (.ldc2_w 238, 3) := by decide +kernel
theorem dX12_pay_42 : decode cX12_pay 42 = .ok (.goto 6, 3) := by decide +kernel
theorem dX12_pay_45 : decode cX12_pay 45 = .ok (.ldc2_w 196, 3) := by decide +kernel
theorem dX12_pay_48 : decode cX12_pay 48 = .ok (.lreturn, 1) := by decide +kernel
theorem dX12_pay_49 : decode cX12_pay 49 = .ok (.aload_n 0, 1) := by decide +kernel
theorem dX12_pay_50 : decode cX12_pay 50 = .ok (.iload_n 1, 1) := by decide +kernel
theorem dX12_pay_51 : decode cX12_pay 51 = .ok (.iload_n 2, 1) := by decide +kernel
theorem dX12_pay_52 : decode cX12_pay 52 = .ok (.iload_n 3, 1) := by decide +kernel
theorem dX12_pay_53 : decode cX12_pay 53 = .ok (.invokevirtual 293, 3) := by decide +kernel
theorem dX12_pay_56 : decode cX12_pay 56 = .ok (.istore 5, 2) := by decide +kernel
theorem dX12_pay_58 : decode cX12_pay 58 = .ok (.iload 5, 2) := by decide +kernel
theorem dX12_pay_60 : decode cX12_pay 60 = .ok (.ifCond .ge 19, 3) := by decide +kernel
theorem dX12_pay_63 : decode cX12_pay 63 = .ok (.iload 4, 2) := by decide +kernel
theorem dX12_pay_65 : decode cX12_pay 65 = .ok (.iconst 1, 1) := by decide +kernel
theorem dX12_pay_66 : decode cX12_pay 66 = .ok (.if_icmp .ne 9, 3) := by decide +kernel
theorem dX12_pay_69 : decode cX12_pay 69 = .ok (.ldc2_w 296, 3) := by decide +kernel
theorem dX12_pay_72 : decode cX12_pay 72 = .ok (.goto 6, 3) := by decide +kernel
theorem dX12_pay_75 : decode cX12_pay 75 = .ok (.ldc2_w 258, 3) := by decide +kernel
theorem dX12_pay_78 : decode cX12_pay 78 = .ok (.lreturn, 1) := by decide +kernel
theorem dX12_pay_79 : decode cX12_pay 79 = .ok (.iload 4, 2) := by decide +kernel
theorem dX12_pay_81 : decode cX12_pay 81 = .ok (.ifCond .ne 9, 3) := by decide +kernel
theorem dX12_pay_84 : decode cX12_pay 84 = .ok (.iload 5, 2) := by decide +kernel
theorem dX12_pay_86 : decode cX12_pay 86 = .ok (.i2l, 1) := by decide +kernel
theorem dX12_pay_87 : decode cX12_pay 87 = .ok (.goto 20, 3) := by decide +kernel
theorem dX12_pay_90 : decode cX12_pay 90 = .ok (.aload_n 0, 1) := by decide +kernel
theorem dX12_pay_91 : decode cX12_pay 91 = .ok (.iload_n 1, 1) := by decide +kernel
theorem dX12_pay_92 : decode cX12_pay 92 = .ok (.iload 5, 2) := by decide +kernel
theorem dX12_pay_94 : decode cX12_pay 94 = .ok (.iconst 1, 1) := by decide +kernel
theorem dX12_pay_95 : decode cX12_pay 95 = .ok (.invokevirtual 281, 3) := by decide +kernel
theorem dX12_pay_98 : decode cX12_pay 98 = .ok (.aload_n 0, 1) := by decide +kernel
theorem dX12_pay_99 : decode cX12_pay 99 = .ok (.iload_n 1, 1) := by decide +kernel
theorem dX12_pay_100 : decode cX12_pay 100 = .ok (.iload 5, 2) := by decide +kernel
theorem dX12_pay_102 : decode cX12_pay 102 = .ok (.iload_n 2, 1) := by decide +kernel
theorem dX12_pay_103 : decode cX12_pay 103 = .ok (.invokevirtual 287, 3) := by decide +kernel
theorem dX12_pay_106 : decode cX12_pay 106 = .ok (.lsub, 1) := by decide +kernel
theorem dX12_pay_107 : decode cX12_pay 107 = .ok (.lreturn, 1) := by decide +kernel
set_option maxRecDepth 20000 in
theorem ggX12_bestPay_X12_isPiece : GoodIn wsX12_bestPay wsX12_isPiece := goodIn_r _ [5, 6, 7, 8, 4, 9, 58, 59, 60, 61, 62, 63, 64, 65, 66, 67, 68, 69, 70, 71, 72, 73, 74, 75, 76, 77, 78, 79, 80, 81, 82, 83, 84, 85, 86, 87, 88] (by decide +kernel) (by decide +kernel)
set_option maxRecDepth 20000 in
theorem gX12_bestPay_X12_isPiece : GoodIn wsX12_bestPay (wsV RX12 141 RX12 yX12_isPiece wsX12_isPiece) := goodIn_app (goodIn_of _ (by decide +kernel)) ggX12_bestPay_X12_isPiece
set_option maxRecDepth 20000 in
theorem ggX12_bestPay_X12_isPence : GoodIn wsX12_bestPay wsX12_isPence := goodIn_r _ [12, 13, 7, 8, 4, 9] (by decide +kernel) (by decide +kernel)
set_option maxRecDepth 20000 in
theorem gX12_bestPay_X12_isPence : GoodIn wsX12_bestPay (va_wsS RX12 290 yX12_isPence wsX12_isPence) := goodIn_app (goodIn_of _ (by decide +kernel)) ggX12_bestPay_X12_isPence
set_option maxRecDepth 20000 in
theorem ggX12_bestPay_X12_takes : GoodIn wsX12_bestPay wsX12_takes := goodIn_r _ [17, 18, 19, 20, 21, 22, 23, 4, 24, 25, 26, 27, 28, 29, 30, 31, 32, 33, 34, 35, 36, 37, 38, 39, 40, 41, 42, 43, 44, 45, 46, 47, 48, 49, 50, 51, 52, 58, 59, 60, 61, 62, 63, 64, 65, 66, 67, 68, 69, 70, 71, 72, 73, 74, 75, 76, 77, 78, 79, 80, 81, 82, 83, 84, 85, 86, 87, 88] (by decide +kernel) (by decide +kernel)
set_option maxRecDepth 20000 in
theorem gX12_bestPay_X12_takes : GoodIn wsX12_bestPay (wsV RX12 293 RX12 yX12_takes wsX12_takes) := goodIn_app (goodIn_of _ (by decide +kernel)) ggX12_bestPay_X12_takes
set_option maxRecDepth 20000 in
theorem ggX12_bestPay_X12_earnsOf : GoodIn wsX12_bestPay wsX12_earnsOf := goodIn_r _ [56, 19, 29, 57, 34, 39, 40, 41, 4, 42, 43, 44, 45, 46, 20, 25, 26, 27, 28, 47, 48, 49, 50, 51, 52, 58, 59, 60, 61, 62, 63, 64, 65, 66, 67, 68, 69, 70, 71, 72, 73, 74, 75, 76, 77, 78, 79, 80, 81, 82, 83, 84, 85, 86, 87, 88] (by decide +kernel) (by decide +kernel)
set_option maxRecDepth 20000 in
theorem gX12_bestPay_X12_earnsOf : GoodIn wsX12_bestPay (wsV RX12 281 RX12 yX12_earnsOf wsX12_earnsOf) := goodIn_app (goodIn_of _ (by decide +kernel)) ggX12_bestPay_X12_earnsOf
set_option maxRecDepth 20000 in
theorem ggX12_bestPay_X12_pays : GoodIn wsX12_bestPay wsX12_pays := goodIn_r _ [38, 19, 39, 40, 41, 4, 42, 34, 43, 44, 45, 46, 29, 20, 25, 26, 27, 28, 47, 48, 49, 50, 51, 52, 58, 59, 60, 61, 62, 63, 64, 65, 66, 67, 68, 69, 70, 71, 72, 73, 74, 75, 76, 77, 78, 79, 80, 81, 82, 83, 84, 85, 86, 87, 88] (by decide +kernel) (by decide +kernel)
set_option maxRecDepth 20000 in
theorem gX12_bestPay_X12_pays : GoodIn wsX12_bestPay (wsV RX12 287 RX12 yX12_pays wsX12_pays) := goodIn_app (goodIn_of _ (by decide +kernel)) ggX12_bestPay_X12_pays
theorem dX12_bestPay_0 : decode cX12_bestPay 0 = .ok (.aload_n 0, 1) := by decide +kernel
theorem dX12_bestPay_1 : decode cX12_bestPay 1 = .ok (.iload_n 1, 1) := by decide +kernel
theorem dX12_bestPay_2 : decode cX12_bestPay 2 = .ok (.invokevirtual 141, 3) := by decide +kernel
theorem dX12_bestPay_5 : decode cX12_bestPay 5 = .ok (.ifCond .eq 10, 3) := by decide +kernel
theorem dX12_bestPay_8 : decode cX12_bestPay 8 = .ok (.iload_n 2, 1) := by decide +kernel
theorem dX12_bestPay_9 : decode cX12_bestPay 9 = .ok (.invokestatic 290, 3) := by decide +kernel
theorem dX12_bestPay_12 : decode cX12_bestPay 12 = .ok (.ifCond .ne 5, 3) := by decide +kernel
theorem dX12_bestPay_15 : decode cX12_bestPay 15 = .ok (.iconst (-1), 1) := by decide +kernel
theorem dX12_bestPay_16 : decode cX12_bestPay 16 = .ok (.ireturn, 1) := by decide +kernel
theorem dX12_bestPay_17 : decode cX12_bestPay 17 = .ok (.bipush (-4), 2) := by decide +kernel
theorem dX12_bestPay_19 : decode cX12_bestPay 19 = .ok (.istore_n 3, 1) := by decide +kernel
theorem dX12_bestPay_20 : decode cX12_bestPay 20 = .ok (.lconst 0, 1) := by decide +kernel
theorem dX12_bestPay_21 : decode cX12_bestPay 21 = .ok (.lstore 4, 2) := by decide +kernel
theorem dX12_bestPay_23 : decode cX12_bestPay 23 = .ok (.iconst 0, 1) := by decide +kernel
theorem dX12_bestPay_24 : decode cX12_bestPay 24 = .ok (.istore 6, 2) := by decide +kernel
theorem dX12_bestPay_26 : decode cX12_bestPay 26 = .ok (.iload 6, 2) := by decide +kernel
theorem dX12_bestPay_28 : decode cX12_bestPay 28 = .ok (.bipush 100, 2) := by decide +kernel
theorem dX12_bestPay_30 : decode cX12_bestPay 30 = .ok (.if_icmp .ge 72, 3) := by decide +kernel
theorem dX12_bestPay_33 : decode cX12_bestPay 33 = .ok (.aload_n 0, 1) := by decide +kernel
theorem dX12_bestPay_34 : decode cX12_bestPay 34 = .ok (.iload_n 1, 1) := by decide +kernel
theorem dX12_bestPay_35 : decode cX12_bestPay 35 = .ok (.iload 6, 2) := by decide +kernel
theorem dX12_bestPay_37 : decode cX12_bestPay 37 = .ok (.iload_n 2, 1) := by decide +kernel
theorem dX12_bestPay_38 : decode cX12_bestPay 38 = .ok (.invokevirtual 293, 3) := by decide +kernel
theorem dX12_bestPay_41 : decode cX12_bestPay 41 = .ok (.istore 7, 2) := by decide +kernel
theorem dX12_bestPay_43 : decode cX12_bestPay 43 = .ok (.iload 7, 2) := by decide +kernel
theorem dX12_bestPay_45 : decode cX12_bestPay 45 = .ok (.ifCond .ge 7, 3) := by decide +kernel
theorem dX12_bestPay_48 : decode cX12_bestPay 48 = .ok (.lconst 0, 1) := by decide +kernel
theorem dX12_bestPay_49 : decode cX12_bestPay 49 = .ok (.goto 21, 3) := by decide +kernel
theorem dX12_bestPay_52 : decode cX12_bestPay 52 = .ok (.aload_n 0, 1) := by decide +kernel
theorem dX12_bestPay_53 : decode cX12_bestPay 53 = .ok (.iload_n 1, 1) := by decide +kernel
theorem dX12_bestPay_54 : decode cX12_bestPay 54 = .ok (.iload 7, 2) := by decide +kernel
theorem dX12_bestPay_56 : decode cX12_bestPay 56 = .ok (.iconst 1, 1) := by decide +kernel
theorem dX12_bestPay_57 : decode cX12_bestPay 57 = .ok (.invokevirtual 281, 3) := by decide +kernel
theorem dX12_bestPay_60 : decode cX12_bestPay 60 = .ok (.aload_n 0, 1) := by decide +kernel
theorem dX12_bestPay_61 : decode cX12_bestPay 61 = .ok (.iload_n 1, 1) := by decide +kernel
theorem dX12_bestPay_62 : decode cX12_bestPay 62 = .ok (.iload 7, 2) := by decide +kernel
theorem dX12_bestPay_64 : decode cX12_bestPay 64 = .ok (.iload 6, 2) := by decide +kernel
theorem dX12_bestPay_66 : decode cX12_bestPay 66 = .ok (.invokevirtual 287, 3) := by decide +kernel
theorem dX12_bestPay_69 : decode cX12_bestPay 69 = .ok (.lsub, 1) := by decide +kernel
theorem dX12_bestPay_70 : decode cX12_bestPay 70 = .ok (.lstore 8, 2) := by decide +kernel
theorem dX12_bestPay_72 : decode cX12_bestPay 72 = .ok (.iload 7, 2) := by decide +kernel
theorem dX12_bestPay_74 : decode cX12_bestPay 74 = .ok (.ifCond .lt 22, 3) := by decide +kernel
theorem dX12_bestPay_77 : decode cX12_bestPay 77 = .ok (.iload_n 3, 1) := by decide +kernel
theorem dX12_bestPay_78 : decode cX12_bestPay 78 = .ok (.ifCond .lt 11, 3) := by decide +kernel
theorem dX12_bestPay_81 : decode cX12_bestPay 81 = .ok (.lload 8, 2) := by decide +kernel
theorem dX12_bestPay_83 : decode cX12_bestPay 83 = .ok (.lload 4, 2) := by decide +kernel
theorem dX12_bestPay_85 : decode cX12_bestPay 85 = .ok (.lcmp, 1) := by decide +kernel
theorem dX12_bestPay_86 : decode cX12_bestPay 86 = .ok (.ifCond .le 10, 3) := by decide +kernel
theorem dX12_bestPay_89 : decode cX12_bestPay 89 = .ok (.iload 6, 2) := by decide +kernel
theorem dX12_bestPay_91 : decode cX12_bestPay 91 = .ok (.istore_n 3, 1) := by decide +kernel
theorem dX12_bestPay_92 : decode cX12_bestPay 92 = .ok (.lload 8, 2) := by decide +kernel
theorem dX12_bestPay_94 : decode cX12_bestPay 94 = .ok (.lstore 4, 2) := by decide +kernel
theorem dX12_bestPay_96 : decode cX12_bestPay 96 = .ok (.iinc 6 1, 3) := by decide +kernel
theorem dX12_bestPay_99 : decode cX12_bestPay 99 = .ok (.goto (-73), 3) := by decide +kernel
theorem dX12_bestPay_102 : decode cX12_bestPay 102 = .ok (.iload_n 3, 1) := by decide +kernel
theorem dX12_bestPay_103 : decode cX12_bestPay 103 = .ok (.ireturn, 1) := by decide +kernel
set_option maxRecDepth 20000 in
theorem ggX12_log_X12_isState : GoodIn wsX12_log wsX12_isState := goodIn_r _ [8, 9, 10, 11, 12, 7, 13, 14, 15, 16, 17, 18, 19, 20, 21, 22, 38, 39, 40, 41, 42, 43, 44, 45, 46, 47, 48, 49, 50, 51, 52, 53, 54, 55, 56, 57, 58, 59, 60, 61, 62, 63, 64, 65, 66, 67, 68] (by decide +kernel) (by decide +kernel)
set_option maxRecDepth 20000 in
theorem gX12_log_X12_isState : GoodIn wsX12_log (wsV RX12 227 RX12 yX12_isState wsX12_isState) := goodIn_app (goodIn_of _ (by decide +kernel)) ggX12_log_X12_isState
set_option maxRecDepth 20000 in
theorem ggX12_log_X12_in : GoodIn wsX12_log wsX12_in := goodIn_r _ [17] (by decide +kernel) (by decide +kernel)
set_option maxRecDepth 20000 in
theorem gX12_log_X12_in : GoodIn wsX12_log (va_wsS RX12 101 yX12_in wsX12_in) := goodIn_app (goodIn_of _ (by decide +kernel)) ggX12_log_X12_in
set_option maxRecDepth 20000 in
theorem ggX12_log_X12_can : GoodIn wsX12_log wsX12_can := goodIn_r _ [26, 27, 28, 29, 7, 30, 31, 15, 16, 17, 32, 33, 34, 35, 36, 37, 38, 39, 40, 41, 42, 43, 44, 45, 46, 47, 48, 49, 50, 51, 52, 53, 54, 55, 56, 57, 58, 59, 60, 61, 62, 63, 64, 65, 66, 67, 68] (by decide +kernel) (by decide +kernel)
set_option maxRecDepth 20000 in
theorem gX12_log_X12_can : GoodIn wsX12_log (wsV RX12 202 RX12 yX12_can wsX12_can) := goodIn_app (goodIn_of _ (by decide +kernel)) ggX12_log_X12_can
theorem dX12_log_0 : decode cX12_log 0 = .ok (.aload_n 0, 1) := by decide +kernel
theorem dX12_log_1 : decode cX12_log 1 = .ok (.iload_n 1, 1) := by decide +kernel
theorem dX12_log_2 : decode cX12_log 2 = .ok (.iload_n 2, 1) := by decide +kernel
theorem dX12_log_3 : decode cX12_log 3 = .ok (.iload_n 3, 1) := by decide +kernel
theorem dX12_log_4 : decode cX12_log 4 = .ok (.invokevirtual 227, 3) := by decide +kernel
theorem dX12_log_7 : decode cX12_log 7 = .ok (.ifCond .eq 28, 3) := by decide +kernel
theorem dX12_log_10 : decode cX12_log 10 = .ok (.iload 4, 2) := by decide +kernel
theorem dX12_log_12 : decode cX12_log 12 = .ok (.i2l, 1) := by decide +kernel
theorem dX12_log_13 : decode cX12_log 13 = .ok (.lconst 0, 1) := by decide +kernel
theorem dX12_log_14 : decode cX12_log 14 = .ok (.ldc2_w 298, 3) := by decide +kernel
theorem dX12_log_17 : decode cX12_log 17 = .ok (.invokestatic 101, 3) := by decide +kernel
theorem dX12_log_20 : decode cX12_log 20 = .ok (.ifCond .eq 15, 3) := by decide +kernel
theorem dX12_log_23 : decode cX12_log 23 = .ok (.aload_n 0, 1) := by decide +kernel
theorem dX12_log_24 : decode cX12_log 24 = .ok (.iload_n 1, 1) := by decide +kernel
theorem dX12_log_25 : decode cX12_log 25 = .ok (.iload_n 2, 1) := by decide +kernel
theorem dX12_log_26 : decode cX12_log 26 = .ok (.iload_n 3, 1) := by decide +kernel
theorem dX12_log_27 : decode cX12_log 27 = .ok (.iload 4, 2) := by decide +kernel
theorem dX12_log_29 : decode cX12_log 29 = .ok (.invokevirtual 202, 3) := by decide +kernel
theorem dX12_log_32 : decode cX12_log 32 = .ok (.ifCond .ne 5, 3) := by decide +kernel
theorem dX12_log_35 : decode cX12_log 35 = .ok (.iconst (-1), 1) := by decide +kernel
theorem dX12_log_36 : decode cX12_log 36 = .ok (.ireturn, 1) := by decide +kernel
theorem dX12_log_37 : decode cX12_log 37 = .ok (.aload_n 0, 1) := by decide +kernel
theorem dX12_log_38 : decode cX12_log 38 = .ok (.getfield 47, 3) := by decide +kernel
theorem dX12_log_41 : decode cX12_log 41 = .ok (.iconst 0, 1) := by decide +kernel
theorem dX12_log_42 : decode cX12_log 42 = .ok (.iaload, 1) := by decide +kernel
theorem dX12_log_43 : decode cX12_log 43 = .ok (.bipush 20, 2) := by decide +kernel
theorem dX12_log_45 : decode cX12_log 45 = .ok (.if_icmp .ne 6, 3) := by decide +kernel
theorem dX12_log_48 : decode cX12_log 48 = .ok (.bipush (-3), 2) := by decide +kernel
theorem dX12_log_50 : decode cX12_log 50 = .ok (.ireturn, 1) := by decide +kernel
theorem dX12_log_51 : decode cX12_log 51 = .ok (.aload_n 0, 1) := by decide +kernel
theorem dX12_log_52 : decode cX12_log 52 = .ok (.getfield 50, 3) := by decide +kernel
theorem dX12_log_55 : decode cX12_log 55 = .ok (.iconst 2, 1) := by decide +kernel
theorem dX12_log_56 : decode cX12_log 56 = .ok (.aload_n 0, 1) := by decide +kernel
theorem dX12_log_57 : decode cX12_log 57 = .ok (.getfield 47, 3) := by decide +kernel
theorem dX12_log_60 : decode cX12_log 60 = .ok (.iconst 0, 1) := by decide +kernel
theorem dX12_log_61 : decode cX12_log 61 = .ok (.iaload, 1) := by decide +kernel
theorem dX12_log_62 : decode cX12_log 62 = .ok (.imul, 1) := by decide +kernel
theorem dX12_log_63 : decode cX12_log 63 = .ok (.iload_n 3, 1) := by decide +kernel
theorem dX12_log_64 : decode cX12_log 64 = .ok (.iastore, 1) := by decide +kernel
theorem dX12_log_65 : decode cX12_log 65 = .ok (.aload_n 0, 1) := by decide +kernel
theorem dX12_log_66 : decode cX12_log 66 = .ok (.getfield 50, 3) := by decide +kernel
theorem dX12_log_69 : decode cX12_log 69 = .ok (.iconst 2, 1) := by decide +kernel
theorem dX12_log_70 : decode cX12_log 70 = .ok (.aload_n 0, 1) := by decide +kernel
theorem dX12_log_71 : decode cX12_log 71 = .ok (.getfield 47, 3) := by decide +kernel
theorem dX12_log_74 : decode cX12_log 74 = .ok (.iconst 0, 1) := by decide +kernel
theorem dX12_log_75 : decode cX12_log 75 = .ok (.iaload, 1) := by decide +kernel
theorem dX12_log_76 : decode cX12_log 76 = .ok (.imul, 1) := by decide +kernel
theorem dX12_log_77 : decode cX12_log 77 = .ok (.iconst 1, 1) := by decide +kernel
theorem dX12_log_78 : decode cX12_log 78 = .ok (.iadd, 1) := by decide +kernel
theorem dX12_log_79 : decode cX12_log 79 = .ok (.iload 4, 2) := by decide +kernel
theorem dX12_log_81 : decode cX12_log 81 = .ok (.bipush 8, 2) := by decide +kernel
theorem dX12_log_83 : decode cX12_log 83 = .ok (.idiv, 1) := by decide +kernel
theorem dX12_log_84 : decode cX12_log 84 = .ok (.iastore, 1) := by decide +kernel
theorem dX12_log_85 : decode cX12_log 85 = .ok (.aload_n 0, 1) := by decide +kernel
theorem dX12_log_86 : decode cX12_log 86 = .ok (.getfield 47, 3) := by decide +kernel
theorem dX12_log_89 : decode cX12_log 89 = .ok (.iconst 0, 1) := by decide +kernel
theorem dX12_log_90 : decode cX12_log 90 = .ok (.dup2, 1) := by decide +kernel
theorem dX12_log_91 : decode cX12_log 91 = .ok (.iaload, 1) := by decide +kernel
theorem dX12_log_92 : decode cX12_log 92 = .ok (.iconst 1, 1) := by decide +kernel
theorem dX12_log_93 : decode cX12_log 93 = .ok (.iadd, 1) := by decide +kernel
theorem dX12_log_94 : decode cX12_log 94 = .ok (.iastore, 1) := by decide +kernel
