theorem dX12_log_95 : decode cX12_log 95 = .ok (.aload_n 0, 1) := by decide +kernel
theorem dX12_log_96 : decode cX12_log 96 = .ok (.getfield 47, 3) := by decide +kernel
theorem dX12_log_99 : decode cX12_log 99 = .ok (.iconst 0, 1) := by decide +kernel
theorem dX12_log_100 : decode cX12_log 100 = .ok (.iaload, 1) := by decide +kernel
theorem dX12_log_101 : decode cX12_log 101 = .ok (.ireturn, 1) := by decide +kernel
theorem dX12_noLog_0 : decode cX12_noLog 0 = .ok (.aload_n 0, 1) := by decide +kernel
theorem dX12_noLog_1 : decode cX12_noLog 1 = .ok (.getfield 47, 3) := by decide +kernel
theorem dX12_noLog_4 : decode cX12_noLog 4 = .ok (.iconst 0, 1) := by decide +kernel
theorem dX12_noLog_5 : decode cX12_noLog 5 = .ok (.iaload, 1) := by decide +kernel
theorem dX12_noLog_6 : decode cX12_noLog 6 = .ok (.istore_n 1, 1) := by decide +kernel
theorem dX12_noLog_7 : decode cX12_noLog 7 = .ok (.aload_n 0, 1) := by decide +kernel
theorem dX12_noLog_8 : decode cX12_noLog 8 = .ok (.getfield 47, 3) := by decide +kernel
theorem dX12_noLog_11 : decode cX12_noLog 11 = .ok (.iconst 0, 1) := by decide +kernel
theorem dX12_noLog_12 : decode cX12_noLog 12 = .ok (.iconst 0, 1) := by decide +kernel
theorem dX12_noLog_13 : decode cX12_noLog 13 = .ok (.iastore, 1) := by decide +kernel
theorem dX12_noLog_14 : decode cX12_noLog 14 = .ok (.iload_n 1, 1) := by decide +kernel
theorem dX12_noLog_15 : decode cX12_noLog 15 = .ok (.ireturn, 1) := by decide +kernel
theorem dX12_offOf_0 : decode cX12_offOf 0 = .ok (.iconst 0, 1) := by decide +kernel
theorem dX12_offOf_1 : decode cX12_offOf 1 = .ok (.istore 4, 2) := by decide +kernel
theorem dX12_offOf_3 : decode cX12_offOf 3 = .ok (.iconst 0, 1) := by decide +kernel
theorem dX12_offOf_4 : decode cX12_offOf 4 = .ok (.istore 5, 2) := by decide +kernel
theorem dX12_offOf_6 : decode cX12_offOf 6 = .ok (.iload 5, 2) := by decide +kernel
theorem dX12_offOf_8 : decode cX12_offOf 8 = .ok (.aload_n 0, 1) := by decide +kernel
theorem dX12_offOf_9 : decode cX12_offOf 9 = .ok (.getfield 47, 3) := by decide +kernel
theorem dX12_offOf_12 : decode cX12_offOf 12 = .ok (.iconst 0, 1) := by decide +kernel
theorem dX12_offOf_13 : decode cX12_offOf 13 = .ok (.iaload, 1) := by decide +kernel
theorem dX12_offOf_14 : decode cX12_offOf 14 = .ok (.if_icmp .ge 51, 3) := by decide +kernel
theorem dX12_offOf_17 : decode cX12_offOf 17 = .ok (.iload 4, 2) := by decide +kernel
theorem dX12_offOf_19 : decode cX12_offOf 19 = .ok (.aload_n 0, 1) := by decide +kernel
theorem dX12_offOf_20 : decode cX12_offOf 20 = .ok (.getfield 50, 3) := by decide +kernel
theorem dX12_offOf_23 : decode cX12_offOf 23 = .ok (.iconst 2, 1) := by decide +kernel
theorem dX12_offOf_24 : decode cX12_offOf 24 = .ok (.iload 5, 2) := by decide +kernel
theorem dX12_offOf_26 : decode cX12_offOf 26 = .ok (.imul, 1) := by decide +kernel
theorem dX12_offOf_27 : decode cX12_offOf 27 = .ok (.iconst 1, 1) := by decide +kernel
theorem dX12_offOf_28 : decode cX12_offOf 28 = .ok (.iadd, 1) := by decide +kernel
theorem dX12_offOf_29 : decode cX12_offOf 29 = .ok (.iaload, 1) := by decide +kernel
theorem dX12_offOf_30 : decode cX12_offOf 30 = .ok (.aload_n 0, 1) := by decide +kernel
theorem dX12_offOf_31 : decode cX12_offOf 31 = .ok (.getfield 50, 3) := by decide +kernel
theorem dX12_offOf_34 : decode cX12_offOf 34 = .ok (.iconst 2, 1) := by decide +kernel
theorem dX12_offOf_35 : decode cX12_offOf 35 = .ok (.iload 5, 2) := by decide +kernel
theorem dX12_offOf_37 : decode cX12_offOf 37 = .ok (.imul, 1) := by decide +kernel
theorem dX12_offOf_38 : decode cX12_offOf 38 = .ok (.iaload, 1) := by decide +kernel
theorem dX12_offOf_39 : decode cX12_offOf 39 = .ok (.iload_n 2, 1) := by decide +kernel
theorem dX12_offOf_40 : decode cX12_offOf 40 = .ok (.if_icmp .ge 7, 3) := by decide +kernel
theorem dX12_offOf_43 : decode cX12_offOf 43 = .ok (.iload_n 1, 1) := by decide +kernel
theorem dX12_offOf_44 : decode cX12_offOf 44 = .ok (.goto 4, 3) := by decide +kernel
theorem dX12_offOf_47 : decode cX12_offOf 47 = .ok (.iload_n 3, 1) := by decide +kernel
theorem dX12_offOf_48 : decode cX12_offOf 48 = .ok (.if_icmp .eq 7, 3) := by decide +kernel
theorem dX12_offOf_51 : decode cX12_offOf 51 = .ok (.iconst 1, 1) := by decide +kernel
theorem dX12_offOf_52 : decode cX12_offOf 52 = .ok (.goto 4, 3) := by decide +kernel
theorem dX12_offOf_55 : decode cX12_offOf 55 = .ok (.iconst 0, 1) := by decide +kernel
theorem dX12_offOf_56 : decode cX12_offOf 56 = .ok (.iadd, 1) := by decide +kernel
theorem dX12_offOf_57 : decode cX12_offOf 57 = .ok (.istore 4, 2) := by decide +kernel
theorem dX12_offOf_59 : decode cX12_offOf 59 = .ok (.iinc 5 1, 3) := by decide +kernel
theorem dX12_offOf_62 : decode cX12_offOf 62 = .ok (.goto (-56), 3) := by decide +kernel
theorem dX12_offOf_65 : decode cX12_offOf 65 = .ok (.iload 4, 2) := by decide +kernel
theorem dX12_offOf_67 : decode cX12_offOf 67 = .ok (.ireturn, 1) := by decide +kernel
set_option maxRecDepth 20000 in
theorem ggX12_off_X12_isSpeed : GoodIn wsX12_off wsX12_isSpeed := goodIn_r _ [6, 7, 8, 9, 5, 10, 17, 18, 19, 20, 21, 22, 23, 24, 25, 26, 27, 28, 29, 30, 31, 32, 33, 34, 35, 36, 37, 38, 39, 40, 41, 42, 43, 44, 45, 46, 47] (by decide +kernel) (by decide +kernel)
set_option maxRecDepth 20000 in
theorem gX12_off_X12_isSpeed : GoodIn wsX12_off (wsV RX12 145 RX12 yX12_isSpeed wsX12_isSpeed) := goodIn_app (goodIn_of _ (by decide +kernel)) ggX12_off_X12_isSpeed
set_option maxRecDepth 20000 in
theorem ggX12_off_X12_in : GoodIn wsX12_off wsX12_in := goodIn_r _ [10] (by decide +kernel) (by decide +kernel)
set_option maxRecDepth 20000 in
theorem gX12_off_X12_in : GoodIn wsX12_off (va_wsS RX12 101 yX12_in wsX12_in) := goodIn_app (goodIn_of _ (by decide +kernel)) ggX12_off_X12_in
set_option maxRecDepth 20000 in
theorem ggX12_off_X12_offOf : GoodIn wsX12_off wsX12_offOf := goodIn_r _ [14, 15, 16, 17, 18, 19, 20, 21, 22, 23, 24, 25, 26, 27, 28, 29, 30, 31, 32, 33, 34, 35, 36, 37, 38, 39, 40, 41, 42, 43, 44, 45, 46, 47] (by decide +kernel) (by decide +kernel)
set_option maxRecDepth 20000 in
theorem gX12_off_X12_offOf : GoodIn wsX12_off (wsV RX12 300 RX12 yX12_offOf wsX12_offOf) := goodIn_app (goodIn_of _ (by decide +kernel)) ggX12_off_X12_offOf
theorem dX12_off_0 : decode cX12_off 0 = .ok (.aload_n 0, 1) := by decide +kernel
theorem dX12_off_1 : decode cX12_off 1 = .ok (.iload_n 1, 1) := by decide +kernel
theorem dX12_off_2 : decode cX12_off 2 = .ok (.invokevirtual 145, 3) := by decide +kernel
theorem dX12_off_5 : decode cX12_off 5 = .ok (.ifCond .eq 33, 3) := by decide +kernel
theorem dX12_off_8 : decode cX12_off 8 = .ok (.aload_n 0, 1) := by decide +kernel
theorem dX12_off_9 : decode cX12_off 9 = .ok (.iload_n 3, 1) := by decide +kernel
theorem dX12_off_10 : decode cX12_off 10 = .ok (.invokevirtual 145, 3) := by decide +kernel
theorem dX12_off_13 : decode cX12_off 13 = .ok (.ifCond .eq 25, 3) := by decide +kernel
theorem dX12_off_16 : decode cX12_off 16 = .ok (.iload_n 2, 1) := by decide +kernel
theorem dX12_off_17 : decode cX12_off 17 = .ok (.i2l, 1) := by decide +kernel
theorem dX12_off_18 : decode cX12_off 18 = .ok (.lconst 0, 1) := by decide +kernel
theorem dX12_off_19 : decode cX12_off 19 = .ok (.ldc2_w 164, 3) := by decide +kernel
theorem dX12_off_22 : decode cX12_off 22 = .ok (.invokestatic 101, 3) := by decide +kernel
theorem dX12_off_25 : decode cX12_off 25 = .ok (.ifCond .eq 13, 3) := by decide +kernel
theorem dX12_off_28 : decode cX12_off 28 = .ok (.aload_n 0, 1) := by decide +kernel
theorem dX12_off_29 : decode cX12_off 29 = .ok (.iload_n 1, 1) := by decide +kernel
theorem dX12_off_30 : decode cX12_off 30 = .ok (.iload_n 2, 1) := by decide +kernel
theorem dX12_off_31 : decode cX12_off 31 = .ok (.iload_n 3, 1) := by decide +kernel
theorem dX12_off_32 : decode cX12_off 32 = .ok (.invokevirtual 300, 3) := by decide +kernel
theorem dX12_off_35 : decode cX12_off 35 = .ok (.goto 4, 3) := by decide +kernel
theorem dX12_off_38 : decode cX12_off 38 = .ok (.iconst (-1), 1) := by decide +kernel
theorem dX12_off_39 : decode cX12_off 39 = .ok (.ireturn, 1) := by decide +kernel
set_option maxRecDepth 20000 in
theorem ggX12_plainest_X12_in : GoodIn wsX12_plainest wsX12_in := goodIn_r _ [7] (by decide +kernel) (by decide +kernel)
set_option maxRecDepth 20000 in
theorem gX12_plainest_X12_in : GoodIn wsX12_plainest (va_wsS RX12 101 yX12_in wsX12_in) := goodIn_app (goodIn_of _ (by decide +kernel)) ggX12_plainest_X12_in
set_option maxRecDepth 20000 in
theorem ggX12_plainest_X12_offOf : GoodIn wsX12_plainest wsX12_offOf := goodIn_r _ [11, 12, 13, 14, 15, 16, 17, 18, 19, 20, 21, 22, 23, 24, 25, 26, 27, 28, 29, 30, 31, 32, 33, 34, 35, 36, 37, 38, 39, 40, 41, 42, 43, 44] (by decide +kernel) (by decide +kernel)
set_option maxRecDepth 20000 in
theorem gX12_plainest_X12_offOf : GoodIn wsX12_plainest (wsV RX12 300 RX12 yX12_offOf wsX12_offOf) := goodIn_app (goodIn_of _ (by decide +kernel)) ggX12_plainest_X12_offOf
theorem dX12_plainest_0 : decode cX12_plainest 0 = .ok (.iload_n 1, 1) := by decide +kernel
theorem dX12_plainest_1 : decode cX12_plainest 1 = .ok (.i2l, 1) := by decide +kernel
theorem dX12_plainest_2 : decode cX12_plainest 2 = .ok (.lconst 0, 1) := by decide +kernel
theorem dX12_plainest_3 : decode cX12_plainest 3 = .ok (.ldc2_w 115, 3) := by decide +kernel
theorem dX12_plainest_6 : decode cX12_plainest 6 = .ok (.invokestatic 101, 3) := by decide +kernel
theorem dX12_plainest_9 : decode cX12_plainest 9 = .ok (.ifCond .ne 5, 3) := by decide +kernel
theorem dX12_plainest_12 : decode cX12_plainest 12 = .ok (.iconst (-1), 1) := by decide +kernel
theorem dX12_plainest_13 : decode cX12_plainest 13 = .ok (.ireturn, 1) := by decide +kernel
theorem dX12_plainest_14 : decode cX12_plainest 14 = .ok (.iconst 0, 1) := by decide +kernel
theorem dX12_plainest_15 : decode cX12_plainest 15 = .ok (.istore_n 2, 1) := by decide +kernel
theorem dX12_plainest_16 : decode cX12_plainest 16 = .ok (.iconst 0, 1) := by decide +kernel
theorem dX12_plainest_17 : decode cX12_plainest 17 = .ok (.istore_n 3, 1) := by decide +kernel
theorem dX12_plainest_18 : decode cX12_plainest 18 = .ok (.iconst 0, 1) := by decide +kernel
theorem dX12_plainest_19 : decode cX12_plainest 19 = .ok (.istore 4, 2) := by decide +kernel
theorem dX12_plainest_21 : decode cX12_plainest 21 = .ok (.ldc 254, 2) := by decide +kernel
theorem dX12_plainest_23 : decode cX12_plainest 23 = .ok (.istore 5, 2) := by decide +kernel
theorem dX12_plainest_25 : decode cX12_plainest 25 = .ok (.iconst 0, 1) := by decide +kernel
theorem dX12_plainest_26 : decode cX12_plainest 26 = .ok (.istore 6, 2) := by decide +kernel
theorem dX12_plainest_28 : decode cX12_plainest 28 = .ok (.iload 6, 2) := by decide +kernel
theorem dX12_plainest_30 : decode cX12_plainest 30 = .ok (.aload_n 0, 1) := by decide +kernel
theorem dX12_plainest_31 : decode cX12_plainest 31 = .ok (.getfield 17, 3) := by decide +kernel
theorem dX12_plainest_34 : decode cX12_plainest 34 = .ok (.iconst 0, 1) := by decide +kernel
theorem dX12_plainest_35 : decode cX12_plainest 35 = .ok (.iaload, 1) := by decide +kernel
theorem dX12_plainest_36 : decode cX12_plainest 36 = .ok (.if_icmp .ge 41, 3) := by decide +kernel
theorem dX12_plainest_39 : decode cX12_plainest 39 = .ok (.aload_n 0, 1) := by decide +kernel
theorem dX12_plainest_40 : decode cX12_plainest 40 = .ok (.iload 6, 2) := by decide +kernel
theorem dX12_plainest_42 : decode cX12_plainest 42 = .ok (.iconst 0, 1) := by decide +kernel
theorem dX12_plainest_43 : decode cX12_plainest 43 = .ok (.iload 6, 2) := by decide +kernel
theorem dX12_plainest_45 : decode cX12_plainest 45 = .ok (.invokevirtual 300, 3) := by decide +kernel
theorem dX12_plainest_48 : decode cX12_plainest 48 = .ok (.iload 5, 2) := by decide +kernel
theorem dX12_plainest_50 : decode cX12_plainest 50 = .ok (.if_icmp .ge 21, 3) := by decide +kernel
theorem dX12_plainest_53 : decode cX12_plainest 53 = .ok (.aload_n 0, 1) := by decide +kernel
theorem dX12_plainest_54 : decode cX12_plainest 54 = .ok (.iload 6, 2) := by decide +kernel
theorem dX12_plainest_56 : decode cX12_plainest 56 = .ok (.iconst 0, 1) := by decide +kernel
theorem dX12_plainest_57 : decode cX12_plainest 57 = .ok (.iload 6, 2) := by decide +kernel
theorem dX12_plainest_59 : decode cX12_plainest 59 = .ok (.invokevirtual 300, 3) := by decide +kernel
theorem dX12_plainest_62 : decode cX12_plainest 62 = .ok (.istore 5, 2) := by decide +kernel
theorem dX12_plainest_64 : decode cX12_plainest 64 = .ok (.iload 6, 2) := by decide +kernel
theorem dX12_plainest_66 : decode cX12_plainest 66 = .ok (.istore_n 2, 1) := by decide +kernel
theorem dX12_plainest_67 : decode cX12_plainest 67 = .ok (.iload 6, 2) := by decide +kernel
theorem dX12_plainest_69 : decode cX12_plainest 69 = .ok (.istore 4, 2) := by decide +kernel
theorem dX12_plainest_71 : decode cX12_plainest 71 = .ok (.iinc 6 1, 3) := by decide +kernel
theorem dX12_plainest_74 : decode cX12_plainest 74 = .ok (.goto (-46), 3) := by decide +kernel
theorem dX12_plainest_77 : decode cX12_plainest 77 = .ok (.iconst 0, 1) := by decide +kernel
theorem dX12_plainest_78 : decode cX12_plainest 78 = .ok (.istore 6, 2) := by decide +kernel
theorem dX12_plainest_80 : decode cX12_plainest 80 = .ok (.iload 6, 2) := by decide +kernel
theorem dX12_plainest_82 : decode cX12_plainest 82 = .ok (.aload_n 0, 1) := by decide +kernel
theorem dX12_plainest_83 : decode cX12_plainest 83 = .ok (.getfield 17, 3) := by decide +kernel
theorem dX12_plainest_86 : decode cX12_plainest 86 = .ok (.iconst 0, 1) := by decide +kernel
theorem dX12_plainest_87 : decode cX12_plainest 87 = .ok (.iaload, 1) := by decide +kernel
theorem dX12_plainest_88 : decode cX12_plainest 88 = .ok (.if_icmp .ge 89, 3) := by decide +kernel
theorem dX12_plainest_91 : decode cX12_plainest 91 = .ok (.iconst 0, 1) := by decide +kernel
theorem dX12_plainest_92 : decode cX12_plainest 92 = .ok (.istore 7, 2) := by decide +kernel
theorem dX12_plainest_94 : decode cX12_plainest 94 = .ok (.iload 7, 2) := by decide +kernel
theorem dX12_plainest_96 : decode cX12_plainest 96 = .ok (.bipush 100, 2) := by decide +kernel
theorem dX12_plainest_98 : decode cX12_plainest 98 = .ok (.if_icmp .gt 73, 3) := by decide +kernel
theorem dX12_plainest_101 : decode cX12_plainest 101 = .ok (.iconst 0, 1) := by decide +kernel
theorem dX12_plainest_102 : decode cX12_plainest 102 = .ok (.istore 8, 2) := by decide +kernel
theorem dX12_plainest_104 : decode cX12_plainest 104 = .ok (.iload 8, 2) := by decide +kernel
theorem dX12_plainest_106 : decode cX12_plainest 106 = .ok (.aload_n 0, 1) := by decide +kernel
theorem dX12_plainest_107 : decode cX12_plainest 107 = .ok (.getfield 17, 3) := by decide +kernel
theorem dX12_plainest_110 : decode cX12_plainest 110 = .ok (.iconst 0, 1) := by decide +kernel
theorem dX12_plainest_111 : decode cX12_plainest 111 = .ok (.iaload, 1) := by decide +kernel
theorem dX12_plainest_112 : decode cX12_plainest 112 = .ok (.if_icmp .ge 53, 3) := by decide +kernel
theorem dX12_plainest_115 : decode cX12_plainest 115 = .ok (.iload 6, 2) := by decide +kernel
theorem dX12_plainest_117 : decode cX12_plainest 117 = .ok (.iload 8, 2) := by decide +kernel
theorem dX12_plainest_119 : decode cX12_plainest 119 = .ok (.if_icmp .eq 40, 3) := by decide +kernel
theorem dX12_plainest_122 : decode cX12_plainest 122 = .ok (.aload_n 0, 1) := by decide +kernel
theorem dX12_plainest_123 : decode cX12_plainest 123 = .ok (.iload 6, 2) := by decide +kernel
theorem dX12_plainest_125 : decode cX12_plainest 125 = .ok (.iload 7, 2) := by decide +kernel
theorem dX12_plainest_127 : decode cX12_plainest 127 = .ok (.iload 8, 2) := by decide +kernel
theorem dX12_plainest_129 : decode cX12_plainest 129 = .ok (.invokevirtual 300, 3) := by decide +kernel
theorem dX12_plainest_132 : decode cX12_plainest 132 = .ok (.iload 5, 2) := by decide +kernel
theorem dX12_plainest_134 : decode cX12_plainest 134 = .ok (.if_icmp .ge 25, 3) := by decide +kernel
theorem dX12_plainest_137 : decode cX12_plainest 137 = .ok (.aload_n 0, 1) := by decide +kernel
theorem dX12_plainest_138 : decode cX12_plainest 138 = .ok (.iload 6, 2) := by decide +kernel
theorem dX12_plainest_140 : decode cX12_plainest 140 = .ok (.iload 7, 2) := by decide +kernel
theorem dX12_plainest_142 : decode cX12_plainest 142 = .ok (.iload 8, 2) := by decide +kernel
theorem dX12_plainest_144 : decode cX12_plainest 144 = .ok (.invokevirtual 300, 3) := by decide +kernel
theorem dX12_plainest_147 : decode cX12_plainest 147 = .ok (.istore 5, 2) := by decide +kernel
theorem dX12_plainest_149 : decode cX12_plainest 149 = .ok (.iload 6, 2) := by decide +kernel
theorem dX12_plainest_151 : decode cX12_plainest 151 = .ok (.istore_n 2, 1) := by decide +kernel
theorem dX12_plainest_152 : decode cX12_plainest 152 = .ok (.iload 7, 2) := by decide +kernel
theorem dX12_plainest_154 : decode cX12_plainest 154 = .ok (.istore_n 3, 1) := by decide +kernel
theorem dX12_plainest_155 : decode cX12_plainest 155 = .ok (.iload 8, 2) := by decide +kernel
theorem dX12_plainest_157 : decode cX12_plainest 157 = .ok (.istore 4, 2) := by decide +kernel
theorem dX12_plainest_159 : decode cX12_plainest 159 = .ok (.iinc 8 1, 3) := by decide +kernel
theorem dX12_plainest_162 : decode cX12_plainest 162 = .ok (.goto (-58), 3) := by decide +kernel
theorem dX12_plainest_165 : decode cX12_plainest 165 = .ok (.iinc 7 1, 3) := by decide +kernel
theorem dX12_plainest_168 : decode cX12_plainest 168 = .ok (.goto (-74), 3) := by decide +kernel
theorem dX12_plainest_171 : decode cX12_plainest 171 = .ok (.iinc 6 1, 3) := by decide +kernel
theorem dX12_plainest_174 : decode cX12_plainest 174 = .ok (.goto (-94), 3) := by decide +kernel
theorem dX12_plainest_177 : decode cX12_plainest 177 = .ok (.iload_n 1, 1) := by decide +kernel
theorem dX12_plainest_178 : decode cX12_plainest 178 = .ok (.ifCond .ne 7, 3) := by decide +kernel
theorem dX12_plainest_181 : decode cX12_plainest 181 = .ok (.iload_n 2, 1) := by decide +kernel
theorem dX12_plainest_182 : decode cX12_plainest 182 = .ok (.goto 24, 3) := by decide +kernel
theorem dX12_plainest_185 : decode cX12_plainest 185 = .ok (.iload_n 1, 1) := by decide +kernel
theorem dX12_plainest_186 : decode cX12_plainest 186 = .ok (.iconst 1, 1) := by decide +kernel
theorem dX12_plainest_187 : decode cX12_plainest 187 = .ok (.if_icmp .ne 7, 3) := by decide +kernel
theorem dX12_plainest_190 : decode cX12_plainest 190 = .ok (.iload_n 3, 1) := by decide +kernel
theorem dX12_plainest_191 : decode cX12_plainest 191 = .ok (.goto 15, 3) := by decide +kernel
theorem dX12_plainest_194 : decode cX12_plainest 194 = .ok (.iload_n 1, 1) := by decide +kernel
theorem dX12_plainest_195 : decode cX12_plainest 195 = .ok (.iconst 2, 1) := by decide +kernel
theorem dX12_plainest_196 : decode cX12_plainest 196 = .ok (.if_icmp .ne 8, 3) := by decide +kernel
theorem dX12_plainest_199 : decode cX12_plainest 199 = .ok (.iload 4, 2) := by decide +kernel
theorem dX12_plainest_201 : decode cX12_plainest 201 = .ok (.goto 5, 3) := by decide +kernel
theorem dX12_plainest_204 : decode cX12_plainest 204 = .ok (.iload 5, 2) := by decide +kernel
theorem dX12_plainest_206 : decode cX12_plainest 206 = .ok (.ireturn, 1) := by decide +kernel
theorem dX12_draw_0 : decode cX12_draw 0 = .ok (.ldc2_w 303, 3) := by decide +kernel
theorem dX12_draw_3 : decode cX12_draw 3 = .ok (.iload_n 0, 1) := by decide +kernel
theorem dX12_draw_4 : decode cX12_draw 4 = .ok (.i2l, 1) := by decide +kernel
theorem dX12_draw_5 : decode cX12_draw 5 = .ok (.lmul, 1) := by decide +kernel
theorem dX12_draw_6 : decode cX12_draw 6 = .ok (.ldc2_w 305, 3) := by decide +kernel
theorem dX12_draw_9 : decode cX12_draw 9 = .ok (.iload_n 1, 1) := by decide +kernel
theorem dX12_draw_10 : decode cX12_draw 10 = .ok (.i2l, 1) := by decide +kernel
theorem dX12_draw_11 : decode cX12_draw 11 = .ok (.lmul, 1) := by decide +kernel
theorem dX12_draw_12 : decode cX12_draw 12 = .ok (.ladd, 1) := by decide +kernel
theorem dX12_draw_13 : decode cX12_draw 13 = .ok (.lconst 1, 1) := by decide +kernel
theorem dX12_draw_14 : decode cX12_draw 14 = .ok (.ladd, 1) := by decide +kernel
theorem dX12_draw_15 : decode cX12_draw 15 = .ok (.lstore_n 2, 1) := by decide +kernel
theorem dX12_draw_16 : decode cX12_draw 16 = .ok (.lload_n 2, 1) := by decide +kernel
theorem dX12_draw_17 : decode cX12_draw 17 = .ok (.lload_n 2, 1) := by decide +kernel
theorem dX12_draw_18 : decode cX12_draw 18 = .ok (.lmul, 1) := by decide +kernel
theorem dX12_draw_19 : decode cX12_draw 19 = .ok (.ldc2_w 307, 3) := by decide +kernel
theorem dX12_draw_22 : decode cX12_draw 22 = .ok (.lrem, 1) := by decide +kernel
theorem dX12_draw_23 : decode cX12_draw 23 = .ok (.ldc2_w 164, 3) := by decide +kernel
theorem dX12_draw_26 : decode cX12_draw 26 = .ok (.lrem, 1) := by decide +kernel
theorem dX12_draw_27 : decode cX12_draw 27 = .ok (.l2i, 1) := by decide +kernel
theorem dX12_draw_28 : decode cX12_draw 28 = .ok (.ireturn, 1) := by decide +kernel
set_option maxRecDepth 20000 in
theorem ggX12_runs_X12_steps : GoodIn wsX12_runs wsX12_steps := goodIn_r _ [10, 4, 38, 39, 40, 41, 42, 43, 44, 45, 46, 47, 48, 49, 50, 51, 52, 53, 54, 55, 56, 57, 58, 59, 60, 61, 62, 63, 64, 65, 66, 67, 68] (by decide +kernel) (by decide +kernel)
set_option maxRecDepth 20000 in
theorem gX12_runs_X12_steps : GoodIn wsX12_runs (wsV RX12 170 RX12 yX12_steps wsX12_steps) := goodIn_app (goodIn_of _ (by decide +kernel)) ggX12_runs_X12_steps
set_option maxRecDepth 20000 in
theorem ggX12_runs_X12_cell : GoodIn wsX12_runs wsX12_cell := goodIn_r _ [13] (by decide +kernel) (by decide +kernel)
set_option maxRecDepth 20000 in
theorem gX12_runs_X12_cell : GoodIn wsX12_runs (va_wsS RX12 173 yX12_cell wsX12_cell) := goodIn_app (goodIn_of _ (by decide +kernel)) ggX12_runs_X12_cell
set_option maxRecDepth 20000 in
theorem ggX12_runs_X12_wears : GoodIn wsX12_runs wsX12_wears := goodIn_r _ [17, 4, 18, 19, 20, 38, 39, 40, 41, 42, 43, 44, 45, 46, 47, 48, 49, 50, 51, 52, 53, 54, 55, 56, 57, 58, 59, 60, 61, 62, 63, 64, 65, 66, 67, 68] (by decide +kernel) (by decide +kernel)
set_option maxRecDepth 20000 in
theorem gX12_runs_X12_wears : GoodIn wsX12_runs (wsV RX12 156 RX12 yX12_wears wsX12_wears) := goodIn_app (goodIn_of _ (by decide +kernel)) ggX12_runs_X12_wears
set_option maxRecDepth 20000 in
theorem ggX12_runs_X12_draw : GoodIn wsX12_runs wsX12_draw := goodIn_r _ [23, 24, 25, 26, 27] (by decide +kernel) (by decide +kernel)
set_option maxRecDepth 20000 in
theorem gX12_runs_X12_draw : GoodIn wsX12_runs (va_wsS RX12 309 yX12_draw wsX12_draw) := goodIn_app (goodIn_of _ (by decide +kernel)) ggX12_runs_X12_draw
set_option maxRecDepth 20000 in
theorem ggX12_runs_X12_breaksAt : GoodIn wsX12_runs wsX12_breaksAt := goodIn_r _ [31, 32, 33, 38, 39, 40, 41, 42, 43, 44, 45, 46, 47, 48, 49, 50, 51, 52, 53, 54, 55, 56, 57, 58, 59, 60, 61, 62, 63, 64, 65, 66, 67, 68] (by decide +kernel) (by decide +kernel)
set_option maxRecDepth 20000 in
theorem gX12_runs_X12_breaksAt : GoodIn wsX12_runs (wsV RX12 166 RX12 yX12_breaksAt wsX12_breaksAt) := goodIn_app (goodIn_of _ (by decide +kernel)) ggX12_runs_X12_breaksAt
set_option maxRecDepth 20000 in
theorem ggX12_runs_X12_minutes : GoodIn wsX12_runs wsX12_minutes := goodIn_r _ [37, 4, 18, 38, 39, 40, 41, 42, 43, 44, 45, 46, 47, 48, 49, 50, 51, 52, 53, 54, 55, 56, 57, 58, 59, 60, 61, 62, 63, 64, 65, 66, 67, 68] (by decide +kernel) (by decide +kernel)
set_option maxRecDepth 20000 in
theorem gX12_runs_X12_minutes : GoodIn wsX12_runs (wsV RX12 153 RX12 yX12_minutes wsX12_minutes) := goodIn_app (goodIn_of _ (by decide +kernel)) ggX12_runs_X12_minutes
theorem dX12_runs_0 : decode cX12_runs 0 = .ok (.iconst 0, 1) := by decide +kernel
theorem dX12_runs_1 : decode cX12_runs 1 = .ok (.istore_n 3, 1) := by decide +kernel
theorem dX12_runs_2 : decode cX12_runs 2 = .ok (.iload_n 3, 1) := by decide +kernel
theorem dX12_runs_3 : decode cX12_runs 3 = .ok (.iconst 4, 1) := by decide +kernel
theorem dX12_runs_4 : decode cX12_runs 4 = .ok (.if_icmp .ge 16, 3) := by decide +kernel
theorem dX12_runs_7 : decode cX12_runs 7 = .ok (.aload_n 0, 1) := by decide +kernel
theorem dX12_runs_8 : decode cX12_runs 8 = .ok (.getfield 82, 3) := by decide +kernel
theorem dX12_runs_11 : decode cX12_runs 11 = .ok (.iload_n 3, 1) := by decide +kernel
theorem dX12_runs_12 : decode cX12_runs 12 = .ok (.iconst 0, 1) := by decide +kernel
theorem dX12_runs_13 : decode cX12_runs 13 = .ok (.iastore, 1) := by decide +kernel
theorem dX12_runs_14 : decode cX12_runs 14 = .ok (.iinc 3 1, 3) := by decide +kernel
theorem dX12_runs_17 : decode cX12_runs 17 = .ok (.goto (-15), 3) := by decide +kernel
theorem dX12_runs_20 : decode cX12_runs 20 = .ok (.iconst 0, 1) := by decide +kernel
theorem dX12_runs_21 : decode cX12_runs 21 = .ok (.istore_n 3, 1) := by decide +kernel
theorem dX12_runs_22 : decode cX12_runs 22 = .ok (.aload_n 0, 1) := by decide +kernel
theorem dX12_runs_23 : decode cX12_runs 23 = .ok (.iconst 0, 1) := by decide +kernel
theorem dX12_runs_24 : decode cX12_runs 24 = .ok (.invokevirtual 170, 3) := by decide +kernel
theorem dX12_runs_27 : decode cX12_runs 27 = .ok (.istore 4, 2) := by decide +kernel
theorem dX12_runs_29 : decode cX12_runs 29 = .ok (.iconst 0, 1) := by decide +kernel
theorem dX12_runs_30 : decode cX12_runs 30 = .ok (.istore 5, 2) := by decide +kernel
theorem dX12_runs_32 : decode cX12_runs 32 = .ok (.iconst 0, 1) := by decide +kernel
theorem dX12_runs_33 : decode cX12_runs 33 = .ok (.istore 6, 2) := by decide +kernel
theorem dX12_runs_35 : decode cX12_runs 35 = .ok (.iload_n 3, 1) := by decide +kernel
theorem dX12_runs_36 : decode cX12_runs 36 = .ok (.aload_n 0, 1) := by decide +kernel
theorem dX12_runs_37 : decode cX12_runs 37 = .ok (.getfield 23, 3) := by decide +kernel
theorem dX12_runs_40 : decode cX12_runs 40 = .ok (.iconst 0, 1) := by decide +kernel
theorem dX12_runs_41 : decode cX12_runs 41 = .ok (.iaload, 1) := by decide +kernel
theorem dX12_runs_42 : decode cX12_runs 42 = .ok (.if_icmp .ge 312, 3) := by decide +kernel
theorem dX12_runs_45 : decode cX12_runs 45 = .ok (.aload_n 0, 1) := by decide +kernel
theorem dX12_runs_46 : decode cX12_runs 46 = .ok (.getfield 53, 3) := by decide +kernel
theorem dX12_runs_49 : decode cX12_runs 49 = .ok (.iload_n 3, 1) := by decide +kernel
theorem dX12_runs_50 : decode cX12_runs 50 = .ok (.iload 4, 2) := by decide +kernel
theorem dX12_runs_52 : decode cX12_runs 52 = .ok (.iload 5, 2) := by decide +kernel
theorem dX12_runs_54 : decode cX12_runs 54 = .ok (.invokestatic 173, 3) := by decide +kernel
theorem dX12_runs_57 : decode cX12_runs 57 = .ok (.iaload, 1) := by decide +kernel
theorem dX12_runs_58 : decode cX12_runs 58 = .ok (.istore 7, 2) := by decide +kernel
theorem dX12_runs_60 : decode cX12_runs 60 = .ok (.iload 7, 2) := by decide +kernel
theorem dX12_runs_62 : decode cX12_runs 62 = .ok (.bipush 49, 2) := by decide +kernel
theorem dX12_runs_64 : decode cX12_runs 64 = .ok (.if_icmp .ne 7, 3) := by decide +kernel
theorem dX12_runs_67 : decode cX12_runs 67 = .ok (.iconst 1, 1) := by decide +kernel
theorem dX12_runs_68 : decode cX12_runs 68 = .ok (.goto 4, 3) := by decide +kernel
theorem dX12_runs_71 : decode cX12_runs 71 = .ok (.iconst 0, 1) := by decide +kernel
theorem dX12_runs_72 : decode cX12_runs 72 = .ok (.istore 8, 2) := by decide +kernel
theorem dX12_runs_74 : decode cX12_runs 74 = .ok (.iload 7, 2) := by decide +kernel
theorem dX12_runs_76 : decode cX12_runs 76 = .ok (.bipush 48, 2) := by decide +kernel
theorem dX12_runs_78 : decode cX12_runs 78 = .ok (.if_icmp .ne 7, 3) := by decide +kernel
theorem dX12_runs_81 : decode cX12_runs 81 = .ok (.iconst 1, 1) := by decide +kernel
theorem dX12_runs_82 : decode cX12_runs 82 = .ok (.goto 4, 3) := by decide +kernel
theorem dX12_runs_85 : decode cX12_runs 85 = .ok (.iconst 0, 1) := by decide +kernel
theorem dX12_runs_86 : decode cX12_runs 86 = .ok (.istore 9, 2) := by decide +kernel
theorem dX12_runs_88 : decode cX12_runs 88 = .ok (.iload 8, 2) := by decide +kernel
theorem dX12_runs_90 : decode cX12_runs 90 = .ok (.ifCond .eq 7, 3) := by decide +kernel
theorem dX12_runs_93 : decode cX12_runs 93 = .ok (.iconst 1, 1) := by decide +kernel
theorem dX12_runs_94 : decode cX12_runs 94 = .ok (.goto 4, 3) := by decide +kernel
theorem dX12_runs_97 : decode cX12_runs 97 = .ok (.iconst 0, 1) := by decide +kernel
theorem dX12_runs_98 : decode cX12_runs 98 = .ok (.istore 10, 2) := by decide +kernel
theorem dX12_runs_100 : decode cX12_runs 100 = .ok (.iload 7, 2) := by decide +kernel
theorem dX12_runs_102 : decode cX12_runs 102 = .ok (.bipush 48, 2) := by decide +kernel
theorem dX12_runs_104 : decode cX12_runs 104 = .ok (.if_icmp .ge 158, 3) := by decide +kernel
theorem dX12_runs_107 : decode cX12_runs 107 = .ok (.iload 7, 2) := by decide +kernel
theorem dX12_runs_109 : decode cX12_runs 109 = .ok (.bipush 8, 2) := by decide +kernel
theorem dX12_runs_111 : decode cX12_runs 111 = .ok (.irem, 1) := by decide +kernel
theorem dX12_runs_112 : decode cX12_runs 112 = .ok (.iconst 1, 1) := by decide +kernel
theorem dX12_runs_113 : decode cX12_runs 113 = .ok (.iadd, 1) := by decide +kernel
theorem dX12_runs_114 : decode cX12_runs 114 = .ok (.istore 11, 2) := by decide +kernel
theorem dX12_runs_116 : decode cX12_runs 116 = .ok (.iload 5, 2) := by decide +kernel
theorem dX12_runs_118 : decode cX12_runs 118 = .ok (.aload_n 0, 1) := by decide +kernel
theorem dX12_runs_119 : decode cX12_runs 119 = .ok (.iload_n 3, 1) := by decide +kernel
theorem dX12_runs_120 : decode cX12_runs 120 = .ok (.iload 7, 2) := by decide +kernel
theorem dX12_runs_122 : decode cX12_runs 122 = .ok (.bipush 8, 2) := by decide +kernel
theorem dX12_runs_124 : decode cX12_runs 124 = .ok (.idiv, 1) := by decide +kernel
theorem dX12_runs_125 : decode cX12_runs 125 = .ok (.iload 11, 2) := by decide +kernel
theorem dX12_runs_127 : decode cX12_runs 127 = .ok (.iload_n 1, 1) := by decide +kernel
theorem dX12_runs_128 : decode cX12_runs 128 = .ok (.invokevirtual 156, 3) := by decide +kernel
theorem dX12_runs_131 : decode cX12_runs 131 = .ok (.iadd, 1) := by decide +kernel
theorem dX12_runs_132 : decode cX12_runs 132 = .ok (.istore 12, 2) := by decide +kernel
theorem dX12_runs_134 : decode cX12_runs 134 = .ok (.iload 12, 2) := by decide +kernel
theorem dX12_runs_136 : decode cX12_runs 136 = .ok (.bipush 100, 2) := by decide +kernel
theorem dX12_runs_138 : decode cX12_runs 138 = .ok (.if_icmp .gt 18, 3) := by decide +kernel
theorem dX12_runs_141 : decode cX12_runs 141 = .ok (.iload_n 2, 1) := by decide +kernel
theorem dX12_runs_142 : decode cX12_runs 142 = .ok (.iload 6, 2) := by decide +kernel
theorem dX12_runs_144 : decode cX12_runs 144 = .ok (.invokestatic 309, 3) := by decide +kernel
theorem dX12_runs_147 : decode cX12_runs 147 = .ok (.aload_n 0, 1) := by decide +kernel
theorem dX12_runs_148 : decode cX12_runs 148 = .ok (.iload 5, 2) := by decide +kernel
theorem dX12_runs_150 : decode cX12_runs 150 = .ok (.invokevirtual 166, 3) := by decide +kernel
theorem dX12_runs_153 : decode cX12_runs 153 = .ok (.if_icmp .ge 7, 3) := by decide +kernel
theorem dX12_runs_156 : decode cX12_runs 156 = .ok (.iconst 1, 1) := by decide +kernel
theorem dX12_runs_157 : decode cX12_runs 157 = .ok (.goto 4, 3) := by decide +kernel
theorem dX12_runs_160 : decode cX12_runs 160 = .ok (.iconst 0, 1) := by decide +kernel
theorem dX12_runs_161 : decode cX12_runs 161 = .ok (.istore 13, 2) := by decide +kernel
theorem dX12_runs_163 : decode cX12_runs 163 = .ok (.iinc 6 1, 3) := by decide +kernel
theorem dX12_runs_166 : decode cX12_runs 166 = .ok (.aload_n 0, 1) := by decide +kernel
theorem dX12_runs_167 : decode cX12_runs 167 = .ok (.getfield 82, 3) := by decide +kernel
theorem dX12_runs_170 : decode cX12_runs 170 = .ok (.iconst 0, 1) := by decide +kernel
theorem dX12_runs_171 : decode cX12_runs 171 = .ok (.dup2, 1) := by decide +kernel
theorem dX12_runs_172 : decode cX12_runs 172 = .ok (.iaload, 1) := by decide +kernel
theorem dX12_runs_173 : decode cX12_runs 173 = .ok (.aload_n 0, 1) := by decide +kernel
theorem dX12_runs_174 : decode cX12_runs 174 = .ok (.iload_n 3, 1) := by decide +kernel
theorem dX12_runs_175 : decode cX12_runs 175 = .ok (.iload 7, 2) := by decide +kernel
theorem dX12_runs_177 : decode cX12_runs 177 = .ok (.bipush 8, 2) := by decide +kernel
theorem dX12_runs_179 : decode cX12_runs 179 = .ok (.idiv, 1) := by decide +kernel
theorem dX12_runs_180 : decode cX12_runs 180 = .ok (.invokevirtual 153, 3) := by decide +kernel
theorem dX12_runs_183 : decode cX12_runs 183 = .ok (.iadd, 1) := by decide +kernel
theorem dX12_runs_184 : decode cX12_runs 184 = .ok (.iastore, 1) := by decide +kernel
theorem dX12_runs_185 : decode cX12_runs 185 = .ok (.iload 13, 2) := by decide +kernel
theorem dX12_runs_187 : decode cX12_runs 187 = .ok (.istore 9, 2) := by decide +kernel
theorem dX12_runs_189 : decode cX12_runs 189 = .ok (.iload 13, 2) := by decide +kernel
theorem dX12_runs_191 : decode cX12_runs 191 = .ok (.ifCond .ne 10, 3) := by decide +kernel
theorem dX12_runs_194 : decode cX12_runs 194 = .ok (.iload 11, 2) := by decide +kernel
theorem dX12_runs_196 : decode cX12_runs 196 = .ok (.iload 4, 2) := by decide +kernel
theorem dX12_runs_198 : decode cX12_runs 198 = .ok (.if_icmp .ne 7, 3) := by decide +kernel
theorem dX12_runs_201 : decode cX12_runs 201 = .ok (.iconst 1, 1) := by decide +kernel
theorem dX12_runs_202 : decode cX12_runs 202 = .ok (.goto 4, 3) := by decide +kernel
theorem dX12_runs_205 : decode cX12_runs 205 = .ok (.iconst 0, 1) := by decide +kernel
theorem dX12_runs_206 : decode cX12_runs 206 = .ok (.istore 8, 2) := by decide +kernel
theorem dX12_runs_208 : decode cX12_runs 208 = .ok (.iload 13, 2) := by decide +kernel
theorem dX12_runs_210 : decode cX12_runs 210 = .ok (.ifCond .ne 25, 3) := by decide +kernel
theorem dX12_runs_213 : decode cX12_runs 213 = .ok (.iload 11, 2) := by decide +kernel
theorem dX12_runs_215 : decode cX12_runs 215 = .ok (.iload 4, 2) := by decide +kernel
theorem dX12_runs_217 : decode cX12_runs 217 = .ok (.if_icmp .ne 22, 3) := by decide +kernel
theorem dX12_runs_220 : decode cX12_runs 220 = .ok (.iload 5, 2) := by decide +kernel
theorem dX12_runs_222 : decode cX12_runs 222 = .ok (.aload_n 0, 1) := by decide +kernel
theorem dX12_runs_223 : decode cX12_runs 223 = .ok (.getfield 26, 3) := by decide +kernel
theorem dX12_runs_226 : decode cX12_runs 226 = .ok (.iconst 4, 1) := by decide +kernel
theorem dX12_runs_227 : decode cX12_runs 227 = .ok (.iload_n 3, 1) := by decide +kernel
theorem dX12_runs_228 : decode cX12_runs 228 = .ok (.imul, 1) := by decide +kernel
theorem dX12_runs_229 : decode cX12_runs 229 = .ok (.iconst 2, 1) := by decide +kernel
theorem dX12_runs_230 : decode cX12_runs 230 = .ok (.iadd, 1) := by decide +kernel
theorem dX12_runs_231 : decode cX12_runs 231 = .ok (.iaload, 1) := by decide +kernel
theorem dX12_runs_232 : decode cX12_runs 232 = .ok (.if_icmp .le 7, 3) := by decide +kernel
theorem dX12_runs_235 : decode cX12_runs 235 = .ok (.iconst 1, 1) := by decide +kernel
theorem dX12_runs_236 : decode cX12_runs 236 = .ok (.goto 4, 3) := by decide +kernel
theorem dX12_runs_239 : decode cX12_runs 239 = .ok (.iconst 0, 1) := by decide +kernel
theorem dX12_runs_240 : decode cX12_runs 240 = .ok (.istore 10, 2) := by decide +kernel
theorem dX12_runs_242 : decode cX12_runs 242 = .ok (.iload 4, 2) := by decide +kernel
theorem dX12_runs_244 : decode cX12_runs 244 = .ok (.iload 11, 2) := by decide +kernel
theorem dX12_runs_246 : decode cX12_runs 246 = .ok (.isub, 1) := by decide +kernel
theorem dX12_runs_247 : decode cX12_runs 247 = .ok (.istore 4, 2) := by decide +kernel
theorem dX12_runs_249 : decode cX12_runs 249 = .ok (.iload 13, 2) := by decide +kernel
theorem dX12_runs_251 : decode cX12_runs 251 = .ok (.ifCond .eq 7, 3) := by decide +kernel
theorem dX12_runs_254 : decode cX12_runs 254 = .ok (.iconst 0, 1) := by decide +kernel
theorem dX12_runs_255 : decode cX12_runs 255 = .ok (.goto 5, 3) := by decide +kernel
theorem dX12_runs_258 : decode cX12_runs 258 = .ok (.iload 12, 2) := by decide +kernel
theorem dX12_runs_260 : decode cX12_runs 260 = .ok (.istore 5, 2) := by decide +kernel
theorem dX12_runs_262 : decode cX12_runs 262 = .ok (.iload 9, 2) := by decide +kernel
theorem dX12_runs_264 : decode cX12_runs 264 = .ok (.ifCond .eq 34, 3) := by decide +kernel
theorem dX12_runs_267 : decode cX12_runs 267 = .ok (.aload_n 0, 1) := by decide +kernel
theorem dX12_runs_268 : decode cX12_runs 268 = .ok (.getfield 82, 3) := by decide +kernel
theorem dX12_runs_271 : decode cX12_runs 271 = .ok (.iconst 0, 1) := by decide +kernel
theorem dX12_runs_272 : decode cX12_runs 272 = .ok (.dup2, 1) := by decide +kernel
theorem dX12_runs_273 : decode cX12_runs 273 = .ok (.iaload, 1) := by decide +kernel
theorem dX12_runs_274 : decode cX12_runs 274 = .ok (.bipush 100, 2) := by decide +kernel
theorem dX12_runs_276 : decode cX12_runs 276 = .ok (.aload_n 0, 1) := by decide +kernel
theorem dX12_runs_277 : decode cX12_runs 277 = .ok (.getfield 41, 3) := by decide +kernel
theorem dX12_runs_280 : decode cX12_runs 280 = .ok (.iconst 0, 1) := by decide +kernel
theorem dX12_runs_281 : decode cX12_runs 281 = .ok (.iaload, 1) := by decide +kernel
theorem dX12_runs_282 : decode cX12_runs 282 = .ok (.imul, 1) := by decide +kernel
theorem dX12_runs_283 : decode cX12_runs 283 = .ok (.iadd, 1) := by decide +kernel
theorem dX12_runs_284 : decode cX12_runs 284 = .ok (.iastore, 1) := by decide +kernel
theorem dX12_runs_285 : decode cX12_runs 285 = .ok (.aload_n 0, 1) := by decide +kernel
theorem dX12_runs_286 : decode cX12_runs 286 = .ok (.getfield 82, 3) := by decide +kernel
theorem dX12_runs_289 : decode cX12_runs 289 = .ok (.iconst 1, 1) := by decide +kernel
theorem dX12_runs_290 : decode cX12_runs 290 = .ok (.dup2, 1) := by decide +kernel
theorem dX12_runs_291 : decode cX12_runs 291 = .ok (.iaload, 1) := by decide +kernel
theorem dX12_runs_292 : decode cX12_runs 292 = .ok (.iconst 1, 1) := by decide +kernel
theorem dX12_runs_293 : decode cX12_runs 293 = .ok (.iadd, 1) := by decide +kernel
theorem dX12_runs_294 : decode cX12_runs 294 = .ok (.iastore, 1) := by decide +kernel
theorem dX12_runs_295 : decode cX12_runs 295 = .ok (.iconst 0, 1) := by decide +kernel
theorem dX12_runs_296 : decode cX12_runs 296 = .ok (.istore 5, 2) := by decide +kernel
theorem dX12_runs_298 : decode cX12_runs 298 = .ok (.iload 8, 2) := by decide +kernel
theorem dX12_runs_300 : decode cX12_runs 300 = .ok (.ifCond .eq 51, 3) := by decide +kernel
theorem dX12_runs_303 : decode cX12_runs 303 = .ok (.aload_n 0, 1) := by decide +kernel
theorem dX12_runs_304 : decode cX12_runs 304 = .ok (.getfield 82, 3) := by decide +kernel
theorem dX12_runs_307 : decode cX12_runs 307 = .ok (.iconst 2, 1) := by decide +kernel
theorem dX12_runs_308 : decode cX12_runs 308 = .ok (.dup2, 1) := by decide +kernel
theorem dX12_runs_309 : decode cX12_runs 309 = .ok (.iaload, 1) := by decide +kernel
theorem dX12_runs_310 : decode cX12_runs 310 = .ok (.iconst 1, 1) := by decide +kernel
theorem dX12_runs_311 : decode cX12_runs 311 = .ok (.iload 10, 2) := by decide +kernel
theorem dX12_runs_313 : decode cX12_runs 313 = .ok (.isub, 1) := by decide +kernel
theorem dX12_runs_314 : decode cX12_runs 314 = .ok (.iadd, 1) := by decide +kernel
theorem dX12_runs_315 : decode cX12_runs 315 = .ok (.iastore, 1) := by decide +kernel
theorem dX12_runs_316 : decode cX12_runs 316 = .ok (.aload_n 0, 1) := by decide +kernel
theorem dX12_runs_317 : decode cX12_runs 317 = .ok (.getfield 82, 3) := by decide +kernel
theorem dX12_runs_320 : decode cX12_runs 320 = .ok (.iconst 3, 1) := by decide +kernel
theorem dX12_runs_321 : decode cX12_runs 321 = .ok (.dup2, 1) := by decide +kernel
theorem dX12_runs_322 : decode cX12_runs 322 = .ok (.iaload, 1) := by decide +kernel
theorem dX12_runs_323 : decode cX12_runs 323 = .ok (.iload 10, 2) := by decide +kernel
theorem dX12_runs_325 : decode cX12_runs 325 = .ok (.iadd, 1) := by decide +kernel
theorem dX12_runs_326 : decode cX12_runs 326 = .ok (.iastore, 1) := by decide +kernel
theorem dX12_runs_327 : decode cX12_runs 327 = .ok (.iinc 3 1, 3) := by decide +kernel
theorem dX12_runs_330 : decode cX12_runs 330 = .ok (.iload_n 3, 1) := by decide +kernel
theorem dX12_runs_331 : decode cX12_runs 331 = .ok (.aload_n 0, 1) := by decide +kernel
theorem dX12_runs_332 : decode cX12_runs 332 = .ok (.getfield 23, 3) := by decide +kernel
theorem dX12_runs_335 : decode cX12_runs 335 = .ok (.iconst 0, 1) := by decide +kernel
theorem dX12_runs_336 : decode cX12_runs 336 = .ok (.iaload, 1) := by decide +kernel
theorem dX12_runs_337 : decode cX12_runs 337 = .ok (.if_icmp .ge 11, 3) := by decide +kernel
theorem dX12_runs_340 : decode cX12_runs 340 = .ok (.aload_n 0, 1) := by decide +kernel
theorem dX12_runs_341 : decode cX12_runs 341 = .ok (.iload_n 3, 1) := by decide +kernel
theorem dX12_runs_342 : decode cX12_runs 342 = .ok (.invokevirtual 170, 3) := by decide +kernel
theorem dX12_runs_345 : decode cX12_runs 345 = .ok (.goto 4, 3) := by decide +kernel
theorem dX12_runs_348 : decode cX12_runs 348 = .ok (.iconst 0, 1) := by decide +kernel
theorem dX12_runs_349 : decode cX12_runs 349 = .ok (.istore 4, 2) := by decide +kernel
theorem dX12_runs_351 : decode cX12_runs 351 = .ok (.goto (-316), 3) := by decide +kernel
theorem dX12_runs_354 : decode cX12_runs 354 = .ok (.return_, 1) := by decide +kernel
set_option maxRecDepth 20000 in
theorem ggX12_run_X12_in : GoodIn wsX12_run wsX12_in := goodIn_r _ [11] (by decide +kernel) (by decide +kernel)
set_option maxRecDepth 20000 in
theorem gX12_run_X12_in : GoodIn wsX12_run (va_wsS RX12 101 yX12_in wsX12_in) := goodIn_app (goodIn_of _ (by decide +kernel)) ggX12_run_X12_in
set_option maxRecDepth 20000 in
theorem ggX12_run_X12_isSteel : GoodIn wsX12_run wsX12_isSteel := goodIn_r _ [15, 16, 8, 9, 10, 11, 108, 109, 110, 111, 112, 113, 114, 115, 116, 117, 118, 119, 120, 121, 122, 123, 124, 125, 126, 127, 128, 129, 130, 131, 132, 133, 134, 135, 136, 137, 138] (by decide +kernel) (by decide +kernel)
set_option maxRecDepth 20000 in
theorem gX12_run_X12_isSteel : GoodIn wsX12_run (wsV RX12 148 RX12 yX12_isSteel wsX12_isSteel) := goodIn_app (goodIn_of _ (by decide +kernel)) ggX12_run_X12_isSteel
set_option maxRecDepth 20000 in
theorem ggX12_run_X12_handles : GoodIn wsX12_run wsX12_handles := goodIn_r _ [20, 21, 22, 23, 24, 25, 10, 26, 6, 27, 28, 7, 29, 4, 30, 31, 32, 33, 34, 35, 36, 37, 38, 39, 40, 41, 42, 43, 44, 45, 46, 47, 48, 49, 50, 51, 52, 53, 54, 55, 8, 9, 11, 56, 57, 58, 59, 60, 61, 62, 63, 64, 65, 66, 67, 68, 69, 70, 71, 72, 73, 74, 75, 76, 77, 78, 79, 80, 81, 82, 83, 84, 85, 86, 87, 88, 89, 90, 91, 92, 93, 94, 95, 96, 97, 108, 109, 110, 111, 112, 113, 114, 115, 116, 117, 118, 119, 120, 121, 122, 123, 124, 125, 126, 127, 128, 129, 130, 131, 132, 133, 134, 135, 136, 137, 138] (by decide +kernel) (by decide +kernel)
set_option maxRecDepth 20000 in
theorem gX12_run_X12_handles : GoodIn wsX12_run (wsV RX12 235 RX12 yX12_handles wsX12_handles) := goodIn_app (goodIn_of _ (by decide +kernel)) ggX12_run_X12_handles
set_option maxRecDepth 20000 in
theorem ggX12_run_X12_runs : GoodIn wsX12_run wsX12_runs := goodIn_r _ [101, 5, 21, 22, 43, 6, 39, 40, 41, 10, 42, 44, 45, 46, 69, 70, 71, 72, 60, 73, 74, 102, 103, 104, 105, 106, 107, 28, 75, 76, 77, 78, 79, 80, 81, 82, 83, 84, 108, 109, 110, 111, 112, 113, 114, 115, 116, 117, 118, 119, 120, 121, 122, 123, 124, 125, 126, 127, 128, 129, 130, 131, 132, 133, 134, 135, 136, 137, 138] (by decide +kernel) (by decide +kernel)
set_option maxRecDepth 20000 in
theorem gX12_run_X12_runs : GoodIn wsX12_run (wsV RX12 314 RX12 yX12_runs wsX12_runs) := goodIn_app (goodIn_of _ (by decide +kernel)) ggX12_run_X12_runs
theorem dX12_run_0 : decode cX12_run 0 = .ok (.iload_n 1, 1) := by decide +kernel
theorem dX12_run_1 : decode cX12_run 1 = .ok (.i2l, 1) := by decide +kernel
theorem dX12_run_2 : decode cX12_run 2 = .ok (.lconst 0, 1) := by decide +kernel
theorem dX12_run_3 : decode cX12_run 3 = .ok (.ldc2_w 225, 3) := by decide +kernel
theorem dX12_run_6 : decode cX12_run 6 = .ok (.invokestatic 101, 3) := by decide +kernel
theorem dX12_run_9 : decode cX12_run 9 = .ok (.ifCond .eq 36, 3) := by decide +kernel
theorem dX12_run_12 : decode cX12_run 12 = .ok (.aload_n 0, 1) := by decide +kernel
theorem dX12_run_13 : decode cX12_run 13 = .ok (.iload_n 2, 1) := by decide +kernel
theorem dX12_run_14 : decode cX12_run 14 = .ok (.invokevirtual 148, 3) := by decide +kernel
theorem dX12_run_17 : decode cX12_run 17 = .ok (.ifCond .eq 28, 3) := by decide +kernel
theorem dX12_run_20 : decode cX12_run 20 = .ok (.iload_n 3, 1) := by decide +kernel
theorem dX12_run_21 : decode cX12_run 21 = .ok (.i2l, 1) := by decide +kernel
theorem dX12_run_22 : decode cX12_run 22 = .ok (.lconst 0, 1) := by decide +kernel
theorem dX12_run_23 : decode cX12_run 23 = .ok (.ldc2_w 276, 3) := by decide +kernel
theorem dX12_run_26 : decode cX12_run 26 = .ok (.invokestatic 101, 3) := by decide +kernel
theorem dX12_run_29 : decode cX12_run 29 = .ok (.ifCond .eq 16, 3) := by decide +kernel
theorem dX12_run_32 : decode cX12_run 32 = .ok (.iload 4, 2) := by decide +kernel
theorem dX12_run_34 : decode cX12_run 34 = .ok (.i2l, 1) := by decide +kernel
theorem dX12_run_35 : decode cX12_run 35 = .ok (.lconst 0, 1) := by decide +kernel
theorem dX12_run_36 : decode cX12_run 36 = .ok (.ldc2_w 312, 3) := by decide +kernel
theorem dX12_run_39 : decode cX12_run 39 = .ok (.invokestatic 101, 3) := by decide +kernel
theorem dX12_run_42 : decode cX12_run 42 = .ok (.ifCond .ne 7, 3) := by decide +kernel
theorem dX12_run_45 : decode cX12_run 45 = .ok (.ldc2_w 196, 3) := by decide +kernel
theorem dX12_run_48 : decode cX12_run 48 = .ok (.lreturn, 1) := by decide +kernel
theorem dX12_run_49 : decode cX12_run 49 = .ok (.aload_n 0, 1) := by decide +kernel
theorem dX12_run_50 : decode cX12_run 50 = .ok (.iload_n 1, 1) := by decide +kernel
theorem dX12_run_51 : decode cX12_run 51 = .ok (.iload_n 2, 1) := by decide +kernel
theorem dX12_run_52 : decode cX12_run 52 = .ok (.invokevirtual 235, 3) := by decide +kernel
theorem dX12_run_55 : decode cX12_run 55 = .ok (.aload_n 0, 1) := by decide +kernel
theorem dX12_run_56 : decode cX12_run 56 = .ok (.iload_n 2, 1) := by decide +kernel
theorem dX12_run_57 : decode cX12_run 57 = .ok (.iload_n 3, 1) := by decide +kernel
theorem dX12_run_58 : decode cX12_run 58 = .ok (.invokevirtual 314, 3) := by decide +kernel
theorem dX12_run_61 : decode cX12_run 61 = .ok (.aload_n 0, 1) := by decide +kernel
theorem dX12_run_62 : decode cX12_run 62 = .ok (.getfield 82, 3) := by decide +kernel
theorem dX12_run_65 : decode cX12_run 65 = .ok (.iconst 0, 1) := by decide +kernel
theorem dX12_run_66 : decode cX12_run 66 = .ok (.iaload, 1) := by decide +kernel
theorem dX12_run_67 : decode cX12_run 67 = .ok (.i2l, 1) := by decide +kernel
theorem dX12_run_68 : decode cX12_run 68 = .ok (.aload_n 0, 1) := by decide +kernel
theorem dX12_run_69 : decode cX12_run 69 = .ok (.getfield 41, 3) := by decide +kernel
theorem dX12_run_72 : decode cX12_run 72 = .ok (.iconst 2, 1) := by decide +kernel
theorem dX12_run_73 : decode cX12_run 73 = .ok (.iaload, 1) := by decide +kernel
theorem dX12_run_74 : decode cX12_run 74 = .ok (.i2l, 1) := by decide +kernel
theorem dX12_run_75 : decode cX12_run 75 = .ok (.lmul, 1) := by decide +kernel
theorem dX12_run_76 : decode cX12_run 76 = .ok (.ldc2_w 191, 3) := by decide +kernel
theorem dX12_run_79 : decode cX12_run 79 = .ok (.aload_n 0, 1) := by decide +kernel
theorem dX12_run_80 : decode cX12_run 80 = .ok (.getfield 82, 3) := by decide +kernel
theorem dX12_run_83 : decode cX12_run 83 = .ok (.iconst 1, 1) := by decide +kernel
theorem dX12_run_84 : decode cX12_run 84 = .ok (.iaload, 1) := by decide +kernel
theorem dX12_run_85 : decode cX12_run 85 = .ok (.i2l, 1) := by decide +kernel
theorem dX12_run_86 : decode cX12_run 86 = .ok (.lmul, 1) := by decide +kernel
theorem dX12_run_87 : decode cX12_run 87 = .ok (.aload_n 0, 1) := by decide +kernel
theorem dX12_run_88 : decode cX12_run 88 = .ok (.getfield 41, 3) := by decide +kernel
theorem dX12_run_91 : decode cX12_run 91 = .ok (.iconst 1, 1) := by decide +kernel
theorem dX12_run_92 : decode cX12_run 92 = .ok (.iaload, 1) := by decide +kernel
theorem dX12_run_93 : decode cX12_run 93 = .ok (.i2l, 1) := by decide +kernel
theorem dX12_run_94 : decode cX12_run 94 = .ok (.lmul, 1) := by decide +kernel
theorem dX12_run_95 : decode cX12_run 95 = .ok (.ladd, 1) := by decide +kernel
theorem dX12_run_96 : decode cX12_run 96 = .ok (.lstore 5, 2) := by decide +kernel
theorem dX12_run_98 : decode cX12_run 98 = .ok (.iload 4, 2) := by decide +kernel
theorem dX12_run_100 : decode cX12_run 100 = .ok (.ifCond .ne 13, 3) := by decide +kernel
theorem dX12_run_103 : decode cX12_run 103 = .ok (.aload_n 0, 1) := by decide +kernel
theorem dX12_run_104 : decode cX12_run 104 = .ok (.getfield 82, 3) := by decide +kernel
theorem dX12_run_107 : decode cX12_run 107 = .ok (.iconst 0, 1) := by decide +kernel
theorem dX12_run_108 : decode cX12_run 108 = .ok (.iaload, 1) := by decide +kernel
theorem dX12_run_109 : decode cX12_run 109 = .ok (.i2l, 1) := by decide +kernel
theorem dX12_run_110 : decode cX12_run 110 = .ok (.goto 53, 3) := by decide +kernel
theorem dX12_run_113 : decode cX12_run 113 = .ok (.iload 4, 2) := by decide +kernel
theorem dX12_run_115 : decode cX12_run 115 = .ok (.iconst 1, 1) := by decide +kernel
theorem dX12_run_116 : decode cX12_run 116 = .ok (.if_icmp .ne 8, 3) := by decide +kernel
theorem dX12_run_119 : decode cX12_run 119 = .ok (.lload 5, 2) := by decide +kernel
theorem dX12_run_121 : decode cX12_run 121 = .ok (.goto 42, 3) := by decide +kernel
theorem dX12_run_124 : decode cX12_run 124 = .ok (.iload 4, 2) := by decide +kernel
theorem dX12_run_126 : decode cX12_run 126 = .ok (.iconst 2, 1) := by decide +kernel
theorem dX12_run_127 : decode cX12_run 127 = .ok (.if_icmp .ne 13, 3) := by decide +kernel
theorem dX12_run_130 : decode cX12_run 130 = .ok (.aload_n 0, 1) := by decide +kernel
theorem dX12_run_131 : decode cX12_run 131 = .ok (.getfield 82, 3) := by decide +kernel
theorem dX12_run_134 : decode cX12_run 134 = .ok (.iconst 2, 1) := by decide +kernel
theorem dX12_run_135 : decode cX12_run 135 = .ok (.iaload, 1) := by decide +kernel
theorem dX12_run_136 : decode cX12_run 136 = .ok (.i2l, 1) := by decide +kernel
theorem dX12_run_137 : decode cX12_run 137 = .ok (.goto 26, 3) := by decide +kernel
theorem dX12_run_140 : decode cX12_run 140 = .ok (.iload 4, 2) := by decide +kernel
theorem dX12_run_142 : decode cX12_run 142 = .ok (.iconst 3, 1) := by decide +kernel
theorem dX12_run_143 : decode cX12_run 143 = .ok (.if_icmp .ne 13, 3) := by decide +kernel
theorem dX12_run_146 : decode cX12_run 146 = .ok (.aload_n 0, 1) := by decide +kernel
theorem dX12_run_147 : decode cX12_run 147 = .ok (.getfield 82, 3) := by decide +kernel
theorem dX12_run_150 : decode cX12_run 150 = .ok (.iconst 3, 1) := by decide +kernel
theorem dX12_run_151 : decode cX12_run 151 = .ok (.iaload, 1) := by decide +kernel
theorem dX12_run_152 : decode cX12_run 152 = .ok (.i2l, 1) := by decide +kernel
theorem dX12_run_153 : decode cX12_run 153 = .ok (.goto 10, 3) := by decide +kernel
theorem dX12_run_156 : decode cX12_run 156 = .ok (.aload_n 0, 1) := by decide +kernel
theorem dX12_run_157 : decode cX12_run 157 = .ok (.getfield 82, 3) := by decide +kernel
theorem dX12_run_160 : decode cX12_run 160 = .ok (.iconst 1, 1) := by decide +kernel
theorem dX12_run_161 : decode cX12_run 161 = .ok (.iaload, 1) := by decide +kernel
theorem dX12_run_162 : decode cX12_run 162 = .ok (.i2l, 1) := by decide +kernel
theorem dX12_run_163 : decode cX12_run 163 = .ok (.lreturn, 1) := by decide +kernel
theorem dX12_copies_0 : decode cX12_copies 0 = .ok (.iconst 0, 1) := by decide +kernel
theorem dX12_copies_1 : decode cX12_copies 1 = .ok (.istore_n 3, 1) := by decide +kernel
theorem dX12_copies_2 : decode cX12_copies 2 = .ok (.iload_n 3, 1) := by decide +kernel
theorem dX12_copies_3 : decode cX12_copies 3 = .ok (.iconst 3, 1) := by decide +kernel
theorem dX12_copies_4 : decode cX12_copies 4 = .ok (.if_icmp .ge 29, 3) := by decide +kernel
theorem dX12_copies_7 : decode cX12_copies 7 = .ok (.aload_n 0, 1) := by decide +kernel
theorem dX12_copies_8 : decode cX12_copies 8 = .ok (.getfield 44, 3) := by decide +kernel
theorem dX12_copies_11 : decode cX12_copies 11 = .ok (.iconst 3, 1) := by decide +kernel
theorem dX12_copies_12 : decode cX12_copies 12 = .ok (.iload_n 2, 1) := by decide +kernel
theorem dX12_copies_13 : decode cX12_copies 13 = .ok (.imul, 1) := by decide +kernel
theorem dX12_copies_14 : decode cX12_copies 14 = .ok (.iload_n 3, 1) := by decide +kernel
theorem dX12_copies_15 : decode cX12_copies 15 = .ok (.iadd, 1) := by decide +kernel
theorem dX12_copies_16 : decode cX12_copies 16 = .ok (.aload_n 0, 1) := by decide +kernel
theorem dX12_copies_17 : decode cX12_copies 17 = .ok (.getfield 44, 3) := by decide +kernel
theorem dX12_copies_20 : decode cX12_copies 20 = .ok (.iconst 3, 1) := by decide +kernel
theorem dX12_copies_21 : decode cX12_copies 21 = .ok (.iload_n 1, 1) := by decide +kernel
theorem dX12_copies_22 : decode cX12_copies 22 = .ok (.imul, 1) := by decide +kernel
theorem dX12_copies_23 : decode cX12_copies 23 = .ok (.iload_n 3, 1) := by decide +kernel
theorem dX12_copies_24 : decode cX12_copies 24 = .ok (.iadd, 1) := by decide +kernel
theorem dX12_copies_25 : decode cX12_copies 25 = .ok (.iaload, 1) := by decide +kernel
theorem dX12_copies_26 : decode cX12_copies 26 = .ok (.iastore, 1) := by decide +kernel
theorem dX12_copies_27 : decode cX12_copies 27 = .ok (.iinc 3 1, 3) := by decide +kernel
theorem dX12_copies_30 : decode cX12_copies 30 = .ok (.goto (-28), 3) := by decide +kernel
theorem dX12_copies_33 : decode cX12_copies 33 = .ok (.aload_n 0, 1) := by decide +kernel
theorem dX12_copies_34 : decode cX12_copies 34 = .ok (.getfield 47, 3) := by decide +kernel
theorem dX12_copies_37 : decode cX12_copies 37 = .ok (.iload_n 2, 1) := by decide +kernel
theorem dX12_copies_38 : decode cX12_copies 38 = .ok (.aload_n 0, 1) := by decide +kernel
theorem dX12_copies_39 : decode cX12_copies 39 = .ok (.getfield 47, 3) := by decide +kernel
theorem dX12_copies_42 : decode cX12_copies 42 = .ok (.iload_n 1, 1) := by decide +kernel
theorem dX12_copies_43 : decode cX12_copies 43 = .ok (.iaload, 1) := by decide +kernel
theorem dX12_copies_44 : decode cX12_copies 44 = .ok (.iastore, 1) := by decide +kernel
theorem dX12_copies_45 : decode cX12_copies 45 = .ok (.iconst 0, 1) := by decide +kernel
theorem dX12_copies_46 : decode cX12_copies 46 = .ok (.istore_n 3, 1) := by decide +kernel
theorem dX12_copies_47 : decode cX12_copies 47 = .ok (.iload_n 3, 1) := by decide +kernel
theorem dX12_copies_48 : decode cX12_copies 48 = .ok (.bipush 40, 2) := by decide +kernel
theorem dX12_copies_50 : decode cX12_copies 50 = .ok (.if_icmp .ge 31, 3) := by decide +kernel
theorem dX12_copies_53 : decode cX12_copies 53 = .ok (.aload_n 0, 1) := by decide +kernel
theorem dX12_copies_54 : decode cX12_copies 54 = .ok (.getfield 50, 3) := by decide +kernel
theorem dX12_copies_57 : decode cX12_copies 57 = .ok (.bipush 40, 2) := by decide +kernel
theorem dX12_copies_59 : decode cX12_copies 59 = .ok (.iload_n 2, 1) := by decide +kernel
theorem dX12_copies_60 : decode cX12_copies 60 = .ok (.imul, 1) := by decide +kernel
theorem dX12_copies_61 : decode cX12_copies 61 = .ok (.iload_n 3, 1) := by decide +kernel
theorem dX12_copies_62 : decode cX12_copies 62 = .ok (.iadd, 1) := by decide +kernel
theorem dX12_copies_63 : decode cX12_copies 63 = .ok (.aload_n 0, 1) := by decide +kernel
theorem dX12_copies_64 : decode cX12_copies 64 = .ok (.getfield 50, 3) := by decide +kernel
theorem dX12_copies_67 : decode cX12_copies 67 = .ok (.bipush 40, 2) := by decide +kernel
theorem dX12_copies_69 : decode cX12_copies 69 = .ok (.iload_n 1, 1) := by decide +kernel
theorem dX12_copies_70 : decode cX12_copies 70 = .ok (.imul, 1) := by decide +kernel
theorem dX12_copies_71 : decode cX12_copies 71 = .ok (.iload_n 3, 1) := by decide +kernel
theorem dX12_copies_72 : decode cX12_copies 72 = .ok (.iadd, 1) := by decide +kernel
theorem dX12_copies_73 : decode cX12_copies 73 = .ok (.iaload, 1) := by decide +kernel
theorem dX12_copies_74 : decode cX12_copies 74 = .ok (.iastore, 1) := by decide +kernel
theorem dX12_copies_75 : decode cX12_copies 75 = .ok (.iinc 3 1, 3) := by decide +kernel
theorem dX12_copies_78 : decode cX12_copies 78 = .ok (.goto (-31), 3) := by decide +kernel
theorem dX12_copies_81 : decode cX12_copies 81 = .ok (.return_, 1) := by decide +kernel
set_option maxRecDepth 20000 in
theorem ggX12_keep_X12_copies : GoodIn wsX12_keep wsX12_copies := goodIn_r _ [6, 7, 8, 9, 10, 11, 12, 13, 14, 15, 16, 17, 18, 19, 20, 21, 22, 23, 24, 25, 26, 27, 28, 29, 30, 31, 32, 33, 34, 35, 36, 37, 38, 39, 40] (by decide +kernel) (by decide +kernel)
set_option maxRecDepth 20000 in
theorem gX12_keep_X12_copies : GoodIn wsX12_keep (wsV RX12 317 RX12 yX12_copies wsX12_copies) := goodIn_app (goodIn_of _ (by decide +kernel)) ggX12_keep_X12_copies
theorem dX12_keep_0 : decode cX12_keep 0 = .ok (.aload_n 0, 1) := by decide +kernel
theorem dX12_keep_1 : decode cX12_keep 1 = .ok (.getfield 95, 3) := by decide +kernel
theorem dX12_keep_4 : decode cX12_keep 4 = .ok (.iconst 2, 1) := by decide +kernel
theorem dX12_keep_5 : decode cX12_keep 5 = .ok (.if_icmp .ne 6, 3) := by decide +kernel
theorem dX12_keep_8 : decode cX12_keep 8 = .ok (.bipush (-3), 2) := by decide +kernel
theorem dX12_keep_10 : decode cX12_keep 10 = .ok (.ireturn, 1) := by decide +kernel
theorem dX12_keep_11 : decode cX12_keep 11 = .ok (.aload_n 0, 1) := by decide +kernel
theorem dX12_keep_12 : decode cX12_keep 12 = .ok (.dup, 1) := by decide +kernel
theorem dX12_keep_13 : decode cX12_keep 13 = .ok (.getfield 95, 3) := by decide +kernel
theorem dX12_keep_16 : decode cX12_keep 16 = .ok (.iconst 1, 1) := by decide +kernel
theorem dX12_keep_17 : decode cX12_keep 17 = .ok (.iadd, 1) := by decide +kernel
theorem dX12_keep_18 : decode cX12_keep 18 = .ok (.putfield 95, 3) := by decide +kernel
theorem dX12_keep_21 : decode cX12_keep 21 = .ok (.aload_n 0, 1) := by decide +kernel
theorem dX12_keep_22 : decode cX12_keep 22 = .ok (.iconst 0, 1) := by decide +kernel
theorem dX12_keep_23 : decode cX12_keep 23 = .ok (.aload_n 0, 1) := by decide +kernel
theorem dX12_keep_24 : decode cX12_keep 24 = .ok (.getfield 95, 3) := by decide +kernel
theorem dX12_keep_27 : decode cX12_keep 27 = .ok (.invokevirtual 317, 3) := by decide +kernel
theorem dX12_keep_30 : decode cX12_keep 30 = .ok (.aload_n 0, 1) := by decide +kernel
theorem dX12_keep_31 : decode cX12_keep 31 = .ok (.getfield 95, 3) := by decide +kernel
theorem dX12_keep_34 : decode cX12_keep 34 = .ok (.ireturn, 1) := by decide +kernel
set_option maxRecDepth 20000 in
theorem ggX12_back_X12_copies : GoodIn wsX12_back wsX12_copies := goodIn_r _ [6, 7, 8, 9, 10, 11, 12, 13, 14, 15, 16, 17, 18, 19, 20, 21, 22, 23, 24, 25, 26, 27, 28, 29, 30, 31, 32, 33, 34, 35, 36, 37, 38, 39, 40] (by decide +kernel) (by decide +kernel)
set_option maxRecDepth 20000 in
theorem gX12_back_X12_copies : GoodIn wsX12_back (wsV RX12 317 RX12 yX12_copies wsX12_copies) := goodIn_app (goodIn_of _ (by decide +kernel)) ggX12_back_X12_copies
theorem dX12_back_0 : decode cX12_back 0 = .ok (.aload_n 0, 1) := by decide +kernel
theorem dX12_back_1 : decode cX12_back 1 = .ok (.getfield 95, 3) := by decide +kernel
theorem dX12_back_4 : decode cX12_back 4 = .ok (.ifCond .ne 6, 3) := by decide +kernel
theorem dX12_back_7 : decode cX12_back 7 = .ok (.bipush (-2), 2) := by decide +kernel
theorem dX12_back_9 : decode cX12_back 9 = .ok (.ireturn, 1) := by decide +kernel
theorem dX12_back_10 : decode cX12_back 10 = .ok (.aload_n 0, 1) := by decide +kernel
theorem dX12_back_11 : decode cX12_back 11 = .ok (.aload_n 0, 1) := by decide +kernel
theorem dX12_back_12 : decode cX12_back 12 = .ok (.getfield 95, 3) := by decide +kernel
theorem dX12_back_15 : decode cX12_back 15 = .ok (.iconst 0, 1) := by decide +kernel
theorem dX12_back_16 : decode cX12_back 16 = .ok (.invokevirtual 317, 3) := by decide +kernel
theorem dX12_back_19 : decode cX12_back 19 = .ok (.aload_n 0, 1) := by decide +kernel
theorem dX12_back_20 : decode cX12_back 20 = .ok (.dup, 1) := by decide +kernel
theorem dX12_back_21 : decode cX12_back 21 = .ok (.getfield 95, 3) := by decide +kernel
theorem dX12_back_24 : decode cX12_back 24 = .ok (.iconst 1, 1) := by decide +kernel
theorem dX12_back_25 : decode cX12_back 25 = .ok (.isub, 1) := by decide +kernel
theorem dX12_back_26 : decode cX12_back 26 = .ok (.putfield 95, 3) := by decide +kernel
theorem dX12_back_29 : decode cX12_back 29 = .ok (.aload_n 0, 1) := by decide +kernel
theorem dX12_back_30 : decode cX12_back 30 = .ok (.getfield 95, 3) := by decide +kernel
theorem dX12_back_33 : decode cX12_back 33 = .ok (.ireturn, 1) := by decide +kernel
theorem dX12_count_0 : decode cX12_count 0 = .ok (.iload_n 1, 1) := by decide +kernel
theorem dX12_count_1 : decode cX12_count 1 = .ok (.ifCond .ne 12, 3) := by decide +kernel
theorem dX12_count_4 : decode cX12_count 4 = .ok (.aload_n 0, 1) := by decide +kernel
theorem dX12_count_5 : decode cX12_count 5 = .ok (.getfield 17, 3) := by decide +kernel
theorem dX12_count_8 : decode cX12_count 8 = .ok (.iconst 0, 1) := by decide +kernel
theorem dX12_count_9 : decode cX12_count 9 = .ok (.iaload, 1) := by decide +kernel
theorem dX12_count_10 : decode cX12_count 10 = .ok (.goto 70, 3) := by decide +kernel
theorem dX12_count_13 : decode cX12_count 13 = .ok (.iload_n 1, 1) := by decide +kernel
theorem dX12_count_14 : decode cX12_count 14 = .ok (.iconst 1, 1) := by decide +kernel
theorem dX12_count_15 : decode cX12_count 15 = .ok (.if_icmp .ne 12, 3) := by decide +kernel
theorem dX12_count_18 : decode cX12_count 18 = .ok (.aload_n 0, 1) := by decide +kernel
theorem dX12_count_19 : decode cX12_count 19 = .ok (.getfield 23, 3) := by decide +kernel
theorem dX12_count_22 : decode cX12_count 22 = .ok (.iconst 0, 1) := by decide +kernel
theorem dX12_count_23 : decode cX12_count 23 = .ok (.iaload, 1) := by decide +kernel
theorem dX12_count_24 : decode cX12_count 24 = .ok (.goto 56, 3) := by decide +kernel
theorem dX12_count_27 : decode cX12_count 27 = .ok (.iload_n 1, 1) := by decide +kernel
theorem dX12_count_28 : decode cX12_count 28 = .ok (.iconst 2, 1) := by decide +kernel
theorem dX12_count_29 : decode cX12_count 29 = .ok (.if_icmp .ne 12, 3) := by decide +kernel
theorem dX12_count_32 : decode cX12_count 32 = .ok (.aload_n 0, 1) := by decide +kernel
theorem dX12_count_33 : decode cX12_count 33 = .ok (.getfield 35, 3) := by decide +kernel
theorem dX12_count_36 : decode cX12_count 36 = .ok (.iconst 0, 1) := by decide +kernel
theorem dX12_count_37 : decode cX12_count 37 = .ok (.iaload, 1) := by decide +kernel
theorem dX12_count_38 : decode cX12_count 38 = .ok (.goto 42, 3) := by decide +kernel
theorem dX12_count_41 : decode cX12_count 41 = .ok (.iload_n 1, 1) := by decide +kernel
theorem dX12_count_42 : decode cX12_count 42 = .ok (.iconst 3, 1) := by decide +kernel
theorem dX12_count_43 : decode cX12_count 43 = .ok (.if_icmp .ne 10, 3) := by decide +kernel
theorem dX12_count_46 : decode cX12_count 46 = .ok (.aload_n 0, 1) := by decide +kernel
theorem dX12_count_47 : decode cX12_count 47 = .ok (.getfield 105, 3) := by decide +kernel
theorem dX12_count_50 : decode cX12_count 50 = .ok (.goto 30, 3) := by decide +kernel
theorem dX12_count_53 : decode cX12_count 53 = .ok (.iload_n 1, 1) := by decide +kernel
theorem dX12_count_54 : decode cX12_count 54 = .ok (.iconst 4, 1) := by decide +kernel
theorem dX12_count_55 : decode cX12_count 55 = .ok (.if_icmp .ne 12, 3) := by decide +kernel
theorem dX12_count_58 : decode cX12_count 58 = .ok (.aload_n 0, 1) := by decide +kernel
theorem dX12_count_59 : decode cX12_count 59 = .ok (.getfield 47, 3) := by decide +kernel
theorem dX12_count_62 : decode cX12_count 62 = .ok (.iconst 0, 1) := by decide +kernel
theorem dX12_count_63 : decode cX12_count 63 = .ok (.iaload, 1) := by decide +kernel
theorem dX12_count_64 : decode cX12_count 64 = .ok (.goto 16, 3) := by decide +kernel
theorem dX12_count_67 : decode cX12_count 67 = .ok (.iload_n 1, 1) := by decide +kernel
theorem dX12_count_68 : decode cX12_count 68 = .ok (.iconst 5, 1) := by decide +kernel
theorem dX12_count_69 : decode cX12_count 69 = .ok (.if_icmp .ne 10, 3) := by decide +kernel
theorem dX12_count_72 : decode cX12_count 72 = .ok (.aload_n 0, 1) := by decide +kernel
theorem dX12_count_73 : decode cX12_count 73 = .ok (.getfield 95, 3) := by decide +kernel
theorem dX12_count_76 : decode cX12_count 76 = .ok (.goto 4, 3) := by decide +kernel
theorem dX12_count_79 : decode cX12_count 79 = .ok (.iconst (-1), 1) := by decide +kernel
theorem dX12_count_80 : decode cX12_count 80 = .ok (.ireturn, 1) := by decide +kernel
theorem dJ9_max_7cf53_0 : decode cJ9_max_7cf53 0 = .ok (.iload_n 0, 1) := by decide +kernel
theorem dJ9_max_7cf53_1 : decode cJ9_max_7cf53 1 = .ok (.iload_n 1, 1) := by decide +kernel
theorem dJ9_max_7cf53_2 : decode cJ9_max_7cf53 2 = .ok (.if_icmp .lt 7, 3) := by decide +kernel
theorem dJ9_max_7cf53_5 : decode cJ9_max_7cf53 5 = .ok (.iload_n 0, 1) := by decide +kernel
theorem dJ9_max_7cf53_6 : decode cJ9_max_7cf53 6 = .ok (.goto 4, 3) := by decide +kernel
theorem dJ9_max_7cf53_9 : decode cJ9_max_7cf53 9 = .ok (.iload_n 1, 1) := by decide +kernel
theorem dJ9_max_7cf53_10 : decode cJ9_max_7cf53 10 = .ok (.ireturn, 1) := by decide +kernel
theorem dJ9_min_7cf53_0 : decode cJ9_min_7cf53 0 = .ok (.iload_n 0, 1) := by decide +kernel
theorem dJ9_min_7cf53_1 : decode cJ9_min_7cf53 1 = .ok (.iload_n 1, 1) := by decide +kernel
theorem dJ9_min_7cf53_2 : decode cJ9_min_7cf53 2 = .ok (.if_icmp .gt 7, 3) := by decide +kernel
theorem dJ9_min_7cf53_5 : decode cJ9_min_7cf53 5 = .ok (.iload_n 0, 1) := by decide +kernel
theorem dJ9_min_7cf53_6 : decode cJ9_min_7cf53 6 = .ok (.goto 4, 3) := by decide +kernel
theorem dJ9_min_7cf53_9 : decode cJ9_min_7cf53 9 = .ok (.iload_n 1, 1) := by decide +kernel
theorem dJ9_min_7cf53_10 : decode cJ9_min_7cf53 10 = .ok (.ireturn, 1) := by decide +kernel
theorem dJ7_fill_53178_0 : decode cJ7_fill_53178 0 = .ok (.iconst 0, 1) := by decide +kernel
theorem dJ7_fill_53178_1 : decode cJ7_fill_53178 1 = .ok (.istore_n 2, 1) := by decide +kernel
theorem dJ7_fill_53178_2 : decode cJ7_fill_53178 2 = .ok (.aload_n 0, 1) := by decide +kernel
theorem dJ7_fill_53178_3 : decode cJ7_fill_53178 3 = .ok (.arraylength, 1) := by decide +kernel
theorem dJ7_fill_53178_4 : decode cJ7_fill_53178 4 = .ok (.istore_n 3, 1) := by decide +kernel
theorem dJ7_fill_53178_5 : decode cJ7_fill_53178 5 = .ok (.iload_n 2, 1) := by decide +kernel
theorem dJ7_fill_53178_6 : decode cJ7_fill_53178 6 = .ok (.iload_n 3, 1) := by decide +kernel
theorem dJ7_fill_53178_7 : decode cJ7_fill_53178 7 = .ok (.if_icmp .ge 13, 3) := by decide +kernel
theorem dJ7_fill_53178_10 : decode cJ7_fill_53178 10 = .ok (.aload_n 0, 1) := by decide +kernel
theorem dJ7_fill_53178_11 : decode cJ7_fill_53178 11 = .ok (.iload_n 2, 1) := by decide +kernel
theorem dJ7_fill_53178_12 : decode cJ7_fill_53178 12 = .ok (.iload_n 1, 1) := by decide +kernel
theorem dJ7_fill_53178_13 : decode cJ7_fill_53178 13 = .ok (.iastore, 1) := by decide +kernel
theorem dJ7_fill_53178_14 : decode cJ7_fill_53178 14 = .ok (.iinc 2 1, 3) := by decide +kernel
theorem dJ7_fill_53178_17 : decode cJ7_fill_53178 17 = .ok (.goto (-12), 3) := by decide +kernel
theorem dJ7_fill_53178_20 : decode cJ7_fill_53178 20 = .ok (.return_, 1) := by decide +kernel
theorem dJ7_fill_031fb_0 : decode cJ7_fill_031fb 0 = .ok (.iconst 0, 1) := by decide +kernel
theorem dJ7_fill_031fb_1 : decode cJ7_fill_031fb 1 = .ok (.istore_n 2, 1) := by decide +kernel
theorem dJ7_fill_031fb_2 : decode cJ7_fill_031fb 2 = .ok (.aload_n 0, 1) := by decide +kernel
theorem dJ7_fill_031fb_3 : decode cJ7_fill_031fb 3 = .ok (.arraylength, 1) := by decide +kernel
theorem dJ7_fill_031fb_4 : decode cJ7_fill_031fb 4 = .ok (.istore_n 3, 1) := by decide +kernel
theorem dJ7_fill_031fb_5 : decode cJ7_fill_031fb 5 = .ok (.iload_n 2, 1) := by decide +kernel
theorem dJ7_fill_031fb_6 : decode cJ7_fill_031fb 6 = .ok (.iload_n 3, 1) := by decide +kernel
theorem dJ7_fill_031fb_7 : decode cJ7_fill_031fb 7 = .ok (.if_icmp .ge 13, 3) := by decide +kernel
theorem dJ7_fill_031fb_10 : decode cJ7_fill_031fb 10 = .ok (.aload_n 0, 1) := by decide +kernel
theorem dJ7_fill_031fb_11 : decode cJ7_fill_031fb 11 = .ok (.iload_n 2, 1) := by decide +kernel
theorem dJ7_fill_031fb_12 : decode cJ7_fill_031fb 12 = .ok (.iload_n 1, 1) := by decide +kernel
theorem dJ7_fill_031fb_13 : decode cJ7_fill_031fb 13 = .ok (.bastore, 1) := by decide +kernel
theorem dJ7_fill_031fb_14 : decode cJ7_fill_031fb 14 = .ok (.iinc 2 1, 3) := by decide +kernel
theorem dJ7_fill_031fb_17 : decode cJ7_fill_031fb 17 = .ok (.goto (-12), 3) := by decide +kernel
theorem dJ7_fill_031fb_20 : decode cJ7_fill_031fb 20 = .ok (.return_, 1) := by decide +kernel
theorem dL_law_0 : decode cL_law 0 = .ok (.new 7, 3) := by decide +kernel
theorem dL_law_3 : decode cL_law 3 = .ok (.dup, 1) := by decide +kernel
theorem dL_law_4 : decode cL_law 4 = .ok (.invokespecial 9, 3) := by decide +kernel
theorem dL_law_7 : decode cL_law 7 = .ok (.astore_n 1, 1) := by decide +kernel
theorem dL_law_8 : decode cL_law 8 = .ok (.new 10, 3) := by decide +kernel
theorem dL_law_11 : decode cL_law 11 = .ok (.dup, 1) := by decide +kernel
theorem dL_law_12 : decode cL_law 12 = .ok (.invokespecial 12, 3) := by decide +kernel
theorem dL_law_15 : decode cL_law 15 = .ok (.astore_n 2, 1) := by decide +kernel
theorem dL_law_16 : decode cL_law 16 = .ok (.iconst 0, 1) := by decide +kernel
theorem dL_law_17 : decode cL_law 17 = .ok (.istore_n 3, 1) := by decide +kernel
theorem dL_law_18 : decode cL_law 18 = .ok (.iload_n 3, 1) := by decide +kernel
theorem dL_law_19 : decode cL_law 19 = .ok (.aload_n 0, 1) := by decide +kernel
theorem dL_law_20 : decode cL_law 20 = .ok (.arraylength, 1) := by decide +kernel
theorem dL_law_21 : decode cL_law 21 = .ok (.bipush 7, 2) := by decide +kernel
theorem dL_law_23 : decode cL_law 23 = .ok (.isub, 1) := by decide +kernel
theorem dL_law_24 : decode cL_law 24 = .ok (.if_icmp .gt 1169, 3) := by decide +kernel
theorem dL_law_27 : decode cL_law 27 = .ok (.aload_n 0, 1) := by decide +kernel
theorem dL_law_28 : decode cL_law 28 = .ok (.iload_n 3, 1) := by decide +kernel
theorem dL_law_29 : decode cL_law 29 = .ok (.iaload, 1) := by decide +kernel
theorem dL_law_30 : decode cL_law 30 = .ok (.bipush 31, 2) := by decide +kernel
theorem dL_law_32 : decode cL_law 32 = .ok (.iand, 1) := by decide +kernel
theorem dL_law_33 : decode cL_law 33 = .ok (.tableswitch 1154 0 26 #[123, 186, 199, 212, 225, 288, 311, 344, 407, 471, 547, 580, 634, 668, 692, 755, 799, 832, 886, 919, 972, 985, 1028, 1051, 1105, 1118, 1131], 123) := by decide +kernel
theorem dL_law_156 : decode cL_law 156 = .ok (.aload_n 1, 1) := by decide +kernel
theorem dL_law_157 : decode cL_law 157 = .ok (.aload_n 0, 1) := by decide +kernel
theorem dL_law_158 : decode cL_law 158 = .ok (.iload_n 3, 1) := by decide +kernel
theorem dL_law_159 : decode cL_law 159 = .ok (.iconst 1, 1) := by decide +kernel
theorem dL_law_160 : decode cL_law 160 = .ok (.iadd, 1) := by decide +kernel
theorem dL_law_161 : decode cL_law 161 = .ok (.iaload, 1) := by decide +kernel
theorem dL_law_162 : decode cL_law 162 = .ok (.aload_n 0, 1) := by decide +kernel
theorem dL_law_163 : decode cL_law 163 = .ok (.iload_n 3, 1) := by decide +kernel
theorem dL_law_164 : decode cL_law 164 = .ok (.iconst 2, 1) := by decide +kernel
theorem dL_law_165 : decode cL_law 165 = .ok (.iadd, 1) := by decide +kernel
theorem dL_law_166 : decode cL_law 166 = .ok (.iaload, 1) := by decide +kernel
theorem dL_law_167 : decode cL_law 167 = .ok (.i2l, 1) := by decide +kernel
theorem dL_law_168 : decode cL_law 168 = .ok (.bipush 32, 2) := by decide +kernel
theorem dL_law_170 : decode cL_law 170 = .ok (.lshl, 1) := by decide +kernel
theorem dL_law_171 : decode cL_law 171 = .ok (.aload_n 0, 1) := by decide +kernel
theorem dL_law_172 : decode cL_law 172 = .ok (.iload_n 3, 1) := by decide +kernel
theorem dL_law_173 : decode cL_law 173 = .ok (.iconst 3, 1) := by decide +kernel
theorem dL_law_174 : decode cL_law 174 = .ok (.iadd, 1) := by decide +kernel
theorem dL_law_175 : decode cL_law 175 = .ok (.iaload, 1) := by decide +kernel
theorem dL_law_176 : decode cL_law 176 = .ok (.i2l, 1) := by decide +kernel
theorem dL_law_177 : decode cL_law 177 = .ok (.ldc2_w 13, 3) := by decide +kernel
theorem dL_law_180 : decode cL_law 180 = .ok (.land, 1) := by decide +kernel
theorem dL_law_181 : decode cL_law 181 = .ok (.lor, 1) := by decide +kernel
theorem dL_law_182 : decode cL_law 182 = .ok (.invokevirtual 15, 3) := by decide +kernel
theorem dL_law_185 : decode cL_law 185 = .ok (.aload_n 2, 1) := by decide +kernel
theorem dL_law_186 : decode cL_law 186 = .ok (.aload_n 0, 1) := by decide +kernel
theorem dL_law_187 : decode cL_law 187 = .ok (.iload_n 3, 1) := by decide +kernel
theorem dL_law_188 : decode cL_law 188 = .ok (.iconst 1, 1) := by decide +kernel
theorem dL_law_189 : decode cL_law 189 = .ok (.iadd, 1) := by decide +kernel
theorem dL_law_190 : decode cL_law 190 = .ok (.iaload, 1) := by decide +kernel
theorem dL_law_191 : decode cL_law 191 = .ok (.aload_n 0, 1) := by decide +kernel
theorem dL_law_192 : decode cL_law 192 = .ok (.iload_n 3, 1) := by decide +kernel
theorem dL_law_193 : decode cL_law 193 = .ok (.iconst 2, 1) := by decide +kernel
theorem dL_law_194 : decode cL_law 194 = .ok (.iadd, 1) := by decide +kernel
theorem dL_law_195 : decode cL_law 195 = .ok (.iaload, 1) := by decide +kernel
theorem dL_law_196 : decode cL_law 196 = .ok (.i2l, 1) := by decide +kernel
theorem dL_law_197 : decode cL_law 197 = .ok (.bipush 32, 2) := by decide +kernel
theorem dL_law_199 : decode cL_law 199 = .ok (.lshl, 1) := by decide +kernel
theorem dL_law_200 : decode cL_law 200 = .ok (.aload_n 0, 1) := by decide +kernel
theorem dL_law_201 : decode cL_law 201 = .ok (.iload_n 3, 1) := by decide +kernel
theorem dL_law_202 : decode cL_law 202 = .ok (.iconst 3, 1) := by decide +kernel
theorem dL_law_203 : decode cL_law 203 = .ok (.iadd, 1) := by decide +kernel
theorem dL_law_204 : decode cL_law 204 = .ok (.iaload, 1) := by decide +kernel
theorem dL_law_205 : decode cL_law 205 = .ok (.i2l, 1) := by decide +kernel
theorem dL_law_206 : decode cL_law 206 = .ok (.ldc2_w 13, 3) := by decide +kernel
theorem dL_law_209 : decode cL_law 209 = .ok (.land, 1) := by decide +kernel
theorem dL_law_210 : decode cL_law 210 = .ok (.lor, 1) := by decide +kernel
theorem dL_law_211 : decode cL_law 211 = .ok (.invokevirtual 19, 3) := by decide +kernel
theorem dL_law_214 : decode cL_law 214 = .ok (.if_icmp .eq 973, 3) := by decide +kernel
theorem dL_law_217 : decode cL_law 217 = .ok (.iconst 0, 1) := by decide +kernel
theorem dL_law_218 : decode cL_law 218 = .ok (.ireturn, 1) := by decide +kernel
theorem dL_law_219 : decode cL_law 219 = .ok (.aload_n 1, 1) := by decide +kernel
theorem dL_law_220 : decode cL_law 220 = .ok (.invokevirtual 20, 3) := by decide +kernel
theorem dL_law_223 : decode cL_law 223 = .ok (.aload_n 2, 1) := by decide +kernel
theorem dL_law_224 : decode cL_law 224 = .ok (.invokevirtual 24, 3) := by decide +kernel
theorem dL_law_227 : decode cL_law 227 = .ok (.if_icmp .eq 960, 3) := by decide +kernel
theorem dL_law_230 : decode cL_law 230 = .ok (.iconst 0, 1) := by decide +kernel
theorem dL_law_231 : decode cL_law 231 = .ok (.ireturn, 1) := by decide +kernel
theorem dL_law_232 : decode cL_law 232 = .ok (.aload_n 1, 1) := by decide +kernel
theorem dL_law_233 : decode cL_law 233 = .ok (.invokevirtual 25, 3) := by decide +kernel
theorem dL_law_236 : decode cL_law 236 = .ok (.aload_n 2, 1) := by decide +kernel
theorem dL_law_237 : decode cL_law 237 = .ok (.invokevirtual 28, 3) := by decide +kernel
theorem dL_law_240 : decode cL_law 240 = .ok (.if_icmp .eq 947, 3) := by decide +kernel
theorem dL_law_243 : decode cL_law 243 = .ok (.iconst 0, 1) := by decide +kernel
theorem dL_law_244 : decode cL_law 244 = .ok (.ireturn, 1) := by decide +kernel
theorem dL_law_245 : decode cL_law 245 = .ok (.aload_n 1, 1) := by decide +kernel
theorem dL_law_246 : decode cL_law 246 = .ok (.invokevirtual 29, 3) := by decide +kernel
theorem dL_law_249 : decode cL_law 249 = .ok (.aload_n 2, 1) := by decide +kernel
theorem dL_law_250 : decode cL_law 250 = .ok (.invokevirtual 32, 3) := by decide +kernel
theorem dL_law_253 : decode cL_law 253 = .ok (.if_icmp .eq 934, 3) := by decide +kernel
theorem dL_law_256 : decode cL_law 256 = .ok (.iconst 0, 1) := by decide +kernel
theorem dL_law_257 : decode cL_law 257 = .ok (.ireturn, 1) := by decide +kernel
theorem dL_law_258 : decode cL_law 258 = .ok (.aload_n 1, 1) := by decide +kernel
theorem dL_law_259 : decode cL_law 259 = .ok (.aload_n 0, 1) := by decide +kernel
theorem dL_law_260 : decode cL_law 260 = .ok (.iload_n 3, 1) := by decide +kernel
theorem dL_law_261 : decode cL_law 261 = .ok (.iconst 1, 1) := by decide +kernel
theorem dL_law_262 : decode cL_law 262 = .ok (.iadd, 1) := by decide +kernel
theorem dL_law_263 : decode cL_law 263 = .ok (.iaload, 1) := by decide +kernel
theorem dL_law_264 : decode cL_law 264 = .ok (.aload_n 0, 1) := by decide +kernel
theorem dL_law_265 : decode cL_law 265 = .ok (.iload_n 3, 1) := by decide +kernel
theorem dL_law_266 : decode cL_law 266 = .ok (.iconst 2, 1) := by decide +kernel
theorem dL_law_267 : decode cL_law 267 = .ok (.iadd, 1) := by decide +kernel
theorem dL_law_268 : decode cL_law 268 = .ok (.iaload, 1) := by decide +kernel
theorem dL_law_269 : decode cL_law 269 = .ok (.aload_n 0, 1) := by decide +kernel
theorem dL_law_270 : decode cL_law 270 = .ok (.iload_n 3, 1) := by decide +kernel
theorem dL_law_271 : decode cL_law 271 = .ok (.iconst 3, 1) := by decide +kernel
theorem dL_law_272 : decode cL_law 272 = .ok (.iadd, 1) := by decide +kernel
theorem dL_law_273 : decode cL_law 273 = .ok (.iaload, 1) := by decide +kernel
theorem dL_law_274 : decode cL_law 274 = .ok (.aload_n 0, 1) := by decide +kernel
theorem dL_law_275 : decode cL_law 275 = .ok (.iload_n 3, 1) := by decide +kernel
theorem dL_law_276 : decode cL_law 276 = .ok (.iconst 4, 1) := by decide +kernel
theorem dL_law_277 : decode cL_law 277 = .ok (.iadd, 1) := by decide +kernel
theorem dL_law_278 : decode cL_law 278 = .ok (.iaload, 1) := by decide +kernel
theorem dL_law_279 : decode cL_law 279 = .ok (.aload_n 0, 1) := by decide +kernel
theorem dL_law_280 : decode cL_law 280 = .ok (.iload_n 3, 1) := by decide +kernel
theorem dL_law_281 : decode cL_law 281 = .ok (.iconst 5, 1) := by decide +kernel
theorem dL_law_282 : decode cL_law 282 = .ok (.iadd, 1) := by decide +kernel
theorem dL_law_283 : decode cL_law 283 = .ok (.iaload, 1) := by decide +kernel
theorem dL_law_284 : decode cL_law 284 = .ok (.invokevirtual 33, 3) := by decide +kernel
theorem dL_law_287 : decode cL_law 287 = .ok (.aload_n 2, 1) := by decide +kernel
theorem dL_law_288 : decode cL_law 288 = .ok (.aload_n 0, 1) := by decide +kernel
theorem dL_law_289 : decode cL_law 289 = .ok (.iload_n 3, 1) := by decide +kernel
theorem dL_law_290 : decode cL_law 290 = .ok (.iconst 1, 1) := by decide +kernel
theorem dL_law_291 : decode cL_law 291 = .ok (.iadd, 1) := by decide +kernel
theorem dL_law_292 : decode cL_law 292 = .ok (.iaload, 1) := by decide +kernel
theorem dL_law_293 : decode cL_law 293 = .ok (.aload_n 0, 1) := by decide +kernel
theorem dL_law_294 : decode cL_law 294 = .ok (.iload_n 3, 1) := by decide +kernel
theorem dL_law_295 : decode cL_law 295 = .ok (.iconst 2, 1) := by decide +kernel
theorem dL_law_296 : decode cL_law 296 = .ok (.iadd, 1) := by decide +kernel
theorem dL_law_297 : decode cL_law 297 = .ok (.iaload, 1) := by decide +kernel
theorem dL_law_298 : decode cL_law 298 = .ok (.aload_n 0, 1) := by decide +kernel
theorem dL_law_299 : decode cL_law 299 = .ok (.iload_n 3, 1) := by decide +kernel
theorem dL_law_300 : decode cL_law 300 = .ok (.iconst 3, 1) := by decide +kernel
theorem dL_law_301 : decode cL_law 301 = .ok (.iadd, 1) := by decide +kernel
theorem dL_law_302 : decode cL_law 302 = .ok (.iaload, 1) := by decide +kernel
theorem dL_law_303 : decode cL_law 303 = .ok (.aload_n 0, 1) := by decide +kernel
theorem dL_law_304 : decode cL_law 304 = .ok (.iload_n 3, 1) := by decide +kernel
theorem dL_law_305 : decode cL_law 305 = .ok (.iconst 4, 1) := by decide +kernel
theorem dL_law_306 : decode cL_law 306 = .ok (.iadd, 1) := by decide +kernel
theorem dL_law_307 : decode cL_law 307 = .ok (.iaload, 1) := by decide +kernel
theorem dL_law_308 : decode cL_law 308 = .ok (.aload_n 0, 1) := by decide +kernel
theorem dL_law_309 : decode cL_law 309 = .ok (.iload_n 3, 1) := by decide +kernel
theorem dL_law_310 : decode cL_law 310 = .ok (.iconst 5, 1) := by decide +kernel
theorem dL_law_311 : decode cL_law 311 = .ok (.iadd, 1) := by decide +kernel
theorem dL_law_312 : decode cL_law 312 = .ok (.iaload, 1) := by decide +kernel
theorem dL_law_313 : decode cL_law 313 = .ok (.invokevirtual 37, 3) := by decide +kernel
theorem dL_law_316 : decode cL_law 316 = .ok (.if_icmp .eq 871, 3) := by decide +kernel
theorem dL_law_319 : decode cL_law 319 = .ok (.iconst 0, 1) := by decide +kernel
theorem dL_law_320 : decode cL_law 320 = .ok (.ireturn, 1) := by decide +kernel
theorem dL_law_321 : decode cL_law 321 = .ok (.aload_n 1, 1) := by decide +kernel
theorem dL_law_322 : decode cL_law 322 = .ok (.aload_n 0, 1) := by decide +kernel
theorem dL_law_323 : decode cL_law 323 = .ok (.iload_n 3, 1) := by decide +kernel
theorem dL_law_324 : decode cL_law 324 = .ok (.iconst 1, 1) := by decide +kernel
theorem dL_law_325 : decode cL_law 325 = .ok (.iadd, 1) := by decide +kernel
theorem dL_law_326 : decode cL_law 326 = .ok (.iaload, 1) := by decide +kernel
theorem dL_law_327 : decode cL_law 327 = .ok (.invokevirtual 38, 3) := by decide +kernel
theorem dL_law_330 : decode cL_law 330 = .ok (.aload_n 2, 1) := by decide +kernel
theorem dL_law_331 : decode cL_law 331 = .ok (.aload_n 0, 1) := by decide +kernel
theorem dL_law_332 : decode cL_law 332 = .ok (.iload_n 3, 1) := by decide +kernel
theorem dL_law_333 : decode cL_law 333 = .ok (.iconst 1, 1) := by decide +kernel
theorem dL_law_334 : decode cL_law 334 = .ok (.iadd, 1) := by decide +kernel
theorem dL_law_335 : decode cL_law 335 = .ok (.iaload, 1) := by decide +kernel
theorem dL_law_336 : decode cL_law 336 = .ok (.invokevirtual 42, 3) := by decide +kernel
theorem dL_law_339 : decode cL_law 339 = .ok (.if_icmp .eq 848, 3) := by decide +kernel
theorem dL_law_342 : decode cL_law 342 = .ok (.iconst 0, 1) := by decide +kernel
theorem dL_law_343 : decode cL_law 343 = .ok (.ireturn, 1) := by decide +kernel
theorem dL_law_344 : decode cL_law 344 = .ok (.aload_n 1, 1) := by decide +kernel
theorem dL_law_345 : decode cL_law 345 = .ok (.aload_n 0, 1) := by decide +kernel
theorem dL_law_346 : decode cL_law 346 = .ok (.iload_n 3, 1) := by decide +kernel
theorem dL_law_347 : decode cL_law 347 = .ok (.iconst 1, 1) := by decide +kernel
theorem dL_law_348 : decode cL_law 348 = .ok (.iadd, 1) := by decide +kernel
theorem dL_law_349 : decode cL_law 349 = .ok (.iaload, 1) := by decide +kernel
theorem dL_law_350 : decode cL_law 350 = .ok (.aload_n 0, 1) := by decide +kernel
theorem dL_law_351 : decode cL_law 351 = .ok (.iload_n 3, 1) := by decide +kernel
theorem dL_law_352 : decode cL_law 352 = .ok (.iconst 2, 1) := by decide +kernel
theorem dL_law_353 : decode cL_law 353 = .ok (.iadd, 1) := by decide +kernel
theorem dL_law_354 : decode cL_law 354 = .ok (.iaload, 1) := by decide +kernel
theorem dL_law_355 : decode cL_law 355 = .ok (.invokevirtual 43, 3) := by decide +kernel
theorem dL_law_358 : decode cL_law 358 = .ok (.aload_n 2, 1) := by decide +kernel
theorem dL_law_359 : decode cL_law 359 = .ok (.aload_n 0, 1) := by decide +kernel
theorem dL_law_360 : decode cL_law 360 = .ok (.iload_n 3, 1) := by decide +kernel
theorem dL_law_361 : decode cL_law 361 = .ok (.iconst 1, 1) := by decide +kernel
theorem dL_law_362 : decode cL_law 362 = .ok (.iadd, 1) := by decide +kernel
theorem dL_law_363 : decode cL_law 363 = .ok (.iaload, 1) := by decide +kernel
theorem dL_law_364 : decode cL_law 364 = .ok (.aload_n 0, 1) := by decide +kernel
theorem dL_law_365 : decode cL_law 365 = .ok (.iload_n 3, 1) := by decide +kernel
theorem dL_law_366 : decode cL_law 366 = .ok (.iconst 2, 1) := by decide +kernel
theorem dL_law_367 : decode cL_law 367 = .ok (.iadd, 1) := by decide +kernel
theorem dL_law_368 : decode cL_law 368 = .ok (.iaload, 1) := by decide +kernel
theorem dL_law_369 : decode cL_law 369 = .ok (.invokevirtual 47, 3) := by decide +kernel
theorem dL_law_372 : decode cL_law 372 = .ok (.if_icmp .eq 815, 3) := by decide +kernel
theorem dL_law_375 : decode cL_law 375 = .ok (.iconst 0, 1) := by decide +kernel
theorem dL_law_376 : decode cL_law 376 = .ok (.ireturn, 1) := by decide +kernel
theorem dL_law_377 : decode cL_law 377 = .ok (.aload_n 1, 1) := by decide +kernel
theorem dL_law_378 : decode cL_law 378 = .ok (.aload_n 0, 1) := by decide +kernel
theorem dL_law_379 : decode cL_law 379 = .ok (.iload_n 3, 1) := by decide +kernel
theorem dL_law_380 : decode cL_law 380 = .ok (.iconst 1, 1) := by decide +kernel
theorem dL_law_381 : decode cL_law 381 = .ok (.iadd, 1) := by decide +kernel
theorem dL_law_382 : decode cL_law 382 = .ok (.iaload, 1) := by decide +kernel
theorem dL_law_383 : decode cL_law 383 = .ok (.aload_n 0, 1) := by decide +kernel
theorem dL_law_384 : decode cL_law 384 = .ok (.iload_n 3, 1) := by decide +kernel
theorem dL_law_385 : decode cL_law 385 = .ok (.iconst 2, 1) := by decide +kernel
theorem dL_law_386 : decode cL_law 386 = .ok (.iadd, 1) := by decide +kernel
theorem dL_law_387 : decode cL_law 387 = .ok (.iaload, 1) := by decide +kernel
theorem dL_law_388 : decode cL_law 388 = .ok (.aload_n 0, 1) := by decide +kernel
theorem dL_law_389 : decode cL_law 389 = .ok (.iload_n 3, 1) := by decide +kernel
theorem dL_law_390 : decode cL_law 390 = .ok (.iconst 3, 1) := by decide +kernel
theorem dL_law_391 : decode cL_law 391 = .ok (.iadd, 1) := by decide +kernel
theorem dL_law_392 : decode cL_law 392 = .ok (.iaload, 1) := by decide +kernel
theorem dL_law_393 : decode cL_law 393 = .ok (.aload_n 0, 1) := by decide +kernel
theorem dL_law_394 : decode cL_law 394 = .ok (.iload_n 3, 1) := by decide +kernel
theorem dL_law_395 : decode cL_law 395 = .ok (.iconst 4, 1) := by decide +kernel
theorem dL_law_396 : decode cL_law 396 = .ok (.iadd, 1) := by decide +kernel
theorem dL_law_397 : decode cL_law 397 = .ok (.iaload, 1) := by decide +kernel
theorem dL_law_398 : decode cL_law 398 = .ok (.aload_n 0, 1) := by decide +kernel
theorem dL_law_399 : decode cL_law 399 = .ok (.iload_n 3, 1) := by decide +kernel
theorem dL_law_400 : decode cL_law 400 = .ok (.iconst 5, 1) := by decide +kernel
theorem dL_law_401 : decode cL_law 401 = .ok (.iadd, 1) := by decide +kernel
theorem dL_law_402 : decode cL_law 402 = .ok (.iaload, 1) := by decide +kernel
theorem dL_law_403 : decode cL_law 403 = .ok (.invokevirtual 48, 3) := by decide +kernel
theorem dL_law_406 : decode cL_law 406 = .ok (.aload_n 2, 1) := by decide +kernel
theorem dL_law_407 : decode cL_law 407 = .ok (.aload_n 0, 1) := by decide +kernel
theorem dL_law_408 : decode cL_law 408 = .ok (.iload_n 3, 1) := by decide +kernel
theorem dL_law_409 : decode cL_law 409 = .ok (.iconst 1, 1) := by decide +kernel
theorem dL_law_410 : decode cL_law 410 = .ok (.iadd, 1) := by decide +kernel
theorem dL_law_411 : decode cL_law 411 = .ok (.iaload, 1) := by decide +kernel
theorem dL_law_412 : decode cL_law 412 = .ok (.aload_n 0, 1) := by decide +kernel
theorem dL_law_413 : decode cL_law 413 = .ok (.iload_n 3, 1) := by decide +kernel
theorem dL_law_414 : decode cL_law 414 = .ok (.iconst 2, 1) := by decide +kernel
theorem dL_law_415 : decode cL_law 415 = .ok (.iadd, 1) := by decide +kernel
theorem dL_law_416 : decode cL_law 416 = .ok (.iaload, 1) := by decide +kernel
theorem dL_law_417 : decode cL_law 417 = .ok (.aload_n 0, 1) := by decide +kernel
theorem dL_law_418 : decode cL_law 418 = .ok (.iload_n 3, 1) := by decide +kernel
theorem dL_law_419 : decode cL_law 419 = .ok (.iconst 3, 1) := by decide +kernel
theorem dL_law_420 : decode cL_law 420 = .ok (.iadd, 1) := by decide +kernel
theorem dL_law_421 : decode cL_law 421 = .ok (.iaload, 1) := by decide +kernel
theorem dL_law_422 : decode cL_law 422 = .ok (.aload_n 0, 1) := by decide +kernel
theorem dL_law_423 : decode cL_law 423 = .ok (.iload_n 3, 1) := by decide +kernel
theorem dL_law_424 : decode cL_law 424 = .ok (.iconst 4, 1) := by decide +kernel
theorem dL_law_425 : decode cL_law 425 = .ok (.iadd, 1) := by decide +kernel
theorem dL_law_426 : decode cL_law 426 = .ok (.iaload, 1) := by decide +kernel
theorem dL_law_427 : decode cL_law 427 = .ok (.aload_n 0, 1) := by decide +kernel
theorem dL_law_428 : decode cL_law 428 = .ok (.iload_n 3, 1) := by decide +kernel
theorem dL_law_429 : decode cL_law 429 = .ok (.iconst 5, 1) := by decide +kernel
theorem dL_law_430 : decode cL_law 430 = .ok (.iadd, 1) := by decide +kernel
theorem dL_law_431 : decode cL_law 431 = .ok (.iaload, 1) := by decide +kernel
theorem dL_law_432 : decode cL_law 432 = .ok (.invokevirtual 51, 3) := by decide +kernel
theorem dL_law_435 : decode cL_law 435 = .ok (.if_icmp .eq 752, 3) := by decide +kernel
theorem dL_law_438 : decode cL_law 438 = .ok (.iconst 0, 1) := by decide +kernel
theorem dL_law_439 : decode cL_law 439 = .ok (.ireturn, 1) := by decide +kernel
theorem dL_law_440 : decode cL_law 440 = .ok (.aload_n 1, 1) := by decide +kernel
theorem dL_law_441 : decode cL_law 441 = .ok (.aload_n 0, 1) := by decide +kernel
theorem dL_law_442 : decode cL_law 442 = .ok (.iload_n 3, 1) := by decide +kernel
theorem dL_law_443 : decode cL_law 443 = .ok (.iconst 1, 1) := by decide +kernel
theorem dL_law_444 : decode cL_law 444 = .ok (.iadd, 1) := by decide +kernel
theorem dL_law_445 : decode cL_law 445 = .ok (.iaload, 1) := by decide +kernel
theorem dL_law_446 : decode cL_law 446 = .ok (.aload_n 0, 1) := by decide +kernel
theorem dL_law_447 : decode cL_law 447 = .ok (.iload_n 3, 1) := by decide +kernel
theorem dL_law_448 : decode cL_law 448 = .ok (.iconst 2, 1) := by decide +kernel
theorem dL_law_449 : decode cL_law 449 = .ok (.iadd, 1) := by decide +kernel
theorem dL_law_450 : decode cL_law 450 = .ok (.iaload, 1) := by decide +kernel
theorem dL_law_451 : decode cL_law 451 = .ok (.aload_n 0, 1) := by decide +kernel
theorem dL_law_452 : decode cL_law 452 = .ok (.iload_n 3, 1) := by decide +kernel
theorem dL_law_453 : decode cL_law 453 = .ok (.iconst 3, 1) := by decide +kernel
theorem dL_law_454 : decode cL_law 454 = .ok (.iadd, 1) := by decide +kernel
theorem dL_law_455 : decode cL_law 455 = .ok (.iaload, 1) := by decide +kernel
theorem dL_law_456 : decode cL_law 456 = .ok (.aload_n 0, 1) := by decide +kernel
theorem dL_law_457 : decode cL_law 457 = .ok (.iload_n 3, 1) := by decide +kernel
theorem dL_law_458 : decode cL_law 458 = .ok (.iconst 4, 1) := by decide +kernel
theorem dL_law_459 : decode cL_law 459 = .ok (.iadd, 1) := by decide +kernel
theorem dL_law_460 : decode cL_law 460 = .ok (.iaload, 1) := by decide +kernel
theorem dL_law_461 : decode cL_law 461 = .ok (.aload_n 0, 1) := by decide +kernel
theorem dL_law_462 : decode cL_law 462 = .ok (.iload_n 3, 1) := by decide +kernel
theorem dL_law_463 : decode cL_law 463 = .ok (.iconst 5, 1) := by decide +kernel
theorem dL_law_464 : decode cL_law 464 = .ok (.iadd, 1) := by decide +kernel
theorem dL_law_465 : decode cL_law 465 = .ok (.iaload, 1) := by decide +kernel
theorem dL_law_466 : decode cL_law 466 = .ok (.invokevirtual 52, 3) := by decide +kernel
theorem dL_law_469 : decode cL_law 469 = .ok (.aload_n 2, 1) := by decide +kernel
theorem dL_law_470 : decode cL_law 470 = .ok (.aload_n 0, 1) := by decide +kernel
theorem dL_law_471 : decode cL_law 471 = .ok (.iload_n 3, 1) := by decide +kernel
theorem dL_law_472 : decode cL_law 472 = .ok (.iconst 1, 1) := by decide +kernel
theorem dL_law_473 : decode cL_law 473 = .ok (.iadd, 1) := by decide +kernel
theorem dL_law_474 : decode cL_law 474 = .ok (.iaload, 1) := by decide +kernel
theorem dL_law_475 : decode cL_law 475 = .ok (.aload_n 0, 1) := by decide +kernel
theorem dL_law_476 : decode cL_law 476 = .ok (.iload_n 3, 1) := by decide +kernel
theorem dL_law_477 : decode cL_law 477 = .ok (.iconst 2, 1) := by decide +kernel
theorem dL_law_478 : decode cL_law 478 = .ok (.iadd, 1) := by decide +kernel
theorem dL_law_479 : decode cL_law 479 = .ok (.iaload, 1) := by decide +kernel
theorem dL_law_480 : decode cL_law 480 = .ok (.aload_n 0, 1) := by decide +kernel
theorem dL_law_481 : decode cL_law 481 = .ok (.iload_n 3, 1) := by decide +kernel
theorem dL_law_482 : decode cL_law 482 = .ok (.iconst 3, 1) := by decide +kernel
theorem dL_law_483 : decode cL_law 483 = .ok (.iadd, 1) := by decide +kernel
theorem dL_law_484 : decode cL_law 484 = .ok (.iaload, 1) := by decide +kernel
theorem dL_law_485 : decode cL_law 485 = .ok (.aload_n 0, 1) := by decide +kernel
theorem dL_law_486 : decode cL_law 486 = .ok (.iload_n 3, 1) := by decide +kernel
theorem dL_law_487 : decode cL_law 487 = .ok (.iconst 4, 1) := by decide +kernel
theorem dL_law_488 : decode cL_law 488 = .ok (.iadd, 1) := by decide +kernel
theorem dL_law_489 : decode cL_law 489 = .ok (.iaload, 1) := by decide +kernel
theorem dL_law_490 : decode cL_law 490 = .ok (.aload_n 0, 1) := by decide +kernel
theorem dL_law_491 : decode cL_law 491 = .ok (.iload_n 3, 1) := by decide +kernel
theorem dL_law_492 : decode cL_law 492 = .ok (.iconst 5, 1) := by decide +kernel
theorem dL_law_493 : decode cL_law 493 = .ok (.iadd, 1) := by decide +kernel
theorem dL_law_494 : decode cL_law 494 = .ok (.iaload, 1) := by decide +kernel
theorem dL_law_495 : decode cL_law 495 = .ok (.invokevirtual 56, 3) := by decide +kernel
theorem dL_law_498 : decode cL_law 498 = .ok (.lcmp, 1) := by decide +kernel
theorem dL_law_499 : decode cL_law 499 = .ok (.ifCond .eq 688, 3) := by decide +kernel
theorem dL_law_502 : decode cL_law 502 = .ok (.iconst 0, 1) := by decide +kernel
theorem dL_law_503 : decode cL_law 503 = .ok (.ireturn, 1) := by decide +kernel
theorem dL_law_504 : decode cL_law 504 = .ok (.aload_n 1, 1) := by decide +kernel
theorem dL_law_505 : decode cL_law 505 = .ok (.aload_n 0, 1) := by decide +kernel
theorem dL_law_506 : decode cL_law 506 = .ok (.iload_n 3, 1) := by decide +kernel
theorem dL_law_507 : decode cL_law 507 = .ok (.iconst 1, 1) := by decide +kernel
theorem dL_law_508 : decode cL_law 508 = .ok (.iadd, 1) := by decide +kernel
theorem dL_law_509 : decode cL_law 509 = .ok (.iaload, 1) := by decide +kernel
theorem dL_law_510 : decode cL_law 510 = .ok (.aload_n 0, 1) := by decide +kernel
theorem dL_law_511 : decode cL_law 511 = .ok (.iload_n 3, 1) := by decide +kernel
theorem dL_law_512 : decode cL_law 512 = .ok (.iconst 2, 1) := by decide +kernel
theorem dL_law_513 : decode cL_law 513 = .ok (.iadd, 1) := by decide +kernel
theorem dL_law_514 : decode cL_law 514 = .ok (.iaload, 1) := by decide +kernel
theorem dL_law_515 : decode cL_law 515 = .ok (.aload_n 0, 1) := by decide +kernel
theorem dL_law_516 : decode cL_law 516 = .ok (.iload_n 3, 1) := by decide +kernel
theorem dL_law_517 : decode cL_law 517 = .ok (.iconst 3, 1) := by decide +kernel
theorem dL_law_518 : decode cL_law 518 = .ok (.iadd, 1) := by decide +kernel
theorem dL_law_519 : decode cL_law 519 = .ok (.iaload, 1) := by decide +kernel
theorem dL_law_520 : decode cL_law 520 = .ok (.aload_n 0, 1) := by decide +kernel
theorem dL_law_521 : decode cL_law 521 = .ok (.iload_n 3, 1) := by decide +kernel
theorem dL_law_522 : decode cL_law 522 = .ok (.iconst 4, 1) := by decide +kernel
theorem dL_law_523 : decode cL_law 523 = .ok (.iadd, 1) := by decide +kernel
theorem dL_law_524 : decode cL_law 524 = .ok (.iaload, 1) := by decide +kernel
theorem dL_law_525 : decode cL_law 525 = .ok (.aload_n 0, 1) := by decide +kernel
theorem dL_law_526 : decode cL_law 526 = .ok (.iload_n 3, 1) := by decide +kernel
theorem dL_law_527 : decode cL_law 527 = .ok (.iconst 5, 1) := by decide +kernel
theorem dL_law_528 : decode cL_law 528 = .ok (.iadd, 1) := by decide +kernel
theorem dL_law_529 : decode cL_law 529 = .ok (.iaload, 1) := by decide +kernel
theorem dL_law_530 : decode cL_law 530 = .ok (.aload_n 0, 1) := by decide +kernel
theorem dL_law_531 : decode cL_law 531 = .ok (.iload_n 3, 1) := by decide +kernel
theorem dL_law_532 : decode cL_law 532 = .ok (.bipush 6, 2) := by decide +kernel
theorem dL_law_534 : decode cL_law 534 = .ok (.iadd, 1) := by decide +kernel
theorem dL_law_535 : decode cL_law 535 = .ok (.iaload, 1) := by decide +kernel
theorem dL_law_536 : decode cL_law 536 = .ok (.invokevirtual 57, 3) := by decide +kernel
theorem dL_law_539 : decode cL_law 539 = .ok (.aload_n 2, 1) := by decide +kernel
theorem dL_law_540 : decode cL_law 540 = .ok (.aload_n 0, 1) := by decide +kernel
theorem dL_law_541 : decode cL_law 541 = .ok (.iload_n 3, 1) := by decide +kernel
theorem dL_law_542 : decode cL_law 542 = .ok (.iconst 1, 1) := by decide +kernel
theorem dL_law_543 : decode cL_law 543 = .ok (.iadd, 1) := by decide +kernel
theorem dL_law_544 : decode cL_law 544 = .ok (.iaload, 1) := by decide +kernel
theorem dL_law_545 : decode cL_law 545 = .ok (.aload_n 0, 1) := by decide +kernel
theorem dL_law_546 : decode cL_law 546 = .ok (.iload_n 3, 1) := by decide +kernel
theorem dL_law_547 : decode cL_law 547 = .ok (.iconst 2, 1) := by decide +kernel
theorem dL_law_548 : decode cL_law 548 = .ok (.iadd, 1) := by decide +kernel
theorem dL_law_549 : decode cL_law 549 = .ok (.iaload, 1) := by decide +kernel
theorem dL_law_550 : decode cL_law 550 = .ok (.aload_n 0, 1) := by decide +kernel
theorem dL_law_551 : decode cL_law 551 = .ok (.iload_n 3, 1) := by decide +kernel
theorem dL_law_552 : decode cL_law 552 = .ok (.iconst 3, 1) := by decide +kernel
theorem dL_law_553 : decode cL_law 553 = .ok (.iadd, 1) := by decide +kernel
theorem dL_law_554 : decode cL_law 554 = .ok (.iaload, 1) := by decide +kernel
theorem dL_law_555 : decode cL_law 555 = .ok (.aload_n 0, 1) := by decide +kernel
theorem dL_law_556 : decode cL_law 556 = .ok (.iload_n 3, 1) := by decide +kernel
theorem dL_law_557 : decode cL_law 557 = .ok (.iconst 4, 1) := by decide +kernel
theorem dL_law_558 : decode cL_law 558 = .ok (.iadd, 1) := by decide +kernel
theorem dL_law_559 : decode cL_law 559 = .ok (.iaload, 1) := by decide +kernel
theorem dL_law_560 : decode cL_law 560 = .ok (.aload_n 0, 1) := by decide +kernel
theorem dL_law_561 : decode cL_law 561 = .ok (.iload_n 3, 1) := by decide +kernel
theorem dL_law_562 : decode cL_law 562 = .ok (.iconst 5, 1) := by decide +kernel
theorem dL_law_563 : decode cL_law 563 = .ok (.iadd, 1) := by decide +kernel
theorem dL_law_564 : decode cL_law 564 = .ok (.iaload, 1) := by decide +kernel
theorem dL_law_565 : decode cL_law 565 = .ok (.aload_n 0, 1) := by decide +kernel
theorem dL_law_566 : decode cL_law 566 = .ok (.iload_n 3, 1) := by decide +kernel
theorem dL_law_567 : decode cL_law 567 = .ok (.bipush 6, 2) := by decide +kernel
theorem dL_law_569 : decode cL_law 569 = .ok (.iadd, 1) := by decide +kernel
theorem dL_law_570 : decode cL_law 570 = .ok (.iaload, 1) := by decide +kernel
theorem dL_law_571 : decode cL_law 571 = .ok (.invokevirtual 61, 3) := by decide +kernel
theorem dL_law_574 : decode cL_law 574 = .ok (.lcmp, 1) := by decide +kernel
theorem dL_law_575 : decode cL_law 575 = .ok (.ifCond .eq 612, 3) := by decide +kernel
theorem dL_law_578 : decode cL_law 578 = .ok (.iconst 0, 1) := by decide +kernel
theorem dL_law_579 : decode cL_law 579 = .ok (.ireturn, 1) := by decide +kernel
theorem dL_law_580 : decode cL_law 580 = .ok (.aload_n 1, 1) := by decide +kernel
theorem dL_law_581 : decode cL_law 581 = .ok (.aload_n 0, 1) := by decide +kernel
theorem dL_law_582 : decode cL_law 582 = .ok (.iload_n 3, 1) := by decide +kernel
theorem dL_law_583 : decode cL_law 583 = .ok (.iconst 1, 1) := by decide +kernel
theorem dL_law_584 : decode cL_law 584 = .ok (.iadd, 1) := by decide +kernel
theorem dL_law_585 : decode cL_law 585 = .ok (.iaload, 1) := by decide +kernel
theorem dL_law_586 : decode cL_law 586 = .ok (.aload_n 0, 1) := by decide +kernel
theorem dL_law_587 : decode cL_law 587 = .ok (.iload_n 3, 1) := by decide +kernel
theorem dL_law_588 : decode cL_law 588 = .ok (.iconst 2, 1) := by decide +kernel
theorem dL_law_589 : decode cL_law 589 = .ok (.iadd, 1) := by decide +kernel
theorem dL_law_590 : decode cL_law 590 = .ok (.iaload, 1) := by decide +kernel
theorem dL_law_591 : decode cL_law 591 = .ok (.invokevirtual 62, 3) := by decide +kernel
theorem dL_law_594 : decode cL_law 594 = .ok (.aload_n 2, 1) := by decide +kernel
theorem dL_law_595 : decode cL_law 595 = .ok (.aload_n 0, 1) := by decide +kernel
theorem dL_law_596 : decode cL_law 596 = .ok (.iload_n 3, 1) := by decide +kernel
theorem dL_law_597 : decode cL_law 597 = .ok (.iconst 1, 1) := by decide +kernel
theorem dL_law_598 : decode cL_law 598 = .ok (.iadd, 1) := by decide +kernel
theorem dL_law_599 : decode cL_law 599 = .ok (.iaload, 1) := by decide +kernel
theorem dL_law_600 : decode cL_law 600 = .ok (.aload_n 0, 1) := by decide +kernel
theorem dL_law_601 : decode cL_law 601 = .ok (.iload_n 3, 1) := by decide +kernel
theorem dL_law_602 : decode cL_law 602 = .ok (.iconst 2, 1) := by decide +kernel
theorem dL_law_603 : decode cL_law 603 = .ok (.iadd, 1) := by decide +kernel
theorem dL_law_604 : decode cL_law 604 = .ok (.iaload, 1) := by decide +kernel
theorem dL_law_605 : decode cL_law 605 = .ok (.invokevirtual 65, 3) := by decide +kernel
theorem dL_law_608 : decode cL_law 608 = .ok (.if_icmp .eq 579, 3) := by decide +kernel
theorem dL_law_611 : decode cL_law 611 = .ok (.iconst 0, 1) := by decide +kernel
theorem dL_law_612 : decode cL_law 612 = .ok (.ireturn, 1) := by decide +kernel
theorem dL_law_613 : decode cL_law 613 = .ok (.aload_n 1, 1) := by decide +kernel
theorem dL_law_614 : decode cL_law 614 = .ok (.aload_n 0, 1) := by decide +kernel
theorem dL_law_615 : decode cL_law 615 = .ok (.iload_n 3, 1) := by decide +kernel
theorem dL_law_616 : decode cL_law 616 = .ok (.iconst 1, 1) := by decide +kernel
theorem dL_law_617 : decode cL_law 617 = .ok (.iadd, 1) := by decide +kernel
theorem dL_law_618 : decode cL_law 618 = .ok (.iaload, 1) := by decide +kernel
theorem dL_law_619 : decode cL_law 619 = .ok (.aload_n 0, 1) := by decide +kernel
theorem dL_law_620 : decode cL_law 620 = .ok (.iload_n 3, 1) := by decide +kernel
theorem dL_law_621 : decode cL_law 621 = .ok (.iconst 2, 1) := by decide +kernel
theorem dL_law_622 : decode cL_law 622 = .ok (.iadd, 1) := by decide +kernel
theorem dL_law_623 : decode cL_law 623 = .ok (.iaload, 1) := by decide +kernel
theorem dL_law_624 : decode cL_law 624 = .ok (.aload_n 0, 1) := by decide +kernel
theorem dL_law_625 : decode cL_law 625 = .ok (.iload_n 3, 1) := by decide +kernel
theorem dL_law_626 : decode cL_law 626 = .ok (.iconst 3, 1) := by decide +kernel
theorem dL_law_627 : decode cL_law 627 = .ok (.iadd, 1) := by decide +kernel
theorem dL_law_628 : decode cL_law 628 = .ok (.iaload, 1) := by decide +kernel
theorem dL_law_629 : decode cL_law 629 = .ok (.aload_n 0, 1) := by decide +kernel
theorem dL_law_630 : decode cL_law 630 = .ok (.iload_n 3, 1) := by decide +kernel
theorem dL_law_631 : decode cL_law 631 = .ok (.iconst 4, 1) := by decide +kernel
theorem dL_law_632 : decode cL_law 632 = .ok (.iadd, 1) := by decide +kernel
theorem dL_law_633 : decode cL_law 633 = .ok (.iaload, 1) := by decide +kernel
theorem dL_law_634 : decode cL_law 634 = .ok (.invokevirtual 66, 3) := by decide +kernel
theorem dL_law_637 : decode cL_law 637 = .ok (.aload_n 2, 1) := by decide +kernel
theorem dL_law_638 : decode cL_law 638 = .ok (.aload_n 0, 1) := by decide +kernel
theorem dL_law_639 : decode cL_law 639 = .ok (.iload_n 3, 1) := by decide +kernel
theorem dL_law_640 : decode cL_law 640 = .ok (.iconst 1, 1) := by decide +kernel
theorem dL_law_641 : decode cL_law 641 = .ok (.iadd, 1) := by decide +kernel
theorem dL_law_642 : decode cL_law 642 = .ok (.iaload, 1) := by decide +kernel
theorem dL_law_643 : decode cL_law 643 = .ok (.aload_n 0, 1) := by decide +kernel
theorem dL_law_644 : decode cL_law 644 = .ok (.iload_n 3, 1) := by decide +kernel
theorem dL_law_645 : decode cL_law 645 = .ok (.iconst 2, 1) := by decide +kernel
theorem dL_law_646 : decode cL_law 646 = .ok (.iadd, 1) := by decide +kernel
theorem dL_law_647 : decode cL_law 647 = .ok (.iaload, 1) := by decide +kernel
theorem dL_law_648 : decode cL_law 648 = .ok (.aload_n 0, 1) := by decide +kernel
theorem dL_law_649 : decode cL_law 649 = .ok (.iload_n 3, 1) := by decide +kernel
theorem dL_law_650 : decode cL_law 650 = .ok (.iconst 3, 1) := by decide +kernel
theorem dL_law_651 : decode cL_law 651 = .ok (.iadd, 1) := by decide +kernel
theorem dL_law_652 : decode cL_law 652 = .ok (.iaload, 1) := by decide +kernel
theorem dL_law_653 : decode cL_law 653 = .ok (.aload_n 0, 1) := by decide +kernel
theorem dL_law_654 : decode cL_law 654 = .ok (.iload_n 3, 1) := by decide +kernel
theorem dL_law_655 : decode cL_law 655 = .ok (.iconst 4, 1) := by decide +kernel
theorem dL_law_656 : decode cL_law 656 = .ok (.iadd, 1) := by decide +kernel
theorem dL_law_657 : decode cL_law 657 = .ok (.iaload, 1) := by decide +kernel
theorem dL_law_658 : decode cL_law 658 = .ok (.invokevirtual 70, 3) := by decide +kernel
theorem dL_law_661 : decode cL_law 661 = .ok (.lcmp, 1) := by decide +kernel
theorem dL_law_662 : decode cL_law 662 = .ok (.ifCond .eq 525, 3) := by decide +kernel
theorem dL_law_665 : decode cL_law 665 = .ok (.iconst 0, 1) := by decide +kernel
theorem dL_law_666 : decode cL_law 666 = .ok (.ireturn, 1) := by decide +kernel
theorem dL_law_667 : decode cL_law 667 = .ok (.aload_n 1, 1) := by decide +kernel
theorem dL_law_668 : decode cL_law 668 = .ok (.aload_n 0, 1) := by decide +kernel
theorem dL_law_669 : decode cL_law 669 = .ok (.iload_n 3, 1) := by decide +kernel
theorem dL_law_670 : decode cL_law 670 = .ok (.iconst 1, 1) := by decide +kernel
theorem dL_law_671 : decode cL_law 671 = .ok (.iadd, 1) := by decide +kernel
theorem dL_law_672 : decode cL_law 672 = .ok (.iaload, 1) := by decide +kernel
theorem dL_law_673 : decode cL_law 673 = .ok (.aload_n 0, 1) := by decide +kernel
theorem dL_law_674 : decode cL_law 674 = .ok (.iload_n 3, 1) := by decide +kernel
theorem dL_law_675 : decode cL_law 675 = .ok (.iconst 2, 1) := by decide +kernel
theorem dL_law_676 : decode cL_law 676 = .ok (.iadd, 1) := by decide +kernel
theorem dL_law_677 : decode cL_law 677 = .ok (.iaload, 1) := by decide +kernel
theorem dL_law_678 : decode cL_law 678 = .ok (.invokevirtual 71, 3) := by decide +kernel
theorem dL_law_681 : decode cL_law 681 = .ok (.aload_n 2, 1) := by decide +kernel
theorem dL_law_682 : decode cL_law 682 = .ok (.aload_n 0, 1) := by decide +kernel
theorem dL_law_683 : decode cL_law 683 = .ok (.iload_n 3, 1) := by decide +kernel
theorem dL_law_684 : decode cL_law 684 = .ok (.iconst 1, 1) := by decide +kernel
theorem dL_law_685 : decode cL_law 685 = .ok (.iadd, 1) := by decide +kernel
theorem dL_law_686 : decode cL_law 686 = .ok (.iaload, 1) := by decide +kernel
theorem dL_law_687 : decode cL_law 687 = .ok (.aload_n 0, 1) := by decide +kernel
theorem dL_law_688 : decode cL_law 688 = .ok (.iload_n 3, 1) := by decide +kernel
theorem dL_law_689 : decode cL_law 689 = .ok (.iconst 2, 1) := by decide +kernel
theorem dL_law_690 : decode cL_law 690 = .ok (.iadd, 1) := by decide +kernel
theorem dL_law_691 : decode cL_law 691 = .ok (.iaload, 1) := by decide +kernel
theorem dL_law_692 : decode cL_law 692 = .ok (.invokevirtual 75, 3) := by decide +kernel
theorem dL_law_695 : decode cL_law 695 = .ok (.lcmp, 1) := by decide +kernel
theorem dL_law_696 : decode cL_law 696 = .ok (.ifCond .eq 491, 3) := by decide +kernel
theorem dL_law_699 : decode cL_law 699 = .ok (.iconst 0, 1) := by decide +kernel
theorem dL_law_700 : decode cL_law 700 = .ok (.ireturn, 1) := by decide +kernel
theorem dL_law_701 : decode cL_law 701 = .ok (.aload_n 1, 1) := by decide +kernel
theorem dL_law_702 : decode cL_law 702 = .ok (.aload_n 0, 1) := by decide +kernel
theorem dL_law_703 : decode cL_law 703 = .ok (.iload_n 3, 1) := by decide +kernel
theorem dL_law_704 : decode cL_law 704 = .ok (.iconst 1, 1) := by decide +kernel
theorem dL_law_705 : decode cL_law 705 = .ok (.iadd, 1) := by decide +kernel
theorem dL_law_706 : decode cL_law 706 = .ok (.iaload, 1) := by decide +kernel
theorem dL_law_707 : decode cL_law 707 = .ok (.invokevirtual 76, 3) := by decide +kernel
theorem dL_law_710 : decode cL_law 710 = .ok (.aload_n 2, 1) := by decide +kernel
theorem dL_law_711 : decode cL_law 711 = .ok (.aload_n 0, 1) := by decide +kernel
theorem dL_law_712 : decode cL_law 712 = .ok (.iload_n 3, 1) := by decide +kernel
theorem dL_law_713 : decode cL_law 713 = .ok (.iconst 1, 1) := by decide +kernel
theorem dL_law_714 : decode cL_law 714 = .ok (.iadd, 1) := by decide +kernel
theorem dL_law_715 : decode cL_law 715 = .ok (.iaload, 1) := by decide +kernel
theorem dL_law_716 : decode cL_law 716 = .ok (.invokevirtual 80, 3) := by decide +kernel
theorem dL_law_719 : decode cL_law 719 = .ok (.lcmp, 1) := by decide +kernel
theorem dL_law_720 : decode cL_law 720 = .ok (.ifCond .eq 467, 3) := by decide +kernel
theorem dL_law_723 : decode cL_law 723 = .ok (.iconst 0, 1) := by decide +kernel
theorem dL_law_724 : decode cL_law 724 = .ok (.ireturn, 1) := by decide +kernel
theorem dL_law_725 : decode cL_law 725 = .ok (.aload_n 1, 1) := by decide +kernel
theorem dL_law_726 : decode cL_law 726 = .ok (.aload_n 0, 1) := by decide +kernel
theorem dL_law_727 : decode cL_law 727 = .ok (.iload_n 3, 1) := by decide +kernel
theorem dL_law_728 : decode cL_law 728 = .ok (.iconst 1, 1) := by decide +kernel
theorem dL_law_729 : decode cL_law 729 = .ok (.iadd, 1) := by decide +kernel
theorem dL_law_730 : decode cL_law 730 = .ok (.iaload, 1) := by decide +kernel
theorem dL_law_731 : decode cL_law 731 = .ok (.aload_n 0, 1) := by decide +kernel
theorem dL_law_732 : decode cL_law 732 = .ok (.iload_n 3, 1) := by decide +kernel
theorem dL_law_733 : decode cL_law 733 = .ok (.iconst 2, 1) := by decide +kernel
theorem dL_law_734 : decode cL_law 734 = .ok (.iadd, 1) := by decide +kernel
theorem dL_law_735 : decode cL_law 735 = .ok (.iaload, 1) := by decide +kernel
theorem dL_law_736 : decode cL_law 736 = .ok (.aload_n 0, 1) := by decide +kernel
theorem dL_law_737 : decode cL_law 737 = .ok (.iload_n 3, 1) := by decide +kernel
theorem dL_law_738 : decode cL_law 738 = .ok (.iconst 3, 1) := by decide +kernel
theorem dL_law_739 : decode cL_law 739 = .ok (.iadd, 1) := by decide +kernel
theorem dL_law_740 : decode cL_law 740 = .ok (.iaload, 1) := by decide +kernel
theorem dL_law_741 : decode cL_law 741 = .ok (.aload_n 0, 1) := by decide +kernel
theorem dL_law_742 : decode cL_law 742 = .ok (.iload_n 3, 1) := by decide +kernel
theorem dL_law_743 : decode cL_law 743 = .ok (.iconst 4, 1) := by decide +kernel
theorem dL_law_744 : decode cL_law 744 = .ok (.iadd, 1) := by decide +kernel
theorem dL_law_745 : decode cL_law 745 = .ok (.iaload, 1) := by decide +kernel
theorem dL_law_746 : decode cL_law 746 = .ok (.aload_n 0, 1) := by decide +kernel
theorem dL_law_747 : decode cL_law 747 = .ok (.iload_n 3, 1) := by decide +kernel
theorem dL_law_748 : decode cL_law 748 = .ok (.iconst 5, 1) := by decide +kernel
theorem dL_law_749 : decode cL_law 749 = .ok (.iadd, 1) := by decide +kernel
theorem dL_law_750 : decode cL_law 750 = .ok (.iaload, 1) := by decide +kernel
theorem dL_law_751 : decode cL_law 751 = .ok (.invokevirtual 81, 3) := by decide +kernel
theorem dL_law_754 : decode cL_law 754 = .ok (.aload_n 2, 1) := by decide +kernel
theorem dL_law_755 : decode cL_law 755 = .ok (.aload_n 0, 1) := by decide +kernel
theorem dL_law_756 : decode cL_law 756 = .ok (.iload_n 3, 1) := by decide +kernel
theorem dL_law_757 : decode cL_law 757 = .ok (.iconst 1, 1) := by decide +kernel
theorem dL_law_758 : decode cL_law 758 = .ok (.iadd, 1) := by decide +kernel
theorem dL_law_759 : decode cL_law 759 = .ok (.iaload, 1) := by decide +kernel
theorem dL_law_760 : decode cL_law 760 = .ok (.aload_n 0, 1) := by decide +kernel
theorem dL_law_761 : decode cL_law 761 = .ok (.iload_n 3, 1) := by decide +kernel
theorem dL_law_762 : decode cL_law 762 = .ok (.iconst 2, 1) := by decide +kernel
theorem dL_law_763 : decode cL_law 763 = .ok (.iadd, 1) := by decide +kernel
theorem dL_law_764 : decode cL_law 764 = .ok (.iaload, 1) := by decide +kernel
theorem dL_law_765 : decode cL_law 765 = .ok (.aload_n 0, 1) := by decide +kernel
theorem dL_law_766 : decode cL_law 766 = .ok (.iload_n 3, 1) := by decide +kernel
theorem dL_law_767 : decode cL_law 767 = .ok (.iconst 3, 1) := by decide +kernel
theorem dL_law_768 : decode cL_law 768 = .ok (.iadd, 1) := by decide +kernel
theorem dL_law_769 : decode cL_law 769 = .ok (.iaload, 1) := by decide +kernel
theorem dL_law_770 : decode cL_law 770 = .ok (.aload_n 0, 1) := by decide +kernel
theorem dL_law_771 : decode cL_law 771 = .ok (.iload_n 3, 1) := by decide +kernel
theorem dL_law_772 : decode cL_law 772 = .ok (.iconst 4, 1) := by decide +kernel
theorem dL_law_773 : decode cL_law 773 = .ok (.iadd, 1) := by decide +kernel
theorem dL_law_774 : decode cL_law 774 = .ok (.iaload, 1) := by decide +kernel
theorem dL_law_775 : decode cL_law 775 = .ok (.aload_n 0, 1) := by decide +kernel
theorem dL_law_776 : decode cL_law 776 = .ok (.iload_n 3, 1) := by decide +kernel
theorem dL_law_777 : decode cL_law 777 = .ok (.iconst 5, 1) := by decide +kernel
theorem dL_law_778 : decode cL_law 778 = .ok (.iadd, 1) := by decide +kernel
theorem dL_law_779 : decode cL_law 779 = .ok (.iaload, 1) := by decide +kernel
theorem dL_law_780 : decode cL_law 780 = .ok (.invokevirtual 84, 3) := by decide +kernel
theorem dL_law_783 : decode cL_law 783 = .ok (.if_icmp .eq 404, 3) := by decide +kernel
theorem dL_law_786 : decode cL_law 786 = .ok (.iconst 0, 1) := by decide +kernel
theorem dL_law_787 : decode cL_law 787 = .ok (.ireturn, 1) := by decide +kernel
theorem dL_law_788 : decode cL_law 788 = .ok (.aload_n 1, 1) := by decide +kernel
theorem dL_law_789 : decode cL_law 789 = .ok (.aload_n 0, 1) := by decide +kernel
theorem dL_law_790 : decode cL_law 790 = .ok (.iload_n 3, 1) := by decide +kernel
theorem dL_law_791 : decode cL_law 791 = .ok (.iconst 1, 1) := by decide +kernel
theorem dL_law_792 : decode cL_law 792 = .ok (.iadd, 1) := by decide +kernel
theorem dL_law_793 : decode cL_law 793 = .ok (.iaload, 1) := by decide +kernel
theorem dL_law_794 : decode cL_law 794 = .ok (.aload_n 0, 1) := by decide +kernel
theorem dL_law_795 : decode cL_law 795 = .ok (.iload_n 3, 1) := by decide +kernel
theorem dL_law_796 : decode cL_law 796 = .ok (.iconst 2, 1) := by decide +kernel
theorem dL_law_797 : decode cL_law 797 = .ok (.iadd, 1) := by decide +kernel
theorem dL_law_798 : decode cL_law 798 = .ok (.iaload, 1) := by decide +kernel
theorem dL_law_799 : decode cL_law 799 = .ok (.aload_n 0, 1) := by decide +kernel
theorem dL_law_800 : decode cL_law 800 = .ok (.iload_n 3, 1) := by decide +kernel
theorem dL_law_801 : decode cL_law 801 = .ok (.iconst 3, 1) := by decide +kernel
theorem dL_law_802 : decode cL_law 802 = .ok (.iadd, 1) := by decide +kernel
theorem dL_law_803 : decode cL_law 803 = .ok (.iaload, 1) := by decide +kernel
theorem dL_law_804 : decode cL_law 804 = .ok (.invokevirtual 85, 3) := by decide +kernel
theorem dL_law_807 : decode cL_law 807 = .ok (.aload_n 2, 1) := by decide +kernel
theorem dL_law_808 : decode cL_law 808 = .ok (.aload_n 0, 1) := by decide +kernel
theorem dL_law_809 : decode cL_law 809 = .ok (.iload_n 3, 1) := by decide +kernel
theorem dL_law_810 : decode cL_law 810 = .ok (.iconst 1, 1) := by decide +kernel
theorem dL_law_811 : decode cL_law 811 = .ok (.iadd, 1) := by decide +kernel
theorem dL_law_812 : decode cL_law 812 = .ok (.iaload, 1) := by decide +kernel
theorem dL_law_813 : decode cL_law 813 = .ok (.aload_n 0, 1) := by decide +kernel
theorem dL_law_814 : decode cL_law 814 = .ok (.iload_n 3, 1) := by decide +kernel
theorem dL_law_815 : decode cL_law 815 = .ok (.iconst 2, 1) := by decide +kernel
theorem dL_law_816 : decode cL_law 816 = .ok (.iadd, 1) := by decide +kernel
theorem dL_law_817 : decode cL_law 817 = .ok (.iaload, 1) := by decide +kernel
theorem dL_law_818 : decode cL_law 818 = .ok (.aload_n 0, 1) := by decide +kernel
theorem dL_law_819 : decode cL_law 819 = .ok (.iload_n 3, 1) := by decide +kernel
theorem dL_law_820 : decode cL_law 820 = .ok (.iconst 3, 1) := by decide +kernel
theorem dL_law_821 : decode cL_law 821 = .ok (.iadd, 1) := by decide +kernel
theorem dL_law_822 : decode cL_law 822 = .ok (.iaload, 1) := by decide +kernel
theorem dL_law_823 : decode cL_law 823 = .ok (.invokevirtual 89, 3) := by decide +kernel
theorem dL_law_826 : decode cL_law 826 = .ok (.lcmp, 1) := by decide +kernel
theorem dL_law_827 : decode cL_law 827 = .ok (.ifCond .eq 360, 3) := by decide +kernel
theorem dL_law_830 : decode cL_law 830 = .ok (.iconst 0, 1) := by decide +kernel
theorem dL_law_831 : decode cL_law 831 = .ok (.ireturn, 1) := by decide +kernel
theorem dL_law_832 : decode cL_law 832 = .ok (.aload_n 1, 1) := by decide +kernel
theorem dL_law_833 : decode cL_law 833 = .ok (.aload_n 0, 1) := by decide +kernel
theorem dL_law_834 : decode cL_law 834 = .ok (.iload_n 3, 1) := by decide +kernel
theorem dL_law_835 : decode cL_law 835 = .ok (.iconst 1, 1) := by decide +kernel
theorem dL_law_836 : decode cL_law 836 = .ok (.iadd, 1) := by decide +kernel
theorem dL_law_837 : decode cL_law 837 = .ok (.iaload, 1) := by decide +kernel
theorem dL_law_838 : decode cL_law 838 = .ok (.aload_n 0, 1) := by decide +kernel
theorem dL_law_839 : decode cL_law 839 = .ok (.iload_n 3, 1) := by decide +kernel
theorem dL_law_840 : decode cL_law 840 = .ok (.iconst 2, 1) := by decide +kernel
theorem dL_law_841 : decode cL_law 841 = .ok (.iadd, 1) := by decide +kernel
theorem dL_law_842 : decode cL_law 842 = .ok (.iaload, 1) := by decide +kernel
theorem dL_law_843 : decode cL_law 843 = .ok (.invokevirtual 90, 3) := by decide +kernel
theorem dL_law_846 : decode cL_law 846 = .ok (.aload_n 2, 1) := by decide +kernel
theorem dL_law_847 : decode cL_law 847 = .ok (.aload_n 0, 1) := by decide +kernel
theorem dL_law_848 : decode cL_law 848 = .ok (.iload_n 3, 1) := by decide +kernel
theorem dL_law_849 : decode cL_law 849 = .ok (.iconst 1, 1) := by decide +kernel
theorem dL_law_850 : decode cL_law 850 = .ok (.iadd, 1) := by decide +kernel
theorem dL_law_851 : decode cL_law 851 = .ok (.iaload, 1) := by decide +kernel
theorem dL_law_852 : decode cL_law 852 = .ok (.aload_n 0, 1) := by decide +kernel
theorem dL_law_853 : decode cL_law 853 = .ok (.iload_n 3, 1) := by decide +kernel
theorem dL_law_854 : decode cL_law 854 = .ok (.iconst 2, 1) := by decide +kernel
theorem dL_law_855 : decode cL_law 855 = .ok (.iadd, 1) := by decide +kernel
theorem dL_law_856 : decode cL_law 856 = .ok (.iaload, 1) := by decide +kernel
theorem dL_law_857 : decode cL_law 857 = .ok (.invokevirtual 93, 3) := by decide +kernel
theorem dL_law_860 : decode cL_law 860 = .ok (.if_icmp .eq 327, 3) := by decide +kernel
theorem dL_law_863 : decode cL_law 863 = .ok (.iconst 0, 1) := by decide +kernel
theorem dL_law_864 : decode cL_law 864 = .ok (.ireturn, 1) := by decide +kernel
theorem dL_law_865 : decode cL_law 865 = .ok (.aload_n 1, 1) := by decide +kernel
theorem dL_law_866 : decode cL_law 866 = .ok (.aload_n 0, 1) := by decide +kernel
theorem dL_law_867 : decode cL_law 867 = .ok (.iload_n 3, 1) := by decide +kernel
theorem dL_law_868 : decode cL_law 868 = .ok (.iconst 1, 1) := by decide +kernel
theorem dL_law_869 : decode cL_law 869 = .ok (.iadd, 1) := by decide +kernel
theorem dL_law_870 : decode cL_law 870 = .ok (.iaload, 1) := by decide +kernel
theorem dL_law_871 : decode cL_law 871 = .ok (.aload_n 0, 1) := by decide +kernel
theorem dL_law_872 : decode cL_law 872 = .ok (.iload_n 3, 1) := by decide +kernel
theorem dL_law_873 : decode cL_law 873 = .ok (.iconst 2, 1) := by decide +kernel
theorem dL_law_874 : decode cL_law 874 = .ok (.iadd, 1) := by decide +kernel
theorem dL_law_875 : decode cL_law 875 = .ok (.iaload, 1) := by decide +kernel
theorem dL_law_876 : decode cL_law 876 = .ok (.aload_n 0, 1) := by decide +kernel
theorem dL_law_877 : decode cL_law 877 = .ok (.iload_n 3, 1) := by decide +kernel
theorem dL_law_878 : decode cL_law 878 = .ok (.iconst 3, 1) := by decide +kernel
theorem dL_law_879 : decode cL_law 879 = .ok (.iadd, 1) := by decide +kernel
theorem dL_law_880 : decode cL_law 880 = .ok (.iaload, 1) := by decide +kernel
theorem dL_law_881 : decode cL_law 881 = .ok (.aload_n 0, 1) := by decide +kernel
theorem dL_law_882 : decode cL_law 882 = .ok (.iload_n 3, 1) := by decide +kernel
theorem dL_law_883 : decode cL_law 883 = .ok (.iconst 4, 1) := by decide +kernel
theorem dL_law_884 : decode cL_law 884 = .ok (.iadd, 1) := by decide +kernel
theorem dL_law_885 : decode cL_law 885 = .ok (.iaload, 1) := by decide +kernel
theorem dL_law_886 : decode cL_law 886 = .ok (.invokevirtual 94, 3) := by decide +kernel
theorem dL_law_889 : decode cL_law 889 = .ok (.aload_n 2, 1) := by decide +kernel
theorem dL_law_890 : decode cL_law 890 = .ok (.aload_n 0, 1) := by decide +kernel
theorem dL_law_891 : decode cL_law 891 = .ok (.iload_n 3, 1) := by decide +kernel
theorem dL_law_892 : decode cL_law 892 = .ok (.iconst 1, 1) := by decide +kernel
theorem dL_law_893 : decode cL_law 893 = .ok (.iadd, 1) := by decide +kernel
theorem dL_law_894 : decode cL_law 894 = .ok (.iaload, 1) := by decide +kernel
theorem dL_law_895 : decode cL_law 895 = .ok (.aload_n 0, 1) := by decide +kernel
theorem dL_law_896 : decode cL_law 896 = .ok (.iload_n 3, 1) := by decide +kernel
theorem dL_law_897 : decode cL_law 897 = .ok (.iconst 2, 1) := by decide +kernel
theorem dL_law_898 : decode cL_law 898 = .ok (.iadd, 1) := by decide +kernel
theorem dL_law_899 : decode cL_law 899 = .ok (.iaload, 1) := by decide +kernel
theorem dL_law_900 : decode cL_law 900 = .ok (.aload_n 0, 1) := by decide +kernel
theorem dL_law_901 : decode cL_law 901 = .ok (.iload_n 3, 1) := by decide +kernel
theorem dL_law_902 : decode cL_law 902 = .ok (.iconst 3, 1) := by decide +kernel
theorem dL_law_903 : decode cL_law 903 = .ok (.iadd, 1) := by decide +kernel
theorem dL_law_904 : decode cL_law 904 = .ok (.iaload, 1) := by decide +kernel
theorem dL_law_905 : decode cL_law 905 = .ok (.aload_n 0, 1) := by decide +kernel
theorem dL_law_906 : decode cL_law 906 = .ok (.iload_n 3, 1) := by decide +kernel
theorem dL_law_907 : decode cL_law 907 = .ok (.iconst 4, 1) := by decide +kernel
theorem dL_law_908 : decode cL_law 908 = .ok (.iadd, 1) := by decide +kernel
theorem dL_law_909 : decode cL_law 909 = .ok (.iaload, 1) := by decide +kernel
theorem dL_law_910 : decode cL_law 910 = .ok (.invokevirtual 97, 3) := by decide +kernel
theorem dL_law_913 : decode cL_law 913 = .ok (.lcmp, 1) := by decide +kernel
theorem dL_law_914 : decode cL_law 914 = .ok (.ifCond .eq 273, 3) := by decide +kernel
theorem dL_law_917 : decode cL_law 917 = .ok (.iconst 0, 1) := by decide +kernel
theorem dL_law_918 : decode cL_law 918 = .ok (.ireturn, 1) := by decide +kernel
theorem dL_law_919 : decode cL_law 919 = .ok (.aload_n 1, 1) := by decide +kernel
theorem dL_law_920 : decode cL_law 920 = .ok (.aload_n 0, 1) := by decide +kernel
theorem dL_law_921 : decode cL_law 921 = .ok (.iload_n 3, 1) := by decide +kernel
theorem dL_law_922 : decode cL_law 922 = .ok (.iconst 1, 1) := by decide +kernel
theorem dL_law_923 : decode cL_law 923 = .ok (.iadd, 1) := by decide +kernel
theorem dL_law_924 : decode cL_law 924 = .ok (.iaload, 1) := by decide +kernel
theorem dL_law_925 : decode cL_law 925 = .ok (.aload_n 0, 1) := by decide +kernel
theorem dL_law_926 : decode cL_law 926 = .ok (.iload_n 3, 1) := by decide +kernel
theorem dL_law_927 : decode cL_law 927 = .ok (.iconst 2, 1) := by decide +kernel
theorem dL_law_928 : decode cL_law 928 = .ok (.iadd, 1) := by decide +kernel
theorem dL_law_929 : decode cL_law 929 = .ok (.iaload, 1) := by decide +kernel
theorem dL_law_930 : decode cL_law 930 = .ok (.invokevirtual 98, 3) := by decide +kernel
theorem dL_law_933 : decode cL_law 933 = .ok (.aload_n 2, 1) := by decide +kernel
theorem dL_law_934 : decode cL_law 934 = .ok (.aload_n 0, 1) := by decide +kernel
theorem dL_law_935 : decode cL_law 935 = .ok (.iload_n 3, 1) := by decide +kernel
theorem dL_law_936 : decode cL_law 936 = .ok (.iconst 1, 1) := by decide +kernel
theorem dL_law_937 : decode cL_law 937 = .ok (.iadd, 1) := by decide +kernel
theorem dL_law_938 : decode cL_law 938 = .ok (.iaload, 1) := by decide +kernel
theorem dL_law_939 : decode cL_law 939 = .ok (.aload_n 0, 1) := by decide +kernel
theorem dL_law_940 : decode cL_law 940 = .ok (.iload_n 3, 1) := by decide +kernel
theorem dL_law_941 : decode cL_law 941 = .ok (.iconst 2, 1) := by decide +kernel
theorem dL_law_942 : decode cL_law 942 = .ok (.iadd, 1) := by decide +kernel
theorem dL_law_943 : decode cL_law 943 = .ok (.iaload, 1) := by decide +kernel
theorem dL_law_944 : decode cL_law 944 = .ok (.invokevirtual 101, 3) := by decide +kernel
theorem dL_law_947 : decode cL_law 947 = .ok (.if_icmp .eq 240, 3) := by decide +kernel
theorem dL_law_950 : decode cL_law 950 = .ok (.iconst 0, 1) := by decide +kernel
theorem dL_law_951 : decode cL_law 951 = .ok (.ireturn, 1) := by decide +kernel
theorem dL_law_952 : decode cL_law 952 = .ok (.aload_n 1, 1) := by decide +kernel
theorem dL_law_953 : decode cL_law 953 = .ok (.aload_n 0, 1) := by decide +kernel
theorem dL_law_954 : decode cL_law 954 = .ok (.iload_n 3, 1) := by decide +kernel
theorem dL_law_955 : decode cL_law 955 = .ok (.iconst 1, 1) := by decide +kernel
theorem dL_law_956 : decode cL_law 956 = .ok (.iadd, 1) := by decide +kernel
theorem dL_law_957 : decode cL_law 957 = .ok (.iaload, 1) := by decide +kernel
theorem dL_law_958 : decode cL_law 958 = .ok (.aload_n 0, 1) := by decide +kernel
theorem dL_law_959 : decode cL_law 959 = .ok (.iload_n 3, 1) := by decide +kernel
theorem dL_law_960 : decode cL_law 960 = .ok (.iconst 2, 1) := by decide +kernel
theorem dL_law_961 : decode cL_law 961 = .ok (.iadd, 1) := by decide +kernel
theorem dL_law_962 : decode cL_law 962 = .ok (.iaload, 1) := by decide +kernel
theorem dL_law_963 : decode cL_law 963 = .ok (.aload_n 0, 1) := by decide +kernel
theorem dL_law_964 : decode cL_law 964 = .ok (.iload_n 3, 1) := by decide +kernel
theorem dL_law_965 : decode cL_law 965 = .ok (.iconst 3, 1) := by decide +kernel
theorem dL_law_966 : decode cL_law 966 = .ok (.iadd, 1) := by decide +kernel
theorem dL_law_967 : decode cL_law 967 = .ok (.iaload, 1) := by decide +kernel
theorem dL_law_968 : decode cL_law 968 = .ok (.aload_n 0, 1) := by decide +kernel
theorem dL_law_969 : decode cL_law 969 = .ok (.iload_n 3, 1) := by decide +kernel
theorem dL_law_970 : decode cL_law 970 = .ok (.iconst 4, 1) := by decide +kernel
theorem dL_law_971 : decode cL_law 971 = .ok (.iadd, 1) := by decide +kernel
theorem dL_law_972 : decode cL_law 972 = .ok (.iaload, 1) := by decide +kernel
theorem dL_law_973 : decode cL_law 973 = .ok (.invokevirtual 102, 3) := by decide +kernel
theorem dL_law_976 : decode cL_law 976 = .ok (.aload_n 2, 1) := by decide +kernel
theorem dL_law_977 : decode cL_law 977 = .ok (.aload_n 0, 1) := by decide +kernel
theorem dL_law_978 : decode cL_law 978 = .ok (.iload_n 3, 1) := by decide +kernel
theorem dL_law_979 : decode cL_law 979 = .ok (.iconst 1, 1) := by decide +kernel
theorem dL_law_980 : decode cL_law 980 = .ok (.iadd, 1) := by decide +kernel
theorem dL_law_981 : decode cL_law 981 = .ok (.iaload, 1) := by decide +kernel
theorem dL_law_982 : decode cL_law 982 = .ok (.aload_n 0, 1) := by decide +kernel
theorem dL_law_983 : decode cL_law 983 = .ok (.iload_n 3, 1) := by decide +kernel
theorem dL_law_984 : decode cL_law 984 = .ok (.iconst 2, 1) := by decide +kernel
theorem dL_law_985 : decode cL_law 985 = .ok (.iadd, 1) := by decide +kernel
theorem dL_law_986 : decode cL_law 986 = .ok (.iaload, 1) := by decide +kernel
theorem dL_law_987 : decode cL_law 987 = .ok (.aload_n 0, 1) := by decide +kernel
theorem dL_law_988 : decode cL_law 988 = .ok (.iload_n 3, 1) := by decide +kernel
theorem dL_law_989 : decode cL_law 989 = .ok (.iconst 3, 1) := by decide +kernel
theorem dL_law_990 : decode cL_law 990 = .ok (.iadd, 1) := by decide +kernel
theorem dL_law_991 : decode cL_law 991 = .ok (.iaload, 1) := by decide +kernel
theorem dL_law_992 : decode cL_law 992 = .ok (.aload_n 0, 1) := by decide +kernel
theorem dL_law_993 : decode cL_law 993 = .ok (.iload_n 3, 1) := by decide +kernel
theorem dL_law_994 : decode cL_law 994 = .ok (.iconst 4, 1) := by decide +kernel
theorem dL_law_995 : decode cL_law 995 = .ok (.iadd, 1) := by decide +kernel
theorem dL_law_996 : decode cL_law 996 = .ok (.iaload, 1) := by decide +kernel
theorem dL_law_997 : decode cL_law 997 = .ok (.invokevirtual 106, 3) := by decide +kernel
theorem dL_law_1000 : decode cL_law 1000 = .ok (.if_icmp .eq 187, 3) := by decide +kernel
theorem dL_law_1003 : decode cL_law 1003 = .ok (.iconst 0, 1) := by decide +kernel
theorem dL_law_1004 : decode cL_law 1004 = .ok (.ireturn, 1) := by decide +kernel
theorem dL_law_1005 : decode cL_law 1005 = .ok (.aload_n 1, 1) := by decide +kernel
theorem dL_law_1006 : decode cL_law 1006 = .ok (.invokevirtual 107, 3) := by decide +kernel
theorem dL_law_1009 : decode cL_law 1009 = .ok (.aload_n 2, 1) := by decide +kernel
theorem dL_law_1010 : decode cL_law 1010 = .ok (.invokevirtual 110, 3) := by decide +kernel
theorem dL_law_1013 : decode cL_law 1013 = .ok (.if_icmp .eq 174, 3) := by decide +kernel
theorem dL_law_1016 : decode cL_law 1016 = .ok (.iconst 0, 1) := by decide +kernel
theorem dL_law_1017 : decode cL_law 1017 = .ok (.ireturn, 1) := by decide +kernel
theorem dL_law_1018 : decode cL_law 1018 = .ok (.aload_n 1, 1) := by decide +kernel
theorem dL_law_1019 : decode cL_law 1019 = .ok (.aload_n 0, 1) := by decide +kernel
theorem dL_law_1020 : decode cL_law 1020 = .ok (.iload_n 3, 1) := by decide +kernel
theorem dL_law_1021 : decode cL_law 1021 = .ok (.iconst 1, 1) := by decide +kernel
theorem dL_law_1022 : decode cL_law 1022 = .ok (.iadd, 1) := by decide +kernel
theorem dL_law_1023 : decode cL_law 1023 = .ok (.iaload, 1) := by decide +kernel
theorem dL_law_1024 : decode cL_law 1024 = .ok (.aload_n 0, 1) := by decide +kernel
theorem dL_law_1025 : decode cL_law 1025 = .ok (.iload_n 3, 1) := by decide +kernel
theorem dL_law_1026 : decode cL_law 1026 = .ok (.iconst 2, 1) := by decide +kernel
theorem dL_law_1027 : decode cL_law 1027 = .ok (.iadd, 1) := by decide +kernel
theorem dL_law_1028 : decode cL_law 1028 = .ok (.iaload, 1) := by decide +kernel
theorem dL_law_1029 : decode cL_law 1029 = .ok (.aload_n 0, 1) := by decide +kernel
theorem dL_law_1030 : decode cL_law 1030 = .ok (.iload_n 3, 1) := by decide +kernel
theorem dL_law_1031 : decode cL_law 1031 = .ok (.iconst 3, 1) := by decide +kernel
theorem dL_law_1032 : decode cL_law 1032 = .ok (.iadd, 1) := by decide +kernel
theorem dL_law_1033 : decode cL_law 1033 = .ok (.iaload, 1) := by decide +kernel
theorem dL_law_1034 : decode cL_law 1034 = .ok (.invokevirtual 111, 3) := by decide +kernel
theorem dL_law_1037 : decode cL_law 1037 = .ok (.aload_n 2, 1) := by decide +kernel
theorem dL_law_1038 : decode cL_law 1038 = .ok (.aload_n 0, 1) := by decide +kernel
theorem dL_law_1039 : decode cL_law 1039 = .ok (.iload_n 3, 1) := by decide +kernel
theorem dL_law_1040 : decode cL_law 1040 = .ok (.iconst 1, 1) := by decide +kernel
theorem dL_law_1041 : decode cL_law 1041 = .ok (.iadd, 1) := by decide +kernel
theorem dL_law_1042 : decode cL_law 1042 = .ok (.iaload, 1) := by decide +kernel
theorem dL_law_1043 : decode cL_law 1043 = .ok (.aload_n 0, 1) := by decide +kernel
theorem dL_law_1044 : decode cL_law 1044 = .ok (.iload_n 3, 1) := by decide +kernel
theorem dL_law_1045 : decode cL_law 1045 = .ok (.iconst 2, 1) := by decide +kernel
theorem dL_law_1046 : decode cL_law 1046 = .ok (.iadd, 1) := by decide +kernel
theorem dL_law_1047 : decode cL_law 1047 = .ok (.iaload, 1) := by decide +kernel
theorem dL_law_1048 : decode cL_law 1048 = .ok (.aload_n 0, 1) := by decide +kernel
theorem dL_law_1049 : decode cL_law 1049 = .ok (.iload_n 3, 1) := by decide +kernel
theorem dL_law_1050 : decode cL_law 1050 = .ok (.iconst 3, 1) := by decide +kernel
theorem dL_law_1051 : decode cL_law 1051 = .ok (.iadd, 1) := by decide +kernel
theorem dL_law_1052 : decode cL_law 1052 = .ok (.iaload, 1) := by decide +kernel
theorem dL_law_1053 : decode cL_law 1053 = .ok (.invokevirtual 115, 3) := by decide +kernel
theorem dL_law_1056 : decode cL_law 1056 = .ok (.if_icmp .eq 131, 3) := by decide +kernel
theorem dL_law_1059 : decode cL_law 1059 = .ok (.iconst 0, 1) := by decide +kernel
theorem dL_law_1060 : decode cL_law 1060 = .ok (.ireturn, 1) := by decide +kernel
theorem dL_law_1061 : decode cL_law 1061 = .ok (.aload_n 1, 1) := by decide +kernel
theorem dL_law_1062 : decode cL_law 1062 = .ok (.aload_n 0, 1) := by decide +kernel
theorem dL_law_1063 : decode cL_law 1063 = .ok (.iload_n 3, 1) := by decide +kernel
theorem dL_law_1064 : decode cL_law 1064 = .ok (.iconst 1, 1) := by decide +kernel
theorem dL_law_1065 : decode cL_law 1065 = .ok (.iadd, 1) := by decide +kernel
theorem dL_law_1066 : decode cL_law 1066 = .ok (.iaload, 1) := by decide +kernel
theorem dL_law_1067 : decode cL_law 1067 = .ok (.invokevirtual 116, 3) := by decide +kernel
theorem dL_law_1070 : decode cL_law 1070 = .ok (.aload_n 2, 1) := by decide +kernel
theorem dL_law_1071 : decode cL_law 1071 = .ok (.aload_n 0, 1) := by decide +kernel
theorem dL_law_1072 : decode cL_law 1072 = .ok (.iload_n 3, 1) := by decide +kernel
theorem dL_law_1073 : decode cL_law 1073 = .ok (.iconst 1, 1) := by decide +kernel
theorem dL_law_1074 : decode cL_law 1074 = .ok (.iadd, 1) := by decide +kernel
theorem dL_law_1075 : decode cL_law 1075 = .ok (.iaload, 1) := by decide +kernel
theorem dL_law_1076 : decode cL_law 1076 = .ok (.invokevirtual 119, 3) := by decide +kernel
theorem dL_law_1079 : decode cL_law 1079 = .ok (.if_icmp .eq 108, 3) := by decide +kernel
theorem dL_law_1082 : decode cL_law 1082 = .ok (.iconst 0, 1) := by decide +kernel
theorem dL_law_1083 : decode cL_law 1083 = .ok (.ireturn, 1) := by decide +kernel
theorem dL_law_1084 : decode cL_law 1084 = .ok (.aload_n 1, 1) := by decide +kernel
theorem dL_law_1085 : decode cL_law 1085 = .ok (.aload_n 0, 1) := by decide +kernel
theorem dL_law_1086 : decode cL_law 1086 = .ok (.iload_n 3, 1) := by decide +kernel
theorem dL_law_1087 : decode cL_law 1087 = .ok (.iconst 1, 1) := by decide +kernel
theorem dL_law_1088 : decode cL_law 1088 = .ok (.iadd, 1) := by decide +kernel
theorem dL_law_1089 : decode cL_law 1089 = .ok (.iaload, 1) := by decide +kernel
theorem dL_law_1090 : decode cL_law 1090 = .ok (.aload_n 0, 1) := by decide +kernel
theorem dL_law_1091 : decode cL_law 1091 = .ok (.iload_n 3, 1) := by decide +kernel
theorem dL_law_1092 : decode cL_law 1092 = .ok (.iconst 2, 1) := by decide +kernel
theorem dL_law_1093 : decode cL_law 1093 = .ok (.iadd, 1) := by decide +kernel
theorem dL_law_1094 : decode cL_law 1094 = .ok (.iaload, 1) := by decide +kernel
theorem dL_law_1095 : decode cL_law 1095 = .ok (.aload_n 0, 1) := by decide +kernel
theorem dL_law_1096 : decode cL_law 1096 = .ok (.iload_n 3, 1) := by decide +kernel
theorem dL_law_1097 : decode cL_law 1097 = .ok (.iconst 3, 1) := by decide +kernel
theorem dL_law_1098 : decode cL_law 1098 = .ok (.iadd, 1) := by decide +kernel
theorem dL_law_1099 : decode cL_law 1099 = .ok (.iaload, 1) := by decide +kernel
theorem dL_law_1100 : decode cL_law 1100 = .ok (.aload_n 0, 1) := by decide +kernel
theorem dL_law_1101 : decode cL_law 1101 = .ok (.iload_n 3, 1) := by decide +kernel
theorem dL_law_1102 : decode cL_law 1102 = .ok (.iconst 4, 1) := by decide +kernel
theorem dL_law_1103 : decode cL_law 1103 = .ok (.iadd, 1) := by decide +kernel
theorem dL_law_1104 : decode cL_law 1104 = .ok (.iaload, 1) := by decide +kernel
theorem dL_law_1105 : decode cL_law 1105 = .ok (.invokevirtual 120, 3) := by decide +kernel
theorem dL_law_1108 : decode cL_law 1108 = .ok (.aload_n 2, 1) := by decide +kernel
theorem dL_law_1109 : decode cL_law 1109 = .ok (.aload_n 0, 1) := by decide +kernel
theorem dL_law_1110 : decode cL_law 1110 = .ok (.iload_n 3, 1) := by decide +kernel
theorem dL_law_1111 : decode cL_law 1111 = .ok (.iconst 1, 1) := by decide +kernel
theorem dL_law_1112 : decode cL_law 1112 = .ok (.iadd, 1) := by decide +kernel
theorem dL_law_1113 : decode cL_law 1113 = .ok (.iaload, 1) := by decide +kernel
theorem dL_law_1114 : decode cL_law 1114 = .ok (.aload_n 0, 1) := by decide +kernel
theorem dL_law_1115 : decode cL_law 1115 = .ok (.iload_n 3, 1) := by decide +kernel
theorem dL_law_1116 : decode cL_law 1116 = .ok (.iconst 2, 1) := by decide +kernel
theorem dL_law_1117 : decode cL_law 1117 = .ok (.iadd, 1) := by decide +kernel
theorem dL_law_1118 : decode cL_law 1118 = .ok (.iaload, 1) := by decide +kernel
theorem dL_law_1119 : decode cL_law 1119 = .ok (.aload_n 0, 1) := by decide +kernel
theorem dL_law_1120 : decode cL_law 1120 = .ok (.iload_n 3, 1) := by decide +kernel
theorem dL_law_1121 : decode cL_law 1121 = .ok (.iconst 3, 1) := by decide +kernel
theorem dL_law_1122 : decode cL_law 1122 = .ok (.iadd, 1) := by decide +kernel
theorem dL_law_1123 : decode cL_law 1123 = .ok (.iaload, 1) := by decide +kernel
theorem dL_law_1124 : decode cL_law 1124 = .ok (.aload_n 0, 1) := by decide +kernel
theorem dL_law_1125 : decode cL_law 1125 = .ok (.iload_n 3, 1) := by decide +kernel
theorem dL_law_1126 : decode cL_law 1126 = .ok (.iconst 4, 1) := by decide +kernel
theorem dL_law_1127 : decode cL_law 1127 = .ok (.iadd, 1) := by decide +kernel
theorem dL_law_1128 : decode cL_law 1128 = .ok (.iaload, 1) := by decide +kernel
theorem dL_law_1129 : decode cL_law 1129 = .ok (.invokevirtual 123, 3) := by decide +kernel
theorem dL_law_1132 : decode cL_law 1132 = .ok (.lcmp, 1) := by decide +kernel
theorem dL_law_1133 : decode cL_law 1133 = .ok (.ifCond .eq 54, 3) := by decide +kernel
theorem dL_law_1136 : decode cL_law 1136 = .ok (.iconst 0, 1) := by decide +kernel
theorem dL_law_1137 : decode cL_law 1137 = .ok (.ireturn, 1) := by decide +kernel
theorem dL_law_1138 : decode cL_law 1138 = .ok (.aload_n 1, 1) := by decide +kernel
theorem dL_law_1139 : decode cL_law 1139 = .ok (.invokevirtual 124, 3) := by decide +kernel
theorem dL_law_1142 : decode cL_law 1142 = .ok (.aload_n 2, 1) := by decide +kernel
theorem dL_law_1143 : decode cL_law 1143 = .ok (.invokevirtual 127, 3) := by decide +kernel
theorem dL_law_1146 : decode cL_law 1146 = .ok (.if_icmp .eq 41, 3) := by decide +kernel
theorem dL_law_1149 : decode cL_law 1149 = .ok (.iconst 0, 1) := by decide +kernel
theorem dL_law_1150 : decode cL_law 1150 = .ok (.ireturn, 1) := by decide +kernel
theorem dL_law_1151 : decode cL_law 1151 = .ok (.aload_n 1, 1) := by decide +kernel
theorem dL_law_1152 : decode cL_law 1152 = .ok (.invokevirtual 128, 3) := by decide +kernel
theorem dL_law_1155 : decode cL_law 1155 = .ok (.aload_n 2, 1) := by decide +kernel
theorem dL_law_1156 : decode cL_law 1156 = .ok (.invokevirtual 131, 3) := by decide +kernel
theorem dL_law_1159 : decode cL_law 1159 = .ok (.if_icmp .eq 28, 3) := by decide +kernel
theorem dL_law_1162 : decode cL_law 1162 = .ok (.iconst 0, 1) := by decide +kernel
theorem dL_law_1163 : decode cL_law 1163 = .ok (.ireturn, 1) := by decide +kernel
theorem dL_law_1164 : decode cL_law 1164 = .ok (.aload_n 1, 1) := by decide +kernel
theorem dL_law_1165 : decode cL_law 1165 = .ok (.aload_n 0, 1) := by decide +kernel
theorem dL_law_1166 : decode cL_law 1166 = .ok (.iload_n 3, 1) := by decide +kernel
theorem dL_law_1167 : decode cL_law 1167 = .ok (.iconst 1, 1) := by decide +kernel
theorem dL_law_1168 : decode cL_law 1168 = .ok (.iadd, 1) := by decide +kernel
theorem dL_law_1169 : decode cL_law 1169 = .ok (.iaload, 1) := by decide +kernel
theorem dL_law_1170 : decode cL_law 1170 = .ok (.invokevirtual 132, 3) := by decide +kernel
theorem dL_law_1173 : decode cL_law 1173 = .ok (.aload_n 2, 1) := by decide +kernel
theorem dL_law_1174 : decode cL_law 1174 = .ok (.aload_n 0, 1) := by decide +kernel
theorem dL_law_1175 : decode cL_law 1175 = .ok (.iload_n 3, 1) := by decide +kernel
theorem dL_law_1176 : decode cL_law 1176 = .ok (.iconst 1, 1) := by decide +kernel
theorem dL_law_1177 : decode cL_law 1177 = .ok (.iadd, 1) := by decide +kernel
theorem dL_law_1178 : decode cL_law 1178 = .ok (.iaload, 1) := by decide +kernel
theorem dL_law_1179 : decode cL_law 1179 = .ok (.invokevirtual 135, 3) := by decide +kernel
theorem dL_law_1182 : decode cL_law 1182 = .ok (.if_icmp .eq 5, 3) := by decide +kernel
theorem dL_law_1185 : decode cL_law 1185 = .ok (.iconst 0, 1) := by decide +kernel
theorem dL_law_1186 : decode cL_law 1186 = .ok (.ireturn, 1) := by decide +kernel
theorem dL_law_1187 : decode cL_law 1187 = .ok (.iinc 3 7, 3) := by decide +kernel
theorem dL_law_1190 : decode cL_law 1190 = .ok (.goto (-1172), 3) := by decide +kernel
theorem dL_law_1193 : decode cL_law 1193 = .ok (.iconst 1, 1) := by decide +kernel
theorem dL_law_1194 : decode cL_law 1194 = .ok (.ireturn, 1) := by decide +kernel

