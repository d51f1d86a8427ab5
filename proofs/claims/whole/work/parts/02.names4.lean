theorem dX12_init_200 : decode cX12_init 200 = .ok (.aload_n 0, 1) := by decide +kernel
theorem dX12_init_201 : decode cX12_init 201 = .ok (.iconst 0, 1) := by decide +kernel
theorem dX12_init_202 : decode cX12_init 202 = .ok (.invokevirtual 85, 3) := by decide +kernel
theorem dX12_init_205 : decode cX12_init 205 = .ok (.aload_n 0, 1) := by decide +kernel
theorem dX12_init_206 : decode cX12_init 206 = .ok (.getfield 17, 3) := by decide +kernel
theorem dX12_init_209 : decode cX12_init 209 = .ok (.iconst 0, 1) := by decide +kernel
theorem dX12_init_210 : decode cX12_init 210 = .ok (.iconst 1, 1) := by decide +kernel
theorem dX12_init_211 : decode cX12_init 211 = .ok (.iastore, 1) := by decide +kernel
theorem dX12_init_212 : decode cX12_init 212 = .ok (.aload_n 0, 1) := by decide +kernel
theorem dX12_init_213 : decode cX12_init 213 = .ok (.getfield 20, 3) := by decide +kernel
theorem dX12_init_216 : decode cX12_init 216 = .ok (.iconst 0, 1) := by decide +kernel
theorem dX12_init_217 : decode cX12_init 217 = .ok (.bipush 10, 2) := by decide +kernel
theorem dX12_init_219 : decode cX12_init 219 = .ok (.iastore, 1) := by decide +kernel
theorem dX12_init_220 : decode cX12_init 220 = .ok (.aload_n 0, 1) := by decide +kernel
theorem dX12_init_221 : decode cX12_init 221 = .ok (.getfield 20, 3) := by decide +kernel
theorem dX12_init_224 : decode cX12_init 224 = .ok (.iconst 1, 1) := by decide +kernel
theorem dX12_init_225 : decode cX12_init 225 = .ok (.bipush 10, 2) := by decide +kernel
theorem dX12_init_227 : decode cX12_init 227 = .ok (.iastore, 1) := by decide +kernel
theorem dX12_init_228 : decode cX12_init 228 = .ok (.aload_n 0, 1) := by decide +kernel
theorem dX12_init_229 : decode cX12_init 229 = .ok (.getfield 23, 3) := by decide +kernel
theorem dX12_init_232 : decode cX12_init 232 = .ok (.iconst 0, 1) := by decide +kernel
theorem dX12_init_233 : decode cX12_init 233 = .ok (.iconst 1, 1) := by decide +kernel
theorem dX12_init_234 : decode cX12_init 234 = .ok (.iastore, 1) := by decide +kernel
theorem dX12_init_235 : decode cX12_init 235 = .ok (.aload_n 0, 1) := by decide +kernel
theorem dX12_init_236 : decode cX12_init 236 = .ok (.getfield 26, 3) := by decide +kernel
theorem dX12_init_239 : decode cX12_init 239 = .ok (.iconst 0, 1) := by decide +kernel
theorem dX12_init_240 : decode cX12_init 240 = .ok (.bipush 10, 2) := by decide +kernel
theorem dX12_init_242 : decode cX12_init 242 = .ok (.iastore, 1) := by decide +kernel
theorem dX12_init_243 : decode cX12_init 243 = .ok (.aload_n 0, 1) := by decide +kernel
theorem dX12_init_244 : decode cX12_init 244 = .ok (.getfield 26, 3) := by decide +kernel
theorem dX12_init_247 : decode cX12_init 247 = .ok (.iconst 1, 1) := by decide +kernel
theorem dX12_init_248 : decode cX12_init 248 = .ok (.iconst 1, 1) := by decide +kernel
theorem dX12_init_249 : decode cX12_init 249 = .ok (.iastore, 1) := by decide +kernel
theorem dX12_init_250 : decode cX12_init 250 = .ok (.aload_n 0, 1) := by decide +kernel
theorem dX12_init_251 : decode cX12_init 251 = .ok (.getfield 26, 3) := by decide +kernel
theorem dX12_init_254 : decode cX12_init 254 = .ok (.iconst 2, 1) := by decide +kernel
theorem dX12_init_255 : decode cX12_init 255 = .ok (.bipush 100, 2) := by decide +kernel
theorem dX12_init_257 : decode cX12_init 257 = .ok (.iastore, 1) := by decide +kernel
theorem dX12_init_258 : decode cX12_init 258 = .ok (.aload_n 0, 1) := by decide +kernel
theorem dX12_init_259 : decode cX12_init 259 = .ok (.getfield 26, 3) := by decide +kernel
theorem dX12_init_262 : decode cX12_init 262 = .ok (.iconst 3, 1) := by decide +kernel
theorem dX12_init_263 : decode cX12_init 263 = .ok (.bipush 10, 2) := by decide +kernel
theorem dX12_init_265 : decode cX12_init 265 = .ok (.iastore, 1) := by decide +kernel
theorem dX12_init_266 : decode cX12_init 266 = .ok (.aload_n 0, 1) := by decide +kernel
theorem dX12_init_267 : decode cX12_init 267 = .ok (.iconst 0, 1) := by decide +kernel
theorem dX12_init_268 : decode cX12_init 268 = .ok (.invokevirtual 89, 3) := by decide +kernel
theorem dX12_init_271 : decode cX12_init 271 = .ok (.aload_n 0, 1) := by decide +kernel
theorem dX12_init_272 : decode cX12_init 272 = .ok (.invokevirtual 92, 3) := by decide +kernel
theorem dX12_init_275 : decode cX12_init 275 = .ok (.return_, 1) := by decide +kernel
theorem dX12_in_0 : decode cX12_in 0 = .ok (.lload_n 0, 1) := by decide +kernel
theorem dX12_in_1 : decode cX12_in 1 = .ok (.lload_n 2, 1) := by decide +kernel
theorem dX12_in_2 : decode cX12_in 2 = .ok (.lcmp, 1) := by decide +kernel
theorem dX12_in_3 : decode cX12_in 3 = .ok (.ifCond .lt 14, 3) := by decide +kernel
theorem dX12_in_6 : decode cX12_in 6 = .ok (.lload_n 0, 1) := by decide +kernel
theorem dX12_in_7 : decode cX12_in 7 = .ok (.lload 4, 2) := by decide +kernel
theorem dX12_in_9 : decode cX12_in 9 = .ok (.lcmp, 1) := by decide +kernel
theorem dX12_in_10 : decode cX12_in 10 = .ok (.ifCond .gt 7, 3) := by decide +kernel
theorem dX12_in_13 : decode cX12_in 13 = .ok (.iconst 1, 1) := by decide +kernel
theorem dX12_in_14 : decode cX12_in 14 = .ok (.goto 4, 3) := by decide +kernel
theorem dX12_in_17 : decode cX12_in 17 = .ok (.iconst 0, 1) := by decide +kernel
theorem dX12_in_18 : decode cX12_in 18 = .ok (.ireturn, 1) := by decide +kernel
theorem dX12_begins_0 : decode cX12_begins 0 = .ok (.aload_n 0, 1) := by decide +kernel
theorem dX12_begins_1 : decode cX12_begins 1 = .ok (.getfield 17, 3) := by decide +kernel
theorem dX12_begins_4 : decode cX12_begins 4 = .ok (.iload_n 1, 1) := by decide +kernel
theorem dX12_begins_5 : decode cX12_begins 5 = .ok (.iconst 0, 1) := by decide +kernel
theorem dX12_begins_6 : decode cX12_begins 6 = .ok (.iastore, 1) := by decide +kernel
theorem dX12_begins_7 : decode cX12_begins 7 = .ok (.aload_n 0, 1) := by decide +kernel
theorem dX12_begins_8 : decode cX12_begins 8 = .ok (.getfield 23, 3) := by decide +kernel
theorem dX12_begins_11 : decode cX12_begins 11 = .ok (.iload_n 1, 1) := by decide +kernel
theorem dX12_begins_12 : decode cX12_begins 12 = .ok (.iconst 0, 1) := by decide +kernel
theorem dX12_begins_13 : decode cX12_begins 13 = .ok (.iastore, 1) := by decide +kernel
theorem dX12_begins_14 : decode cX12_begins 14 = .ok (.aload_n 0, 1) := by decide +kernel
theorem dX12_begins_15 : decode cX12_begins 15 = .ok (.getfield 29, 3) := by decide +kernel
theorem dX12_begins_18 : decode cX12_begins 18 = .ok (.iload_n 1, 1) := by decide +kernel
theorem dX12_begins_19 : decode cX12_begins 19 = .ok (.iconst 0, 1) := by decide +kernel
theorem dX12_begins_20 : decode cX12_begins 20 = .ok (.iastore, 1) := by decide +kernel
theorem dX12_begins_21 : decode cX12_begins 21 = .ok (.aload_n 0, 1) := by decide +kernel
theorem dX12_begins_22 : decode cX12_begins 22 = .ok (.getfield 35, 3) := by decide +kernel
theorem dX12_begins_25 : decode cX12_begins 25 = .ok (.iload_n 1, 1) := by decide +kernel
theorem dX12_begins_26 : decode cX12_begins 26 = .ok (.iconst 0, 1) := by decide +kernel
theorem dX12_begins_27 : decode cX12_begins 27 = .ok (.iastore, 1) := by decide +kernel
theorem dX12_begins_28 : decode cX12_begins 28 = .ok (.aload_n 0, 1) := by decide +kernel
theorem dX12_begins_29 : decode cX12_begins 29 = .ok (.getfield 41, 3) := by decide +kernel
theorem dX12_begins_32 : decode cX12_begins 32 = .ok (.iconst 5, 1) := by decide +kernel
theorem dX12_begins_33 : decode cX12_begins 33 = .ok (.iload_n 1, 1) := by decide +kernel
theorem dX12_begins_34 : decode cX12_begins 34 = .ok (.imul, 1) := by decide +kernel
theorem dX12_begins_35 : decode cX12_begins 35 = .ok (.iconst 4, 1) := by decide +kernel
theorem dX12_begins_36 : decode cX12_begins 36 = .ok (.iastore, 1) := by decide +kernel
theorem dX12_begins_37 : decode cX12_begins 37 = .ok (.aload_n 0, 1) := by decide +kernel
theorem dX12_begins_38 : decode cX12_begins 38 = .ok (.getfield 41, 3) := by decide +kernel
theorem dX12_begins_41 : decode cX12_begins 41 = .ok (.iconst 5, 1) := by decide +kernel
theorem dX12_begins_42 : decode cX12_begins 42 = .ok (.iload_n 1, 1) := by decide +kernel
theorem dX12_begins_43 : decode cX12_begins 43 = .ok (.imul, 1) := by decide +kernel
theorem dX12_begins_44 : decode cX12_begins 44 = .ok (.iconst 1, 1) := by decide +kernel
theorem dX12_begins_45 : decode cX12_begins 45 = .ok (.iadd, 1) := by decide +kernel
theorem dX12_begins_46 : decode cX12_begins 46 = .ok (.bipush 9, 2) := by decide +kernel
theorem dX12_begins_48 : decode cX12_begins 48 = .ok (.iastore, 1) := by decide +kernel
theorem dX12_begins_49 : decode cX12_begins 49 = .ok (.aload_n 0, 1) := by decide +kernel
theorem dX12_begins_50 : decode cX12_begins 50 = .ok (.getfield 41, 3) := by decide +kernel
theorem dX12_begins_53 : decode cX12_begins 53 = .ok (.iconst 5, 1) := by decide +kernel
theorem dX12_begins_54 : decode cX12_begins 54 = .ok (.iload_n 1, 1) := by decide +kernel
theorem dX12_begins_55 : decode cX12_begins 55 = .ok (.imul, 1) := by decide +kernel
theorem dX12_begins_56 : decode cX12_begins 56 = .ok (.iconst 2, 1) := by decide +kernel
theorem dX12_begins_57 : decode cX12_begins 57 = .ok (.iadd, 1) := by decide +kernel
theorem dX12_begins_58 : decode cX12_begins 58 = .ok (.bipush 60, 2) := by decide +kernel
theorem dX12_begins_60 : decode cX12_begins 60 = .ok (.iastore, 1) := by decide +kernel
theorem dX12_begins_61 : decode cX12_begins 61 = .ok (.aload_n 0, 1) := by decide +kernel
theorem dX12_begins_62 : decode cX12_begins 62 = .ok (.getfield 41, 3) := by decide +kernel
theorem dX12_begins_65 : decode cX12_begins 65 = .ok (.iconst 5, 1) := by decide +kernel
theorem dX12_begins_66 : decode cX12_begins 66 = .ok (.iload_n 1, 1) := by decide +kernel
theorem dX12_begins_67 : decode cX12_begins 67 = .ok (.imul, 1) := by decide +kernel
theorem dX12_begins_68 : decode cX12_begins 68 = .ok (.iconst 3, 1) := by decide +kernel
theorem dX12_begins_69 : decode cX12_begins 69 = .ok (.iadd, 1) := by decide +kernel
theorem dX12_begins_70 : decode cX12_begins 70 = .ok (.bipush 8, 2) := by decide +kernel
theorem dX12_begins_72 : decode cX12_begins 72 = .ok (.iastore, 1) := by decide +kernel
theorem dX12_begins_73 : decode cX12_begins 73 = .ok (.aload_n 0, 1) := by decide +kernel
theorem dX12_begins_74 : decode cX12_begins 74 = .ok (.getfield 41, 3) := by decide +kernel
theorem dX12_begins_77 : decode cX12_begins 77 = .ok (.iconst 5, 1) := by decide +kernel
theorem dX12_begins_78 : decode cX12_begins 78 = .ok (.iload_n 1, 1) := by decide +kernel
theorem dX12_begins_79 : decode cX12_begins 79 = .ok (.imul, 1) := by decide +kernel
theorem dX12_begins_80 : decode cX12_begins 80 = .ok (.iconst 4, 1) := by decide +kernel
theorem dX12_begins_81 : decode cX12_begins 81 = .ok (.iadd, 1) := by decide +kernel
theorem dX12_begins_82 : decode cX12_begins 82 = .ok (.sipush 999, 3) := by decide +kernel
theorem dX12_begins_85 : decode cX12_begins 85 = .ok (.iastore, 1) := by decide +kernel
theorem dX12_begins_86 : decode cX12_begins 86 = .ok (.return_, 1) := by decide +kernel
theorem dX12_ends_0 : decode cX12_ends 0 = .ok (.aload_n 0, 1) := by decide +kernel
theorem dX12_ends_1 : decode cX12_ends 1 = .ok (.getfield 35, 3) := by decide +kernel
theorem dX12_ends_4 : decode cX12_ends 4 = .ok (.iload_n 1, 1) := by decide +kernel
theorem dX12_ends_5 : decode cX12_ends 5 = .ok (.iaload, 1) := by decide +kernel
theorem dX12_ends_6 : decode cX12_ends 6 = .ok (.ifCond .ne 34, 3) := by decide +kernel
theorem dX12_ends_9 : decode cX12_ends 9 = .ok (.aload_n 0, 1) := by decide +kernel
theorem dX12_ends_10 : decode cX12_ends 10 = .ok (.getfield 35, 3) := by decide +kernel
theorem dX12_ends_13 : decode cX12_ends 13 = .ok (.iload_n 1, 1) := by decide +kernel
theorem dX12_ends_14 : decode cX12_ends 14 = .ok (.iconst 1, 1) := by decide +kernel
theorem dX12_ends_15 : decode cX12_ends 15 = .ok (.iastore, 1) := by decide +kernel
theorem dX12_ends_16 : decode cX12_ends 16 = .ok (.aload_n 0, 1) := by decide +kernel
theorem dX12_ends_17 : decode cX12_ends 17 = .ok (.getfield 38, 3) := by decide +kernel
theorem dX12_ends_20 : decode cX12_ends 20 = .ok (.bipush 8, 2) := by decide +kernel
theorem dX12_ends_22 : decode cX12_ends 22 = .ok (.iload_n 1, 1) := by decide +kernel
theorem dX12_ends_23 : decode cX12_ends 23 = .ok (.imul, 1) := by decide +kernel
theorem dX12_ends_24 : decode cX12_ends 24 = .ok (.bipush 100, 2) := by decide +kernel
theorem dX12_ends_26 : decode cX12_ends 26 = .ok (.iastore, 1) := by decide +kernel
theorem dX12_ends_27 : decode cX12_ends 27 = .ok (.aload_n 0, 1) := by decide +kernel
theorem dX12_ends_28 : decode cX12_ends 28 = .ok (.getfield 38, 3) := by decide +kernel
theorem dX12_ends_31 : decode cX12_ends 31 = .ok (.bipush 8, 2) := by decide +kernel
theorem dX12_ends_33 : decode cX12_ends 33 = .ok (.iload_n 1, 1) := by decide +kernel
theorem dX12_ends_34 : decode cX12_ends 34 = .ok (.imul, 1) := by decide +kernel
theorem dX12_ends_35 : decode cX12_ends 35 = .ok (.iconst 1, 1) := by decide +kernel
theorem dX12_ends_36 : decode cX12_ends 36 = .ok (.iadd, 1) := by decide +kernel
theorem dX12_ends_37 : decode cX12_ends 37 = .ok (.bipush 10, 2) := by decide +kernel
theorem dX12_ends_39 : decode cX12_ends 39 = .ok (.iastore, 1) := by decide +kernel
theorem dX12_ends_40 : decode cX12_ends 40 = .ok (.return_, 1) := by decide +kernel
theorem dX12_handsBegin_0 : decode cX12_handsBegin 0 = .ok (.aload_n 0, 1) := by decide +kernel
theorem dX12_handsBegin_1 : decode cX12_handsBegin 1 = .ok (.getfield 44, 3) := by decide +kernel
theorem dX12_handsBegin_4 : decode cX12_handsBegin 4 = .ok (.iconst 0, 1) := by decide +kernel
theorem dX12_handsBegin_5 : decode cX12_handsBegin 5 = .ok (.iconst 0, 1) := by decide +kernel
theorem dX12_handsBegin_6 : decode cX12_handsBegin 6 = .ok (.iastore, 1) := by decide +kernel
theorem dX12_handsBegin_7 : decode cX12_handsBegin 7 = .ok (.aload_n 0, 1) := by decide +kernel
theorem dX12_handsBegin_8 : decode cX12_handsBegin 8 = .ok (.getfield 44, 3) := by decide +kernel
theorem dX12_handsBegin_11 : decode cX12_handsBegin 11 = .ok (.iconst 1, 1) := by decide +kernel
theorem dX12_handsBegin_12 : decode cX12_handsBegin 12 = .ok (.bipush 100, 2) := by decide +kernel
theorem dX12_handsBegin_14 : decode cX12_handsBegin 14 = .ok (.iastore, 1) := by decide +kernel
theorem dX12_handsBegin_15 : decode cX12_handsBegin 15 = .ok (.aload_n 0, 1) := by decide +kernel
theorem dX12_handsBegin_16 : decode cX12_handsBegin 16 = .ok (.getfield 44, 3) := by decide +kernel
theorem dX12_handsBegin_19 : decode cX12_handsBegin 19 = .ok (.iconst 2, 1) := by decide +kernel
theorem dX12_handsBegin_20 : decode cX12_handsBegin 20 = .ok (.bipush 8, 2) := by decide +kernel
theorem dX12_handsBegin_22 : decode cX12_handsBegin 22 = .ok (.iastore, 1) := by decide +kernel
theorem dX12_handsBegin_23 : decode cX12_handsBegin 23 = .ok (.aload_n 0, 1) := by decide +kernel
theorem dX12_handsBegin_24 : decode cX12_handsBegin 24 = .ok (.getfield 47, 3) := by decide +kernel
theorem dX12_handsBegin_27 : decode cX12_handsBegin 27 = .ok (.iconst 0, 1) := by decide +kernel
theorem dX12_handsBegin_28 : decode cX12_handsBegin 28 = .ok (.iconst 0, 1) := by decide +kernel
theorem dX12_handsBegin_29 : decode cX12_handsBegin 29 = .ok (.iastore, 1) := by decide +kernel
theorem dX12_handsBegin_30 : decode cX12_handsBegin 30 = .ok (.aload_n 0, 1) := by decide +kernel
theorem dX12_handsBegin_31 : decode cX12_handsBegin 31 = .ok (.iconst 0, 1) := by decide +kernel
theorem dX12_handsBegin_32 : decode cX12_handsBegin 32 = .ok (.putfield 95, 3) := by decide +kernel
theorem dX12_handsBegin_35 : decode cX12_handsBegin 35 = .ok (.return_, 1) := by decide +kernel
set_option maxRecDepth 20000 in
theorem ggX12_write_X12_in : GoodIn wsX12_write wsX12_in := goodIn_r _ [7] (by decide +kernel) (by decide +kernel)
set_option maxRecDepth 20000 in
theorem gX12_write_X12_in : GoodIn wsX12_write (va_wsS RX12 101 yX12_in wsX12_in) := goodIn_app (goodIn_of _ (by decide +kernel)) ggX12_write_X12_in
theorem dX12_write_0 : decode cX12_write 0 = .ok (.iload_n 1, 1) := by decide +kernel
theorem dX12_write_1 : decode cX12_write 1 = .ok (.i2l, 1) := by decide +kernel
theorem dX12_write_2 : decode cX12_write 2 = .ok (.lconst 1, 1) := by decide +kernel
theorem dX12_write_3 : decode cX12_write 3 = .ok (.ldc2_w 99, 3) := by decide +kernel
theorem dX12_write_6 : decode cX12_write 6 = .ok (.invokestatic 101, 3) := by decide +kernel
theorem dX12_write_9 : decode cX12_write 9 = .ok (.ifCond .ne 5, 3) := by decide +kernel
theorem dX12_write_12 : decode cX12_write 12 = .ok (.iconst (-1), 1) := by decide +kernel
theorem dX12_write_13 : decode cX12_write 13 = .ok (.ireturn, 1) := by decide +kernel
theorem dX12_write_14 : decode cX12_write 14 = .ok (.aload_n 0, 1) := by decide +kernel
theorem dX12_write_15 : decode cX12_write 15 = .ok (.getfield 105, 3) := by decide +kernel
theorem dX12_write_18 : decode cX12_write 18 = .ok (.iload_n 1, 1) := by decide +kernel
theorem dX12_write_19 : decode cX12_write 19 = .ok (.iadd, 1) := by decide +kernel
theorem dX12_write_20 : decode cX12_write 20 = .ok (.sipush 500, 3) := by decide +kernel
theorem dX12_write_23 : decode cX12_write 23 = .ok (.if_icmp .le 6, 3) := by decide +kernel
theorem dX12_write_26 : decode cX12_write 26 = .ok (.bipush (-3), 2) := by decide +kernel
theorem dX12_write_28 : decode cX12_write 28 = .ok (.ireturn, 1) := by decide +kernel
theorem dX12_write_29 : decode cX12_write 29 = .ok (.iload_n 1, 1) := by decide +kernel
theorem dX12_write_30 : decode cX12_write 30 = .ok (.iconst 1, 1) := by decide +kernel
theorem dX12_write_31 : decode cX12_write 31 = .ok (.isub, 1) := by decide +kernel
theorem dX12_write_32 : decode cX12_write 32 = .ok (.istore 4, 2) := by decide +kernel
theorem dX12_write_34 : decode cX12_write 34 = .ok (.iload 4, 2) := by decide +kernel
theorem dX12_write_36 : decode cX12_write 36 = .ok (.ifCond .lt 37, 3) := by decide +kernel
theorem dX12_write_39 : decode cX12_write 39 = .ok (.aload_n 0, 1) := by decide +kernel
theorem dX12_write_40 : decode cX12_write 40 = .ok (.getfield 7, 3) := by decide +kernel
theorem dX12_write_43 : decode cX12_write 43 = .ok (.aload_n 0, 1) := by decide +kernel
theorem dX12_write_44 : decode cX12_write 44 = .ok (.getfield 105, 3) := by decide +kernel
theorem dX12_write_47 : decode cX12_write 47 = .ok (.lload_n 2, 1) := by decide +kernel
theorem dX12_write_48 : decode cX12_write 48 = .ok (.bipush 8, 2) := by decide +kernel
theorem dX12_write_50 : decode cX12_write 50 = .ok (.iload 4, 2) := by decide +kernel
theorem dX12_write_52 : decode cX12_write 52 = .ok (.imul, 1) := by decide +kernel
theorem dX12_write_53 : decode cX12_write 53 = .ok (.lshr, 1) := by decide +kernel
theorem dX12_write_54 : decode cX12_write 54 = .ok (.l2i, 1) := by decide +kernel
theorem dX12_write_55 : decode cX12_write 55 = .ok (.i2b, 1) := by decide +kernel
theorem dX12_write_56 : decode cX12_write 56 = .ok (.bastore, 1) := by decide +kernel
theorem dX12_write_57 : decode cX12_write 57 = .ok (.aload_n 0, 1) := by decide +kernel
theorem dX12_write_58 : decode cX12_write 58 = .ok (.dup, 1) := by decide +kernel
theorem dX12_write_59 : decode cX12_write 59 = .ok (.getfield 105, 3) := by decide +kernel
theorem dX12_write_62 : decode cX12_write 62 = .ok (.iconst 1, 1) := by decide +kernel
theorem dX12_write_63 : decode cX12_write 63 = .ok (.iadd, 1) := by decide +kernel
theorem dX12_write_64 : decode cX12_write 64 = .ok (.putfield 105, 3) := by decide +kernel
theorem dX12_write_67 : decode cX12_write 67 = .ok (.iinc 4 (-1), 3) := by decide +kernel
theorem dX12_write_70 : decode cX12_write 70 = .ok (.goto (-36), 3) := by decide +kernel
theorem dX12_write_73 : decode cX12_write 73 = .ok (.aload_n 0, 1) := by decide +kernel
theorem dX12_write_74 : decode cX12_write 74 = .ok (.getfield 105, 3) := by decide +kernel
theorem dX12_write_77 : decode cX12_write 77 = .ok (.ireturn, 1) := by decide +kernel
theorem dX12_wipe_0 : decode cX12_wipe 0 = .ok (.aload_n 0, 1) := by decide +kernel
theorem dX12_wipe_1 : decode cX12_wipe 1 = .ok (.getfield 105, 3) := by decide +kernel
theorem dX12_wipe_4 : decode cX12_wipe 4 = .ok (.istore_n 1, 1) := by decide +kernel
theorem dX12_wipe_5 : decode cX12_wipe 5 = .ok (.aload_n 0, 1) := by decide +kernel
theorem dX12_wipe_6 : decode cX12_wipe 6 = .ok (.iconst 0, 1) := by decide +kernel
theorem dX12_wipe_7 : decode cX12_wipe 7 = .ok (.putfield 105, 3) := by decide +kernel
theorem dX12_wipe_10 : decode cX12_wipe 10 = .ok (.iload_n 1, 1) := by decide +kernel
theorem dX12_wipe_11 : decode cX12_wipe 11 = .ok (.ireturn, 1) := by decide +kernel
set_option maxRecDepth 20000 in
theorem ggX12_number_X12_in : GoodIn wsX12_number wsX12_in := goodIn_r _ [10] (by decide +kernel) (by decide +kernel)
set_option maxRecDepth 20000 in
theorem gX12_number_X12_in : GoodIn wsX12_number (va_wsS RX12 101 yX12_in wsX12_in) := goodIn_app (goodIn_of _ (by decide +kernel)) ggX12_number_X12_in
theorem dX12_number_0 : decode cX12_number 0 = .ok (.iconst 0, 1) := by decide +kernel
theorem dX12_number_1 : decode cX12_number 1 = .ok (.istore_n 3, 1) := by decide +kernel
theorem dX12_number_2 : decode cX12_number 2 = .ok (.iconst 0, 1) := by decide +kernel
theorem dX12_number_3 : decode cX12_number 3 = .ok (.istore 4, 2) := by decide +kernel
theorem dX12_number_5 : decode cX12_number 5 = .ok (.aload_n 0, 1) := by decide +kernel
theorem dX12_number_6 : decode cX12_number 6 = .ok (.getfield 108, 3) := by decide +kernel
theorem dX12_number_9 : decode cX12_number 9 = .ok (.aload_n 0, 1) := by decide +kernel
theorem dX12_number_10 : decode cX12_number 10 = .ok (.getfield 105, 3) := by decide +kernel
theorem dX12_number_13 : decode cX12_number 13 = .ok (.if_icmp .ge 69, 3) := by decide +kernel
theorem dX12_number_16 : decode cX12_number 16 = .ok (.aload_n 0, 1) := by decide +kernel
theorem dX12_number_17 : decode cX12_number 17 = .ok (.getfield 7, 3) := by decide +kernel
theorem dX12_number_20 : decode cX12_number 20 = .ok (.aload_n 0, 1) := by decide +kernel
theorem dX12_number_21 : decode cX12_number 21 = .ok (.getfield 108, 3) := by decide +kernel
theorem dX12_number_24 : decode cX12_number 24 = .ok (.baload, 1) := by decide +kernel
theorem dX12_number_25 : decode cX12_number 25 = .ok (.i2l, 1) := by decide +kernel
theorem dX12_number_26 : decode cX12_number 26 = .ok (.ldc2_w 111, 3) := by decide +kernel
theorem dX12_number_29 : decode cX12_number 29 = .ok (.ldc2_w 113, 3) := by decide +kernel
theorem dX12_number_32 : decode cX12_number 32 = .ok (.invokestatic 101, 3) := by decide +kernel
theorem dX12_number_35 : decode cX12_number 35 = .ok (.ifCond .eq 47, 3) := by decide +kernel
theorem dX12_number_38 : decode cX12_number 38 = .ok (.iload 4, 2) := by decide +kernel
theorem dX12_number_40 : decode cX12_number 40 = .ok (.iconst 3, 1) := by decide +kernel
theorem dX12_number_41 : decode cX12_number 41 = .ok (.if_icmp .ge 23, 3) := by decide +kernel
theorem dX12_number_44 : decode cX12_number 44 = .ok (.bipush 10, 2) := by decide +kernel
theorem dX12_number_46 : decode cX12_number 46 = .ok (.iload_n 3, 1) := by decide +kernel
theorem dX12_number_47 : decode cX12_number 47 = .ok (.imul, 1) := by decide +kernel
theorem dX12_number_48 : decode cX12_number 48 = .ok (.aload_n 0, 1) := by decide +kernel
theorem dX12_number_49 : decode cX12_number 49 = .ok (.getfield 7, 3) := by decide +kernel
theorem dX12_number_52 : decode cX12_number 52 = .ok (.aload_n 0, 1) := by decide +kernel
theorem dX12_number_53 : decode cX12_number 53 = .ok (.getfield 108, 3) := by decide +kernel
theorem dX12_number_56 : decode cX12_number 56 = .ok (.baload, 1) := by decide +kernel
theorem dX12_number_57 : decode cX12_number 57 = .ok (.iadd, 1) := by decide +kernel
theorem dX12_number_58 : decode cX12_number 58 = .ok (.bipush 48, 2) := by decide +kernel
theorem dX12_number_60 : decode cX12_number 60 = .ok (.isub, 1) := by decide +kernel
theorem dX12_number_61 : decode cX12_number 61 = .ok (.goto 4, 3) := by decide +kernel
theorem dX12_number_64 : decode cX12_number 64 = .ok (.iload_n 3, 1) := by decide +kernel
theorem dX12_number_65 : decode cX12_number 65 = .ok (.istore_n 3, 1) := by decide +kernel
theorem dX12_number_66 : decode cX12_number 66 = .ok (.iinc 4 1, 3) := by decide +kernel
theorem dX12_number_69 : decode cX12_number 69 = .ok (.aload_n 0, 1) := by decide +kernel
theorem dX12_number_70 : decode cX12_number 70 = .ok (.dup, 1) := by decide +kernel
theorem dX12_number_71 : decode cX12_number 71 = .ok (.getfield 108, 3) := by decide +kernel
theorem dX12_number_74 : decode cX12_number 74 = .ok (.iconst 1, 1) := by decide +kernel
theorem dX12_number_75 : decode cX12_number 75 = .ok (.iadd, 1) := by decide +kernel
theorem dX12_number_76 : decode cX12_number 76 = .ok (.putfield 108, 3) := by decide +kernel
theorem dX12_number_79 : decode cX12_number 79 = .ok (.goto (-74), 3) := by decide +kernel
theorem dX12_number_82 : decode cX12_number 82 = .ok (.iload 4, 2) := by decide +kernel
theorem dX12_number_84 : decode cX12_number 84 = .ok (.i2l, 1) := by decide +kernel
theorem dX12_number_85 : decode cX12_number 85 = .ok (.lconst 1, 1) := by decide +kernel
theorem dX12_number_86 : decode cX12_number 86 = .ok (.ldc2_w 115, 3) := by decide +kernel
theorem dX12_number_89 : decode cX12_number 89 = .ok (.invokestatic 101, 3) := by decide +kernel
theorem dX12_number_92 : decode cX12_number 92 = .ok (.ifCond .eq 19, 3) := by decide +kernel
theorem dX12_number_95 : decode cX12_number 95 = .ok (.iload_n 3, 1) := by decide +kernel
theorem dX12_number_96 : decode cX12_number 96 = .ok (.i2l, 1) := by decide +kernel
theorem dX12_number_97 : decode cX12_number 97 = .ok (.iload_n 1, 1) := by decide +kernel
theorem dX12_number_98 : decode cX12_number 98 = .ok (.i2l, 1) := by decide +kernel
theorem dX12_number_99 : decode cX12_number 99 = .ok (.iload_n 2, 1) := by decide +kernel
theorem dX12_number_100 : decode cX12_number 100 = .ok (.i2l, 1) := by decide +kernel
theorem dX12_number_101 : decode cX12_number 101 = .ok (.invokestatic 101, 3) := by decide +kernel
theorem dX12_number_104 : decode cX12_number 104 = .ok (.ifCond .eq 7, 3) := by decide +kernel
theorem dX12_number_107 : decode cX12_number 107 = .ok (.iload_n 3, 1) := by decide +kernel
theorem dX12_number_108 : decode cX12_number 108 = .ok (.goto 4, 3) := by decide +kernel
theorem dX12_number_111 : decode cX12_number 111 = .ok (.iconst (-1), 1) := by decide +kernel
theorem dX12_number_112 : decode cX12_number 112 = .ok (.ireturn, 1) := by decide +kernel
theorem dX12_lowOf_0 : decode cX12_lowOf 0 = .ok (.iload_n 0, 1) := by decide +kernel
theorem dX12_lowOf_1 : decode cX12_lowOf 1 = .ok (.bipush 118, 2) := by decide +kernel
theorem dX12_lowOf_3 : decode cX12_lowOf 3 = .ok (.if_icmp .ne 7, 3) := by decide +kernel
theorem dX12_lowOf_6 : decode cX12_lowOf 6 = .ok (.iload_n 1, 1) := by decide +kernel
theorem dX12_lowOf_7 : decode cX12_lowOf 7 = .ok (.ifCond .eq 30, 3) := by decide +kernel
theorem dX12_lowOf_10 : decode cX12_lowOf 10 = .ok (.iload_n 0, 1) := by decide +kernel
theorem dX12_lowOf_11 : decode cX12_lowOf 11 = .ok (.bipush 112, 2) := by decide +kernel
theorem dX12_lowOf_13 : decode cX12_lowOf 13 = .ok (.if_icmp .ne 8, 3) := by decide +kernel
theorem dX12_lowOf_16 : decode cX12_lowOf 16 = .ok (.iload_n 1, 1) := by decide +kernel
theorem dX12_lowOf_17 : decode cX12_lowOf 17 = .ok (.iconst 2, 1) := by decide +kernel
theorem dX12_lowOf_18 : decode cX12_lowOf 18 = .ok (.if_icmp .lt 19, 3) := by decide +kernel
theorem dX12_lowOf_21 : decode cX12_lowOf 21 = .ok (.iload_n 0, 1) := by decide +kernel
theorem dX12_lowOf_22 : decode cX12_lowOf 22 = .ok (.bipush 107, 2) := by decide +kernel
theorem dX12_lowOf_24 : decode cX12_lowOf 24 = .ok (.if_icmp .eq 13, 3) := by decide +kernel
theorem dX12_lowOf_27 : decode cX12_lowOf 27 = .ok (.iload_n 0, 1) := by decide +kernel
theorem dX12_lowOf_28 : decode cX12_lowOf 28 = .ok (.bipush 116, 2) := by decide +kernel
theorem dX12_lowOf_30 : decode cX12_lowOf 30 = .ok (.if_icmp .ne 11, 3) := by decide +kernel
theorem dX12_lowOf_33 : decode cX12_lowOf 33 = .ok (.iload_n 1, 1) := by decide +kernel
theorem dX12_lowOf_34 : decode cX12_lowOf 34 = .ok (.ifCond .ne 7, 3) := by decide +kernel
theorem dX12_lowOf_37 : decode cX12_lowOf 37 = .ok (.iconst 1, 1) := by decide +kernel
theorem dX12_lowOf_38 : decode cX12_lowOf 38 = .ok (.goto 4, 3) := by decide +kernel
theorem dX12_lowOf_41 : decode cX12_lowOf 41 = .ok (.iconst 0, 1) := by decide +kernel
theorem dX12_lowOf_42 : decode cX12_lowOf 42 = .ok (.ireturn, 1) := by decide +kernel
theorem dX12_highOf_0 : decode cX12_highOf 0 = .ok (.iload_n 0, 1) := by decide +kernel
theorem dX12_highOf_1 : decode cX12_highOf 1 = .ok (.bipush 118, 2) := by decide +kernel
theorem dX12_highOf_3 : decode cX12_highOf 3 = .ok (.if_icmp .ne 16, 3) := by decide +kernel
theorem dX12_highOf_6 : decode cX12_highOf 6 = .ok (.iload_n 1, 1) := by decide +kernel
theorem dX12_highOf_7 : decode cX12_highOf 7 = .ok (.ifCond .ne 8, 3) := by decide +kernel
theorem dX12_highOf_10 : decode cX12_highOf 10 = .ok (.bipush 99, 2) := by decide +kernel
theorem dX12_highOf_12 : decode cX12_highOf 12 = .ok (.goto 6, 3) := by decide +kernel
theorem dX12_highOf_15 : decode cX12_highOf 15 = .ok (.sipush 999, 3) := by decide +kernel
theorem dX12_highOf_18 : decode cX12_highOf 18 = .ok (.ireturn, 1) := by decide +kernel
theorem dX12_highOf_19 : decode cX12_highOf 19 = .ok (.iload_n 0, 1) := by decide +kernel
theorem dX12_highOf_20 : decode cX12_highOf 20 = .ok (.bipush 112, 2) := by decide +kernel
theorem dX12_highOf_22 : decode cX12_highOf 22 = .ok (.if_icmp .ne 36, 3) := by decide +kernel
theorem dX12_highOf_25 : decode cX12_highOf 25 = .ok (.iload_n 1, 1) := by decide +kernel
theorem dX12_highOf_26 : decode cX12_highOf 26 = .ok (.ifCond .ne 8, 3) := by decide +kernel
theorem dX12_highOf_29 : decode cX12_highOf 29 = .ok (.bipush 99, 2) := by decide +kernel
theorem dX12_highOf_31 : decode cX12_highOf 31 = .ok (.goto 26, 3) := by decide +kernel
theorem dX12_highOf_34 : decode cX12_highOf 34 = .ok (.iload_n 1, 1) := by decide +kernel
theorem dX12_highOf_35 : decode cX12_highOf 35 = .ok (.iconst 1, 1) := by decide +kernel
theorem dX12_highOf_36 : decode cX12_highOf 36 = .ok (.if_icmp .ne 8, 3) := by decide +kernel
theorem dX12_highOf_39 : decode cX12_highOf 39 = .ok (.bipush 8, 2) := by decide +kernel
theorem dX12_highOf_41 : decode cX12_highOf 41 = .ok (.goto 16, 3) := by decide +kernel
theorem dX12_highOf_44 : decode cX12_highOf 44 = .ok (.iload_n 1, 1) := by decide +kernel
theorem dX12_highOf_45 : decode cX12_highOf 45 = .ok (.iconst 2, 1) := by decide +kernel
theorem dX12_highOf_46 : decode cX12_highOf 46 = .ok (.if_icmp .ne 8, 3) := by decide +kernel
theorem dX12_highOf_49 : decode cX12_highOf 49 = .ok (.bipush 100, 2) := by decide +kernel
theorem dX12_highOf_51 : decode cX12_highOf 51 = .ok (.goto 6, 3) := by decide +kernel
theorem dX12_highOf_54 : decode cX12_highOf 54 = .ok (.sipush 999, 3) := by decide +kernel
theorem dX12_highOf_57 : decode cX12_highOf 57 = .ok (.ireturn, 1) := by decide +kernel
theorem dX12_highOf_58 : decode cX12_highOf 58 = .ok (.iload_n 0, 1) := by decide +kernel
theorem dX12_highOf_59 : decode cX12_highOf 59 = .ok (.bipush 107, 2) := by decide +kernel
theorem dX12_highOf_61 : decode cX12_highOf 61 = .ok (.if_icmp .ne 16, 3) := by decide +kernel
theorem dX12_highOf_64 : decode cX12_highOf 64 = .ok (.iload_n 1, 1) := by decide +kernel
theorem dX12_highOf_65 : decode cX12_highOf 65 = .ok (.ifCond .ne 8, 3) := by decide +kernel
theorem dX12_highOf_68 : decode cX12_highOf 68 = .ok (.bipush 8, 2) := by decide +kernel
theorem dX12_highOf_70 : decode cX12_highOf 70 = .ok (.goto 6, 3) := by decide +kernel
theorem dX12_highOf_73 : decode cX12_highOf 73 = .ok (.sipush 999, 3) := by decide +kernel
theorem dX12_highOf_76 : decode cX12_highOf 76 = .ok (.ireturn, 1) := by decide +kernel
theorem dX12_highOf_77 : decode cX12_highOf 77 = .ok (.iload_n 0, 1) := by decide +kernel
theorem dX12_highOf_78 : decode cX12_highOf 78 = .ok (.bipush 116, 2) := by decide +kernel
theorem dX12_highOf_80 : decode cX12_highOf 80 = .ok (.if_icmp .ne 16, 3) := by decide +kernel
theorem dX12_highOf_83 : decode cX12_highOf 83 = .ok (.iload_n 1, 1) := by decide +kernel
theorem dX12_highOf_84 : decode cX12_highOf 84 = .ok (.ifCond .ne 9, 3) := by decide +kernel
theorem dX12_highOf_87 : decode cX12_highOf 87 = .ok (.sipush 400, 3) := by decide +kernel
theorem dX12_highOf_90 : decode cX12_highOf 90 = .ok (.goto 5, 3) := by decide +kernel
theorem dX12_highOf_93 : decode cX12_highOf 93 = .ok (.bipush 10, 2) := by decide +kernel
theorem dX12_highOf_95 : decode cX12_highOf 95 = .ok (.ireturn, 1) := by decide +kernel
theorem dX12_highOf_96 : decode cX12_highOf 96 = .ok (.iload_n 0, 1) := by decide +kernel
theorem dX12_highOf_97 : decode cX12_highOf 97 = .ok (.bipush 98, 2) := by decide +kernel
theorem dX12_highOf_99 : decode cX12_highOf 99 = .ok (.if_icmp .ne 8, 3) := by decide +kernel
theorem dX12_highOf_102 : decode cX12_highOf 102 = .ok (.bipush 100, 2) := by decide +kernel
theorem dX12_highOf_104 : decode cX12_highOf 104 = .ok (.goto 17, 3) := by decide +kernel
theorem dX12_highOf_107 : decode cX12_highOf 107 = .ok (.iload_n 0, 1) := by decide +kernel
theorem dX12_highOf_108 : decode cX12_highOf 108 = .ok (.bipush 99, 2) := by decide +kernel
theorem dX12_highOf_110 : decode cX12_highOf 110 = .ok (.if_icmp .ne 8, 3) := by decide +kernel
theorem dX12_highOf_113 : decode cX12_highOf 113 = .ok (.bipush 99, 2) := by decide +kernel
theorem dX12_highOf_115 : decode cX12_highOf 115 = .ok (.goto 6, 3) := by decide +kernel
theorem dX12_highOf_118 : decode cX12_highOf 118 = .ok (.sipush 999, 3) := by decide +kernel
theorem dX12_highOf_121 : decode cX12_highOf 121 = .ok (.ireturn, 1) := by decide +kernel
set_option maxRecDepth 20000 in
theorem ggX12_isItem_X12_lowOf : GoodIn wsX12_isItem wsX12_lowOf := goodIn_r _ [11] (by decide +kernel) (by decide +kernel)
set_option maxRecDepth 20000 in
theorem gX12_isItem_X12_lowOf : GoodIn wsX12_isItem (va_wsS RX12 117 yX12_lowOf wsX12_lowOf) := goodIn_app (goodIn_of _ (by decide +kernel)) ggX12_isItem_X12_lowOf
set_option maxRecDepth 20000 in
theorem ggX12_isItem_X12_highOf : GoodIn wsX12_isItem wsX12_highOf := goodIn_r _ [14] (by decide +kernel) (by decide +kernel)
set_option maxRecDepth 20000 in
theorem gX12_isItem_X12_highOf : GoodIn wsX12_isItem (va_wsS RX12 121 yX12_highOf wsX12_highOf) := goodIn_app (goodIn_of _ (by decide +kernel)) ggX12_isItem_X12_highOf
set_option maxRecDepth 20000 in
theorem ggX12_isItem_X12_number : GoodIn wsX12_isItem wsX12_number := goodIn_r _ [18, 2, 3, 1, 19, 20, 21, 22, 23, 10, 24, 35, 36, 37, 38, 39, 40, 41, 42, 43, 44, 45, 46, 47, 48, 49, 50, 51, 52, 53, 54, 55, 56, 57, 58, 59, 60, 61, 62, 63, 64, 65] (by decide +kernel) (by decide +kernel)
set_option maxRecDepth 20000 in
theorem gX12_isItem_X12_number : GoodIn wsX12_isItem (wsV RX12 124 RX12 yX12_number wsX12_number) := goodIn_app (goodIn_of _ (by decide +kernel)) ggX12_isItem_X12_number
set_option maxRecDepth 20000 in
theorem ggX12_isItem_X12_puts : GoodIn wsX12_isItem wsX12_puts := goodIn_r _ [28, 29, 5, 4, 30, 6, 31, 32, 33, 7, 34, 35, 36, 37, 38, 39, 40, 41, 42, 43, 44, 45, 46, 47, 48, 49, 50, 51, 52, 53, 54, 55, 56, 57, 58, 59, 60, 61, 62, 63, 64, 65] (by decide +kernel) (by decide +kernel)
set_option maxRecDepth 20000 in
theorem gX12_isItem_X12_puts : GoodIn wsX12_isItem (wsV RX12 127 RX12 yX12_puts wsX12_puts) := goodIn_app (goodIn_of _ (by decide +kernel)) ggX12_isItem_X12_puts
theorem dX12_isItem_0 : decode cX12_isItem 0 = .ok (.aload_n 0, 1) := by decide +kernel
theorem dX12_isItem_1 : decode cX12_isItem 1 = .ok (.getfield 7, 3) := by decide +kernel
theorem dX12_isItem_4 : decode cX12_isItem 4 = .ok (.aload_n 0, 1) := by decide +kernel
theorem dX12_isItem_5 : decode cX12_isItem 5 = .ok (.getfield 108, 3) := by decide +kernel
theorem dX12_isItem_8 : decode cX12_isItem 8 = .ok (.baload, 1) := by decide +kernel
theorem dX12_isItem_9 : decode cX12_isItem 9 = .ok (.istore_n 1, 1) := by decide +kernel
theorem dX12_isItem_10 : decode cX12_isItem 10 = .ok (.aload_n 0, 1) := by decide +kernel
theorem dX12_isItem_11 : decode cX12_isItem 11 = .ok (.dup, 1) := by decide +kernel
theorem dX12_isItem_12 : decode cX12_isItem 12 = .ok (.getfield 108, 3) := by decide +kernel
theorem dX12_isItem_15 : decode cX12_isItem 15 = .ok (.iconst 1, 1) := by decide +kernel
theorem dX12_isItem_16 : decode cX12_isItem 16 = .ok (.iadd, 1) := by decide +kernel
theorem dX12_isItem_17 : decode cX12_isItem 17 = .ok (.putfield 108, 3) := by decide +kernel
theorem dX12_isItem_20 : decode cX12_isItem 20 = .ok (.iload_n 1, 1) := by decide +kernel
theorem dX12_isItem_21 : decode cX12_isItem 21 = .ok (.bipush 118, 2) := by decide +kernel
theorem dX12_isItem_23 : decode cX12_isItem 23 = .ok (.if_icmp .eq 27, 3) := by decide +kernel
theorem dX12_isItem_26 : decode cX12_isItem 26 = .ok (.iload_n 1, 1) := by decide +kernel
theorem dX12_isItem_27 : decode cX12_isItem 27 = .ok (.bipush 98, 2) := by decide +kernel
theorem dX12_isItem_29 : decode cX12_isItem 29 = .ok (.if_icmp .eq 21, 3) := by decide +kernel
theorem dX12_isItem_32 : decode cX12_isItem 32 = .ok (.iload_n 1, 1) := by decide +kernel
theorem dX12_isItem_33 : decode cX12_isItem 33 = .ok (.bipush 99, 2) := by decide +kernel
theorem dX12_isItem_35 : decode cX12_isItem 35 = .ok (.if_icmp .eq 15, 3) := by decide +kernel
theorem dX12_isItem_38 : decode cX12_isItem 38 = .ok (.iload_n 1, 1) := by decide +kernel
theorem dX12_isItem_39 : decode cX12_isItem 39 = .ok (.bipush 107, 2) := by decide +kernel
theorem dX12_isItem_41 : decode cX12_isItem 41 = .ok (.if_icmp .eq 9, 3) := by decide +kernel
theorem dX12_isItem_44 : decode cX12_isItem 44 = .ok (.iload_n 1, 1) := by decide +kernel
theorem dX12_isItem_45 : decode cX12_isItem 45 = .ok (.bipush 116, 2) := by decide +kernel
theorem dX12_isItem_47 : decode cX12_isItem 47 = .ok (.if_icmp .ne 7, 3) := by decide +kernel
theorem dX12_isItem_50 : decode cX12_isItem 50 = .ok (.iconst 2, 1) := by decide +kernel
theorem dX12_isItem_51 : decode cX12_isItem 51 = .ok (.goto 24, 3) := by decide +kernel
theorem dX12_isItem_54 : decode cX12_isItem 54 = .ok (.iload_n 1, 1) := by decide +kernel
theorem dX12_isItem_55 : decode cX12_isItem 55 = .ok (.bipush 112, 2) := by decide +kernel
theorem dX12_isItem_57 : decode cX12_isItem 57 = .ok (.if_icmp .ne 7, 3) := by decide +kernel
theorem dX12_isItem_60 : decode cX12_isItem 60 = .ok (.iconst 4, 1) := by decide +kernel
theorem dX12_isItem_61 : decode cX12_isItem 61 = .ok (.goto 14, 3) := by decide +kernel
theorem dX12_isItem_64 : decode cX12_isItem 64 = .ok (.iload_n 1, 1) := by decide +kernel
theorem dX12_isItem_65 : decode cX12_isItem 65 = .ok (.bipush 104, 2) := by decide +kernel
theorem dX12_isItem_67 : decode cX12_isItem 67 = .ok (.if_icmp .ne 7, 3) := by decide +kernel
theorem dX12_isItem_70 : decode cX12_isItem 70 = .ok (.iconst 1, 1) := by decide +kernel
theorem dX12_isItem_71 : decode cX12_isItem 71 = .ok (.goto 4, 3) := by decide +kernel
theorem dX12_isItem_74 : decode cX12_isItem 74 = .ok (.iconst 0, 1) := by decide +kernel
theorem dX12_isItem_75 : decode cX12_isItem 75 = .ok (.istore_n 2, 1) := by decide +kernel
theorem dX12_isItem_76 : decode cX12_isItem 76 = .ok (.iload_n 2, 1) := by decide +kernel
theorem dX12_isItem_77 : decode cX12_isItem 77 = .ok (.ifCond .le 7, 3) := by decide +kernel
theorem dX12_isItem_80 : decode cX12_isItem 80 = .ok (.iconst 1, 1) := by decide +kernel
theorem dX12_isItem_81 : decode cX12_isItem 81 = .ok (.goto 4, 3) := by decide +kernel
theorem dX12_isItem_84 : decode cX12_isItem 84 = .ok (.iconst 0, 1) := by decide +kernel
theorem dX12_isItem_85 : decode cX12_isItem 85 = .ok (.istore_n 3, 1) := by decide +kernel
theorem dX12_isItem_86 : decode cX12_isItem 86 = .ok (.iconst 0, 1) := by decide +kernel
theorem dX12_isItem_87 : decode cX12_isItem 87 = .ok (.istore 4, 2) := by decide +kernel
theorem dX12_isItem_89 : decode cX12_isItem 89 = .ok (.iload 4, 2) := by decide +kernel
theorem dX12_isItem_91 : decode cX12_isItem 91 = .ok (.iload_n 2, 1) := by decide +kernel
theorem dX12_isItem_92 : decode cX12_isItem 92 = .ok (.if_icmp .ge 115, 3) := by decide +kernel
theorem dX12_isItem_95 : decode cX12_isItem 95 = .ok (.iload_n 3, 1) := by decide +kernel
theorem dX12_isItem_96 : decode cX12_isItem 96 = .ok (.ifCond .eq 111, 3) := by decide +kernel
theorem dX12_isItem_99 : decode cX12_isItem 99 = .ok (.iload 4, 2) := by decide +kernel
theorem dX12_isItem_101 : decode cX12_isItem 101 = .ok (.ifCond .eq 28, 3) := by decide +kernel
theorem dX12_isItem_104 : decode cX12_isItem 104 = .ok (.aload_n 0, 1) := by decide +kernel
theorem dX12_isItem_105 : decode cX12_isItem 105 = .ok (.getfield 108, 3) := by decide +kernel
theorem dX12_isItem_108 : decode cX12_isItem 108 = .ok (.aload_n 0, 1) := by decide +kernel
theorem dX12_isItem_109 : decode cX12_isItem 109 = .ok (.getfield 105, 3) := by decide +kernel
theorem dX12_isItem_112 : decode cX12_isItem 112 = .ok (.if_icmp .ge 21, 3) := by decide +kernel
theorem dX12_isItem_115 : decode cX12_isItem 115 = .ok (.aload_n 0, 1) := by decide +kernel
theorem dX12_isItem_116 : decode cX12_isItem 116 = .ok (.getfield 7, 3) := by decide +kernel
theorem dX12_isItem_119 : decode cX12_isItem 119 = .ok (.aload_n 0, 1) := by decide +kernel
theorem dX12_isItem_120 : decode cX12_isItem 120 = .ok (.getfield 108, 3) := by decide +kernel
theorem dX12_isItem_123 : decode cX12_isItem 123 = .ok (.baload, 1) := by decide +kernel
theorem dX12_isItem_124 : decode cX12_isItem 124 = .ok (.bipush 44, 2) := by decide +kernel
theorem dX12_isItem_126 : decode cX12_isItem 126 = .ok (.if_icmp .ne 7, 3) := by decide +kernel
theorem dX12_isItem_129 : decode cX12_isItem 129 = .ok (.iconst 1, 1) := by decide +kernel
theorem dX12_isItem_130 : decode cX12_isItem 130 = .ok (.goto 4, 3) := by decide +kernel
theorem dX12_isItem_133 : decode cX12_isItem 133 = .ok (.iconst 0, 1) := by decide +kernel
theorem dX12_isItem_134 : decode cX12_isItem 134 = .ok (.istore_n 3, 1) := by decide +kernel
theorem dX12_isItem_135 : decode cX12_isItem 135 = .ok (.aload_n 0, 1) := by decide +kernel
theorem dX12_isItem_136 : decode cX12_isItem 136 = .ok (.dup, 1) := by decide +kernel
theorem dX12_isItem_137 : decode cX12_isItem 137 = .ok (.getfield 108, 3) := by decide +kernel
theorem dX12_isItem_140 : decode cX12_isItem 140 = .ok (.iload 4, 2) := by decide +kernel
theorem dX12_isItem_142 : decode cX12_isItem 142 = .ok (.ifCond .ne 7, 3) := by decide +kernel
theorem dX12_isItem_145 : decode cX12_isItem 145 = .ok (.iconst 0, 1) := by decide +kernel
theorem dX12_isItem_146 : decode cX12_isItem 146 = .ok (.goto 4, 3) := by decide +kernel
theorem dX12_isItem_149 : decode cX12_isItem 149 = .ok (.iconst 1, 1) := by decide +kernel
theorem dX12_isItem_150 : decode cX12_isItem 150 = .ok (.iadd, 1) := by decide +kernel
theorem dX12_isItem_151 : decode cX12_isItem 151 = .ok (.putfield 108, 3) := by decide +kernel
theorem dX12_isItem_154 : decode cX12_isItem 154 = .ok (.aload_n 0, 1) := by decide +kernel
theorem dX12_isItem_155 : decode cX12_isItem 155 = .ok (.getfield 13, 3) := by decide +kernel
theorem dX12_isItem_158 : decode cX12_isItem 158 = .ok (.iload 4, 2) := by decide +kernel
theorem dX12_isItem_160 : decode cX12_isItem 160 = .ok (.iload_n 3, 1) := by decide +kernel
theorem dX12_isItem_161 : decode cX12_isItem 161 = .ok (.ifCond .eq 22, 3) := by decide +kernel
theorem dX12_isItem_164 : decode cX12_isItem 164 = .ok (.aload_n 0, 1) := by decide +kernel
theorem dX12_isItem_165 : decode cX12_isItem 165 = .ok (.iload_n 1, 1) := by decide +kernel
theorem dX12_isItem_166 : decode cX12_isItem 166 = .ok (.iload 4, 2) := by decide +kernel
theorem dX12_isItem_168 : decode cX12_isItem 168 = .ok (.invokestatic 117, 3) := by decide +kernel
theorem dX12_isItem_171 : decode cX12_isItem 171 = .ok (.iload_n 1, 1) := by decide +kernel
theorem dX12_isItem_172 : decode cX12_isItem 172 = .ok (.iload 4, 2) := by decide +kernel
theorem dX12_isItem_174 : decode cX12_isItem 174 = .ok (.invokestatic 121, 3) := by decide +kernel
theorem dX12_isItem_177 : decode cX12_isItem 177 = .ok (.invokevirtual 124, 3) := by decide +kernel
theorem dX12_isItem_180 : decode cX12_isItem 180 = .ok (.goto 4, 3) := by decide +kernel
theorem dX12_isItem_183 : decode cX12_isItem 183 = .ok (.iconst (-1), 1) := by decide +kernel
theorem dX12_isItem_184 : decode cX12_isItem 184 = .ok (.iastore, 1) := by decide +kernel
theorem dX12_isItem_185 : decode cX12_isItem 185 = .ok (.aload_n 0, 1) := by decide +kernel
theorem dX12_isItem_186 : decode cX12_isItem 186 = .ok (.getfield 13, 3) := by decide +kernel
theorem dX12_isItem_189 : decode cX12_isItem 189 = .ok (.iload 4, 2) := by decide +kernel
theorem dX12_isItem_191 : decode cX12_isItem 191 = .ok (.iaload, 1) := by decide +kernel
theorem dX12_isItem_192 : decode cX12_isItem 192 = .ok (.ifCond .lt 7, 3) := by decide +kernel
theorem dX12_isItem_195 : decode cX12_isItem 195 = .ok (.iconst 1, 1) := by decide +kernel
theorem dX12_isItem_196 : decode cX12_isItem 196 = .ok (.goto 4, 3) := by decide +kernel
theorem dX12_isItem_199 : decode cX12_isItem 199 = .ok (.iconst 0, 1) := by decide +kernel
theorem dX12_isItem_200 : decode cX12_isItem 200 = .ok (.istore_n 3, 1) := by decide +kernel
theorem dX12_isItem_201 : decode cX12_isItem 201 = .ok (.iinc 4 1, 3) := by decide +kernel
theorem dX12_isItem_204 : decode cX12_isItem 204 = .ok (.goto (-115), 3) := by decide +kernel
theorem dX12_isItem_207 : decode cX12_isItem 207 = .ok (.iload_n 3, 1) := by decide +kernel
theorem dX12_isItem_208 : decode cX12_isItem 208 = .ok (.ifCond .eq 32, 3) := by decide +kernel
theorem dX12_isItem_211 : decode cX12_isItem 211 = .ok (.aload_n 0, 1) := by decide +kernel
theorem dX12_isItem_212 : decode cX12_isItem 212 = .ok (.getfield 108, 3) := by decide +kernel
theorem dX12_isItem_215 : decode cX12_isItem 215 = .ok (.aload_n 0, 1) := by decide +kernel
theorem dX12_isItem_216 : decode cX12_isItem 216 = .ok (.getfield 105, 3) := by decide +kernel
theorem dX12_isItem_219 : decode cX12_isItem 219 = .ok (.if_icmp .ge 21, 3) := by decide +kernel
theorem dX12_isItem_222 : decode cX12_isItem 222 = .ok (.aload_n 0, 1) := by decide +kernel
theorem dX12_isItem_223 : decode cX12_isItem 223 = .ok (.getfield 7, 3) := by decide +kernel
theorem dX12_isItem_226 : decode cX12_isItem 226 = .ok (.aload_n 0, 1) := by decide +kernel
theorem dX12_isItem_227 : decode cX12_isItem 227 = .ok (.getfield 108, 3) := by decide +kernel
theorem dX12_isItem_230 : decode cX12_isItem 230 = .ok (.baload, 1) := by decide +kernel
theorem dX12_isItem_231 : decode cX12_isItem 231 = .ok (.bipush 59, 2) := by decide +kernel
theorem dX12_isItem_233 : decode cX12_isItem 233 = .ok (.if_icmp .ne 7, 3) := by decide +kernel
theorem dX12_isItem_236 : decode cX12_isItem 236 = .ok (.iconst 1, 1) := by decide +kernel
theorem dX12_isItem_237 : decode cX12_isItem 237 = .ok (.goto 4, 3) := by decide +kernel
theorem dX12_isItem_240 : decode cX12_isItem 240 = .ok (.iconst 0, 1) := by decide +kernel
theorem dX12_isItem_241 : decode cX12_isItem 241 = .ok (.istore_n 3, 1) := by decide +kernel
theorem dX12_isItem_242 : decode cX12_isItem 242 = .ok (.iload_n 3, 1) := by decide +kernel
theorem dX12_isItem_243 : decode cX12_isItem 243 = .ok (.ifCond .eq 53, 3) := by decide +kernel
theorem dX12_isItem_246 : decode cX12_isItem 246 = .ok (.iload_n 1, 1) := by decide +kernel
theorem dX12_isItem_247 : decode cX12_isItem 247 = .ok (.bipush 118, 2) := by decide +kernel
theorem dX12_isItem_249 : decode cX12_isItem 249 = .ok (.if_icmp .ne 14, 3) := by decide +kernel
theorem dX12_isItem_252 : decode cX12_isItem 252 = .ok (.aload_n 0, 1) := by decide +kernel
theorem dX12_isItem_253 : decode cX12_isItem 253 = .ok (.getfield 17, 3) := by decide +kernel
theorem dX12_isItem_256 : decode cX12_isItem 256 = .ok (.iconst 1, 1) := by decide +kernel
theorem dX12_isItem_257 : decode cX12_isItem 257 = .ok (.iaload, 1) := by decide +kernel
theorem dX12_isItem_258 : decode cX12_isItem 258 = .ok (.bipush 6, 2) := by decide +kernel
theorem dX12_isItem_260 : decode cX12_isItem 260 = .ok (.if_icmp .eq 36, 3) := by decide +kernel
theorem dX12_isItem_263 : decode cX12_isItem 263 = .ok (.iload_n 1, 1) := by decide +kernel
theorem dX12_isItem_264 : decode cX12_isItem 264 = .ok (.bipush 112, 2) := by decide +kernel
theorem dX12_isItem_266 : decode cX12_isItem 266 = .ok (.if_icmp .ne 14, 3) := by decide +kernel
theorem dX12_isItem_269 : decode cX12_isItem 269 = .ok (.aload_n 0, 1) := by decide +kernel
theorem dX12_isItem_270 : decode cX12_isItem 270 = .ok (.getfield 23, 3) := by decide +kernel
theorem dX12_isItem_273 : decode cX12_isItem 273 = .ok (.iconst 1, 1) := by decide +kernel
theorem dX12_isItem_274 : decode cX12_isItem 274 = .ok (.iaload, 1) := by decide +kernel
theorem dX12_isItem_275 : decode cX12_isItem 275 = .ok (.bipush 8, 2) := by decide +kernel
theorem dX12_isItem_277 : decode cX12_isItem 277 = .ok (.if_icmp .eq 19, 3) := by decide +kernel
theorem dX12_isItem_280 : decode cX12_isItem 280 = .ok (.iload_n 1, 1) := by decide +kernel
theorem dX12_isItem_281 : decode cX12_isItem 281 = .ok (.bipush 116, 2) := by decide +kernel
theorem dX12_isItem_283 : decode cX12_isItem 283 = .ok (.if_icmp .ne 15, 3) := by decide +kernel
theorem dX12_isItem_286 : decode cX12_isItem 286 = .ok (.aload_n 0, 1) := by decide +kernel
theorem dX12_isItem_287 : decode cX12_isItem 287 = .ok (.getfield 35, 3) := by decide +kernel
theorem dX12_isItem_290 : decode cX12_isItem 290 = .ok (.iconst 1, 1) := by decide +kernel
theorem dX12_isItem_291 : decode cX12_isItem 291 = .ok (.iaload, 1) := by decide +kernel
theorem dX12_isItem_292 : decode cX12_isItem 292 = .ok (.iconst 4, 1) := by decide +kernel
theorem dX12_isItem_293 : decode cX12_isItem 293 = .ok (.if_icmp .ne 5, 3) := by decide +kernel
theorem dX12_isItem_296 : decode cX12_isItem 296 = .ok (.iconst 0, 1) := by decide +kernel
theorem dX12_isItem_297 : decode cX12_isItem 297 = .ok (.ireturn, 1) := by decide +kernel
theorem dX12_isItem_298 : decode cX12_isItem 298 = .ok (.aload_n 0, 1) := by decide +kernel
theorem dX12_isItem_299 : decode cX12_isItem 299 = .ok (.dup, 1) := by decide +kernel
theorem dX12_isItem_300 : decode cX12_isItem 300 = .ok (.getfield 108, 3) := by decide +kernel
theorem dX12_isItem_303 : decode cX12_isItem 303 = .ok (.iconst 1, 1) := by decide +kernel
theorem dX12_isItem_304 : decode cX12_isItem 304 = .ok (.iadd, 1) := by decide +kernel
theorem dX12_isItem_305 : decode cX12_isItem 305 = .ok (.putfield 108, 3) := by decide +kernel
theorem dX12_isItem_308 : decode cX12_isItem 308 = .ok (.aload_n 0, 1) := by decide +kernel
theorem dX12_isItem_309 : decode cX12_isItem 309 = .ok (.iload_n 1, 1) := by decide +kernel
theorem dX12_isItem_310 : decode cX12_isItem 310 = .ok (.iload_n 2, 1) := by decide +kernel
theorem dX12_isItem_311 : decode cX12_isItem 311 = .ok (.invokevirtual 127, 3) := by decide +kernel
theorem dX12_isItem_314 : decode cX12_isItem 314 = .ok (.iconst 1, 1) := by decide +kernel
theorem dX12_isItem_315 : decode cX12_isItem 315 = .ok (.ireturn, 1) := by decide +kernel
theorem dX12_puts_0 : decode cX12_puts 0 = .ok (.iconst 0, 1) := by decide +kernel
theorem dX12_puts_1 : decode cX12_puts 1 = .ok (.istore_n 3, 1) := by decide +kernel
theorem dX12_puts_2 : decode cX12_puts 2 = .ok (.iload_n 3, 1) := by decide +kernel
theorem dX12_puts_3 : decode cX12_puts 3 = .ok (.iload_n 2, 1) := by decide +kernel
theorem dX12_puts_4 : decode cX12_puts 4 = .ok (.if_icmp .ge 178, 3) := by decide +kernel
theorem dX12_puts_7 : decode cX12_puts 7 = .ok (.iload_n 1, 1) := by decide +kernel
theorem dX12_puts_8 : decode cX12_puts 8 = .ok (.bipush 118, 2) := by decide +kernel
theorem dX12_puts_10 : decode cX12_puts 10 = .ok (.if_icmp .ne 30, 3) := by decide +kernel
theorem dX12_puts_13 : decode cX12_puts 13 = .ok (.aload_n 0, 1) := by decide +kernel
theorem dX12_puts_14 : decode cX12_puts 14 = .ok (.getfield 20, 3) := by decide +kernel
theorem dX12_puts_17 : decode cX12_puts 17 = .ok (.bipush 12, 2) := by decide +kernel
theorem dX12_puts_19 : decode cX12_puts 19 = .ok (.iconst 2, 1) := by decide +kernel
theorem dX12_puts_20 : decode cX12_puts 20 = .ok (.aload_n 0, 1) := by decide +kernel
theorem dX12_puts_21 : decode cX12_puts 21 = .ok (.getfield 17, 3) := by decide +kernel
theorem dX12_puts_24 : decode cX12_puts 24 = .ok (.iconst 1, 1) := by decide +kernel
theorem dX12_puts_25 : decode cX12_puts 25 = .ok (.iaload, 1) := by decide +kernel
theorem dX12_puts_26 : decode cX12_puts 26 = .ok (.imul, 1) := by decide +kernel
theorem dX12_puts_27 : decode cX12_puts 27 = .ok (.iadd, 1) := by decide +kernel
theorem dX12_puts_28 : decode cX12_puts 28 = .ok (.iload_n 3, 1) := by decide +kernel
theorem dX12_puts_29 : decode cX12_puts 29 = .ok (.iadd, 1) := by decide +kernel
theorem dX12_puts_30 : decode cX12_puts 30 = .ok (.aload_n 0, 1) := by decide +kernel
theorem dX12_puts_31 : decode cX12_puts 31 = .ok (.getfield 13, 3) := by decide +kernel
theorem dX12_puts_34 : decode cX12_puts 34 = .ok (.iload_n 3, 1) := by decide +kernel
theorem dX12_puts_35 : decode cX12_puts 35 = .ok (.iaload, 1) := by decide +kernel
theorem dX12_puts_36 : decode cX12_puts 36 = .ok (.iastore, 1) := by decide +kernel
theorem dX12_puts_37 : decode cX12_puts 37 = .ok (.goto 139, 3) := by decide +kernel
theorem dX12_puts_40 : decode cX12_puts 40 = .ok (.iload_n 1, 1) := by decide +kernel
theorem dX12_puts_41 : decode cX12_puts 41 = .ok (.bipush 112, 2) := by decide +kernel
theorem dX12_puts_43 : decode cX12_puts 43 = .ok (.if_icmp .ne 30, 3) := by decide +kernel
theorem dX12_puts_46 : decode cX12_puts 46 = .ok (.aload_n 0, 1) := by decide +kernel
theorem dX12_puts_47 : decode cX12_puts 47 = .ok (.getfield 26, 3) := by decide +kernel
theorem dX12_puts_50 : decode cX12_puts 50 = .ok (.bipush 32, 2) := by decide +kernel
theorem dX12_puts_52 : decode cX12_puts 52 = .ok (.iconst 4, 1) := by decide +kernel
theorem dX12_puts_53 : decode cX12_puts 53 = .ok (.aload_n 0, 1) := by decide +kernel
theorem dX12_puts_54 : decode cX12_puts 54 = .ok (.getfield 23, 3) := by decide +kernel
theorem dX12_puts_57 : decode cX12_puts 57 = .ok (.iconst 1, 1) := by decide +kernel
theorem dX12_puts_58 : decode cX12_puts 58 = .ok (.iaload, 1) := by decide +kernel
theorem dX12_puts_59 : decode cX12_puts 59 = .ok (.imul, 1) := by decide +kernel
theorem dX12_puts_60 : decode cX12_puts 60 = .ok (.iadd, 1) := by decide +kernel
theorem dX12_puts_61 : decode cX12_puts 61 = .ok (.iload_n 3, 1) := by decide +kernel
theorem dX12_puts_62 : decode cX12_puts 62 = .ok (.iadd, 1) := by decide +kernel
theorem dX12_puts_63 : decode cX12_puts 63 = .ok (.aload_n 0, 1) := by decide +kernel
theorem dX12_puts_64 : decode cX12_puts 64 = .ok (.getfield 13, 3) := by decide +kernel
theorem dX12_puts_67 : decode cX12_puts 67 = .ok (.iload_n 3, 1) := by decide +kernel
theorem dX12_puts_68 : decode cX12_puts 68 = .ok (.iaload, 1) := by decide +kernel
theorem dX12_puts_69 : decode cX12_puts 69 = .ok (.iastore, 1) := by decide +kernel
theorem dX12_puts_70 : decode cX12_puts 70 = .ok (.goto 106, 3) := by decide +kernel
theorem dX12_puts_73 : decode cX12_puts 73 = .ok (.iload_n 1, 1) := by decide +kernel
theorem dX12_puts_74 : decode cX12_puts 74 = .ok (.bipush 98, 2) := by decide +kernel
theorem dX12_puts_76 : decode cX12_puts 76 = .ok (.if_icmp .ne 31, 3) := by decide +kernel
theorem dX12_puts_79 : decode cX12_puts 79 = .ok (.aload_n 0, 1) := by decide +kernel
theorem dX12_puts_80 : decode cX12_puts 80 = .ok (.getfield 32, 3) := by decide +kernel
theorem dX12_puts_83 : decode cX12_puts 83 = .ok (.sipush 200, 3) := by decide +kernel
theorem dX12_puts_86 : decode cX12_puts 86 = .ok (.iconst 2, 1) := by decide +kernel
theorem dX12_puts_87 : decode cX12_puts 87 = .ok (.aload_n 0, 1) := by decide +kernel
theorem dX12_puts_88 : decode cX12_puts 88 = .ok (.getfield 29, 3) := by decide +kernel
theorem dX12_puts_91 : decode cX12_puts 91 = .ok (.iconst 1, 1) := by decide +kernel
theorem dX12_puts_92 : decode cX12_puts 92 = .ok (.iaload, 1) := by decide +kernel
theorem dX12_puts_93 : decode cX12_puts 93 = .ok (.imul, 1) := by decide +kernel
theorem dX12_puts_94 : decode cX12_puts 94 = .ok (.iadd, 1) := by decide +kernel
theorem dX12_puts_95 : decode cX12_puts 95 = .ok (.iload_n 3, 1) := by decide +kernel
theorem dX12_puts_96 : decode cX12_puts 96 = .ok (.iadd, 1) := by decide +kernel
theorem dX12_puts_97 : decode cX12_puts 97 = .ok (.aload_n 0, 1) := by decide +kernel
theorem dX12_puts_98 : decode cX12_puts 98 = .ok (.getfield 13, 3) := by decide +kernel
theorem dX12_puts_101 : decode cX12_puts 101 = .ok (.iload_n 3, 1) := by decide +kernel
theorem dX12_puts_102 : decode cX12_puts 102 = .ok (.iaload, 1) := by decide +kernel
theorem dX12_puts_103 : decode cX12_puts 103 = .ok (.iastore, 1) := by decide +kernel
theorem dX12_puts_104 : decode cX12_puts 104 = .ok (.goto 72, 3) := by decide +kernel
theorem dX12_puts_107 : decode cX12_puts 107 = .ok (.iload_n 1, 1) := by decide +kernel
theorem dX12_puts_108 : decode cX12_puts 108 = .ok (.bipush 116, 2) := by decide +kernel
theorem dX12_puts_110 : decode cX12_puts 110 = .ok (.if_icmp .ne 30, 3) := by decide +kernel
theorem dX12_puts_113 : decode cX12_puts 113 = .ok (.aload_n 0, 1) := by decide +kernel
theorem dX12_puts_114 : decode cX12_puts 114 = .ok (.getfield 38, 3) := by decide +kernel
theorem dX12_puts_117 : decode cX12_puts 117 = .ok (.bipush 8, 2) := by decide +kernel
theorem dX12_puts_119 : decode cX12_puts 119 = .ok (.iconst 2, 1) := by decide +kernel
theorem dX12_puts_120 : decode cX12_puts 120 = .ok (.aload_n 0, 1) := by decide +kernel
theorem dX12_puts_121 : decode cX12_puts 121 = .ok (.getfield 35, 3) := by decide +kernel
theorem dX12_puts_124 : decode cX12_puts 124 = .ok (.iconst 1, 1) := by decide +kernel
theorem dX12_puts_125 : decode cX12_puts 125 = .ok (.iaload, 1) := by decide +kernel
theorem dX12_puts_126 : decode cX12_puts 126 = .ok (.imul, 1) := by decide +kernel
theorem dX12_puts_127 : decode cX12_puts 127 = .ok (.iadd, 1) := by decide +kernel
theorem dX12_puts_128 : decode cX12_puts 128 = .ok (.iload_n 3, 1) := by decide +kernel
theorem dX12_puts_129 : decode cX12_puts 129 = .ok (.iadd, 1) := by decide +kernel
theorem dX12_puts_130 : decode cX12_puts 130 = .ok (.aload_n 0, 1) := by decide +kernel
theorem dX12_puts_131 : decode cX12_puts 131 = .ok (.getfield 13, 3) := by decide +kernel
theorem dX12_puts_134 : decode cX12_puts 134 = .ok (.iload_n 3, 1) := by decide +kernel
theorem dX12_puts_135 : decode cX12_puts 135 = .ok (.iaload, 1) := by decide +kernel
theorem dX12_puts_136 : decode cX12_puts 136 = .ok (.iastore, 1) := by decide +kernel
theorem dX12_puts_137 : decode cX12_puts 137 = .ok (.goto 39, 3) := by decide +kernel
theorem dX12_puts_140 : decode cX12_puts 140 = .ok (.aload_n 0, 1) := by decide +kernel
theorem dX12_puts_141 : decode cX12_puts 141 = .ok (.getfield 41, 3) := by decide +kernel
theorem dX12_puts_144 : decode cX12_puts 144 = .ok (.iconst 5, 1) := by decide +kernel
theorem dX12_puts_145 : decode cX12_puts 145 = .ok (.iload_n 1, 1) := by decide +kernel
theorem dX12_puts_146 : decode cX12_puts 146 = .ok (.bipush 99, 2) := by decide +kernel
theorem dX12_puts_148 : decode cX12_puts 148 = .ok (.if_icmp .ne 7, 3) := by decide +kernel
theorem dX12_puts_151 : decode cX12_puts 151 = .ok (.iconst 0, 1) := by decide +kernel
theorem dX12_puts_152 : decode cX12_puts 152 = .ok (.goto 14, 3) := by decide +kernel
theorem dX12_puts_155 : decode cX12_puts 155 = .ok (.iload_n 1, 1) := by decide +kernel
theorem dX12_puts_156 : decode cX12_puts 156 = .ok (.bipush 104, 2) := by decide +kernel
theorem dX12_puts_158 : decode cX12_puts 158 = .ok (.if_icmp .ne 7, 3) := by decide +kernel
theorem dX12_puts_161 : decode cX12_puts 161 = .ok (.iconst 2, 1) := by decide +kernel
theorem dX12_puts_162 : decode cX12_puts 162 = .ok (.goto 4, 3) := by decide +kernel
theorem dX12_puts_165 : decode cX12_puts 165 = .ok (.iconst 3, 1) := by decide +kernel
theorem dX12_puts_166 : decode cX12_puts 166 = .ok (.iadd, 1) := by decide +kernel
theorem dX12_puts_167 : decode cX12_puts 167 = .ok (.iload_n 3, 1) := by decide +kernel
theorem dX12_puts_168 : decode cX12_puts 168 = .ok (.iadd, 1) := by decide +kernel
theorem dX12_puts_169 : decode cX12_puts 169 = .ok (.aload_n 0, 1) := by decide +kernel
theorem dX12_puts_170 : decode cX12_puts 170 = .ok (.getfield 13, 3) := by decide +kernel
theorem dX12_puts_173 : decode cX12_puts 173 = .ok (.iload_n 3, 1) := by decide +kernel
theorem dX12_puts_174 : decode cX12_puts 174 = .ok (.iaload, 1) := by decide +kernel
theorem dX12_puts_175 : decode cX12_puts 175 = .ok (.iastore, 1) := by decide +kernel
theorem dX12_puts_176 : decode cX12_puts 176 = .ok (.iinc 3 1, 3) := by decide +kernel
theorem dX12_puts_179 : decode cX12_puts 179 = .ok (.goto (-177), 3) := by decide +kernel
theorem dX12_puts_182 : decode cX12_puts 182 = .ok (.aload_n 0, 1) := by decide +kernel
theorem dX12_puts_183 : decode cX12_puts 183 = .ok (.getfield 17, 3) := by decide +kernel
theorem dX12_puts_186 : decode cX12_puts 186 = .ok (.iconst 1, 1) := by decide +kernel
theorem dX12_puts_187 : decode cX12_puts 187 = .ok (.dup2, 1) := by decide +kernel
theorem dX12_puts_188 : decode cX12_puts 188 = .ok (.iaload, 1) := by decide +kernel
theorem dX12_puts_189 : decode cX12_puts 189 = .ok (.iload_n 1, 1) := by decide +kernel
theorem dX12_puts_190 : decode cX12_puts 190 = .ok (.bipush 118, 2) := by decide +kernel
theorem dX12_puts_192 : decode cX12_puts 192 = .ok (.if_icmp .ne 7, 3) := by decide +kernel
theorem dX12_puts_195 : decode cX12_puts 195 = .ok (.iconst 1, 1) := by decide +kernel
theorem dX12_puts_196 : decode cX12_puts 196 = .ok (.goto 4, 3) := by decide +kernel
theorem dX12_puts_199 : decode cX12_puts 199 = .ok (.iconst 0, 1) := by decide +kernel
theorem dX12_puts_200 : decode cX12_puts 200 = .ok (.iadd, 1) := by decide +kernel
theorem dX12_puts_201 : decode cX12_puts 201 = .ok (.iastore, 1) := by decide +kernel
theorem dX12_puts_202 : decode cX12_puts 202 = .ok (.aload_n 0, 1) := by decide +kernel
theorem dX12_puts_203 : decode cX12_puts 203 = .ok (.getfield 23, 3) := by decide +kernel
theorem dX12_puts_206 : decode cX12_puts 206 = .ok (.iconst 1, 1) := by decide +kernel
theorem dX12_puts_207 : decode cX12_puts 207 = .ok (.dup2, 1) := by decide +kernel
theorem dX12_puts_208 : decode cX12_puts 208 = .ok (.iaload, 1) := by decide +kernel
theorem dX12_puts_209 : decode cX12_puts 209 = .ok (.iload_n 1, 1) := by decide +kernel
theorem dX12_puts_210 : decode cX12_puts 210 = .ok (.bipush 112, 2) := by decide +kernel
theorem dX12_puts_212 : decode cX12_puts 212 = .ok (.if_icmp .ne 7, 3) := by decide +kernel
theorem dX12_puts_215 : decode cX12_puts 215 = .ok (.iconst 1, 1) := by decide +kernel
theorem dX12_puts_216 : decode cX12_puts 216 = .ok (.goto 4, 3) := by decide +kernel
theorem dX12_puts_219 : decode cX12_puts 219 = .ok (.iconst 0, 1) := by decide +kernel
theorem dX12_puts_220 : decode cX12_puts 220 = .ok (.iadd, 1) := by decide +kernel
theorem dX12_puts_221 : decode cX12_puts 221 = .ok (.iastore, 1) := by decide +kernel
theorem dX12_puts_222 : decode cX12_puts 222 = .ok (.aload_n 0, 1) := by decide +kernel
theorem dX12_puts_223 : decode cX12_puts 223 = .ok (.getfield 29, 3) := by decide +kernel
theorem dX12_puts_226 : decode cX12_puts 226 = .ok (.iconst 1, 1) := by decide +kernel
theorem dX12_puts_227 : decode cX12_puts 227 = .ok (.dup2, 1) := by decide +kernel
theorem dX12_puts_228 : decode cX12_puts 228 = .ok (.iaload, 1) := by decide +kernel
theorem dX12_puts_229 : decode cX12_puts 229 = .ok (.iload_n 1, 1) := by decide +kernel
theorem dX12_puts_230 : decode cX12_puts 230 = .ok (.bipush 98, 2) := by decide +kernel
theorem dX12_puts_232 : decode cX12_puts 232 = .ok (.if_icmp .ne 7, 3) := by decide +kernel
theorem dX12_puts_235 : decode cX12_puts 235 = .ok (.iconst 1, 1) := by decide +kernel
theorem dX12_puts_236 : decode cX12_puts 236 = .ok (.goto 4, 3) := by decide +kernel
theorem dX12_puts_239 : decode cX12_puts 239 = .ok (.iconst 0, 1) := by decide +kernel
theorem dX12_puts_240 : decode cX12_puts 240 = .ok (.iadd, 1) := by decide +kernel
theorem dX12_puts_241 : decode cX12_puts 241 = .ok (.iastore, 1) := by decide +kernel
theorem dX12_puts_242 : decode cX12_puts 242 = .ok (.aload_n 0, 1) := by decide +kernel
theorem dX12_puts_243 : decode cX12_puts 243 = .ok (.getfield 35, 3) := by decide +kernel
theorem dX12_puts_246 : decode cX12_puts 246 = .ok (.iconst 1, 1) := by decide +kernel
theorem dX12_puts_247 : decode cX12_puts 247 = .ok (.dup2, 1) := by decide +kernel
theorem dX12_puts_248 : decode cX12_puts 248 = .ok (.iaload, 1) := by decide +kernel
theorem dX12_puts_249 : decode cX12_puts 249 = .ok (.iload_n 1, 1) := by decide +kernel
theorem dX12_puts_250 : decode cX12_puts 250 = .ok (.bipush 116, 2) := by decide +kernel
theorem dX12_puts_252 : decode cX12_puts 252 = .ok (.if_icmp .ne 7, 3) := by decide +kernel
theorem dX12_puts_255 : decode cX12_puts 255 = .ok (.iconst 1, 1) := by decide +kernel
theorem dX12_puts_256 : decode cX12_puts 256 = .ok (.goto 4, 3) := by decide +kernel
theorem dX12_puts_259 : decode cX12_puts 259 = .ok (.iconst 0, 1) := by decide +kernel
theorem dX12_puts_260 : decode cX12_puts 260 = .ok (.iadd, 1) := by decide +kernel
theorem dX12_puts_261 : decode cX12_puts 261 = .ok (.iastore, 1) := by decide +kernel
theorem dX12_puts_262 : decode cX12_puts 262 = .ok (.return_, 1) := by decide +kernel
set_option maxRecDepth 20000 in
theorem ggX12_fault_X12_begins : GoodIn wsX12_fault wsX12_begins := goodIn_r _ [9, 10, 11, 12, 3, 13, 43, 44, 45, 46, 47, 48, 49, 50, 51, 52, 53, 54, 55, 56, 57, 58, 59, 60, 61, 62, 63, 64, 65, 66, 67, 68, 69, 70, 71, 72, 73] (by decide +kernel) (by decide +kernel)
set_option maxRecDepth 20000 in
theorem gX12_fault_X12_begins : GoodIn wsX12_fault (wsV RX12 85 RX12 yX12_begins wsX12_begins) := goodIn_app (goodIn_of _ (by decide +kernel)) ggX12_fault_X12_begins
set_option maxRecDepth 20000 in
theorem ggX12_fault_X12_isItem : GoodIn wsX12_fault wsX12_isItem := goodIn_r _ [17, 18, 1, 2, 19, 10, 11, 3, 20, 21, 8, 22, 23, 24, 25, 26, 27, 28, 29, 30, 31, 32, 33, 34, 35, 36, 37, 38, 39, 40, 41, 42, 12, 4, 13, 43, 44, 45, 46, 47, 48, 49, 50, 51, 52, 53, 54, 55, 56, 57, 58, 59, 60, 61, 62, 63, 64, 65, 66, 67, 68, 69, 70, 71, 72, 73] (by decide +kernel) (by decide +kernel)
set_option maxRecDepth 20000 in
theorem gX12_fault_X12_isItem : GoodIn wsX12_fault (wsV RX12 131 RX12 yX12_isItem wsX12_isItem) := goodIn_app (goodIn_of _ (by decide +kernel)) ggX12_fault_X12_isItem
theorem dX12_fault_0 : decode cX12_fault 0 = .ok (.aload_n 0, 1) := by decide +kernel
theorem dX12_fault_1 : decode cX12_fault 1 = .ok (.iconst 0, 1) := by decide +kernel
theorem dX12_fault_2 : decode cX12_fault 2 = .ok (.putfield 108, 3) := by decide +kernel
theorem dX12_fault_5 : decode cX12_fault 5 = .ok (.aload_n 0, 1) := by decide +kernel
theorem dX12_fault_6 : decode cX12_fault 6 = .ok (.iconst 1, 1) := by decide +kernel
theorem dX12_fault_7 : decode cX12_fault 7 = .ok (.invokevirtual 85, 3) := by decide +kernel
theorem dX12_fault_10 : decode cX12_fault 10 = .ok (.aload_n 0, 1) := by decide +kernel
theorem dX12_fault_11 : decode cX12_fault 11 = .ok (.getfield 108, 3) := by decide +kernel
theorem dX12_fault_14 : decode cX12_fault 14 = .ok (.aload_n 0, 1) := by decide +kernel
theorem dX12_fault_15 : decode cX12_fault 15 = .ok (.getfield 105, 3) := by decide +kernel
theorem dX12_fault_18 : decode cX12_fault 18 = .ok (.if_icmp .ge 20, 3) := by decide +kernel
theorem dX12_fault_21 : decode cX12_fault 21 = .ok (.aload_n 0, 1) := by decide +kernel
theorem dX12_fault_22 : decode cX12_fault 22 = .ok (.getfield 108, 3) := by decide +kernel
theorem dX12_fault_25 : decode cX12_fault 25 = .ok (.istore_n 1, 1) := by decide +kernel
theorem dX12_fault_26 : decode cX12_fault 26 = .ok (.aload_n 0, 1) := by decide +kernel
theorem dX12_fault_27 : decode cX12_fault 27 = .ok (.invokevirtual 131, 3) := by decide +kernel
theorem dX12_fault_30 : decode cX12_fault 30 = .ok (.ifCond .ne 5, 3) := by decide +kernel
theorem dX12_fault_33 : decode cX12_fault 33 = .ok (.iload_n 1, 1) := by decide +kernel
theorem dX12_fault_34 : decode cX12_fault 34 = .ok (.ireturn, 1) := by decide +kernel
theorem dX12_fault_35 : decode cX12_fault 35 = .ok (.goto (-25), 3) := by decide +kernel
theorem dX12_fault_38 : decode cX12_fault 38 = .ok (.iconst 0, 1) := by decide +kernel
theorem dX12_fault_39 : decode cX12_fault 39 = .ok (.istore_n 1, 1) := by decide +kernel
theorem dX12_fault_40 : decode cX12_fault 40 = .ok (.iconst 0, 1) := by decide +kernel
theorem dX12_fault_41 : decode cX12_fault 41 = .ok (.istore_n 2, 1) := by decide +kernel
theorem dX12_fault_42 : decode cX12_fault 42 = .ok (.iload_n 2, 1) := by decide +kernel
theorem dX12_fault_43 : decode cX12_fault 43 = .ok (.aload_n 0, 1) := by decide +kernel
theorem dX12_fault_44 : decode cX12_fault 44 = .ok (.getfield 35, 3) := by decide +kernel
theorem dX12_fault_47 : decode cX12_fault 47 = .ok (.iconst 1, 1) := by decide +kernel
theorem dX12_fault_48 : decode cX12_fault 48 = .ok (.iaload, 1) := by decide +kernel
theorem dX12_fault_49 : decode cX12_fault 49 = .ok (.if_icmp .ge 23, 3) := by decide +kernel
theorem dX12_fault_52 : decode cX12_fault 52 = .ok (.iload_n 1, 1) := by decide +kernel
theorem dX12_fault_53 : decode cX12_fault 53 = .ok (.aload_n 0, 1) := by decide +kernel
theorem dX12_fault_54 : decode cX12_fault 54 = .ok (.getfield 38, 3) := by decide +kernel
theorem dX12_fault_57 : decode cX12_fault 57 = .ok (.bipush 9, 2) := by decide +kernel
theorem dX12_fault_59 : decode cX12_fault 59 = .ok (.iconst 2, 1) := by decide +kernel
theorem dX12_fault_60 : decode cX12_fault 60 = .ok (.iload_n 2, 1) := by decide +kernel
theorem dX12_fault_61 : decode cX12_fault 61 = .ok (.imul, 1) := by decide +kernel
theorem dX12_fault_62 : decode cX12_fault 62 = .ok (.iadd, 1) := by decide +kernel
theorem dX12_fault_63 : decode cX12_fault 63 = .ok (.iaload, 1) := by decide +kernel
theorem dX12_fault_64 : decode cX12_fault 64 = .ok (.iadd, 1) := by decide +kernel
theorem dX12_fault_65 : decode cX12_fault 65 = .ok (.istore_n 1, 1) := by decide +kernel
theorem dX12_fault_66 : decode cX12_fault 66 = .ok (.iinc 2 1, 3) := by decide +kernel
theorem dX12_fault_69 : decode cX12_fault 69 = .ok (.goto (-27), 3) := by decide +kernel
theorem dX12_fault_72 : decode cX12_fault 72 = .ok (.aload_n 0, 1) := by decide +kernel
theorem dX12_fault_73 : decode cX12_fault 73 = .ok (.getfield 35, 3) := by decide +kernel
theorem dX12_fault_76 : decode cX12_fault 76 = .ok (.iconst 1, 1) := by decide +kernel
theorem dX12_fault_77 : decode cX12_fault 77 = .ok (.iaload, 1) := by decide +kernel
theorem dX12_fault_78 : decode cX12_fault 78 = .ok (.ifCond .le 16, 3) := by decide +kernel
theorem dX12_fault_81 : decode cX12_fault 81 = .ok (.iload_n 1, 1) := by decide +kernel
theorem dX12_fault_82 : decode cX12_fault 82 = .ok (.bipush 10, 2) := by decide +kernel
theorem dX12_fault_84 : decode cX12_fault 84 = .ok (.if_icmp .eq 10, 3) := by decide +kernel
theorem dX12_fault_87 : decode cX12_fault 87 = .ok (.aload_n 0, 1) := by decide +kernel
theorem dX12_fault_88 : decode cX12_fault 88 = .ok (.getfield 105, 3) := by decide +kernel
theorem dX12_fault_91 : decode cX12_fault 91 = .ok (.goto 5, 3) := by decide +kernel
theorem dX12_fault_94 : decode cX12_fault 94 = .ok (.bipush (-4), 2) := by decide +kernel
theorem dX12_fault_96 : decode cX12_fault 96 = .ok (.ireturn, 1) := by decide +kernel
set_option maxRecDepth 20000 in
theorem ggX12_lay_X12_fault : GoodIn wsX12_lay wsX12_fault := goodIn_r _ [14, 15, 16, 4, 8, 17, 18, 19, 13, 20, 1, 2, 3, 9, 21, 22, 23, 24, 25, 26, 27, 28, 29, 30, 31, 32, 33, 34, 35, 36, 37, 38, 39, 40, 41, 42, 43, 44, 45, 46, 6, 7, 5, 58, 59, 60, 61, 62, 63, 64, 65, 66, 67, 68, 69, 70, 71, 72, 73, 74, 75, 76, 77, 78, 79, 80, 81, 82, 83, 84, 85, 86, 87, 88] (by decide +kernel) (by decide +kernel)
set_option maxRecDepth 20000 in
theorem gX12_lay_X12_fault : GoodIn wsX12_lay (wsV RX12 135 RX12 yX12_fault wsX12_fault) := goodIn_app (goodIn_of _ (by decide +kernel)) ggX12_lay_X12_fault
set_option maxRecDepth 20000 in
theorem ggX12_lay_X12_ends : GoodIn wsX12_lay wsX12_ends := goodIn_r _ [50, 4, 8, 58, 59, 60, 61, 62, 63, 64, 65, 66, 67, 68, 69, 70, 71, 72, 73, 74, 75, 76, 77, 78, 79, 80, 81, 82, 83, 84, 85, 86, 87, 88] (by decide +kernel) (by decide +kernel)
set_option maxRecDepth 20000 in
theorem gX12_lay_X12_ends : GoodIn wsX12_lay (wsV RX12 89 RX12 yX12_ends wsX12_ends) := goodIn_app (goodIn_of _ (by decide +kernel)) ggX12_lay_X12_ends
set_option maxRecDepth 20000 in
theorem ggX12_lay_X12_handsBegin : GoodIn wsX12_lay wsX12_handsBegin := goodIn_r _ [54, 55, 56, 57, 58, 59, 60, 61, 62, 63, 64, 65, 66, 67, 68, 69, 70, 71, 72, 73, 74, 75, 76, 77, 78, 79, 80, 81, 82, 83, 84, 85, 86, 87, 88] (by decide +kernel) (by decide +kernel)
set_option maxRecDepth 20000 in
theorem gX12_lay_X12_handsBegin : GoodIn wsX12_lay (wsV RX12 92 RX12 yX12_handsBegin wsX12_handsBegin) := goodIn_app (goodIn_of _ (by decide +kernel)) ggX12_lay_X12_handsBegin
theorem dX12_lay_0 : decode cX12_lay 0 = .ok (.aload_n 0, 1) := by decide +kernel
theorem dX12_lay_1 : decode cX12_lay 1 = .ok (.invokevirtual 135, 3) := by decide +kernel
theorem dX12_lay_4 : decode cX12_lay 4 = .ok (.bipush (-4), 2) := by decide +kernel
theorem dX12_lay_6 : decode cX12_lay 6 = .ok (.if_icmp .ne 21, 3) := by decide +kernel
theorem dX12_lay_9 : decode cX12_lay 9 = .ok (.aload_n 0, 1) := by decide +kernel
theorem dX12_lay_10 : decode cX12_lay 10 = .ok (.getfield 17, 3) := by decide +kernel
theorem dX12_lay_13 : decode cX12_lay 13 = .ok (.iconst 1, 1) := by decide +kernel
theorem dX12_lay_14 : decode cX12_lay 14 = .ok (.iaload, 1) := by decide +kernel
theorem dX12_lay_15 : decode cX12_lay 15 = .ok (.ifCond .eq 12, 3) := by decide +kernel
theorem dX12_lay_18 : decode cX12_lay 18 = .ok (.aload_n 0, 1) := by decide +kernel
theorem dX12_lay_19 : decode cX12_lay 19 = .ok (.getfield 23, 3) := by decide +kernel
theorem dX12_lay_22 : decode cX12_lay 22 = .ok (.iconst 1, 1) := by decide +kernel
theorem dX12_lay_23 : decode cX12_lay 23 = .ok (.iaload, 1) := by decide +kernel
theorem dX12_lay_24 : decode cX12_lay 24 = .ok (.ifCond .ne 6, 3) := by decide +kernel
theorem dX12_lay_27 : decode cX12_lay 27 = .ok (.bipush (-2), 2) := by decide +kernel
theorem dX12_lay_29 : decode cX12_lay 29 = .ok (.ireturn, 1) := by decide +kernel
theorem dX12_lay_30 : decode cX12_lay 30 = .ok (.aload_n 0, 1) := by decide +kernel
theorem dX12_lay_31 : decode cX12_lay 31 = .ok (.iconst 1, 1) := by decide +kernel
theorem dX12_lay_32 : decode cX12_lay 32 = .ok (.invokevirtual 89, 3) := by decide +kernel
theorem dX12_lay_35 : decode cX12_lay 35 = .ok (.aload_n 0, 1) := by decide +kernel
theorem dX12_lay_36 : decode cX12_lay 36 = .ok (.getfield 17, 3) := by decide +kernel
theorem dX12_lay_39 : decode cX12_lay 39 = .ok (.iconst 0, 1) := by decide +kernel
theorem dX12_lay_40 : decode cX12_lay 40 = .ok (.aload_n 0, 1) := by decide +kernel
theorem dX12_lay_41 : decode cX12_lay 41 = .ok (.getfield 17, 3) := by decide +kernel
theorem dX12_lay_44 : decode cX12_lay 44 = .ok (.iconst 1, 1) := by decide +kernel
theorem dX12_lay_45 : decode cX12_lay 45 = .ok (.iaload, 1) := by decide +kernel
theorem dX12_lay_46 : decode cX12_lay 46 = .ok (.iastore, 1) := by decide +kernel
theorem dX12_lay_47 : decode cX12_lay 47 = .ok (.aload_n 0, 1) := by decide +kernel
theorem dX12_lay_48 : decode cX12_lay 48 = .ok (.getfield 23, 3) := by decide +kernel
theorem dX12_lay_51 : decode cX12_lay 51 = .ok (.iconst 0, 1) := by decide +kernel
theorem dX12_lay_52 : decode cX12_lay 52 = .ok (.aload_n 0, 1) := by decide +kernel
theorem dX12_lay_53 : decode cX12_lay 53 = .ok (.getfield 23, 3) := by decide +kernel
theorem dX12_lay_56 : decode cX12_lay 56 = .ok (.iconst 1, 1) := by decide +kernel
theorem dX12_lay_57 : decode cX12_lay 57 = .ok (.iaload, 1) := by decide +kernel
theorem dX12_lay_58 : decode cX12_lay 58 = .ok (.iastore, 1) := by decide +kernel
theorem dX12_lay_59 : decode cX12_lay 59 = .ok (.aload_n 0, 1) := by decide +kernel
theorem dX12_lay_60 : decode cX12_lay 60 = .ok (.getfield 29, 3) := by decide +kernel
theorem dX12_lay_63 : decode cX12_lay 63 = .ok (.iconst 0, 1) := by decide +kernel
theorem dX12_lay_64 : decode cX12_lay 64 = .ok (.aload_n 0, 1) := by decide +kernel
theorem dX12_lay_65 : decode cX12_lay 65 = .ok (.getfield 29, 3) := by decide +kernel
theorem dX12_lay_68 : decode cX12_lay 68 = .ok (.iconst 1, 1) := by decide +kernel
theorem dX12_lay_69 : decode cX12_lay 69 = .ok (.iaload, 1) := by decide +kernel
theorem dX12_lay_70 : decode cX12_lay 70 = .ok (.iastore, 1) := by decide +kernel
theorem dX12_lay_71 : decode cX12_lay 71 = .ok (.aload_n 0, 1) := by decide +kernel
theorem dX12_lay_72 : decode cX12_lay 72 = .ok (.getfield 35, 3) := by decide +kernel
theorem dX12_lay_75 : decode cX12_lay 75 = .ok (.iconst 0, 1) := by decide +kernel
theorem dX12_lay_76 : decode cX12_lay 76 = .ok (.aload_n 0, 1) := by decide +kernel
theorem dX12_lay_77 : decode cX12_lay 77 = .ok (.getfield 35, 3) := by decide +kernel
theorem dX12_lay_80 : decode cX12_lay 80 = .ok (.iconst 1, 1) := by decide +kernel
theorem dX12_lay_81 : decode cX12_lay 81 = .ok (.iaload, 1) := by decide +kernel
theorem dX12_lay_82 : decode cX12_lay 82 = .ok (.iastore, 1) := by decide +kernel
theorem dX12_lay_83 : decode cX12_lay 83 = .ok (.iconst 0, 1) := by decide +kernel
theorem dX12_lay_84 : decode cX12_lay 84 = .ok (.istore_n 1, 1) := by decide +kernel
theorem dX12_lay_85 : decode cX12_lay 85 = .ok (.iload_n 1, 1) := by decide +kernel
theorem dX12_lay_86 : decode cX12_lay 86 = .ok (.sipush 200, 3) := by decide +kernel
theorem dX12_lay_89 : decode cX12_lay 89 = .ok (.if_icmp .ge 107, 3) := by decide +kernel
theorem dX12_lay_92 : decode cX12_lay 92 = .ok (.aload_n 0, 1) := by decide +kernel
theorem dX12_lay_93 : decode cX12_lay 93 = .ok (.getfield 32, 3) := by decide +kernel
theorem dX12_lay_96 : decode cX12_lay 96 = .ok (.iload_n 1, 1) := by decide +kernel
theorem dX12_lay_97 : decode cX12_lay 97 = .ok (.aload_n 0, 1) := by decide +kernel
theorem dX12_lay_98 : decode cX12_lay 98 = .ok (.getfield 32, 3) := by decide +kernel
theorem dX12_lay_101 : decode cX12_lay 101 = .ok (.sipush 200, 3) := by decide +kernel
theorem dX12_lay_104 : decode cX12_lay 104 = .ok (.iload_n 1, 1) := by decide +kernel
theorem dX12_lay_105 : decode cX12_lay 105 = .ok (.iadd, 1) := by decide +kernel
theorem dX12_lay_106 : decode cX12_lay 106 = .ok (.iaload, 1) := by decide +kernel
theorem dX12_lay_107 : decode cX12_lay 107 = .ok (.iastore, 1) := by decide +kernel
theorem dX12_lay_108 : decode cX12_lay 108 = .ok (.iload_n 1, 1) := by decide +kernel
theorem dX12_lay_109 : decode cX12_lay 109 = .ok (.bipush 12, 2) := by decide +kernel
theorem dX12_lay_111 : decode cX12_lay 111 = .ok (.if_icmp .ge 18, 3) := by decide +kernel
theorem dX12_lay_114 : decode cX12_lay 114 = .ok (.aload_n 0, 1) := by decide +kernel
theorem dX12_lay_115 : decode cX12_lay 115 = .ok (.getfield 20, 3) := by decide +kernel
theorem dX12_lay_118 : decode cX12_lay 118 = .ok (.iload_n 1, 1) := by decide +kernel
theorem dX12_lay_119 : decode cX12_lay 119 = .ok (.aload_n 0, 1) := by decide +kernel
theorem dX12_lay_120 : decode cX12_lay 120 = .ok (.getfield 20, 3) := by decide +kernel
theorem dX12_lay_123 : decode cX12_lay 123 = .ok (.bipush 12, 2) := by decide +kernel
theorem dX12_lay_125 : decode cX12_lay 125 = .ok (.iload_n 1, 1) := by decide +kernel
theorem dX12_lay_126 : decode cX12_lay 126 = .ok (.iadd, 1) := by decide +kernel
theorem dX12_lay_127 : decode cX12_lay 127 = .ok (.iaload, 1) := by decide +kernel
theorem dX12_lay_128 : decode cX12_lay 128 = .ok (.iastore, 1) := by decide +kernel
theorem dX12_lay_129 : decode cX12_lay 129 = .ok (.iload_n 1, 1) := by decide +kernel
theorem dX12_lay_130 : decode cX12_lay 130 = .ok (.bipush 32, 2) := by decide +kernel
theorem dX12_lay_132 : decode cX12_lay 132 = .ok (.if_icmp .ge 18, 3) := by decide +kernel
theorem dX12_lay_135 : decode cX12_lay 135 = .ok (.aload_n 0, 1) := by decide +kernel
theorem dX12_lay_136 : decode cX12_lay 136 = .ok (.getfield 26, 3) := by decide +kernel
theorem dX12_lay_139 : decode cX12_lay 139 = .ok (.iload_n 1, 1) := by decide +kernel
theorem dX12_lay_140 : decode cX12_lay 140 = .ok (.aload_n 0, 1) := by decide +kernel
theorem dX12_lay_141 : decode cX12_lay 141 = .ok (.getfield 26, 3) := by decide +kernel
theorem dX12_lay_144 : decode cX12_lay 144 = .ok (.bipush 32, 2) := by decide +kernel
theorem dX12_lay_146 : decode cX12_lay 146 = .ok (.iload_n 1, 1) := by decide +kernel
theorem dX12_lay_147 : decode cX12_lay 147 = .ok (.iadd, 1) := by decide +kernel
theorem dX12_lay_148 : decode cX12_lay 148 = .ok (.iaload, 1) := by decide +kernel
theorem dX12_lay_149 : decode cX12_lay 149 = .ok (.iastore, 1) := by decide +kernel
theorem dX12_lay_150 : decode cX12_lay 150 = .ok (.iload_n 1, 1) := by decide +kernel
theorem dX12_lay_151 : decode cX12_lay 151 = .ok (.bipush 8, 2) := by decide +kernel
theorem dX12_lay_153 : decode cX12_lay 153 = .ok (.if_icmp .ge 18, 3) := by decide +kernel
theorem dX12_lay_156 : decode cX12_lay 156 = .ok (.aload_n 0, 1) := by decide +kernel
theorem dX12_lay_157 : decode cX12_lay 157 = .ok (.getfield 38, 3) := by decide +kernel
theorem dX12_lay_160 : decode cX12_lay 160 = .ok (.iload_n 1, 1) := by decide +kernel
theorem dX12_lay_161 : decode cX12_lay 161 = .ok (.aload_n 0, 1) := by decide +kernel
theorem dX12_lay_162 : decode cX12_lay 162 = .ok (.getfield 38, 3) := by decide +kernel
theorem dX12_lay_165 : decode cX12_lay 165 = .ok (.bipush 8, 2) := by decide +kernel
theorem dX12_lay_167 : decode cX12_lay 167 = .ok (.iload_n 1, 1) := by decide +kernel
theorem dX12_lay_168 : decode cX12_lay 168 = .ok (.iadd, 1) := by decide +kernel
theorem dX12_lay_169 : decode cX12_lay 169 = .ok (.iaload, 1) := by decide +kernel
theorem dX12_lay_170 : decode cX12_lay 170 = .ok (.iastore, 1) := by decide +kernel
theorem dX12_lay_171 : decode cX12_lay 171 = .ok (.iload_n 1, 1) := by decide +kernel
theorem dX12_lay_172 : decode cX12_lay 172 = .ok (.iconst 5, 1) := by decide +kernel
theorem dX12_lay_173 : decode cX12_lay 173 = .ok (.if_icmp .ge 17, 3) := by decide +kernel
theorem dX12_lay_176 : decode cX12_lay 176 = .ok (.aload_n 0, 1) := by decide +kernel
theorem dX12_lay_177 : decode cX12_lay 177 = .ok (.getfield 41, 3) := by decide +kernel
theorem dX12_lay_180 : decode cX12_lay 180 = .ok (.iload_n 1, 1) := by decide +kernel
theorem dX12_lay_181 : decode cX12_lay 181 = .ok (.aload_n 0, 1) := by decide +kernel
theorem dX12_lay_182 : decode cX12_lay 182 = .ok (.getfield 41, 3) := by decide +kernel
theorem dX12_lay_185 : decode cX12_lay 185 = .ok (.iconst 5, 1) := by decide +kernel
theorem dX12_lay_186 : decode cX12_lay 186 = .ok (.iload_n 1, 1) := by decide +kernel
theorem dX12_lay_187 : decode cX12_lay 187 = .ok (.iadd, 1) := by decide +kernel
theorem dX12_lay_188 : decode cX12_lay 188 = .ok (.iaload, 1) := by decide +kernel
theorem dX12_lay_189 : decode cX12_lay 189 = .ok (.iastore, 1) := by decide +kernel
theorem dX12_lay_190 : decode cX12_lay 190 = .ok (.iinc 1 1, 3) := by decide +kernel
theorem dX12_lay_193 : decode cX12_lay 193 = .ok (.goto (-108), 3) := by decide +kernel
theorem dX12_lay_196 : decode cX12_lay 196 = .ok (.aload_n 0, 1) := by decide +kernel
theorem dX12_lay_197 : decode cX12_lay 197 = .ok (.invokevirtual 92, 3) := by decide +kernel
theorem dX12_lay_200 : decode cX12_lay 200 = .ok (.aload_n 0, 1) := by decide +kernel
theorem dX12_lay_201 : decode cX12_lay 201 = .ok (.getfield 23, 3) := by decide +kernel
theorem dX12_lay_204 : decode cX12_lay 204 = .ok (.iconst 0, 1) := by decide +kernel
theorem dX12_lay_205 : decode cX12_lay 205 = .ok (.iaload, 1) := by decide +kernel
theorem dX12_lay_206 : decode cX12_lay 206 = .ok (.ireturn, 1) := by decide +kernel
set_option maxRecDepth 20000 in
theorem ggX12_isPiece_X12_in : GoodIn wsX12_isPiece wsX12_in := goodIn_r _ [5] (by decide +kernel) (by decide +kernel)
set_option maxRecDepth 20000 in
theorem gX12_isPiece_X12_in : GoodIn wsX12_isPiece (va_wsS RX12 101 yX12_in wsX12_in) := goodIn_app (goodIn_of _ (by decide +kernel)) ggX12_isPiece_X12_in
theorem dX12_isPiece_0 : decode cX12_isPiece 0 = .ok (.iload_n 1, 1) := by decide +kernel
theorem dX12_isPiece_1 : decode cX12_isPiece 1 = .ok (.i2l, 1) := by decide +kernel
theorem dX12_isPiece_2 : decode cX12_isPiece 2 = .ok (.lconst 0, 1) := by decide +kernel
theorem dX12_isPiece_3 : decode cX12_isPiece 3 = .ok (.aload_n 0, 1) := by decide +kernel
theorem dX12_isPiece_4 : decode cX12_isPiece 4 = .ok (.getfield 23, 3) := by decide +kernel
theorem dX12_isPiece_7 : decode cX12_isPiece 7 = .ok (.iconst 0, 1) := by decide +kernel
theorem dX12_isPiece_8 : decode cX12_isPiece 8 = .ok (.iaload, 1) := by decide +kernel
theorem dX12_isPiece_9 : decode cX12_isPiece 9 = .ok (.iconst 1, 1) := by decide +kernel
theorem dX12_isPiece_10 : decode cX12_isPiece 10 = .ok (.isub, 1) := by decide +kernel
theorem dX12_isPiece_11 : decode cX12_isPiece 11 = .ok (.i2l, 1) := by decide +kernel
theorem dX12_isPiece_12 : decode cX12_isPiece 12 = .ok (.invokestatic 101, 3) := by decide +kernel
theorem dX12_isPiece_15 : decode cX12_isPiece 15 = .ok (.ireturn, 1) := by decide +kernel
set_option maxRecDepth 20000 in
theorem ggX12_isSpeed_X12_in : GoodIn wsX12_isSpeed wsX12_in := goodIn_r _ [5] (by decide +kernel) (by decide +kernel)
set_option maxRecDepth 20000 in
theorem gX12_isSpeed_X12_in : GoodIn wsX12_isSpeed (va_wsS RX12 101 yX12_in wsX12_in) := goodIn_app (goodIn_of _ (by decide +kernel)) ggX12_isSpeed_X12_in
theorem dX12_isSpeed_0 : decode cX12_isSpeed 0 = .ok (.iload_n 1, 1) := by decide +kernel
theorem dX12_isSpeed_1 : decode cX12_isSpeed 1 = .ok (.i2l, 1) := by decide +kernel
theorem dX12_isSpeed_2 : decode cX12_isSpeed 2 = .ok (.lconst 0, 1) := by decide +kernel
theorem dX12_isSpeed_3 : decode cX12_isSpeed 3 = .ok (.aload_n 0, 1) := by decide +kernel
theorem dX12_isSpeed_4 : decode cX12_isSpeed 4 = .ok (.getfield 17, 3) := by decide +kernel
theorem dX12_isSpeed_7 : decode cX12_isSpeed 7 = .ok (.iconst 0, 1) := by decide +kernel
theorem dX12_isSpeed_8 : decode cX12_isSpeed 8 = .ok (.iaload, 1) := by decide +kernel
theorem dX12_isSpeed_9 : decode cX12_isSpeed 9 = .ok (.iconst 1, 1) := by decide +kernel
theorem dX12_isSpeed_10 : decode cX12_isSpeed 10 = .ok (.isub, 1) := by decide +kernel
theorem dX12_isSpeed_11 : decode cX12_isSpeed 11 = .ok (.i2l, 1) := by decide +kernel
theorem dX12_isSpeed_12 : decode cX12_isSpeed 12 = .ok (.invokestatic 101, 3) := by decide +kernel
theorem dX12_isSpeed_15 : decode cX12_isSpeed 15 = .ok (.ireturn, 1) := by decide +kernel
set_option maxRecDepth 20000 in
theorem ggX12_isSteel_X12_in : GoodIn wsX12_isSteel wsX12_in := goodIn_r _ [5] (by decide +kernel) (by decide +kernel)
set_option maxRecDepth 20000 in
theorem gX12_isSteel_X12_in : GoodIn wsX12_isSteel (va_wsS RX12 101 yX12_in wsX12_in) := goodIn_app (goodIn_of _ (by decide +kernel)) ggX12_isSteel_X12_in
theorem dX12_isSteel_0 : decode cX12_isSteel 0 = .ok (.iload_n 1, 1) := by decide +kernel
theorem dX12_isSteel_1 : decode cX12_isSteel 1 = .ok (.i2l, 1) := by decide +kernel
theorem dX12_isSteel_2 : decode cX12_isSteel 2 = .ok (.lconst 0, 1) := by decide +kernel
theorem dX12_isSteel_3 : decode cX12_isSteel 3 = .ok (.aload_n 0, 1) := by decide +kernel
theorem dX12_isSteel_4 : decode cX12_isSteel 4 = .ok (.getfield 35, 3) := by decide +kernel
theorem dX12_isSteel_7 : decode cX12_isSteel 7 = .ok (.iconst 0, 1) := by decide +kernel
theorem dX12_isSteel_8 : decode cX12_isSteel 8 = .ok (.iaload, 1) := by decide +kernel
theorem dX12_isSteel_9 : decode cX12_isSteel 9 = .ok (.iconst 1, 1) := by decide +kernel
theorem dX12_isSteel_10 : decode cX12_isSteel 10 = .ok (.isub, 1) := by decide +kernel
theorem dX12_isSteel_11 : decode cX12_isSteel 11 = .ok (.i2l, 1) := by decide +kernel
theorem dX12_isSteel_12 : decode cX12_isSteel 12 = .ok (.invokestatic 101, 3) := by decide +kernel
theorem dX12_isSteel_15 : decode cX12_isSteel 15 = .ok (.ireturn, 1) := by decide +kernel
theorem dX12_minutes_0 : decode cX12_minutes 0 = .ok (.bipush 100, 2) := by decide +kernel
theorem dX12_minutes_2 : decode cX12_minutes 2 = .ok (.aload_n 0, 1) := by decide +kernel
theorem dX12_minutes_3 : decode cX12_minutes 3 = .ok (.getfield 26, 3) := by decide +kernel
theorem dX12_minutes_6 : decode cX12_minutes 6 = .ok (.iconst 4, 1) := by decide +kernel
theorem dX12_minutes_7 : decode cX12_minutes 7 = .ok (.iload_n 1, 1) := by decide +kernel
theorem dX12_minutes_8 : decode cX12_minutes 8 = .ok (.imul, 1) := by decide +kernel
theorem dX12_minutes_9 : decode cX12_minutes 9 = .ok (.iaload, 1) := by decide +kernel
theorem dX12_minutes_10 : decode cX12_minutes 10 = .ok (.imul, 1) := by decide +kernel
theorem dX12_minutes_11 : decode cX12_minutes 11 = .ok (.aload_n 0, 1) := by decide +kernel
theorem dX12_minutes_12 : decode cX12_minutes 12 = .ok (.getfield 20, 3) := by decide +kernel
theorem dX12_minutes_15 : decode cX12_minutes 15 = .ok (.iconst 2, 1) := by decide +kernel
theorem dX12_minutes_16 : decode cX12_minutes 16 = .ok (.iload_n 2, 1) := by decide +kernel
theorem dX12_minutes_17 : decode cX12_minutes 17 = .ok (.imul, 1) := by decide +kernel
theorem dX12_minutes_18 : decode cX12_minutes 18 = .ok (.iaload, 1) := by decide +kernel
theorem dX12_minutes_19 : decode cX12_minutes 19 = .ok (.iadd, 1) := by decide +kernel
theorem dX12_minutes_20 : decode cX12_minutes 20 = .ok (.iconst 1, 1) := by decide +kernel
theorem dX12_minutes_21 : decode cX12_minutes 21 = .ok (.isub, 1) := by decide +kernel
theorem dX12_minutes_22 : decode cX12_minutes 22 = .ok (.aload_n 0, 1) := by decide +kernel
theorem dX12_minutes_23 : decode cX12_minutes 23 = .ok (.getfield 20, 3) := by decide +kernel
theorem dX12_minutes_26 : decode cX12_minutes 26 = .ok (.iconst 2, 1) := by decide +kernel
theorem dX12_minutes_27 : decode cX12_minutes 27 = .ok (.iload_n 2, 1) := by decide +kernel
theorem dX12_minutes_28 : decode cX12_minutes 28 = .ok (.imul, 1) := by decide +kernel
theorem dX12_minutes_29 : decode cX12_minutes 29 = .ok (.iaload, 1) := by decide +kernel
theorem dX12_minutes_30 : decode cX12_minutes 30 = .ok (.idiv, 1) := by decide +kernel
theorem dX12_minutes_31 : decode cX12_minutes 31 = .ok (.ireturn, 1) := by decide +kernel
theorem dX12_wears_0 : decode cX12_wears 0 = .ok (.aload_n 0, 1) := by decide +kernel
theorem dX12_wears_1 : decode cX12_wears 1 = .ok (.getfield 26, 3) := by decide +kernel
theorem dX12_wears_4 : decode cX12_wears 4 = .ok (.iconst 4, 1) := by decide +kernel
theorem dX12_wears_5 : decode cX12_wears 5 = .ok (.iload_n 1, 1) := by decide +kernel
theorem dX12_wears_6 : decode cX12_wears 6 = .ok (.imul, 1) := by decide +kernel
theorem dX12_wears_7 : decode cX12_wears 7 = .ok (.iaload, 1) := by decide +kernel
theorem dX12_wears_8 : decode cX12_wears 8 = .ok (.i2l, 1) := by decide +kernel
theorem dX12_wears_9 : decode cX12_wears 9 = .ok (.aload_n 0, 1) := by decide +kernel
theorem dX12_wears_10 : decode cX12_wears 10 = .ok (.getfield 20, 3) := by decide +kernel
theorem dX12_wears_13 : decode cX12_wears 13 = .ok (.iconst 2, 1) := by decide +kernel
theorem dX12_wears_14 : decode cX12_wears 14 = .ok (.iload_n 2, 1) := by decide +kernel
theorem dX12_wears_15 : decode cX12_wears 15 = .ok (.imul, 1) := by decide +kernel
theorem dX12_wears_16 : decode cX12_wears 16 = .ok (.iconst 1, 1) := by decide +kernel
theorem dX12_wears_17 : decode cX12_wears 17 = .ok (.iadd, 1) := by decide +kernel
theorem dX12_wears_18 : decode cX12_wears 18 = .ok (.iaload, 1) := by decide +kernel
theorem dX12_wears_19 : decode cX12_wears 19 = .ok (.i2l, 1) := by decide +kernel
theorem dX12_wears_20 : decode cX12_wears 20 = .ok (.lmul, 1) := by decide +kernel
theorem dX12_wears_21 : decode cX12_wears 21 = .ok (.iload_n 3, 1) := by decide +kernel
theorem dX12_wears_22 : decode cX12_wears 22 = .ok (.i2l, 1) := by decide +kernel
theorem dX12_wears_23 : decode cX12_wears 23 = .ok (.lmul, 1) := by decide +kernel
theorem dX12_wears_24 : decode cX12_wears 24 = .ok (.aload_n 0, 1) := by decide +kernel
theorem dX12_wears_25 : decode cX12_wears 25 = .ok (.getfield 38, 3) := by decide +kernel
theorem dX12_wears_28 : decode cX12_wears 28 = .ok (.iconst 2, 1) := by decide +kernel
theorem dX12_wears_29 : decode cX12_wears 29 = .ok (.iload 4, 2) := by decide +kernel
theorem dX12_wears_31 : decode cX12_wears 31 = .ok (.imul, 1) := by decide +kernel
theorem dX12_wears_32 : decode cX12_wears 32 = .ok (.iaload, 1) := by decide +kernel
theorem dX12_wears_33 : decode cX12_wears 33 = .ok (.i2l, 1) := by decide +kernel
theorem dX12_wears_34 : decode cX12_wears 34 = .ok (.lmul, 1) := by decide +kernel
theorem dX12_wears_35 : decode cX12_wears 35 = .ok (.ldc2_w 139, 3) := by decide +kernel
theorem dX12_wears_38 : decode cX12_wears 38 = .ok (.ldiv, 1) := by decide +kernel
theorem dX12_wears_39 : decode cX12_wears 39 = .ok (.l2i, 1) := by decide +kernel
theorem dX12_wears_40 : decode cX12_wears 40 = .ok (.ireturn, 1) := by decide +kernel
theorem dX12_may_0 : decode cX12_may 0 = .ok (.iload_n 2, 1) := by decide +kernel
theorem dX12_may_1 : decode cX12_may 1 = .ok (.aload_n 0, 1) := by decide +kernel
theorem dX12_may_2 : decode cX12_may 2 = .ok (.getfield 41, 3) := by decide +kernel
theorem dX12_may_5 : decode cX12_may 5 = .ok (.iconst 3, 1) := by decide +kernel
theorem dX12_may_6 : decode cX12_may 6 = .ok (.iaload, 1) := by decide +kernel
theorem dX12_may_7 : decode cX12_may 7 = .ok (.if_icmp .gt 26, 3) := by decide +kernel
theorem dX12_may_10 : decode cX12_may 10 = .ok (.aload_n 0, 1) := by decide +kernel
theorem dX12_may_11 : decode cX12_may 11 = .ok (.getfield 20, 3) := by decide +kernel
theorem dX12_may_14 : decode cX12_may 14 = .ok (.iconst 2, 1) := by decide +kernel
theorem dX12_may_15 : decode cX12_may 15 = .ok (.iload_n 1, 1) := by decide +kernel
theorem dX12_may_16 : decode cX12_may 16 = .ok (.imul, 1) := by decide +kernel
theorem dX12_may_17 : decode cX12_may 17 = .ok (.iaload, 1) := by decide +kernel
theorem dX12_may_18 : decode cX12_may 18 = .ok (.iload_n 2, 1) := by decide +kernel
theorem dX12_may_19 : decode cX12_may 19 = .ok (.imul, 1) := by decide +kernel
theorem dX12_may_20 : decode cX12_may 20 = .ok (.aload_n 0, 1) := by decide +kernel
theorem dX12_may_21 : decode cX12_may 21 = .ok (.getfield 41, 3) := by decide +kernel
theorem dX12_may_24 : decode cX12_may 24 = .ok (.iconst 4, 1) := by decide +kernel
theorem dX12_may_25 : decode cX12_may 25 = .ok (.iaload, 1) := by decide +kernel
theorem dX12_may_26 : decode cX12_may 26 = .ok (.if_icmp .gt 7, 3) := by decide +kernel
theorem dX12_may_29 : decode cX12_may 29 = .ok (.iconst 1, 1) := by decide +kernel
theorem dX12_may_30 : decode cX12_may 30 = .ok (.goto 4, 3) := by decide +kernel
theorem dX12_may_33 : decode cX12_may 33 = .ok (.iconst 0, 1) := by decide +kernel
theorem dX12_may_34 : decode cX12_may 34 = .ok (.ireturn, 1) := by decide +kernel
set_option maxRecDepth 20000 in
theorem ggX12_pass_X12_isPiece : GoodIn wsX12_pass wsX12_isPiece := goodIn_r _ [7, 8, 9, 10, 6, 11, 39, 40, 41, 42, 43, 44, 45, 46, 47, 48, 49, 50, 51, 52, 53, 54, 55, 56, 57, 58, 59, 60, 61, 62, 63, 64, 65, 66, 67, 68, 69] (by decide +kernel) (by decide +kernel)
set_option maxRecDepth 20000 in
theorem gX12_pass_X12_isPiece : GoodIn wsX12_pass (wsV RX12 141 RX12 yX12_isPiece wsX12_isPiece) := goodIn_app (goodIn_of _ (by decide +kernel)) ggX12_pass_X12_isPiece
set_option maxRecDepth 20000 in
theorem ggX12_pass_X12_isSpeed : GoodIn wsX12_pass wsX12_isSpeed := goodIn_r _ [15, 16, 9, 10, 6, 11, 39, 40, 41, 42, 43, 44, 45, 46, 47, 48, 49, 50, 51, 52, 53, 54, 55, 56, 57, 58, 59, 60, 61, 62, 63, 64, 65, 66, 67, 68, 69] (by decide +kernel) (by decide +kernel)
set_option maxRecDepth 20000 in
theorem gX12_pass_X12_isSpeed : GoodIn wsX12_pass (wsV RX12 145 RX12 yX12_isSpeed wsX12_isSpeed) := goodIn_app (goodIn_of _ (by decide +kernel)) ggX12_pass_X12_isSpeed
set_option maxRecDepth 20000 in
theorem ggX12_pass_X12_in : GoodIn wsX12_pass wsX12_in := goodIn_r _ [11] (by decide +kernel) (by decide +kernel)
set_option maxRecDepth 20000 in
theorem gX12_pass_X12_in : GoodIn wsX12_pass (va_wsS RX12 101 yX12_in wsX12_in) := goodIn_app (goodIn_of _ (by decide +kernel)) ggX12_pass_X12_in
set_option maxRecDepth 20000 in
theorem ggX12_pass_X12_isSteel : GoodIn wsX12_pass wsX12_isSteel := goodIn_r _ [20, 21, 9, 10, 6, 11, 39, 40, 41, 42, 43, 44, 45, 46, 47, 48, 49, 50, 51, 52, 53, 54, 55, 56, 57, 58, 59, 60, 61, 62, 63, 64, 65, 66, 67, 68, 69] (by decide +kernel) (by decide +kernel)
set_option maxRecDepth 20000 in
theorem gX12_pass_X12_isSteel : GoodIn wsX12_pass (wsV RX12 148 RX12 yX12_isSteel wsX12_isSteel) := goodIn_app (goodIn_of _ (by decide +kernel)) ggX12_pass_X12_isSteel
set_option maxRecDepth 20000 in
theorem ggX12_pass_X12_minutes : GoodIn wsX12_pass wsX12_minutes := goodIn_r _ [25, 26, 27, 39, 40, 41, 42, 43, 44, 45, 46, 47, 48, 49, 50, 51, 52, 53, 54, 55, 56, 57, 58, 59, 60, 61, 62, 63, 64, 65, 66, 67, 68, 69] (by decide +kernel) (by decide +kernel)
set_option maxRecDepth 20000 in
theorem gX12_pass_X12_minutes : GoodIn wsX12_pass (wsV RX12 153 RX12 yX12_minutes wsX12_minutes) := goodIn_app (goodIn_of _ (by decide +kernel)) ggX12_pass_X12_minutes
set_option maxRecDepth 20000 in
theorem ggX12_pass_X12_wears : GoodIn wsX12_pass wsX12_wears := goodIn_r _ [31, 26, 27, 32, 33, 39, 40, 41, 42, 43, 44, 45, 46, 47, 48, 49, 50, 51, 52, 53, 54, 55, 56, 57, 58, 59, 60, 61, 62, 63, 64, 65, 66, 67, 68, 69] (by decide +kernel) (by decide +kernel)
set_option maxRecDepth 20000 in
theorem gX12_pass_X12_wears : GoodIn wsX12_pass (wsV RX12 156 RX12 yX12_wears wsX12_wears) := goodIn_app (goodIn_of _ (by decide +kernel)) ggX12_pass_X12_wears
set_option maxRecDepth 20000 in
theorem ggX12_pass_X12_may : GoodIn wsX12_pass wsX12_may := goodIn_r _ [37, 38, 27, 39, 40, 41, 42, 43, 44, 45, 46, 47, 48, 49, 50, 51, 52, 53, 54, 55, 56, 57, 58, 59, 60, 61, 62, 63, 64, 65, 66, 67, 68, 69] (by decide +kernel) (by decide +kernel)
set_option maxRecDepth 20000 in
theorem gX12_pass_X12_may : GoodIn wsX12_pass (wsV RX12 160 RX12 yX12_may wsX12_may) := goodIn_app (goodIn_of _ (by decide +kernel)) ggX12_pass_X12_may
theorem dX12_pass_0 : decode cX12_pass 0 = .ok (.aload_n 0, 1) := by decide +kernel
theorem dX12_pass_1 : decode cX12_pass 1 = .ok (.iload_n 1, 1) := by decide +kernel
theorem dX12_pass_2 : decode cX12_pass 2 = .ok (.invokevirtual 141, 3) := by decide +kernel
theorem dX12_pass_5 : decode cX12_pass 5 = .ok (.ifCond .eq 45, 3) := by decide +kernel
theorem dX12_pass_8 : decode cX12_pass 8 = .ok (.aload_n 0, 1) := by decide +kernel
theorem dX12_pass_9 : decode cX12_pass 9 = .ok (.iload_n 2, 1) := by decide +kernel
theorem dX12_pass_10 : decode cX12_pass 10 = .ok (.invokevirtual 145, 3) := by decide +kernel
theorem dX12_pass_13 : decode cX12_pass 13 = .ok (.ifCond .eq 37, 3) := by decide +kernel
theorem dX12_pass_16 : decode cX12_pass 16 = .ok (.iload_n 3, 1) := by decide +kernel
theorem dX12_pass_17 : decode cX12_pass 17 = .ok (.i2l, 1) := by decide +kernel
theorem dX12_pass_18 : decode cX12_pass 18 = .ok (.lconst 1, 1) := by decide +kernel
theorem dX12_pass_19 : decode cX12_pass 19 = .ok (.ldc2_w 99, 3) := by decide +kernel
theorem dX12_pass_22 : decode cX12_pass 22 = .ok (.invokestatic 101, 3) := by decide +kernel
theorem dX12_pass_25 : decode cX12_pass 25 = .ok (.ifCond .eq 25, 3) := by decide +kernel
theorem dX12_pass_28 : decode cX12_pass 28 = .ok (.aload_n 0, 1) := by decide +kernel
theorem dX12_pass_29 : decode cX12_pass 29 = .ok (.iload 4, 2) := by decide +kernel
theorem dX12_pass_31 : decode cX12_pass 31 = .ok (.invokevirtual 148, 3) := by decide +kernel
theorem dX12_pass_34 : decode cX12_pass 34 = .ok (.ifCond .eq 16, 3) := by decide +kernel
theorem dX12_pass_37 : decode cX12_pass 37 = .ok (.iload 5, 2) := by decide +kernel
theorem dX12_pass_39 : decode cX12_pass 39 = .ok (.i2l, 1) := by decide +kernel
theorem dX12_pass_40 : decode cX12_pass 40 = .ok (.lconst 0, 1) := by decide +kernel
theorem dX12_pass_41 : decode cX12_pass 41 = .ok (.ldc2_w 151, 3) := by decide +kernel
theorem dX12_pass_44 : decode cX12_pass 44 = .ok (.invokestatic 101, 3) := by decide +kernel
theorem dX12_pass_47 : decode cX12_pass 47 = .ok (.ifCond .ne 5, 3) := by decide +kernel
theorem dX12_pass_50 : decode cX12_pass 50 = .ok (.iconst (-1), 1) := by decide +kernel
theorem dX12_pass_51 : decode cX12_pass 51 = .ok (.ireturn, 1) := by decide +kernel
theorem dX12_pass_52 : decode cX12_pass 52 = .ok (.iload 5, 2) := by decide +kernel
theorem dX12_pass_54 : decode cX12_pass 54 = .ok (.ifCond .ne 12, 3) := by decide +kernel
theorem dX12_pass_57 : decode cX12_pass 57 = .ok (.aload_n 0, 1) := by decide +kernel
theorem dX12_pass_58 : decode cX12_pass 58 = .ok (.iload_n 1, 1) := by decide +kernel
theorem dX12_pass_59 : decode cX12_pass 59 = .ok (.iload_n 2, 1) := by decide +kernel
theorem dX12_pass_60 : decode cX12_pass 60 = .ok (.invokevirtual 153, 3) := by decide +kernel
theorem dX12_pass_63 : decode cX12_pass 63 = .ok (.goto 35, 3) := by decide +kernel
theorem dX12_pass_66 : decode cX12_pass 66 = .ok (.iload 5, 2) := by decide +kernel
theorem dX12_pass_68 : decode cX12_pass 68 = .ok (.iconst 1, 1) := by decide +kernel
theorem dX12_pass_69 : decode cX12_pass 69 = .ok (.if_icmp .ne 15, 3) := by decide +kernel
theorem dX12_pass_72 : decode cX12_pass 72 = .ok (.aload_n 0, 1) := by decide +kernel
theorem dX12_pass_73 : decode cX12_pass 73 = .ok (.iload_n 1, 1) := by decide +kernel
theorem dX12_pass_74 : decode cX12_pass 74 = .ok (.iload_n 2, 1) := by decide +kernel
theorem dX12_pass_75 : decode cX12_pass 75 = .ok (.iload_n 3, 1) := by decide +kernel
theorem dX12_pass_76 : decode cX12_pass 76 = .ok (.iload 4, 2) := by decide +kernel
theorem dX12_pass_78 : decode cX12_pass 78 = .ok (.invokevirtual 156, 3) := by decide +kernel
theorem dX12_pass_81 : decode cX12_pass 81 = .ok (.goto 17, 3) := by decide +kernel
theorem dX12_pass_84 : decode cX12_pass 84 = .ok (.aload_n 0, 1) := by decide +kernel
theorem dX12_pass_85 : decode cX12_pass 85 = .ok (.iload_n 2, 1) := by decide +kernel
theorem dX12_pass_86 : decode cX12_pass 86 = .ok (.iload_n 3, 1) := by decide +kernel
theorem dX12_pass_87 : decode cX12_pass 87 = .ok (.invokevirtual 160, 3) := by decide +kernel
theorem dX12_pass_90 : decode cX12_pass 90 = .ok (.ifCond .eq 7, 3) := by decide +kernel
theorem dX12_pass_93 : decode cX12_pass 93 = .ok (.iconst 1, 1) := by decide +kernel
theorem dX12_pass_94 : decode cX12_pass 94 = .ok (.goto 4, 3) := by decide +kernel
theorem dX12_pass_97 : decode cX12_pass 97 = .ok (.iconst 0, 1) := by decide +kernel
theorem dX12_pass_98 : decode cX12_pass 98 = .ok (.ireturn, 1) := by decide +kernel
theorem dX12_breaksAt_0 : decode cX12_breaksAt 0 = .ok (.iconst (-1), 1) := by decide +kernel
theorem dX12_breaksAt_1 : decode cX12_breaksAt 1 = .ok (.istore_n 2, 1) := by decide +kernel
theorem dX12_breaksAt_2 : decode cX12_breaksAt 2 = .ok (.iconst 0, 1) := by decide +kernel
theorem dX12_breaksAt_3 : decode cX12_breaksAt 3 = .ok (.istore_n 3, 1) := by decide +kernel
theorem dX12_breaksAt_4 : decode cX12_breaksAt 4 = .ok (.iload_n 3, 1) := by decide +kernel
theorem dX12_breaksAt_5 : decode cX12_breaksAt 5 = .ok (.aload_n 0, 1) := by decide +kernel
theorem dX12_breaksAt_6 : decode cX12_breaksAt 6 = .ok (.getfield 29, 3) := by decide +kernel
theorem dX12_breaksAt_9 : decode cX12_breaksAt 9 = .ok (.iconst 0, 1) := by decide +kernel
theorem dX12_breaksAt_10 : decode cX12_breaksAt 10 = .ok (.iaload, 1) := by decide +kernel
theorem dX12_breaksAt_11 : decode cX12_breaksAt 11 = .ok (.if_icmp .ge 50, 3) := by decide +kernel
theorem dX12_breaksAt_14 : decode cX12_breaksAt 14 = .ok (.aload_n 0, 1) := by decide +kernel
theorem dX12_breaksAt_15 : decode cX12_breaksAt 15 = .ok (.getfield 32, 3) := by decide +kernel
theorem dX12_breaksAt_18 : decode cX12_breaksAt 18 = .ok (.iconst 2, 1) := by decide +kernel
theorem dX12_breaksAt_19 : decode cX12_breaksAt 19 = .ok (.iload_n 3, 1) := by decide +kernel
theorem dX12_breaksAt_20 : decode cX12_breaksAt 20 = .ok (.imul, 1) := by decide +kernel
theorem dX12_breaksAt_21 : decode cX12_breaksAt 21 = .ok (.iaload, 1) := by decide +kernel
theorem dX12_breaksAt_22 : decode cX12_breaksAt 22 = .ok (.iload_n 1, 1) := by decide +kernel
theorem dX12_breaksAt_23 : decode cX12_breaksAt 23 = .ok (.if_icmp .gt 30, 3) := by decide +kernel
theorem dX12_breaksAt_26 : decode cX12_breaksAt 26 = .ok (.iload_n 2, 1) := by decide +kernel
theorem dX12_breaksAt_27 : decode cX12_breaksAt 27 = .ok (.ifCond .lt 22, 3) := by decide +kernel
theorem dX12_breaksAt_30 : decode cX12_breaksAt 30 = .ok (.aload_n 0, 1) := by decide +kernel
theorem dX12_breaksAt_31 : decode cX12_breaksAt 31 = .ok (.getfield 32, 3) := by decide +kernel
theorem dX12_breaksAt_34 : decode cX12_breaksAt 34 = .ok (.iconst 2, 1) := by decide +kernel
theorem dX12_breaksAt_35 : decode cX12_breaksAt 35 = .ok (.iload_n 3, 1) := by decide +kernel
theorem dX12_breaksAt_36 : decode cX12_breaksAt 36 = .ok (.imul, 1) := by decide +kernel
theorem dX12_breaksAt_37 : decode cX12_breaksAt 37 = .ok (.iaload, 1) := by decide +kernel
theorem dX12_breaksAt_38 : decode cX12_breaksAt 38 = .ok (.aload_n 0, 1) := by decide +kernel
theorem dX12_breaksAt_39 : decode cX12_breaksAt 39 = .ok (.getfield 32, 3) := by decide +kernel
theorem dX12_breaksAt_42 : decode cX12_breaksAt 42 = .ok (.iconst 2, 1) := by decide +kernel
theorem dX12_breaksAt_43 : decode cX12_breaksAt 43 = .ok (.iload_n 2, 1) := by decide +kernel
theorem dX12_breaksAt_44 : decode cX12_breaksAt 44 = .ok (.imul, 1) := by decide +kernel
theorem dX12_breaksAt_45 : decode cX12_breaksAt 45 = .ok (.iaload, 1) := by decide +kernel
theorem dX12_breaksAt_46 : decode cX12_breaksAt 46 = .ok (.if_icmp .lt 7, 3) := by decide +kernel
theorem dX12_breaksAt_49 : decode cX12_breaksAt 49 = .ok (.iload_n 3, 1) := by decide +kernel
theorem dX12_breaksAt_50 : decode cX12_breaksAt 50 = .ok (.goto 4, 3) := by decide +kernel
theorem dX12_breaksAt_53 : decode cX12_breaksAt 53 = .ok (.iload_n 2, 1) := by decide +kernel
theorem dX12_breaksAt_54 : decode cX12_breaksAt 54 = .ok (.istore_n 2, 1) := by decide +kernel
theorem dX12_breaksAt_55 : decode cX12_breaksAt 55 = .ok (.iinc 3 1, 3) := by decide +kernel
theorem dX12_breaksAt_58 : decode cX12_breaksAt 58 = .ok (.goto (-54), 3) := by decide +kernel
theorem dX12_breaksAt_61 : decode cX12_breaksAt 61 = .ok (.iload_n 2, 1) := by decide +kernel
theorem dX12_breaksAt_62 : decode cX12_breaksAt 62 = .ok (.ifCond .ge 7, 3) := by decide +kernel
theorem dX12_breaksAt_65 : decode cX12_breaksAt 65 = .ok (.iconst 0, 1) := by decide +kernel
theorem dX12_breaksAt_66 : decode cX12_breaksAt 66 = .ok (.goto 13, 3) := by decide +kernel
theorem dX12_breaksAt_69 : decode cX12_breaksAt 69 = .ok (.aload_n 0, 1) := by decide +kernel
theorem dX12_breaksAt_70 : decode cX12_breaksAt 70 = .ok (.getfield 32, 3) := by decide +kernel
theorem dX12_breaksAt_73 : decode cX12_breaksAt 73 = .ok (.iconst 2, 1) := by decide +kernel
theorem dX12_breaksAt_74 : decode cX12_breaksAt 74 = .ok (.iload_n 2, 1) := by decide +kernel
theorem dX12_breaksAt_75 : decode cX12_breaksAt 75 = .ok (.imul, 1) := by decide +kernel
theorem dX12_breaksAt_76 : decode cX12_breaksAt 76 = .ok (.iconst 1, 1) := by decide +kernel
theorem dX12_breaksAt_77 : decode cX12_breaksAt 77 = .ok (.iadd, 1) := by decide +kernel
theorem dX12_breaksAt_78 : decode cX12_breaksAt 78 = .ok (.iaload, 1) := by decide +kernel
theorem dX12_breaksAt_79 : decode cX12_breaksAt 79 = .ok (.ireturn, 1) := by decide +kernel
set_option maxRecDepth 20000 in
theorem ggX12_breaks_X12_in : GoodIn wsX12_breaks wsX12_in := goodIn_r _ [5] (by decide +kernel) (by decide +kernel)
set_option maxRecDepth 20000 in
theorem gX12_breaks_X12_in : GoodIn wsX12_breaks (va_wsS RX12 101 yX12_in wsX12_in) := goodIn_app (goodIn_of _ (by decide +kernel)) ggX12_breaks_X12_in
set_option maxRecDepth 20000 in
theorem ggX12_breaks_X12_breaksAt : GoodIn wsX12_breaks wsX12_breaksAt := goodIn_r _ [9, 10, 11, 12, 13, 14, 15, 16, 17, 18, 19, 20, 21, 22, 23, 24, 25, 26, 27, 28, 29, 30, 31, 32, 33, 34, 35, 36, 37, 38, 39, 40, 41, 42] (by decide +kernel) (by decide +kernel)
set_option maxRecDepth 20000 in
theorem gX12_breaks_X12_breaksAt : GoodIn wsX12_breaks (wsV RX12 166 RX12 yX12_breaksAt wsX12_breaksAt) := goodIn_app (goodIn_of _ (by decide +kernel)) ggX12_breaks_X12_breaksAt
theorem dX12_breaks_0 : decode cX12_breaks 0 = .ok (.iload_n 1, 1) := by decide +kernel
theorem dX12_breaks_1 : decode cX12_breaks 1 = .ok (.i2l, 1) := by decide +kernel
theorem dX12_breaks_2 : decode cX12_breaks 2 = .ok (.lconst 0, 1) := by decide +kernel
theorem dX12_breaks_3 : decode cX12_breaks 3 = .ok (.ldc2_w 164, 3) := by decide +kernel
theorem dX12_breaks_6 : decode cX12_breaks 6 = .ok (.invokestatic 101, 3) := by decide +kernel
theorem dX12_breaks_9 : decode cX12_breaks 9 = .ok (.ifCond .eq 11, 3) := by decide +kernel
theorem dX12_breaks_12 : decode cX12_breaks 12 = .ok (.aload_n 0, 1) := by decide +kernel
theorem dX12_breaks_13 : decode cX12_breaks 13 = .ok (.iload_n 1, 1) := by decide +kernel
theorem dX12_breaks_14 : decode cX12_breaks 14 = .ok (.invokevirtual 166, 3) := by decide +kernel
theorem dX12_breaks_17 : decode cX12_breaks 17 = .ok (.goto 4, 3) := by decide +kernel
theorem dX12_breaks_20 : decode cX12_breaks 20 = .ok (.iconst (-1), 1) := by decide +kernel
theorem dX12_breaks_21 : decode cX12_breaks 21 = .ok (.ireturn, 1) := by decide +kernel
set_option maxRecDepth 20000 in
theorem ggX12_hand_X12_isSpeed : GoodIn wsX12_hand wsX12_isSpeed := goodIn_r _ [8, 9, 10, 11, 7, 12, 13, 14, 15, 16, 17, 18, 19, 20, 21, 22, 23, 24, 25, 26, 27, 28, 29, 30, 31, 32, 33, 34, 35, 36, 37, 38, 39, 40, 41, 42, 43] (by decide +kernel) (by decide +kernel)
set_option maxRecDepth 20000 in
theorem gX12_hand_X12_isSpeed : GoodIn wsX12_hand (wsV RX12 145 RX12 yX12_isSpeed wsX12_isSpeed) := goodIn_app (goodIn_of _ (by decide +kernel)) ggX12_hand_X12_isSpeed
set_option maxRecDepth 20000 in
theorem ggX12_hand_X12_in : GoodIn wsX12_hand wsX12_in := goodIn_r _ [12] (by decide +kernel) (by decide +kernel)
set_option maxRecDepth 20000 in
theorem gX12_hand_X12_in : GoodIn wsX12_hand (va_wsS RX12 101 yX12_in wsX12_in) := goodIn_app (goodIn_of _ (by decide +kernel)) ggX12_hand_X12_in
theorem dX12_hand_0 : decode cX12_hand 0 = .ok (.iload_n 1, 1) := by decide +kernel
theorem dX12_hand_1 : decode cX12_hand 1 = .ok (.ifCond .ne 11, 3) := by decide +kernel
theorem dX12_hand_4 : decode cX12_hand 4 = .ok (.aload_n 0, 1) := by decide +kernel
theorem dX12_hand_5 : decode cX12_hand 5 = .ok (.iload_n 2, 1) := by decide +kernel
theorem dX12_hand_6 : decode cX12_hand 6 = .ok (.invokevirtual 145, 3) := by decide +kernel
theorem dX12_hand_9 : decode cX12_hand 9 = .ok (.goto 42, 3) := by decide +kernel
theorem dX12_hand_12 : decode cX12_hand 12 = .ok (.iload_n 1, 1) := by decide +kernel
theorem dX12_hand_13 : decode cX12_hand 13 = .ok (.iconst 1, 1) := by decide +kernel
theorem dX12_hand_14 : decode cX12_hand 14 = .ok (.if_icmp .ne 15, 3) := by decide +kernel
theorem dX12_hand_17 : decode cX12_hand 17 = .ok (.iload_n 2, 1) := by decide +kernel
theorem dX12_hand_18 : decode cX12_hand 18 = .ok (.i2l, 1) := by decide +kernel
theorem dX12_hand_19 : decode cX12_hand 19 = .ok (.lconst 0, 1) := by decide +kernel
theorem dX12_hand_20 : decode cX12_hand 20 = .ok (.ldc2_w 164, 3) := by decide +kernel
theorem dX12_hand_23 : decode cX12_hand 23 = .ok (.invokestatic 101, 3) := by decide +kernel
theorem dX12_hand_26 : decode cX12_hand 26 = .ok (.goto 25, 3) := by decide +kernel
theorem dX12_hand_29 : decode cX12_hand 29 = .ok (.iload_n 1, 1) := by decide +kernel
theorem dX12_hand_30 : decode cX12_hand 30 = .ok (.iconst 2, 1) := by decide +kernel
theorem dX12_hand_31 : decode cX12_hand 31 = .ok (.if_icmp .ne 19, 3) := by decide +kernel
theorem dX12_hand_34 : decode cX12_hand 34 = .ok (.iload_n 2, 1) := by decide +kernel
theorem dX12_hand_35 : decode cX12_hand 35 = .ok (.i2l, 1) := by decide +kernel
theorem dX12_hand_36 : decode cX12_hand 36 = .ok (.lconst 1, 1) := by decide +kernel
theorem dX12_hand_37 : decode cX12_hand 37 = .ok (.ldc2_w 99, 3) := by decide +kernel
theorem dX12_hand_40 : decode cX12_hand 40 = .ok (.invokestatic 101, 3) := by decide +kernel
theorem dX12_hand_43 : decode cX12_hand 43 = .ok (.ifCond .eq 7, 3) := by decide +kernel
theorem dX12_hand_46 : decode cX12_hand 46 = .ok (.iconst 1, 1) := by decide +kernel
theorem dX12_hand_47 : decode cX12_hand 47 = .ok (.goto 4, 3) := by decide +kernel
theorem dX12_hand_50 : decode cX12_hand 50 = .ok (.iconst 0, 1) := by decide +kernel
theorem dX12_hand_51 : decode cX12_hand 51 = .ok (.istore_n 3, 1) := by decide +kernel
theorem dX12_hand_52 : decode cX12_hand 52 = .ok (.iload_n 3, 1) := by decide +kernel
theorem dX12_hand_53 : decode cX12_hand 53 = .ok (.ifCond .ne 5, 3) := by decide +kernel
theorem dX12_hand_56 : decode cX12_hand 56 = .ok (.iconst (-1), 1) := by decide +kernel
theorem dX12_hand_57 : decode cX12_hand 57 = .ok (.ireturn, 1) := by decide +kernel
theorem dX12_hand_58 : decode cX12_hand 58 = .ok (.aload_n 0, 1) := by decide +kernel
theorem dX12_hand_59 : decode cX12_hand 59 = .ok (.getfield 44, 3) := by decide +kernel
theorem dX12_hand_62 : decode cX12_hand 62 = .ok (.iload_n 1, 1) := by decide +kernel
theorem dX12_hand_63 : decode cX12_hand 63 = .ok (.iaload, 1) := by decide +kernel
theorem dX12_hand_64 : decode cX12_hand 64 = .ok (.istore 4, 2) := by decide +kernel
theorem dX12_hand_66 : decode cX12_hand 66 = .ok (.aload_n 0, 1) := by decide +kernel
theorem dX12_hand_67 : decode cX12_hand 67 = .ok (.getfield 44, 3) := by decide +kernel
theorem dX12_hand_70 : decode cX12_hand 70 = .ok (.iload_n 1, 1) := by decide +kernel
theorem dX12_hand_71 : decode cX12_hand 71 = .ok (.iload_n 2, 1) := by decide +kernel
theorem dX12_hand_72 : decode cX12_hand 72 = .ok (.iastore, 1) := by decide +kernel
theorem dX12_hand_73 : decode cX12_hand 73 = .ok (.iload 4, 2) := by decide +kernel
theorem dX12_hand_75 : decode cX12_hand 75 = .ok (.ireturn, 1) := by decide +kernel
theorem dX12_cell_0 : decode cX12_cell 0 = .ok (.bipush 9, 2) := by decide +kernel
theorem dX12_cell_2 : decode cX12_cell 2 = .ok (.iload_n 0, 1) := by decide +kernel
theorem dX12_cell_3 : decode cX12_cell 3 = .ok (.imul, 1) := by decide +kernel
theorem dX12_cell_4 : decode cX12_cell 4 = .ok (.iload_n 1, 1) := by decide +kernel
theorem dX12_cell_5 : decode cX12_cell 5 = .ok (.iadd, 1) := by decide +kernel
theorem dX12_cell_6 : decode cX12_cell 6 = .ok (.bipush 101, 2) := by decide +kernel
theorem dX12_cell_8 : decode cX12_cell 8 = .ok (.imul, 1) := by decide +kernel
theorem dX12_cell_9 : decode cX12_cell 9 = .ok (.iload_n 2, 1) := by decide +kernel
theorem dX12_cell_10 : decode cX12_cell 10 = .ok (.iadd, 1) := by decide +kernel
theorem dX12_cell_11 : decode cX12_cell 11 = .ok (.ireturn, 1) := by decide +kernel
theorem dX12_steps_0 : decode cX12_steps 0 = .ok (.aload_n 0, 1) := by decide +kernel
theorem dX12_steps_1 : decode cX12_steps 1 = .ok (.getfield 26, 3) := by decide +kernel
theorem dX12_steps_4 : decode cX12_steps 4 = .ok (.iconst 4, 1) := by decide +kernel
theorem dX12_steps_5 : decode cX12_steps 5 = .ok (.iload_n 1, 1) := by decide +kernel
theorem dX12_steps_6 : decode cX12_steps 6 = .ok (.imul, 1) := by decide +kernel
theorem dX12_steps_7 : decode cX12_steps 7 = .ok (.iconst 1, 1) := by decide +kernel
theorem dX12_steps_8 : decode cX12_steps 8 = .ok (.iadd, 1) := by decide +kernel
theorem dX12_steps_9 : decode cX12_steps 9 = .ok (.iaload, 1) := by decide +kernel
theorem dX12_steps_10 : decode cX12_steps 10 = .ok (.ireturn, 1) := by decide +kernel
set_option maxRecDepth 20000 in
theorem ggX12_isState_X12_isPiece : GoodIn wsX12_isState wsX12_isPiece := goodIn_r _ [6, 7, 8, 9, 5, 10, 16, 17, 18, 19, 20, 21, 22, 23, 24, 25, 26, 27, 28, 29, 30, 31, 32, 33, 34, 35, 36, 37, 38, 39, 40, 41, 42, 43, 44, 45, 46] (by decide +kernel) (by decide +kernel)
set_option maxRecDepth 20000 in
theorem gX12_isState_X12_isPiece : GoodIn wsX12_isState (wsV RX12 141 RX12 yX12_isPiece wsX12_isPiece) := goodIn_app (goodIn_of _ (by decide +kernel)) ggX12_isState_X12_isPiece
set_option maxRecDepth 20000 in
theorem ggX12_isState_X12_steps : GoodIn wsX12_isState wsX12_steps := goodIn_r _ [14, 15, 16, 17, 18, 19, 20, 21, 22, 23, 24, 25, 26, 27, 28, 29, 30, 31, 32, 33, 34, 35, 36, 37, 38, 39, 40, 41, 42, 43, 44, 45, 46] (by decide +kernel) (by decide +kernel)
set_option maxRecDepth 20000 in
theorem gX12_isState_X12_steps : GoodIn wsX12_isState (wsV RX12 170 RX12 yX12_steps wsX12_steps) := goodIn_app (goodIn_of _ (by decide +kernel)) ggX12_isState_X12_steps
set_option maxRecDepth 20000 in
theorem ggX12_isState_X12_in : GoodIn wsX12_isState wsX12_in := goodIn_r _ [10] (by decide +kernel) (by decide +kernel)
set_option maxRecDepth 20000 in
theorem gX12_isState_X12_in : GoodIn wsX12_isState (va_wsS RX12 101 yX12_in wsX12_in) := goodIn_app (goodIn_of _ (by decide +kernel)) ggX12_isState_X12_in
theorem dX12_isState_0 : decode cX12_isState 0 = .ok (.aload_n 0, 1) := by decide +kernel
theorem dX12_isState_1 : decode cX12_isState 1 = .ok (.iload_n 1, 1) := by decide +kernel
theorem dX12_isState_2 : decode cX12_isState 2 = .ok (.invokevirtual 141, 3) := by decide +kernel
theorem dX12_isState_5 : decode cX12_isState 5 = .ok (.ifCond .eq 34, 3) := by decide +kernel
theorem dX12_isState_8 : decode cX12_isState 8 = .ok (.iload_n 2, 1) := by decide +kernel
theorem dX12_isState_9 : decode cX12_isState 9 = .ok (.i2l, 1) := by decide +kernel
theorem dX12_isState_10 : decode cX12_isState 10 = .ok (.lconst 1, 1) := by decide +kernel
theorem dX12_isState_11 : decode cX12_isState 11 = .ok (.aload_n 0, 1) := by decide +kernel
theorem dX12_isState_12 : decode cX12_isState 12 = .ok (.iload_n 1, 1) := by decide +kernel
theorem dX12_isState_13 : decode cX12_isState 13 = .ok (.invokevirtual 170, 3) := by decide +kernel
theorem dX12_isState_16 : decode cX12_isState 16 = .ok (.i2l, 1) := by decide +kernel
theorem dX12_isState_17 : decode cX12_isState 17 = .ok (.invokestatic 101, 3) := by decide +kernel
theorem dX12_isState_20 : decode cX12_isState 20 = .ok (.ifCond .eq 19, 3) := by decide +kernel
theorem dX12_isState_23 : decode cX12_isState 23 = .ok (.iload_n 3, 1) := by decide +kernel
theorem dX12_isState_24 : decode cX12_isState 24 = .ok (.i2l, 1) := by decide +kernel
theorem dX12_isState_25 : decode cX12_isState 25 = .ok (.lconst 0, 1) := by decide +kernel
theorem dX12_isState_26 : decode cX12_isState 26 = .ok (.ldc2_w 164, 3) := by decide +kernel
theorem dX12_isState_29 : decode cX12_isState 29 = .ok (.invokestatic 101, 3) := by decide +kernel
theorem dX12_isState_32 : decode cX12_isState 32 = .ok (.ifCond .eq 7, 3) := by decide +kernel
theorem dX12_isState_35 : decode cX12_isState 35 = .ok (.iconst 1, 1) := by decide +kernel
theorem dX12_isState_36 : decode cX12_isState 36 = .ok (.goto 4, 3) := by decide +kernel
theorem dX12_isState_39 : decode cX12_isState 39 = .ok (.iconst 0, 1) := by decide +kernel
theorem dX12_isState_40 : decode cX12_isState 40 = .ok (.ireturn, 1) := by decide +kernel
set_option maxRecDepth 20000 in
theorem ggX12_after_X12_steps : GoodIn wsX12_after wsX12_steps := goodIn_r _ [7, 8, 12, 13, 14, 15, 16, 17, 18, 19, 20, 21, 22, 23, 24, 25, 26, 27, 28, 29, 30, 31, 32, 33, 34, 35, 36, 37, 38, 39, 40, 41, 42] (by decide +kernel) (by decide +kernel)
set_option maxRecDepth 20000 in
theorem gX12_after_X12_steps : GoodIn wsX12_after (wsV RX12 170 RX12 yX12_steps wsX12_steps) := goodIn_app (goodIn_of _ (by decide +kernel)) ggX12_after_X12_steps
set_option maxRecDepth 20000 in
theorem ggX12_after_X12_cell : GoodIn wsX12_after wsX12_cell := goodIn_r _ [11] (by decide +kernel) (by decide +kernel)
set_option maxRecDepth 20000 in
theorem gX12_after_X12_cell : GoodIn wsX12_after (va_wsS RX12 173 yX12_cell wsX12_cell) := goodIn_app (goodIn_of _ (by decide +kernel)) ggX12_after_X12_cell
theorem dX12_after_0 : decode cX12_after 0 = .ok (.iload_n 1, 1) := by decide +kernel
theorem dX12_after_1 : decode cX12_after 1 = .ok (.iconst 1, 1) := by decide +kernel
theorem dX12_after_2 : decode cX12_after 2 = .ok (.iadd, 1) := by decide +kernel
theorem dX12_after_3 : decode cX12_after 3 = .ok (.aload_n 0, 1) := by decide +kernel
theorem dX12_after_4 : decode cX12_after 4 = .ok (.getfield 23, 3) := by decide +kernel
theorem dX12_after_7 : decode cX12_after 7 = .ok (.iconst 0, 1) := by decide +kernel
theorem dX12_after_8 : decode cX12_after 8 = .ok (.iaload, 1) := by decide +kernel
theorem dX12_after_9 : decode cX12_after 9 = .ok (.if_icmp .ne 7, 3) := by decide +kernel
theorem dX12_after_12 : decode cX12_after 12 = .ok (.lconst 0, 1) := by decide +kernel
theorem dX12_after_13 : decode cX12_after 13 = .ok (.goto 22, 3) := by decide +kernel
theorem dX12_after_16 : decode cX12_after 16 = .ok (.aload_n 0, 1) := by decide +kernel
theorem dX12_after_17 : decode cX12_after 17 = .ok (.getfield 56, 3) := by decide +kernel
theorem dX12_after_20 : decode cX12_after 20 = .ok (.iload_n 1, 1) := by decide +kernel
theorem dX12_after_21 : decode cX12_after 21 = .ok (.iconst 1, 1) := by decide +kernel
theorem dX12_after_22 : decode cX12_after 22 = .ok (.iadd, 1) := by decide +kernel
theorem dX12_after_23 : decode cX12_after 23 = .ok (.aload_n 0, 1) := by decide +kernel
theorem dX12_after_24 : decode cX12_after 24 = .ok (.iload_n 1, 1) := by decide +kernel
theorem dX12_after_25 : decode cX12_after 25 = .ok (.iconst 1, 1) := by decide +kernel
theorem dX12_after_26 : decode cX12_after 26 = .ok (.iadd, 1) := by decide +kernel
theorem dX12_after_27 : decode cX12_after 27 = .ok (.invokevirtual 170, 3) := by decide +kernel
theorem dX12_after_30 : decode cX12_after 30 = .ok (.iload_n 2, 1) := by decide +kernel
theorem dX12_after_31 : decode cX12_after 31 = .ok (.invokestatic 173, 3) := by decide +kernel
theorem dX12_after_34 : decode cX12_after 34 = .ok (.laload, 1) := by decide +kernel
theorem dX12_after_35 : decode cX12_after 35 = .ok (.lreturn, 1) := by decide +kernel
set_option maxRecDepth 20000 in
theorem ggX12_can_X12_isSpeed : GoodIn wsX12_can wsX12_isSpeed := goodIn_r _ [5, 6, 7, 8, 4, 9, 16, 17, 18, 19, 20, 21, 22, 23, 24, 25, 26, 27, 28, 29, 30, 31, 32, 33, 34, 35, 36, 37, 38, 39, 40, 41, 42, 43, 44, 45, 46] (by decide +kernel) (by decide +kernel)
set_option maxRecDepth 20000 in
theorem gX12_can_X12_isSpeed : GoodIn wsX12_can (wsV RX12 145 RX12 yX12_isSpeed wsX12_isSpeed) := goodIn_app (goodIn_of _ (by decide +kernel)) ggX12_can_X12_isSpeed
set_option maxRecDepth 20000 in
theorem ggX12_can_X12_may : GoodIn wsX12_can wsX12_may := goodIn_r _ [13, 14, 15, 16, 17, 18, 19, 20, 21, 22, 23, 24, 25, 26, 27, 28, 29, 30, 31, 32, 33, 34, 35, 36, 37, 38, 39, 40, 41, 42, 43, 44, 45, 46] (by decide +kernel) (by decide +kernel)
set_option maxRecDepth 20000 in
theorem gX12_can_X12_may : GoodIn wsX12_can (wsV RX12 160 RX12 yX12_may wsX12_may) := goodIn_app (goodIn_of _ (by decide +kernel)) ggX12_can_X12_may
theorem dX12_can_0 : decode cX12_can 0 = .ok (.iload 4, 2) := by decide +kernel
theorem dX12_can_2 : decode cX12_can 2 = .ok (.bipush 47, 2) := by decide +kernel
theorem dX12_can_4 : decode cX12_can 4 = .ok (.if_icmp .le 20, 3) := by decide +kernel
theorem dX12_can_7 : decode cX12_can 7 = .ok (.iload 4, 2) := by decide +kernel
theorem dX12_can_9 : decode cX12_can 9 = .ok (.bipush 49, 2) := by decide +kernel
theorem dX12_can_11 : decode cX12_can 11 = .ok (.if_icmp .eq 7, 3) := by decide +kernel
theorem dX12_can_14 : decode cX12_can 14 = .ok (.iload_n 3, 1) := by decide +kernel
theorem dX12_can_15 : decode cX12_can 15 = .ok (.ifCond .le 7, 3) := by decide +kernel
theorem dX12_can_18 : decode cX12_can 18 = .ok (.iconst 1, 1) := by decide +kernel
theorem dX12_can_19 : decode cX12_can 19 = .ok (.goto 4, 3) := by decide +kernel
theorem dX12_can_22 : decode cX12_can 22 = .ok (.iconst 0, 1) := by decide +kernel
theorem dX12_can_23 : decode cX12_can 23 = .ok (.ireturn, 1) := by decide +kernel
theorem dX12_can_24 : decode cX12_can 24 = .ok (.aload_n 0, 1) := by decide +kernel
theorem dX12_can_25 : decode cX12_can 25 = .ok (.iload 4, 2) := by decide +kernel
theorem dX12_can_27 : decode cX12_can 27 = .ok (.bipush 8, 2) := by decide +kernel
theorem dX12_can_29 : decode cX12_can 29 = .ok (.idiv, 1) := by decide +kernel
theorem dX12_can_30 : decode cX12_can 30 = .ok (.invokevirtual 145, 3) := by decide +kernel
theorem dX12_can_33 : decode cX12_can 33 = .ok (.ifCond .eq 35, 3) := by decide +kernel
theorem dX12_can_36 : decode cX12_can 36 = .ok (.iload 4, 2) := by decide +kernel
theorem dX12_can_38 : decode cX12_can 38 = .ok (.bipush 8, 2) := by decide +kernel
theorem dX12_can_40 : decode cX12_can 40 = .ok (.irem, 1) := by decide +kernel
theorem dX12_can_41 : decode cX12_can 41 = .ok (.iload_n 2, 1) := by decide +kernel
theorem dX12_can_42 : decode cX12_can 42 = .ok (.if_icmp .ge 26, 3) := by decide +kernel
theorem dX12_can_45 : decode cX12_can 45 = .ok (.aload_n 0, 1) := by decide +kernel
theorem dX12_can_46 : decode cX12_can 46 = .ok (.iload 4, 2) := by decide +kernel
theorem dX12_can_48 : decode cX12_can 48 = .ok (.bipush 8, 2) := by decide +kernel
theorem dX12_can_50 : decode cX12_can 50 = .ok (.idiv, 1) := by decide +kernel
theorem dX12_can_51 : decode cX12_can 51 = .ok (.iload 4, 2) := by decide +kernel
theorem dX12_can_53 : decode cX12_can 53 = .ok (.bipush 8, 2) := by decide +kernel
theorem dX12_can_55 : decode cX12_can 55 = .ok (.irem, 1) := by decide +kernel
theorem dX12_can_56 : decode cX12_can 56 = .ok (.iconst 1, 1) := by decide +kernel
theorem dX12_can_57 : decode cX12_can 57 = .ok (.iadd, 1) := by decide +kernel
theorem dX12_can_58 : decode cX12_can 58 = .ok (.invokevirtual 160, 3) := by decide +kernel
theorem dX12_can_61 : decode cX12_can 61 = .ok (.ifCond .eq 7, 3) := by decide +kernel
theorem dX12_can_64 : decode cX12_can 64 = .ok (.iconst 1, 1) := by decide +kernel
theorem dX12_can_65 : decode cX12_can 65 = .ok (.goto 4, 3) := by decide +kernel
theorem dX12_can_68 : decode cX12_can 68 = .ok (.iconst 0, 1) := by decide +kernel
theorem dX12_can_69 : decode cX12_can 69 = .ok (.ireturn, 1) := by decide +kernel
set_option maxRecDepth 20000 in
theorem ggX12_comes_X12_cell : GoodIn wsX12_comes wsX12_cell := goodIn_r _ [12] (by decide +kernel) (by decide +kernel)
set_option maxRecDepth 20000 in
theorem gX12_comes_X12_cell : GoodIn wsX12_comes (va_wsS RX12 173 yX12_cell wsX12_cell) := goodIn_app (goodIn_of _ (by decide +kernel)) ggX12_comes_X12_cell
set_option maxRecDepth 20000 in
theorem ggX12_comes_X12_after : GoodIn wsX12_comes wsX12_after := goodIn_r _ [16, 17, 1, 18, 19, 20, 11, 21, 6, 9, 10, 12, 39, 40, 41, 42, 43, 44, 45, 46, 47, 48, 49, 50, 51, 52, 53, 54, 55, 56, 57, 58, 59, 60, 61, 62, 63, 64, 65, 66, 67, 68, 69] (by decide +kernel) (by decide +kernel)
set_option maxRecDepth 20000 in
theorem gX12_comes_X12_after : GoodIn wsX12_comes (wsV RX12 184 RX12 yX12_after wsX12_after) := goodIn_app (goodIn_of _ (by decide +kernel)) ggX12_comes_X12_after
set_option maxRecDepth 20000 in
theorem ggX12_comes_X12_wears : GoodIn wsX12_comes wsX12_wears := goodIn_r _ [25, 6, 26, 27, 28, 39, 40, 41, 42, 43, 44, 45, 46, 47, 48, 49, 50, 51, 52, 53, 54, 55, 56, 57, 58, 59, 60, 61, 62, 63, 64, 65, 66, 67, 68, 69] (by decide +kernel) (by decide +kernel)
set_option maxRecDepth 20000 in
theorem gX12_comes_X12_wears : GoodIn wsX12_comes (wsV RX12 156 RX12 yX12_wears wsX12_wears) := goodIn_app (goodIn_of _ (by decide +kernel)) ggX12_comes_X12_wears
set_option maxRecDepth 20000 in
theorem ggX12_comes_X12_breaksAt : GoodIn wsX12_comes wsX12_breaksAt := goodIn_r _ [32, 33, 34, 39, 40, 41, 42, 43, 44, 45, 46, 47, 48, 49, 50, 51, 52, 53, 54, 55, 56, 57, 58, 59, 60, 61, 62, 63, 64, 65, 66, 67, 68, 69] (by decide +kernel) (by decide +kernel)
set_option maxRecDepth 20000 in
theorem gX12_comes_X12_breaksAt : GoodIn wsX12_comes (wsV RX12 166 RX12 yX12_breaksAt wsX12_breaksAt) := goodIn_app (goodIn_of _ (by decide +kernel)) ggX12_comes_X12_breaksAt
set_option maxRecDepth 20000 in
theorem ggX12_comes_X12_minutes : GoodIn wsX12_comes wsX12_minutes := goodIn_r _ [38, 6, 26, 39, 40, 41, 42, 43, 44, 45, 46, 47, 48, 49, 50, 51, 52, 53, 54, 55, 56, 57, 58, 59, 60, 61, 62, 63, 64, 65, 66, 67, 68, 69] (by decide +kernel) (by decide +kernel)
set_option maxRecDepth 20000 in
theorem gX12_comes_X12_minutes : GoodIn wsX12_comes (wsV RX12 153 RX12 yX12_minutes wsX12_minutes) := goodIn_app (goodIn_of _ (by decide +kernel)) ggX12_comes_X12_minutes
theorem dX12_comes_0 : decode cX12_comes 0 = .ok (.iload 5, 2) := by decide +kernel
theorem dX12_comes_2 : decode cX12_comes 2 = .ok (.bipush 48, 2) := by decide +kernel
theorem dX12_comes_4 : decode cX12_comes 4 = .ok (.if_icmp .ne 20, 3) := by decide +kernel
theorem dX12_comes_7 : decode cX12_comes 7 = .ok (.aload_n 0, 1) := by decide +kernel
theorem dX12_comes_8 : decode cX12_comes 8 = .ok (.getfield 56, 3) := by decide +kernel
theorem dX12_comes_11 : decode cX12_comes 11 = .ok (.iload_n 1, 1) := by decide +kernel
theorem dX12_comes_12 : decode cX12_comes 12 = .ok (.iload_n 2, 1) := by decide +kernel
theorem dX12_comes_13 : decode cX12_comes 13 = .ok (.iconst 0, 1) := by decide +kernel
theorem dX12_comes_14 : decode cX12_comes 14 = .ok (.invokestatic 173, 3) := by decide +kernel
theorem dX12_comes_17 : decode cX12_comes 17 = .ok (.laload, 1) := by decide +kernel
theorem dX12_comes_18 : decode cX12_comes 18 = .ok (.aload_n 0, 1) := by decide +kernel
theorem dX12_comes_19 : decode cX12_comes 19 = .ok (.getfield 177, 3) := by decide +kernel
theorem dX12_comes_22 : decode cX12_comes 22 = .ok (.lsub, 1) := by decide +kernel
theorem dX12_comes_23 : decode cX12_comes 23 = .ok (.lreturn, 1) := by decide +kernel
theorem dX12_comes_24 : decode cX12_comes 24 = .ok (.iload 5, 2) := by decide +kernel
theorem dX12_comes_26 : decode cX12_comes 26 = .ok (.bipush 49, 2) := by decide +kernel
theorem dX12_comes_28 : decode cX12_comes 28 = .ok (.if_icmp .ne 15, 3) := by decide +kernel
theorem dX12_comes_31 : decode cX12_comes 31 = .ok (.aload_n 0, 1) := by decide +kernel
theorem dX12_comes_32 : decode cX12_comes 32 = .ok (.getfield 181, 3) := by decide +kernel
theorem dX12_comes_35 : decode cX12_comes 35 = .ok (.aload_n 0, 1) := by decide +kernel
theorem dX12_comes_36 : decode cX12_comes 36 = .ok (.iload_n 1, 1) := by decide +kernel
theorem dX12_comes_37 : decode cX12_comes 37 = .ok (.iload_n 3, 1) := by decide +kernel
theorem dX12_comes_38 : decode cX12_comes 38 = .ok (.invokevirtual 184, 3) := by decide +kernel
theorem dX12_comes_41 : decode cX12_comes 41 = .ok (.ladd, 1) := by decide +kernel
theorem dX12_comes_42 : decode cX12_comes 42 = .ok (.lreturn, 1) := by decide +kernel
theorem dX12_comes_43 : decode cX12_comes 43 = .ok (.iload 5, 2) := by decide +kernel
theorem dX12_comes_45 : decode cX12_comes 45 = .ok (.bipush 8, 2) := by decide +kernel
theorem dX12_comes_47 : decode cX12_comes 47 = .ok (.irem, 1) := by decide +kernel
theorem dX12_comes_48 : decode cX12_comes 48 = .ok (.iconst 1, 1) := by decide +kernel
theorem dX12_comes_49 : decode cX12_comes 49 = .ok (.iadd, 1) := by decide +kernel
theorem dX12_comes_50 : decode cX12_comes 50 = .ok (.istore 6, 2) := by decide +kernel
theorem dX12_comes_52 : decode cX12_comes 52 = .ok (.iload_n 3, 1) := by decide +kernel
theorem dX12_comes_53 : decode cX12_comes 53 = .ok (.aload_n 0, 1) := by decide +kernel
theorem dX12_comes_54 : decode cX12_comes 54 = .ok (.iload_n 1, 1) := by decide +kernel
theorem dX12_comes_55 : decode cX12_comes 55 = .ok (.iload 5, 2) := by decide +kernel
theorem dX12_comes_57 : decode cX12_comes 57 = .ok (.bipush 8, 2) := by decide +kernel
theorem dX12_comes_59 : decode cX12_comes 59 = .ok (.idiv, 1) := by decide +kernel
theorem dX12_comes_60 : decode cX12_comes 60 = .ok (.iload 6, 2) := by decide +kernel
theorem dX12_comes_62 : decode cX12_comes 62 = .ok (.iload 4, 2) := by decide +kernel
theorem dX12_comes_64 : decode cX12_comes 64 = .ok (.invokevirtual 156, 3) := by decide +kernel
theorem dX12_comes_67 : decode cX12_comes 67 = .ok (.iadd, 1) := by decide +kernel
theorem dX12_comes_68 : decode cX12_comes 68 = .ok (.istore 7, 2) := by decide +kernel
theorem dX12_comes_70 : decode cX12_comes 70 = .ok (.iload 7, 2) := by decide +kernel
theorem dX12_comes_72 : decode cX12_comes 72 = .ok (.bipush 100, 2) := by decide +kernel
theorem dX12_comes_74 : decode cX12_comes 74 = .ok (.if_icmp .le 8, 3) := by decide +kernel
theorem dX12_comes_77 : decode cX12_comes 77 = .ok (.bipush 100, 2) := by decide +kernel
theorem dX12_comes_79 : decode cX12_comes 79 = .ok (.goto 8, 3) := by decide +kernel
theorem dX12_comes_82 : decode cX12_comes 82 = .ok (.aload_n 0, 1) := by decide +kernel
theorem dX12_comes_83 : decode cX12_comes 83 = .ok (.iload_n 3, 1) := by decide +kernel
theorem dX12_comes_84 : decode cX12_comes 84 = .ok (.invokevirtual 166, 3) := by decide +kernel
theorem dX12_comes_87 : decode cX12_comes 87 = .ok (.istore 8, 2) := by decide +kernel
theorem dX12_comes_89 : decode cX12_comes 89 = .ok (.lconst 0, 1) := by decide +kernel
theorem dX12_comes_90 : decode cX12_comes 90 = .ok (.lstore 9, 2) := by decide +kernel
theorem dX12_comes_92 : decode cX12_comes 92 = .ok (.iload 7, 2) := by decide +kernel
theorem dX12_comes_94 : decode cX12_comes 94 = .ok (.bipush 100, 2) := by decide +kernel
theorem dX12_comes_96 : decode cX12_comes 96 = .ok (.if_icmp .gt 29, 3) := by decide +kernel
theorem dX12_comes_99 : decode cX12_comes 99 = .ok (.iload_n 2, 1) := by decide +kernel
theorem dX12_comes_100 : decode cX12_comes 100 = .ok (.iload 6, 2) := by decide +kernel
theorem dX12_comes_102 : decode cX12_comes 102 = .ok (.if_icmp .le 23, 3) := by decide +kernel
theorem dX12_comes_105 : decode cX12_comes 105 = .ok (.aload_n 0, 1) := by decide +kernel
theorem dX12_comes_106 : decode cX12_comes 106 = .ok (.getfield 56, 3) := by decide +kernel
theorem dX12_comes_109 : decode cX12_comes 109 = .ok (.iload_n 1, 1) := by decide +kernel
theorem dX12_comes_110 : decode cX12_comes 110 = .ok (.iload_n 2, 1) := by decide +kernel
theorem dX12_comes_111 : decode cX12_comes 111 = .ok (.iload 6, 2) := by decide +kernel
theorem dX12_comes_113 : decode cX12_comes 113 = .ok (.isub, 1) := by decide +kernel
theorem dX12_comes_114 : decode cX12_comes 114 = .ok (.iload 7, 2) := by decide +kernel
theorem dX12_comes_116 : decode cX12_comes 116 = .ok (.invokestatic 173, 3) := by decide +kernel
theorem dX12_comes_119 : decode cX12_comes 119 = .ok (.laload, 1) := by decide +kernel
theorem dX12_comes_120 : decode cX12_comes 120 = .ok (.lstore 9, 2) := by decide +kernel
theorem dX12_comes_122 : decode cX12_comes 122 = .ok (.goto 76, 3) := by decide +kernel
theorem dX12_comes_125 : decode cX12_comes 125 = .ok (.iload 7, 2) := by decide +kernel
theorem dX12_comes_127 : decode cX12_comes 127 = .ok (.bipush 100, 2) := by decide +kernel
theorem dX12_comes_129 : decode cX12_comes 129 = .ok (.if_icmp .gt 69, 3) := by decide +kernel
theorem dX12_comes_132 : decode cX12_comes 132 = .ok (.aload_n 0, 1) := by decide +kernel
theorem dX12_comes_133 : decode cX12_comes 133 = .ok (.getfield 188, 3) := by decide +kernel
theorem dX12_comes_136 : decode cX12_comes 136 = .ok (.lconst 0, 1) := by decide +kernel
theorem dX12_comes_137 : decode cX12_comes 137 = .ok (.lcmp, 1) := by decide +kernel
theorem dX12_comes_138 : decode cX12_comes 138 = .ok (.ifCond .ge 21, 3) := by decide +kernel
theorem dX12_comes_141 : decode cX12_comes 141 = .ok (.ldc2_w 191, 3) := by decide +kernel
theorem dX12_comes_144 : decode cX12_comes 144 = .ok (.aload_n 0, 1) := by decide +kernel
theorem dX12_comes_145 : decode cX12_comes 145 = .ok (.getfield 26, 3) := by decide +kernel
theorem dX12_comes_148 : decode cX12_comes 148 = .ok (.iconst 4, 1) := by decide +kernel
theorem dX12_comes_149 : decode cX12_comes 149 = .ok (.iload_n 1, 1) := by decide +kernel
theorem dX12_comes_150 : decode cX12_comes 150 = .ok (.imul, 1) := by decide +kernel
theorem dX12_comes_151 : decode cX12_comes 151 = .ok (.iconst 3, 1) := by decide +kernel
theorem dX12_comes_152 : decode cX12_comes 152 = .ok (.iadd, 1) := by decide +kernel
theorem dX12_comes_153 : decode cX12_comes 153 = .ok (.iaload, 1) := by decide +kernel
theorem dX12_comes_154 : decode cX12_comes 154 = .ok (.i2l, 1) := by decide +kernel
theorem dX12_comes_155 : decode cX12_comes 155 = .ok (.lmul, 1) := by decide +kernel
theorem dX12_comes_156 : decode cX12_comes 156 = .ok (.goto 7, 3) := by decide +kernel
theorem dX12_comes_159 : decode cX12_comes 159 = .ok (.aload_n 0, 1) := by decide +kernel
theorem dX12_comes_160 : decode cX12_comes 160 = .ok (.getfield 188, 3) := by decide +kernel
theorem dX12_comes_163 : decode cX12_comes 163 = .ok (.lstore 11, 2) := by decide +kernel
theorem dX12_comes_165 : decode cX12_comes 165 = .ok (.iload_n 3, 1) := by decide +kernel
theorem dX12_comes_166 : decode cX12_comes 166 = .ok (.aload_n 0, 1) := by decide +kernel
theorem dX12_comes_167 : decode cX12_comes 167 = .ok (.getfield 26, 3) := by decide +kernel
theorem dX12_comes_170 : decode cX12_comes 170 = .ok (.iconst 4, 1) := by decide +kernel
theorem dX12_comes_171 : decode cX12_comes 171 = .ok (.iload_n 1, 1) := by decide +kernel
theorem dX12_comes_172 : decode cX12_comes 172 = .ok (.imul, 1) := by decide +kernel
theorem dX12_comes_173 : decode cX12_comes 173 = .ok (.iconst 2, 1) := by decide +kernel
theorem dX12_comes_174 : decode cX12_comes 174 = .ok (.iadd, 1) := by decide +kernel
theorem dX12_comes_175 : decode cX12_comes 175 = .ok (.iaload, 1) := by decide +kernel
theorem dX12_comes_176 : decode cX12_comes 176 = .ok (.if_icmp .le 10, 3) := by decide +kernel
theorem dX12_comes_179 : decode cX12_comes 179 = .ok (.aload_n 0, 1) := by decide +kernel
theorem dX12_comes_180 : decode cX12_comes 180 = .ok (.getfield 181, 3) := by decide +kernel
theorem dX12_comes_183 : decode cX12_comes 183 = .ok (.goto 5, 3) := by decide +kernel
theorem dX12_comes_186 : decode cX12_comes 186 = .ok (.lload 11, 2) := by decide +kernel
theorem dX12_comes_188 : decode cX12_comes 188 = .ok (.aload_n 0, 1) := by decide +kernel
theorem dX12_comes_189 : decode cX12_comes 189 = .ok (.iload_n 1, 1) := by decide +kernel
theorem dX12_comes_190 : decode cX12_comes 190 = .ok (.iload 7, 2) := by decide +kernel
theorem dX12_comes_192 : decode cX12_comes 192 = .ok (.invokevirtual 184, 3) := by decide +kernel
theorem dX12_comes_195 : decode cX12_comes 195 = .ok (.ladd, 1) := by decide +kernel
theorem dX12_comes_196 : decode cX12_comes 196 = .ok (.lstore 9, 2) := by decide +kernel
theorem dX12_comes_198 : decode cX12_comes 198 = .ok (.aload_n 0, 1) := by decide +kernel
theorem dX12_comes_199 : decode cX12_comes 199 = .ok (.getfield 181, 3) := by decide +kernel
theorem dX12_comes_202 : decode cX12_comes 202 = .ok (.aload_n 0, 1) := by decide +kernel
theorem dX12_comes_203 : decode cX12_comes 203 = .ok (.iload_n 1, 1) := by decide +kernel
theorem dX12_comes_204 : decode cX12_comes 204 = .ok (.iconst 0, 1) := by decide +kernel
theorem dX12_comes_205 : decode cX12_comes 205 = .ok (.invokevirtual 184, 3) := by decide +kernel
theorem dX12_comes_208 : decode cX12_comes 208 = .ok (.ladd, 1) := by decide +kernel
theorem dX12_comes_209 : decode cX12_comes 209 = .ok (.aload_n 0, 1) := by decide +kernel
theorem dX12_comes_210 : decode cX12_comes 210 = .ok (.getfield 177, 3) := by decide +kernel
theorem dX12_comes_213 : decode cX12_comes 213 = .ok (.lsub, 1) := by decide +kernel
theorem dX12_comes_214 : decode cX12_comes 214 = .ok (.lstore 11, 2) := by decide +kernel
theorem dX12_comes_216 : decode cX12_comes 216 = .ok (.bipush 100, 2) := by decide +kernel
theorem dX12_comes_218 : decode cX12_comes 218 = .ok (.iload 8, 2) := by decide +kernel
theorem dX12_comes_220 : decode cX12_comes 220 = .ok (.isub, 1) := by decide +kernel
theorem dX12_comes_221 : decode cX12_comes 221 = .ok (.i2l, 1) := by decide +kernel
theorem dX12_comes_222 : decode cX12_comes 222 = .ok (.lload 9, 2) := by decide +kernel
theorem dX12_comes_224 : decode cX12_comes 224 = .ok (.lmul, 1) := by decide +kernel
theorem dX12_comes_225 : decode cX12_comes 225 = .ok (.iload 8, 2) := by decide +kernel
theorem dX12_comes_227 : decode cX12_comes 227 = .ok (.i2l, 1) := by decide +kernel
theorem dX12_comes_228 : decode cX12_comes 228 = .ok (.lload 11, 2) := by decide +kernel
theorem dX12_comes_230 : decode cX12_comes 230 = .ok (.lmul, 1) := by decide +kernel
theorem dX12_comes_231 : decode cX12_comes 231 = .ok (.ladd, 1) := by decide +kernel
theorem dX12_comes_232 : decode cX12_comes 232 = .ok (.ldc2_w 164, 3) := by decide +kernel
theorem dX12_comes_235 : decode cX12_comes 235 = .ok (.ldiv, 1) := by decide +kernel
theorem dX12_comes_236 : decode cX12_comes 236 = .ok (.aload_n 0, 1) := by decide +kernel
theorem dX12_comes_237 : decode cX12_comes 237 = .ok (.getfield 193, 3) := by decide +kernel
theorem dX12_comes_240 : decode cX12_comes 240 = .ok (.aload_n 0, 1) := by decide +kernel
theorem dX12_comes_241 : decode cX12_comes 241 = .ok (.iload_n 1, 1) := by decide +kernel
theorem dX12_comes_242 : decode cX12_comes 242 = .ok (.iload 5, 2) := by decide +kernel
theorem dX12_comes_244 : decode cX12_comes 244 = .ok (.bipush 8, 2) := by decide +kernel
theorem dX12_comes_246 : decode cX12_comes 246 = .ok (.idiv, 1) := by decide +kernel
theorem dX12_comes_247 : decode cX12_comes 247 = .ok (.invokevirtual 153, 3) := by decide +kernel
theorem dX12_comes_250 : decode cX12_comes 250 = .ok (.i2l, 1) := by decide +kernel
theorem dX12_comes_251 : decode cX12_comes 251 = .ok (.lmul, 1) := by decide +kernel
theorem dX12_comes_252 : decode cX12_comes 252 = .ok (.lsub, 1) := by decide +kernel
theorem dX12_comes_253 : decode cX12_comes 253 = .ok (.lreturn, 1) := by decide +kernel
theorem dX12_counts_0 : decode cX12_counts 0 = .ok (.aload_n 0, 1) := by decide +kernel
theorem dX12_counts_1 : decode cX12_counts 1 = .ok (.iload_n 1, 1) := by decide +kernel
theorem dX12_counts_2 : decode cX12_counts 2 = .ok (.ifCond .ne 13, 3) := by decide +kernel
theorem dX12_counts_5 : decode cX12_counts 5 = .ok (.aload_n 0, 1) := by decide +kernel
theorem dX12_counts_6 : decode cX12_counts 6 = .ok (.getfield 41, 3) := by decide +kernel
theorem dX12_counts_9 : decode cX12_counts 9 = .ok (.iconst 2, 1) := by decide +kernel
theorem dX12_counts_10 : decode cX12_counts 10 = .ok (.iaload, 1) := by decide +kernel
theorem dX12_counts_11 : decode cX12_counts 11 = .ok (.i2l, 1) := by decide +kernel
theorem dX12_counts_12 : decode cX12_counts 12 = .ok (.goto 13, 3) := by decide +kernel
theorem dX12_counts_15 : decode cX12_counts 15 = .ok (.iload_n 1, 1) := by decide +kernel
theorem dX12_counts_16 : decode cX12_counts 16 = .ok (.iconst 2, 1) := by decide +kernel
theorem dX12_counts_17 : decode cX12_counts 17 = .ok (.if_icmp .ne 7, 3) := by decide +kernel
theorem dX12_counts_20 : decode cX12_counts 20 = .ok (.lconst 0, 1) := by decide +kernel
theorem dX12_counts_21 : decode cX12_counts 21 = .ok (.goto 4, 3) := by decide +kernel
theorem dX12_counts_24 : decode cX12_counts 24 = .ok (.lconst 1, 1) := by decide +kernel
theorem dX12_counts_25 : decode cX12_counts 25 = .ok (.putfield 193, 3) := by decide +kernel
theorem dX12_counts_28 : decode cX12_counts 28 = .ok (.aload_n 0, 1) := by decide +kernel
theorem dX12_counts_29 : decode cX12_counts 29 = .ok (.iload_n 1, 1) := by decide +kernel
theorem dX12_counts_30 : decode cX12_counts 30 = .ok (.ifCond .ne 37, 3) := by decide +kernel
theorem dX12_counts_33 : decode cX12_counts 33 = .ok (.ldc2_w 164, 3) := by decide +kernel
theorem dX12_counts_36 : decode cX12_counts 36 = .ok (.aload_n 0, 1) := by decide +kernel
theorem dX12_counts_37 : decode cX12_counts 37 = .ok (.getfield 41, 3) := by decide +kernel
theorem dX12_counts_40 : decode cX12_counts 40 = .ok (.iconst 0, 1) := by decide +kernel
theorem dX12_counts_41 : decode cX12_counts 41 = .ok (.iaload, 1) := by decide +kernel
theorem dX12_counts_42 : decode cX12_counts 42 = .ok (.i2l, 1) := by decide +kernel
theorem dX12_counts_43 : decode cX12_counts 43 = .ok (.lmul, 1) := by decide +kernel
theorem dX12_counts_44 : decode cX12_counts 44 = .ok (.aload_n 0, 1) := by decide +kernel
theorem dX12_counts_45 : decode cX12_counts 45 = .ok (.getfield 41, 3) := by decide +kernel
theorem dX12_counts_48 : decode cX12_counts 48 = .ok (.iconst 2, 1) := by decide +kernel
theorem dX12_counts_49 : decode cX12_counts 49 = .ok (.iaload, 1) := by decide +kernel
theorem dX12_counts_50 : decode cX12_counts 50 = .ok (.i2l, 1) := by decide +kernel
theorem dX12_counts_51 : decode cX12_counts 51 = .ok (.lmul, 1) := by decide +kernel
theorem dX12_counts_52 : decode cX12_counts 52 = .ok (.ldc2_w 191, 3) := by decide +kernel
theorem dX12_counts_55 : decode cX12_counts 55 = .ok (.aload_n 0, 1) := by decide +kernel
theorem dX12_counts_56 : decode cX12_counts 56 = .ok (.getfield 41, 3) := by decide +kernel
theorem dX12_counts_59 : decode cX12_counts 59 = .ok (.iconst 1, 1) := by decide +kernel
theorem dX12_counts_60 : decode cX12_counts 60 = .ok (.iaload, 1) := by decide +kernel
theorem dX12_counts_61 : decode cX12_counts 61 = .ok (.i2l, 1) := by decide +kernel
theorem dX12_counts_62 : decode cX12_counts 62 = .ok (.lmul, 1) := by decide +kernel
theorem dX12_counts_63 : decode cX12_counts 63 = .ok (.ladd, 1) := by decide +kernel
theorem dX12_counts_64 : decode cX12_counts 64 = .ok (.goto 23, 3) := by decide +kernel
theorem dX12_counts_67 : decode cX12_counts 67 = .ok (.iload_n 1, 1) := by decide +kernel
theorem dX12_counts_68 : decode cX12_counts 68 = .ok (.iconst 2, 1) := by decide +kernel
theorem dX12_counts_69 : decode cX12_counts 69 = .ok (.if_icmp .ne 7, 3) := by decide +kernel
theorem dX12_counts_72 : decode cX12_counts 72 = .ok (.lconst 0, 1) := by decide +kernel
theorem dX12_counts_73 : decode cX12_counts 73 = .ok (.goto 14, 3) := by decide +kernel
theorem dX12_counts_76 : decode cX12_counts 76 = .ok (.ldc2_w 164, 3) := by decide +kernel
theorem dX12_counts_79 : decode cX12_counts 79 = .ok (.aload_n 0, 1) := by decide +kernel
theorem dX12_counts_80 : decode cX12_counts 80 = .ok (.getfield 41, 3) := by decide +kernel
theorem dX12_counts_83 : decode cX12_counts 83 = .ok (.iconst 0, 1) := by decide +kernel
theorem dX12_counts_84 : decode cX12_counts 84 = .ok (.iaload, 1) := by decide +kernel
theorem dX12_counts_85 : decode cX12_counts 85 = .ok (.i2l, 1) := by decide +kernel
theorem dX12_counts_86 : decode cX12_counts 86 = .ok (.lmul, 1) := by decide +kernel
theorem dX12_counts_87 : decode cX12_counts 87 = .ok (.putfield 177, 3) := by decide +kernel
theorem dX12_counts_90 : decode cX12_counts 90 = .ok (.aload_n 0, 1) := by decide +kernel
theorem dX12_counts_91 : decode cX12_counts 91 = .ok (.iload_n 1, 1) := by decide +kernel
theorem dX12_counts_92 : decode cX12_counts 92 = .ok (.ifCond .ne 9, 3) := by decide +kernel
theorem dX12_counts_95 : decode cX12_counts 95 = .ok (.ldc2_w 196, 3) := by decide +kernel
theorem dX12_counts_98 : decode cX12_counts 98 = .ok (.goto 15, 3) := by decide +kernel
theorem dX12_counts_101 : decode cX12_counts 101 = .ok (.iload_n 1, 1) := by decide +kernel
theorem dX12_counts_102 : decode cX12_counts 102 = .ok (.iconst 1, 1) := by decide +kernel
theorem dX12_counts_103 : decode cX12_counts 103 = .ok (.if_icmp .ne 9, 3) := by decide +kernel
theorem dX12_counts_106 : decode cX12_counts 106 = .ok (.ldc2_w 198, 3) := by decide +kernel
theorem dX12_counts_109 : decode cX12_counts 109 = .ok (.goto 4, 3) := by decide +kernel
theorem dX12_counts_112 : decode cX12_counts 112 = .ok (.lconst 0, 1) := by decide +kernel
theorem dX12_counts_113 : decode cX12_counts 113 = .ok (.putfield 188, 3) := by decide +kernel
theorem dX12_counts_116 : decode cX12_counts 116 = .ok (.aload_n 0, 1) := by decide +kernel
theorem dX12_counts_117 : decode cX12_counts 117 = .ok (.iload_n 1, 1) := by decide +kernel
theorem dX12_counts_118 : decode cX12_counts 118 = .ok (.iconst 2, 1) := by decide +kernel
theorem dX12_counts_119 : decode cX12_counts 119 = .ok (.if_icmp .ne 9, 3) := by decide +kernel
theorem dX12_counts_122 : decode cX12_counts 122 = .ok (.ldc2_w 200, 3) := by decide +kernel
theorem dX12_counts_125 : decode cX12_counts 125 = .ok (.goto 4, 3) := by decide +kernel
theorem dX12_counts_128 : decode cX12_counts 128 = .ok (.lconst 0, 1) := by decide +kernel
theorem dX12_counts_129 : decode cX12_counts 129 = .ok (.putfield 181, 3) := by decide +kernel
theorem dX12_counts_132 : decode cX12_counts 132 = .ok (.return_, 1) := by decide +kernel
set_option maxRecDepth 20000 in
theorem ggX12_solves_X12_steps : GoodIn wsX12_solves wsX12_steps := goodIn_r _ [8, 9, 61, 62, 63, 64, 65, 66, 67, 68, 69, 70, 71, 72, 73, 74, 75, 76, 77, 78, 79, 80, 81, 82, 83, 84, 85, 86, 87, 88, 89, 90, 91] (by decide +kernel) (by decide +kernel)
set_option maxRecDepth 20000 in
theorem gX12_solves_X12_steps : GoodIn wsX12_solves (wsV RX12 170 RX12 yX12_steps wsX12_steps) := goodIn_app (goodIn_of _ (by decide +kernel)) ggX12_solves_X12_steps
set_option maxRecDepth 20000 in
theorem ggX12_solves_X12_cell : GoodIn wsX12_solves wsX12_cell := goodIn_r _ [12] (by decide +kernel) (by decide +kernel)
set_option maxRecDepth 20000 in
theorem gX12_solves_X12_cell : GoodIn wsX12_solves (va_wsS RX12 173 yX12_cell wsX12_cell) := goodIn_app (goodIn_of _ (by decide +kernel)) ggX12_solves_X12_cell
set_option maxRecDepth 20000 in
theorem ggX12_solves_X12_can : GoodIn wsX12_solves wsX12_can := goodIn_r _ [16, 17, 18, 19, 7, 20, 21, 22, 23, 24, 25, 26, 27, 28, 29, 30, 61, 62, 63, 64, 65, 66, 67, 68, 69, 70, 71, 72, 73, 74, 75, 76, 77, 78, 79, 80, 81, 82, 83, 84, 85, 86, 87, 88, 89, 90, 91] (by decide +kernel) (by decide +kernel)
set_option maxRecDepth 20000 in
theorem gX12_solves_X12_can : GoodIn wsX12_solves (wsV RX12 202 RX12 yX12_can wsX12_can) := goodIn_app (goodIn_of _ (by decide +kernel)) ggX12_solves_X12_can
set_option maxRecDepth 20000 in
theorem ggX12_solves_X12_comes : GoodIn wsX12_solves wsX12_comes := goodIn_r _ [34, 3, 35, 36, 37, 38, 9, 39, 40, 10, 11, 7, 12, 41, 42, 43, 44, 1, 4, 5, 6, 8, 45, 46, 47, 48, 30, 49, 50, 51, 52, 53, 54, 55, 56, 57, 58, 59, 60, 61, 62, 63, 64, 65, 66, 67, 68, 69, 70, 71, 72, 73, 74, 75, 76, 77, 78, 79, 80, 81, 82, 83, 84, 85, 86, 87, 88, 89, 90, 91] (by decide +kernel) (by decide +kernel)
set_option maxRecDepth 20000 in
theorem gX12_solves_X12_comes : GoodIn wsX12_solves (wsV RX12 206 RX12 yX12_comes wsX12_comes) := goodIn_app (goodIn_of _ (by decide +kernel)) ggX12_solves_X12_comes
theorem dX12_solves_0 : decode cX12_solves 0 = .ok (.aload_n 0, 1) := by decide +kernel
theorem dX12_solves_1 : decode cX12_solves 1 = .ok (.getfield 23, 3) := by decide +kernel
theorem dX12_solves_4 : decode cX12_solves 4 = .ok (.iconst 0, 1) := by decide +kernel
theorem dX12_solves_5 : decode cX12_solves 5 = .ok (.iaload, 1) := by decide +kernel
theorem dX12_solves_6 : decode cX12_solves 6 = .ok (.iconst 1, 1) := by decide +kernel
theorem dX12_solves_7 : decode cX12_solves 7 = .ok (.isub, 1) := by decide +kernel
theorem dX12_solves_8 : decode cX12_solves 8 = .ok (.istore_n 2, 1) := by decide +kernel
theorem dX12_solves_9 : decode cX12_solves 9 = .ok (.iload_n 2, 1) := by decide +kernel
theorem dX12_solves_10 : decode cX12_solves 10 = .ok (.ifCond .lt 144, 3) := by decide +kernel
theorem dX12_solves_13 : decode cX12_solves 13 = .ok (.iconst 1, 1) := by decide +kernel
theorem dX12_solves_14 : decode cX12_solves 14 = .ok (.istore_n 3, 1) := by decide +kernel
theorem dX12_solves_15 : decode cX12_solves 15 = .ok (.iload_n 3, 1) := by decide +kernel
theorem dX12_solves_16 : decode cX12_solves 16 = .ok (.aload_n 0, 1) := by decide +kernel
theorem dX12_solves_17 : decode cX12_solves 17 = .ok (.iload_n 2, 1) := by decide +kernel
theorem dX12_solves_18 : decode cX12_solves 18 = .ok (.invokevirtual 170, 3) := by decide +kernel
theorem dX12_solves_21 : decode cX12_solves 21 = .ok (.if_icmp .gt 127, 3) := by decide +kernel
theorem dX12_solves_24 : decode cX12_solves 24 = .ok (.iconst 0, 1) := by decide +kernel
theorem dX12_solves_25 : decode cX12_solves 25 = .ok (.istore 4, 2) := by decide +kernel
theorem dX12_solves_27 : decode cX12_solves 27 = .ok (.iload 4, 2) := by decide +kernel
theorem dX12_solves_29 : decode cX12_solves 29 = .ok (.bipush 100, 2) := by decide +kernel
theorem dX12_solves_31 : decode cX12_solves 31 = .ok (.if_icmp .gt 111, 3) := by decide +kernel
theorem dX12_solves_34 : decode cX12_solves 34 = .ok (.iload_n 2, 1) := by decide +kernel
theorem dX12_solves_35 : decode cX12_solves 35 = .ok (.iload_n 3, 1) := by decide +kernel
theorem dX12_solves_36 : decode cX12_solves 36 = .ok (.iload 4, 2) := by decide +kernel
theorem dX12_solves_38 : decode cX12_solves 38 = .ok (.invokestatic 173, 3) := by decide +kernel
theorem dX12_solves_41 : decode cX12_solves 41 = .ok (.istore 5, 2) := by decide +kernel
theorem dX12_solves_43 : decode cX12_solves 43 = .ok (.aload_n 0, 1) := by decide +kernel
theorem dX12_solves_44 : decode cX12_solves 44 = .ok (.getfield 53, 3) := by decide +kernel
theorem dX12_solves_47 : decode cX12_solves 47 = .ok (.iload 5, 2) := by decide +kernel
theorem dX12_solves_49 : decode cX12_solves 49 = .ok (.iconst (-1), 1) := by decide +kernel
theorem dX12_solves_50 : decode cX12_solves 50 = .ok (.iastore, 1) := by decide +kernel
theorem dX12_solves_51 : decode cX12_solves 51 = .ok (.lconst 0, 1) := by decide +kernel
theorem dX12_solves_52 : decode cX12_solves 52 = .ok (.lstore 6, 2) := by decide +kernel
theorem dX12_solves_54 : decode cX12_solves 54 = .ok (.iconst 0, 1) := by decide +kernel
theorem dX12_solves_55 : decode cX12_solves 55 = .ok (.istore 8, 2) := by decide +kernel
theorem dX12_solves_57 : decode cX12_solves 57 = .ok (.iload 8, 2) := by decide +kernel
theorem dX12_solves_59 : decode cX12_solves 59 = .ok (.bipush 50, 2) := by decide +kernel
theorem dX12_solves_61 : decode cX12_solves 61 = .ok (.if_icmp .ge 66, 3) := by decide +kernel
theorem dX12_solves_64 : decode cX12_solves 64 = .ok (.aload_n 0, 1) := by decide +kernel
theorem dX12_solves_65 : decode cX12_solves 65 = .ok (.iload_n 2, 1) := by decide +kernel
theorem dX12_solves_66 : decode cX12_solves 66 = .ok (.iload_n 3, 1) := by decide +kernel
theorem dX12_solves_67 : decode cX12_solves 67 = .ok (.iload 4, 2) := by decide +kernel
theorem dX12_solves_69 : decode cX12_solves 69 = .ok (.iload 8, 2) := by decide +kernel
theorem dX12_solves_71 : decode cX12_solves 71 = .ok (.invokevirtual 202, 3) := by decide +kernel
theorem dX12_solves_74 : decode cX12_solves 74 = .ok (.ifCond .eq 47, 3) := by decide +kernel
theorem dX12_solves_77 : decode cX12_solves 77 = .ok (.aload_n 0, 1) := by decide +kernel
theorem dX12_solves_78 : decode cX12_solves 78 = .ok (.iload_n 2, 1) := by decide +kernel
theorem dX12_solves_79 : decode cX12_solves 79 = .ok (.iload_n 3, 1) := by decide +kernel
theorem dX12_solves_80 : decode cX12_solves 80 = .ok (.iload 4, 2) := by decide +kernel
theorem dX12_solves_82 : decode cX12_solves 82 = .ok (.iload_n 1, 1) := by decide +kernel
theorem dX12_solves_83 : decode cX12_solves 83 = .ok (.iload 8, 2) := by decide +kernel
theorem dX12_solves_85 : decode cX12_solves 85 = .ok (.invokevirtual 206, 3) := by decide +kernel
theorem dX12_solves_88 : decode cX12_solves 88 = .ok (.lstore 9, 2) := by decide +kernel
theorem dX12_solves_90 : decode cX12_solves 90 = .ok (.aload_n 0, 1) := by decide +kernel
theorem dX12_solves_91 : decode cX12_solves 91 = .ok (.getfield 53, 3) := by decide +kernel
theorem dX12_solves_94 : decode cX12_solves 94 = .ok (.iload 5, 2) := by decide +kernel
theorem dX12_solves_96 : decode cX12_solves 96 = .ok (.iaload, 1) := by decide +kernel
theorem dX12_solves_97 : decode cX12_solves 97 = .ok (.ifCond .lt 11, 3) := by decide +kernel
theorem dX12_solves_100 : decode cX12_solves 100 = .ok (.lload 9, 2) := by decide +kernel
theorem dX12_solves_102 : decode cX12_solves 102 = .ok (.lload 6, 2) := by decide +kernel
theorem dX12_solves_104 : decode cX12_solves 104 = .ok (.lcmp, 1) := by decide +kernel
theorem dX12_solves_105 : decode cX12_solves 105 = .ok (.ifCond .le 16, 3) := by decide +kernel
theorem dX12_solves_108 : decode cX12_solves 108 = .ok (.aload_n 0, 1) := by decide +kernel
theorem dX12_solves_109 : decode cX12_solves 109 = .ok (.getfield 53, 3) := by decide +kernel
theorem dX12_solves_112 : decode cX12_solves 112 = .ok (.iload 5, 2) := by decide +kernel
theorem dX12_solves_114 : decode cX12_solves 114 = .ok (.iload 8, 2) := by decide +kernel
theorem dX12_solves_116 : decode cX12_solves 116 = .ok (.iastore, 1) := by decide +kernel
theorem dX12_solves_117 : decode cX12_solves 117 = .ok (.lload 9, 2) := by decide +kernel
theorem dX12_solves_119 : decode cX12_solves 119 = .ok (.lstore 6, 2) := by decide +kernel
theorem dX12_solves_121 : decode cX12_solves 121 = .ok (.iinc 8 1, 3) := by decide +kernel
theorem dX12_solves_124 : decode cX12_solves 124 = .ok (.goto (-67), 3) := by decide +kernel
theorem dX12_solves_127 : decode cX12_solves 127 = .ok (.aload_n 0, 1) := by decide +kernel
theorem dX12_solves_128 : decode cX12_solves 128 = .ok (.getfield 56, 3) := by decide +kernel
theorem dX12_solves_131 : decode cX12_solves 131 = .ok (.iload 5, 2) := by decide +kernel
theorem dX12_solves_133 : decode cX12_solves 133 = .ok (.lload 6, 2) := by decide +kernel
theorem dX12_solves_135 : decode cX12_solves 135 = .ok (.lastore, 1) := by decide +kernel
theorem dX12_solves_136 : decode cX12_solves 136 = .ok (.iinc 4 1, 3) := by decide +kernel
theorem dX12_solves_139 : decode cX12_solves 139 = .ok (.goto (-112), 3) := by decide +kernel
theorem dX12_solves_142 : decode cX12_solves 142 = .ok (.iinc 3 1, 3) := by decide +kernel
theorem dX12_solves_145 : decode cX12_solves 145 = .ok (.goto (-130), 3) := by decide +kernel
theorem dX12_solves_148 : decode cX12_solves 148 = .ok (.iinc 2 (-1), 3) := by decide +kernel
theorem dX12_solves_151 : decode cX12_solves 151 = .ok (.goto (-142), 3) := by decide +kernel
theorem dX12_solves_154 : decode cX12_solves 154 = .ok (.return_, 1) := by decide +kernel
set_option maxRecDepth 20000 in
theorem ggX12_follows_X12_steps : GoodIn wsX12_follows wsX12_steps := goodIn_r _ [8, 9, 44, 45, 46, 47, 48, 49, 50, 51, 52, 53, 54, 55, 56, 57, 58, 59, 60, 61, 62, 63, 64, 65, 66, 67, 68, 69, 70, 71, 72, 73, 74] (by decide +kernel) (by decide +kernel)
set_option maxRecDepth 20000 in
theorem gX12_follows_X12_steps : GoodIn wsX12_follows (wsV RX12 170 RX12 yX12_steps wsX12_steps) := goodIn_app (goodIn_of _ (by decide +kernel)) ggX12_follows_X12_steps
set_option maxRecDepth 20000 in
theorem ggX12_follows_X12_cell : GoodIn wsX12_follows wsX12_cell := goodIn_r _ [12] (by decide +kernel) (by decide +kernel)
set_option maxRecDepth 20000 in
theorem gX12_follows_X12_cell : GoodIn wsX12_follows (va_wsS RX12 173 yX12_cell wsX12_cell) := goodIn_app (goodIn_of _ (by decide +kernel)) ggX12_follows_X12_cell
set_option maxRecDepth 20000 in
theorem ggX12_follows_X12_comes : GoodIn wsX12_follows wsX12_comes := goodIn_r _ [16, 2, 17, 18, 19, 20, 9, 21, 22, 10, 11, 7, 12, 23, 24, 25, 26, 1, 4, 5, 6, 8, 27, 28, 29, 30, 31, 32, 33, 34, 35, 36, 37, 38, 39, 40, 41, 42, 43, 44, 45, 46, 47, 48, 49, 50, 51, 52, 53, 54, 55, 56, 57, 58, 59, 60, 61, 62, 63, 64, 65, 66, 67, 68, 69, 70, 71, 72, 73, 74] (by decide +kernel) (by decide +kernel)
set_option maxRecDepth 20000 in
theorem gX12_follows_X12_comes : GoodIn wsX12_follows (wsV RX12 206 RX12 yX12_comes wsX12_comes) := goodIn_app (goodIn_of _ (by decide +kernel)) ggX12_follows_X12_comes
theorem dX12_follows_0 : decode cX12_follows 0 = .ok (.aload_n 0, 1) := by decide +kernel
theorem dX12_follows_1 : decode cX12_follows 1 = .ok (.getfield 23, 3) := by decide +kernel
theorem dX12_follows_4 : decode cX12_follows 4 = .ok (.iconst 0, 1) := by decide +kernel
theorem dX12_follows_5 : decode cX12_follows 5 = .ok (.iaload, 1) := by decide +kernel
theorem dX12_follows_6 : decode cX12_follows 6 = .ok (.iconst 1, 1) := by decide +kernel
theorem dX12_follows_7 : decode cX12_follows 7 = .ok (.isub, 1) := by decide +kernel
theorem dX12_follows_8 : decode cX12_follows 8 = .ok (.istore_n 2, 1) := by decide +kernel
theorem dX12_follows_9 : decode cX12_follows 9 = .ok (.iload_n 2, 1) := by decide +kernel
theorem dX12_follows_10 : decode cX12_follows 10 = .ok (.ifCond .lt 75, 3) := by decide +kernel
theorem dX12_follows_13 : decode cX12_follows 13 = .ok (.iconst 1, 1) := by decide +kernel
theorem dX12_follows_14 : decode cX12_follows 14 = .ok (.istore_n 3, 1) := by decide +kernel
theorem dX12_follows_15 : decode cX12_follows 15 = .ok (.iload_n 3, 1) := by decide +kernel
theorem dX12_follows_16 : decode cX12_follows 16 = .ok (.aload_n 0, 1) := by decide +kernel
theorem dX12_follows_17 : decode cX12_follows 17 = .ok (.iload_n 2, 1) := by decide +kernel
theorem dX12_follows_18 : decode cX12_follows 18 = .ok (.invokevirtual 170, 3) := by decide +kernel
theorem dX12_follows_21 : decode cX12_follows 21 = .ok (.if_icmp .gt 58, 3) := by decide +kernel
theorem dX12_follows_24 : decode cX12_follows 24 = .ok (.iconst 0, 1) := by decide +kernel
theorem dX12_follows_25 : decode cX12_follows 25 = .ok (.istore 4, 2) := by decide +kernel
theorem dX12_follows_27 : decode cX12_follows 27 = .ok (.iload 4, 2) := by decide +kernel
theorem dX12_follows_29 : decode cX12_follows 29 = .ok (.bipush 100, 2) := by decide +kernel
theorem dX12_follows_31 : decode cX12_follows 31 = .ok (.if_icmp .gt 42, 3) := by decide +kernel
theorem dX12_follows_34 : decode cX12_follows 34 = .ok (.aload_n 0, 1) := by decide +kernel
theorem dX12_follows_35 : decode cX12_follows 35 = .ok (.getfield 56, 3) := by decide +kernel
theorem dX12_follows_38 : decode cX12_follows 38 = .ok (.iload_n 2, 1) := by decide +kernel
theorem dX12_follows_39 : decode cX12_follows 39 = .ok (.iload_n 3, 1) := by decide +kernel
theorem dX12_follows_40 : decode cX12_follows 40 = .ok (.iload 4, 2) := by decide +kernel
theorem dX12_follows_42 : decode cX12_follows 42 = .ok (.invokestatic 173, 3) := by decide +kernel
theorem dX12_follows_45 : decode cX12_follows 45 = .ok (.aload_n 0, 1) := by decide +kernel
theorem dX12_follows_46 : decode cX12_follows 46 = .ok (.iload_n 2, 1) := by decide +kernel
theorem dX12_follows_47 : decode cX12_follows 47 = .ok (.iload_n 3, 1) := by decide +kernel
theorem dX12_follows_48 : decode cX12_follows 48 = .ok (.iload 4, 2) := by decide +kernel
theorem dX12_follows_50 : decode cX12_follows 50 = .ok (.iload_n 1, 1) := by decide +kernel
theorem dX12_follows_51 : decode cX12_follows 51 = .ok (.aload_n 0, 1) := by decide +kernel
theorem dX12_follows_52 : decode cX12_follows 52 = .ok (.getfield 53, 3) := by decide +kernel
theorem dX12_follows_55 : decode cX12_follows 55 = .ok (.iload_n 2, 1) := by decide +kernel
theorem dX12_follows_56 : decode cX12_follows 56 = .ok (.iload_n 3, 1) := by decide +kernel
theorem dX12_follows_57 : decode cX12_follows 57 = .ok (.iload 4, 2) := by decide +kernel
theorem dX12_follows_59 : decode cX12_follows 59 = .ok (.invokestatic 173, 3) := by decide +kernel
theorem dX12_follows_62 : decode cX12_follows 62 = .ok (.iaload, 1) := by decide +kernel
theorem dX12_follows_63 : decode cX12_follows 63 = .ok (.invokevirtual 206, 3) := by decide +kernel
theorem dX12_follows_66 : decode cX12_follows 66 = .ok (.lastore, 1) := by decide +kernel
theorem dX12_follows_67 : decode cX12_follows 67 = .ok (.iinc 4 1, 3) := by decide +kernel
theorem dX12_follows_70 : decode cX12_follows 70 = .ok (.goto (-43), 3) := by decide +kernel
theorem dX12_follows_73 : decode cX12_follows 73 = .ok (.iinc 3 1, 3) := by decide +kernel
theorem dX12_follows_76 : decode cX12_follows 76 = .ok (.goto (-61), 3) := by decide +kernel
theorem dX12_follows_79 : decode cX12_follows 79 = .ok (.iinc 2 (-1), 3) := by decide +kernel
theorem dX12_follows_82 : decode cX12_follows 82 = .ok (.goto (-73), 3) := by decide +kernel
theorem dX12_follows_85 : decode cX12_follows 85 = .ok (.return_, 1) := by decide +kernel
set_option maxRecDepth 20000 in
theorem ggX12_deepest_X12_may : GoodIn wsX12_deepest wsX12_may := goodIn_r _ [5, 6, 7, 8, 9, 10, 11, 12, 13, 14, 15, 16, 17, 18, 19, 20, 21, 22, 23, 24, 25, 26, 27, 28, 29, 30, 31, 32, 33, 34, 35, 36, 37, 38] (by decide +kernel) (by decide +kernel)
set_option maxRecDepth 20000 in
theorem gX12_deepest_X12_may : GoodIn wsX12_deepest (wsV RX12 160 RX12 yX12_may wsX12_may) := goodIn_app (goodIn_of _ (by decide +kernel)) ggX12_deepest_X12_may
theorem dX12_deepest_0 : decode cX12_deepest 0 = .ok (.iconst 0, 1) := by decide +kernel
theorem dX12_deepest_1 : decode cX12_deepest 1 = .ok (.istore_n 3, 1) := by decide +kernel
theorem dX12_deepest_2 : decode cX12_deepest 2 = .ok (.iconst 1, 1) := by decide +kernel
theorem dX12_deepest_3 : decode cX12_deepest 3 = .ok (.istore 4, 2) := by decide +kernel
theorem dX12_deepest_5 : decode cX12_deepest 5 = .ok (.iload 4, 2) := by decide +kernel
theorem dX12_deepest_7 : decode cX12_deepest 7 = .ok (.iload_n 2, 1) := by decide +kernel
theorem dX12_deepest_8 : decode cX12_deepest 8 = .ok (.if_icmp .gt 26, 3) := by decide +kernel
theorem dX12_deepest_11 : decode cX12_deepest 11 = .ok (.aload_n 0, 1) := by decide +kernel
theorem dX12_deepest_12 : decode cX12_deepest 12 = .ok (.iload_n 1, 1) := by decide +kernel
theorem dX12_deepest_13 : decode cX12_deepest 13 = .ok (.iload 4, 2) := by decide +kernel
theorem dX12_deepest_15 : decode cX12_deepest 15 = .ok (.invokevirtual 160, 3) := by decide +kernel
theorem dX12_deepest_18 : decode cX12_deepest 18 = .ok (.ifCond .eq 8, 3) := by decide +kernel
theorem dX12_deepest_21 : decode cX12_deepest 21 = .ok (.iload 4, 2) := by decide +kernel
theorem dX12_deepest_23 : decode cX12_deepest 23 = .ok (.goto 4, 3) := by decide +kernel
theorem dX12_deepest_26 : decode cX12_deepest 26 = .ok (.iload_n 3, 1) := by decide +kernel
theorem dX12_deepest_27 : decode cX12_deepest 27 = .ok (.istore_n 3, 1) := by decide +kernel
theorem dX12_deepest_28 : decode cX12_deepest 28 = .ok (.iinc 4 1, 3) := by decide +kernel
theorem dX12_deepest_31 : decode cX12_deepest 31 = .ok (.goto (-26), 3) := by decide +kernel
theorem dX12_deepest_34 : decode cX12_deepest 34 = .ok (.iload_n 3, 1) := by decide +kernel
theorem dX12_deepest_35 : decode cX12_deepest 35 = .ok (.ireturn, 1) := by decide +kernel
theorem dX12_leastWear_0 : decode cX12_leastWear 0 = .ok (.iconst 0, 1) := by decide +kernel
theorem dX12_leastWear_1 : decode cX12_leastWear 1 = .ok (.istore_n 1, 1) := by decide +kernel
theorem dX12_leastWear_2 : decode cX12_leastWear 2 = .ok (.iconst 1, 1) := by decide +kernel
theorem dX12_leastWear_3 : decode cX12_leastWear 3 = .ok (.istore_n 2, 1) := by decide +kernel
theorem dX12_leastWear_4 : decode cX12_leastWear 4 = .ok (.iload_n 2, 1) := by decide +kernel
theorem dX12_leastWear_5 : decode cX12_leastWear 5 = .ok (.aload_n 0, 1) := by decide +kernel
theorem dX12_leastWear_6 : decode cX12_leastWear 6 = .ok (.getfield 17, 3) := by decide +kernel
theorem dX12_leastWear_9 : decode cX12_leastWear 9 = .ok (.iconst 0, 1) := by decide +kernel
theorem dX12_leastWear_10 : decode cX12_leastWear 10 = .ok (.iaload, 1) := by decide +kernel
theorem dX12_leastWear_11 : decode cX12_leastWear 11 = .ok (.if_icmp .ge 38, 3) := by decide +kernel
theorem dX12_leastWear_14 : decode cX12_leastWear 14 = .ok (.aload_n 0, 1) := by decide +kernel
theorem dX12_leastWear_15 : decode cX12_leastWear 15 = .ok (.getfield 20, 3) := by decide +kernel
theorem dX12_leastWear_18 : decode cX12_leastWear 18 = .ok (.iconst 2, 1) := by decide +kernel
theorem dX12_leastWear_19 : decode cX12_leastWear 19 = .ok (.iload_n 2, 1) := by decide +kernel
theorem dX12_leastWear_20 : decode cX12_leastWear 20 = .ok (.imul, 1) := by decide +kernel
theorem dX12_leastWear_21 : decode cX12_leastWear 21 = .ok (.iconst 1, 1) := by decide +kernel
theorem dX12_leastWear_22 : decode cX12_leastWear 22 = .ok (.iadd, 1) := by decide +kernel
theorem dX12_leastWear_23 : decode cX12_leastWear 23 = .ok (.iaload, 1) := by decide +kernel
theorem dX12_leastWear_24 : decode cX12_leastWear 24 = .ok (.aload_n 0, 1) := by decide +kernel
theorem dX12_leastWear_25 : decode cX12_leastWear 25 = .ok (.getfield 20, 3) := by decide +kernel
theorem dX12_leastWear_28 : decode cX12_leastWear 28 = .ok (.iconst 2, 1) := by decide +kernel
theorem dX12_leastWear_29 : decode cX12_leastWear 29 = .ok (.iload_n 1, 1) := by decide +kernel
theorem dX12_leastWear_30 : decode cX12_leastWear 30 = .ok (.imul, 1) := by decide +kernel
theorem dX12_leastWear_31 : decode cX12_leastWear 31 = .ok (.iconst 1, 1) := by decide +kernel
theorem dX12_leastWear_32 : decode cX12_leastWear 32 = .ok (.iadd, 1) := by decide +kernel
theorem dX12_leastWear_33 : decode cX12_leastWear 33 = .ok (.iaload, 1) := by decide +kernel
theorem dX12_leastWear_34 : decode cX12_leastWear 34 = .ok (.if_icmp .ge 7, 3) := by decide +kernel
theorem dX12_leastWear_37 : decode cX12_leastWear 37 = .ok (.iload_n 2, 1) := by decide +kernel
theorem dX12_leastWear_38 : decode cX12_leastWear 38 = .ok (.goto 4, 3) := by decide +kernel
theorem dX12_leastWear_41 : decode cX12_leastWear 41 = .ok (.iload_n 1, 1) := by decide +kernel
theorem dX12_leastWear_42 : decode cX12_leastWear 42 = .ok (.istore_n 1, 1) := by decide +kernel
theorem dX12_leastWear_43 : decode cX12_leastWear 43 = .ok (.iinc 2 1, 3) := by decide +kernel
theorem dX12_leastWear_46 : decode cX12_leastWear 46 = .ok (.goto (-42), 3) := by decide +kernel
theorem dX12_leastWear_49 : decode cX12_leastWear 49 = .ok (.iload_n 1, 1) := by decide +kernel
theorem dX12_leastWear_50 : decode cX12_leastWear 50 = .ok (.ireturn, 1) := by decide +kernel
set_option maxRecDepth 20000 in
theorem ggX12_habit_X12_leastWear : GoodIn wsX12_habit wsX12_leastWear := goodIn_r _ [7, 8, 9, 23, 24, 25, 26, 27, 28, 29, 30, 31, 32, 33, 34, 35, 36, 37, 38, 39, 40, 41, 42, 43, 44, 45, 46, 47, 48, 49, 50, 51, 52, 53] (by decide +kernel) (by decide +kernel)
set_option maxRecDepth 20000 in
theorem gX12_habit_X12_leastWear : GoodIn wsX12_habit (wsV RX12 210 RX12 yX12_leastWear wsX12_leastWear) := goodIn_app (goodIn_of _ (by decide +kernel)) ggX12_habit_X12_leastWear
set_option maxRecDepth 20000 in
theorem ggX12_habit_X12_deepest : GoodIn wsX12_habit wsX12_deepest := goodIn_r _ [13, 14, 15, 16, 6, 17, 18, 9, 23, 24, 25, 26, 27, 28, 29, 30, 31, 32, 33, 34, 35, 36, 37, 38, 39, 40, 41, 42, 43, 44, 45, 46, 47, 48, 49, 50, 51, 52, 53] (by decide +kernel) (by decide +kernel)
set_option maxRecDepth 20000 in
theorem gX12_habit_X12_deepest : GoodIn wsX12_habit (wsV RX12 213 RX12 yX12_deepest wsX12_deepest) := goodIn_app (goodIn_of _ (by decide +kernel)) ggX12_habit_X12_deepest
