def f_X12_comes (I : zI) (J : zJ) (p1 : Int32) (p2 : Int32) (p3 : Int32) (p4 : Int32) (p5 : Int32) : Option Int64 := (if p5 = 48 then zb1 (f_X12_cell I J p1 p2 0) (fun x57 => zg (¬ (x57 < 0 ∨ 7272 ≤ x57.toNatClampNeg)) (some ((J 16 x57.toNatClampNeg) - (J 0 22)))) else (if p5 = 49 then zb1 (f_X12_after I J p1 p3) (fun u55 => some ((J 0 24) + u55)) else zn (((p5 - p5 / 8 * 8) + 1)) (fun y3 => zb1 (f_X12_wears I J p1 (p5 / 8) y3 p4) (fun x4 => zn ((p3 + x4)) (fun y6 => zb1 ((if y6 ≤ 100 then zb1 (f_X12_breaksAt I J p3) (fun x10 => some (x10)) else some (100)) : Option Int32) (fun x12 => zb1 ((if 100 < y6 then (if 100 < y6 then some (0) else zb1 ((if 0 ≤ (lg_cmp (J 0 23) 0) then some ((J 0 23)) else zg (¬ (((4 * p1) + 3) < 0 ∨ 64 ≤ ((4 * p1) + 3).toNatClampNeg)) (some ((6000 * (I 6 ((4 * p1) + 3).toNatClampNeg).toInt64)))) : Option Int64) (fun u21 => zg (¬ (((4 * p1) + 2) < 0 ∨ 64 ≤ ((4 * p1) + 2).toNatClampNeg)) (zb1 ((if p3 ≤ (I 6 ((4 * p1) + 2).toNatClampNeg) then some (u21) else some ((J 0 24))) : Option Int64) (fun u26 => zb1 (f_X12_after I J p1 y6) (fun u27 => zn ((u26 + u27)) (fun u29 => some (u29))))))) else (if p2 ≤ y3 then (if 100 < y6 then some (0) else zb1 ((if 0 ≤ (lg_cmp (J 0 23) 0) then some ((J 0 23)) else zg (¬ (((4 * p1) + 3) < 0 ∨ 64 ≤ ((4 * p1) + 3).toNatClampNeg)) (some ((6000 * (I 6 ((4 * p1) + 3).toNatClampNeg).toInt64)))) : Option Int64) (fun u36 => zg (¬ (((4 * p1) + 2) < 0 ∨ 64 ≤ ((4 * p1) + 2).toNatClampNeg)) (zb1 ((if p3 ≤ (I 6 ((4 * p1) + 2).toNatClampNeg) then some (u36) else some ((J 0 24))) : Option Int64) (fun u41 => zb1 (f_X12_after I J p1 y6) (fun u42 => zn ((u41 + u42)) (fun u44 => some (u44))))))) else zb1 (f_X12_cell I J p1 (p2 - y3) y6) (fun x45 => zg (¬ (x45 < 0 ∨ 7272 ≤ x45.toNatClampNeg)) (zn ((J 16 x45.toNatClampNeg)) (fun u48 => some (u48)))))) : Option Int64) (fun u49 => zb1 (f_X12_after I J p1 0) (fun u50 => zn ((((J 0 24) + u50) - (J 0 22))) (fun u52 => zb1 (f_X12_minutes I J p1 (p5 / 8)) (fun x53 => some (((((100 - x12).toInt64 * u49) + (x12.toInt64 * u52)) / 100) - ((J 0 21) * x53.toInt64))))))))))))
theorem hinX12_comes_X12 : ∀ w ∈ u_ws RX12 TX12 31, w ∈ wsX12_comes := by decide +kernel
set_option maxHeartbeats 4000000 in
set_option maxRecDepth 100000 in
theorem w_X12_comes {p : Program} {l : Launch} {e : Env} {R : Room} {s : State} {m : MethodId} {args : Array Value} {below : List Frame} {meth : Method} {c : Code} {Q : State → Prop} (hfr : 2 ≤ R.frames) (hlo : 44 ≤ R.locals) {D : va_G} {a0 : Nat → Nat} {A : Nat → Prop} {cy : Nat → ClassId} {ad : Nat → Nat} (hD : zD A 25 ad) {I : zI} {J : zJ} (p1 : Int32) (p2 : Int32) (p3 : Int32) (p4 : Int32) (p5 : Int32) {rx : Int64} (hf : f_X12_comes I J p1 p2 p3 p4 p5 = some rx) {ls : Array Slot} (S0 : zSt p m c cX12_comes 13 s args wsX12_comes RX12 D a0 A cy (zw 25 (kM cy ad) ad I J) [.ref (ad 0), .int p1, .int p2, .int p3, .int p4, .int p5] ls) (hret : ∀ (tx : Int64), some tx = some rx → ∀ (H : Heap) (locs : List Loc) (ls : Array Slot) (pc : Nat), va_P D vwCl (zw 25 (kM cy ad) ad I J) H → va_S A s.heap H locs → decode cX12_comes pc = .ok (.lreturn, 1) → W p l e R s m args below meth c H locs 0 0 Q (F0 m pc ls [.long tx])) : W p l e R s m args below meth c s.heap [] 0 0 Q (F0 m 0 ls []) := by
  obtain ⟨S, E, hP, hl⟩ := S0
  obtain ⟨hx, hb, hml, hown, hts⟩ := id S
  have hS : va_S A s.heap s.heap [] := va_S.rf
  replace hl : lv_has ls 13 [(0, .ref (ad 0)), (1, .int p1), (2, .int p2), (3, .int p3), (4, .int p4), (5, .int p5)] := hl
  unfold f_X12_comes at hf
  refine lv_iload hx hb dX12_comes_0 (lv_at hl 5 rfl) ?_
  refine lv_bipush (v := 48) hx hb dX12_comes_2 (by decide) ?_
  refine lv_icmp_ne (tgt := 24) hx hb dX12_comes_4 (by decide) (fun k1 => ?_) (fun k1 => ?_)
  · replace hf := zf k1 hf
    refine lv_iload hx hb dX12_comes_24 (lv_at hl 5 rfl) ?_
    refine lv_bipush (v := 49) hx hb dX12_comes_26 (by decide) ?_
    refine lv_icmp_ne (tgt := 43) hx hb dX12_comes_28 (by decide) (fun k2 => ?_) (fun k2 => ?_)
    · replace hf := zf k2 hf
      refine lv_iload hx hb dX12_comes_43 (lv_at hl 5 rfl) ?_
      refine lv_bipush (v := 8) hx hb dX12_comes_45 (by decide) ?_
      refine lv_irem hx hb dX12_comes_47 (by decide) ?_
      refine lv_iconst (v := 1) hx hb dX12_comes_48 (by decide) ?_
      refine lv_iadd hx hb dX12_comes_49 ?_
      refine lv_topi (fun y3 ey3 => ?_)
      replace hf := zn_s ey3 hf
      refine lv_istore (lv' := [(6, .int y3), (0, .ref (ad 0)), (1, .int p1), (2, .int p2), (3, .int p3), (4, .int p4), (5, .int p5)]) hx hb dX12_comes_50 hl (by decide) rfl (fun ls hl => ?_)
      refine lv_iload_n hx hb dX12_comes_52 rfl (lv_at hl 4 rfl) ?_
      refine lv_aload_n hx hb dX12_comes_53 rfl (lv_at hl 1 rfl) ?_
      refine lv_iload_n hx hb dX12_comes_54 rfl (lv_at hl 2 rfl) ?_
      refine lv_iload hx hb dX12_comes_55 (lv_at hl 6 rfl) ?_
      refine lv_bipush (v := 8) hx hb dX12_comes_57 (by decide) ?_
      refine lv_idiv hx hb dX12_comes_59 (by decide) ?_
      refine lv_iload hx hb dX12_comes_60 (lv_at hl 0 rfl) ?_
      refine lv_iload hx hb dX12_comes_62 (lv_at hl 5 rfl) ?_
      obtain ⟨x4, h5, hf⟩ := zb1_e hf
      refine zgo_i (zrunV (As := [.int p1, .int (p5 / 8), .int y3, .int p4]) (rest := [.int p3]) S (c_X12_wears l hD p1 (p5 / 8) y3 p4 h5) (cwV 4 hts gX12_comes_X12_wears rfl rfl rfl ddX12_wears ⟨Nat.le_trans (Nat.le_of_ble_eq_true rfl) hfr, Nat.le_trans (Nat.le_of_ble_eq_true rfl) hlo⟩) (va_recv E.1 hP (q := (RX12, TX12, 31)) (ci := 11) rfl (zO.get (oX12_at))) E hP hS hl.1 rfl rfl (Nat.le_of_ble_eq_true rfl) dX12_comes_64) hS (fun H locs hP hS => ?_)
      refine lv_iadd hx hb dX12_comes_67 ?_
      refine lv_topi (fun y6 ey6 => ?_)
      replace hf := zn_s ey6 hf
      refine lv_istore (lv' := [(7, .int y6), (6, .int y3), (0, .ref (ad 0)), (1, .int p1), (2, .int p2), (3, .int p3), (4, .int p4), (5, .int p5)]) hx hb dX12_comes_68 hl (by decide) rfl (fun ls hl => ?_)
      refine lv_iload hx hb dX12_comes_70 (lv_at hl 0 rfl) ?_
      refine lv_bipush (v := 100) hx hb dX12_comes_72 (by decide) ?_
      obtain ⟨zr9, hf, hzr9⟩ := zb1_i hf
      have hjr9 : ∀ (x12 : Int32), x12 = zr9 → ∀ (H : Heap) (locs : List Loc) (ls : Array Slot), va_P D vwCl (zw 25 (kM cy ad) ad I J) H → va_S A s.heap H locs → lv_has ls 13 [(0, .ref (ad 0)), (1, .int p1), (2, .int p2), (3, .int p3), (5, .int p5), (6, .int y3), (7, .int y6)] → W p l e R s m args below meth c H locs 0 0 Q (F0 m 87 ls [.int x12]) := by
        intro x12 ez H locs ls hP hS hl
        have hf := hzr9 x12 ez
        refine lv_istore (lv' := [(8, .int x12), (0, .ref (ad 0)), (1, .int p1), (2, .int p2), (3, .int p3), (5, .int p5), (6, .int y3), (7, .int y6)]) hx hb dX12_comes_87 hl (by decide) rfl (fun ls hl => ?_)
        refine lv_lconst (v := 0) hx hb dX12_comes_89 (by decide) ?_
        refine lv_lstore (lv' := [(9, .long 0), (8, .int x12), (0, .ref (ad 0)), (1, .int p1), (2, .int p2), (3, .int p3), (5, .int p5), (6, .int y3), (7, .int y6)]) hx hb dX12_comes_90 hl (by decide) rfl (fun ls hl => ?_)
        refine lv_iload hx hb dX12_comes_92 (lv_at hl 8 rfl) ?_
        refine lv_bipush (v := 100) hx hb dX12_comes_94 (by decide) ?_
        obtain ⟨zr15, hf, hzr15⟩ := zb1_i hf
        have hjr15 : ∀ (u49 : Int64), u49 = zr15 → ∀ (H : Heap) (locs : List Loc) (ls : Array Slot), va_P D vwCl (zw 25 (kM cy ad) ad I J) H → va_S A s.heap H locs → lv_has ls 13 [(0, .ref (ad 0)), (1, .int p1), (5, .int p5), (8, .int x12), (9, .long u49)] → W p l e R s m args below meth c H locs 0 0 Q (F0 m 198 ls []) := by
          intro u49 ez H locs ls hP hS hl
          have hf := hzr15 u49 ez
          refine lv_aload_n hx hb dX12_comes_198 rfl (lv_at hl 0 rfl) ?_
          refine va_get (D := D) (ci := 11) (v := .long (J 0 24)) (C := RX12) (T := TX12) (N := 31) hx hb hts hinX12_comes_X12 hown E.1 hP 0 (zO.get (oX12_at)) rfl 24 (by decide) (hts (.fieldLink RX12 181 "EdgeAndSpeedModel" "perSpoilt" "J") (by decide +kernel)) (fun _ h9 => h9) rfl dX12_comes_199 ?_
          refine lv_aload_n hx hb dX12_comes_202 rfl (lv_at hl 0 rfl) ?_
          refine lv_iload_n hx hb dX12_comes_203 rfl (lv_at hl 1 rfl) ?_
          refine lv_iconst (v := 0) hx hb dX12_comes_204 (by decide) ?_
          obtain ⟨u50, h51, hf⟩ := zb1_e hf
          refine zgo_l (zrunV (As := [.int p1, .int 0]) (rest := [.long (J 0 24)]) S (c_X12_after l hD p1 0 h51) (cwV 2 hts gX12_comes_X12_after rfl rfl rfl ddX12_after ⟨Nat.le_trans (Nat.le_of_ble_eq_true rfl) hfr, Nat.le_trans (Nat.le_of_ble_eq_true rfl) hlo⟩) (va_recv E.1 hP (q := (RX12, TX12, 31)) (ci := 11) rfl (zO.get (oX12_at))) E hP hS hl.1 rfl rfl (Nat.le_of_ble_eq_true rfl) dX12_comes_205) hS (fun H locs hP hS => ?_)
          refine lv_ladd hx hb dX12_comes_208 ?_
          refine lv_aload_n hx hb dX12_comes_209 rfl (lv_at hl 0 rfl) ?_
          refine va_get (D := D) (ci := 11) (v := .long (J 0 22)) (C := RX12) (T := TX12) (N := 31) hx hb hts hinX12_comes_X12 hown E.1 hP 0 (zO.get (oX12_at)) rfl 22 (by decide) (hts (.fieldLink RX12 177 "EdgeAndSpeedModel" "perChange" "J") (by decide +kernel)) (fun _ h9 => h9) rfl dX12_comes_210 ?_
          refine lv_lsub hx hb dX12_comes_213 ?_
          refine lv_topl (fun u52 eu52 => ?_)
          replace hf := zn_s eu52 hf
          refine lv_lstore (lv' := [(11, .long u52), (0, .ref (ad 0)), (1, .int p1), (5, .int p5), (8, .int x12), (9, .long u49)]) hx hb dX12_comes_214 hl (by decide) rfl (fun ls hl => ?_)
          refine lv_bipush (v := 100) hx hb dX12_comes_216 (by decide) ?_
          refine lv_iload hx hb dX12_comes_218 (lv_at hl 4 rfl) ?_
          refine lv_isub hx hb dX12_comes_220 ?_
          refine lv_i2l hx hb dX12_comes_221 rfl ?_
          refine lv_lload hx hb dX12_comes_222 (lv_at hl 5 rfl) ?_
          refine lv_lmul hx hb dX12_comes_224 ?_
          refine lv_iload hx hb dX12_comes_225 (lv_at hl 4 rfl) ?_
          refine lv_i2l hx hb dX12_comes_227 rfl ?_
          refine lv_lload hx hb dX12_comes_228 (lv_at hl 0 rfl) ?_
          refine lv_lmul hx hb dX12_comes_230 ?_
          refine lv_ladd hx hb dX12_comes_231 ?_
          refine lv_ldc2 hx hb hown (hts (.constantLong RX12 164 100) (by decide +kernel)) dX12_comes_232 ?_
          refine lv_ldiv hx hb dX12_comes_235 (by decide) ?_
          refine lv_aload_n hx hb dX12_comes_236 rfl (lv_at hl 1 rfl) ?_
          refine va_get (D := D) (ci := 11) (v := .long (J 0 21)) (C := RX12) (T := TX12) (N := 31) hx hb hts hinX12_comes_X12 hown E.1 hP 0 (zO.get (oX12_at)) rfl 21 (by decide) (hts (.fieldLink RX12 193 "EdgeAndSpeedModel" "perMinute" "J") (by decide +kernel)) (fun _ h9 => h9) rfl dX12_comes_237 ?_
          refine lv_aload_n hx hb dX12_comes_240 rfl (lv_at hl 1 rfl) ?_
          refine lv_iload_n hx hb dX12_comes_241 rfl (lv_at hl 2 rfl) ?_
          refine lv_iload hx hb dX12_comes_242 (lv_at hl 3 rfl) ?_
          refine lv_bipush (v := 8) hx hb dX12_comes_244 (by decide) ?_
          refine lv_idiv hx hb dX12_comes_246 (by decide) ?_
          obtain ⟨x53, h54, hf⟩ := zb1_e hf
          refine zgo_i (zrunV (As := [.int p1, .int (p5 / 8)]) (rest := [.long (J 0 21), .long ((((100 - x12).toInt64 * u49) + (x12.toInt64 * u52)) / 100)]) S (c_X12_minutes l hD p1 (p5 / 8) h54) (cwV 2 hts gX12_comes_X12_minutes rfl rfl rfl ddX12_minutes ⟨Nat.le_trans (Nat.le_of_ble_eq_true rfl) hfr, Nat.le_trans (Nat.le_of_ble_eq_true rfl) hlo⟩) (va_recv E.1 hP (q := (RX12, TX12, 31)) (ci := 11) rfl (zO.get (oX12_at))) E hP hS hl.1 rfl rfl (Nat.le_of_ble_eq_true rfl) dX12_comes_247) hS (fun H locs hP hS => ?_)
          refine lv_i2l hx hb dX12_comes_250 rfl ?_
          refine lv_lmul hx hb dX12_comes_251 ?_
          refine lv_lsub hx hb dX12_comes_252 ?_
          exact hret _ hf _ _ _ _ hP hS dX12_comes_253
        refine lv_icmp_gt (tgt := 125) hx hb dX12_comes_96 (by decide) (fun k13 => ?_) (fun k13 => ?_)
        · replace hf := zt k13 hf
          refine lv_iload hx hb dX12_comes_125 (lv_at hl 8 rfl) ?_
          refine lv_bipush (v := 100) hx hb dX12_comes_127 (by decide) ?_
          refine lv_icmp_gt (tgt := 198) hx hb dX12_comes_129 (by decide) (fun k16 => ?_) (fun k16 => ?_)
          · replace hf := zt k16 hf
            exact hjr15 _ (Option.some.inj hf) _ _ _ hP hS (lv_sub hl [2, 3, 6, 1, 0] rfl)
          · replace hf := zf k16 hf
            refine lv_aload_n hx hb dX12_comes_132 rfl (lv_at hl 2 rfl) ?_
            refine va_get (D := D) (ci := 11) (v := .long (J 0 23)) (C := RX12) (T := TX12) (N := 31) hx hb hts hinX12_comes_X12 hown E.1 hP 0 (zO.get (oX12_at)) rfl 23 (by decide) (hts (.fieldLink RX12 188 "EdgeAndSpeedModel" "perDone" "J") (by decide +kernel)) (fun _ h9 => h9) rfl dX12_comes_133 ?_
            refine lv_lconst (v := 0) hx hb dX12_comes_136 (by decide) ?_
            refine W.lcmp hx hb dX12_comes_137 ?_
            obtain ⟨zr19, hf, hzr19⟩ := zb1_i hf
            have hjr19 : ∀ (u21 : Int64), u21 = zr19 → ∀ (H : Heap) (locs : List Loc) (ls : Array Slot), va_P D vwCl (zw 25 (kM cy ad) ad I J) H → va_S A s.heap H locs → lv_has ls 13 [(0, .ref (ad 0)), (1, .int p1), (3, .int p3), (5, .int p5), (7, .int y6), (8, .int x12)] → W p l e R s m args below meth c H locs 0 0 Q (F0 m 163 ls [.long u21]) := by
              intro u21 ez H locs ls hP hS hl
              have hf := hzr19 u21 ez
              refine lv_lstore (lv' := [(11, .long u21), (0, .ref (ad 0)), (1, .int p1), (3, .int p3), (5, .int p5), (7, .int y6), (8, .int x12)]) hx hb dX12_comes_163 hl (by decide) rfl (fun ls hl => ?_)
              refine lv_iload_n hx hb dX12_comes_165 rfl (lv_at hl 3 rfl) ?_
              refine lv_aload_n hx hb dX12_comes_166 rfl (lv_at hl 1 rfl) ?_
              refine va_get (D := D) (ci := 11) (v := .ref (ad 6)) (C := RX12) (T := TX12) (N := 31) hx hb hts hinX12_comes_X12 hown E.1 hP 0 (zO.get (oX12_at)) rfl 7 (by decide) (hts (.fieldLink RX12 26 "EdgeAndSpeedModel" "piece" "[I") (by decide +kernel)) (fun _ h9 => h9) rfl dX12_comes_167 ?_
              refine lv_iconst (v := 4) hx hb dX12_comes_170 (by decide) ?_
              refine lv_iload_n hx hb dX12_comes_171 rfl (lv_at hl 2 rfl) ?_
              refine lv_imul hx hb dX12_comes_172 ?_
              refine lv_iconst (v := 2) hx hb dX12_comes_173 (by decide) ?_
              refine lv_iadd hx hb dX12_comes_174 ?_
              obtain ⟨g22, hf⟩ := zg_i hf
              refine va_iald hx hb E.1 hP 6 1 (zIA.get (aX12_7)) rfl g22 dX12_comes_175 ?_
              obtain ⟨zr25, hf, hzr25⟩ := zb1_i hf
              have hjr25 : ∀ (u26 : Int64), u26 = zr25 → ∀ (H : Heap) (locs : List Loc) (ls : Array Slot), va_P D vwCl (zw 25 (kM cy ad) ad I J) H → va_S A s.heap H locs → lv_has ls 13 [(0, .ref (ad 0)), (1, .int p1), (5, .int p5), (7, .int y6), (8, .int x12)] → W p l e R s m args below meth c H locs 0 0 Q (F0 m 188 ls [.long u26]) := by
                intro u26 ez H locs ls hP hS hl
                have hf := hzr25 u26 ez
                refine lv_aload_n hx hb dX12_comes_188 rfl (lv_at hl 0 rfl) ?_
                refine lv_iload_n hx hb dX12_comes_189 rfl (lv_at hl 1 rfl) ?_
                refine lv_iload hx hb dX12_comes_190 (lv_at hl 3 rfl) ?_
                obtain ⟨u27, h28, hf⟩ := zb1_e hf
                refine zgo_l (zrunV (As := [.int p1, .int y6]) (rest := [.long u26]) S (c_X12_after l hD p1 y6 h28) (cwV 2 hts gX12_comes_X12_after rfl rfl rfl ddX12_after ⟨Nat.le_trans (Nat.le_of_ble_eq_true rfl) hfr, Nat.le_trans (Nat.le_of_ble_eq_true rfl) hlo⟩) (va_recv E.1 hP (q := (RX12, TX12, 31)) (ci := 11) rfl (zO.get (oX12_at))) E hP hS hl.1 rfl rfl (Nat.le_of_ble_eq_true rfl) dX12_comes_192) hS (fun H locs hP hS => ?_)
                refine lv_ladd hx hb dX12_comes_195 ?_
                refine lv_topl (fun u29 eu29 => ?_)
                replace hf := zn_s eu29 hf
                refine lv_lstore (lv' := [(9, .long u29), (0, .ref (ad 0)), (1, .int p1), (5, .int p5), (7, .int y6), (8, .int x12)]) hx hb dX12_comes_196 hl (by decide) rfl (fun ls hl => ?_)
                exact hjr15 _ (Option.some.inj hf) _ _ _ hP hS (lv_sub hl [1, 2, 3, 5, 0] rfl)
              refine lv_icmp_le (tgt := 186) hx hb dX12_comes_176 (by decide) (fun k23 => ?_) (fun k23 => ?_)
              · replace hf := zt k23 hf
                refine lv_lload hx hb dX12_comes_186 (lv_at hl 0 rfl) ?_
                exact hjr25 _ (Option.some.inj hf) _ _ _ hP hS (lv_sub hl [1, 2, 4, 5, 6] rfl)
              · replace hf := zf k23 hf
                refine lv_aload_n hx hb dX12_comes_179 rfl (lv_at hl 1 rfl) ?_
                refine va_get (D := D) (ci := 11) (v := .long (J 0 24)) (C := RX12) (T := TX12) (N := 31) hx hb hts hinX12_comes_X12 hown E.1 hP 0 (zO.get (oX12_at)) rfl 24 (by decide) (hts (.fieldLink RX12 181 "EdgeAndSpeedModel" "perSpoilt" "J") (by decide +kernel)) (fun _ h9 => h9) rfl dX12_comes_180 ?_
                refine lv_goto (tgt := 188) hx hb dX12_comes_183 (by decide) ?_
                exact hjr25 _ (Option.some.inj hf) _ _ _ hP hS (lv_sub hl [1, 2, 4, 5, 6] rfl)
            refine lv_if_ge (tgt := 159) hx hb dX12_comes_138 (by decide) (fun k17 => ?_) (fun k17 => ?_)
            · replace hf := zt k17 hf
              refine lv_aload_n hx hb dX12_comes_159 rfl (lv_at hl 2 rfl) ?_
              refine va_get (D := D) (ci := 11) (v := .long (J 0 23)) (C := RX12) (T := TX12) (N := 31) hx hb hts hinX12_comes_X12 hown E.1 hP 0 (zO.get (oX12_at)) rfl 23 (by decide) (hts (.fieldLink RX12 188 "EdgeAndSpeedModel" "perDone" "J") (by decide +kernel)) (fun _ h9 => h9) rfl dX12_comes_160 ?_
              exact hjr19 _ (Option.some.inj hf) _ _ _ hP hS (lv_sub hl [2, 3, 5, 6, 8, 1] rfl)
            · replace hf := zf k17 hf
              refine lv_ldc2 hx hb hown (hts (.constantLong RX12 191 6000) (by decide +kernel)) dX12_comes_141 ?_
              refine lv_aload_n hx hb dX12_comes_144 rfl (lv_at hl 2 rfl) ?_
              refine va_get (D := D) (ci := 11) (v := .ref (ad 6)) (C := RX12) (T := TX12) (N := 31) hx hb hts hinX12_comes_X12 hown E.1 hP 0 (zO.get (oX12_at)) rfl 7 (by decide) (hts (.fieldLink RX12 26 "EdgeAndSpeedModel" "piece" "[I") (by decide +kernel)) (fun _ h9 => h9) rfl dX12_comes_145 ?_
              refine lv_iconst (v := 4) hx hb dX12_comes_148 (by decide) ?_
              refine lv_iload_n hx hb dX12_comes_149 rfl (lv_at hl 3 rfl) ?_
              refine lv_imul hx hb dX12_comes_150 ?_
              refine lv_iconst (v := 3) hx hb dX12_comes_151 (by decide) ?_
              refine lv_iadd hx hb dX12_comes_152 ?_
              obtain ⟨g20, hf⟩ := zg_i hf
              refine va_iald hx hb E.1 hP 6 1 (zIA.get (aX12_7)) rfl g20 dX12_comes_153 ?_
              refine lv_i2l hx hb dX12_comes_154 rfl ?_
              refine lv_lmul hx hb dX12_comes_155 ?_
              refine lv_goto (tgt := 163) hx hb dX12_comes_156 (by decide) ?_
              exact hjr19 _ (Option.some.inj hf) _ _ _ hP hS (lv_sub hl [2, 3, 5, 6, 8, 1] rfl)
        · replace hf := zf k13 hf
          refine lv_iload_n hx hb dX12_comes_99 rfl (lv_at hl 4 rfl) ?_
          refine lv_iload hx hb dX12_comes_100 (lv_at hl 7 rfl) ?_
          refine lv_icmp_le (tgt := 125) hx hb dX12_comes_102 (by decide) (fun k30 => ?_) (fun k30 => ?_)
          · replace hf := zt k30 hf
            refine lv_iload hx hb dX12_comes_125 (lv_at hl 8 rfl) ?_
            refine lv_bipush (v := 100) hx hb dX12_comes_127 (by decide) ?_
            refine lv_icmp_gt (tgt := 198) hx hb dX12_comes_129 (by decide) (fun k31 => ?_) (fun k31 => ?_)
            · replace hf := zt k31 hf
              exact hjr15 _ (Option.some.inj hf) _ _ _ hP hS (lv_sub hl [2, 3, 6, 1, 0] rfl)
            · replace hf := zf k31 hf
              refine lv_aload_n hx hb dX12_comes_132 rfl (lv_at hl 2 rfl) ?_
              refine va_get (D := D) (ci := 11) (v := .long (J 0 23)) (C := RX12) (T := TX12) (N := 31) hx hb hts hinX12_comes_X12 hown E.1 hP 0 (zO.get (oX12_at)) rfl 23 (by decide) (hts (.fieldLink RX12 188 "EdgeAndSpeedModel" "perDone" "J") (by decide +kernel)) (fun _ h9 => h9) rfl dX12_comes_133 ?_
              refine lv_lconst (v := 0) hx hb dX12_comes_136 (by decide) ?_
              refine W.lcmp hx hb dX12_comes_137 ?_
              obtain ⟨zr34, hf, hzr34⟩ := zb1_i hf
              have hjr34 : ∀ (u36 : Int64), u36 = zr34 → ∀ (H : Heap) (locs : List Loc) (ls : Array Slot), va_P D vwCl (zw 25 (kM cy ad) ad I J) H → va_S A s.heap H locs → lv_has ls 13 [(0, .ref (ad 0)), (1, .int p1), (3, .int p3), (5, .int p5), (7, .int y6), (8, .int x12)] → W p l e R s m args below meth c H locs 0 0 Q (F0 m 163 ls [.long u36]) := by
                intro u36 ez H locs ls hP hS hl
                have hf := hzr34 u36 ez
                refine lv_lstore (lv' := [(11, .long u36), (0, .ref (ad 0)), (1, .int p1), (3, .int p3), (5, .int p5), (7, .int y6), (8, .int x12)]) hx hb dX12_comes_163 hl (by decide) rfl (fun ls hl => ?_)
                refine lv_iload_n hx hb dX12_comes_165 rfl (lv_at hl 3 rfl) ?_
                refine lv_aload_n hx hb dX12_comes_166 rfl (lv_at hl 1 rfl) ?_
                refine va_get (D := D) (ci := 11) (v := .ref (ad 6)) (C := RX12) (T := TX12) (N := 31) hx hb hts hinX12_comes_X12 hown E.1 hP 0 (zO.get (oX12_at)) rfl 7 (by decide) (hts (.fieldLink RX12 26 "EdgeAndSpeedModel" "piece" "[I") (by decide +kernel)) (fun _ h9 => h9) rfl dX12_comes_167 ?_
                refine lv_iconst (v := 4) hx hb dX12_comes_170 (by decide) ?_
                refine lv_iload_n hx hb dX12_comes_171 rfl (lv_at hl 2 rfl) ?_
                refine lv_imul hx hb dX12_comes_172 ?_
                refine lv_iconst (v := 2) hx hb dX12_comes_173 (by decide) ?_
                refine lv_iadd hx hb dX12_comes_174 ?_
                obtain ⟨g37, hf⟩ := zg_i hf
                refine va_iald hx hb E.1 hP 6 1 (zIA.get (aX12_7)) rfl g37 dX12_comes_175 ?_
                obtain ⟨zr40, hf, hzr40⟩ := zb1_i hf
                have hjr40 : ∀ (u41 : Int64), u41 = zr40 → ∀ (H : Heap) (locs : List Loc) (ls : Array Slot), va_P D vwCl (zw 25 (kM cy ad) ad I J) H → va_S A s.heap H locs → lv_has ls 13 [(0, .ref (ad 0)), (1, .int p1), (5, .int p5), (7, .int y6), (8, .int x12)] → W p l e R s m args below meth c H locs 0 0 Q (F0 m 188 ls [.long u41]) := by
                  intro u41 ez H locs ls hP hS hl
                  have hf := hzr40 u41 ez
                  refine lv_aload_n hx hb dX12_comes_188 rfl (lv_at hl 0 rfl) ?_
                  refine lv_iload_n hx hb dX12_comes_189 rfl (lv_at hl 1 rfl) ?_
                  refine lv_iload hx hb dX12_comes_190 (lv_at hl 3 rfl) ?_
                  obtain ⟨u42, h43, hf⟩ := zb1_e hf
                  refine zgo_l (zrunV (As := [.int p1, .int y6]) (rest := [.long u41]) S (c_X12_after l hD p1 y6 h43) (cwV 2 hts gX12_comes_X12_after rfl rfl rfl ddX12_after ⟨Nat.le_trans (Nat.le_of_ble_eq_true rfl) hfr, Nat.le_trans (Nat.le_of_ble_eq_true rfl) hlo⟩) (va_recv E.1 hP (q := (RX12, TX12, 31)) (ci := 11) rfl (zO.get (oX12_at))) E hP hS hl.1 rfl rfl (Nat.le_of_ble_eq_true rfl) dX12_comes_192) hS (fun H locs hP hS => ?_)
                  refine lv_ladd hx hb dX12_comes_195 ?_
                  refine lv_topl (fun u44 eu44 => ?_)
                  replace hf := zn_s eu44 hf
                  refine lv_lstore (lv' := [(9, .long u44), (0, .ref (ad 0)), (1, .int p1), (5, .int p5), (7, .int y6), (8, .int x12)]) hx hb dX12_comes_196 hl (by decide) rfl (fun ls hl => ?_)
                  exact hjr15 _ (Option.some.inj hf) _ _ _ hP hS (lv_sub hl [1, 2, 3, 5, 0] rfl)
                refine lv_icmp_le (tgt := 186) hx hb dX12_comes_176 (by decide) (fun k38 => ?_) (fun k38 => ?_)
                · replace hf := zt k38 hf
                  refine lv_lload hx hb dX12_comes_186 (lv_at hl 0 rfl) ?_
                  exact hjr40 _ (Option.some.inj hf) _ _ _ hP hS (lv_sub hl [1, 2, 4, 5, 6] rfl)
                · replace hf := zf k38 hf
                  refine lv_aload_n hx hb dX12_comes_179 rfl (lv_at hl 1 rfl) ?_
                  refine va_get (D := D) (ci := 11) (v := .long (J 0 24)) (C := RX12) (T := TX12) (N := 31) hx hb hts hinX12_comes_X12 hown E.1 hP 0 (zO.get (oX12_at)) rfl 24 (by decide) (hts (.fieldLink RX12 181 "EdgeAndSpeedModel" "perSpoilt" "J") (by decide +kernel)) (fun _ h9 => h9) rfl dX12_comes_180 ?_
                  refine lv_goto (tgt := 188) hx hb dX12_comes_183 (by decide) ?_
                  exact hjr40 _ (Option.some.inj hf) _ _ _ hP hS (lv_sub hl [1, 2, 4, 5, 6] rfl)
              refine lv_if_ge (tgt := 159) hx hb dX12_comes_138 (by decide) (fun k32 => ?_) (fun k32 => ?_)
              · replace hf := zt k32 hf
                refine lv_aload_n hx hb dX12_comes_159 rfl (lv_at hl 2 rfl) ?_
                refine va_get (D := D) (ci := 11) (v := .long (J 0 23)) (C := RX12) (T := TX12) (N := 31) hx hb hts hinX12_comes_X12 hown E.1 hP 0 (zO.get (oX12_at)) rfl 23 (by decide) (hts (.fieldLink RX12 188 "EdgeAndSpeedModel" "perDone" "J") (by decide +kernel)) (fun _ h9 => h9) rfl dX12_comes_160 ?_
                exact hjr34 _ (Option.some.inj hf) _ _ _ hP hS (lv_sub hl [2, 3, 5, 6, 8, 1] rfl)
              · replace hf := zf k32 hf
                refine lv_ldc2 hx hb hown (hts (.constantLong RX12 191 6000) (by decide +kernel)) dX12_comes_141 ?_
                refine lv_aload_n hx hb dX12_comes_144 rfl (lv_at hl 2 rfl) ?_
                refine va_get (D := D) (ci := 11) (v := .ref (ad 6)) (C := RX12) (T := TX12) (N := 31) hx hb hts hinX12_comes_X12 hown E.1 hP 0 (zO.get (oX12_at)) rfl 7 (by decide) (hts (.fieldLink RX12 26 "EdgeAndSpeedModel" "piece" "[I") (by decide +kernel)) (fun _ h9 => h9) rfl dX12_comes_145 ?_
                refine lv_iconst (v := 4) hx hb dX12_comes_148 (by decide) ?_
                refine lv_iload_n hx hb dX12_comes_149 rfl (lv_at hl 3 rfl) ?_
                refine lv_imul hx hb dX12_comes_150 ?_
                refine lv_iconst (v := 3) hx hb dX12_comes_151 (by decide) ?_
                refine lv_iadd hx hb dX12_comes_152 ?_
                obtain ⟨g35, hf⟩ := zg_i hf
                refine va_iald hx hb E.1 hP 6 1 (zIA.get (aX12_7)) rfl g35 dX12_comes_153 ?_
                refine lv_i2l hx hb dX12_comes_154 rfl ?_
                refine lv_lmul hx hb dX12_comes_155 ?_
                refine lv_goto (tgt := 163) hx hb dX12_comes_156 (by decide) ?_
                exact hjr34 _ (Option.some.inj hf) _ _ _ hP hS (lv_sub hl [2, 3, 5, 6, 8, 1] rfl)
          · replace hf := zf k30 hf
            refine lv_aload_n hx hb dX12_comes_105 rfl (lv_at hl 2 rfl) ?_
            refine va_get (D := D) (ci := 11) (v := .ref (ad 16)) (C := RX12) (T := TX12) (N := 31) hx hb hts hinX12_comes_X12 hown E.1 hP 0 (zO.get (oX12_at)) rfl 18 (by decide) (hts (.fieldLink RX12 56 "EdgeAndSpeedModel" "value" "[J") (by decide +kernel)) (fun _ h9 => h9) rfl dX12_comes_106 ?_
            refine lv_iload_n hx hb dX12_comes_109 rfl (lv_at hl 3 rfl) ?_
            refine lv_iload_n hx hb dX12_comes_110 rfl (lv_at hl 4 rfl) ?_
            refine lv_iload hx hb dX12_comes_111 (lv_at hl 7 rfl) ?_
            refine lv_isub hx hb dX12_comes_113 ?_
            refine lv_iload hx hb dX12_comes_114 (lv_at hl 8 rfl) ?_
            obtain ⟨x45, h46, hf⟩ := zb1_e hf
            refine zgo_i (zrunS (As := [.int p1, .int (p2 - y3), .int y6]) (rest := [.ref (ad 16)]) S (c_X12_cell l hD p1 (p2 - y3) y6 h46) (va_cwS 3 hts gX12_comes_X12_cell rfl rfl rfl ddX12_cell ⟨Nat.le_trans (Nat.le_of_ble_eq_true rfl) hfr, Nat.le_trans (Nat.le_of_ble_eq_true rfl) hlo⟩) E hP hS hl.1 rfl rfl (Nat.le_of_ble_eq_true rfl) dX12_comes_116) hS (fun H locs hP hS => ?_)
            obtain ⟨g47, hf⟩ := zg_i hf
            refine va_lald hx hb E.1 hP 16 2 (zLA.get (aX12_18)) rfl g47 dX12_comes_119 ?_
            refine lv_topl (fun u48 eu48 => ?_)
            replace hf := zn_s eu48 hf
            refine lv_lstore (lv' := [(9, .long u48), (8, .int x12), (0, .ref (ad 0)), (1, .int p1), (2, .int p2), (3, .int p3), (5, .int p5), (6, .int y3), (7, .int y6)]) hx hb dX12_comes_120 hl (by decide) rfl (fun ls hl => ?_)
            refine lv_goto (tgt := 198) hx hb dX12_comes_122 (by decide) ?_
            exact hjr15 _ (Option.some.inj hf) _ _ _ hP hS (lv_sub hl [2, 3, 6, 1, 0] rfl)
      refine lv_icmp_le (tgt := 82) hx hb dX12_comes_74 (by decide) (fun k7 => ?_) (fun k7 => ?_)
      · replace hf := zt k7 hf
        refine lv_aload_n hx hb dX12_comes_82 rfl (lv_at hl 2 rfl) ?_
        refine lv_iload_n hx hb dX12_comes_83 rfl (lv_at hl 5 rfl) ?_
        obtain ⟨x10, h11, hf⟩ := zb1_e hf
        refine zgo_i (zrunV (As := [.int p3]) (rest := []) S (c_X12_breaksAt l hD p3 h11) (cwV 1 hts gX12_comes_X12_breaksAt rfl rfl rfl ddX12_breaksAt ⟨Nat.le_trans (Nat.le_of_ble_eq_true rfl) hfr, Nat.le_trans (Nat.le_of_ble_eq_true rfl) hlo⟩) (va_recv E.1 hP (q := (RX12, TX12, 31)) (ci := 11) rfl (zO.get (oX12_at))) E hP hS hl.1 rfl rfl (Nat.le_of_ble_eq_true rfl) dX12_comes_84) hS (fun H locs hP hS => ?_)
        exact hjr9 _ (Option.some.inj hf) _ _ _ hP hS (lv_sub hl [2, 3, 4, 5, 7, 1, 0] rfl)
      · replace hf := zf k7 hf
        refine lv_bipush (v := 100) hx hb dX12_comes_77 (by decide) ?_
        refine lv_goto (tgt := 87) hx hb dX12_comes_79 (by decide) ?_
        exact hjr9 _ (Option.some.inj hf) _ _ _ hP hS (lv_sub hl [2, 3, 4, 5, 7, 1, 0] rfl)
    · replace hf := zt k2 hf
      refine lv_aload_n hx hb dX12_comes_31 rfl (lv_at hl 0 rfl) ?_
      refine va_get (D := D) (ci := 11) (v := .long (J 0 24)) (C := RX12) (T := TX12) (N := 31) hx hb hts hinX12_comes_X12 hown E.1 hP 0 (zO.get (oX12_at)) rfl 24 (by decide) (hts (.fieldLink RX12 181 "EdgeAndSpeedModel" "perSpoilt" "J") (by decide +kernel)) (fun _ h9 => h9) rfl dX12_comes_32 ?_
      refine lv_aload_n hx hb dX12_comes_35 rfl (lv_at hl 0 rfl) ?_
      refine lv_iload_n hx hb dX12_comes_36 rfl (lv_at hl 1 rfl) ?_
      refine lv_iload_n hx hb dX12_comes_37 rfl (lv_at hl 3 rfl) ?_
      obtain ⟨u55, h56, hf⟩ := zb1_e hf
      refine zgo_l (zrunV (As := [.int p1, .int p3]) (rest := [.long (J 0 24)]) S (c_X12_after l hD p1 p3 h56) (cwV 2 hts gX12_comes_X12_after rfl rfl rfl ddX12_after ⟨Nat.le_trans (Nat.le_of_ble_eq_true rfl) hfr, Nat.le_trans (Nat.le_of_ble_eq_true rfl) hlo⟩) (va_recv E.1 hP (q := (RX12, TX12, 31)) (ci := 11) rfl (zO.get (oX12_at))) E hP hS hl.1 rfl rfl (Nat.le_of_ble_eq_true rfl) dX12_comes_38) hS (fun H locs hP hS => ?_)
      refine lv_ladd hx hb dX12_comes_41 ?_
      exact hret _ hf _ _ _ _ hP hS dX12_comes_42
  · replace hf := zt k1 hf
    refine lv_aload_n hx hb dX12_comes_7 rfl (lv_at hl 0 rfl) ?_
    refine va_get (D := D) (ci := 11) (v := .ref (ad 16)) (C := RX12) (T := TX12) (N := 31) hx hb hts hinX12_comes_X12 hown E.1 hP 0 (zO.get (oX12_at)) rfl 18 (by decide) (hts (.fieldLink RX12 56 "EdgeAndSpeedModel" "value" "[J") (by decide +kernel)) (fun _ h9 => h9) rfl dX12_comes_8 ?_
    refine lv_iload_n hx hb dX12_comes_11 rfl (lv_at hl 1 rfl) ?_
    refine lv_iload_n hx hb dX12_comes_12 rfl (lv_at hl 2 rfl) ?_
    refine lv_iconst (v := 0) hx hb dX12_comes_13 (by decide) ?_
    obtain ⟨x57, h58, hf⟩ := zb1_e hf
    refine zgo_i (zrunS (As := [.int p1, .int p2, .int 0]) (rest := [.ref (ad 16)]) S (c_X12_cell l hD p1 p2 0 h58) (va_cwS 3 hts gX12_comes_X12_cell rfl rfl rfl ddX12_cell ⟨Nat.le_trans (Nat.le_of_ble_eq_true rfl) hfr, Nat.le_trans (Nat.le_of_ble_eq_true rfl) hlo⟩) E hP hS hl.1 rfl rfl (Nat.le_of_ble_eq_true rfl) dX12_comes_14) hS (fun H locs hP hS => ?_)
    obtain ⟨g59, hf⟩ := zg_i hf
    refine va_lald hx hb E.1 hP 16 2 (zLA.get (aX12_18)) rfl g59 dX12_comes_17 ?_
    refine lv_aload_n hx hb dX12_comes_18 rfl (lv_at hl 0 rfl) ?_
    refine va_get (D := D) (ci := 11) (v := .long (J 0 22)) (C := RX12) (T := TX12) (N := 31) hx hb hts hinX12_comes_X12 hown E.1 hP 0 (zO.get (oX12_at)) rfl 22 (by decide) (hts (.fieldLink RX12 177 "EdgeAndSpeedModel" "perChange" "J") (by decide +kernel)) (fun _ h9 => h9) rfl dX12_comes_19 ?_
    refine lv_lsub hx hb dX12_comes_22 ?_
    exact hret _ hf _ _ _ _ hP hS dX12_comes_23
theorem c_X12_comes (l : Launch) {D : va_G} {a0 : Nat → Nat} {A : Nat → Prop} {cy : Nat → ClassId} {ad : Nat → Nat} (hD : zD A 25 ad) {I : zI} {J : zJ} (p1 : Int32) (p2 : Int32) (p3 : Int32) (p4 : Int32) (p5 : Int32) {rx : Int64} (hf : f_X12_comes I J p1 p2 p3 p4 p5 = some rx) : Met l yX12_comes wsX12_comes { frames := 2, cells := 0, slots := 0, locals := 44 } (zPc D a0 A cy [.ref (ad 0), .int p1, .int p2, .int p3, .int p4, .int p5] (zw 25 (kM cy ad) ad I J)) (zQl D A rx (zw 25 (kM cy ad) ad I J)) 0 0 A :=
  zmet RX12 (by decide) rfl rfl (Nat.le_of_ble_eq_true rfl) (fun p e R s m below meth c Q hfr hlo ls S0 hQ => w_X12_comes hfr hlo hD p1 p2 p3 p4 p5 hf S0 (fun tx hq H locs ls pc hP hS hd => by cases hq; exact hQ H locs _ hS (fun hx hb hr hlocks hfree => W.lret hx hb hr (fun t ht hW => ⟨⟨_, (), rfl, rfl, zht ht hP⟩, hS.F ht⟩) hfree hd hlocks)))
theorem ddX12_comes : yX12_comes.cls = RX12 ∧ yX12_comes.cls ≠ "java/lang/invoke/MethodHandle" ∧ yX12_comes.cls ≠ "java/lang/invoke/VarHandle" ∧ (parseMethodDescriptor yX12_comes.desc).map (fun d => d.parameters.length) = some 5 := by decide +kernel

def f_X12_counts (I : zI) (J : zJ) (p1 : Int32) : Option zJ := zb1 ((if p1 = 0 then zg (¬ ((2 : Int32) < 0 ∨ 10 ≤ (2 : Int32).toNatClampNeg)) (some ((I 11 (2 : Int32).toNatClampNeg).toInt64)) else (if p1 = 2 then some (0) else some (1))) : Option Int64) (fun u6 => zn (va_up J 0 (va_up (J 0) 21 u6)) (fun J7 => zb1 ((if p1 = 0 then zg (¬ ((0 : Int32) < 0 ∨ 10 ≤ (0 : Int32).toNatClampNeg)) (zg (¬ ((2 : Int32) < 0 ∨ 10 ≤ (2 : Int32).toNatClampNeg)) (zg (¬ ((1 : Int32) < 0 ∨ 10 ≤ (1 : Int32).toNatClampNeg)) (some ((((100 * (I 11 (0 : Int32).toNatClampNeg).toInt64) * (I 11 (2 : Int32).toNatClampNeg).toInt64) + (6000 * (I 11 (1 : Int32).toNatClampNeg).toInt64)))))) else (if p1 = 2 then some (0) else zg (¬ ((0 : Int32) < 0 ∨ 10 ≤ (0 : Int32).toNatClampNeg)) (some ((100 * (I 11 (0 : Int32).toNatClampNeg).toInt64))))) : Option Int64) (fun u16 => zn (va_up J7 0 (va_up (J7 0) 22 u16)) (fun J17 => zb1 ((if p1 = 0 then some ((-1)) else (if p1 = 1 then some (100000) else some (0))) : Option Int64) (fun u22 => zn (va_up J17 0 (va_up (J17 0) 23 u22)) (fun J23 => (if p1 = 2 then zn (va_up J23 0 (va_up (J23 0) 24 1000000)) (fun J26 => some J26) else zn (va_up J23 0 (va_up (J23 0) 24 0)) (fun J25 => some J25))))))))
theorem hinX12_counts_X12 : ∀ w ∈ u_ws RX12 TX12 31, w ∈ wsX12_counts := by decide +kernel
set_option maxHeartbeats 4000000 in
set_option maxRecDepth 100000 in
theorem w_X12_counts {p : Program} {l : Launch} {e : Env} {R : Room} {s : State} {m : MethodId} {args : Array Value} {below : List Frame} {meth : Method} {c : Code} {Q : State → Prop} (hfr : 0 ≤ R.frames) (hlo : 0 ≤ R.locals) {D : va_G} {a0 : Nat → Nat} {A : Nat → Prop} {cy : Nat → ClassId} {ad : Nat → Nat} (hD : zD A 25 ad) {I : zI} {J : zJ} (p1 : Int32) {rJ : zJ} (hf : f_X12_counts I J p1 = some rJ) {ls : Array Slot} (S0 : zSt p m c cX12_counts 2 s args wsX12_counts RX12 D a0 A cy (zw 25 (kM cy ad) ad I J) [.ref (ad 0), .int p1] ls) (hret : ∀ (tJ : zJ), some tJ = some rJ → ∀ (H : Heap) (locs : List Loc) (ls : Array Slot) (pc : Nat), va_P D vwCl (zw 25 (kM cy ad) ad I tJ) H → va_S A s.heap H locs → decode cX12_counts pc = .ok (.return_, 1) → W p l e R s m args below meth c H locs 0 0 Q (F0 m pc ls [])) : W p l e R s m args below meth c s.heap [] 0 0 Q (F0 m 0 ls []) := by
  obtain ⟨S, E, hP, hl⟩ := S0
  obtain ⟨hx, hb, hml, hown, hts⟩ := id S
  have hS : va_S A s.heap s.heap [] := va_S.rf
  replace hl : lv_has ls 2 [(0, .ref (ad 0)), (1, .int p1)] := hl
  unfold f_X12_counts at hf
  refine lv_aload_n hx hb dX12_counts_0 rfl (lv_at hl 0 rfl) ?_
  refine lv_iload_n hx hb dX12_counts_1 rfl (lv_at hl 1 rfl) ?_
  obtain ⟨zr3, hf, hzr3⟩ := zb1_i hf
  have hjr3 : ∀ (u6 : Int64), u6 = zr3 → ∀ (H : Heap) (locs : List Loc) (ls : Array Slot), va_P D vwCl (zw 25 (kM cy ad) ad I J) H → va_S A s.heap H locs → lv_has ls 2 [(0, .ref (ad 0)), (1, .int p1)] → W p l e R s m args below meth c H locs 0 0 Q (F0 m 25 ls [.long u6, .ref (ad 0)]) := by
    intro u6 ez H locs ls hP hS hl
    have hf := hzr3 u6 ez
    obtain ⟨J7, eJ7⟩ := zex (va_up J 0 (va_up (J 0) 21 u6))
    replace hf := zn_s eJ7 hf
    refine zput (D := D) (ci := 11) (v := .long u6) (ty := .long) (C := RX12) (T := TX12) (N := 31) hx hb hts hinX12_counts_X12 tyX12 tyX12_ok nmX12 hown E.1 hP hD.D hS 0 (zO.get (oX12_at)) rfl 21 (by decide) (hts (.fieldLink RX12 193 "EdgeAndSpeedModel" "perMinute" "J") (by decide +kernel)) (fun _ h9 => h9) rfl (tyX12_ok 21 (by decide)) rfl rfl (Nat.le_of_ble_eq_true rfl) dX12_counts_25 (zO.setJ (oX12_at) rfl eJ7) (fun H locs hP hS => ?_)
    refine lv_aload_n hx hb dX12_counts_28 rfl (lv_at hl 0 rfl) ?_
    refine lv_iload_n hx hb dX12_counts_29 rfl (lv_at hl 1 rfl) ?_
    obtain ⟨zr10, hf, hzr10⟩ := zb1_i hf
    have hjr10 : ∀ (u16 : Int64), u16 = zr10 → ∀ (H : Heap) (locs : List Loc) (ls : Array Slot), va_P D vwCl (zw 25 (kM cy ad) ad I J7) H → va_S A s.heap H locs → lv_has ls 2 [(0, .ref (ad 0)), (1, .int p1)] → W p l e R s m args below meth c H locs 0 0 Q (F0 m 87 ls [.long u16, .ref (ad 0)]) := by
      intro u16 ez H locs ls hP hS hl
      have hf := hzr10 u16 ez
      obtain ⟨J17, eJ17⟩ := zex (va_up J7 0 (va_up (J7 0) 22 u16))
      replace hf := zn_s eJ17 hf
      refine zput (D := D) (ci := 11) (v := .long u16) (ty := .long) (C := RX12) (T := TX12) (N := 31) hx hb hts hinX12_counts_X12 tyX12 tyX12_ok nmX12 hown E.1 hP hD.D hS 0 (zO.get (oX12_at)) rfl 22 (by decide) (hts (.fieldLink RX12 177 "EdgeAndSpeedModel" "perChange" "J") (by decide +kernel)) (fun _ h9 => h9) rfl (tyX12_ok 22 (by decide)) rfl rfl (Nat.le_of_ble_eq_true rfl) dX12_counts_87 (zO.setJ (oX12_at) rfl eJ17) (fun H locs hP hS => ?_)
      refine lv_aload_n hx hb dX12_counts_90 rfl (lv_at hl 0 rfl) ?_
      refine lv_iload_n hx hb dX12_counts_91 rfl (lv_at hl 1 rfl) ?_
      obtain ⟨zr20, hf, hzr20⟩ := zb1_i hf
      have hjr20 : ∀ (u22 : Int64), u22 = zr20 → ∀ (H : Heap) (locs : List Loc) (ls : Array Slot), va_P D vwCl (zw 25 (kM cy ad) ad I J17) H → va_S A s.heap H locs → lv_has ls 2 [(0, .ref (ad 0)), (1, .int p1)] → W p l e R s m args below meth c H locs 0 0 Q (F0 m 113 ls [.long u22, .ref (ad 0)]) := by
        intro u22 ez H locs ls hP hS hl
        have hf := hzr20 u22 ez
        obtain ⟨J23, eJ23⟩ := zex (va_up J17 0 (va_up (J17 0) 23 u22))
        replace hf := zn_s eJ23 hf
        refine zput (D := D) (ci := 11) (v := .long u22) (ty := .long) (C := RX12) (T := TX12) (N := 31) hx hb hts hinX12_counts_X12 tyX12 tyX12_ok nmX12 hown E.1 hP hD.D hS 0 (zO.get (oX12_at)) rfl 23 (by decide) (hts (.fieldLink RX12 188 "EdgeAndSpeedModel" "perDone" "J") (by decide +kernel)) (fun _ h9 => h9) rfl (tyX12_ok 23 (by decide)) rfl rfl (Nat.le_of_ble_eq_true rfl) dX12_counts_113 (zO.setJ (oX12_at) rfl eJ23) (fun H locs hP hS => ?_)
        refine lv_aload_n hx hb dX12_counts_116 rfl (lv_at hl 0 rfl) ?_
        refine lv_iload_n hx hb dX12_counts_117 rfl (lv_at hl 1 rfl) ?_
        refine lv_iconst (v := 2) hx hb dX12_counts_118 (by decide) ?_
        refine lv_icmp_ne (tgt := 128) hx hb dX12_counts_119 (by decide) (fun k24 => ?_) (fun k24 => ?_)
        · replace hf := zf k24 hf
          refine lv_lconst (v := 0) hx hb dX12_counts_128 (by decide) ?_
          obtain ⟨J25, eJ25⟩ := zex (va_up J23 0 (va_up (J23 0) 24 0))
          replace hf := zn_s eJ25 hf
          refine zput (D := D) (ci := 11) (v := .long 0) (ty := .long) (C := RX12) (T := TX12) (N := 31) hx hb hts hinX12_counts_X12 tyX12 tyX12_ok nmX12 hown E.1 hP hD.D hS 0 (zO.get (oX12_at)) rfl 24 (by decide) (hts (.fieldLink RX12 181 "EdgeAndSpeedModel" "perSpoilt" "J") (by decide +kernel)) (fun _ h9 => h9) rfl (tyX12_ok 24 (by decide)) rfl rfl (Nat.le_of_ble_eq_true rfl) dX12_counts_129 (zO.setJ (oX12_at) rfl eJ25) (fun H locs hP hS => ?_)
          exact hret _ hf _ _ _ _ hP hS dX12_counts_132
        · replace hf := zt k24 hf
          refine lv_ldc2 hx hb hown (hts (.constantLong RX12 200 1000000) (by decide +kernel)) dX12_counts_122 ?_
          refine lv_goto (tgt := 129) hx hb dX12_counts_125 (by decide) ?_
          obtain ⟨J26, eJ26⟩ := zex (va_up J23 0 (va_up (J23 0) 24 1000000))
          replace hf := zn_s eJ26 hf
          refine zput (D := D) (ci := 11) (v := .long 1000000) (ty := .long) (C := RX12) (T := TX12) (N := 31) hx hb hts hinX12_counts_X12 tyX12 tyX12_ok nmX12 hown E.1 hP hD.D hS 0 (zO.get (oX12_at)) rfl 24 (by decide) (hts (.fieldLink RX12 181 "EdgeAndSpeedModel" "perSpoilt" "J") (by decide +kernel)) (fun _ h9 => h9) rfl (tyX12_ok 24 (by decide)) rfl rfl (Nat.le_of_ble_eq_true rfl) dX12_counts_129 (zO.setJ (oX12_at) rfl eJ26) (fun H locs hP hS => ?_)
          exact hret _ hf _ _ _ _ hP hS dX12_counts_132
      refine lv_if_ne (tgt := 101) hx hb dX12_counts_92 (by decide) (fun k18 => ?_) (fun k18 => ?_)
      · replace hf := zf k18 hf
        refine lv_iload_n hx hb dX12_counts_101 rfl (lv_at hl 1 rfl) ?_
        refine lv_iconst (v := 1) hx hb dX12_counts_102 (by decide) ?_
        refine lv_icmp_ne (tgt := 112) hx hb dX12_counts_103 (by decide) (fun k21 => ?_) (fun k21 => ?_)
        · replace hf := zf k21 hf
          refine lv_lconst (v := 0) hx hb dX12_counts_112 (by decide) ?_
          exact hjr20 _ (Option.some.inj hf) _ _ _ hP hS (lv_sub hl [0, 1] rfl)
        · replace hf := zt k21 hf
          refine lv_ldc2 hx hb hown (hts (.constantLong RX12 198 100000) (by decide +kernel)) dX12_counts_106 ?_
          refine lv_goto (tgt := 113) hx hb dX12_counts_109 (by decide) ?_
          exact hjr20 _ (Option.some.inj hf) _ _ _ hP hS (lv_sub hl [0, 1] rfl)
      · replace hf := zt k18 hf
        refine lv_ldc2 hx hb hown (hts (.constantLong RX12 196 (-1)) (by decide +kernel)) dX12_counts_95 ?_
        refine lv_goto (tgt := 113) hx hb dX12_counts_98 (by decide) ?_
        exact hjr20 _ (Option.some.inj hf) _ _ _ hP hS (lv_sub hl [0, 1] rfl)
    refine lv_if_ne (tgt := 67) hx hb dX12_counts_30 (by decide) (fun k8 => ?_) (fun k8 => ?_)
    · replace hf := zf k8 hf
      refine lv_iload_n hx hb dX12_counts_67 rfl (lv_at hl 1 rfl) ?_
      refine lv_iconst (v := 2) hx hb dX12_counts_68 (by decide) ?_
      refine lv_icmp_ne (tgt := 76) hx hb dX12_counts_69 (by decide) (fun k11 => ?_) (fun k11 => ?_)
      · replace hf := zf k11 hf
        refine lv_ldc2 hx hb hown (hts (.constantLong RX12 164 100) (by decide +kernel)) dX12_counts_76 ?_
        refine lv_aload_n hx hb dX12_counts_79 rfl (lv_at hl 0 rfl) ?_
        refine va_get (D := D) (ci := 11) (v := .ref (ad 11)) (C := RX12) (T := TX12) (N := 31) hx hb hts hinX12_counts_X12 hown E.1 hP 0 (zO.get (oX12_at)) rfl 12 (by decide) (hts (.fieldLink RX12 41 "EdgeAndSpeedModel" "rest" "[I") (by decide +kernel)) (fun _ h9 => h9) rfl dX12_counts_80 ?_
        refine lv_iconst (v := 0) hx hb dX12_counts_83 (by decide) ?_
        obtain ⟨g12, hf⟩ := zg_i hf
        refine va_iald hx hb E.1 hP 11 1 (zIA.get (aX12_12)) rfl g12 dX12_counts_84 ?_
        refine lv_i2l hx hb dX12_counts_85 rfl ?_
        refine lv_lmul hx hb dX12_counts_86 ?_
        exact hjr10 _ (Option.some.inj hf) _ _ _ hP hS (lv_sub hl [0, 1] rfl)
      · replace hf := zt k11 hf
        refine lv_lconst (v := 0) hx hb dX12_counts_72 (by decide) ?_
        refine lv_goto (tgt := 87) hx hb dX12_counts_73 (by decide) ?_
        exact hjr10 _ (Option.some.inj hf) _ _ _ hP hS (lv_sub hl [0, 1] rfl)
    · replace hf := zt k8 hf
      refine lv_ldc2 hx hb hown (hts (.constantLong RX12 164 100) (by decide +kernel)) dX12_counts_33 ?_
      refine lv_aload_n hx hb dX12_counts_36 rfl (lv_at hl 0 rfl) ?_
      refine va_get (D := D) (ci := 11) (v := .ref (ad 11)) (C := RX12) (T := TX12) (N := 31) hx hb hts hinX12_counts_X12 hown E.1 hP 0 (zO.get (oX12_at)) rfl 12 (by decide) (hts (.fieldLink RX12 41 "EdgeAndSpeedModel" "rest" "[I") (by decide +kernel)) (fun _ h9 => h9) rfl dX12_counts_37 ?_
      refine lv_iconst (v := 0) hx hb dX12_counts_40 (by decide) ?_
      obtain ⟨g13, hf⟩ := zg_i hf
      refine va_iald hx hb E.1 hP 11 1 (zIA.get (aX12_12)) rfl g13 dX12_counts_41 ?_
      refine lv_i2l hx hb dX12_counts_42 rfl ?_
      refine lv_lmul hx hb dX12_counts_43 ?_
      refine lv_aload_n hx hb dX12_counts_44 rfl (lv_at hl 0 rfl) ?_
      refine va_get (D := D) (ci := 11) (v := .ref (ad 11)) (C := RX12) (T := TX12) (N := 31) hx hb hts hinX12_counts_X12 hown E.1 hP 0 (zO.get (oX12_at)) rfl 12 (by decide) (hts (.fieldLink RX12 41 "EdgeAndSpeedModel" "rest" "[I") (by decide +kernel)) (fun _ h9 => h9) rfl dX12_counts_45 ?_
      refine lv_iconst (v := 2) hx hb dX12_counts_48 (by decide) ?_
      obtain ⟨g14, hf⟩ := zg_i hf
      refine va_iald hx hb E.1 hP 11 1 (zIA.get (aX12_12)) rfl g14 dX12_counts_49 ?_
      refine lv_i2l hx hb dX12_counts_50 rfl ?_
      refine lv_lmul hx hb dX12_counts_51 ?_
      refine lv_ldc2 hx hb hown (hts (.constantLong RX12 191 6000) (by decide +kernel)) dX12_counts_52 ?_
      refine lv_aload_n hx hb dX12_counts_55 rfl (lv_at hl 0 rfl) ?_
      refine va_get (D := D) (ci := 11) (v := .ref (ad 11)) (C := RX12) (T := TX12) (N := 31) hx hb hts hinX12_counts_X12 hown E.1 hP 0 (zO.get (oX12_at)) rfl 12 (by decide) (hts (.fieldLink RX12 41 "EdgeAndSpeedModel" "rest" "[I") (by decide +kernel)) (fun _ h9 => h9) rfl dX12_counts_56 ?_
      refine lv_iconst (v := 1) hx hb dX12_counts_59 (by decide) ?_
      obtain ⟨g15, hf⟩ := zg_i hf
      refine va_iald hx hb E.1 hP 11 1 (zIA.get (aX12_12)) rfl g15 dX12_counts_60 ?_
      refine lv_i2l hx hb dX12_counts_61 rfl ?_
      refine lv_lmul hx hb dX12_counts_62 ?_
      refine lv_ladd hx hb dX12_counts_63 ?_
      refine lv_goto (tgt := 87) hx hb dX12_counts_64 (by decide) ?_
      exact hjr10 _ (Option.some.inj hf) _ _ _ hP hS (lv_sub hl [0, 1] rfl)
  refine lv_if_ne (tgt := 15) hx hb dX12_counts_2 (by decide) (fun k1 => ?_) (fun k1 => ?_)
  · replace hf := zf k1 hf
    refine lv_iload_n hx hb dX12_counts_15 rfl (lv_at hl 1 rfl) ?_
    refine lv_iconst (v := 2) hx hb dX12_counts_16 (by decide) ?_
    refine lv_icmp_ne (tgt := 24) hx hb dX12_counts_17 (by decide) (fun k4 => ?_) (fun k4 => ?_)
    · replace hf := zf k4 hf
      refine lv_lconst (v := 1) hx hb dX12_counts_24 (by decide) ?_
      exact hjr3 _ (Option.some.inj hf) _ _ _ hP hS (lv_sub hl [0, 1] rfl)
    · replace hf := zt k4 hf
      refine lv_lconst (v := 0) hx hb dX12_counts_20 (by decide) ?_
      refine lv_goto (tgt := 25) hx hb dX12_counts_21 (by decide) ?_
      exact hjr3 _ (Option.some.inj hf) _ _ _ hP hS (lv_sub hl [0, 1] rfl)
  · replace hf := zt k1 hf
    refine lv_aload_n hx hb dX12_counts_5 rfl (lv_at hl 0 rfl) ?_
    refine va_get (D := D) (ci := 11) (v := .ref (ad 11)) (C := RX12) (T := TX12) (N := 31) hx hb hts hinX12_counts_X12 hown E.1 hP 0 (zO.get (oX12_at)) rfl 12 (by decide) (hts (.fieldLink RX12 41 "EdgeAndSpeedModel" "rest" "[I") (by decide +kernel)) (fun _ h9 => h9) rfl dX12_counts_6 ?_
    refine lv_iconst (v := 2) hx hb dX12_counts_9 (by decide) ?_
    obtain ⟨g5, hf⟩ := zg_i hf
    refine va_iald hx hb E.1 hP 11 1 (zIA.get (aX12_12)) rfl g5 dX12_counts_10 ?_
    refine lv_i2l hx hb dX12_counts_11 rfl ?_
    refine lv_goto (tgt := 25) hx hb dX12_counts_12 (by decide) ?_
    exact hjr3 _ (Option.some.inj hf) _ _ _ hP hS (lv_sub hl [0, 1] rfl)
theorem c_X12_counts (l : Launch) {D : va_G} {a0 : Nat → Nat} {A : Nat → Prop} {cy : Nat → ClassId} {ad : Nat → Nat} (hD : zD A 25 ad) {I : zI} {J : zJ} (p1 : Int32) {rJ : zJ} (hf : f_X12_counts I J p1 = some rJ) : Met l yX12_counts wsX12_counts { frames := 0, cells := 0, slots := 0, locals := 0 } (zPc D a0 A cy [.ref (ad 0), .int p1] (zw 25 (kM cy ad) ad I J)) (zQv D A (zw 25 (kM cy ad) ad I rJ)) 0 0 A :=
  zmet RX12 (by decide) rfl rfl (Nat.le_of_ble_eq_true rfl) (fun p e R s m below meth c Q hfr hlo ls S0 hQ => w_X12_counts hfr hlo hD p1 hf S0 (fun tJ hq H locs ls pc hP hS hd => by cases hq; exact hQ H locs _ hS (fun hx hb hr hlocks hfree => W.vret hx hb hr (fun t ht hW => ⟨⟨(), rfl, trivial, zht ht hP⟩, hS.F ht⟩) hfree hd hlocks)))
theorem ddX12_counts : yX12_counts.cls = RX12 ∧ yX12_counts.cls ≠ "java/lang/invoke/MethodHandle" ∧ yX12_counts.cls ≠ "java/lang/invoke/VarHandle" ∧ (parseMethodDescriptor yX12_counts.desc).map (fun d => d.parameters.length) = some 1 := by decide +kernel

def f_X12_solves_L57 (J18 : zJ) (x4 : Int32) (x9 : Int32) (x16 : Int32) (p1 : Int32) (x20 : Int32) (u25 : Int64) (x26 : Int32) (I27 : zI) : Option ((Int64 × Int32 × zI) ⊕ (Int64 × zI)) := (if 50 ≤ x26 then some (.inr (u25, I27)) else zb1 (f_X12_can I27 J18 x4 x9 x16 x26) (fun x29 => (if x29 = 0 then zn (x26 + 1) (fun y32 => some (.inl (u25, y32, I27))) else zb1 (f_X12_comes I27 J18 x4 x9 x16 p1 x26) (fun u33 => zg (¬ (x20 < 0 ∨ 7272 ≤ x20.toNatClampNeg)) ((if (I27 15 x20.toNatClampNeg) < 0 then zg (¬ (x20 < 0 ∨ 7272 ≤ x20.toNatClampNeg)) (zn (va_up I27 15 (upd (I27 15) x20.toNatClampNeg x26)) (fun I37 => zn (x26 + 1) (fun y39 => some (.inl (u33, y39, I37))))) else (if (lg_cmp u33 u25) ≤ 0 then zn (x26 + 1) (fun y41 => some (.inl (u25, y41, I27))) else zg (¬ (x20 < 0 ∨ 7272 ≤ x20.toNatClampNeg)) (zn (va_up I27 15 (upd (I27 15) x20.toNatClampNeg x26)) (fun I42 => zn (x26 + 1) (fun y44 => some (.inl (u33, y44, I42))))))))))))
def f_X12_solves_L27 (x4 : Int32) (x9 : Int32) (p1 : Int32) (x16 : Int32) (I17 : zI) (J18 : zJ) : Option ((Int32 × zI × zJ) ⊕ (zI × zJ)) := (if 100 < x16 then some (.inr (I17, J18)) else zb1 (f_X12_cell I17 J18 x4 x9 x16) (fun x20 => zg (¬ (x20 < 0 ∨ 7272 ≤ x20.toNatClampNeg)) (zn (va_up I17 15 (upd (I17 15) x20.toNatClampNeg (-1))) (fun I22 => zb2 (zl (fun v : (Int64 × Int32 × zI) => f_X12_solves_L57 J18 x4 x9 x16 p1 x20 v.1 v.2.1 v.2.2) zF (0, 0, I22)) (fun u45 I46 => zg (¬ (x20 < 0 ∨ 7272 ≤ x20.toNatClampNeg)) (zn (va_up J18 16 (vp_updL (J18 16) x20.toNatClampNeg u45)) (fun J47 => zn (x16 + 1) (fun y49 => some (.inl (y49, I46, J47))))))))))
def f_X12_solves_L15 (x4 : Int32) (p1 : Int32) (x9 : Int32) (I10 : zI) (J11 : zJ) : Option ((Int32 × zI × zJ) ⊕ (zI × zJ)) := zb1 (f_X12_steps I10 J11 x4) (fun x12 => (if x12 < x9 then some (.inr (I10, J11)) else zb2 (zl (fun v : (Int32 × zI × zJ) => f_X12_solves_L27 x4 x9 p1 v.1 v.2.1 v.2.2) zF (0, I10, J11)) (fun I50 J51 => zn (x9 + 1) (fun y52 => some (.inl (y52, I50, J51))))))
def f_X12_solves_L9 (p1 : Int32) (x4 : Int32) (I5 : zI) (J6 : zJ) : Option ((Int32 × zI × zJ) ⊕ (zI × zJ)) := (if x4 < 0 then some (.inr (I5, J6)) else zb2 (zl (fun v : (Int32 × zI × zJ) => f_X12_solves_L15 x4 p1 v.1 v.2.1 v.2.2) zF (1, I5, J6)) (fun I53 J54 => zn (x4 + (-1)) (fun y55 => some (.inl (y55, I53, J54)))))
def f_X12_solves (I : zI) (J : zJ) (p1 : Int32) : Option (zI × zJ) := zg (¬ ((0 : Int32) < 0 ∨ 2 ≤ (0 : Int32).toNatClampNeg)) (zn (((I 5 (0 : Int32).toNatClampNeg) - 1)) (fun y2 => zb2 (zl (fun v : (Int32 × zI × zJ) => f_X12_solves_L9 p1 v.1 v.2.1 v.2.2) zF (y2, I, J)) (fun I56 J57 => some (I56, J57))))
theorem hinX12_solves_X12 : ∀ w ∈ u_ws RX12 TX12 31, w ∈ wsX12_solves := by decide +kernel
set_option maxHeartbeats 4000000 in
set_option maxRecDepth 100000 in
theorem w_X12_solves {p : Program} {l : Launch} {e : Env} {R : Room} {s : State} {m : MethodId} {args : Array Value} {below : List Frame} {meth : Method} {c : Code} {Q : State → Prop} (hfr : 3 ≤ R.frames) (hlo : 76 ≤ R.locals) {D : va_G} {a0 : Nat → Nat} {A : Nat → Prop} {cy : Nat → ClassId} {ad : Nat → Nat} (hD : zD A 25 ad) {I : zI} {J : zJ} (p1 : Int32) {rI : zI} {rJ : zJ} (hf : f_X12_solves I J p1 = some (rI, rJ)) {ls : Array Slot} (S0 : zSt p m c cX12_solves 11 s args wsX12_solves RX12 D a0 A cy (zw 25 (kM cy ad) ad I J) [.ref (ad 0), .int p1] ls) (hret : ∀ (tI : zI) (tJ : zJ), some (tI, tJ) = some (rI, rJ) → ∀ (H : Heap) (locs : List Loc) (ls : Array Slot) (pc : Nat), va_P D vwCl (zw 25 (kM cy ad) ad tI tJ) H → va_S A s.heap H locs → decode cX12_solves pc = .ok (.return_, 1) → W p l e R s m args below meth c H locs 0 0 Q (F0 m pc ls [])) : W p l e R s m args below meth c s.heap [] 0 0 Q (F0 m 0 ls []) := by
  obtain ⟨S, E, hP, hl⟩ := S0
  obtain ⟨hx, hb, hml, hown, hts⟩ := id S
  have hS : va_S A s.heap s.heap [] := va_S.rf
  replace hl : lv_has ls 11 [(0, .ref (ad 0)), (1, .int p1)] := hl
  unfold f_X12_solves at hf
  refine lv_aload_n hx hb dX12_solves_0 rfl (lv_at hl 0 rfl) ?_
  refine va_get (D := D) (ci := 11) (v := .ref (ad 5)) (C := RX12) (T := TX12) (N := 31) hx hb hts hinX12_solves_X12 hown E.1 hP 0 (zO.get (oX12_at)) rfl 6 (by decide) (hts (.fieldLink RX12 23 "EdgeAndSpeedModel" "pieces" "[I") (by decide +kernel)) (fun _ h9 => h9) rfl dX12_solves_1 ?_
  refine lv_iconst (v := 0) hx hb dX12_solves_4 (by decide) ?_
  obtain ⟨g1, hf⟩ := zg_i hf
  refine va_iald hx hb E.1 hP 5 1 (zIA.get (aX12_6)) rfl g1 dX12_solves_5 ?_
  refine lv_iconst (v := 1) hx hb dX12_solves_6 (by decide) ?_
  refine lv_isub hx hb dX12_solves_7 ?_
  refine lv_topi (fun y2 ey2 => ?_)
  replace hf := zn_s ey2 hf
  refine lv_istore_n (lv' := [(2, .int y2), (0, .ref (ad 0)), (1, .int p1)]) hx hb dX12_solves_8 rfl hl (by decide) rfl (fun ls hl => ?_)
  obtain ⟨zl3, hf, hzl3⟩ := zb2_i hf
  have hjl3 : ∀ (I56 : zI) (J57 : zJ), (I56, J57) = zl3 → ∀ (H : Heap) (locs : List Loc) (ls : Array Slot), va_P D vwCl (zw 25 (kM cy ad) ad I56 J57) H → va_S A s.heap H locs → lv_has ls 11 [] → W p l e R s m args below meth c H locs 0 0 Q (F0 m 154 ls []) := by
    intro I56 J57 ez H locs ls hP hS hl
    have hf := hzl3 I56 J57 ez
    exact hret _ _ hf _ _ _ _ hP hS dX12_solves_154
  refine zl_i (V := (Int32 × zI × zJ)) (P := fun v => ∀ (H : Heap) (locs : List Loc) (ls : Array Slot), va_P D vwCl (zw 25 (kM cy ad) ad v.2.1 v.2.2) H → va_S A s.heap H locs → lv_has ls 11 [(0, .ref (ad 0)), (1, .int p1), (2, .int (v.1))] → W p l e R s m args below meth c H locs 0 0 Q (F0 m 9 ls [])) ?_ _ _ hf _ _ _ hP hS (lv_sub hl [1, 2, 0] rfl)
  intro v z hf hcl3 hdl3
  obtain ⟨x4, I5, J6⟩ := v
  intro H locs ls hP hS hl
  replace hf : f_X12_solves_L9 p1 x4 I5 J6 = some z := hf
  unfold f_X12_solves_L9 at hf
  replace hP : va_P D vwCl (zw 25 (kM cy ad) ad I5 J6) H := hP
  replace hl : lv_has ls 11 [(0, .ref (ad 0)), (1, .int p1), (2, .int x4)] := hl
  refine lv_iload_n hx hb dX12_solves_9 rfl (lv_at hl 2 rfl) ?_
  refine lv_if_lt (tgt := 154) hx hb dX12_solves_10 (by decide) (fun k7 => ?_) (fun k7 => ?_)
  · replace hf := zt k7 hf
    exact hjl3 _ _ (hdl3 _ (Option.some.inj hf).symm) _ _ _ hP hS (lv_sub hl [] rfl)
  · replace hf := zf k7 hf
    refine lv_iconst (v := 1) hx hb dX12_solves_13 (by decide) ?_
    refine lv_istore_n (lv' := [(3, .int 1), (0, .ref (ad 0)), (1, .int p1), (2, .int x4)]) hx hb dX12_solves_14 rfl hl (by decide) rfl (fun ls hl => ?_)
    obtain ⟨zl8, hf, hzl8⟩ := zb2_i hf
    have hjl8 : ∀ (I53 : zI) (J54 : zJ), (I53, J54) = zl8 → ∀ (H : Heap) (locs : List Loc) (ls : Array Slot), va_P D vwCl (zw 25 (kM cy ad) ad I53 J54) H → va_S A s.heap H locs → lv_has ls 11 [(0, .ref (ad 0)), (1, .int p1), (2, .int x4)] → W p l e R s m args below meth c H locs 0 0 Q (F0 m 148 ls []) := by
      intro I53 J54 ez H locs ls hP hS hl
      have hf := hzl8 I53 J54 ez
      obtain ⟨y55, ey55⟩ := zex (x4 + (-1))
      replace hf := zn_s ey55 hf
      refine lv_iinc (v := y55) (lv' := [(2, .int y55), (0, .ref (ad 0)), (1, .int p1)]) hx hb dX12_solves_148 hl (k := 2) rfl (by rw [ey55]; rfl) (by decide) rfl (fun ls hl => ?_)
      refine lv_goto (tgt := 9) hx hb dX12_solves_151 (by decide) ?_
      exact hcl3 _ (Option.some.inj hf).symm _ _ _ hP hS (lv_sub hl [1, 2, 0] rfl)
    refine zl_i (V := (Int32 × zI × zJ)) (P := fun v => ∀ (H : Heap) (locs : List Loc) (ls : Array Slot), va_P D vwCl (zw 25 (kM cy ad) ad v.2.1 v.2.2) H → va_S A s.heap H locs → lv_has ls 11 [(0, .ref (ad 0)), (1, .int p1), (2, .int x4), (3, .int (v.1))] → W p l e R s m args below meth c H locs 0 0 Q (F0 m 15 ls [])) ?_ _ _ hf _ _ _ hP hS (lv_sub hl [1, 2, 3, 0] rfl)
    intro v z hf hcl8 hdl8
    obtain ⟨x9, I10, J11⟩ := v
    intro H locs ls hP hS hl
    replace hf : f_X12_solves_L15 x4 p1 x9 I10 J11 = some z := hf
    unfold f_X12_solves_L15 at hf
    replace hP : va_P D vwCl (zw 25 (kM cy ad) ad I10 J11) H := hP
    replace hl : lv_has ls 11 [(0, .ref (ad 0)), (1, .int p1), (2, .int x4), (3, .int x9)] := hl
    refine lv_iload_n hx hb dX12_solves_15 rfl (lv_at hl 3 rfl) ?_
    refine lv_aload_n hx hb dX12_solves_16 rfl (lv_at hl 0 rfl) ?_
    refine lv_iload_n hx hb dX12_solves_17 rfl (lv_at hl 2 rfl) ?_
    obtain ⟨x12, h13, hf⟩ := zb1_e hf
    refine zgo_i (zrunV (As := [.int x4]) (rest := [.int x9]) S (c_X12_steps l hD x4 h13) (cwV 1 hts gX12_solves_X12_steps rfl rfl rfl ddX12_steps ⟨Nat.le_trans (Nat.le_of_ble_eq_true rfl) hfr, Nat.le_trans (Nat.le_of_ble_eq_true rfl) hlo⟩) (va_recv E.1 hP (q := (RX12, TX12, 31)) (ci := 11) rfl (zO.get (oX12_at))) E hP hS hl.1 rfl rfl (Nat.le_of_ble_eq_true rfl) dX12_solves_18) hS (fun H locs hP hS => ?_)
    refine lv_icmp_gt (tgt := 148) hx hb dX12_solves_21 (by decide) (fun k14 => ?_) (fun k14 => ?_)
    · replace hf := zt k14 hf
      exact hjl8 _ _ (hdl8 _ (Option.some.inj hf).symm) _ _ _ hP hS (lv_sub hl [0, 1, 2] rfl)
    · replace hf := zf k14 hf
      refine lv_iconst (v := 0) hx hb dX12_solves_24 (by decide) ?_
      refine lv_istore (lv' := [(4, .int 0), (0, .ref (ad 0)), (1, .int p1), (2, .int x4), (3, .int x9)]) hx hb dX12_solves_25 hl (by decide) rfl (fun ls hl => ?_)
      obtain ⟨zl15, hf, hzl15⟩ := zb2_i hf
      have hjl15 : ∀ (I50 : zI) (J51 : zJ), (I50, J51) = zl15 → ∀ (H : Heap) (locs : List Loc) (ls : Array Slot), va_P D vwCl (zw 25 (kM cy ad) ad I50 J51) H → va_S A s.heap H locs → lv_has ls 11 [(0, .ref (ad 0)), (1, .int p1), (2, .int x4), (3, .int x9)] → W p l e R s m args below meth c H locs 0 0 Q (F0 m 142 ls []) := by
        intro I50 J51 ez H locs ls hP hS hl
        have hf := hzl15 I50 J51 ez
        obtain ⟨y52, ey52⟩ := zex (x9 + 1)
        replace hf := zn_s ey52 hf
        refine lv_iinc (v := y52) (lv' := [(3, .int y52), (0, .ref (ad 0)), (1, .int p1), (2, .int x4)]) hx hb dX12_solves_142 hl (k := 3) rfl (by rw [ey52]; rfl) (by decide) rfl (fun ls hl => ?_)
        refine lv_goto (tgt := 15) hx hb dX12_solves_145 (by decide) ?_
        exact hcl8 _ (Option.some.inj hf).symm _ _ _ hP hS (lv_sub hl [1, 2, 3, 0] rfl)
      refine zl_i (V := (Int32 × zI × zJ)) (P := fun v => ∀ (H : Heap) (locs : List Loc) (ls : Array Slot), va_P D vwCl (zw 25 (kM cy ad) ad v.2.1 v.2.2) H → va_S A s.heap H locs → lv_has ls 11 [(0, .ref (ad 0)), (1, .int p1), (2, .int x4), (3, .int x9), (4, .int (v.1))] → W p l e R s m args below meth c H locs 0 0 Q (F0 m 27 ls [])) ?_ _ _ hf _ _ _ hP hS (lv_sub hl [1, 2, 3, 4, 0] rfl)
      intro v z hf hcl15 hdl15
      obtain ⟨x16, I17, J18⟩ := v
      intro H locs ls hP hS hl
      replace hf : f_X12_solves_L27 x4 x9 p1 x16 I17 J18 = some z := hf
      unfold f_X12_solves_L27 at hf
      replace hP : va_P D vwCl (zw 25 (kM cy ad) ad I17 J18) H := hP
      replace hl : lv_has ls 11 [(0, .ref (ad 0)), (1, .int p1), (2, .int x4), (3, .int x9), (4, .int x16)] := hl
      refine lv_iload hx hb dX12_solves_27 (lv_at hl 4 rfl) ?_
      refine lv_bipush (v := 100) hx hb dX12_solves_29 (by decide) ?_
      refine lv_icmp_gt (tgt := 142) hx hb dX12_solves_31 (by decide) (fun k19 => ?_) (fun k19 => ?_)
      · replace hf := zt k19 hf
        exact hjl15 _ _ (hdl15 _ (Option.some.inj hf).symm) _ _ _ hP hS (lv_sub hl [0, 1, 2, 3] rfl)
      · replace hf := zf k19 hf
        refine lv_iload_n hx hb dX12_solves_34 rfl (lv_at hl 2 rfl) ?_
        refine lv_iload_n hx hb dX12_solves_35 rfl (lv_at hl 3 rfl) ?_
        refine lv_iload hx hb dX12_solves_36 (lv_at hl 4 rfl) ?_
        obtain ⟨x20, h21, hf⟩ := zb1_e hf
        refine zgo_i (zrunS (As := [.int x4, .int x9, .int x16]) (rest := []) S (c_X12_cell l hD x4 x9 x16 h21) (va_cwS 3 hts gX12_solves_X12_cell rfl rfl rfl ddX12_cell ⟨Nat.le_trans (Nat.le_of_ble_eq_true rfl) hfr, Nat.le_trans (Nat.le_of_ble_eq_true rfl) hlo⟩) E hP hS hl.1 rfl rfl (Nat.le_of_ble_eq_true rfl) dX12_solves_38) hS (fun H locs hP hS => ?_)
        refine lv_istore (lv' := [(5, .int x20), (0, .ref (ad 0)), (1, .int p1), (2, .int x4), (3, .int x9), (4, .int x16)]) hx hb dX12_solves_41 hl (by decide) rfl (fun ls hl => ?_)
        refine lv_aload_n hx hb dX12_solves_43 rfl (lv_at hl 1 rfl) ?_
        refine va_get (D := D) (ci := 11) (v := .ref (ad 15)) (C := RX12) (T := TX12) (N := 31) hx hb hts hinX12_solves_X12 hown E.1 hP 0 (zO.get (oX12_at)) rfl 17 (by decide) (hts (.fieldLink RX12 53 "EdgeAndSpeedModel" "act" "[I") (by decide +kernel)) (fun _ h9 => h9) rfl dX12_solves_44 ?_
        refine lv_iload hx hb dX12_solves_47 (lv_at hl 0 rfl) ?_
        refine lv_iconst (v := (-1)) hx hb dX12_solves_49 (by decide) ?_
        obtain ⟨g23, hf⟩ := zg_i hf
        obtain ⟨I22, eI22⟩ := zex (va_up I17 15 (upd (I17 15) x20.toNatClampNeg (-1)))
        replace hf := zn_s eI22 hf
        refine zast_i hx hb E.1 hP hD.D hS (aX12_17) g23 dX12_solves_50 eI22 (fun H locs hP hS => ?_)
        refine lv_lconst (v := 0) hx hb dX12_solves_51 (by decide) ?_
        refine lv_lstore (lv' := [(6, .long 0), (5, .int x20), (0, .ref (ad 0)), (1, .int p1), (2, .int x4), (3, .int x9), (4, .int x16)]) hx hb dX12_solves_52 hl (by decide) rfl (fun ls hl => ?_)
        refine lv_iconst (v := 0) hx hb dX12_solves_54 (by decide) ?_
        refine lv_istore (lv' := [(8, .int 0), (6, .long 0), (5, .int x20), (0, .ref (ad 0)), (1, .int p1), (2, .int x4), (3, .int x9), (4, .int x16)]) hx hb dX12_solves_55 hl (by decide) rfl (fun ls hl => ?_)
        obtain ⟨zl24, hf, hzl24⟩ := zb2_i hf
        have hjl24 : ∀ (u45 : Int64) (I46 : zI), (u45, I46) = zl24 → ∀ (H : Heap) (locs : List Loc) (ls : Array Slot), va_P D vwCl (zw 25 (kM cy ad) ad I46 J18) H → va_S A s.heap H locs → lv_has ls 11 [(0, .ref (ad 0)), (1, .int p1), (2, .int x4), (3, .int x9), (4, .int x16), (5, .int x20), (6, .long u45)] → W p l e R s m args below meth c H locs 0 0 Q (F0 m 127 ls []) := by
          intro u45 I46 ez H locs ls hP hS hl
          have hf := hzl24 u45 I46 ez
          refine lv_aload_n hx hb dX12_solves_127 rfl (lv_at hl 0 rfl) ?_
          refine va_get (D := D) (ci := 11) (v := .ref (ad 16)) (C := RX12) (T := TX12) (N := 31) hx hb hts hinX12_solves_X12 hown E.1 hP 0 (zO.get (oX12_at)) rfl 18 (by decide) (hts (.fieldLink RX12 56 "EdgeAndSpeedModel" "value" "[J") (by decide +kernel)) (fun _ h9 => h9) rfl dX12_solves_128 ?_
          refine lv_iload hx hb dX12_solves_131 (lv_at hl 5 rfl) ?_
          refine lv_lload hx hb dX12_solves_133 (lv_at hl 6 rfl) ?_
          obtain ⟨g48, hf⟩ := zg_i hf
          obtain ⟨J47, eJ47⟩ := zex (va_up J18 16 (vp_updL (J18 16) x20.toNatClampNeg u45))
          replace hf := zn_s eJ47 hf
          refine zast_l hx hb E.1 hP hD.D hS (aX12_18) g48 dX12_solves_135 eJ47 (fun H locs hP hS => ?_)
          obtain ⟨y49, ey49⟩ := zex (x16 + 1)
          replace hf := zn_s ey49 hf
          refine lv_iinc (v := y49) (lv' := [(4, .int y49), (0, .ref (ad 0)), (1, .int p1), (2, .int x4), (3, .int x9), (5, .int x20), (6, .long u45)]) hx hb dX12_solves_136 hl (k := 4) rfl (by rw [ey49]; rfl) (by decide) rfl (fun ls hl => ?_)
          refine lv_goto (tgt := 27) hx hb dX12_solves_139 (by decide) ?_
          exact hcl15 _ (Option.some.inj hf).symm _ _ _ hP hS (lv_sub hl [1, 2, 3, 4, 0] rfl)
        refine zl_i (V := (Int64 × Int32 × zI)) (P := fun v => ∀ (H : Heap) (locs : List Loc) (ls : Array Slot), va_P D vwCl (zw 25 (kM cy ad) ad v.2.2 J18) H → va_S A s.heap H locs → lv_has ls 11 [(0, .ref (ad 0)), (1, .int p1), (2, .int x4), (3, .int x9), (4, .int x16), (5, .int x20), (6, .long (v.1)), (8, .int (v.2.1))] → W p l e R s m args below meth c H locs 0 0 Q (F0 m 57 ls [])) ?_ _ _ hf _ _ _ hP hS (lv_sub hl [3, 4, 5, 6, 7, 2, 1, 0] rfl)
        intro v z hf hcl24 hdl24
        obtain ⟨u25, x26, I27⟩ := v
        intro H locs ls hP hS hl
        replace hf : f_X12_solves_L57 J18 x4 x9 x16 p1 x20 u25 x26 I27 = some z := hf
        unfold f_X12_solves_L57 at hf
        replace hP : va_P D vwCl (zw 25 (kM cy ad) ad I27 J18) H := hP
        replace hl : lv_has ls 11 [(0, .ref (ad 0)), (1, .int p1), (2, .int x4), (3, .int x9), (4, .int x16), (5, .int x20), (6, .long u25), (8, .int x26)] := hl
        refine lv_iload hx hb dX12_solves_57 (lv_at hl 7 rfl) ?_
        refine lv_bipush (v := 50) hx hb dX12_solves_59 (by decide) ?_
        refine lv_icmp_ge (tgt := 127) hx hb dX12_solves_61 (by decide) (fun k28 => ?_) (fun k28 => ?_)
        · replace hf := zt k28 hf
          exact hjl24 _ _ (hdl24 _ (Option.some.inj hf).symm) _ _ _ hP hS (lv_sub hl [0, 1, 2, 3, 4, 5, 6] rfl)
        · replace hf := zf k28 hf
          refine lv_aload_n hx hb dX12_solves_64 rfl (lv_at hl 0 rfl) ?_
          refine lv_iload_n hx hb dX12_solves_65 rfl (lv_at hl 2 rfl) ?_
          refine lv_iload_n hx hb dX12_solves_66 rfl (lv_at hl 3 rfl) ?_
          refine lv_iload hx hb dX12_solves_67 (lv_at hl 4 rfl) ?_
          refine lv_iload hx hb dX12_solves_69 (lv_at hl 7 rfl) ?_
          obtain ⟨x29, h30, hf⟩ := zb1_e hf
          refine zgo_i (zrunV (As := [.int x4, .int x9, .int x16, .int x26]) (rest := []) S (c_X12_can l hD x4 x9 x16 x26 h30) (cwV 4 hts gX12_solves_X12_can rfl rfl rfl ddX12_can ⟨Nat.le_trans (Nat.le_of_ble_eq_true rfl) hfr, Nat.le_trans (Nat.le_of_ble_eq_true rfl) hlo⟩) (va_recv E.1 hP (q := (RX12, TX12, 31)) (ci := 11) rfl (zO.get (oX12_at))) E hP hS hl.1 rfl rfl (Nat.le_of_ble_eq_true rfl) dX12_solves_71) hS (fun H locs hP hS => ?_)
          refine lv_if_eq (tgt := 121) hx hb dX12_solves_74 (by decide) (fun k31 => ?_) (fun k31 => ?_)
          · replace hf := zt k31 hf
            obtain ⟨y32, ey32⟩ := zex (x26 + 1)
            replace hf := zn_s ey32 hf
            refine lv_iinc (v := y32) (lv' := [(8, .int y32), (0, .ref (ad 0)), (1, .int p1), (2, .int x4), (3, .int x9), (4, .int x16), (5, .int x20), (6, .long u25)]) hx hb dX12_solves_121 hl (k := 7) rfl (by rw [ey32]; rfl) (by decide) rfl (fun ls hl => ?_)
            refine lv_goto (tgt := 57) hx hb dX12_solves_124 (by decide) ?_
            exact hcl24 _ (Option.some.inj hf).symm _ _ _ hP hS (lv_sub hl [1, 2, 3, 4, 5, 6, 7, 0] rfl)
          · replace hf := zf k31 hf
            refine lv_aload_n hx hb dX12_solves_77 rfl (lv_at hl 0 rfl) ?_
            refine lv_iload_n hx hb dX12_solves_78 rfl (lv_at hl 2 rfl) ?_
            refine lv_iload_n hx hb dX12_solves_79 rfl (lv_at hl 3 rfl) ?_
            refine lv_iload hx hb dX12_solves_80 (lv_at hl 4 rfl) ?_
            refine lv_iload_n hx hb dX12_solves_82 rfl (lv_at hl 1 rfl) ?_
            refine lv_iload hx hb dX12_solves_83 (lv_at hl 7 rfl) ?_
            obtain ⟨u33, h34, hf⟩ := zb1_e hf
            refine zgo_l (zrunV (As := [.int x4, .int x9, .int x16, .int p1, .int x26]) (rest := []) S (c_X12_comes l hD x4 x9 x16 p1 x26 h34) (cwV 5 hts gX12_solves_X12_comes rfl rfl rfl ddX12_comes ⟨Nat.le_trans (Nat.le_of_ble_eq_true rfl) hfr, Nat.le_trans (Nat.le_of_ble_eq_true rfl) hlo⟩) (va_recv E.1 hP (q := (RX12, TX12, 31)) (ci := 11) rfl (zO.get (oX12_at))) E hP hS hl.1 rfl rfl (Nat.le_of_ble_eq_true rfl) dX12_solves_85) hS (fun H locs hP hS => ?_)
            refine lv_lstore (lv' := [(9, .long u33), (0, .ref (ad 0)), (1, .int p1), (2, .int x4), (3, .int x9), (4, .int x16), (5, .int x20), (6, .long u25), (8, .int x26)]) hx hb dX12_solves_88 hl (by decide) rfl (fun ls hl => ?_)
            refine lv_aload_n hx hb dX12_solves_90 rfl (lv_at hl 1 rfl) ?_
            refine va_get (D := D) (ci := 11) (v := .ref (ad 15)) (C := RX12) (T := TX12) (N := 31) hx hb hts hinX12_solves_X12 hown E.1 hP 0 (zO.get (oX12_at)) rfl 17 (by decide) (hts (.fieldLink RX12 53 "EdgeAndSpeedModel" "act" "[I") (by decide +kernel)) (fun _ h9 => h9) rfl dX12_solves_91 ?_
            refine lv_iload hx hb dX12_solves_94 (lv_at hl 6 rfl) ?_
            obtain ⟨g35, hf⟩ := zg_i hf
            refine va_iald hx hb E.1 hP 15 1 (zIA.get (aX12_17)) rfl g35 dX12_solves_96 ?_
            refine lv_if_lt (tgt := 108) hx hb dX12_solves_97 (by decide) (fun k36 => ?_) (fun k36 => ?_)
            · replace hf := zt k36 hf
              refine lv_aload_n hx hb dX12_solves_108 rfl (lv_at hl 1 rfl) ?_
              refine va_get (D := D) (ci := 11) (v := .ref (ad 15)) (C := RX12) (T := TX12) (N := 31) hx hb hts hinX12_solves_X12 hown E.1 hP 0 (zO.get (oX12_at)) rfl 17 (by decide) (hts (.fieldLink RX12 53 "EdgeAndSpeedModel" "act" "[I") (by decide +kernel)) (fun _ h9 => h9) rfl dX12_solves_109 ?_
              refine lv_iload hx hb dX12_solves_112 (lv_at hl 6 rfl) ?_
              refine lv_iload hx hb dX12_solves_114 (lv_at hl 8 rfl) ?_
              obtain ⟨g38, hf⟩ := zg_i hf
              obtain ⟨I37, eI37⟩ := zex (va_up I27 15 (upd (I27 15) x20.toNatClampNeg x26))
              replace hf := zn_s eI37 hf
              refine zast_i hx hb E.1 hP hD.D hS (aX12_17) g38 dX12_solves_116 eI37 (fun H locs hP hS => ?_)
              refine lv_lload hx hb dX12_solves_117 (lv_at hl 0 rfl) ?_
              refine lv_lstore (lv' := [(6, .long u33), (9, .long u33), (0, .ref (ad 0)), (1, .int p1), (2, .int x4), (3, .int x9), (4, .int x16), (5, .int x20), (8, .int x26)]) hx hb dX12_solves_119 hl (by decide) rfl (fun ls hl => ?_)
              obtain ⟨y39, ey39⟩ := zex (x26 + 1)
              replace hf := zn_s ey39 hf
              refine lv_iinc (v := y39) (lv' := [(8, .int y39), (6, .long u33), (9, .long u33), (0, .ref (ad 0)), (1, .int p1), (2, .int x4), (3, .int x9), (4, .int x16), (5, .int x20)]) hx hb dX12_solves_121 hl (k := 8) rfl (by rw [ey39]; rfl) (by decide) rfl (fun ls hl => ?_)
              refine lv_goto (tgt := 57) hx hb dX12_solves_124 (by decide) ?_
              exact hcl24 _ (Option.some.inj hf).symm _ _ _ hP hS (lv_sub hl [3, 4, 5, 6, 7, 8, 1, 0] rfl)
            · replace hf := zf k36 hf
              refine lv_lload hx hb dX12_solves_100 (lv_at hl 0 rfl) ?_
              refine lv_lload hx hb dX12_solves_102 (lv_at hl 7 rfl) ?_
              refine W.lcmp hx hb dX12_solves_104 ?_
              refine lv_if_le (tgt := 121) hx hb dX12_solves_105 (by decide) (fun k40 => ?_) (fun k40 => ?_)
              · replace hf := zt k40 hf
                obtain ⟨y41, ey41⟩ := zex (x26 + 1)
                replace hf := zn_s ey41 hf
                refine lv_iinc (v := y41) (lv' := [(8, .int y41), (9, .long u33), (0, .ref (ad 0)), (1, .int p1), (2, .int x4), (3, .int x9), (4, .int x16), (5, .int x20), (6, .long u25)]) hx hb dX12_solves_121 hl (k := 8) rfl (by rw [ey41]; rfl) (by decide) rfl (fun ls hl => ?_)
                refine lv_goto (tgt := 57) hx hb dX12_solves_124 (by decide) ?_
                exact hcl24 _ (Option.some.inj hf).symm _ _ _ hP hS (lv_sub hl [2, 3, 4, 5, 6, 7, 8, 0] rfl)
              · replace hf := zf k40 hf
                refine lv_aload_n hx hb dX12_solves_108 rfl (lv_at hl 1 rfl) ?_
                refine va_get (D := D) (ci := 11) (v := .ref (ad 15)) (C := RX12) (T := TX12) (N := 31) hx hb hts hinX12_solves_X12 hown E.1 hP 0 (zO.get (oX12_at)) rfl 17 (by decide) (hts (.fieldLink RX12 53 "EdgeAndSpeedModel" "act" "[I") (by decide +kernel)) (fun _ h9 => h9) rfl dX12_solves_109 ?_
                refine lv_iload hx hb dX12_solves_112 (lv_at hl 6 rfl) ?_
                refine lv_iload hx hb dX12_solves_114 (lv_at hl 8 rfl) ?_
                obtain ⟨g43, hf⟩ := zg_i hf
                obtain ⟨I42, eI42⟩ := zex (va_up I27 15 (upd (I27 15) x20.toNatClampNeg x26))
                replace hf := zn_s eI42 hf
                refine zast_i hx hb E.1 hP hD.D hS (aX12_17) g43 dX12_solves_116 eI42 (fun H locs hP hS => ?_)
                refine lv_lload hx hb dX12_solves_117 (lv_at hl 0 rfl) ?_
                refine lv_lstore (lv' := [(6, .long u33), (9, .long u33), (0, .ref (ad 0)), (1, .int p1), (2, .int x4), (3, .int x9), (4, .int x16), (5, .int x20), (8, .int x26)]) hx hb dX12_solves_119 hl (by decide) rfl (fun ls hl => ?_)
                obtain ⟨y44, ey44⟩ := zex (x26 + 1)
                replace hf := zn_s ey44 hf
                refine lv_iinc (v := y44) (lv' := [(8, .int y44), (6, .long u33), (9, .long u33), (0, .ref (ad 0)), (1, .int p1), (2, .int x4), (3, .int x9), (4, .int x16), (5, .int x20)]) hx hb dX12_solves_121 hl (k := 8) rfl (by rw [ey44]; rfl) (by decide) rfl (fun ls hl => ?_)
                refine lv_goto (tgt := 57) hx hb dX12_solves_124 (by decide) ?_
                exact hcl24 _ (Option.some.inj hf).symm _ _ _ hP hS (lv_sub hl [3, 4, 5, 6, 7, 8, 1, 0] rfl)
theorem c_X12_solves (l : Launch) {D : va_G} {a0 : Nat → Nat} {A : Nat → Prop} {cy : Nat → ClassId} {ad : Nat → Nat} (hD : zD A 25 ad) {I : zI} {J : zJ} (p1 : Int32) {rI : zI} {rJ : zJ} (hf : f_X12_solves I J p1 = some (rI, rJ)) : Met l yX12_solves wsX12_solves { frames := 3, cells := 0, slots := 0, locals := 76 } (zPc D a0 A cy [.ref (ad 0), .int p1] (zw 25 (kM cy ad) ad I J)) (zQv D A (zw 25 (kM cy ad) ad rI rJ)) 0 0 A :=
  zmet RX12 (by decide) rfl rfl (Nat.le_of_ble_eq_true rfl) (fun p e R s m below meth c Q hfr hlo ls S0 hQ => w_X12_solves hfr hlo hD p1 hf S0 (fun tI tJ hq H locs ls pc hP hS hd => by cases hq; exact hQ H locs _ hS (fun hx hb hr hlocks hfree => W.vret hx hb hr (fun t ht hW => ⟨⟨(), rfl, trivial, zht ht hP⟩, hS.F ht⟩) hfree hd hlocks)))
theorem ddX12_solves : yX12_solves.cls = RX12 ∧ yX12_solves.cls ≠ "java/lang/invoke/MethodHandle" ∧ yX12_solves.cls ≠ "java/lang/invoke/VarHandle" ∧ (parseMethodDescriptor yX12_solves.desc).map (fun d => d.parameters.length) = some 1 := by decide +kernel

def f_X12_follows_L27 (I : zI) (x4 : Int32) (x8 : Int32) (p1 : Int32) (x14 : Int32) (J15 : zJ) : Option ((Int32 × zJ) ⊕ zJ) := (if 100 < x14 then some (.inr J15) else zb1 (f_X12_cell I J15 x4 x8 x14) (fun x17 => zb1 (f_X12_cell I J15 x4 x8 x14) (fun x19 => zg (¬ (x19 < 0 ∨ 7272 ≤ x19.toNatClampNeg)) (zb1 (f_X12_comes I J15 x4 x8 x14 p1 (I 15 x19.toNatClampNeg)) (fun u22 => zg (¬ (x17 < 0 ∨ 7272 ≤ x17.toNatClampNeg)) (zn (va_up J15 16 (vp_updL (J15 16) x17.toNatClampNeg u22)) (fun J24 => zn (x14 + 1) (fun y26 => some (.inl (y26, J24))))))))))
def f_X12_follows_L15 (I : zI) (x4 : Int32) (p1 : Int32) (x8 : Int32) (J9 : zJ) : Option ((Int32 × zJ) ⊕ zJ) := zb1 (f_X12_steps I J9 x4) (fun x10 => (if x10 < x8 then some (.inr J9) else zb1 (zl (fun v : (Int32 × zJ) => f_X12_follows_L27 I x4 x8 p1 v.1 v.2) zF (0, J9)) (fun J27 => zn (x8 + 1) (fun y28 => some (.inl (y28, J27))))))
def f_X12_follows_L9 (I : zI) (p1 : Int32) (x4 : Int32) (J5 : zJ) : Option ((Int32 × zJ) ⊕ zJ) := (if x4 < 0 then some (.inr J5) else zb1 (zl (fun v : (Int32 × zJ) => f_X12_follows_L15 I x4 p1 v.1 v.2) zF (1, J5)) (fun J29 => zn (x4 + (-1)) (fun y30 => some (.inl (y30, J29)))))
def f_X12_follows (I : zI) (J : zJ) (p1 : Int32) : Option zJ := zg (¬ ((0 : Int32) < 0 ∨ 2 ≤ (0 : Int32).toNatClampNeg)) (zn (((I 5 (0 : Int32).toNatClampNeg) - 1)) (fun y2 => zb1 (zl (fun v : (Int32 × zJ) => f_X12_follows_L9 I p1 v.1 v.2) zF (y2, J)) (fun J31 => some J31)))
theorem hinX12_follows_X12 : ∀ w ∈ u_ws RX12 TX12 31, w ∈ wsX12_follows := by decide +kernel
set_option maxHeartbeats 4000000 in
set_option maxRecDepth 100000 in
theorem w_X12_follows {p : Program} {l : Launch} {e : Env} {R : Room} {s : State} {m : MethodId} {args : Array Value} {below : List Frame} {meth : Method} {c : Code} {Q : State → Prop} (hfr : 3 ≤ R.frames) (hlo : 76 ≤ R.locals) {D : va_G} {a0 : Nat → Nat} {A : Nat → Prop} {cy : Nat → ClassId} {ad : Nat → Nat} (hD : zD A 25 ad) {I : zI} {J : zJ} (p1 : Int32) {rJ : zJ} (hf : f_X12_follows I J p1 = some rJ) {ls : Array Slot} (S0 : zSt p m c cX12_follows 5 s args wsX12_follows RX12 D a0 A cy (zw 25 (kM cy ad) ad I J) [.ref (ad 0), .int p1] ls) (hret : ∀ (tJ : zJ), some tJ = some rJ → ∀ (H : Heap) (locs : List Loc) (ls : Array Slot) (pc : Nat), va_P D vwCl (zw 25 (kM cy ad) ad I tJ) H → va_S A s.heap H locs → decode cX12_follows pc = .ok (.return_, 1) → W p l e R s m args below meth c H locs 0 0 Q (F0 m pc ls [])) : W p l e R s m args below meth c s.heap [] 0 0 Q (F0 m 0 ls []) := by
  obtain ⟨S, E, hP, hl⟩ := S0
  obtain ⟨hx, hb, hml, hown, hts⟩ := id S
  have hS : va_S A s.heap s.heap [] := va_S.rf
  replace hl : lv_has ls 5 [(0, .ref (ad 0)), (1, .int p1)] := hl
  unfold f_X12_follows at hf
  refine lv_aload_n hx hb dX12_follows_0 rfl (lv_at hl 0 rfl) ?_
  refine va_get (D := D) (ci := 11) (v := .ref (ad 5)) (C := RX12) (T := TX12) (N := 31) hx hb hts hinX12_follows_X12 hown E.1 hP 0 (zO.get (oX12_at)) rfl 6 (by decide) (hts (.fieldLink RX12 23 "EdgeAndSpeedModel" "pieces" "[I") (by decide +kernel)) (fun _ h9 => h9) rfl dX12_follows_1 ?_
  refine lv_iconst (v := 0) hx hb dX12_follows_4 (by decide) ?_
  obtain ⟨g1, hf⟩ := zg_i hf
  refine va_iald hx hb E.1 hP 5 1 (zIA.get (aX12_6)) rfl g1 dX12_follows_5 ?_
  refine lv_iconst (v := 1) hx hb dX12_follows_6 (by decide) ?_
  refine lv_isub hx hb dX12_follows_7 ?_
  refine lv_topi (fun y2 ey2 => ?_)
  replace hf := zn_s ey2 hf
  refine lv_istore_n (lv' := [(2, .int y2), (0, .ref (ad 0)), (1, .int p1)]) hx hb dX12_follows_8 rfl hl (by decide) rfl (fun ls hl => ?_)
  obtain ⟨zl3, hf, hzl3⟩ := zb1_i hf
  have hjl3 : ∀ (J31 : zJ), J31 = zl3 → ∀ (H : Heap) (locs : List Loc) (ls : Array Slot), va_P D vwCl (zw 25 (kM cy ad) ad I J31) H → va_S A s.heap H locs → lv_has ls 5 [] → W p l e R s m args below meth c H locs 0 0 Q (F0 m 85 ls []) := by
    intro J31 ez H locs ls hP hS hl
    have hf := hzl3 J31 ez
    exact hret _ hf _ _ _ _ hP hS dX12_follows_85
  refine zl_i (V := (Int32 × zJ)) (P := fun v => ∀ (H : Heap) (locs : List Loc) (ls : Array Slot), va_P D vwCl (zw 25 (kM cy ad) ad I v.2) H → va_S A s.heap H locs → lv_has ls 5 [(0, .ref (ad 0)), (1, .int p1), (2, .int (v.1))] → W p l e R s m args below meth c H locs 0 0 Q (F0 m 9 ls [])) ?_ _ _ hf _ _ _ hP hS (lv_sub hl [1, 2, 0] rfl)
  intro v z hf hcl3 hdl3
  obtain ⟨x4, J5⟩ := v
  intro H locs ls hP hS hl
  replace hf : f_X12_follows_L9 I p1 x4 J5 = some z := hf
  unfold f_X12_follows_L9 at hf
  replace hP : va_P D vwCl (zw 25 (kM cy ad) ad I J5) H := hP
  replace hl : lv_has ls 5 [(0, .ref (ad 0)), (1, .int p1), (2, .int x4)] := hl
  refine lv_iload_n hx hb dX12_follows_9 rfl (lv_at hl 2 rfl) ?_
  refine lv_if_lt (tgt := 85) hx hb dX12_follows_10 (by decide) (fun k6 => ?_) (fun k6 => ?_)
  · replace hf := zt k6 hf
    exact hjl3 _ (hdl3 _ (Option.some.inj hf).symm) _ _ _ hP hS (lv_sub hl [] rfl)
  · replace hf := zf k6 hf
    refine lv_iconst (v := 1) hx hb dX12_follows_13 (by decide) ?_
    refine lv_istore_n (lv' := [(3, .int 1), (0, .ref (ad 0)), (1, .int p1), (2, .int x4)]) hx hb dX12_follows_14 rfl hl (by decide) rfl (fun ls hl => ?_)
    obtain ⟨zl7, hf, hzl7⟩ := zb1_i hf
    have hjl7 : ∀ (J29 : zJ), J29 = zl7 → ∀ (H : Heap) (locs : List Loc) (ls : Array Slot), va_P D vwCl (zw 25 (kM cy ad) ad I J29) H → va_S A s.heap H locs → lv_has ls 5 [(0, .ref (ad 0)), (1, .int p1), (2, .int x4)] → W p l e R s m args below meth c H locs 0 0 Q (F0 m 79 ls []) := by
      intro J29 ez H locs ls hP hS hl
      have hf := hzl7 J29 ez
      obtain ⟨y30, ey30⟩ := zex (x4 + (-1))
      replace hf := zn_s ey30 hf
      refine lv_iinc (v := y30) (lv' := [(2, .int y30), (0, .ref (ad 0)), (1, .int p1)]) hx hb dX12_follows_79 hl (k := 2) rfl (by rw [ey30]; rfl) (by decide) rfl (fun ls hl => ?_)
      refine lv_goto (tgt := 9) hx hb dX12_follows_82 (by decide) ?_
      exact hcl3 _ (Option.some.inj hf).symm _ _ _ hP hS (lv_sub hl [1, 2, 0] rfl)
    refine zl_i (V := (Int32 × zJ)) (P := fun v => ∀ (H : Heap) (locs : List Loc) (ls : Array Slot), va_P D vwCl (zw 25 (kM cy ad) ad I v.2) H → va_S A s.heap H locs → lv_has ls 5 [(0, .ref (ad 0)), (1, .int p1), (2, .int x4), (3, .int (v.1))] → W p l e R s m args below meth c H locs 0 0 Q (F0 m 15 ls [])) ?_ _ _ hf _ _ _ hP hS (lv_sub hl [1, 2, 3, 0] rfl)
    intro v z hf hcl7 hdl7
    obtain ⟨x8, J9⟩ := v
    intro H locs ls hP hS hl
    replace hf : f_X12_follows_L15 I x4 p1 x8 J9 = some z := hf
    unfold f_X12_follows_L15 at hf
    replace hP : va_P D vwCl (zw 25 (kM cy ad) ad I J9) H := hP
    replace hl : lv_has ls 5 [(0, .ref (ad 0)), (1, .int p1), (2, .int x4), (3, .int x8)] := hl
    refine lv_iload_n hx hb dX12_follows_15 rfl (lv_at hl 3 rfl) ?_
    refine lv_aload_n hx hb dX12_follows_16 rfl (lv_at hl 0 rfl) ?_
    refine lv_iload_n hx hb dX12_follows_17 rfl (lv_at hl 2 rfl) ?_
    obtain ⟨x10, h11, hf⟩ := zb1_e hf
    refine zgo_i (zrunV (As := [.int x4]) (rest := [.int x8]) S (c_X12_steps l hD x4 h11) (cwV 1 hts gX12_follows_X12_steps rfl rfl rfl ddX12_steps ⟨Nat.le_trans (Nat.le_of_ble_eq_true rfl) hfr, Nat.le_trans (Nat.le_of_ble_eq_true rfl) hlo⟩) (va_recv E.1 hP (q := (RX12, TX12, 31)) (ci := 11) rfl (zO.get (oX12_at))) E hP hS hl.1 rfl rfl (Nat.le_of_ble_eq_true rfl) dX12_follows_18) hS (fun H locs hP hS => ?_)
    refine lv_icmp_gt (tgt := 79) hx hb dX12_follows_21 (by decide) (fun k12 => ?_) (fun k12 => ?_)
    · replace hf := zt k12 hf
      exact hjl7 _ (hdl7 _ (Option.some.inj hf).symm) _ _ _ hP hS (lv_sub hl [0, 1, 2] rfl)
    · replace hf := zf k12 hf
      refine lv_iconst (v := 0) hx hb dX12_follows_24 (by decide) ?_
      refine lv_istore (lv' := [(4, .int 0), (0, .ref (ad 0)), (1, .int p1), (2, .int x4), (3, .int x8)]) hx hb dX12_follows_25 hl (by decide) rfl (fun ls hl => ?_)
      obtain ⟨zl13, hf, hzl13⟩ := zb1_i hf
      have hjl13 : ∀ (J27 : zJ), J27 = zl13 → ∀ (H : Heap) (locs : List Loc) (ls : Array Slot), va_P D vwCl (zw 25 (kM cy ad) ad I J27) H → va_S A s.heap H locs → lv_has ls 5 [(0, .ref (ad 0)), (1, .int p1), (2, .int x4), (3, .int x8)] → W p l e R s m args below meth c H locs 0 0 Q (F0 m 73 ls []) := by
        intro J27 ez H locs ls hP hS hl
        have hf := hzl13 J27 ez
        obtain ⟨y28, ey28⟩ := zex (x8 + 1)
        replace hf := zn_s ey28 hf
        refine lv_iinc (v := y28) (lv' := [(3, .int y28), (0, .ref (ad 0)), (1, .int p1), (2, .int x4)]) hx hb dX12_follows_73 hl (k := 3) rfl (by rw [ey28]; rfl) (by decide) rfl (fun ls hl => ?_)
        refine lv_goto (tgt := 15) hx hb dX12_follows_76 (by decide) ?_
        exact hcl7 _ (Option.some.inj hf).symm _ _ _ hP hS (lv_sub hl [1, 2, 3, 0] rfl)
      refine zl_i (V := (Int32 × zJ)) (P := fun v => ∀ (H : Heap) (locs : List Loc) (ls : Array Slot), va_P D vwCl (zw 25 (kM cy ad) ad I v.2) H → va_S A s.heap H locs → lv_has ls 5 [(0, .ref (ad 0)), (1, .int p1), (2, .int x4), (3, .int x8), (4, .int (v.1))] → W p l e R s m args below meth c H locs 0 0 Q (F0 m 27 ls [])) ?_ _ _ hf _ _ _ hP hS (lv_sub hl [1, 2, 3, 4, 0] rfl)
      intro v z hf hcl13 hdl13
      obtain ⟨x14, J15⟩ := v
      intro H locs ls hP hS hl
      replace hf : f_X12_follows_L27 I x4 x8 p1 x14 J15 = some z := hf
      unfold f_X12_follows_L27 at hf
      replace hP : va_P D vwCl (zw 25 (kM cy ad) ad I J15) H := hP
      replace hl : lv_has ls 5 [(0, .ref (ad 0)), (1, .int p1), (2, .int x4), (3, .int x8), (4, .int x14)] := hl
      refine lv_iload hx hb dX12_follows_27 (lv_at hl 4 rfl) ?_
      refine lv_bipush (v := 100) hx hb dX12_follows_29 (by decide) ?_
      refine lv_icmp_gt (tgt := 73) hx hb dX12_follows_31 (by decide) (fun k16 => ?_) (fun k16 => ?_)
      · replace hf := zt k16 hf
        exact hjl13 _ (hdl13 _ (Option.some.inj hf).symm) _ _ _ hP hS (lv_sub hl [0, 1, 2, 3] rfl)
      · replace hf := zf k16 hf
        refine lv_aload_n hx hb dX12_follows_34 rfl (lv_at hl 0 rfl) ?_
        refine va_get (D := D) (ci := 11) (v := .ref (ad 16)) (C := RX12) (T := TX12) (N := 31) hx hb hts hinX12_follows_X12 hown E.1 hP 0 (zO.get (oX12_at)) rfl 18 (by decide) (hts (.fieldLink RX12 56 "EdgeAndSpeedModel" "value" "[J") (by decide +kernel)) (fun _ h9 => h9) rfl dX12_follows_35 ?_
        refine lv_iload_n hx hb dX12_follows_38 rfl (lv_at hl 2 rfl) ?_
        refine lv_iload_n hx hb dX12_follows_39 rfl (lv_at hl 3 rfl) ?_
        refine lv_iload hx hb dX12_follows_40 (lv_at hl 4 rfl) ?_
        obtain ⟨x17, h18, hf⟩ := zb1_e hf
        refine zgo_i (zrunS (As := [.int x4, .int x8, .int x14]) (rest := [.ref (ad 16)]) S (c_X12_cell l hD x4 x8 x14 h18) (va_cwS 3 hts gX12_follows_X12_cell rfl rfl rfl ddX12_cell ⟨Nat.le_trans (Nat.le_of_ble_eq_true rfl) hfr, Nat.le_trans (Nat.le_of_ble_eq_true rfl) hlo⟩) E hP hS hl.1 rfl rfl (Nat.le_of_ble_eq_true rfl) dX12_follows_42) hS (fun H locs hP hS => ?_)
        refine lv_aload_n hx hb dX12_follows_45 rfl (lv_at hl 0 rfl) ?_
        refine lv_iload_n hx hb dX12_follows_46 rfl (lv_at hl 2 rfl) ?_
        refine lv_iload_n hx hb dX12_follows_47 rfl (lv_at hl 3 rfl) ?_
        refine lv_iload hx hb dX12_follows_48 (lv_at hl 4 rfl) ?_
        refine lv_iload_n hx hb dX12_follows_50 rfl (lv_at hl 1 rfl) ?_
        refine lv_aload_n hx hb dX12_follows_51 rfl (lv_at hl 0 rfl) ?_
        refine va_get (D := D) (ci := 11) (v := .ref (ad 15)) (C := RX12) (T := TX12) (N := 31) hx hb hts hinX12_follows_X12 hown E.1 hP 0 (zO.get (oX12_at)) rfl 17 (by decide) (hts (.fieldLink RX12 53 "EdgeAndSpeedModel" "act" "[I") (by decide +kernel)) (fun _ h9 => h9) rfl dX12_follows_52 ?_
        refine lv_iload_n hx hb dX12_follows_55 rfl (lv_at hl 2 rfl) ?_
        refine lv_iload_n hx hb dX12_follows_56 rfl (lv_at hl 3 rfl) ?_
        refine lv_iload hx hb dX12_follows_57 (lv_at hl 4 rfl) ?_
        obtain ⟨x19, h20, hf⟩ := zb1_e hf
        refine zgo_i (zrunS (As := [.int x4, .int x8, .int x14]) (rest := [.ref (ad 15), .int p1, .int x14, .int x8, .int x4, .ref (ad 0), .int x17, .ref (ad 16)]) S (c_X12_cell l hD x4 x8 x14 h20) (va_cwS 3 hts gX12_follows_X12_cell rfl rfl rfl ddX12_cell ⟨Nat.le_trans (Nat.le_of_ble_eq_true rfl) hfr, Nat.le_trans (Nat.le_of_ble_eq_true rfl) hlo⟩) E hP hS hl.1 rfl rfl (Nat.le_of_ble_eq_true rfl) dX12_follows_59) hS (fun H locs hP hS => ?_)
        obtain ⟨g21, hf⟩ := zg_i hf
        refine va_iald hx hb E.1 hP 15 1 (zIA.get (aX12_17)) rfl g21 dX12_follows_62 ?_
        obtain ⟨u22, h23, hf⟩ := zb1_e hf
        refine zgo_l (zrunV (As := [.int x4, .int x8, .int x14, .int p1, .int (I 15 x19.toNatClampNeg)]) (rest := [.int x17, .ref (ad 16)]) S (c_X12_comes l hD x4 x8 x14 p1 (I 15 x19.toNatClampNeg) h23) (cwV 5 hts gX12_follows_X12_comes rfl rfl rfl ddX12_comes ⟨Nat.le_trans (Nat.le_of_ble_eq_true rfl) hfr, Nat.le_trans (Nat.le_of_ble_eq_true rfl) hlo⟩) (va_recv E.1 hP (q := (RX12, TX12, 31)) (ci := 11) rfl (zO.get (oX12_at))) E hP hS hl.1 rfl rfl (Nat.le_of_ble_eq_true rfl) dX12_follows_63) hS (fun H locs hP hS => ?_)
        obtain ⟨g25, hf⟩ := zg_i hf
        obtain ⟨J24, eJ24⟩ := zex (va_up J15 16 (vp_updL (J15 16) x17.toNatClampNeg u22))
        replace hf := zn_s eJ24 hf
        refine zast_l hx hb E.1 hP hD.D hS (aX12_18) g25 dX12_follows_66 eJ24 (fun H locs hP hS => ?_)
        obtain ⟨y26, ey26⟩ := zex (x14 + 1)
        replace hf := zn_s ey26 hf
        refine lv_iinc (v := y26) (lv' := [(4, .int y26), (0, .ref (ad 0)), (1, .int p1), (2, .int x4), (3, .int x8)]) hx hb dX12_follows_67 hl (k := 4) rfl (by rw [ey26]; rfl) (by decide) rfl (fun ls hl => ?_)
        refine lv_goto (tgt := 27) hx hb dX12_follows_70 (by decide) ?_
        exact hcl13 _ (Option.some.inj hf).symm _ _ _ hP hS (lv_sub hl [1, 2, 3, 4, 0] rfl)
theorem c_X12_follows (l : Launch) {D : va_G} {a0 : Nat → Nat} {A : Nat → Prop} {cy : Nat → ClassId} {ad : Nat → Nat} (hD : zD A 25 ad) {I : zI} {J : zJ} (p1 : Int32) {rJ : zJ} (hf : f_X12_follows I J p1 = some rJ) : Met l yX12_follows wsX12_follows { frames := 3, cells := 0, slots := 0, locals := 76 } (zPc D a0 A cy [.ref (ad 0), .int p1] (zw 25 (kM cy ad) ad I J)) (zQv D A (zw 25 (kM cy ad) ad I rJ)) 0 0 A :=
  zmet RX12 (by decide) rfl rfl (Nat.le_of_ble_eq_true rfl) (fun p e R s m below meth c Q hfr hlo ls S0 hQ => w_X12_follows hfr hlo hD p1 hf S0 (fun tJ hq H locs ls pc hP hS hd => by cases hq; exact hQ H locs _ hS (fun hx hb hr hlocks hfree => W.vret hx hb hr (fun t ht hW => ⟨⟨(), rfl, trivial, zht ht hP⟩, hS.F ht⟩) hfree hd hlocks)))
theorem ddX12_follows : yX12_follows.cls = RX12 ∧ yX12_follows.cls ≠ "java/lang/invoke/MethodHandle" ∧ yX12_follows.cls ≠ "java/lang/invoke/VarHandle" ∧ (parseMethodDescriptor yX12_follows.desc).map (fun d => d.parameters.length) = some 1 := by decide +kernel

def f_X12_deepest_L5 (p2 : Int32) (I : zI) (J : zJ) (p1 : Int32) (x2 : Int32) (x3 : Int32) : Option ((Int32 × Int32) ⊕ Int32) := (if p2 < x3 then some (.inr x2) else zb1 (f_X12_may I J p1 x3) (fun x5 => (if x5 = 0 then zn (x3 + 1) (fun y8 => some (.inl (x2, y8))) else zn (x3 + 1) (fun y9 => some (.inl (x3, y9))))))
def f_X12_deepest (I : zI) (J : zJ) (p1 : Int32) (p2 : Int32) : Option Int32 := zb1 (zl (fun v : (Int32 × Int32) => f_X12_deepest_L5 p2 I J p1 v.1 v.2) zF (0, 1)) (fun x10 => some x10)
set_option maxHeartbeats 4000000 in
set_option maxRecDepth 100000 in
theorem w_X12_deepest {p : Program} {l : Launch} {e : Env} {R : Room} {s : State} {m : MethodId} {args : Array Value} {below : List Frame} {meth : Method} {c : Code} {Q : State → Prop} (hfr : 1 ≤ R.frames) (hlo : 22 ≤ R.locals) {D : va_G} {a0 : Nat → Nat} {A : Nat → Prop} {cy : Nat → ClassId} {ad : Nat → Nat} (hD : zD A 25 ad) {I : zI} {J : zJ} (p1 : Int32) (p2 : Int32) {rx : Int32} (hf : f_X12_deepest I J p1 p2 = some rx) {ls : Array Slot} (S0 : zSt p m c cX12_deepest 5 s args wsX12_deepest RX12 D a0 A cy (zw 25 (kM cy ad) ad I J) [.ref (ad 0), .int p1, .int p2] ls) (hret : ∀ (tx : Int32), some tx = some rx → ∀ (H : Heap) (locs : List Loc) (ls : Array Slot) (pc : Nat), va_P D vwCl (zw 25 (kM cy ad) ad I J) H → va_S A s.heap H locs → decode cX12_deepest pc = .ok (.ireturn, 1) → W p l e R s m args below meth c H locs 0 0 Q (F0 m pc ls [.int tx])) : W p l e R s m args below meth c s.heap [] 0 0 Q (F0 m 0 ls []) := by
  obtain ⟨S, E, hP, hl⟩ := S0
  obtain ⟨hx, hb, hml, hown, hts⟩ := id S
  have hS : va_S A s.heap s.heap [] := va_S.rf
  replace hl : lv_has ls 5 [(0, .ref (ad 0)), (1, .int p1), (2, .int p2)] := hl
  unfold f_X12_deepest at hf
  refine lv_iconst (v := 0) hx hb dX12_deepest_0 (by decide) ?_
  refine lv_istore_n (lv' := [(3, .int 0), (0, .ref (ad 0)), (1, .int p1), (2, .int p2)]) hx hb dX12_deepest_1 rfl hl (by decide) rfl (fun ls hl => ?_)
  refine lv_iconst (v := 1) hx hb dX12_deepest_2 (by decide) ?_
  refine lv_istore (lv' := [(4, .int 1), (3, .int 0), (0, .ref (ad 0)), (1, .int p1), (2, .int p2)]) hx hb dX12_deepest_3 hl (by decide) rfl (fun ls hl => ?_)
  obtain ⟨zl1, hf, hzl1⟩ := zb1_i hf
  have hjl1 : ∀ (x10 : Int32), x10 = zl1 → ∀ (H : Heap) (locs : List Loc) (ls : Array Slot), va_P D vwCl (zw 25 (kM cy ad) ad I J) H → va_S A s.heap H locs → lv_has ls 5 [(3, .int x10)] → W p l e R s m args below meth c H locs 0 0 Q (F0 m 34 ls []) := by
    intro x10 ez H locs ls hP hS hl
    have hf := hzl1 x10 ez
    refine lv_iload_n hx hb dX12_deepest_34 rfl (lv_at hl 0 rfl) ?_
    exact hret _ hf _ _ _ _ hP hS dX12_deepest_35
  refine zl_i (V := (Int32 × Int32)) (P := fun v => ∀ (H : Heap) (locs : List Loc) (ls : Array Slot), va_P D vwCl (zw 25 (kM cy ad) ad I J) H → va_S A s.heap H locs → lv_has ls 5 [(0, .ref (ad 0)), (1, .int p1), (2, .int p2), (3, .int (v.1)), (4, .int (v.2))] → W p l e R s m args below meth c H locs 0 0 Q (F0 m 5 ls [])) ?_ _ _ hf _ _ _ hP hS (lv_sub hl [2, 3, 4, 1, 0] rfl)
  intro v z hf hcl1 hdl1
  obtain ⟨x2, x3⟩ := v
  intro H locs ls hP hS hl
  replace hf : f_X12_deepest_L5 p2 I J p1 x2 x3 = some z := hf
  unfold f_X12_deepest_L5 at hf
  replace hP : va_P D vwCl (zw 25 (kM cy ad) ad I J) H := hP
  replace hl : lv_has ls 5 [(0, .ref (ad 0)), (1, .int p1), (2, .int p2), (3, .int x2), (4, .int x3)] := hl
  refine lv_iload hx hb dX12_deepest_5 (lv_at hl 4 rfl) ?_
  refine lv_iload_n hx hb dX12_deepest_7 rfl (lv_at hl 2 rfl) ?_
  refine lv_icmp_gt (tgt := 34) hx hb dX12_deepest_8 (by decide) (fun k4 => ?_) (fun k4 => ?_)
  · replace hf := zt k4 hf
    exact hjl1 _ (hdl1 _ (Option.some.inj hf).symm) _ _ _ hP hS (lv_sub hl [3] rfl)
  · replace hf := zf k4 hf
    refine lv_aload_n hx hb dX12_deepest_11 rfl (lv_at hl 0 rfl) ?_
    refine lv_iload_n hx hb dX12_deepest_12 rfl (lv_at hl 1 rfl) ?_
    refine lv_iload hx hb dX12_deepest_13 (lv_at hl 4 rfl) ?_
    obtain ⟨x5, h6, hf⟩ := zb1_e hf
    refine zgo_i (zrunV (As := [.int p1, .int x3]) (rest := []) S (c_X12_may l hD p1 x3 h6) (cwV 2 hts gX12_deepest_X12_may rfl rfl rfl ddX12_may ⟨Nat.le_trans (Nat.le_of_ble_eq_true rfl) hfr, Nat.le_trans (Nat.le_of_ble_eq_true rfl) hlo⟩) (va_recv E.1 hP (q := (RX12, TX12, 31)) (ci := 11) rfl (zO.get (oX12_at))) E hP hS hl.1 rfl rfl (Nat.le_of_ble_eq_true rfl) dX12_deepest_15) hS (fun H locs hP hS => ?_)
    refine lv_if_eq (tgt := 26) hx hb dX12_deepest_18 (by decide) (fun k7 => ?_) (fun k7 => ?_)
    · replace hf := zt k7 hf
      refine lv_iload_n hx hb dX12_deepest_26 rfl (lv_at hl 3 rfl) ?_
      refine lv_istore_n (lv' := [(3, .int x2), (0, .ref (ad 0)), (1, .int p1), (2, .int p2), (4, .int x3)]) hx hb dX12_deepest_27 rfl hl (by decide) rfl (fun ls hl => ?_)
      obtain ⟨y8, ey8⟩ := zex (x3 + 1)
      replace hf := zn_s ey8 hf
      refine lv_iinc (v := y8) (lv' := [(4, .int y8), (3, .int x2), (0, .ref (ad 0)), (1, .int p1), (2, .int p2)]) hx hb dX12_deepest_28 hl (k := 4) rfl (by rw [ey8]; rfl) (by decide) rfl (fun ls hl => ?_)
      refine lv_goto (tgt := 5) hx hb dX12_deepest_31 (by decide) ?_
      exact hcl1 _ (Option.some.inj hf).symm _ _ _ hP hS (lv_sub hl [2, 3, 4, 1, 0] rfl)
    · replace hf := zf k7 hf
      refine lv_iload hx hb dX12_deepest_21 (lv_at hl 4 rfl) ?_
      refine lv_goto (tgt := 27) hx hb dX12_deepest_23 (by decide) ?_
      refine lv_istore_n (lv' := [(3, .int x3), (0, .ref (ad 0)), (1, .int p1), (2, .int p2), (4, .int x3)]) hx hb dX12_deepest_27 rfl hl (by decide) rfl (fun ls hl => ?_)
      obtain ⟨y9, ey9⟩ := zex (x3 + 1)
      replace hf := zn_s ey9 hf
      refine lv_iinc (v := y9) (lv' := [(4, .int y9), (3, .int x3), (0, .ref (ad 0)), (1, .int p1), (2, .int p2)]) hx hb dX12_deepest_28 hl (k := 4) rfl (by rw [ey9]; rfl) (by decide) rfl (fun ls hl => ?_)
      refine lv_goto (tgt := 5) hx hb dX12_deepest_31 (by decide) ?_
      exact hcl1 _ (Option.some.inj hf).symm _ _ _ hP hS (lv_sub hl [2, 3, 4, 1, 0] rfl)
theorem c_X12_deepest (l : Launch) {D : va_G} {a0 : Nat → Nat} {A : Nat → Prop} {cy : Nat → ClassId} {ad : Nat → Nat} (hD : zD A 25 ad) {I : zI} {J : zJ} (p1 : Int32) (p2 : Int32) {rx : Int32} (hf : f_X12_deepest I J p1 p2 = some rx) : Met l yX12_deepest wsX12_deepest { frames := 1, cells := 0, slots := 0, locals := 22 } (zPc D a0 A cy [.ref (ad 0), .int p1, .int p2] (zw 25 (kM cy ad) ad I J)) (zQi D A rx (zw 25 (kM cy ad) ad I J)) 0 0 A :=
  zmet RX12 (by decide) rfl rfl (Nat.le_of_ble_eq_true rfl) (fun p e R s m below meth c Q hfr hlo ls S0 hQ => w_X12_deepest hfr hlo hD p1 p2 hf S0 (fun tx hq H locs ls pc hP hS hd => by cases hq; exact hQ H locs _ hS (fun hx hb hr hlocks hfree => W.iret hx hb hr (fun t ht hW => ⟨⟨_, (), rfl, rfl, zht ht hP⟩, hS.F ht⟩) hfree hd hlocks)))
theorem ddX12_deepest : yX12_deepest.cls = RX12 ∧ yX12_deepest.cls ≠ "java/lang/invoke/MethodHandle" ∧ yX12_deepest.cls ≠ "java/lang/invoke/VarHandle" ∧ (parseMethodDescriptor yX12_deepest.desc).map (fun d => d.parameters.length) = some 2 := by decide +kernel

def f_X12_leastWear_L4 (I : zI) (x2 : Int32) (x3 : Int32) : Option ((Int32 × Int32) ⊕ Int32) := zg (¬ ((0 : Int32) < 0 ∨ 2 ≤ (0 : Int32).toNatClampNeg)) ((if (I 3 (0 : Int32).toNatClampNeg) ≤ x3 then some (.inr x2) else zg (¬ (((2 * x3) + 1) < 0 ∨ 24 ≤ ((2 * x3) + 1).toNatClampNeg)) (zg (¬ (((2 * x2) + 1) < 0 ∨ 24 ≤ ((2 * x2) + 1).toNatClampNeg)) ((if (I 4 ((2 * x2) + 1).toNatClampNeg) ≤ (I 4 ((2 * x3) + 1).toNatClampNeg) then zn (x3 + 1) (fun y9 => some (.inl (x2, y9))) else zn (x3 + 1) (fun y10 => some (.inl (x3, y10))))))))
def f_X12_leastWear (I : zI) (J : zJ) : Option Int32 := zb1 (zl (fun v : (Int32 × Int32) => f_X12_leastWear_L4 I v.1 v.2) zF (0, 1)) (fun x11 => some x11)
theorem hinX12_leastWear_X12 : ∀ w ∈ u_ws RX12 TX12 31, w ∈ wsX12_leastWear := by decide +kernel
set_option maxHeartbeats 4000000 in
set_option maxRecDepth 100000 in
theorem w_X12_leastWear {p : Program} {l : Launch} {e : Env} {R : Room} {s : State} {m : MethodId} {args : Array Value} {below : List Frame} {meth : Method} {c : Code} {Q : State → Prop} (hfr : 0 ≤ R.frames) (hlo : 0 ≤ R.locals) {D : va_G} {a0 : Nat → Nat} {A : Nat → Prop} {cy : Nat → ClassId} {ad : Nat → Nat} (hD : zD A 25 ad) {I : zI} {J : zJ}  {rx : Int32} (hf : f_X12_leastWear I J = some rx) {ls : Array Slot} (S0 : zSt p m c cX12_leastWear 3 s args wsX12_leastWear RX12 D a0 A cy (zw 25 (kM cy ad) ad I J) [.ref (ad 0)] ls) (hret : ∀ (tx : Int32), some tx = some rx → ∀ (H : Heap) (locs : List Loc) (ls : Array Slot) (pc : Nat), va_P D vwCl (zw 25 (kM cy ad) ad I J) H → va_S A s.heap H locs → decode cX12_leastWear pc = .ok (.ireturn, 1) → W p l e R s m args below meth c H locs 0 0 Q (F0 m pc ls [.int tx])) : W p l e R s m args below meth c s.heap [] 0 0 Q (F0 m 0 ls []) := by
  obtain ⟨S, E, hP, hl⟩ := S0
  obtain ⟨hx, hb, hml, hown, hts⟩ := id S
  have hS : va_S A s.heap s.heap [] := va_S.rf
  replace hl : lv_has ls 3 [(0, .ref (ad 0))] := hl
  unfold f_X12_leastWear at hf
  refine lv_iconst (v := 0) hx hb dX12_leastWear_0 (by decide) ?_
  refine lv_istore_n (lv' := [(1, .int 0), (0, .ref (ad 0))]) hx hb dX12_leastWear_1 rfl hl (by decide) rfl (fun ls hl => ?_)
  refine lv_iconst (v := 1) hx hb dX12_leastWear_2 (by decide) ?_
  refine lv_istore_n (lv' := [(2, .int 1), (1, .int 0), (0, .ref (ad 0))]) hx hb dX12_leastWear_3 rfl hl (by decide) rfl (fun ls hl => ?_)
  obtain ⟨zl1, hf, hzl1⟩ := zb1_i hf
  have hjl1 : ∀ (x11 : Int32), x11 = zl1 → ∀ (H : Heap) (locs : List Loc) (ls : Array Slot), va_P D vwCl (zw 25 (kM cy ad) ad I J) H → va_S A s.heap H locs → lv_has ls 3 [(1, .int x11)] → W p l e R s m args below meth c H locs 0 0 Q (F0 m 49 ls []) := by
    intro x11 ez H locs ls hP hS hl
    have hf := hzl1 x11 ez
    refine lv_iload_n hx hb dX12_leastWear_49 rfl (lv_at hl 0 rfl) ?_
    exact hret _ hf _ _ _ _ hP hS dX12_leastWear_50
  refine zl_i (V := (Int32 × Int32)) (P := fun v => ∀ (H : Heap) (locs : List Loc) (ls : Array Slot), va_P D vwCl (zw 25 (kM cy ad) ad I J) H → va_S A s.heap H locs → lv_has ls 3 [(0, .ref (ad 0)), (1, .int (v.1)), (2, .int (v.2))] → W p l e R s m args below meth c H locs 0 0 Q (F0 m 4 ls [])) ?_ _ _ hf _ _ _ hP hS (lv_sub hl [2, 1, 0] rfl)
  intro v z hf hcl1 hdl1
  obtain ⟨x2, x3⟩ := v
  intro H locs ls hP hS hl
  replace hf : f_X12_leastWear_L4 I x2 x3 = some z := hf
  unfold f_X12_leastWear_L4 at hf
  replace hP : va_P D vwCl (zw 25 (kM cy ad) ad I J) H := hP
  replace hl : lv_has ls 3 [(0, .ref (ad 0)), (1, .int x2), (2, .int x3)] := hl
  refine lv_iload_n hx hb dX12_leastWear_4 rfl (lv_at hl 2 rfl) ?_
  refine lv_aload_n hx hb dX12_leastWear_5 rfl (lv_at hl 0 rfl) ?_
  refine va_get (D := D) (ci := 11) (v := .ref (ad 3)) (C := RX12) (T := TX12) (N := 31) hx hb hts hinX12_leastWear_X12 hown E.1 hP 0 (zO.get (oX12_at)) rfl 4 (by decide) (hts (.fieldLink RX12 17 "EdgeAndSpeedModel" "speeds" "[I") (by decide +kernel)) (fun _ h9 => h9) rfl dX12_leastWear_6 ?_
  refine lv_iconst (v := 0) hx hb dX12_leastWear_9 (by decide) ?_
  obtain ⟨g4, hf⟩ := zg_i hf
  refine va_iald hx hb E.1 hP 3 1 (zIA.get (aX12_4)) rfl g4 dX12_leastWear_10 ?_
  refine lv_icmp_ge (tgt := 49) hx hb dX12_leastWear_11 (by decide) (fun k5 => ?_) (fun k5 => ?_)
  · replace hf := zt k5 hf
    exact hjl1 _ (hdl1 _ (Option.some.inj hf).symm) _ _ _ hP hS (lv_sub hl [1] rfl)
  · replace hf := zf k5 hf
    refine lv_aload_n hx hb dX12_leastWear_14 rfl (lv_at hl 0 rfl) ?_
    refine va_get (D := D) (ci := 11) (v := .ref (ad 4)) (C := RX12) (T := TX12) (N := 31) hx hb hts hinX12_leastWear_X12 hown E.1 hP 0 (zO.get (oX12_at)) rfl 5 (by decide) (hts (.fieldLink RX12 20 "EdgeAndSpeedModel" "speed" "[I") (by decide +kernel)) (fun _ h9 => h9) rfl dX12_leastWear_15 ?_
    refine lv_iconst (v := 2) hx hb dX12_leastWear_18 (by decide) ?_
    refine lv_iload_n hx hb dX12_leastWear_19 rfl (lv_at hl 2 rfl) ?_
    refine lv_imul hx hb dX12_leastWear_20 ?_
    refine lv_iconst (v := 1) hx hb dX12_leastWear_21 (by decide) ?_
    refine lv_iadd hx hb dX12_leastWear_22 ?_
    obtain ⟨g6, hf⟩ := zg_i hf
    refine va_iald hx hb E.1 hP 4 1 (zIA.get (aX12_5)) rfl g6 dX12_leastWear_23 ?_
    refine lv_aload_n hx hb dX12_leastWear_24 rfl (lv_at hl 0 rfl) ?_
    refine va_get (D := D) (ci := 11) (v := .ref (ad 4)) (C := RX12) (T := TX12) (N := 31) hx hb hts hinX12_leastWear_X12 hown E.1 hP 0 (zO.get (oX12_at)) rfl 5 (by decide) (hts (.fieldLink RX12 20 "EdgeAndSpeedModel" "speed" "[I") (by decide +kernel)) (fun _ h9 => h9) rfl dX12_leastWear_25 ?_
    refine lv_iconst (v := 2) hx hb dX12_leastWear_28 (by decide) ?_
    refine lv_iload_n hx hb dX12_leastWear_29 rfl (lv_at hl 1 rfl) ?_
    refine lv_imul hx hb dX12_leastWear_30 ?_
    refine lv_iconst (v := 1) hx hb dX12_leastWear_31 (by decide) ?_
    refine lv_iadd hx hb dX12_leastWear_32 ?_
    obtain ⟨g7, hf⟩ := zg_i hf
    refine va_iald hx hb E.1 hP 4 1 (zIA.get (aX12_5)) rfl g7 dX12_leastWear_33 ?_
    refine lv_icmp_ge (tgt := 41) hx hb dX12_leastWear_34 (by decide) (fun k8 => ?_) (fun k8 => ?_)
    · replace hf := zt k8 hf
      refine lv_iload_n hx hb dX12_leastWear_41 rfl (lv_at hl 1 rfl) ?_
      refine lv_istore_n (lv' := [(1, .int x2), (0, .ref (ad 0)), (2, .int x3)]) hx hb dX12_leastWear_42 rfl hl (by decide) rfl (fun ls hl => ?_)
      obtain ⟨y9, ey9⟩ := zex (x3 + 1)
      replace hf := zn_s ey9 hf
      refine lv_iinc (v := y9) (lv' := [(2, .int y9), (1, .int x2), (0, .ref (ad 0))]) hx hb dX12_leastWear_43 hl (k := 2) rfl (by rw [ey9]; rfl) (by decide) rfl (fun ls hl => ?_)
      refine lv_goto (tgt := 4) hx hb dX12_leastWear_46 (by decide) ?_
      exact hcl1 _ (Option.some.inj hf).symm _ _ _ hP hS (lv_sub hl [2, 1, 0] rfl)
    · replace hf := zf k8 hf
      refine lv_iload_n hx hb dX12_leastWear_37 rfl (lv_at hl 2 rfl) ?_
      refine lv_goto (tgt := 42) hx hb dX12_leastWear_38 (by decide) ?_
      refine lv_istore_n (lv' := [(1, .int x3), (0, .ref (ad 0)), (2, .int x3)]) hx hb dX12_leastWear_42 rfl hl (by decide) rfl (fun ls hl => ?_)
      obtain ⟨y10, ey10⟩ := zex (x3 + 1)
      replace hf := zn_s ey10 hf
      refine lv_iinc (v := y10) (lv' := [(2, .int y10), (1, .int x3), (0, .ref (ad 0))]) hx hb dX12_leastWear_43 hl (k := 2) rfl (by rw [ey10]; rfl) (by decide) rfl (fun ls hl => ?_)
      refine lv_goto (tgt := 4) hx hb dX12_leastWear_46 (by decide) ?_
      exact hcl1 _ (Option.some.inj hf).symm _ _ _ hP hS (lv_sub hl [2, 1, 0] rfl)
theorem c_X12_leastWear (l : Launch) {D : va_G} {a0 : Nat → Nat} {A : Nat → Prop} {cy : Nat → ClassId} {ad : Nat → Nat} (hD : zD A 25 ad) {I : zI} {J : zJ}  {rx : Int32} (hf : f_X12_leastWear I J = some rx) : Met l yX12_leastWear wsX12_leastWear { frames := 0, cells := 0, slots := 0, locals := 0 } (zPc D a0 A cy [.ref (ad 0)] (zw 25 (kM cy ad) ad I J)) (zQi D A rx (zw 25 (kM cy ad) ad I J)) 0 0 A :=
  zmet RX12 (by decide) rfl rfl (Nat.le_of_ble_eq_true rfl) (fun p e R s m below meth c Q hfr hlo ls S0 hQ => w_X12_leastWear hfr hlo hD  hf S0 (fun tx hq H locs ls pc hP hS hd => by cases hq; exact hQ H locs _ hS (fun hx hb hr hlocks hfree => W.iret hx hb hr (fun t ht hW => ⟨⟨_, (), rfl, rfl, zht ht hP⟩, hS.F ht⟩) hfree hd hlocks)))
theorem ddX12_leastWear : yX12_leastWear.cls = RX12 ∧ yX12_leastWear.cls ≠ "java/lang/invoke/MethodHandle" ∧ yX12_leastWear.cls ≠ "java/lang/invoke/VarHandle" ∧ (parseMethodDescriptor yX12_leastWear.desc).map (fun d => d.parameters.length) = some 0 := by decide +kernel

def f_X12_habit (I : zI) (J : zJ) (p1 : Int32) (p2 : Int32) (p3 : Int32) (p4 : Int32) : Option Int32 := zb1 ((if p1 = 5 then zb1 (f_X12_leastWear I J) (fun x5 => some (x5)) else zg (¬ ((0 : Int32) < 0 ∨ 9 ≤ (0 : Int32).toNatClampNeg)) (some ((I 12 (0 : Int32).toNatClampNeg)))) : Option Int32) (fun x7 => zb1 (f_X12_deepest I J x7 p3) (fun x8 => (if x8 = 0 then some 49 else zb1 ((if p1 = 3 then some ((p4 - (p4 - p4 / 10 * 10))) else some (p4)) : Option Int32) (fun x14 => zg (¬ ((1 : Int32) < 0 ∨ 9 ≤ (1 : Int32).toNatClampNeg)) (zb1 ((if (I 12 (1 : Int32).toNatClampNeg) < x14 then some (1) else (if x8 = p3 then zg (¬ (((4 * p2) + 2) < 0 ∨ 64 ≤ ((4 * p2) + 2).toNatClampNeg)) ((if x14 ≤ (I 6 ((4 * p2) + 2).toNatClampNeg) then some (0) else some (1))) else some (0))) : Option Int32) (fun x22 => zb1 ((if p1 = 2 then (if p2 ≤ 0 then some (0) else zg (¬ ((2 : Int32) < 0 ∨ 9 ≤ (2 : Int32).toNatClampNeg)) (zg (¬ (I 12 (2 : Int32).toNatClampNeg) = 0) ((if (p2 - p2 / (I 12 (2 : Int32).toNatClampNeg) * (I 12 (2 : Int32).toNatClampNeg)) = 0 then zb1 (f_X12_steps I J p2) (fun x30 => (if p3 = x30 then some (1) else some (0))) else some (0))))) else some (x22)) : Option Int32) (fun x33 => (if x33 = 0 then some (((8 * x7) + x8) - 1) else (if p4 ≤ 0 then some (((8 * x7) + x8) - 1) else some 48)))))))))
theorem hinX12_habit_X12 : ∀ w ∈ u_ws RX12 TX12 31, w ∈ wsX12_habit := by decide +kernel
set_option maxHeartbeats 4000000 in
set_option maxRecDepth 100000 in
theorem w_X12_habit {p : Program} {l : Launch} {e : Env} {R : Room} {s : State} {m : MethodId} {args : Array Value} {below : List Frame} {meth : Method} {c : Code} {Q : State → Prop} (hfr : 2 ≤ R.frames) (hlo : 46 ≤ R.locals) {D : va_G} {a0 : Nat → Nat} {A : Nat → Prop} {cy : Nat → ClassId} {ad : Nat → Nat} (hD : zD A 25 ad) {I : zI} {J : zJ} (p1 : Int32) (p2 : Int32) (p3 : Int32) (p4 : Int32) {rx : Int32} (hf : f_X12_habit I J p1 p2 p3 p4 = some rx) {ls : Array Slot} (S0 : zSt p m c cX12_habit 9 s args wsX12_habit RX12 D a0 A cy (zw 25 (kM cy ad) ad I J) [.ref (ad 0), .int p1, .int p2, .int p3, .int p4] ls) (hret : ∀ (tx : Int32), some tx = some rx → ∀ (H : Heap) (locs : List Loc) (ls : Array Slot) (pc : Nat), va_P D vwCl (zw 25 (kM cy ad) ad I J) H → va_S A s.heap H locs → decode cX12_habit pc = .ok (.ireturn, 1) → W p l e R s m args below meth c H locs 0 0 Q (F0 m pc ls [.int tx])) : W p l e R s m args below meth c s.heap [] 0 0 Q (F0 m 0 ls []) := by
  obtain ⟨S, E, hP, hl⟩ := S0
  obtain ⟨hx, hb, hml, hown, hts⟩ := id S
  have hS : va_S A s.heap s.heap [] := va_S.rf
  replace hl : lv_has ls 9 [(0, .ref (ad 0)), (1, .int p1), (2, .int p2), (3, .int p3), (4, .int p4)] := hl
  unfold f_X12_habit at hf
  refine lv_iload_n hx hb dX12_habit_0 rfl (lv_at hl 1 rfl) ?_
  refine lv_iconst (v := 5) hx hb dX12_habit_1 (by decide) ?_
  obtain ⟨zr3, hf, hzr3⟩ := zb1_i hf
  have hjr3 : ∀ (x7 : Int32), x7 = zr3 → ∀ (H : Heap) (locs : List Loc) (ls : Array Slot), va_P D vwCl (zw 25 (kM cy ad) ad I J) H → va_S A s.heap H locs → lv_has ls 9 [(0, .ref (ad 0)), (1, .int p1), (2, .int p2), (3, .int p3), (4, .int p4)] → W p l e R s m args below meth c H locs 0 0 Q (F0 m 18 ls [.int x7]) := by
    intro x7 ez H locs ls hP hS hl
    have hf := hzr3 x7 ez
    refine lv_istore (lv' := [(5, .int x7), (0, .ref (ad 0)), (1, .int p1), (2, .int p2), (3, .int p3), (4, .int p4)]) hx hb dX12_habit_18 hl (by decide) rfl (fun ls hl => ?_)
    refine lv_aload_n hx hb dX12_habit_20 rfl (lv_at hl 1 rfl) ?_
    refine lv_iload hx hb dX12_habit_21 (lv_at hl 0 rfl) ?_
    refine lv_iload_n hx hb dX12_habit_23 rfl (lv_at hl 4 rfl) ?_
    obtain ⟨x8, h9, hf⟩ := zb1_e hf
    refine zgo_i (zrunV (As := [.int x7, .int p3]) (rest := []) S (c_X12_deepest l hD x7 p3 h9) (cwV 2 hts gX12_habit_X12_deepest rfl rfl rfl ddX12_deepest ⟨Nat.le_trans (Nat.le_of_ble_eq_true rfl) hfr, Nat.le_trans (Nat.le_of_ble_eq_true rfl) hlo⟩) (va_recv E.1 hP (q := (RX12, TX12, 31)) (ci := 11) rfl (zO.get (oX12_at))) E hP hS hl.1 rfl rfl (Nat.le_of_ble_eq_true rfl) dX12_habit_24) hS (fun H locs hP hS => ?_)
    refine lv_istore (lv' := [(6, .int x8), (5, .int x7), (0, .ref (ad 0)), (1, .int p1), (2, .int p2), (3, .int p3), (4, .int p4)]) hx hb dX12_habit_27 hl (by decide) rfl (fun ls hl => ?_)
    refine lv_iload hx hb dX12_habit_29 (lv_at hl 0 rfl) ?_
    refine lv_if_ne (tgt := 37) hx hb dX12_habit_31 (by decide) (fun k10 => ?_) (fun k10 => ?_)
    · replace hf := zf k10 hf
      refine lv_iload_n hx hb dX12_habit_37 rfl (lv_at hl 3 rfl) ?_
      refine lv_iconst (v := 3) hx hb dX12_habit_38 (by decide) ?_
      obtain ⟨zr13, hf, hzr13⟩ := zb1_i hf
      have hjr13 : ∀ (x14 : Int32), x14 = zr13 → ∀ (H : Heap) (locs : List Loc) (ls : Array Slot), va_P D vwCl (zw 25 (kM cy ad) ad I J) H → va_S A s.heap H locs → lv_has ls 9 [(0, .ref (ad 0)), (1, .int p1), (2, .int p2), (3, .int p3), (4, .int p4), (5, .int x7), (6, .int x8)] → W p l e R s m args below meth c H locs 0 0 Q (F0 m 55 ls [.int x14]) := by
        intro x14 ez H locs ls hP hS hl
        have hf := hzr13 x14 ez
        refine lv_istore (lv' := [(7, .int x14), (0, .ref (ad 0)), (1, .int p1), (2, .int p2), (3, .int p3), (4, .int p4), (5, .int x7), (6, .int x8)]) hx hb dX12_habit_55 hl (by decide) rfl (fun ls hl => ?_)
        refine lv_iload hx hb dX12_habit_57 (lv_at hl 0 rfl) ?_
        refine lv_aload_n hx hb dX12_habit_59 rfl (lv_at hl 1 rfl) ?_
        refine va_get (D := D) (ci := 11) (v := .ref (ad 12)) (C := RX12) (T := TX12) (N := 31) hx hb hts hinX12_habit_X12 hown E.1 hP 0 (zO.get (oX12_at)) rfl 14 (by decide) (hts (.fieldLink RX12 44 "EdgeAndSpeedModel" "hands" "[I") (by decide +kernel)) (fun _ h9 => h9) rfl dX12_habit_60 ?_
        refine lv_iconst (v := 1) hx hb dX12_habit_63 (by decide) ?_
        obtain ⟨g15, hf⟩ := zg_i hf
        refine va_iald hx hb E.1 hP 12 1 (zIA.get (aX12_14)) rfl g15 dX12_habit_64 ?_
        obtain ⟨zr18, hf, hzr18⟩ := zb1_i hf
        have hjr18 : ∀ (x22 : Int32), x22 = zr18 → ∀ (H : Heap) (locs : List Loc) (ls : Array Slot), va_P D vwCl (zw 25 (kM cy ad) ad I J) H → va_S A s.heap H locs → lv_has ls 9 [(0, .ref (ad 0)), (1, .int p1), (2, .int p2), (3, .int p3), (4, .int p4), (5, .int x7), (6, .int x8)] → W p l e R s m args below meth c H locs 0 0 Q (F0 m 94 ls [.int x22]) := by
          intro x22 ez H locs ls hP hS hl
          have hf := hzr18 x22 ez
          refine lv_istore (lv' := [(8, .int x22), (0, .ref (ad 0)), (1, .int p1), (2, .int p2), (3, .int p3), (4, .int p4), (5, .int x7), (6, .int x8)]) hx hb dX12_habit_94 hl (by decide) rfl (fun ls hl => ?_)
          refine lv_iload_n hx hb dX12_habit_96 rfl (lv_at hl 2 rfl) ?_
          refine lv_iconst (v := 2) hx hb dX12_habit_97 (by decide) ?_
          obtain ⟨zr25, hf, hzr25⟩ := zb1_i hf
          have hjr25 : ∀ (x33 : Int32), x33 = zr25 → ∀ (H : Heap) (locs : List Loc) (ls : Array Slot), va_P D vwCl (zw 25 (kM cy ad) ad I J) H → va_S A s.heap H locs → lv_has ls 9 [(4, .int p4), (5, .int x7), (6, .int x8), (8, .int x33)] → W p l e R s m args below meth c H locs 0 0 Q (F0 m 132 ls []) := by
            intro x33 ez H locs ls hP hS hl
            have hf := hzr25 x33 ez
            refine lv_iload hx hb dX12_habit_132 (lv_at hl 3 rfl) ?_
            refine lv_if_eq (tgt := 147) hx hb dX12_habit_134 (by decide) (fun k34 => ?_) (fun k34 => ?_)
            · replace hf := zt k34 hf
              refine lv_bipush (v := 8) hx hb dX12_habit_147 (by decide) ?_
              refine lv_iload hx hb dX12_habit_149 (lv_at hl 1 rfl) ?_
              refine lv_imul hx hb dX12_habit_151 ?_
              refine lv_iload hx hb dX12_habit_152 (lv_at hl 2 rfl) ?_
              refine lv_iadd hx hb dX12_habit_154 ?_
              refine lv_iconst (v := 1) hx hb dX12_habit_155 (by decide) ?_
              refine lv_isub hx hb dX12_habit_156 ?_
              exact hret _ hf _ _ _ _ hP hS dX12_habit_157
            · replace hf := zf k34 hf
              refine lv_iload hx hb dX12_habit_137 (lv_at hl 0 rfl) ?_
              refine lv_if_le (tgt := 147) hx hb dX12_habit_139 (by decide) (fun k35 => ?_) (fun k35 => ?_)
              · replace hf := zt k35 hf
                refine lv_bipush (v := 8) hx hb dX12_habit_147 (by decide) ?_
                refine lv_iload hx hb dX12_habit_149 (lv_at hl 1 rfl) ?_
                refine lv_imul hx hb dX12_habit_151 ?_
                refine lv_iload hx hb dX12_habit_152 (lv_at hl 2 rfl) ?_
                refine lv_iadd hx hb dX12_habit_154 ?_
                refine lv_iconst (v := 1) hx hb dX12_habit_155 (by decide) ?_
                refine lv_isub hx hb dX12_habit_156 ?_
                exact hret _ hf _ _ _ _ hP hS dX12_habit_157
              · replace hf := zf k35 hf
                refine lv_bipush (v := 48) hx hb dX12_habit_142 (by decide) ?_
                refine lv_goto (tgt := 157) hx hb dX12_habit_144 (by decide) ?_
                exact hret _ hf _ _ _ _ hP hS dX12_habit_157
          refine lv_icmp_ne (tgt := 132) hx hb dX12_habit_98 (by decide) (fun k23 => ?_) (fun k23 => ?_)
          · replace hf := zf k23 hf
            exact hjr25 _ (Option.some.inj hf) _ _ _ hP hS (lv_sub hl [5, 6, 7, 0] rfl)
          · replace hf := zt k23 hf
            refine lv_iload_n hx hb dX12_habit_101 rfl (lv_at hl 3 rfl) ?_
            refine lv_if_le (tgt := 129) hx hb dX12_habit_102 (by decide) (fun k26 => ?_) (fun k26 => ?_)
            · replace hf := zt k26 hf
              refine lv_iconst (v := 0) hx hb dX12_habit_129 (by decide) ?_
              refine lv_istore (lv' := [(8, .int 0), (0, .ref (ad 0)), (1, .int p1), (2, .int p2), (3, .int p3), (4, .int p4), (5, .int x7), (6, .int x8)]) hx hb dX12_habit_130 hl (by decide) rfl (fun ls hl => ?_)
              exact hjr25 _ (Option.some.inj hf) _ _ _ hP hS (lv_sub hl [5, 6, 7, 0] rfl)
            · replace hf := zf k26 hf
              refine lv_iload_n hx hb dX12_habit_105 rfl (lv_at hl 3 rfl) ?_
              refine lv_aload_n hx hb dX12_habit_106 rfl (lv_at hl 1 rfl) ?_
              refine va_get (D := D) (ci := 11) (v := .ref (ad 12)) (C := RX12) (T := TX12) (N := 31) hx hb hts hinX12_habit_X12 hown E.1 hP 0 (zO.get (oX12_at)) rfl 14 (by decide) (hts (.fieldLink RX12 44 "EdgeAndSpeedModel" "hands" "[I") (by decide +kernel)) (fun _ h9 => h9) rfl dX12_habit_107 ?_
              refine lv_iconst (v := 2) hx hb dX12_habit_110 (by decide) ?_
              obtain ⟨g27, hf⟩ := zg_i hf
              refine va_iald hx hb E.1 hP 12 1 (zIA.get (aX12_14)) rfl g27 dX12_habit_111 ?_
              obtain ⟨g28, hf⟩ := zg_i hf
              refine lv_irem hx hb dX12_habit_112 g28 ?_
              refine lv_if_ne (tgt := 129) hx hb dX12_habit_113 (by decide) (fun k29 => ?_) (fun k29 => ?_)
              · replace hf := zf k29 hf
                refine lv_iconst (v := 0) hx hb dX12_habit_129 (by decide) ?_
                refine lv_istore (lv' := [(8, .int 0), (0, .ref (ad 0)), (1, .int p1), (2, .int p2), (3, .int p3), (4, .int p4), (5, .int x7), (6, .int x8)]) hx hb dX12_habit_130 hl (by decide) rfl (fun ls hl => ?_)
                exact hjr25 _ (Option.some.inj hf) _ _ _ hP hS (lv_sub hl [5, 6, 7, 0] rfl)
              · replace hf := zt k29 hf
                refine lv_iload_n hx hb dX12_habit_116 rfl (lv_at hl 4 rfl) ?_
                refine lv_aload_n hx hb dX12_habit_117 rfl (lv_at hl 1 rfl) ?_
                refine lv_iload_n hx hb dX12_habit_118 rfl (lv_at hl 3 rfl) ?_
                obtain ⟨x30, h31, hf⟩ := zb1_e hf
                refine zgo_i (zrunV (As := [.int p2]) (rest := [.int p3]) S (c_X12_steps l hD p2 h31) (cwV 1 hts gX12_habit_X12_steps rfl rfl rfl ddX12_steps ⟨Nat.le_trans (Nat.le_of_ble_eq_true rfl) hfr, Nat.le_trans (Nat.le_of_ble_eq_true rfl) hlo⟩) (va_recv E.1 hP (q := (RX12, TX12, 31)) (ci := 11) rfl (zO.get (oX12_at))) E hP hS hl.1 rfl rfl (Nat.le_of_ble_eq_true rfl) dX12_habit_119) hS (fun H locs hP hS => ?_)
                refine lv_icmp_ne (tgt := 129) hx hb dX12_habit_122 (by decide) (fun k32 => ?_) (fun k32 => ?_)
                · replace hf := zf k32 hf
                  refine lv_iconst (v := 0) hx hb dX12_habit_129 (by decide) ?_
                  refine lv_istore (lv' := [(8, .int 0), (0, .ref (ad 0)), (1, .int p1), (2, .int p2), (3, .int p3), (4, .int p4), (5, .int x7), (6, .int x8)]) hx hb dX12_habit_130 hl (by decide) rfl (fun ls hl => ?_)
                  exact hjr25 _ (Option.some.inj hf) _ _ _ hP hS (lv_sub hl [5, 6, 7, 0] rfl)
                · replace hf := zt k32 hf
                  refine lv_iconst (v := 1) hx hb dX12_habit_125 (by decide) ?_
                  refine lv_goto (tgt := 130) hx hb dX12_habit_126 (by decide) ?_
                  refine lv_istore (lv' := [(8, .int 1), (0, .ref (ad 0)), (1, .int p1), (2, .int p2), (3, .int p3), (4, .int p4), (5, .int x7), (6, .int x8)]) hx hb dX12_habit_130 hl (by decide) rfl (fun ls hl => ?_)
                  exact hjr25 _ (Option.some.inj hf) _ _ _ hP hS (lv_sub hl [5, 6, 7, 0] rfl)
        refine lv_icmp_gt (tgt := 89) hx hb dX12_habit_65 (by decide) (fun k16 => ?_) (fun k16 => ?_)
        · replace hf := zt k16 hf
          refine lv_iconst (v := 1) hx hb dX12_habit_89 (by decide) ?_
          refine lv_goto (tgt := 94) hx hb dX12_habit_90 (by decide) ?_
          exact hjr18 _ (Option.some.inj hf) _ _ _ hP hS (lv_sub hl [1, 2, 3, 4, 5, 6, 7] rfl)
        · replace hf := zf k16 hf
          refine lv_iload hx hb dX12_habit_68 (lv_at hl 7 rfl) ?_
          refine lv_iload_n hx hb dX12_habit_70 rfl (lv_at hl 4 rfl) ?_
          refine lv_icmp_ne (tgt := 93) hx hb dX12_habit_71 (by decide) (fun k19 => ?_) (fun k19 => ?_)
          · replace hf := zf k19 hf
            refine lv_iconst (v := 0) hx hb dX12_habit_93 (by decide) ?_
            exact hjr18 _ (Option.some.inj hf) _ _ _ hP hS (lv_sub hl [1, 2, 3, 4, 5, 6, 7] rfl)
          · replace hf := zt k19 hf
            refine lv_iload hx hb dX12_habit_74 (lv_at hl 0 rfl) ?_
            refine lv_aload_n hx hb dX12_habit_76 rfl (lv_at hl 1 rfl) ?_
            refine va_get (D := D) (ci := 11) (v := .ref (ad 6)) (C := RX12) (T := TX12) (N := 31) hx hb hts hinX12_habit_X12 hown E.1 hP 0 (zO.get (oX12_at)) rfl 7 (by decide) (hts (.fieldLink RX12 26 "EdgeAndSpeedModel" "piece" "[I") (by decide +kernel)) (fun _ h9 => h9) rfl dX12_habit_77 ?_
            refine lv_iconst (v := 4) hx hb dX12_habit_80 (by decide) ?_
            refine lv_iload_n hx hb dX12_habit_81 rfl (lv_at hl 3 rfl) ?_
            refine lv_imul hx hb dX12_habit_82 ?_
            refine lv_iconst (v := 2) hx hb dX12_habit_83 (by decide) ?_
            refine lv_iadd hx hb dX12_habit_84 ?_
            obtain ⟨g20, hf⟩ := zg_i hf
            refine va_iald hx hb E.1 hP 6 1 (zIA.get (aX12_7)) rfl g20 dX12_habit_85 ?_
            refine lv_icmp_le (tgt := 93) hx hb dX12_habit_86 (by decide) (fun k21 => ?_) (fun k21 => ?_)
            · replace hf := zt k21 hf
              refine lv_iconst (v := 0) hx hb dX12_habit_93 (by decide) ?_
              exact hjr18 _ (Option.some.inj hf) _ _ _ hP hS (lv_sub hl [1, 2, 3, 4, 5, 6, 7] rfl)
            · replace hf := zf k21 hf
              refine lv_iconst (v := 1) hx hb dX12_habit_89 (by decide) ?_
              refine lv_goto (tgt := 94) hx hb dX12_habit_90 (by decide) ?_
              exact hjr18 _ (Option.some.inj hf) _ _ _ hP hS (lv_sub hl [1, 2, 3, 4, 5, 6, 7] rfl)
      refine lv_icmp_ne (tgt := 53) hx hb dX12_habit_39 (by decide) (fun k11 => ?_) (fun k11 => ?_)
      · replace hf := zf k11 hf
        refine lv_iload hx hb dX12_habit_53 (lv_at hl 6 rfl) ?_
        exact hjr13 _ (Option.some.inj hf) _ _ _ hP hS (lv_sub hl [2, 3, 4, 5, 6, 1, 0] rfl)
      · replace hf := zt k11 hf
        refine lv_iload hx hb dX12_habit_42 (lv_at hl 6 rfl) ?_
        refine lv_iload hx hb dX12_habit_44 (lv_at hl 6 rfl) ?_
        refine lv_bipush (v := 10) hx hb dX12_habit_46 (by decide) ?_
        refine lv_irem hx hb dX12_habit_48 (by decide) ?_
        refine lv_isub hx hb dX12_habit_49 ?_
        refine lv_goto (tgt := 55) hx hb dX12_habit_50 (by decide) ?_
        exact hjr13 _ (Option.some.inj hf) _ _ _ hP hS (lv_sub hl [2, 3, 4, 5, 6, 1, 0] rfl)
    · replace hf := zt k10 hf
      refine lv_bipush (v := 49) hx hb dX12_habit_34 (by decide) ?_
      exact hret _ hf _ _ _ _ hP hS dX12_habit_36
  refine lv_icmp_ne (tgt := 12) hx hb dX12_habit_2 (by decide) (fun k1 => ?_) (fun k1 => ?_)
  · replace hf := zf k1 hf
    refine lv_aload_n hx hb dX12_habit_12 rfl (lv_at hl 0 rfl) ?_
    refine va_get (D := D) (ci := 11) (v := .ref (ad 12)) (C := RX12) (T := TX12) (N := 31) hx hb hts hinX12_habit_X12 hown E.1 hP 0 (zO.get (oX12_at)) rfl 14 (by decide) (hts (.fieldLink RX12 44 "EdgeAndSpeedModel" "hands" "[I") (by decide +kernel)) (fun _ h9 => h9) rfl dX12_habit_13 ?_
    refine lv_iconst (v := 0) hx hb dX12_habit_16 (by decide) ?_
    obtain ⟨g4, hf⟩ := zg_i hf
    refine va_iald hx hb E.1 hP 12 1 (zIA.get (aX12_14)) rfl g4 dX12_habit_17 ?_
    exact hjr3 _ (Option.some.inj hf) _ _ _ hP hS (lv_sub hl [0, 1, 2, 3, 4] rfl)
  · replace hf := zt k1 hf
    refine lv_aload_n hx hb dX12_habit_5 rfl (lv_at hl 0 rfl) ?_
    obtain ⟨x5, h6, hf⟩ := zb1_e hf
    refine zgo_i (zrunV (As := []) (rest := []) S (c_X12_leastWear l hD  h6) (cwV 0 hts gX12_habit_X12_leastWear rfl rfl rfl ddX12_leastWear ⟨Nat.le_trans (Nat.le_of_ble_eq_true rfl) hfr, Nat.le_trans (Nat.le_of_ble_eq_true rfl) hlo⟩) (va_recv E.1 hP (q := (RX12, TX12, 31)) (ci := 11) rfl (zO.get (oX12_at))) E hP hS hl.1 rfl rfl (Nat.le_of_ble_eq_true rfl) dX12_habit_6) hS (fun H locs hP hS => ?_)
    refine lv_goto (tgt := 18) hx hb dX12_habit_9 (by decide) ?_
    exact hjr3 _ (Option.some.inj hf) _ _ _ hP hS (lv_sub hl [0, 1, 2, 3, 4] rfl)
theorem c_X12_habit (l : Launch) {D : va_G} {a0 : Nat → Nat} {A : Nat → Prop} {cy : Nat → ClassId} {ad : Nat → Nat} (hD : zD A 25 ad) {I : zI} {J : zJ} (p1 : Int32) (p2 : Int32) (p3 : Int32) (p4 : Int32) {rx : Int32} (hf : f_X12_habit I J p1 p2 p3 p4 = some rx) : Met l yX12_habit wsX12_habit { frames := 2, cells := 0, slots := 0, locals := 46 } (zPc D a0 A cy [.ref (ad 0), .int p1, .int p2, .int p3, .int p4] (zw 25 (kM cy ad) ad I J)) (zQi D A rx (zw 25 (kM cy ad) ad I J)) 0 0 A :=
  zmet RX12 (by decide) rfl rfl (Nat.le_of_ble_eq_true rfl) (fun p e R s m below meth c Q hfr hlo ls S0 hQ => w_X12_habit hfr hlo hD p1 p2 p3 p4 hf S0 (fun tx hq H locs ls pc hP hS hd => by cases hq; exact hQ H locs _ hS (fun hx hb hr hlocks hfree => W.iret hx hb hr (fun t ht hW => ⟨⟨_, (), rfl, rfl, zht ht hP⟩, hS.F ht⟩) hfree hd hlocks)))
theorem ddX12_habit : yX12_habit.cls = RX12 ∧ yX12_habit.cls ≠ "java/lang/invoke/MethodHandle" ∧ yX12_habit.cls ≠ "java/lang/invoke/VarHandle" ∧ (parseMethodDescriptor yX12_habit.desc).map (fun d => d.parameters.length) = some 4 := by decide +kernel

def f_X12_handles_L56 (J : zJ) (x13 : Int32) (x18 : Int32) (p1 : Int32) (x24 : Int32) (I25 : zI) : Option ((Int32 × zI) ⊕ zI) := (if 100 < x24 then some (.inr I25) else zb1 (f_X12_cell I25 J x13 x18 x24) (fun x27 => zb1 (f_X12_habit I25 J p1 x13 x18 x24) (fun x29 => zg (¬ (x27 < 0 ∨ 7272 ≤ x27.toNatClampNeg)) (zn (va_up I25 15 (upd (I25 15) x27.toNatClampNeg x29)) (fun I31 => zn (x24 + 1) (fun y33 => some (.inl (y33, I31))))))))
def f_X12_handles_L43 (J : zJ) (x13 : Int32) (p1 : Int32) (x18 : Int32) (I19 : zI) : Option ((Int32 × zI) ⊕ zI) := zb1 (f_X12_steps I19 J x13) (fun x20 => (if x20 < x18 then some (.inr I19) else zb1 (zl (fun v : (Int32 × zI) => f_X12_handles_L56 J x13 x18 p1 v.1 v.2) zF (0, I19)) (fun I34 => zn (x18 + 1) (fun y35 => some (.inl (y35, I34))))))
def f_X12_handles_L30 (J : zJ) (p1 : Int32) (x13 : Int32) (I14 : zI) : Option ((Int32 × zI) ⊕ zI) := zg (¬ ((0 : Int32) < 0 ∨ 2 ≤ (0 : Int32).toNatClampNeg)) ((if (I14 5 (0 : Int32).toNatClampNeg) ≤ x13 then some (.inr I14) else zb1 (zl (fun v : (Int32 × zI) => f_X12_handles_L43 J x13 p1 v.1 v.2) zF (1, I14)) (fun I36 => zn (x13 + 1) (fun y37 => some (.inl (y37, I36))))))
def f_X12_handles (I : zI) (J : zJ) (p1 : Int32) (p2 : Int32) : Option (zI × zJ) := (if p1 = 0 then zb1 ((if p1 = 0 then some (0) else some (1)) : Option Int32) (fun x5 => zb1 (f_X12_counts I J x5) (fun J6 => zb2 (f_X12_solves I J6 p2) (fun I8 J9 => some (I8, J9)))) else (if p1 = 4 then zb1 ((if p1 = 0 then some (0) else some (1)) : Option Int32) (fun x42 => zb1 (f_X12_counts I J x42) (fun J43 => zb2 (f_X12_solves I J43 p2) (fun I45 J46 => some (I45, J46)))) else zb1 (zl (fun v : (Int32 × zI) => f_X12_handles_L30 J p1 v.1 v.2) zF (0, I)) (fun I38 => some (I38, J))))
theorem hinX12_handles_X12 : ∀ w ∈ u_ws RX12 TX12 31, w ∈ wsX12_handles := by decide +kernel
set_option maxHeartbeats 4000000 in
set_option maxRecDepth 100000 in
theorem w_X12_handles {p : Program} {l : Launch} {e : Env} {R : Room} {s : State} {m : MethodId} {args : Array Value} {below : List Frame} {meth : Method} {c : Code} {Q : State → Prop} (hfr : 4 ≤ R.frames) (hlo : 106 ≤ R.locals) {D : va_G} {a0 : Nat → Nat} {A : Nat → Prop} {cy : Nat → ClassId} {ad : Nat → Nat} (hD : zD A 25 ad) {I : zI} {J : zJ} (p1 : Int32) (p2 : Int32) {rI : zI} {rJ : zJ} (hf : f_X12_handles I J p1 p2 = some (rI, rJ)) {ls : Array Slot} (S0 : zSt p m c cX12_handles 6 s args wsX12_handles RX12 D a0 A cy (zw 25 (kM cy ad) ad I J) [.ref (ad 0), .int p1, .int p2] ls) (hret : ∀ (tI : zI) (tJ : zJ), some (tI, tJ) = some (rI, rJ) → ∀ (H : Heap) (locs : List Loc) (ls : Array Slot) (pc : Nat), va_P D vwCl (zw 25 (kM cy ad) ad tI tJ) H → va_S A s.heap H locs → decode cX12_handles pc = .ok (.return_, 1) → W p l e R s m args below meth c H locs 0 0 Q (F0 m pc ls [])) : W p l e R s m args below meth c s.heap [] 0 0 Q (F0 m 0 ls []) := by
  obtain ⟨S, E, hP, hl⟩ := S0
  obtain ⟨hx, hb, hml, hown, hts⟩ := id S
  have hS : va_S A s.heap s.heap [] := va_S.rf
  replace hl : lv_has ls 6 [(0, .ref (ad 0)), (1, .int p1), (2, .int p2)] := hl
  unfold f_X12_handles at hf
  refine lv_iload_n hx hb dX12_handles_0 rfl (lv_at hl 1 rfl) ?_
  refine lv_if_eq (tgt := 9) hx hb dX12_handles_1 (by decide) (fun k1 => ?_) (fun k1 => ?_)
  · replace hf := zt k1 hf
    refine lv_aload_n hx hb dX12_handles_9 rfl (lv_at hl 0 rfl) ?_
    refine lv_iload_n hx hb dX12_handles_10 rfl (lv_at hl 1 rfl) ?_
    obtain ⟨zr4, hf, hzr4⟩ := zb1_i hf
    have hjr4 : ∀ (x5 : Int32), x5 = zr4 → ∀ (H : Heap) (locs : List Loc) (ls : Array Slot), va_P D vwCl (zw 25 (kM cy ad) ad I J) H → va_S A s.heap H locs → lv_has ls 6 [(0, .ref (ad 0)), (2, .int p2)] → W p l e R s m args below meth c H locs 0 0 Q (F0 m 19 ls [.int x5, .ref (ad 0)]) := by
      intro x5 ez H locs ls hP hS hl
      have hf := hzr4 x5 ez
      obtain ⟨J6, h7, hf⟩ := zb1_e hf
      refine zgo_v (zrunV (As := [.int x5]) (rest := []) S (c_X12_counts l hD x5 h7) (cwV 1 hts gX12_handles_X12_counts rfl rfl rfl ddX12_counts ⟨Nat.le_trans (Nat.le_of_ble_eq_true rfl) hfr, Nat.le_trans (Nat.le_of_ble_eq_true rfl) hlo⟩) (va_recv E.1 hP (q := (RX12, TX12, 31)) (ci := 11) rfl (zO.get (oX12_at))) E hP hS hl.1 rfl rfl (Nat.le_of_ble_eq_true rfl) dX12_handles_19) hS (fun H locs hP hS => ?_)
      refine lv_aload_n hx hb dX12_handles_22 rfl (lv_at hl 0 rfl) ?_
      refine lv_iload_n hx hb dX12_handles_23 rfl (lv_at hl 1 rfl) ?_
      obtain ⟨I8, J9, h10, hf⟩ := zb2_e hf
      refine zgo_v (zrunV (As := [.int p2]) (rest := []) S (c_X12_solves l hD p2 h10) (cwV 1 hts gX12_handles_X12_solves rfl rfl rfl ddX12_solves ⟨Nat.le_trans (Nat.le_of_ble_eq_true rfl) hfr, Nat.le_trans (Nat.le_of_ble_eq_true rfl) hlo⟩) (va_recv E.1 hP (q := (RX12, TX12, 31)) (ci := 11) rfl (zO.get (oX12_at))) E hP hS hl.1 rfl rfl (Nat.le_of_ble_eq_true rfl) dX12_handles_24) hS (fun H locs hP hS => ?_)
      exact hret _ _ hf _ _ _ _ hP hS dX12_handles_27
    refine lv_if_ne (tgt := 18) hx hb dX12_handles_11 (by decide) (fun k2 => ?_) (fun k2 => ?_)
    · replace hf := zf k2 hf
      refine lv_iconst (v := 1) hx hb dX12_handles_18 (by decide) ?_
      exact hjr4 _ (Option.some.inj hf) _ _ _ hP hS (lv_sub hl [0, 2] rfl)
    · replace hf := zt k2 hf
      refine lv_iconst (v := 0) hx hb dX12_handles_14 (by decide) ?_
      refine lv_goto (tgt := 19) hx hb dX12_handles_15 (by decide) ?_
      exact hjr4 _ (Option.some.inj hf) _ _ _ hP hS (lv_sub hl [0, 2] rfl)
  · replace hf := zf k1 hf
    refine lv_iload_n hx hb dX12_handles_4 rfl (lv_at hl 1 rfl) ?_
    refine lv_iconst (v := 4) hx hb dX12_handles_5 (by decide) ?_
    refine lv_icmp_ne (tgt := 28) hx hb dX12_handles_6 (by decide) (fun k11 => ?_) (fun k11 => ?_)
    · replace hf := zf k11 hf
      refine lv_iconst (v := 0) hx hb dX12_handles_28 (by decide) ?_
      refine lv_istore_n (lv' := [(3, .int 0), (0, .ref (ad 0)), (1, .int p1), (2, .int p2)]) hx hb dX12_handles_29 rfl hl (by decide) rfl (fun ls hl => ?_)
      obtain ⟨zl12, hf, hzl12⟩ := zb1_i hf
      have hjl12 : ∀ (I38 : zI), I38 = zl12 → ∀ (H : Heap) (locs : List Loc) (ls : Array Slot), va_P D vwCl (zw 25 (kM cy ad) ad I38 J) H → va_S A s.heap H locs → lv_has ls 6 [] → W p l e R s m args below meth c H locs 0 0 Q (F0 m 104 ls []) := by
        intro I38 ez H locs ls hP hS hl
        have hf := hzl12 I38 ez
        exact hret _ _ hf _ _ _ _ hP hS dX12_handles_104
      refine zl_i (V := (Int32 × zI)) (P := fun v => ∀ (H : Heap) (locs : List Loc) (ls : Array Slot), va_P D vwCl (zw 25 (kM cy ad) ad v.2 J) H → va_S A s.heap H locs → lv_has ls 6 [(0, .ref (ad 0)), (1, .int p1), (3, .int (v.1))] → W p l e R s m args below meth c H locs 0 0 Q (F0 m 30 ls [])) ?_ _ _ hf _ _ _ hP hS (lv_sub hl [1, 2, 0] rfl)
      intro v z hf hcl12 hdl12
      obtain ⟨x13, I14⟩ := v
      intro H locs ls hP hS hl
      replace hf : f_X12_handles_L30 J p1 x13 I14 = some z := hf
      unfold f_X12_handles_L30 at hf
      replace hP : va_P D vwCl (zw 25 (kM cy ad) ad I14 J) H := hP
      replace hl : lv_has ls 6 [(0, .ref (ad 0)), (1, .int p1), (3, .int x13)] := hl
      refine lv_iload_n hx hb dX12_handles_30 rfl (lv_at hl 2 rfl) ?_
      refine lv_aload_n hx hb dX12_handles_31 rfl (lv_at hl 0 rfl) ?_
      refine va_get (D := D) (ci := 11) (v := .ref (ad 5)) (C := RX12) (T := TX12) (N := 31) hx hb hts hinX12_handles_X12 hown E.1 hP 0 (zO.get (oX12_at)) rfl 6 (by decide) (hts (.fieldLink RX12 23 "EdgeAndSpeedModel" "pieces" "[I") (by decide +kernel)) (fun _ h9 => h9) rfl dX12_handles_32 ?_
      refine lv_iconst (v := 0) hx hb dX12_handles_35 (by decide) ?_
      obtain ⟨g15, hf⟩ := zg_i hf
      refine va_iald hx hb E.1 hP 5 1 (zIA.get (aX12_6)) rfl g15 dX12_handles_36 ?_
      refine lv_icmp_ge (tgt := 104) hx hb dX12_handles_37 (by decide) (fun k16 => ?_) (fun k16 => ?_)
      · replace hf := zt k16 hf
        exact hjl12 _ (hdl12 _ (Option.some.inj hf).symm) _ _ _ hP hS (lv_sub hl [] rfl)
      · replace hf := zf k16 hf
        refine lv_iconst (v := 1) hx hb dX12_handles_40 (by decide) ?_
        refine lv_istore (lv' := [(4, .int 1), (0, .ref (ad 0)), (1, .int p1), (3, .int x13)]) hx hb dX12_handles_41 hl (by decide) rfl (fun ls hl => ?_)
        obtain ⟨zl17, hf, hzl17⟩ := zb1_i hf
        have hjl17 : ∀ (I36 : zI), I36 = zl17 → ∀ (H : Heap) (locs : List Loc) (ls : Array Slot), va_P D vwCl (zw 25 (kM cy ad) ad I36 J) H → va_S A s.heap H locs → lv_has ls 6 [(0, .ref (ad 0)), (1, .int p1), (3, .int x13)] → W p l e R s m args below meth c H locs 0 0 Q (F0 m 98 ls []) := by
          intro I36 ez H locs ls hP hS hl
          have hf := hzl17 I36 ez
          obtain ⟨y37, ey37⟩ := zex (x13 + 1)
          replace hf := zn_s ey37 hf
          refine lv_iinc (v := y37) (lv' := [(3, .int y37), (0, .ref (ad 0)), (1, .int p1)]) hx hb dX12_handles_98 hl (k := 2) rfl (by rw [ey37]; rfl) (by decide) rfl (fun ls hl => ?_)
          refine lv_goto (tgt := 30) hx hb dX12_handles_101 (by decide) ?_
          exact hcl12 _ (Option.some.inj hf).symm _ _ _ hP hS (lv_sub hl [1, 2, 0] rfl)
        refine zl_i (V := (Int32 × zI)) (P := fun v => ∀ (H : Heap) (locs : List Loc) (ls : Array Slot), va_P D vwCl (zw 25 (kM cy ad) ad v.2 J) H → va_S A s.heap H locs → lv_has ls 6 [(0, .ref (ad 0)), (1, .int p1), (3, .int x13), (4, .int (v.1))] → W p l e R s m args below meth c H locs 0 0 Q (F0 m 43 ls [])) ?_ _ _ hf _ _ _ hP hS (lv_sub hl [1, 2, 3, 0] rfl)
        intro v z hf hcl17 hdl17
        obtain ⟨x18, I19⟩ := v
        intro H locs ls hP hS hl
        replace hf : f_X12_handles_L43 J x13 p1 x18 I19 = some z := hf
        unfold f_X12_handles_L43 at hf
        replace hP : va_P D vwCl (zw 25 (kM cy ad) ad I19 J) H := hP
        replace hl : lv_has ls 6 [(0, .ref (ad 0)), (1, .int p1), (3, .int x13), (4, .int x18)] := hl
        refine lv_iload hx hb dX12_handles_43 (lv_at hl 3 rfl) ?_
        refine lv_aload_n hx hb dX12_handles_45 rfl (lv_at hl 0 rfl) ?_
        refine lv_iload_n hx hb dX12_handles_46 rfl (lv_at hl 2 rfl) ?_
        obtain ⟨x20, h21, hf⟩ := zb1_e hf
        refine zgo_i (zrunV (As := [.int x13]) (rest := [.int x18]) S (c_X12_steps l hD x13 h21) (cwV 1 hts gX12_handles_X12_steps rfl rfl rfl ddX12_steps ⟨Nat.le_trans (Nat.le_of_ble_eq_true rfl) hfr, Nat.le_trans (Nat.le_of_ble_eq_true rfl) hlo⟩) (va_recv E.1 hP (q := (RX12, TX12, 31)) (ci := 11) rfl (zO.get (oX12_at))) E hP hS hl.1 rfl rfl (Nat.le_of_ble_eq_true rfl) dX12_handles_47) hS (fun H locs hP hS => ?_)
        refine lv_icmp_gt (tgt := 98) hx hb dX12_handles_50 (by decide) (fun k22 => ?_) (fun k22 => ?_)
        · replace hf := zt k22 hf
          exact hjl17 _ (hdl17 _ (Option.some.inj hf).symm) _ _ _ hP hS (lv_sub hl [0, 1, 2] rfl)
        · replace hf := zf k22 hf
          refine lv_iconst (v := 0) hx hb dX12_handles_53 (by decide) ?_
          refine lv_istore (lv' := [(5, .int 0), (0, .ref (ad 0)), (1, .int p1), (3, .int x13), (4, .int x18)]) hx hb dX12_handles_54 hl (by decide) rfl (fun ls hl => ?_)
          obtain ⟨zl23, hf, hzl23⟩ := zb1_i hf
          have hjl23 : ∀ (I34 : zI), I34 = zl23 → ∀ (H : Heap) (locs : List Loc) (ls : Array Slot), va_P D vwCl (zw 25 (kM cy ad) ad I34 J) H → va_S A s.heap H locs → lv_has ls 6 [(0, .ref (ad 0)), (1, .int p1), (3, .int x13), (4, .int x18)] → W p l e R s m args below meth c H locs 0 0 Q (F0 m 92 ls []) := by
            intro I34 ez H locs ls hP hS hl
            have hf := hzl23 I34 ez
            obtain ⟨y35, ey35⟩ := zex (x18 + 1)
            replace hf := zn_s ey35 hf
            refine lv_iinc (v := y35) (lv' := [(4, .int y35), (0, .ref (ad 0)), (1, .int p1), (3, .int x13)]) hx hb dX12_handles_92 hl (k := 3) rfl (by rw [ey35]; rfl) (by decide) rfl (fun ls hl => ?_)
            refine lv_goto (tgt := 43) hx hb dX12_handles_95 (by decide) ?_
            exact hcl17 _ (Option.some.inj hf).symm _ _ _ hP hS (lv_sub hl [1, 2, 3, 0] rfl)
          refine zl_i (V := (Int32 × zI)) (P := fun v => ∀ (H : Heap) (locs : List Loc) (ls : Array Slot), va_P D vwCl (zw 25 (kM cy ad) ad v.2 J) H → va_S A s.heap H locs → lv_has ls 6 [(0, .ref (ad 0)), (1, .int p1), (3, .int x13), (4, .int x18), (5, .int (v.1))] → W p l e R s m args below meth c H locs 0 0 Q (F0 m 56 ls [])) ?_ _ _ hf _ _ _ hP hS (lv_sub hl [1, 2, 3, 4, 0] rfl)
          intro v z hf hcl23 hdl23
          obtain ⟨x24, I25⟩ := v
          intro H locs ls hP hS hl
          replace hf : f_X12_handles_L56 J x13 x18 p1 x24 I25 = some z := hf
          unfold f_X12_handles_L56 at hf
          replace hP : va_P D vwCl (zw 25 (kM cy ad) ad I25 J) H := hP
          replace hl : lv_has ls 6 [(0, .ref (ad 0)), (1, .int p1), (3, .int x13), (4, .int x18), (5, .int x24)] := hl
          refine lv_iload hx hb dX12_handles_56 (lv_at hl 4 rfl) ?_
          refine lv_bipush (v := 100) hx hb dX12_handles_58 (by decide) ?_
          refine lv_icmp_gt (tgt := 92) hx hb dX12_handles_60 (by decide) (fun k26 => ?_) (fun k26 => ?_)
          · replace hf := zt k26 hf
            exact hjl23 _ (hdl23 _ (Option.some.inj hf).symm) _ _ _ hP hS (lv_sub hl [0, 1, 2, 3] rfl)
          · replace hf := zf k26 hf
            refine lv_aload_n hx hb dX12_handles_63 rfl (lv_at hl 0 rfl) ?_
            refine va_get (D := D) (ci := 11) (v := .ref (ad 15)) (C := RX12) (T := TX12) (N := 31) hx hb hts hinX12_handles_X12 hown E.1 hP 0 (zO.get (oX12_at)) rfl 17 (by decide) (hts (.fieldLink RX12 53 "EdgeAndSpeedModel" "act" "[I") (by decide +kernel)) (fun _ h9 => h9) rfl dX12_handles_64 ?_
            refine lv_iload_n hx hb dX12_handles_67 rfl (lv_at hl 2 rfl) ?_
            refine lv_iload hx hb dX12_handles_68 (lv_at hl 3 rfl) ?_
            refine lv_iload hx hb dX12_handles_70 (lv_at hl 4 rfl) ?_
            obtain ⟨x27, h28, hf⟩ := zb1_e hf
            refine zgo_i (zrunS (As := [.int x13, .int x18, .int x24]) (rest := [.ref (ad 15)]) S (c_X12_cell l hD x13 x18 x24 h28) (va_cwS 3 hts gX12_handles_X12_cell rfl rfl rfl ddX12_cell ⟨Nat.le_trans (Nat.le_of_ble_eq_true rfl) hfr, Nat.le_trans (Nat.le_of_ble_eq_true rfl) hlo⟩) E hP hS hl.1 rfl rfl (Nat.le_of_ble_eq_true rfl) dX12_handles_72) hS (fun H locs hP hS => ?_)
            refine lv_aload_n hx hb dX12_handles_75 rfl (lv_at hl 0 rfl) ?_
            refine lv_iload_n hx hb dX12_handles_76 rfl (lv_at hl 1 rfl) ?_
            refine lv_iload_n hx hb dX12_handles_77 rfl (lv_at hl 2 rfl) ?_
            refine lv_iload hx hb dX12_handles_78 (lv_at hl 3 rfl) ?_
            refine lv_iload hx hb dX12_handles_80 (lv_at hl 4 rfl) ?_
            obtain ⟨x29, h30, hf⟩ := zb1_e hf
            refine zgo_i (zrunV (As := [.int p1, .int x13, .int x18, .int x24]) (rest := [.int x27, .ref (ad 15)]) S (c_X12_habit l hD p1 x13 x18 x24 h30) (cwV 4 hts gX12_handles_X12_habit rfl rfl rfl ddX12_habit ⟨Nat.le_trans (Nat.le_of_ble_eq_true rfl) hfr, Nat.le_trans (Nat.le_of_ble_eq_true rfl) hlo⟩) (va_recv E.1 hP (q := (RX12, TX12, 31)) (ci := 11) rfl (zO.get (oX12_at))) E hP hS hl.1 rfl rfl (Nat.le_of_ble_eq_true rfl) dX12_handles_82) hS (fun H locs hP hS => ?_)
            obtain ⟨g32, hf⟩ := zg_i hf
            obtain ⟨I31, eI31⟩ := zex (va_up I25 15 (upd (I25 15) x27.toNatClampNeg x29))
            replace hf := zn_s eI31 hf
            refine zast_i hx hb E.1 hP hD.D hS (aX12_17) g32 dX12_handles_85 eI31 (fun H locs hP hS => ?_)
            obtain ⟨y33, ey33⟩ := zex (x24 + 1)
            replace hf := zn_s ey33 hf
            refine lv_iinc (v := y33) (lv' := [(5, .int y33), (0, .ref (ad 0)), (1, .int p1), (3, .int x13), (4, .int x18)]) hx hb dX12_handles_86 hl (k := 4) rfl (by rw [ey33]; rfl) (by decide) rfl (fun ls hl => ?_)
            refine lv_goto (tgt := 56) hx hb dX12_handles_89 (by decide) ?_
            exact hcl23 _ (Option.some.inj hf).symm _ _ _ hP hS (lv_sub hl [1, 2, 3, 4, 0] rfl)
    · replace hf := zt k11 hf
      refine lv_aload_n hx hb dX12_handles_9 rfl (lv_at hl 0 rfl) ?_
      refine lv_iload_n hx hb dX12_handles_10 rfl (lv_at hl 1 rfl) ?_
      obtain ⟨zr41, hf, hzr41⟩ := zb1_i hf
      have hjr41 : ∀ (x42 : Int32), x42 = zr41 → ∀ (H : Heap) (locs : List Loc) (ls : Array Slot), va_P D vwCl (zw 25 (kM cy ad) ad I J) H → va_S A s.heap H locs → lv_has ls 6 [(0, .ref (ad 0)), (2, .int p2)] → W p l e R s m args below meth c H locs 0 0 Q (F0 m 19 ls [.int x42, .ref (ad 0)]) := by
        intro x42 ez H locs ls hP hS hl
        have hf := hzr41 x42 ez
        obtain ⟨J43, h44, hf⟩ := zb1_e hf
        refine zgo_v (zrunV (As := [.int x42]) (rest := []) S (c_X12_counts l hD x42 h44) (cwV 1 hts gX12_handles_X12_counts rfl rfl rfl ddX12_counts ⟨Nat.le_trans (Nat.le_of_ble_eq_true rfl) hfr, Nat.le_trans (Nat.le_of_ble_eq_true rfl) hlo⟩) (va_recv E.1 hP (q := (RX12, TX12, 31)) (ci := 11) rfl (zO.get (oX12_at))) E hP hS hl.1 rfl rfl (Nat.le_of_ble_eq_true rfl) dX12_handles_19) hS (fun H locs hP hS => ?_)
        refine lv_aload_n hx hb dX12_handles_22 rfl (lv_at hl 0 rfl) ?_
        refine lv_iload_n hx hb dX12_handles_23 rfl (lv_at hl 1 rfl) ?_
        obtain ⟨I45, J46, h47, hf⟩ := zb2_e hf
        refine zgo_v (zrunV (As := [.int p2]) (rest := []) S (c_X12_solves l hD p2 h47) (cwV 1 hts gX12_handles_X12_solves rfl rfl rfl ddX12_solves ⟨Nat.le_trans (Nat.le_of_ble_eq_true rfl) hfr, Nat.le_trans (Nat.le_of_ble_eq_true rfl) hlo⟩) (va_recv E.1 hP (q := (RX12, TX12, 31)) (ci := 11) rfl (zO.get (oX12_at))) E hP hS hl.1 rfl rfl (Nat.le_of_ble_eq_true rfl) dX12_handles_24) hS (fun H locs hP hS => ?_)
        exact hret _ _ hf _ _ _ _ hP hS dX12_handles_27
      refine lv_if_ne (tgt := 18) hx hb dX12_handles_11 (by decide) (fun k39 => ?_) (fun k39 => ?_)
      · replace hf := zf k39 hf
        refine lv_iconst (v := 1) hx hb dX12_handles_18 (by decide) ?_
        exact hjr41 _ (Option.some.inj hf) _ _ _ hP hS (lv_sub hl [0, 2] rfl)
      · replace hf := zt k39 hf
        refine lv_iconst (v := 0) hx hb dX12_handles_14 (by decide) ?_
        refine lv_goto (tgt := 19) hx hb dX12_handles_15 (by decide) ?_
        exact hjr41 _ (Option.some.inj hf) _ _ _ hP hS (lv_sub hl [0, 2] rfl)
theorem c_X12_handles (l : Launch) {D : va_G} {a0 : Nat → Nat} {A : Nat → Prop} {cy : Nat → ClassId} {ad : Nat → Nat} (hD : zD A 25 ad) {I : zI} {J : zJ} (p1 : Int32) (p2 : Int32) {rI : zI} {rJ : zJ} (hf : f_X12_handles I J p1 p2 = some (rI, rJ)) : Met l yX12_handles wsX12_handles { frames := 4, cells := 0, slots := 0, locals := 106 } (zPc D a0 A cy [.ref (ad 0), .int p1, .int p2] (zw 25 (kM cy ad) ad I J)) (zQv D A (zw 25 (kM cy ad) ad rI rJ)) 0 0 A :=
  zmet RX12 (by decide) rfl rfl (Nat.le_of_ble_eq_true rfl) (fun p e R s m below meth c Q hfr hlo ls S0 hQ => w_X12_handles hfr hlo hD p1 p2 hf S0 (fun tI tJ hq H locs ls pc hP hS hd => by cases hq; exact hQ H locs _ hS (fun hx hb hr hlocks hfree => W.vret hx hb hr (fun t ht hW => ⟨⟨(), rfl, trivial, zht ht hP⟩, hS.F ht⟩) hfree hd hlocks)))
theorem ddX12_handles : yX12_handles.cls = RX12 ∧ yX12_handles.cls ≠ "java/lang/invoke/MethodHandle" ∧ yX12_handles.cls ≠ "java/lang/invoke/VarHandle" ∧ (parseMethodDescriptor yX12_handles.desc).map (fun d => d.parameters.length) = some 2 := by decide +kernel

def f_X12_isAsked (I : zI) (J : zJ) (p1 : Int32) (p2 : Int32) (p3 : Int32) (p4 : Int32) (p5 : Int32) : Option Int32 := zb1 (f_X12_in I J (p1.toInt64) 0 5) (fun x1 => (if x1 = 0 then some 0 else zb1 (f_X12_isSteel I J p2) (fun x4 => (if x4 = 0 then some 0 else zb1 (f_X12_isState I J p3 p4 p5) (fun x7 => (if x7 = 0 then some 0 else some 1))))))
set_option maxHeartbeats 4000000 in
set_option maxRecDepth 100000 in
theorem w_X12_isAsked {p : Program} {l : Launch} {e : Env} {R : Room} {s : State} {m : MethodId} {args : Array Value} {below : List Frame} {meth : Method} {c : Code} {Q : State → Prop} (hfr : 3 ≤ R.frames) (hlo : 69 ≤ R.locals) {D : va_G} {a0 : Nat → Nat} {A : Nat → Prop} {cy : Nat → ClassId} {ad : Nat → Nat} (hD : zD A 25 ad) {I : zI} {J : zJ} (p1 : Int32) (p2 : Int32) (p3 : Int32) (p4 : Int32) (p5 : Int32) {rx : Int32} (hf : f_X12_isAsked I J p1 p2 p3 p4 p5 = some rx) {ls : Array Slot} (S0 : zSt p m c cX12_isAsked 6 s args wsX12_isAsked RX12 D a0 A cy (zw 25 (kM cy ad) ad I J) [.ref (ad 0), .int p1, .int p2, .int p3, .int p4, .int p5] ls) (hret : ∀ (tx : Int32), some tx = some rx → (tx = 0 ∨ tx = 1) → ∀ (H : Heap) (locs : List Loc) (ls : Array Slot) (pc : Nat), va_P D vwCl (zw 25 (kM cy ad) ad I J) H → va_S A s.heap H locs → decode cX12_isAsked pc = .ok (.ireturn, 1) → W p l e R s m args below meth c H locs 0 0 Q (F0 m pc ls [.int tx])) : W p l e R s m args below meth c s.heap [] 0 0 Q (F0 m 0 ls []) := by
  obtain ⟨S, E, hP, hl⟩ := S0
  obtain ⟨hx, hb, hml, hown, hts⟩ := id S
  have hS : va_S A s.heap s.heap [] := va_S.rf
  replace hl : lv_has ls 6 [(0, .ref (ad 0)), (1, .int p1), (2, .int p2), (3, .int p3), (4, .int p4), (5, .int p5)] := hl
  unfold f_X12_isAsked at hf
  refine lv_iload_n hx hb dX12_isAsked_0 rfl (lv_at hl 1 rfl) ?_
  refine lv_i2l hx hb dX12_isAsked_1 rfl ?_
  refine lv_lconst (v := 0) hx hb dX12_isAsked_2 (by decide) ?_
  refine lv_ldc2 hx hb hown (hts (.constantLong RX12 225 5) (by decide +kernel)) dX12_isAsked_3 ?_
  obtain ⟨x1, h2, hf⟩ := zb1_e hf
  refine zgo_i (zrunS (As := [.long (p1.toInt64), .long 0, .long 5]) (rest := []) S (c_X12_in l hD (p1.toInt64) 0 5 h2) (va_cwS 3 hts gX12_isAsked_X12_in rfl rfl rfl ddX12_in ⟨Nat.le_trans (Nat.le_of_ble_eq_true rfl) hfr, Nat.le_trans (Nat.le_of_ble_eq_true rfl) hlo⟩) E hP hS hl.1 rfl rfl (Nat.le_of_ble_eq_true rfl) dX12_isAsked_6) hS (fun H locs hP hS => ?_)
  refine lv_if_eq (tgt := 36) hx hb dX12_isAsked_9 (by decide) (fun k3 => ?_) (fun k3 => ?_)
  · replace hf := zt k3 hf
    refine lv_iconst (v := 0) hx hb dX12_isAsked_36 (by decide) ?_
    exact hret _ hf (Or.inl rfl) _ _ _ _ hP hS dX12_isAsked_37
  · replace hf := zf k3 hf
    refine lv_aload_n hx hb dX12_isAsked_12 rfl (lv_at hl 0 rfl) ?_
    refine lv_iload_n hx hb dX12_isAsked_13 rfl (lv_at hl 2 rfl) ?_
    obtain ⟨x4, h5, hf⟩ := zb1_e hf
    refine zgo_i (zrunV (As := [.int p2]) (rest := []) S (c_X12_isSteel l hD p2 h5) (cwV 1 hts gX12_isAsked_X12_isSteel rfl rfl rfl ddX12_isSteel ⟨Nat.le_trans (Nat.le_of_ble_eq_true rfl) hfr, Nat.le_trans (Nat.le_of_ble_eq_true rfl) hlo⟩) (va_recv E.1 hP (q := (RX12, TX12, 31)) (ci := 11) rfl (zO.get (oX12_at))) E hP hS hl.1 rfl rfl (Nat.le_of_ble_eq_true rfl) dX12_isAsked_14) hS (fun H locs hP hS => ?_)
    refine lv_if_eq (tgt := 36) hx hb dX12_isAsked_17 (by decide) (fun k6 => ?_) (fun k6 => ?_)
    · replace hf := zt k6 hf
      refine lv_iconst (v := 0) hx hb dX12_isAsked_36 (by decide) ?_
      exact hret _ hf (Or.inl rfl) _ _ _ _ hP hS dX12_isAsked_37
    · replace hf := zf k6 hf
      refine lv_aload_n hx hb dX12_isAsked_20 rfl (lv_at hl 0 rfl) ?_
      refine lv_iload_n hx hb dX12_isAsked_21 rfl (lv_at hl 3 rfl) ?_
      refine lv_iload hx hb dX12_isAsked_22 (lv_at hl 4 rfl) ?_
      refine lv_iload hx hb dX12_isAsked_24 (lv_at hl 5 rfl) ?_
      obtain ⟨x7, h8, hf⟩ := zb1_e hf
      refine zgo_i (zrunV (As := [.int p3, .int p4, .int p5]) (rest := []) S (c_X12_isState l hD p3 p4 p5 h8) (cwV 3 hts gX12_isAsked_X12_isState rfl rfl rfl ddX12_isState ⟨Nat.le_trans (Nat.le_of_ble_eq_true rfl) hfr, Nat.le_trans (Nat.le_of_ble_eq_true rfl) hlo⟩) (va_recv E.1 hP (q := (RX12, TX12, 31)) (ci := 11) rfl (zO.get (oX12_at))) E hP hS hl.1 rfl rfl (Nat.le_of_ble_eq_true rfl) dX12_isAsked_26) hS (fun H locs hP hS => ?_)
      refine lv_if_eq (tgt := 36) hx hb dX12_isAsked_29 (by decide) (fun k9 => ?_) (fun k9 => ?_)
      · replace hf := zt k9 hf
        refine lv_iconst (v := 0) hx hb dX12_isAsked_36 (by decide) ?_
        exact hret _ hf (Or.inl rfl) _ _ _ _ hP hS dX12_isAsked_37
      · replace hf := zf k9 hf
        refine lv_iconst (v := 1) hx hb dX12_isAsked_32 (by decide) ?_
        refine lv_goto (tgt := 37) hx hb dX12_isAsked_33 (by decide) ?_
        exact hret _ hf (Or.inr rfl) _ _ _ _ hP hS dX12_isAsked_37
theorem c_X12_isAsked (l : Launch) {D : va_G} {a0 : Nat → Nat} {A : Nat → Prop} {cy : Nat → ClassId} {ad : Nat → Nat} (hD : zD A 25 ad) {I : zI} {J : zJ} (p1 : Int32) (p2 : Int32) (p3 : Int32) (p4 : Int32) (p5 : Int32) {rx : Int32} (hf : f_X12_isAsked I J p1 p2 p3 p4 p5 = some rx) : Met l yX12_isAsked wsX12_isAsked { frames := 3, cells := 0, slots := 0, locals := 69 } (zPc D a0 A cy [.ref (ad 0), .int p1, .int p2, .int p3, .int p4, .int p5] (zw 25 (kM cy ad) ad I J)) (zQi D A rx (zw 25 (kM cy ad) ad I J)) 0 0 A :=
  zmet RX12 (by decide) rfl rfl (Nat.le_of_ble_eq_true rfl) (fun p e R s m below meth c Q hfr hlo ls S0 hQ => w_X12_isAsked hfr hlo hD p1 p2 p3 p4 p5 hf S0 (fun tx hq n01 H locs ls pc hP hS hd => by cases hq; exact hQ H locs _ hS (fun hx hb hr hlocks hfree => W.zret hx hb hr (z01 n01) (fun t ht hW => ⟨⟨_, (), rfl, rfl, zht ht hP⟩, hS.F ht⟩) hfree hd hlocks)))
theorem ddX12_isAsked : yX12_isAsked.cls = RX12 ∧ yX12_isAsked.cls ≠ "java/lang/invoke/MethodHandle" ∧ yX12_isAsked.cls ≠ "java/lang/invoke/VarHandle" ∧ (parseMethodDescriptor yX12_isAsked.desc).map (fun d => d.parameters.length) = some 5 := by decide +kernel
