def f_X12_guessOf (I : zI) (J : zJ) (p1 : Int32) (p2 : Int32) : Option (Int64 × zI × zJ) := zb1 (f_X12_counts I J 0) (fun J1 => zb2 (f_X12_solves I J1 p1) (fun I3 J4 => zb1 (f_X12_follows I3 J4 p2) (fun J6 => zb1 (f_X12_steps I3 J6 0) (fun x8 => zb1 (f_X12_cell I3 J6 0 x8 0) (fun x10 => zg (¬ (x10 < 0 ∨ 7272 ≤ x10.toNatClampNeg)) (some ((J6 16 x10.toNatClampNeg), I3, J6)))))))
theorem hinX12_guessOf_X12 : ∀ w ∈ u_ws RX12 TX12 31, w ∈ wsX12_guessOf := by decide +kernel
set_option maxHeartbeats 4000000 in
set_option maxRecDepth 100000 in
theorem w_X12_guessOf {p : Program} {l : Launch} {e : Env} {R : Room} {s : State} {m : MethodId} {args : Array Value} {below : List Frame} {meth : Method} {c : Code} {Q : State → Prop} (hfr : 4 ≤ R.frames) (hlo : 106 ≤ R.locals) {D : va_G} {a0 : Nat → Nat} {A : Nat → Prop} {cy : Nat → ClassId} {ad : Nat → Nat} (hD : zD A 25 ad) {I : zI} {J : zJ} (p1 : Int32) (p2 : Int32) {rx : Int64} {rI : zI} {rJ : zJ} (hf : f_X12_guessOf I J p1 p2 = some (rx, rI, rJ)) {ls : Array Slot} (S0 : zSt p m c cX12_guessOf 3 s args wsX12_guessOf RX12 D a0 A cy (zw 25 (kM cy ad) ad I J) [.ref (ad 0), .int p1, .int p2] ls) (hret : ∀ (tx : Int64) (tI : zI) (tJ : zJ), some (tx, tI, tJ) = some (rx, rI, rJ) → ∀ (H : Heap) (locs : List Loc) (ls : Array Slot) (pc : Nat), va_P D vwCl (zw 25 (kM cy ad) ad tI tJ) H → va_S A s.heap H locs → decode cX12_guessOf pc = .ok (.lreturn, 1) → W p l e R s m args below meth c H locs 0 0 Q (F0 m pc ls [.long tx])) : W p l e R s m args below meth c s.heap [] 0 0 Q (F0 m 0 ls []) := by
  obtain ⟨S, E, hP, hl⟩ := S0
  obtain ⟨hx, hb, hml, hown, hts⟩ := id S
  have hS : va_S A s.heap s.heap [] := va_S.rf
  replace hl : lv_has ls 3 [(0, .ref (ad 0)), (1, .int p1), (2, .int p2)] := hl
  unfold f_X12_guessOf at hf
  refine lv_aload_n hx hb dX12_guessOf_0 rfl (lv_at hl 0 rfl) ?_
  refine lv_iconst (v := 0) hx hb dX12_guessOf_1 (by decide) ?_
  obtain ⟨J1, h2, hf⟩ := zb1_e hf
  refine zgo_v (zrunV (As := [.int 0]) (rest := []) S (c_X12_counts l hD 0 h2) (cwV 1 hts gX12_guessOf_X12_counts rfl rfl rfl ddX12_counts ⟨Nat.le_trans (Nat.le_of_ble_eq_true rfl) hfr, Nat.le_trans (Nat.le_of_ble_eq_true rfl) hlo⟩) (va_recv E.1 hP (q := (RX12, TX12, 31)) (ci := 11) rfl (zO.get (oX12_at))) E hP hS hl.1 rfl rfl (Nat.le_of_ble_eq_true rfl) dX12_guessOf_2) hS (fun H locs hP hS => ?_)
  refine lv_aload_n hx hb dX12_guessOf_5 rfl (lv_at hl 0 rfl) ?_
  refine lv_iload_n hx hb dX12_guessOf_6 rfl (lv_at hl 1 rfl) ?_
  obtain ⟨I3, J4, h5, hf⟩ := zb2_e hf
  refine zgo_v (zrunV (As := [.int p1]) (rest := []) S (c_X12_solves l hD p1 h5) (cwV 1 hts gX12_guessOf_X12_solves rfl rfl rfl ddX12_solves ⟨Nat.le_trans (Nat.le_of_ble_eq_true rfl) hfr, Nat.le_trans (Nat.le_of_ble_eq_true rfl) hlo⟩) (va_recv E.1 hP (q := (RX12, TX12, 31)) (ci := 11) rfl (zO.get (oX12_at))) E hP hS hl.1 rfl rfl (Nat.le_of_ble_eq_true rfl) dX12_guessOf_7) hS (fun H locs hP hS => ?_)
  refine lv_aload_n hx hb dX12_guessOf_10 rfl (lv_at hl 0 rfl) ?_
  refine lv_iload_n hx hb dX12_guessOf_11 rfl (lv_at hl 2 rfl) ?_
  obtain ⟨J6, h7, hf⟩ := zb1_e hf
  refine zgo_v (zrunV (As := [.int p2]) (rest := []) S (c_X12_follows l hD p2 h7) (cwV 1 hts gX12_guessOf_X12_follows rfl rfl rfl ddX12_follows ⟨Nat.le_trans (Nat.le_of_ble_eq_true rfl) hfr, Nat.le_trans (Nat.le_of_ble_eq_true rfl) hlo⟩) (va_recv E.1 hP (q := (RX12, TX12, 31)) (ci := 11) rfl (zO.get (oX12_at))) E hP hS hl.1 rfl rfl (Nat.le_of_ble_eq_true rfl) dX12_guessOf_12) hS (fun H locs hP hS => ?_)
  refine lv_aload_n hx hb dX12_guessOf_15 rfl (lv_at hl 0 rfl) ?_
  refine va_get (D := D) (ci := 11) (v := .ref (ad 16)) (C := RX12) (T := TX12) (N := 31) hx hb hts hinX12_guessOf_X12 hown E.1 hP 0 (zO.get (oX12_at)) rfl 18 (by decide) (hts (.fieldLink RX12 56 "EdgeAndSpeedModel" "value" "[J") (by decide +kernel)) (fun _ h9 => h9) rfl dX12_guessOf_16 ?_
  refine lv_iconst (v := 0) hx hb dX12_guessOf_19 (by decide) ?_
  refine lv_aload_n hx hb dX12_guessOf_20 rfl (lv_at hl 0 rfl) ?_
  refine lv_iconst (v := 0) hx hb dX12_guessOf_21 (by decide) ?_
  obtain ⟨x8, h9, hf⟩ := zb1_e hf
  refine zgo_i (zrunV (As := [.int 0]) (rest := [.int 0, .ref (ad 16)]) S (c_X12_steps l hD 0 h9) (cwV 1 hts gX12_guessOf_X12_steps rfl rfl rfl ddX12_steps ⟨Nat.le_trans (Nat.le_of_ble_eq_true rfl) hfr, Nat.le_trans (Nat.le_of_ble_eq_true rfl) hlo⟩) (va_recv E.1 hP (q := (RX12, TX12, 31)) (ci := 11) rfl (zO.get (oX12_at))) E hP hS hl.1 rfl rfl (Nat.le_of_ble_eq_true rfl) dX12_guessOf_22) hS (fun H locs hP hS => ?_)
  refine lv_iconst (v := 0) hx hb dX12_guessOf_25 (by decide) ?_
  obtain ⟨x10, h11, hf⟩ := zb1_e hf
  refine zgo_i (zrunS (As := [.int 0, .int x8, .int 0]) (rest := [.ref (ad 16)]) S (c_X12_cell l hD 0 x8 0 h11) (va_cwS 3 hts gX12_guessOf_X12_cell rfl rfl rfl ddX12_cell ⟨Nat.le_trans (Nat.le_of_ble_eq_true rfl) hfr, Nat.le_trans (Nat.le_of_ble_eq_true rfl) hlo⟩) E hP hS hl.1 rfl rfl (Nat.le_of_ble_eq_true rfl) dX12_guessOf_26) hS (fun H locs hP hS => ?_)
  obtain ⟨g12, hf⟩ := zg_i hf
  refine va_lald hx hb E.1 hP 16 2 (zLA.get (aX12_18)) rfl g12 dX12_guessOf_29 ?_
  exact hret _ _ _ hf _ _ _ _ hP hS dX12_guessOf_30
theorem c_X12_guessOf (l : Launch) {D : va_G} {a0 : Nat → Nat} {A : Nat → Prop} {cy : Nat → ClassId} {ad : Nat → Nat} (hD : zD A 25 ad) {I : zI} {J : zJ} (p1 : Int32) (p2 : Int32) {rx : Int64} {rI : zI} {rJ : zJ} (hf : f_X12_guessOf I J p1 p2 = some (rx, rI, rJ)) : Met l yX12_guessOf wsX12_guessOf { frames := 4, cells := 0, slots := 0, locals := 106 } (zPc D a0 A cy [.ref (ad 0), .int p1, .int p2] (zw 25 (kM cy ad) ad I J)) (zQl D A rx (zw 25 (kM cy ad) ad rI rJ)) 0 0 A :=
  zmet RX12 (by decide) rfl rfl (Nat.le_of_ble_eq_true rfl) (fun p e R s m below meth c Q hfr hlo ls S0 hQ => w_X12_guessOf hfr hlo hD p1 p2 hf S0 (fun tx tI tJ hq H locs ls pc hP hS hd => by cases hq; exact hQ H locs _ hS (fun hx hb hr hlocks hfree => W.lret hx hb hr (fun t ht hW => ⟨⟨_, (), rfl, rfl, zht ht hP⟩, hS.F ht⟩) hfree hd hlocks)))
theorem ddX12_guessOf : yX12_guessOf.cls = RX12 ∧ yX12_guessOf.cls ≠ "java/lang/invoke/MethodHandle" ∧ yX12_guessOf.cls ≠ "java/lang/invoke/VarHandle" ∧ (parseMethodDescriptor yX12_guessOf.desc).map (fun d => d.parameters.length) = some 2 := by decide +kernel

def f_X12_guess (I : zI) (J : zJ) (p1 : Int32) (p2 : Int32) : Option (Int64 × zI × zJ) := zb1 (f_X12_isSteel I J p1) (fun x1 => (if x1 = 0 then some ((-9223372036854775808), I, J) else zb1 (f_X12_isSteel I J p2) (fun x4 => (if x4 = 0 then some ((-9223372036854775808), I, J) else zb3 (f_X12_guessOf I J p1 p2) (fun u7 I8 J9 => some (u7, I8, J9))))))
set_option maxHeartbeats 4000000 in
set_option maxRecDepth 100000 in
theorem w_X12_guess {p : Program} {l : Launch} {e : Env} {R : Room} {s : State} {m : MethodId} {args : Array Value} {below : List Frame} {meth : Method} {c : Code} {Q : State → Prop} (hfr : 5 ≤ R.frames) (hlo : 128 ≤ R.locals) {D : va_G} {a0 : Nat → Nat} {A : Nat → Prop} {cy : Nat → ClassId} {ad : Nat → Nat} (hD : zD A 25 ad) {I : zI} {J : zJ} (p1 : Int32) (p2 : Int32) {rx : Int64} {rI : zI} {rJ : zJ} (hf : f_X12_guess I J p1 p2 = some (rx, rI, rJ)) {ls : Array Slot} (S0 : zSt p m c cX12_guess 3 s args wsX12_guess RX12 D a0 A cy (zw 25 (kM cy ad) ad I J) [.ref (ad 0), .int p1, .int p2] ls) (hret : ∀ (tx : Int64) (tI : zI) (tJ : zJ), some (tx, tI, tJ) = some (rx, rI, rJ) → ∀ (H : Heap) (locs : List Loc) (ls : Array Slot) (pc : Nat), va_P D vwCl (zw 25 (kM cy ad) ad tI tJ) H → va_S A s.heap H locs → decode cX12_guess pc = .ok (.lreturn, 1) → W p l e R s m args below meth c H locs 0 0 Q (F0 m pc ls [.long tx])) : W p l e R s m args below meth c s.heap [] 0 0 Q (F0 m 0 ls []) := by
  obtain ⟨S, E, hP, hl⟩ := S0
  obtain ⟨hx, hb, hml, hown, hts⟩ := id S
  have hS : va_S A s.heap s.heap [] := va_S.rf
  replace hl : lv_has ls 3 [(0, .ref (ad 0)), (1, .int p1), (2, .int p2)] := hl
  unfold f_X12_guess at hf
  refine lv_aload_n hx hb dX12_guess_0 rfl (lv_at hl 0 rfl) ?_
  refine lv_iload_n hx hb dX12_guess_1 rfl (lv_at hl 1 rfl) ?_
  obtain ⟨x1, h2, hf⟩ := zb1_e hf
  refine zgo_i (zrunV (As := [.int p1]) (rest := []) S (c_X12_isSteel l hD p1 h2) (cwV 1 hts gX12_guess_X12_isSteel rfl rfl rfl ddX12_isSteel ⟨Nat.le_trans (Nat.le_of_ble_eq_true rfl) hfr, Nat.le_trans (Nat.le_of_ble_eq_true rfl) hlo⟩) (va_recv E.1 hP (q := (RX12, TX12, 31)) (ci := 11) rfl (zO.get (oX12_at))) E hP hS hl.1 rfl rfl (Nat.le_of_ble_eq_true rfl) dX12_guess_2) hS (fun H locs hP hS => ?_)
  refine lv_if_eq (tgt := 25) hx hb dX12_guess_5 (by decide) (fun k3 => ?_) (fun k3 => ?_)
  · replace hf := zt k3 hf
    refine lv_ldc2 hx hb hown (hts (.constantLong RX12 238 (-9223372036854775808)) (by decide +kernel)) dX12_guess_25 ?_
    exact hret _ _ _ hf _ _ _ _ hP hS dX12_guess_28
  · replace hf := zf k3 hf
    refine lv_aload_n hx hb dX12_guess_8 rfl (lv_at hl 0 rfl) ?_
    refine lv_iload_n hx hb dX12_guess_9 rfl (lv_at hl 2 rfl) ?_
    obtain ⟨x4, h5, hf⟩ := zb1_e hf
    refine zgo_i (zrunV (As := [.int p2]) (rest := []) S (c_X12_isSteel l hD p2 h5) (cwV 1 hts gX12_guess_X12_isSteel rfl rfl rfl ddX12_isSteel ⟨Nat.le_trans (Nat.le_of_ble_eq_true rfl) hfr, Nat.le_trans (Nat.le_of_ble_eq_true rfl) hlo⟩) (va_recv E.1 hP (q := (RX12, TX12, 31)) (ci := 11) rfl (zO.get (oX12_at))) E hP hS hl.1 rfl rfl (Nat.le_of_ble_eq_true rfl) dX12_guess_10) hS (fun H locs hP hS => ?_)
    refine lv_if_eq (tgt := 25) hx hb dX12_guess_13 (by decide) (fun k6 => ?_) (fun k6 => ?_)
    · replace hf := zt k6 hf
      refine lv_ldc2 hx hb hown (hts (.constantLong RX12 238 (-9223372036854775808)) (by decide +kernel)) dX12_guess_25 ?_
      exact hret _ _ _ hf _ _ _ _ hP hS dX12_guess_28
    · replace hf := zf k6 hf
      refine lv_aload_n hx hb dX12_guess_16 rfl (lv_at hl 0 rfl) ?_
      refine lv_iload_n hx hb dX12_guess_17 rfl (lv_at hl 1 rfl) ?_
      refine lv_iload_n hx hb dX12_guess_18 rfl (lv_at hl 2 rfl) ?_
      obtain ⟨u7, I8, J9, h10, hf⟩ := zb3_e hf
      refine zgo_l (zrunV (As := [.int p1, .int p2]) (rest := []) S (c_X12_guessOf l hD p1 p2 h10) (cwV 2 hts gX12_guess_X12_guessOf rfl rfl rfl ddX12_guessOf ⟨Nat.le_trans (Nat.le_of_ble_eq_true rfl) hfr, Nat.le_trans (Nat.le_of_ble_eq_true rfl) hlo⟩) (va_recv E.1 hP (q := (RX12, TX12, 31)) (ci := 11) rfl (zO.get (oX12_at))) E hP hS hl.1 rfl rfl (Nat.le_of_ble_eq_true rfl) dX12_guess_19) hS (fun H locs hP hS => ?_)
      refine lv_goto (tgt := 28) hx hb dX12_guess_22 (by decide) ?_
      exact hret _ _ _ hf _ _ _ _ hP hS dX12_guess_28
theorem c_X12_guess (l : Launch) {D : va_G} {a0 : Nat → Nat} {A : Nat → Prop} {cy : Nat → ClassId} {ad : Nat → Nat} (hD : zD A 25 ad) {I : zI} {J : zJ} (p1 : Int32) (p2 : Int32) {rx : Int64} {rI : zI} {rJ : zJ} (hf : f_X12_guess I J p1 p2 = some (rx, rI, rJ)) : Met l yX12_guess wsX12_guess { frames := 5, cells := 0, slots := 0, locals := 128 } (zPc D a0 A cy [.ref (ad 0), .int p1, .int p2] (zw 25 (kM cy ad) ad I J)) (zQl D A rx (zw 25 (kM cy ad) ad rI rJ)) 0 0 A :=
  zmet RX12 (by decide) rfl rfl (Nat.le_of_ble_eq_true rfl) (fun p e R s m below meth c Q hfr hlo ls S0 hQ => w_X12_guess hfr hlo hD p1 p2 hf S0 (fun tx tI tJ hq H locs ls pc hP hS hd => by cases hq; exact hQ H locs _ hS (fun hx hb hr hlocks hfree => W.lret hx hb hr (fun t ht hW => ⟨⟨_, (), rfl, rfl, zht ht hP⟩, hS.F ht⟩) hfree hd hlocks)))
theorem ddX12_guess : yX12_guess.cls = RX12 ∧ yX12_guess.cls ≠ "java/lang/invoke/MethodHandle" ∧ yX12_guess.cls ≠ "java/lang/invoke/VarHandle" ∧ (parseMethodDescriptor yX12_guess.desc).map (fun d => d.parameters.length) = some 2 := by decide +kernel

def f_X12_sumOf_L5 (p1 : Int32) (u2 : Int64) (x3 : Int32) (I4 : zI) (J5 : zJ) : Option ((Int64 × Int32 × zI × zJ) ⊕ (Int64 × zI × zJ)) := zg (¬ ((0 : Int32) < 0 ∨ 2 ≤ (0 : Int32).toNatClampNeg)) ((if (I4 9 (0 : Int32).toNatClampNeg) ≤ x3 then some (.inr (u2, I4, J5)) else zg (¬ (((2 * x3) + 1) < 0 ∨ 16 ≤ ((2 * x3) + 1).toNatClampNeg)) (zb1 ((if 0 ≤ p1 then some (p1) else some (x3)) : Option Int32) (fun x12 => zb3 (f_X12_guessOf I4 J5 x12 x3) (fun u13 I14 J15 => zn ((u2 + ((I4 10 ((2 * x3) + 1).toNatClampNeg).toInt64 * u13))) (fun u17 => zn (x3 + 1) (fun y18 => some (.inl (u17, y18, I14, J15)))))))))
def f_X12_sumOf (I : zI) (J : zJ) (p1 : Int32) : Option (Int64 × zI × zJ) := zb3 (zl (fun v : (Int64 × Int32 × zI × zJ) => f_X12_sumOf_L5 p1 v.1 v.2.1 v.2.2.1 v.2.2.2) zF (0, 0, I, J)) (fun u19 I20 J21 => some (u19, I20, J21))
theorem hinX12_sumOf_X12 : ∀ w ∈ u_ws RX12 TX12 31, w ∈ wsX12_sumOf := by decide +kernel
set_option maxHeartbeats 4000000 in
set_option maxRecDepth 100000 in
theorem w_X12_sumOf {p : Program} {l : Launch} {e : Env} {R : Room} {s : State} {m : MethodId} {args : Array Value} {below : List Frame} {meth : Method} {c : Code} {Q : State → Prop} (hfr : 5 ≤ R.frames) (hlo : 128 ≤ R.locals) {D : va_G} {a0 : Nat → Nat} {A : Nat → Prop} {cy : Nat → ClassId} {ad : Nat → Nat} (hD : zD A 25 ad) {I : zI} {J : zJ} (p1 : Int32) {rx : Int64} {rI : zI} {rJ : zJ} (hf : f_X12_sumOf I J p1 = some (rx, rI, rJ)) {ls : Array Slot} (S0 : zSt p m c cX12_sumOf 5 s args wsX12_sumOf RX12 D a0 A cy (zw 25 (kM cy ad) ad I J) [.ref (ad 0), .int p1] ls) (hret : ∀ (tx : Int64) (tI : zI) (tJ : zJ), some (tx, tI, tJ) = some (rx, rI, rJ) → ∀ (H : Heap) (locs : List Loc) (ls : Array Slot) (pc : Nat), va_P D vwCl (zw 25 (kM cy ad) ad tI tJ) H → va_S A s.heap H locs → decode cX12_sumOf pc = .ok (.lreturn, 1) → W p l e R s m args below meth c H locs 0 0 Q (F0 m pc ls [.long tx])) : W p l e R s m args below meth c s.heap [] 0 0 Q (F0 m 0 ls []) := by
  obtain ⟨S, E, hP, hl⟩ := S0
  obtain ⟨hx, hb, hml, hown, hts⟩ := id S
  have hS : va_S A s.heap s.heap [] := va_S.rf
  replace hl : lv_has ls 5 [(0, .ref (ad 0)), (1, .int p1)] := hl
  unfold f_X12_sumOf at hf
  refine lv_lconst (v := 0) hx hb dX12_sumOf_0 (by decide) ?_
  refine lv_lstore_n (lv' := [(2, .long 0), (0, .ref (ad 0)), (1, .int p1)]) hx hb dX12_sumOf_1 rfl hl (by decide) rfl (fun ls hl => ?_)
  refine lv_iconst (v := 0) hx hb dX12_sumOf_2 (by decide) ?_
  refine lv_istore (lv' := [(4, .int 0), (2, .long 0), (0, .ref (ad 0)), (1, .int p1)]) hx hb dX12_sumOf_3 hl (by decide) rfl (fun ls hl => ?_)
  obtain ⟨zl1, hf, hzl1⟩ := zb3_i hf
  have hjl1 : ∀ (u19 : Int64) (I20 : zI) (J21 : zJ), (u19, I20, J21) = zl1 → ∀ (H : Heap) (locs : List Loc) (ls : Array Slot), va_P D vwCl (zw 25 (kM cy ad) ad I20 J21) H → va_S A s.heap H locs → lv_has ls 5 [(2, .long u19)] → W p l e R s m args below meth c H locs 0 0 Q (F0 m 54 ls []) := by
    intro u19 I20 J21 ez H locs ls hP hS hl
    have hf := hzl1 u19 I20 J21 ez
    refine lv_lload_n hx hb dX12_sumOf_54 rfl (lv_at hl 0 rfl) ?_
    exact hret _ _ _ hf _ _ _ _ hP hS dX12_sumOf_55
  refine zl_i (V := (Int64 × Int32 × zI × zJ)) (P := fun v => ∀ (H : Heap) (locs : List Loc) (ls : Array Slot), va_P D vwCl (zw 25 (kM cy ad) ad v.2.2.1 v.2.2.2) H → va_S A s.heap H locs → lv_has ls 5 [(0, .ref (ad 0)), (1, .int p1), (2, .long (v.1)), (4, .int (v.2.1))] → W p l e R s m args below meth c H locs 0 0 Q (F0 m 5 ls [])) ?_ _ _ hf _ _ _ hP hS (lv_sub hl [2, 3, 1, 0] rfl)
  intro v z hf hcl1 hdl1
  obtain ⟨u2, x3, I4, J5⟩ := v
  intro H locs ls hP hS hl
  replace hf : f_X12_sumOf_L5 p1 u2 x3 I4 J5 = some z := hf
  unfold f_X12_sumOf_L5 at hf
  replace hP : va_P D vwCl (zw 25 (kM cy ad) ad I4 J5) H := hP
  replace hl : lv_has ls 5 [(0, .ref (ad 0)), (1, .int p1), (2, .long u2), (4, .int x3)] := hl
  refine lv_iload hx hb dX12_sumOf_5 (lv_at hl 3 rfl) ?_
  refine lv_aload_n hx hb dX12_sumOf_7 rfl (lv_at hl 0 rfl) ?_
  refine va_get (D := D) (ci := 11) (v := .ref (ad 9)) (C := RX12) (T := TX12) (N := 31) hx hb hts hinX12_sumOf_X12 hown E.1 hP 0 (zO.get (oX12_at)) rfl 10 (by decide) (hts (.fieldLink RX12 35 "EdgeAndSpeedModel" "steels" "[I") (by decide +kernel)) (fun _ h9 => h9) rfl dX12_sumOf_8 ?_
  refine lv_iconst (v := 0) hx hb dX12_sumOf_11 (by decide) ?_
  obtain ⟨g6, hf⟩ := zg_i hf
  refine va_iald hx hb E.1 hP 9 1 (zIA.get (aX12_10)) rfl g6 dX12_sumOf_12 ?_
  refine lv_icmp_ge (tgt := 54) hx hb dX12_sumOf_13 (by decide) (fun k7 => ?_) (fun k7 => ?_)
  · replace hf := zt k7 hf
    exact hjl1 _ _ _ (hdl1 _ (Option.some.inj hf).symm) _ _ _ hP hS (lv_sub hl [2] rfl)
  · replace hf := zf k7 hf
    refine lv_lload_n hx hb dX12_sumOf_16 rfl (lv_at hl 2 rfl) ?_
    refine lv_aload_n hx hb dX12_sumOf_17 rfl (lv_at hl 0 rfl) ?_
    refine va_get (D := D) (ci := 11) (v := .ref (ad 10)) (C := RX12) (T := TX12) (N := 31) hx hb hts hinX12_sumOf_X12 hown E.1 hP 0 (zO.get (oX12_at)) rfl 11 (by decide) (hts (.fieldLink RX12 38 "EdgeAndSpeedModel" "steel" "[I") (by decide +kernel)) (fun _ h9 => h9) rfl dX12_sumOf_18 ?_
    refine lv_iconst (v := 2) hx hb dX12_sumOf_21 (by decide) ?_
    refine lv_iload hx hb dX12_sumOf_22 (lv_at hl 3 rfl) ?_
    refine lv_imul hx hb dX12_sumOf_24 ?_
    refine lv_iconst (v := 1) hx hb dX12_sumOf_25 (by decide) ?_
    refine lv_iadd hx hb dX12_sumOf_26 ?_
    obtain ⟨g8, hf⟩ := zg_i hf
    refine va_iald hx hb E.1 hP 10 1 (zIA.get (aX12_11)) rfl g8 dX12_sumOf_27 ?_
    refine lv_i2l hx hb dX12_sumOf_28 rfl ?_
    refine lv_aload_n hx hb dX12_sumOf_29 rfl (lv_at hl 0 rfl) ?_
    refine lv_iload_n hx hb dX12_sumOf_30 rfl (lv_at hl 1 rfl) ?_
    obtain ⟨zr11, hf, hzr11⟩ := zb1_i hf
    have hjr11 : ∀ (x12 : Int32), x12 = zr11 → ∀ (H : Heap) (locs : List Loc) (ls : Array Slot), va_P D vwCl (zw 25 (kM cy ad) ad I4 J5) H → va_S A s.heap H locs → lv_has ls 5 [(0, .ref (ad 0)), (1, .int p1), (4, .int x3)] → W p l e R s m args below meth c H locs 0 0 Q (F0 m 40 ls [.int x12, .ref (ad 0), .long ((I4 10 ((2 * x3) + 1).toNatClampNeg).toInt64), .long u2]) := by
      intro x12 ez H locs ls hP hS hl
      have hf := hzr11 x12 ez
      refine lv_iload hx hb dX12_sumOf_40 (lv_at hl 2 rfl) ?_
      obtain ⟨u13, I14, J15, h16, hf⟩ := zb3_e hf
      refine zgo_l (zrunV (As := [.int x12, .int x3]) (rest := [.long ((I4 10 ((2 * x3) + 1).toNatClampNeg).toInt64), .long u2]) S (c_X12_guessOf l hD x12 x3 h16) (cwV 2 hts gX12_sumOf_X12_guessOf rfl rfl rfl ddX12_guessOf ⟨Nat.le_trans (Nat.le_of_ble_eq_true rfl) hfr, Nat.le_trans (Nat.le_of_ble_eq_true rfl) hlo⟩) (va_recv E.1 hP (q := (RX12, TX12, 31)) (ci := 11) rfl (zO.get (oX12_at))) E hP hS hl.1 rfl rfl (Nat.le_of_ble_eq_true rfl) dX12_sumOf_42) hS (fun H locs hP hS => ?_)
      refine lv_lmul hx hb dX12_sumOf_45 ?_
      refine lv_ladd hx hb dX12_sumOf_46 ?_
      refine lv_topl (fun u17 eu17 => ?_)
      replace hf := zn_s eu17 hf
      refine lv_lstore_n (lv' := [(2, .long u17), (0, .ref (ad 0)), (1, .int p1), (4, .int x3)]) hx hb dX12_sumOf_47 rfl hl (by decide) rfl (fun ls hl => ?_)
      obtain ⟨y18, ey18⟩ := zex (x3 + 1)
      replace hf := zn_s ey18 hf
      refine lv_iinc (v := y18) (lv' := [(4, .int y18), (2, .long u17), (0, .ref (ad 0)), (1, .int p1)]) hx hb dX12_sumOf_48 hl (k := 3) rfl (by rw [ey18]; rfl) (by decide) rfl (fun ls hl => ?_)
      refine lv_goto (tgt := 5) hx hb dX12_sumOf_51 (by decide) ?_
      exact hcl1 _ (Option.some.inj hf).symm _ _ _ hP hS (lv_sub hl [2, 3, 1, 0] rfl)
    refine lv_if_ge (tgt := 39) hx hb dX12_sumOf_31 (by decide) (fun k9 => ?_) (fun k9 => ?_)
    · replace hf := zt k9 hf
      refine lv_iload_n hx hb dX12_sumOf_39 rfl (lv_at hl 1 rfl) ?_
      exact hjr11 _ (Option.some.inj hf) _ _ _ hP hS (lv_sub hl [0, 1, 3] rfl)
    · replace hf := zf k9 hf
      refine lv_iload hx hb dX12_sumOf_34 (lv_at hl 3 rfl) ?_
      refine lv_goto (tgt := 40) hx hb dX12_sumOf_36 (by decide) ?_
      exact hjr11 _ (Option.some.inj hf) _ _ _ hP hS (lv_sub hl [0, 1, 3] rfl)
theorem c_X12_sumOf (l : Launch) {D : va_G} {a0 : Nat → Nat} {A : Nat → Prop} {cy : Nat → ClassId} {ad : Nat → Nat} (hD : zD A 25 ad) {I : zI} {J : zJ} (p1 : Int32) {rx : Int64} {rI : zI} {rJ : zJ} (hf : f_X12_sumOf I J p1 = some (rx, rI, rJ)) : Met l yX12_sumOf wsX12_sumOf { frames := 5, cells := 0, slots := 0, locals := 128 } (zPc D a0 A cy [.ref (ad 0), .int p1] (zw 25 (kM cy ad) ad I J)) (zQl D A rx (zw 25 (kM cy ad) ad rI rJ)) 0 0 A :=
  zmet RX12 (by decide) rfl rfl (Nat.le_of_ble_eq_true rfl) (fun p e R s m below meth c Q hfr hlo ls S0 hQ => w_X12_sumOf hfr hlo hD p1 hf S0 (fun tx tI tJ hq H locs ls pc hP hS hd => by cases hq; exact hQ H locs _ hS (fun hx hb hr hlocks hfree => W.lret hx hb hr (fun t ht hW => ⟨⟨_, (), rfl, rfl, zht ht hP⟩, hS.F ht⟩) hfree hd hlocks)))
theorem ddX12_sumOf : yX12_sumOf.cls = RX12 ∧ yX12_sumOf.cls ≠ "java/lang/invoke/MethodHandle" ∧ yX12_sumOf.cls ≠ "java/lang/invoke/VarHandle" ∧ (parseMethodDescriptor yX12_sumOf.desc).map (fun d => d.parameters.length) = some 1 := by decide +kernel

def f_X12_blind_L27 (x9 : Int32) (u10 : Int64) (x11 : Int32) (I12 : zI) (J13 : zJ) : Option ((Int32 × Int64 × Int32 × zI × zJ) ⊕ (Int32 × Int64 × zI × zJ)) := zg (¬ ((0 : Int32) < 0 ∨ 2 ≤ (0 : Int32).toNatClampNeg)) ((if (I12 9 (0 : Int32).toNatClampNeg) ≤ x11 then some (.inr (x9, u10, I12, J13)) else zb3 (f_X12_sumOf I12 J13 x11) (fun u16 I17 J18 => zb1 ((if (lg_cmp u16 u10) ≤ 0 then some (x9) else some (x11)) : Option Int32) (fun x23 => (if (lg_cmp u16 u10) ≤ 0 then zn (x11 + 1) (fun y25 => some (.inl (x23, u10, y25, I17, J18))) else zn (x11 + 1) (fun y26 => some (.inl (x23, u16, y26, I17, J18))))))))
def f_X12_blind (I : zI) (J : zJ) (p1 : Int32) : Option (Int64 × zI × zJ) := zb1 (f_X12_in I J (p1.toInt64) 0 3) (fun x1 => (if x1 = 0 then some ((-9223372036854775808), I, J) else zb3 (f_X12_sumOf I J 0) (fun u4 I5 J6 => zb4 (zl (fun v : (Int32 × Int64 × Int32 × zI × zJ) => f_X12_blind_L27 v.1 v.2.1 v.2.2.1 v.2.2.2.1 v.2.2.2.2) zF (0, u4, 1, I5, J6)) (fun x27 u28 I29 J30 => (if p1 = 0 then some (x27.toInt64, I29, J30) else (if p1 = 1 then some (u28, I29, J30) else (if p1 = 2 then zb3 (f_X12_sumOf I29 J30 (-1)) (fun u38 I39 J40 => some (u38, I39, J40)) else zb3 (f_X12_sumOf I29 J30 (-1)) (fun u34 I35 J36 => some ((u34 - u28), I35, J36)))))))))
theorem hinX12_blind_X12 : ∀ w ∈ u_ws RX12 TX12 31, w ∈ wsX12_blind := by decide +kernel
set_option maxHeartbeats 4000000 in
set_option maxRecDepth 100000 in
theorem w_X12_blind {p : Program} {l : Launch} {e : Env} {R : Room} {s : State} {m : MethodId} {args : Array Value} {below : List Frame} {meth : Method} {c : Code} {Q : State → Prop} (hfr : 6 ≤ R.frames) (hlo : 152 ≤ R.locals) {D : va_G} {a0 : Nat → Nat} {A : Nat → Prop} {cy : Nat → ClassId} {ad : Nat → Nat} (hD : zD A 25 ad) {I : zI} {J : zJ} (p1 : Int32) {rx : Int64} {rI : zI} {rJ : zJ} (hf : f_X12_blind I J p1 = some (rx, rI, rJ)) {ls : Array Slot} (S0 : zSt p m c cX12_blind 8 s args wsX12_blind RX12 D a0 A cy (zw 25 (kM cy ad) ad I J) [.ref (ad 0), .int p1] ls) (hret : ∀ (tx : Int64) (tI : zI) (tJ : zJ), some (tx, tI, tJ) = some (rx, rI, rJ) → ∀ (H : Heap) (locs : List Loc) (ls : Array Slot) (pc : Nat), va_P D vwCl (zw 25 (kM cy ad) ad tI tJ) H → va_S A s.heap H locs → decode cX12_blind pc = .ok (.lreturn, 1) → W p l e R s m args below meth c H locs 0 0 Q (F0 m pc ls [.long tx])) : W p l e R s m args below meth c s.heap [] 0 0 Q (F0 m 0 ls []) := by
  obtain ⟨S, E, hP, hl⟩ := S0
  obtain ⟨hx, hb, hml, hown, hts⟩ := id S
  have hS : va_S A s.heap s.heap [] := va_S.rf
  replace hl : lv_has ls 8 [(0, .ref (ad 0)), (1, .int p1)] := hl
  unfold f_X12_blind at hf
  refine lv_iload_n hx hb dX12_blind_0 rfl (lv_at hl 1 rfl) ?_
  refine lv_i2l hx hb dX12_blind_1 rfl ?_
  refine lv_lconst (v := 0) hx hb dX12_blind_2 (by decide) ?_
  refine lv_ldc2 hx hb hown (hts (.constantLong RX12 115 3) (by decide +kernel)) dX12_blind_3 ?_
  obtain ⟨x1, h2, hf⟩ := zb1_e hf
  refine zgo_i (zrunS (As := [.long (p1.toInt64), .long 0, .long 3]) (rest := []) S (c_X12_in l hD (p1.toInt64) 0 3 h2) (va_cwS 3 hts gX12_blind_X12_in rfl rfl rfl ddX12_in ⟨Nat.le_trans (Nat.le_of_ble_eq_true rfl) hfr, Nat.le_trans (Nat.le_of_ble_eq_true rfl) hlo⟩) E hP hS hl.1 rfl rfl (Nat.le_of_ble_eq_true rfl) dX12_blind_6) hS (fun H locs hP hS => ?_)
  refine lv_if_ne (tgt := 16) hx hb dX12_blind_9 (by decide) (fun k3 => ?_) (fun k3 => ?_)
  · replace hf := zf k3 hf
    refine lv_iconst (v := 0) hx hb dX12_blind_16 (by decide) ?_
    refine lv_istore_n (lv' := [(2, .int 0), (0, .ref (ad 0)), (1, .int p1)]) hx hb dX12_blind_17 rfl hl (by decide) rfl (fun ls hl => ?_)
    refine lv_aload_n hx hb dX12_blind_18 rfl (lv_at hl 1 rfl) ?_
    refine lv_iconst (v := 0) hx hb dX12_blind_19 (by decide) ?_
    obtain ⟨u4, I5, J6, h7, hf⟩ := zb3_e hf
    refine zgo_l (zrunV (As := [.int 0]) (rest := []) S (c_X12_sumOf l hD 0 h7) (cwV 1 hts gX12_blind_X12_sumOf rfl rfl rfl ddX12_sumOf ⟨Nat.le_trans (Nat.le_of_ble_eq_true rfl) hfr, Nat.le_trans (Nat.le_of_ble_eq_true rfl) hlo⟩) (va_recv E.1 hP (q := (RX12, TX12, 31)) (ci := 11) rfl (zO.get (oX12_at))) E hP hS hl.1 rfl rfl (Nat.le_of_ble_eq_true rfl) dX12_blind_20) hS (fun H locs hP hS => ?_)
    refine lv_lstore_n (lv' := [(3, .long u4), (2, .int 0), (0, .ref (ad 0)), (1, .int p1)]) hx hb dX12_blind_23 rfl hl (by decide) rfl (fun ls hl => ?_)
    refine lv_iconst (v := 1) hx hb dX12_blind_24 (by decide) ?_
    refine lv_istore (lv' := [(5, .int 1), (3, .long u4), (2, .int 0), (0, .ref (ad 0)), (1, .int p1)]) hx hb dX12_blind_25 hl (by decide) rfl (fun ls hl => ?_)
    obtain ⟨zl8, hf, hzl8⟩ := zb4_i hf
    have hjl8 : ∀ (x27 : Int32) (u28 : Int64) (I29 : zI) (J30 : zJ), (x27, u28, I29, J30) = zl8 → ∀ (H : Heap) (locs : List Loc) (ls : Array Slot), va_P D vwCl (zw 25 (kM cy ad) ad I29 J30) H → va_S A s.heap H locs → lv_has ls 8 [(0, .ref (ad 0)), (1, .int p1), (2, .int x27), (3, .long u28)] → W p l e R s m args below meth c H locs 0 0 Q (F0 m 80 ls []) := by
      intro x27 u28 I29 J30 ez H locs ls hP hS hl
      have hf := hzl8 x27 u28 I29 J30 ez
      refine lv_iload_n hx hb dX12_blind_80 rfl (lv_at hl 1 rfl) ?_
      refine lv_if_ne (tgt := 89) hx hb dX12_blind_81 (by decide) (fun k31 => ?_) (fun k31 => ?_)
      · replace hf := zf k31 hf
        refine lv_iload_n hx hb dX12_blind_89 rfl (lv_at hl 1 rfl) ?_
        refine lv_iconst (v := 1) hx hb dX12_blind_90 (by decide) ?_
        refine lv_icmp_ne (tgt := 98) hx hb dX12_blind_91 (by decide) (fun k32 => ?_) (fun k32 => ?_)
        · replace hf := zf k32 hf
          refine lv_iload_n hx hb dX12_blind_98 rfl (lv_at hl 1 rfl) ?_
          refine lv_iconst (v := 2) hx hb dX12_blind_99 (by decide) ?_
          refine lv_icmp_ne (tgt := 111) hx hb dX12_blind_100 (by decide) (fun k33 => ?_) (fun k33 => ?_)
          · replace hf := zf k33 hf
            refine lv_aload_n hx hb dX12_blind_111 rfl (lv_at hl 0 rfl) ?_
            refine lv_iconst (v := (-1)) hx hb dX12_blind_112 (by decide) ?_
            obtain ⟨u34, I35, J36, h37, hf⟩ := zb3_e hf
            refine zgo_l (zrunV (As := [.int (-1)]) (rest := []) S (c_X12_sumOf l hD (-1) h37) (cwV 1 hts gX12_blind_X12_sumOf rfl rfl rfl ddX12_sumOf ⟨Nat.le_trans (Nat.le_of_ble_eq_true rfl) hfr, Nat.le_trans (Nat.le_of_ble_eq_true rfl) hlo⟩) (va_recv E.1 hP (q := (RX12, TX12, 31)) (ci := 11) rfl (zO.get (oX12_at))) E hP hS hl.1 rfl rfl (Nat.le_of_ble_eq_true rfl) dX12_blind_113) hS (fun H locs hP hS => ?_)
            refine lv_lload_n hx hb dX12_blind_116 rfl (lv_at hl 3 rfl) ?_
            refine lv_lsub hx hb dX12_blind_117 ?_
            exact hret _ _ _ hf _ _ _ _ hP hS dX12_blind_118
          · replace hf := zt k33 hf
            refine lv_aload_n hx hb dX12_blind_103 rfl (lv_at hl 0 rfl) ?_
            refine lv_iconst (v := (-1)) hx hb dX12_blind_104 (by decide) ?_
            obtain ⟨u38, I39, J40, h41, hf⟩ := zb3_e hf
            refine zgo_l (zrunV (As := [.int (-1)]) (rest := []) S (c_X12_sumOf l hD (-1) h41) (cwV 1 hts gX12_blind_X12_sumOf rfl rfl rfl ddX12_sumOf ⟨Nat.le_trans (Nat.le_of_ble_eq_true rfl) hfr, Nat.le_trans (Nat.le_of_ble_eq_true rfl) hlo⟩) (va_recv E.1 hP (q := (RX12, TX12, 31)) (ci := 11) rfl (zO.get (oX12_at))) E hP hS hl.1 rfl rfl (Nat.le_of_ble_eq_true rfl) dX12_blind_105) hS (fun H locs hP hS => ?_)
            refine lv_goto (tgt := 118) hx hb dX12_blind_108 (by decide) ?_
            exact hret _ _ _ hf _ _ _ _ hP hS dX12_blind_118
        · replace hf := zt k32 hf
          refine lv_lload_n hx hb dX12_blind_94 rfl (lv_at hl 3 rfl) ?_
          refine lv_goto (tgt := 118) hx hb dX12_blind_95 (by decide) ?_
          exact hret _ _ _ hf _ _ _ _ hP hS dX12_blind_118
      · replace hf := zt k31 hf
        refine lv_iload_n hx hb dX12_blind_84 rfl (lv_at hl 2 rfl) ?_
        refine lv_i2l hx hb dX12_blind_85 rfl ?_
        refine lv_goto (tgt := 118) hx hb dX12_blind_86 (by decide) ?_
        exact hret _ _ _ hf _ _ _ _ hP hS dX12_blind_118
    refine zl_i (V := (Int32 × Int64 × Int32 × zI × zJ)) (P := fun v => ∀ (H : Heap) (locs : List Loc) (ls : Array Slot), va_P D vwCl (zw 25 (kM cy ad) ad v.2.2.2.1 v.2.2.2.2) H → va_S A s.heap H locs → lv_has ls 8 [(0, .ref (ad 0)), (1, .int p1), (2, .int (v.1)), (3, .long (v.2.1)), (5, .int (v.2.2.1))] → W p l e R s m args below meth c H locs 0 0 Q (F0 m 27 ls [])) ?_ _ _ hf _ _ _ hP hS (lv_sub hl [3, 4, 2, 1, 0] rfl)
    intro v z hf hcl8 hdl8
    obtain ⟨x9, u10, x11, I12, J13⟩ := v
    intro H locs ls hP hS hl
    replace hf : f_X12_blind_L27 x9 u10 x11 I12 J13 = some z := hf
    unfold f_X12_blind_L27 at hf
    replace hP : va_P D vwCl (zw 25 (kM cy ad) ad I12 J13) H := hP
    replace hl : lv_has ls 8 [(0, .ref (ad 0)), (1, .int p1), (2, .int x9), (3, .long u10), (5, .int x11)] := hl
    refine lv_iload hx hb dX12_blind_27 (lv_at hl 4 rfl) ?_
    refine lv_aload_n hx hb dX12_blind_29 rfl (lv_at hl 0 rfl) ?_
    refine va_get (D := D) (ci := 11) (v := .ref (ad 9)) (C := RX12) (T := TX12) (N := 31) hx hb hts hinX12_blind_X12 hown E.1 hP 0 (zO.get (oX12_at)) rfl 10 (by decide) (hts (.fieldLink RX12 35 "EdgeAndSpeedModel" "steels" "[I") (by decide +kernel)) (fun _ h9 => h9) rfl dX12_blind_30 ?_
    refine lv_iconst (v := 0) hx hb dX12_blind_33 (by decide) ?_
    obtain ⟨g14, hf⟩ := zg_i hf
    refine va_iald hx hb E.1 hP 9 1 (zIA.get (aX12_10)) rfl g14 dX12_blind_34 ?_
    refine lv_icmp_ge (tgt := 80) hx hb dX12_blind_35 (by decide) (fun k15 => ?_) (fun k15 => ?_)
    · replace hf := zt k15 hf
      exact hjl8 _ _ _ _ (hdl8 _ (Option.some.inj hf).symm) _ _ _ hP hS (lv_sub hl [0, 1, 2, 3] rfl)
    · replace hf := zf k15 hf
      refine lv_aload_n hx hb dX12_blind_38 rfl (lv_at hl 0 rfl) ?_
      refine lv_iload hx hb dX12_blind_39 (lv_at hl 4 rfl) ?_
      obtain ⟨u16, I17, J18, h19, hf⟩ := zb3_e hf
      refine zgo_l (zrunV (As := [.int x11]) (rest := []) S (c_X12_sumOf l hD x11 h19) (cwV 1 hts gX12_blind_X12_sumOf rfl rfl rfl ddX12_sumOf ⟨Nat.le_trans (Nat.le_of_ble_eq_true rfl) hfr, Nat.le_trans (Nat.le_of_ble_eq_true rfl) hlo⟩) (va_recv E.1 hP (q := (RX12, TX12, 31)) (ci := 11) rfl (zO.get (oX12_at))) E hP hS hl.1 rfl rfl (Nat.le_of_ble_eq_true rfl) dX12_blind_41) hS (fun H locs hP hS => ?_)
      refine lv_lstore (lv' := [(6, .long u16), (0, .ref (ad 0)), (1, .int p1), (2, .int x9), (3, .long u10), (5, .int x11)]) hx hb dX12_blind_44 hl (by decide) rfl (fun ls hl => ?_)
      refine lv_lload hx hb dX12_blind_46 (lv_at hl 0 rfl) ?_
      refine lv_lload_n hx hb dX12_blind_48 rfl (lv_at hl 4 rfl) ?_
      refine W.lcmp hx hb dX12_blind_49 ?_
      obtain ⟨zr22, hf, hzr22⟩ := zb1_i hf
      have hjr22 : ∀ (x23 : Int32), x23 = zr22 → ∀ (H : Heap) (locs : List Loc) (ls : Array Slot), va_P D vwCl (zw 25 (kM cy ad) ad I17 J18) H → va_S A s.heap H locs → lv_has ls 8 [(0, .ref (ad 0)), (1, .int p1), (3, .long u10), (5, .int x11), (6, .long u16)] → W p l e R s m args below meth c H locs 0 0 Q (F0 m 59 ls [.int x23]) := by
        intro x23 ez H locs ls hP hS hl
        have hf := hzr22 x23 ez
        refine lv_istore_n (lv' := [(2, .int x23), (0, .ref (ad 0)), (1, .int p1), (3, .long u10), (5, .int x11), (6, .long u16)]) hx hb dX12_blind_59 rfl hl (by decide) rfl (fun ls hl => ?_)
        refine lv_lload hx hb dX12_blind_60 (lv_at hl 5 rfl) ?_
        refine lv_lload_n hx hb dX12_blind_62 rfl (lv_at hl 3 rfl) ?_
        refine W.lcmp hx hb dX12_blind_63 ?_
        refine lv_if_le (tgt := 72) hx hb dX12_blind_64 (by decide) (fun k24 => ?_) (fun k24 => ?_)
        · replace hf := zt k24 hf
          refine lv_lload_n hx hb dX12_blind_72 rfl (lv_at hl 3 rfl) ?_
          refine lv_lstore_n (lv' := [(3, .long u10), (2, .int x23), (0, .ref (ad 0)), (1, .int p1), (5, .int x11), (6, .long u16)]) hx hb dX12_blind_73 rfl hl (by decide) rfl (fun ls hl => ?_)
          obtain ⟨y25, ey25⟩ := zex (x11 + 1)
          replace hf := zn_s ey25 hf
          refine lv_iinc (v := y25) (lv' := [(5, .int y25), (3, .long u10), (2, .int x23), (0, .ref (ad 0)), (1, .int p1), (6, .long u16)]) hx hb dX12_blind_74 hl (k := 4) rfl (by rw [ey25]; rfl) (by decide) rfl (fun ls hl => ?_)
          refine lv_goto (tgt := 27) hx hb dX12_blind_77 (by decide) ?_
          exact hcl8 _ (Option.some.inj hf).symm _ _ _ hP hS (lv_sub hl [3, 4, 2, 1, 0] rfl)
        · replace hf := zf k24 hf
          refine lv_lload hx hb dX12_blind_67 (lv_at hl 5 rfl) ?_
          refine lv_goto (tgt := 73) hx hb dX12_blind_69 (by decide) ?_
          refine lv_lstore_n (lv' := [(3, .long u16), (2, .int x23), (0, .ref (ad 0)), (1, .int p1), (5, .int x11), (6, .long u16)]) hx hb dX12_blind_73 rfl hl (by decide) rfl (fun ls hl => ?_)
          obtain ⟨y26, ey26⟩ := zex (x11 + 1)
          replace hf := zn_s ey26 hf
          refine lv_iinc (v := y26) (lv' := [(5, .int y26), (3, .long u16), (2, .int x23), (0, .ref (ad 0)), (1, .int p1), (6, .long u16)]) hx hb dX12_blind_74 hl (k := 4) rfl (by rw [ey26]; rfl) (by decide) rfl (fun ls hl => ?_)
          refine lv_goto (tgt := 27) hx hb dX12_blind_77 (by decide) ?_
          exact hcl8 _ (Option.some.inj hf).symm _ _ _ hP hS (lv_sub hl [3, 4, 2, 1, 0] rfl)
      refine lv_if_le (tgt := 58) hx hb dX12_blind_50 (by decide) (fun k20 => ?_) (fun k20 => ?_)
      · replace hf := zt k20 hf
        refine lv_iload_n hx hb dX12_blind_58 rfl (lv_at hl 3 rfl) ?_
        exact hjr22 _ (Option.some.inj hf) _ _ _ hP hS (lv_sub hl [1, 2, 4, 5, 0] rfl)
      · replace hf := zf k20 hf
        refine lv_iload hx hb dX12_blind_53 (lv_at hl 5 rfl) ?_
        refine lv_goto (tgt := 59) hx hb dX12_blind_55 (by decide) ?_
        exact hjr22 _ (Option.some.inj hf) _ _ _ hP hS (lv_sub hl [1, 2, 4, 5, 0] rfl)
  · replace hf := zt k3 hf
    refine lv_ldc2 hx hb hown (hts (.constantLong RX12 238 (-9223372036854775808)) (by decide +kernel)) dX12_blind_12 ?_
    exact hret _ _ _ hf _ _ _ _ hP hS dX12_blind_15
theorem c_X12_blind (l : Launch) {D : va_G} {a0 : Nat → Nat} {A : Nat → Prop} {cy : Nat → ClassId} {ad : Nat → Nat} (hD : zD A 25 ad) {I : zI} {J : zJ} (p1 : Int32) {rx : Int64} {rI : zI} {rJ : zJ} (hf : f_X12_blind I J p1 = some (rx, rI, rJ)) : Met l yX12_blind wsX12_blind { frames := 6, cells := 0, slots := 0, locals := 152 } (zPc D a0 A cy [.ref (ad 0), .int p1] (zw 25 (kM cy ad) ad I J)) (zQl D A rx (zw 25 (kM cy ad) ad rI rJ)) 0 0 A :=
  zmet RX12 (by decide) rfl rfl (Nat.le_of_ble_eq_true rfl) (fun p e R s m below meth c Q hfr hlo ls S0 hQ => w_X12_blind hfr hlo hD p1 hf S0 (fun tx tI tJ hq H locs ls pc hP hS hd => by cases hq; exact hQ H locs _ hS (fun hx hb hr hlocks hfree => W.lret hx hb hr (fun t ht hW => ⟨⟨_, (), rfl, rfl, zht ht hP⟩, hS.F ht⟩) hfree hd hlocks)))
theorem ddX12_blind : yX12_blind.cls = RX12 ∧ yX12_blind.cls ≠ "java/lang/invoke/MethodHandle" ∧ yX12_blind.cls ≠ "java/lang/invoke/VarHandle" ∧ (parseMethodDescriptor yX12_blind.desc).map (fun d => d.parameters.length) = some 1 := by decide +kernel

def f_X12_two_L121 (p4 : Int32) (p2 : Int32) (p3 : Int32) (p1 : Int32) (p5 : Int32) (x29 : Int32) (x30 : Int32) (x31 : Int32) (x32 : Int32) (I33 : zI) : Option ((Int32 × Int32 × Int32 × Int32 × zI) ⊕ (zI ⊕ (Int32 × zI))) := (if 20000 < x31 then some (.inr (.inl I33)) else zb1 ((if x30 < x29 then some (0) else some (1)) : Option Int32) (fun x38 => zb1 ((if x38 = 0 then some (x30) else some (x29)) : Option Int32) (fun x42 => zb1 ((if x42 ≤ x31 then some (x31) else some (x42)) : Option Int32) (fun x46 => zn ((x32 + (x46 - x42))) (fun y47 => zb1 ((if x38 = 0 then some (p4) else some (p2)) : Option Int32) (fun x51 => zn ((x46 + x51)) (fun y52 => (if x38 = 0 then zn ((y52 + p3)) (fun y68 => some (.inl (x29, y68, y52, y47, I33))) else (if 20000 < y52 then some (.inl (x29, x30, y52, y47, I33)) else zn ((y52 + p1)) (fun y55 => zn (((30 + x30) - y52)) (fun y56 => zg (¬ (y56 < 0 ∨ 130 ≤ y56.toNatClampNeg)) ((if (I33 22 y56.toNatClampNeg) < 0 then zg (¬ (y56 < 0 ∨ 130 ≤ y56.toNatClampNeg)) (zn (va_up I33 22 (upd (I33 22) y56.toNatClampNeg y52)) (fun I59 => zg (¬ (y56 < 0 ∨ 130 ≤ y56.toNatClampNeg)) (zn (va_up I59 23 (upd (I59 23) y56.toNatClampNeg y47)) (fun I61 => some (.inl (y55, x30, y52, y47, I61)))))) else (if p5 = 0 then zg (¬ (y56 < 0 ∨ 130 ≤ y56.toNatClampNeg)) (some (.inr (.inr ((y52 - (I33 22 y56.toNatClampNeg)), I33)))) else (if p5 = 1 then zg (¬ (y56 < 0 ∨ 130 ≤ y56.toNatClampNeg)) (some (.inr (.inr ((y47 - (I33 23 y56.toNatClampNeg)), I33)))) else zg (¬ (y56 < 0 ∨ 130 ≤ y56.toNatClampNeg)) (some (.inr (.inr ((I33 22 y56.toNatClampNeg), I33)))))))))))))))))))
def f_X12_two_L67 (x17 : Int32) (I18 : zI) : Option ((Int32 × zI) ⊕ zI) := (if 130 ≤ x17 then some (.inr I18) else zg (¬ (x17 < 0 ∨ 130 ≤ x17.toNatClampNeg)) (zn (va_up I18 22 (upd (I18 22) x17.toNatClampNeg (-1))) (fun I20 => zn (x17 + 1) (fun y22 => some (.inl (y22, I20))))))
def f_X12_two (I : zI) (J : zJ) (p1 : Int32) (p2 : Int32) (p3 : Int32) (p4 : Int32) (p5 : Int32) : Option (Int32 × zI) := zb1 (f_X12_in I J (p1.toInt64) 1 99) (fun x1 => (if x1 = 0 then some ((-1), I) else zb1 (f_X12_in I J (p2.toInt64) 1 30) (fun x4 => (if x4 = 0 then some ((-1), I) else zb1 (f_X12_in I J (p3.toInt64) 1 99) (fun x7 => (if x7 = 0 then some ((-1), I) else zb1 (f_X12_in I J (p4.toInt64) 1 30) (fun x10 => (if x10 = 0 then some ((-1), I) else zb1 (f_X12_in I J (p5.toInt64) 0 2) (fun x13 => (if x13 = 0 then some ((-1), I) else zb1 (zl (fun v : (Int32 × zI) => f_X12_two_L67 v.1 v.2) zF (0, I)) (fun I23 => zg (¬ ((30 + p3) < 0 ∨ 130 ≤ (30 + p3).toNatClampNeg)) (zn (va_up I23 22 (upd (I23 22) (30 + p3).toNatClampNeg 0)) (fun I24 => zg (¬ ((30 + p3) < 0 ∨ 130 ≤ (30 + p3).toNatClampNeg)) (zn (va_up I24 23 (upd (I24 23) (30 + p3).toNatClampNeg 0)) (fun I26 => zc1 (zl (fun v : (Int32 × Int32 × Int32 × Int32 × zI) => f_X12_two_L121 p4 p2 p3 p1 p5 v.1 v.2.1 v.2.2.1 v.2.2.2.1 v.2.2.2.2) zF (p1, p3, 0, 0, I26)) (fun I69 => some ((-4), I69)))))))))))))))))
theorem hinX12_two_X12 : ∀ w ∈ u_ws RX12 TX12 31, w ∈ wsX12_two := by decide +kernel
set_option maxHeartbeats 4000000 in
set_option maxRecDepth 100000 in
theorem w_X12_two {p : Program} {l : Launch} {e : Env} {R : Room} {s : State} {m : MethodId} {args : Array Value} {below : List Frame} {meth : Method} {c : Code} {Q : State → Prop} (hfr : 1 ≤ R.frames) (hlo : 25 ≤ R.locals) {D : va_G} {a0 : Nat → Nat} {A : Nat → Prop} {cy : Nat → ClassId} {ad : Nat → Nat} (hD : zD A 25 ad) {I : zI} {J : zJ} (p1 : Int32) (p2 : Int32) (p3 : Int32) (p4 : Int32) (p5 : Int32) {rx : Int32} {rI : zI} (hf : f_X12_two I J p1 p2 p3 p4 p5 = some (rx, rI)) {ls : Array Slot} (S0 : zSt p m c cX12_two 14 s args wsX12_two RX12 D a0 A cy (zw 25 (kM cy ad) ad I J) [.ref (ad 0), .int p1, .int p2, .int p3, .int p4, .int p5] ls) (hret : ∀ (tx : Int32) (tI : zI), some (tx, tI) = some (rx, rI) → ∀ (H : Heap) (locs : List Loc) (ls : Array Slot) (pc : Nat), va_P D vwCl (zw 25 (kM cy ad) ad tI J) H → va_S A s.heap H locs → decode cX12_two pc = .ok (.ireturn, 1) → W p l e R s m args below meth c H locs 0 0 Q (F0 m pc ls [.int tx])) : W p l e R s m args below meth c s.heap [] 0 0 Q (F0 m 0 ls []) := by
  obtain ⟨S, E, hP, hl⟩ := S0
  obtain ⟨hx, hb, hml, hown, hts⟩ := id S
  have hS : va_S A s.heap s.heap [] := va_S.rf
  replace hl : lv_has ls 14 [(0, .ref (ad 0)), (1, .int p1), (2, .int p2), (3, .int p3), (4, .int p4), (5, .int p5)] := hl
  unfold f_X12_two at hf
  refine lv_iload_n hx hb dX12_two_0 rfl (lv_at hl 1 rfl) ?_
  refine lv_i2l hx hb dX12_two_1 rfl ?_
  refine lv_lconst (v := 1) hx hb dX12_two_2 (by decide) ?_
  refine lv_ldc2 hx hb hown (hts (.constantLong RX12 267 99) (by decide +kernel)) dX12_two_3 ?_
  obtain ⟨x1, h2, hf⟩ := zb1_e hf
  refine zgo_i (zrunS (As := [.long (p1.toInt64), .long 1, .long 99]) (rest := []) S (c_X12_in l hD (p1.toInt64) 1 99 h2) (va_cwS 3 hts gX12_two_X12_in rfl rfl rfl ddX12_in ⟨Nat.le_trans (Nat.le_of_ble_eq_true rfl) hfr, Nat.le_trans (Nat.le_of_ble_eq_true rfl) hlo⟩) E hP hS hl.1 rfl rfl (Nat.le_of_ble_eq_true rfl) dX12_two_6) hS (fun H locs hP hS => ?_)
  refine lv_if_eq (tgt := 62) hx hb dX12_two_9 (by decide) (fun k3 => ?_) (fun k3 => ?_)
  · replace hf := zt k3 hf
    refine lv_iconst (v := (-1)) hx hb dX12_two_62 (by decide) ?_
    exact hret _ _ hf _ _ _ _ hP hS dX12_two_63
  · replace hf := zf k3 hf
    refine lv_iload_n hx hb dX12_two_12 rfl (lv_at hl 2 rfl) ?_
    refine lv_i2l hx hb dX12_two_13 rfl ?_
    refine lv_lconst (v := 1) hx hb dX12_two_14 (by decide) ?_
    refine lv_ldc2 hx hb hown (hts (.constantLong RX12 269 30) (by decide +kernel)) dX12_two_15 ?_
    obtain ⟨x4, h5, hf⟩ := zb1_e hf
    refine zgo_i (zrunS (As := [.long (p2.toInt64), .long 1, .long 30]) (rest := []) S (c_X12_in l hD (p2.toInt64) 1 30 h5) (va_cwS 3 hts gX12_two_X12_in rfl rfl rfl ddX12_in ⟨Nat.le_trans (Nat.le_of_ble_eq_true rfl) hfr, Nat.le_trans (Nat.le_of_ble_eq_true rfl) hlo⟩) E hP hS hl.1 rfl rfl (Nat.le_of_ble_eq_true rfl) dX12_two_18) hS (fun H locs hP hS => ?_)
    refine lv_if_eq (tgt := 62) hx hb dX12_two_21 (by decide) (fun k6 => ?_) (fun k6 => ?_)
    · replace hf := zt k6 hf
      refine lv_iconst (v := (-1)) hx hb dX12_two_62 (by decide) ?_
      exact hret _ _ hf _ _ _ _ hP hS dX12_two_63
    · replace hf := zf k6 hf
      refine lv_iload_n hx hb dX12_two_24 rfl (lv_at hl 3 rfl) ?_
      refine lv_i2l hx hb dX12_two_25 rfl ?_
      refine lv_lconst (v := 1) hx hb dX12_two_26 (by decide) ?_
      refine lv_ldc2 hx hb hown (hts (.constantLong RX12 267 99) (by decide +kernel)) dX12_two_27 ?_
      obtain ⟨x7, h8, hf⟩ := zb1_e hf
      refine zgo_i (zrunS (As := [.long (p3.toInt64), .long 1, .long 99]) (rest := []) S (c_X12_in l hD (p3.toInt64) 1 99 h8) (va_cwS 3 hts gX12_two_X12_in rfl rfl rfl ddX12_in ⟨Nat.le_trans (Nat.le_of_ble_eq_true rfl) hfr, Nat.le_trans (Nat.le_of_ble_eq_true rfl) hlo⟩) E hP hS hl.1 rfl rfl (Nat.le_of_ble_eq_true rfl) dX12_two_30) hS (fun H locs hP hS => ?_)
      refine lv_if_eq (tgt := 62) hx hb dX12_two_33 (by decide) (fun k9 => ?_) (fun k9 => ?_)
      · replace hf := zt k9 hf
        refine lv_iconst (v := (-1)) hx hb dX12_two_62 (by decide) ?_
        exact hret _ _ hf _ _ _ _ hP hS dX12_two_63
      · replace hf := zf k9 hf
        refine lv_iload hx hb dX12_two_36 (lv_at hl 4 rfl) ?_
        refine lv_i2l hx hb dX12_two_38 rfl ?_
        refine lv_lconst (v := 1) hx hb dX12_two_39 (by decide) ?_
        refine lv_ldc2 hx hb hown (hts (.constantLong RX12 269 30) (by decide +kernel)) dX12_two_40 ?_
        obtain ⟨x10, h11, hf⟩ := zb1_e hf
        refine zgo_i (zrunS (As := [.long (p4.toInt64), .long 1, .long 30]) (rest := []) S (c_X12_in l hD (p4.toInt64) 1 30 h11) (va_cwS 3 hts gX12_two_X12_in rfl rfl rfl ddX12_in ⟨Nat.le_trans (Nat.le_of_ble_eq_true rfl) hfr, Nat.le_trans (Nat.le_of_ble_eq_true rfl) hlo⟩) E hP hS hl.1 rfl rfl (Nat.le_of_ble_eq_true rfl) dX12_two_43) hS (fun H locs hP hS => ?_)
        refine lv_if_eq (tgt := 62) hx hb dX12_two_46 (by decide) (fun k12 => ?_) (fun k12 => ?_)
        · replace hf := zt k12 hf
          refine lv_iconst (v := (-1)) hx hb dX12_two_62 (by decide) ?_
          exact hret _ _ hf _ _ _ _ hP hS dX12_two_63
        · replace hf := zf k12 hf
          refine lv_iload hx hb dX12_two_49 (lv_at hl 5 rfl) ?_
          refine lv_i2l hx hb dX12_two_51 rfl ?_
          refine lv_lconst (v := 0) hx hb dX12_two_52 (by decide) ?_
          refine lv_ldc2 hx hb hown (hts (.constantLong RX12 151 2) (by decide +kernel)) dX12_two_53 ?_
          obtain ⟨x13, h14, hf⟩ := zb1_e hf
          refine zgo_i (zrunS (As := [.long (p5.toInt64), .long 0, .long 2]) (rest := []) S (c_X12_in l hD (p5.toInt64) 0 2 h14) (va_cwS 3 hts gX12_two_X12_in rfl rfl rfl ddX12_in ⟨Nat.le_trans (Nat.le_of_ble_eq_true rfl) hfr, Nat.le_trans (Nat.le_of_ble_eq_true rfl) hlo⟩) E hP hS hl.1 rfl rfl (Nat.le_of_ble_eq_true rfl) dX12_two_56) hS (fun H locs hP hS => ?_)
          refine lv_if_ne (tgt := 64) hx hb dX12_two_59 (by decide) (fun k15 => ?_) (fun k15 => ?_)
          · replace hf := zf k15 hf
            refine lv_iconst (v := 0) hx hb dX12_two_64 (by decide) ?_
            refine lv_istore (lv' := [(6, .int 0), (0, .ref (ad 0)), (1, .int p1), (2, .int p2), (3, .int p3), (4, .int p4), (5, .int p5)]) hx hb dX12_two_65 hl (by decide) rfl (fun ls hl => ?_)
            obtain ⟨zl16, hf, hzl16⟩ := zb1_i hf
            have hjl16 : ∀ (I23 : zI), I23 = zl16 → ∀ (H : Heap) (locs : List Loc) (ls : Array Slot), va_P D vwCl (zw 25 (kM cy ad) ad I23 J) H → va_S A s.heap H locs → lv_has ls 14 [(0, .ref (ad 0)), (1, .int p1), (2, .int p2), (3, .int p3), (4, .int p4), (5, .int p5)] → W p l e R s m args below meth c H locs 0 0 Q (F0 m 89 ls []) := by
              intro I23 ez H locs ls hP hS hl
              have hf := hzl16 I23 ez
              refine lv_iload_n hx hb dX12_two_89 rfl (lv_at hl 1 rfl) ?_
              refine lv_istore (lv' := [(6, .int p1), (0, .ref (ad 0)), (1, .int p1), (2, .int p2), (3, .int p3), (4, .int p4), (5, .int p5)]) hx hb dX12_two_90 hl (by decide) rfl (fun ls hl => ?_)
              refine lv_iload_n hx hb dX12_two_92 rfl (lv_at hl 4 rfl) ?_
              refine lv_istore (lv' := [(7, .int p3), (6, .int p1), (0, .ref (ad 0)), (1, .int p1), (2, .int p2), (3, .int p3), (4, .int p4), (5, .int p5)]) hx hb dX12_two_93 hl (by decide) rfl (fun ls hl => ?_)
              refine lv_iconst (v := 0) hx hb dX12_two_95 (by decide) ?_
              refine lv_istore (lv' := [(8, .int 0), (7, .int p3), (6, .int p1), (0, .ref (ad 0)), (1, .int p1), (2, .int p2), (3, .int p3), (4, .int p4), (5, .int p5)]) hx hb dX12_two_96 hl (by decide) rfl (fun ls hl => ?_)
              refine lv_iconst (v := 0) hx hb dX12_two_98 (by decide) ?_
              refine lv_istore (lv' := [(9, .int 0), (8, .int 0), (7, .int p3), (6, .int p1), (0, .ref (ad 0)), (1, .int p1), (2, .int p2), (3, .int p3), (4, .int p4), (5, .int p5)]) hx hb dX12_two_99 hl (by decide) rfl (fun ls hl => ?_)
              refine lv_aload_n hx hb dX12_two_101 rfl (lv_at hl 4 rfl) ?_
              refine va_get (D := D) (ci := 11) (v := .ref (ad 22)) (C := RX12) (T := TX12) (N := 31) hx hb hts hinX12_two_X12 hown E.1 hP 0 (zO.get (oX12_at)) rfl 28 (by decide) (hts (.fieldLink RX12 76 "EdgeAndSpeedModel" "beganAt" "[I") (by decide +kernel)) (fun _ h9 => h9) rfl dX12_two_102 ?_
              refine lv_bipush (v := 30) hx hb dX12_two_105 (by decide) ?_
              refine lv_iload_n hx hb dX12_two_107 rfl (lv_at hl 7 rfl) ?_
              refine lv_iadd hx hb dX12_two_108 ?_
              refine lv_iconst (v := 0) hx hb dX12_two_109 (by decide) ?_
              obtain ⟨g25, hf⟩ := zg_i hf
              obtain ⟨I24, eI24⟩ := zex (va_up I23 22 (upd (I23 22) (30 + p3).toNatClampNeg 0))
              replace hf := zn_s eI24 hf
              refine zast_i hx hb E.1 hP hD.D hS (aX12_28) g25 dX12_two_110 eI24 (fun H locs hP hS => ?_)
              refine lv_aload_n hx hb dX12_two_111 rfl (lv_at hl 4 rfl) ?_
              refine va_get (D := D) (ci := 11) (v := .ref (ad 23)) (C := RX12) (T := TX12) (N := 31) hx hb hts hinX12_two_X12 hown E.1 hP 0 (zO.get (oX12_at)) rfl 29 (by decide) (hts (.fieldLink RX12 79 "EdgeAndSpeedModel" "waitsTill" "[I") (by decide +kernel)) (fun _ h9 => h9) rfl dX12_two_112 ?_
              refine lv_bipush (v := 30) hx hb dX12_two_115 (by decide) ?_
              refine lv_iload_n hx hb dX12_two_117 rfl (lv_at hl 7 rfl) ?_
              refine lv_iadd hx hb dX12_two_118 ?_
              refine lv_iconst (v := 0) hx hb dX12_two_119 (by decide) ?_
              obtain ⟨g27, hf⟩ := zg_i hf
              obtain ⟨I26, eI26⟩ := zex (va_up I24 23 (upd (I24 23) (30 + p3).toNatClampNeg 0))
              replace hf := zn_s eI26 hf
              refine zast_i hx hb E.1 hP hD.D hS (aX12_29) g27 dX12_two_120 eI26 (fun H locs hP hS => ?_)
              obtain ⟨zl28, hf, hzl28, hel28⟩ := zc1_i hf
              have hjl28 : ∀ (I69 : zI), (Sum.inl I69) = zl28 → ∀ (H : Heap) (locs : List Loc) (ls : Array Slot), va_P D vwCl (zw 25 (kM cy ad) ad I69 J) H → va_S A s.heap H locs → lv_has ls 14 [] → W p l e R s m args below meth c H locs 0 0 Q (F0 m 313 ls []) := by
                intro I69 ez H locs ls hP hS hl
                have hf := hzl28 I69 ez
                refine lv_bipush (v := (-4)) hx hb dX12_two_313 (by decide) ?_
                exact hret _ _ hf _ _ _ _ hP hS dX12_two_315
              refine zl_i (V := (Int32 × Int32 × Int32 × Int32 × zI)) (P := fun v => ∀ (H : Heap) (locs : List Loc) (ls : Array Slot), va_P D vwCl (zw 25 (kM cy ad) ad v.2.2.2.2 J) H → va_S A s.heap H locs → lv_has ls 14 [(0, .ref (ad 0)), (1, .int p1), (2, .int p2), (3, .int p3), (4, .int p4), (5, .int p5), (6, .int (v.1)), (7, .int (v.2.1)), (8, .int (v.2.2.1)), (9, .int (v.2.2.2.1))] → W p l e R s m args below meth c H locs 0 0 Q (F0 m 121 ls [])) ?_ _ _ hf _ _ _ hP hS (lv_sub hl [4, 5, 6, 7, 8, 9, 3, 2, 1, 0] rfl)
              intro v z hf hcl28 hdl28
              obtain ⟨x29, x30, x31, x32, I33⟩ := v
              intro H locs ls hP hS hl
              replace hf : f_X12_two_L121 p4 p2 p3 p1 p5 x29 x30 x31 x32 I33 = some z := hf
              unfold f_X12_two_L121 at hf
              replace hP : va_P D vwCl (zw 25 (kM cy ad) ad I33 J) H := hP
              replace hl : lv_has ls 14 [(0, .ref (ad 0)), (1, .int p1), (2, .int p2), (3, .int p3), (4, .int p4), (5, .int p5), (6, .int x29), (7, .int x30), (8, .int x31), (9, .int x32)] := hl
              refine lv_iload hx hb dX12_two_121 (lv_at hl 8 rfl) ?_
              refine lv_sipush (v := 20000) hx hb dX12_two_123 (by decide) ?_
              refine lv_icmp_gt (tgt := 313) hx hb dX12_two_126 (by decide) (fun k34 => ?_) (fun k34 => ?_)
              · replace hf := zt k34 hf
                exact hjl28 _ (hdl28 _ (Option.some.inj hf).symm) _ _ _ hP hS (lv_sub hl [] rfl)
              · replace hf := zf k34 hf
                refine lv_iload hx hb dX12_two_129 (lv_at hl 6 rfl) ?_
                refine lv_iload hx hb dX12_two_131 (lv_at hl 7 rfl) ?_
                obtain ⟨zr37, hf, hzr37⟩ := zb1_i hf
                have hjr37 : ∀ (x38 : Int32), x38 = zr37 → ∀ (H : Heap) (locs : List Loc) (ls : Array Slot), va_P D vwCl (zw 25 (kM cy ad) ad I33 J) H → va_S A s.heap H locs → lv_has ls 14 [(0, .ref (ad 0)), (1, .int p1), (2, .int p2), (3, .int p3), (4, .int p4), (5, .int p5), (6, .int x29), (7, .int x30), (8, .int x31), (9, .int x32)] → W p l e R s m args below meth c H locs 0 0 Q (F0 m 141 ls [.int x38]) := by
                  intro x38 ez H locs ls hP hS hl
                  have hf := hzr37 x38 ez
                  refine lv_istore (lv' := [(10, .int x38), (0, .ref (ad 0)), (1, .int p1), (2, .int p2), (3, .int p3), (4, .int p4), (5, .int p5), (6, .int x29), (7, .int x30), (8, .int x31), (9, .int x32)]) hx hb dX12_two_141 hl (by decide) rfl (fun ls hl => ?_)
                  refine lv_iload hx hb dX12_two_143 (lv_at hl 0 rfl) ?_
                  obtain ⟨zr41, hf, hzr41⟩ := zb1_i hf
                  have hjr41 : ∀ (x42 : Int32), x42 = zr41 → ∀ (H : Heap) (locs : List Loc) (ls : Array Slot), va_P D vwCl (zw 25 (kM cy ad) ad I33 J) H → va_S A s.heap H locs → lv_has ls 14 [(0, .ref (ad 0)), (1, .int p1), (2, .int p2), (3, .int p3), (4, .int p4), (5, .int p5), (6, .int x29), (7, .int x30), (8, .int x31), (9, .int x32), (10, .int x38)] → W p l e R s m args below meth c H locs 0 0 Q (F0 m 155 ls [.int x42]) := by
                    intro x42 ez H locs ls hP hS hl
                    have hf := hzr41 x42 ez
                    refine lv_istore (lv' := [(11, .int x42), (0, .ref (ad 0)), (1, .int p1), (2, .int p2), (3, .int p3), (4, .int p4), (5, .int p5), (6, .int x29), (7, .int x30), (8, .int x31), (9, .int x32), (10, .int x38)]) hx hb dX12_two_155 hl (by decide) rfl (fun ls hl => ?_)
                    refine lv_iload hx hb dX12_two_157 (lv_at hl 0 rfl) ?_
                    refine lv_iload hx hb dX12_two_159 (lv_at hl 9 rfl) ?_
                    obtain ⟨zr45, hf, hzr45⟩ := zb1_i hf
                    have hjr45 : ∀ (x46 : Int32), x46 = zr45 → ∀ (H : Heap) (locs : List Loc) (ls : Array Slot), va_P D vwCl (zw 25 (kM cy ad) ad I33 J) H → va_S A s.heap H locs → lv_has ls 14 [(0, .ref (ad 0)), (1, .int p1), (2, .int p2), (3, .int p3), (4, .int p4), (5, .int p5), (6, .int x29), (7, .int x30), (9, .int x32), (10, .int x38), (11, .int x42)] → W p l e R s m args below meth c H locs 0 0 Q (F0 m 171 ls [.int x46]) := by
                      intro x46 ez H locs ls hP hS hl
                      have hf := hzr45 x46 ez
                      refine lv_istore (lv' := [(12, .int x46), (0, .ref (ad 0)), (1, .int p1), (2, .int p2), (3, .int p3), (4, .int p4), (5, .int p5), (6, .int x29), (7, .int x30), (9, .int x32), (10, .int x38), (11, .int x42)]) hx hb dX12_two_171 hl (by decide) rfl (fun ls hl => ?_)
                      refine lv_iload hx hb dX12_two_173 (lv_at hl 9 rfl) ?_
                      refine lv_iload hx hb dX12_two_175 (lv_at hl 0 rfl) ?_
                      refine lv_iload hx hb dX12_two_177 (lv_at hl 11 rfl) ?_
                      refine lv_isub hx hb dX12_two_179 ?_
                      refine lv_iadd hx hb dX12_two_180 ?_
                      refine lv_topi (fun y47 ey47 => ?_)
                      replace hf := zn_s ey47 hf
                      refine lv_istore (lv' := [(9, .int y47), (12, .int x46), (0, .ref (ad 0)), (1, .int p1), (2, .int p2), (3, .int p3), (4, .int p4), (5, .int p5), (6, .int x29), (7, .int x30), (10, .int x38), (11, .int x42)]) hx hb dX12_two_181 hl (by decide) rfl (fun ls hl => ?_)
                      refine lv_iload hx hb dX12_two_183 (lv_at hl 1 rfl) ?_
                      refine lv_iload hx hb dX12_two_185 (lv_at hl 10 rfl) ?_
                      obtain ⟨zr50, hf, hzr50⟩ := zb1_i hf
                      have hjr50 : ∀ (x51 : Int32), x51 = zr50 → ∀ (H : Heap) (locs : List Loc) (ls : Array Slot), va_P D vwCl (zw 25 (kM cy ad) ad I33 J) H → va_S A s.heap H locs → lv_has ls 14 [(0, .ref (ad 0)), (1, .int p1), (2, .int p2), (3, .int p3), (4, .int p4), (5, .int p5), (6, .int x29), (7, .int x30), (9, .int y47), (10, .int x38)] → W p l e R s m args below meth c H locs 0 0 Q (F0 m 196 ls [.int x51, .int x46]) := by
                        intro x51 ez H locs ls hP hS hl
                        have hf := hzr50 x51 ez
                        refine lv_iadd hx hb dX12_two_196 ?_
                        refine lv_topi (fun y52 ey52 => ?_)
                        replace hf := zn_s ey52 hf
                        refine lv_istore (lv' := [(8, .int y52), (0, .ref (ad 0)), (1, .int p1), (2, .int p2), (3, .int p3), (4, .int p4), (5, .int p5), (6, .int x29), (7, .int x30), (9, .int y47), (10, .int x38)]) hx hb dX12_two_197 hl (by decide) rfl (fun ls hl => ?_)
                        refine lv_iload hx hb dX12_two_199 (lv_at hl 10 rfl) ?_
                        refine lv_if_ne (tgt := 213) hx hb dX12_two_201 (by decide) (fun k53 => ?_) (fun k53 => ?_)
                        · replace hf := zf k53 hf
                          refine lv_iload hx hb dX12_two_213 (lv_at hl 0 rfl) ?_
                          refine lv_sipush (v := 20000) hx hb dX12_two_215 (by decide) ?_
                          refine lv_icmp_gt (tgt := 310) hx hb dX12_two_218 (by decide) (fun k54 => ?_) (fun k54 => ?_)
                          · replace hf := zt k54 hf
                            refine lv_goto (tgt := 121) hx hb dX12_two_310 (by decide) ?_
                            exact hcl28 _ (Option.some.inj hf).symm _ _ _ hP hS (lv_sub hl [1, 2, 3, 4, 5, 6, 7, 8, 0, 9] rfl)
                          · replace hf := zf k54 hf
                            refine lv_iload hx hb dX12_two_221 (lv_at hl 0 rfl) ?_
                            refine lv_iload_n hx hb dX12_two_223 rfl (lv_at hl 2 rfl) ?_
                            refine lv_iadd hx hb dX12_two_224 ?_
                            refine lv_topi (fun y55 ey55 => ?_)
                            replace hf := zn_s ey55 hf
                            refine lv_istore (lv' := [(6, .int y55), (8, .int y52), (0, .ref (ad 0)), (1, .int p1), (2, .int p2), (3, .int p3), (4, .int p4), (5, .int p5), (7, .int x30), (9, .int y47), (10, .int x38)]) hx hb dX12_two_225 hl (by decide) rfl (fun ls hl => ?_)
                            refine lv_bipush (v := 30) hx hb dX12_two_227 (by decide) ?_
                            refine lv_iload hx hb dX12_two_229 (lv_at hl 8 rfl) ?_
                            refine lv_iadd hx hb dX12_two_231 ?_
                            refine lv_iload hx hb dX12_two_232 (lv_at hl 1 rfl) ?_
                            refine lv_isub hx hb dX12_two_234 ?_
                            refine lv_topi (fun y56 ey56 => ?_)
                            replace hf := zn_s ey56 hf
                            refine lv_istore (lv' := [(13, .int y56), (6, .int y55), (8, .int y52), (0, .ref (ad 0)), (1, .int p1), (2, .int p2), (3, .int p3), (4, .int p4), (5, .int p5), (7, .int x30), (9, .int y47), (10, .int x38)]) hx hb dX12_two_235 hl (by decide) rfl (fun ls hl => ?_)
                            refine lv_aload_n hx hb dX12_two_237 rfl (lv_at hl 3 rfl) ?_
                            refine va_get (D := D) (ci := 11) (v := .ref (ad 22)) (C := RX12) (T := TX12) (N := 31) hx hb hts hinX12_two_X12 hown E.1 hP 0 (zO.get (oX12_at)) rfl 28 (by decide) (hts (.fieldLink RX12 76 "EdgeAndSpeedModel" "beganAt" "[I") (by decide +kernel)) (fun _ h9 => h9) rfl dX12_two_238 ?_
                            refine lv_iload hx hb dX12_two_241 (lv_at hl 0 rfl) ?_
                            obtain ⟨g57, hf⟩ := zg_i hf
                            refine va_iald hx hb E.1 hP 22 1 (zIA.get (aX12_28)) rfl g57 dX12_two_243 ?_
                            refine lv_if_lt (tgt := 292) hx hb dX12_two_244 (by decide) (fun k58 => ?_) (fun k58 => ?_)
                            · replace hf := zt k58 hf
                              refine lv_aload_n hx hb dX12_two_292 rfl (lv_at hl 3 rfl) ?_
                              refine va_get (D := D) (ci := 11) (v := .ref (ad 22)) (C := RX12) (T := TX12) (N := 31) hx hb hts hinX12_two_X12 hown E.1 hP 0 (zO.get (oX12_at)) rfl 28 (by decide) (hts (.fieldLink RX12 76 "EdgeAndSpeedModel" "beganAt" "[I") (by decide +kernel)) (fun _ h9 => h9) rfl dX12_two_293 ?_
                              refine lv_iload hx hb dX12_two_296 (lv_at hl 0 rfl) ?_
                              refine lv_iload hx hb dX12_two_298 (lv_at hl 2 rfl) ?_
                              obtain ⟨g60, hf⟩ := zg_i hf
                              obtain ⟨I59, eI59⟩ := zex (va_up I33 22 (upd (I33 22) y56.toNatClampNeg y52))
                              replace hf := zn_s eI59 hf
                              refine zast_i hx hb E.1 hP hD.D hS (aX12_28) g60 dX12_two_300 eI59 (fun H locs hP hS => ?_)
                              refine lv_aload_n hx hb dX12_two_301 rfl (lv_at hl 3 rfl) ?_
                              refine va_get (D := D) (ci := 11) (v := .ref (ad 23)) (C := RX12) (T := TX12) (N := 31) hx hb hts hinX12_two_X12 hown E.1 hP 0 (zO.get (oX12_at)) rfl 29 (by decide) (hts (.fieldLink RX12 79 "EdgeAndSpeedModel" "waitsTill" "[I") (by decide +kernel)) (fun _ h9 => h9) rfl dX12_two_302 ?_
                              refine lv_iload hx hb dX12_two_305 (lv_at hl 0 rfl) ?_
                              refine lv_iload hx hb dX12_two_307 (lv_at hl 10 rfl) ?_
                              obtain ⟨g62, hf⟩ := zg_i hf
                              obtain ⟨I61, eI61⟩ := zex (va_up I59 23 (upd (I59 23) y56.toNatClampNeg y47))
                              replace hf := zn_s eI61 hf
                              refine zast_i hx hb E.1 hP hD.D hS (aX12_29) g62 dX12_two_309 eI61 (fun H locs hP hS => ?_)
                              refine lv_goto (tgt := 121) hx hb dX12_two_310 (by decide) ?_
                              exact hcl28 _ (Option.some.inj hf).symm _ _ _ hP hS (lv_sub hl [3, 4, 5, 6, 7, 8, 1, 9, 2, 10] rfl)
                            · replace hf := zf k58 hf
                              refine lv_iload hx hb dX12_two_247 (lv_at hl 8 rfl) ?_
                              refine lv_if_ne (tgt := 265) hx hb dX12_two_249 (by decide) (fun k63 => ?_) (fun k63 => ?_)
                              · replace hf := zf k63 hf
                                refine lv_iload hx hb dX12_two_265 (lv_at hl 8 rfl) ?_
                                refine lv_iconst (v := 1) hx hb dX12_two_267 (by decide) ?_
                                refine lv_icmp_ne (tgt := 284) hx hb dX12_two_268 (by decide) (fun k64 => ?_) (fun k64 => ?_)
                                · replace hf := zf k64 hf
                                  refine lv_aload_n hx hb dX12_two_284 rfl (lv_at hl 3 rfl) ?_
                                  refine va_get (D := D) (ci := 11) (v := .ref (ad 22)) (C := RX12) (T := TX12) (N := 31) hx hb hts hinX12_two_X12 hown E.1 hP 0 (zO.get (oX12_at)) rfl 28 (by decide) (hts (.fieldLink RX12 76 "EdgeAndSpeedModel" "beganAt" "[I") (by decide +kernel)) (fun _ h9 => h9) rfl dX12_two_285 ?_
                                  refine lv_iload hx hb dX12_two_288 (lv_at hl 0 rfl) ?_
                                  obtain ⟨g65, hf⟩ := zg_i hf
                                  refine va_iald hx hb E.1 hP 22 1 (zIA.get (aX12_28)) rfl g65 dX12_two_290 ?_
                                  replace hf := hel28 _ (hdl28 _ (Option.some.inj hf).symm)
                                  exact hret _ _ hf _ _ _ _ hP hS dX12_two_291
                                · replace hf := zt k64 hf
                                  refine lv_iload hx hb dX12_two_271 (lv_at hl 10 rfl) ?_
                                  refine lv_aload_n hx hb dX12_two_273 rfl (lv_at hl 3 rfl) ?_
                                  refine va_get (D := D) (ci := 11) (v := .ref (ad 23)) (C := RX12) (T := TX12) (N := 31) hx hb hts hinX12_two_X12 hown E.1 hP 0 (zO.get (oX12_at)) rfl 29 (by decide) (hts (.fieldLink RX12 79 "EdgeAndSpeedModel" "waitsTill" "[I") (by decide +kernel)) (fun _ h9 => h9) rfl dX12_two_274 ?_
                                  refine lv_iload hx hb dX12_two_277 (lv_at hl 0 rfl) ?_
                                  obtain ⟨g66, hf⟩ := zg_i hf
                                  refine va_iald hx hb E.1 hP 23 1 (zIA.get (aX12_29)) rfl g66 dX12_two_279 ?_
                                  refine lv_isub hx hb dX12_two_280 ?_
                                  refine lv_goto (tgt := 291) hx hb dX12_two_281 (by decide) ?_
                                  replace hf := hel28 _ (hdl28 _ (Option.some.inj hf).symm)
                                  exact hret _ _ hf _ _ _ _ hP hS dX12_two_291
                              · replace hf := zt k63 hf
                                refine lv_iload hx hb dX12_two_252 (lv_at hl 2 rfl) ?_
                                refine lv_aload_n hx hb dX12_two_254 rfl (lv_at hl 3 rfl) ?_
                                refine va_get (D := D) (ci := 11) (v := .ref (ad 22)) (C := RX12) (T := TX12) (N := 31) hx hb hts hinX12_two_X12 hown E.1 hP 0 (zO.get (oX12_at)) rfl 28 (by decide) (hts (.fieldLink RX12 76 "EdgeAndSpeedModel" "beganAt" "[I") (by decide +kernel)) (fun _ h9 => h9) rfl dX12_two_255 ?_
                                refine lv_iload hx hb dX12_two_258 (lv_at hl 0 rfl) ?_
                                obtain ⟨g67, hf⟩ := zg_i hf
                                refine va_iald hx hb E.1 hP 22 1 (zIA.get (aX12_28)) rfl g67 dX12_two_260 ?_
                                refine lv_isub hx hb dX12_two_261 ?_
                                refine lv_goto (tgt := 291) hx hb dX12_two_262 (by decide) ?_
                                replace hf := hel28 _ (hdl28 _ (Option.some.inj hf).symm)
                                exact hret _ _ hf _ _ _ _ hP hS dX12_two_291
                        · replace hf := zt k53 hf
                          refine lv_iload hx hb dX12_two_204 (lv_at hl 0 rfl) ?_
                          refine lv_iload_n hx hb dX12_two_206 rfl (lv_at hl 4 rfl) ?_
                          refine lv_iadd hx hb dX12_two_207 ?_
                          refine lv_topi (fun y68 ey68 => ?_)
                          replace hf := zn_s ey68 hf
                          refine lv_istore (lv' := [(7, .int y68), (8, .int y52), (0, .ref (ad 0)), (1, .int p1), (2, .int p2), (3, .int p3), (4, .int p4), (5, .int p5), (6, .int x29), (9, .int y47), (10, .int x38)]) hx hb dX12_two_208 hl (by decide) rfl (fun ls hl => ?_)
                          refine lv_goto (tgt := 310) hx hb dX12_two_210 (by decide) ?_
                          refine lv_goto (tgt := 121) hx hb dX12_two_310 (by decide) ?_
                          exact hcl28 _ (Option.some.inj hf).symm _ _ _ hP hS (lv_sub hl [2, 3, 4, 5, 6, 7, 8, 0, 1, 9] rfl)
                      refine lv_if_eq (tgt := 194) hx hb dX12_two_187 (by decide) (fun k48 => ?_) (fun k48 => ?_)
                      · replace hf := zt k48 hf
                        refine lv_iload hx hb dX12_two_194 (lv_at hl 6 rfl) ?_
                        exact hjr50 _ (Option.some.inj hf) _ _ _ hP hS (lv_sub hl [2, 3, 4, 5, 6, 7, 8, 9, 0, 10] rfl)
                      · replace hf := zf k48 hf
                        refine lv_iload_n hx hb dX12_two_190 rfl (lv_at hl 4 rfl) ?_
                        refine lv_goto (tgt := 196) hx hb dX12_two_191 (by decide) ?_
                        exact hjr50 _ (Option.some.inj hf) _ _ _ hP hS (lv_sub hl [2, 3, 4, 5, 6, 7, 8, 9, 0, 10] rfl)
                    refine lv_icmp_le (tgt := 169) hx hb dX12_two_161 (by decide) (fun k43 => ?_) (fun k43 => ?_)
                    · replace hf := zt k43 hf
                      refine lv_iload hx hb dX12_two_169 (lv_at hl 9 rfl) ?_
                      exact hjr45 _ (Option.some.inj hf) _ _ _ hP hS (lv_sub hl [1, 2, 3, 4, 5, 6, 7, 8, 10, 11, 0] rfl)
                    · replace hf := zf k43 hf
                      refine lv_iload hx hb dX12_two_164 (lv_at hl 0 rfl) ?_
                      refine lv_goto (tgt := 171) hx hb dX12_two_166 (by decide) ?_
                      exact hjr45 _ (Option.some.inj hf) _ _ _ hP hS (lv_sub hl [1, 2, 3, 4, 5, 6, 7, 8, 10, 11, 0] rfl)
                  refine lv_if_eq (tgt := 153) hx hb dX12_two_145 (by decide) (fun k39 => ?_) (fun k39 => ?_)
                  · replace hf := zt k39 hf
                    refine lv_iload hx hb dX12_two_153 (lv_at hl 8 rfl) ?_
                    exact hjr41 _ (Option.some.inj hf) _ _ _ hP hS (lv_sub hl [1, 2, 3, 4, 5, 6, 7, 8, 9, 10, 0] rfl)
                  · replace hf := zf k39 hf
                    refine lv_iload hx hb dX12_two_148 (lv_at hl 7 rfl) ?_
                    refine lv_goto (tgt := 155) hx hb dX12_two_150 (by decide) ?_
                    exact hjr41 _ (Option.some.inj hf) _ _ _ hP hS (lv_sub hl [1, 2, 3, 4, 5, 6, 7, 8, 9, 10, 0] rfl)
                refine lv_icmp_gt (tgt := 140) hx hb dX12_two_133 (by decide) (fun k35 => ?_) (fun k35 => ?_)
                · replace hf := zt k35 hf
                  refine lv_iconst (v := 0) hx hb dX12_two_140 (by decide) ?_
                  exact hjr37 _ (Option.some.inj hf) _ _ _ hP hS (lv_sub hl [0, 1, 2, 3, 4, 5, 6, 7, 8, 9] rfl)
                · replace hf := zf k35 hf
                  refine lv_iconst (v := 1) hx hb dX12_two_136 (by decide) ?_
                  refine lv_goto (tgt := 141) hx hb dX12_two_137 (by decide) ?_
                  exact hjr37 _ (Option.some.inj hf) _ _ _ hP hS (lv_sub hl [0, 1, 2, 3, 4, 5, 6, 7, 8, 9] rfl)
            refine zl_i (V := (Int32 × zI)) (P := fun v => ∀ (H : Heap) (locs : List Loc) (ls : Array Slot), va_P D vwCl (zw 25 (kM cy ad) ad v.2 J) H → va_S A s.heap H locs → lv_has ls 14 [(0, .ref (ad 0)), (1, .int p1), (2, .int p2), (3, .int p3), (4, .int p4), (5, .int p5), (6, .int (v.1))] → W p l e R s m args below meth c H locs 0 0 Q (F0 m 67 ls [])) ?_ _ _ hf _ _ _ hP hS (lv_sub hl [1, 2, 3, 4, 5, 6, 0] rfl)
            intro v z hf hcl16 hdl16
            obtain ⟨x17, I18⟩ := v
            intro H locs ls hP hS hl
            replace hf : f_X12_two_L67 x17 I18 = some z := hf
            unfold f_X12_two_L67 at hf
            replace hP : va_P D vwCl (zw 25 (kM cy ad) ad I18 J) H := hP
            replace hl : lv_has ls 14 [(0, .ref (ad 0)), (1, .int p1), (2, .int p2), (3, .int p3), (4, .int p4), (5, .int p5), (6, .int x17)] := hl
            refine lv_iload hx hb dX12_two_67 (lv_at hl 6 rfl) ?_
            refine lv_sipush (v := 130) hx hb dX12_two_69 (by decide) ?_
            refine lv_icmp_ge (tgt := 89) hx hb dX12_two_72 (by decide) (fun k19 => ?_) (fun k19 => ?_)
            · replace hf := zt k19 hf
              exact hjl16 _ (hdl16 _ (Option.some.inj hf).symm) _ _ _ hP hS (lv_sub hl [0, 1, 2, 3, 4, 5] rfl)
            · replace hf := zf k19 hf
              refine lv_aload_n hx hb dX12_two_75 rfl (lv_at hl 0 rfl) ?_
              refine va_get (D := D) (ci := 11) (v := .ref (ad 22)) (C := RX12) (T := TX12) (N := 31) hx hb hts hinX12_two_X12 hown E.1 hP 0 (zO.get (oX12_at)) rfl 28 (by decide) (hts (.fieldLink RX12 76 "EdgeAndSpeedModel" "beganAt" "[I") (by decide +kernel)) (fun _ h9 => h9) rfl dX12_two_76 ?_
              refine lv_iload hx hb dX12_two_79 (lv_at hl 6 rfl) ?_
              refine lv_iconst (v := (-1)) hx hb dX12_two_81 (by decide) ?_
              obtain ⟨g21, hf⟩ := zg_i hf
              obtain ⟨I20, eI20⟩ := zex (va_up I18 22 (upd (I18 22) x17.toNatClampNeg (-1)))
              replace hf := zn_s eI20 hf
              refine zast_i hx hb E.1 hP hD.D hS (aX12_28) g21 dX12_two_82 eI20 (fun H locs hP hS => ?_)
              obtain ⟨y22, ey22⟩ := zex (x17 + 1)
              replace hf := zn_s ey22 hf
              refine lv_iinc (v := y22) (lv' := [(6, .int y22), (0, .ref (ad 0)), (1, .int p1), (2, .int p2), (3, .int p3), (4, .int p4), (5, .int p5)]) hx hb dX12_two_83 hl (k := 6) rfl (by rw [ey22]; rfl) (by decide) rfl (fun ls hl => ?_)
              refine lv_goto (tgt := 67) hx hb dX12_two_86 (by decide) ?_
              exact hcl16 _ (Option.some.inj hf).symm _ _ _ hP hS (lv_sub hl [1, 2, 3, 4, 5, 6, 0] rfl)
          · replace hf := zt k15 hf
            refine lv_iconst (v := (-1)) hx hb dX12_two_62 (by decide) ?_
            exact hret _ _ hf _ _ _ _ hP hS dX12_two_63
theorem c_X12_two (l : Launch) {D : va_G} {a0 : Nat → Nat} {A : Nat → Prop} {cy : Nat → ClassId} {ad : Nat → Nat} (hD : zD A 25 ad) {I : zI} {J : zJ} (p1 : Int32) (p2 : Int32) (p3 : Int32) (p4 : Int32) (p5 : Int32) {rx : Int32} {rI : zI} (hf : f_X12_two I J p1 p2 p3 p4 p5 = some (rx, rI)) : Met l yX12_two wsX12_two { frames := 1, cells := 0, slots := 0, locals := 25 } (zPc D a0 A cy [.ref (ad 0), .int p1, .int p2, .int p3, .int p4, .int p5] (zw 25 (kM cy ad) ad I J)) (zQi D A rx (zw 25 (kM cy ad) ad rI J)) 0 0 A :=
  zmet RX12 (by decide) rfl rfl (Nat.le_of_ble_eq_true rfl) (fun p e R s m below meth c Q hfr hlo ls S0 hQ => w_X12_two hfr hlo hD p1 p2 p3 p4 p5 hf S0 (fun tx tI hq H locs ls pc hP hS hd => by cases hq; exact hQ H locs _ hS (fun hx hb hr hlocks hfree => W.iret hx hb hr (fun t ht hW => ⟨⟨_, (), rfl, rfl, zht ht hP⟩, hS.F ht⟩) hfree hd hlocks)))
theorem ddX12_two : yX12_two.cls = RX12 ∧ yX12_two.cls ≠ "java/lang/invoke/MethodHandle" ∧ yX12_two.cls ≠ "java/lang/invoke/VarHandle" ∧ (parseMethodDescriptor yX12_two.desc).map (fun d => d.parameters.length) = some 5 := by decide +kernel

def f_X12_whole (I : zI) (J : zJ) (p1 : Int32) (p2 : Int32) : Option Int32 := zb1 (f_X12_steps I J p1) (fun x1 => zb1 (f_X12_may I J p2 x1) (fun x3 => zg (x3 = 0 ∨ x3 = 1) (some x3)))
set_option maxHeartbeats 4000000 in
set_option maxRecDepth 100000 in
theorem w_X12_whole {p : Program} {l : Launch} {e : Env} {R : Room} {s : State} {m : MethodId} {args : Array Value} {below : List Frame} {meth : Method} {c : Code} {Q : State → Prop} (hfr : 1 ≤ R.frames) (hlo : 22 ≤ R.locals) {D : va_G} {a0 : Nat → Nat} {A : Nat → Prop} {cy : Nat → ClassId} {ad : Nat → Nat} (hD : zD A 25 ad) {I : zI} {J : zJ} (p1 : Int32) (p2 : Int32) {rx : Int32} (hf : f_X12_whole I J p1 p2 = some rx) {ls : Array Slot} (S0 : zSt p m c cX12_whole 3 s args wsX12_whole RX12 D a0 A cy (zw 25 (kM cy ad) ad I J) [.ref (ad 0), .int p1, .int p2] ls) (hret : ∀ (tx : Int32), some tx = some rx → (tx = 0 ∨ tx = 1) → ∀ (H : Heap) (locs : List Loc) (ls : Array Slot) (pc : Nat), va_P D vwCl (zw 25 (kM cy ad) ad I J) H → va_S A s.heap H locs → decode cX12_whole pc = .ok (.ireturn, 1) → W p l e R s m args below meth c H locs 0 0 Q (F0 m pc ls [.int tx])) : W p l e R s m args below meth c s.heap [] 0 0 Q (F0 m 0 ls []) := by
  obtain ⟨S, E, hP, hl⟩ := S0
  obtain ⟨hx, hb, hml, hown, hts⟩ := id S
  have hS : va_S A s.heap s.heap [] := va_S.rf
  replace hl : lv_has ls 3 [(0, .ref (ad 0)), (1, .int p1), (2, .int p2)] := hl
  unfold f_X12_whole at hf
  refine lv_aload_n hx hb dX12_whole_0 rfl (lv_at hl 0 rfl) ?_
  refine lv_iload_n hx hb dX12_whole_1 rfl (lv_at hl 2 rfl) ?_
  refine lv_aload_n hx hb dX12_whole_2 rfl (lv_at hl 0 rfl) ?_
  refine lv_iload_n hx hb dX12_whole_3 rfl (lv_at hl 1 rfl) ?_
  obtain ⟨x1, h2, hf⟩ := zb1_e hf
  refine zgo_i (zrunV (As := [.int p1]) (rest := [.int p2, .ref (ad 0)]) S (c_X12_steps l hD p1 h2) (cwV 1 hts gX12_whole_X12_steps rfl rfl rfl ddX12_steps ⟨Nat.le_trans (Nat.le_of_ble_eq_true rfl) hfr, Nat.le_trans (Nat.le_of_ble_eq_true rfl) hlo⟩) (va_recv E.1 hP (q := (RX12, TX12, 31)) (ci := 11) rfl (zO.get (oX12_at))) E hP hS hl.1 rfl rfl (Nat.le_of_ble_eq_true rfl) dX12_whole_4) hS (fun H locs hP hS => ?_)
  obtain ⟨x3, h4, hf⟩ := zb1_e hf
  refine zgo_i (zrunV (As := [.int p2, .int x1]) (rest := []) S (c_X12_may l hD p2 x1 h4) (cwV 2 hts gX12_whole_X12_may rfl rfl rfl ddX12_may ⟨Nat.le_trans (Nat.le_of_ble_eq_true rfl) hfr, Nat.le_trans (Nat.le_of_ble_eq_true rfl) hlo⟩) (va_recv E.1 hP (q := (RX12, TX12, 31)) (ci := 11) rfl (zO.get (oX12_at))) E hP hS hl.1 rfl rfl (Nat.le_of_ble_eq_true rfl) dX12_whole_7) hS (fun H locs hP hS => ?_)
  obtain ⟨g0, hf⟩ := zg_i hf
  exact hret _ hf g0 _ _ _ _ hP hS dX12_whole_10
theorem c_X12_whole (l : Launch) {D : va_G} {a0 : Nat → Nat} {A : Nat → Prop} {cy : Nat → ClassId} {ad : Nat → Nat} (hD : zD A 25 ad) {I : zI} {J : zJ} (p1 : Int32) (p2 : Int32) {rx : Int32} (hf : f_X12_whole I J p1 p2 = some rx) : Met l yX12_whole wsX12_whole { frames := 1, cells := 0, slots := 0, locals := 22 } (zPc D a0 A cy [.ref (ad 0), .int p1, .int p2] (zw 25 (kM cy ad) ad I J)) (zQi D A rx (zw 25 (kM cy ad) ad I J)) 0 0 A :=
  zmet RX12 (by decide) rfl rfl (Nat.le_of_ble_eq_true rfl) (fun p e R s m below meth c Q hfr hlo ls S0 hQ => w_X12_whole hfr hlo hD p1 p2 hf S0 (fun tx hq n01 H locs ls pc hP hS hd => by cases hq; exact hQ H locs _ hS (fun hx hb hr hlocks hfree => W.zret hx hb hr (z01 n01) (fun t ht hW => ⟨⟨_, (), rfl, rfl, zht ht hP⟩, hS.F ht⟩) hfree hd hlocks)))
theorem ddX12_whole : yX12_whole.cls = RX12 ∧ yX12_whole.cls ≠ "java/lang/invoke/MethodHandle" ∧ yX12_whole.cls ≠ "java/lang/invoke/VarHandle" ∧ (parseMethodDescriptor yX12_whole.desc).map (fun d => d.parameters.length) = some 2 := by decide +kernel

def f_X12_hundredths (I : zI) (J : zJ) (p1 : Int32) (p2 : Int32) : Option Int64 := zb1 (f_X12_minutes I J p1 p2) (fun x1 => zb1 (f_X12_steps I J p1) (fun x3 => zb1 (f_X12_wears I J p1 p2 x3 0) (fun x5 => zg (¬ ((0 : Int32) < 0 ∨ 10 ≤ (0 : Int32).toNatClampNeg)) (some (x1.toInt64 + (x5.toInt64 * (I 11 (0 : Int32).toNatClampNeg).toInt64))))))
theorem hinX12_hundredths_X12 : ∀ w ∈ u_ws RX12 TX12 31, w ∈ wsX12_hundredths := by decide +kernel
set_option maxHeartbeats 4000000 in
set_option maxRecDepth 100000 in
theorem w_X12_hundredths {p : Program} {l : Launch} {e : Env} {R : Room} {s : State} {m : MethodId} {args : Array Value} {below : List Frame} {meth : Method} {c : Code} {Q : State → Prop} (hfr : 1 ≤ R.frames) (hlo : 24 ≤ R.locals) {D : va_G} {a0 : Nat → Nat} {A : Nat → Prop} {cy : Nat → ClassId} {ad : Nat → Nat} (hD : zD A 25 ad) {I : zI} {J : zJ} (p1 : Int32) (p2 : Int32) {rx : Int64} (hf : f_X12_hundredths I J p1 p2 = some rx) {ls : Array Slot} (S0 : zSt p m c cX12_hundredths 3 s args wsX12_hundredths RX12 D a0 A cy (zw 25 (kM cy ad) ad I J) [.ref (ad 0), .int p1, .int p2] ls) (hret : ∀ (tx : Int64), some tx = some rx → ∀ (H : Heap) (locs : List Loc) (ls : Array Slot) (pc : Nat), va_P D vwCl (zw 25 (kM cy ad) ad I J) H → va_S A s.heap H locs → decode cX12_hundredths pc = .ok (.lreturn, 1) → W p l e R s m args below meth c H locs 0 0 Q (F0 m pc ls [.long tx])) : W p l e R s m args below meth c s.heap [] 0 0 Q (F0 m 0 ls []) := by
  obtain ⟨S, E, hP, hl⟩ := S0
  obtain ⟨hx, hb, hml, hown, hts⟩ := id S
  have hS : va_S A s.heap s.heap [] := va_S.rf
  replace hl : lv_has ls 3 [(0, .ref (ad 0)), (1, .int p1), (2, .int p2)] := hl
  unfold f_X12_hundredths at hf
  refine lv_aload_n hx hb dX12_hundredths_0 rfl (lv_at hl 0 rfl) ?_
  refine lv_iload_n hx hb dX12_hundredths_1 rfl (lv_at hl 1 rfl) ?_
  refine lv_iload_n hx hb dX12_hundredths_2 rfl (lv_at hl 2 rfl) ?_
  obtain ⟨x1, h2, hf⟩ := zb1_e hf
  refine zgo_i (zrunV (As := [.int p1, .int p2]) (rest := []) S (c_X12_minutes l hD p1 p2 h2) (cwV 2 hts gX12_hundredths_X12_minutes rfl rfl rfl ddX12_minutes ⟨Nat.le_trans (Nat.le_of_ble_eq_true rfl) hfr, Nat.le_trans (Nat.le_of_ble_eq_true rfl) hlo⟩) (va_recv E.1 hP (q := (RX12, TX12, 31)) (ci := 11) rfl (zO.get (oX12_at))) E hP hS hl.1 rfl rfl (Nat.le_of_ble_eq_true rfl) dX12_hundredths_3) hS (fun H locs hP hS => ?_)
  refine lv_i2l hx hb dX12_hundredths_6 rfl ?_
  refine lv_aload_n hx hb dX12_hundredths_7 rfl (lv_at hl 0 rfl) ?_
  refine lv_iload_n hx hb dX12_hundredths_8 rfl (lv_at hl 1 rfl) ?_
  refine lv_iload_n hx hb dX12_hundredths_9 rfl (lv_at hl 2 rfl) ?_
  refine lv_aload_n hx hb dX12_hundredths_10 rfl (lv_at hl 0 rfl) ?_
  refine lv_iload_n hx hb dX12_hundredths_11 rfl (lv_at hl 1 rfl) ?_
  obtain ⟨x3, h4, hf⟩ := zb1_e hf
  refine zgo_i (zrunV (As := [.int p1]) (rest := [.int p2, .int p1, .ref (ad 0), .long (x1.toInt64)]) S (c_X12_steps l hD p1 h4) (cwV 1 hts gX12_hundredths_X12_steps rfl rfl rfl ddX12_steps ⟨Nat.le_trans (Nat.le_of_ble_eq_true rfl) hfr, Nat.le_trans (Nat.le_of_ble_eq_true rfl) hlo⟩) (va_recv E.1 hP (q := (RX12, TX12, 31)) (ci := 11) rfl (zO.get (oX12_at))) E hP hS hl.1 rfl rfl (Nat.le_of_ble_eq_true rfl) dX12_hundredths_12) hS (fun H locs hP hS => ?_)
  refine lv_iconst (v := 0) hx hb dX12_hundredths_15 (by decide) ?_
  obtain ⟨x5, h6, hf⟩ := zb1_e hf
  refine zgo_i (zrunV (As := [.int p1, .int p2, .int x3, .int 0]) (rest := [.long (x1.toInt64)]) S (c_X12_wears l hD p1 p2 x3 0 h6) (cwV 4 hts gX12_hundredths_X12_wears rfl rfl rfl ddX12_wears ⟨Nat.le_trans (Nat.le_of_ble_eq_true rfl) hfr, Nat.le_trans (Nat.le_of_ble_eq_true rfl) hlo⟩) (va_recv E.1 hP (q := (RX12, TX12, 31)) (ci := 11) rfl (zO.get (oX12_at))) E hP hS hl.1 rfl rfl (Nat.le_of_ble_eq_true rfl) dX12_hundredths_16) hS (fun H locs hP hS => ?_)
  refine lv_i2l hx hb dX12_hundredths_19 rfl ?_
  refine lv_aload_n hx hb dX12_hundredths_20 rfl (lv_at hl 0 rfl) ?_
  refine va_get (D := D) (ci := 11) (v := .ref (ad 11)) (C := RX12) (T := TX12) (N := 31) hx hb hts hinX12_hundredths_X12 hown E.1 hP 0 (zO.get (oX12_at)) rfl 12 (by decide) (hts (.fieldLink RX12 41 "EdgeAndSpeedModel" "rest" "[I") (by decide +kernel)) (fun _ h9 => h9) rfl dX12_hundredths_21 ?_
  refine lv_iconst (v := 0) hx hb dX12_hundredths_24 (by decide) ?_
  obtain ⟨g7, hf⟩ := zg_i hf
  refine va_iald hx hb E.1 hP 11 1 (zIA.get (aX12_12)) rfl g7 dX12_hundredths_25 ?_
  refine lv_i2l hx hb dX12_hundredths_26 rfl ?_
  refine lv_lmul hx hb dX12_hundredths_27 ?_
  refine lv_ladd hx hb dX12_hundredths_28 ?_
  exact hret _ hf _ _ _ _ hP hS dX12_hundredths_29
theorem c_X12_hundredths (l : Launch) {D : va_G} {a0 : Nat → Nat} {A : Nat → Prop} {cy : Nat → ClassId} {ad : Nat → Nat} (hD : zD A 25 ad) {I : zI} {J : zJ} (p1 : Int32) (p2 : Int32) {rx : Int64} (hf : f_X12_hundredths I J p1 p2 = some rx) : Met l yX12_hundredths wsX12_hundredths { frames := 1, cells := 0, slots := 0, locals := 24 } (zPc D a0 A cy [.ref (ad 0), .int p1, .int p2] (zw 25 (kM cy ad) ad I J)) (zQl D A rx (zw 25 (kM cy ad) ad I J)) 0 0 A :=
  zmet RX12 (by decide) rfl rfl (Nat.le_of_ble_eq_true rfl) (fun p e R s m below meth c Q hfr hlo ls S0 hQ => w_X12_hundredths hfr hlo hD p1 p2 hf S0 (fun tx hq H locs ls pc hP hS hd => by cases hq; exact hQ H locs _ hS (fun hx hb hr hlocks hfree => W.lret hx hb hr (fun t ht hW => ⟨⟨_, (), rfl, rfl, zht ht hP⟩, hS.F ht⟩) hfree hd hlocks)))
theorem ddX12_hundredths : yX12_hundredths.cls = RX12 ∧ yX12_hundredths.cls ≠ "java/lang/invoke/MethodHandle" ∧ yX12_hundredths.cls ≠ "java/lang/invoke/VarHandle" ∧ (parseMethodDescriptor yX12_hundredths.desc).map (fun d => d.parameters.length) = some 2 := by decide +kernel

def f_X12_earnsOf (I : zI) (J : zJ) (p1 : Int32) (p2 : Int32) (p3 : Int32) : Option Int64 := zb1 (f_X12_hundredths I J p1 p2) (fun u1 => zb1 ((if (lg_cmp u1 (p3.toInt64)) ≤ 0 then some (p3.toInt64) else zb1 (f_X12_hundredths I J p1 p2) (fun u6 => some (u6))) : Option Int64) (fun u8 => zg (¬ (((4 * p1) + 3) < 0 ∨ 64 ≤ ((4 * p1) + 3).toNatClampNeg)) (zb1 (f_X12_steps I J p1) (fun x10 => zb1 (f_X12_wears I J p1 p2 x10 0) (fun x12 => zg (¬ ((1 : Int32) < 0 ∨ 10 ≤ (1 : Int32).toNatClampNeg)) (zn (((6000 * (I 6 ((4 * p1) + 3).toNatClampNeg).toInt64) - ((60 * x12.toInt64) * (I 11 (1 : Int32).toNatClampNeg).toInt64))) (fun u15 => zg (¬ u8 = 0) (zg (¬ ((2 : Int32) < 0 ∨ 10 ≤ (2 : Int32).toNatClampNeg)) (some (((u15 * 6000) / u8) - (6000 * (I 11 (2 : Int32).toNatClampNeg).toInt64)))))))))))
theorem hinX12_earnsOf_X12 : ∀ w ∈ u_ws RX12 TX12 31, w ∈ wsX12_earnsOf := by decide +kernel
set_option maxHeartbeats 4000000 in
set_option maxRecDepth 100000 in
theorem w_X12_earnsOf {p : Program} {l : Launch} {e : Env} {R : Room} {s : State} {m : MethodId} {args : Array Value} {below : List Frame} {meth : Method} {c : Code} {Q : State → Prop} (hfr : 2 ≤ R.frames) (hlo : 46 ≤ R.locals) {D : va_G} {a0 : Nat → Nat} {A : Nat → Prop} {cy : Nat → ClassId} {ad : Nat → Nat} (hD : zD A 25 ad) {I : zI} {J : zJ} (p1 : Int32) (p2 : Int32) (p3 : Int32) {rx : Int64} (hf : f_X12_earnsOf I J p1 p2 p3 = some rx) {ls : Array Slot} (S0 : zSt p m c cX12_earnsOf 8 s args wsX12_earnsOf RX12 D a0 A cy (zw 25 (kM cy ad) ad I J) [.ref (ad 0), .int p1, .int p2, .int p3] ls) (hret : ∀ (tx : Int64), some tx = some rx → ∀ (H : Heap) (locs : List Loc) (ls : Array Slot) (pc : Nat), va_P D vwCl (zw 25 (kM cy ad) ad I J) H → va_S A s.heap H locs → decode cX12_earnsOf pc = .ok (.lreturn, 1) → W p l e R s m args below meth c H locs 0 0 Q (F0 m pc ls [.long tx])) : W p l e R s m args below meth c s.heap [] 0 0 Q (F0 m 0 ls []) := by
  obtain ⟨S, E, hP, hl⟩ := S0
  obtain ⟨hx, hb, hml, hown, hts⟩ := id S
  have hS : va_S A s.heap s.heap [] := va_S.rf
  replace hl : lv_has ls 8 [(0, .ref (ad 0)), (1, .int p1), (2, .int p2), (3, .int p3)] := hl
  unfold f_X12_earnsOf at hf
  refine lv_aload_n hx hb dX12_earnsOf_0 rfl (lv_at hl 0 rfl) ?_
  refine lv_iload_n hx hb dX12_earnsOf_1 rfl (lv_at hl 1 rfl) ?_
  refine lv_iload_n hx hb dX12_earnsOf_2 rfl (lv_at hl 2 rfl) ?_
  obtain ⟨u1, h2, hf⟩ := zb1_e hf
  refine zgo_l (zrunV (As := [.int p1, .int p2]) (rest := []) S (c_X12_hundredths l hD p1 p2 h2) (cwV 2 hts gX12_earnsOf_X12_hundredths rfl rfl rfl ddX12_hundredths ⟨Nat.le_trans (Nat.le_of_ble_eq_true rfl) hfr, Nat.le_trans (Nat.le_of_ble_eq_true rfl) hlo⟩) (va_recv E.1 hP (q := (RX12, TX12, 31)) (ci := 11) rfl (zO.get (oX12_at))) E hP hS hl.1 rfl rfl (Nat.le_of_ble_eq_true rfl) dX12_earnsOf_3) hS (fun H locs hP hS => ?_)
  refine lv_iload_n hx hb dX12_earnsOf_6 rfl (lv_at hl 3 rfl) ?_
  refine lv_i2l hx hb dX12_earnsOf_7 rfl ?_
  refine W.lcmp hx hb dX12_earnsOf_8 ?_
  obtain ⟨zr5, hf, hzr5⟩ := zb1_i hf
  have hjr5 : ∀ (u8 : Int64), u8 = zr5 → ∀ (H : Heap) (locs : List Loc) (ls : Array Slot), va_P D vwCl (zw 25 (kM cy ad) ad I J) H → va_S A s.heap H locs → lv_has ls 8 [(0, .ref (ad 0)), (1, .int p1), (2, .int p2)] → W p l e R s m args below meth c H locs 0 0 Q (F0 m 23 ls [.long u8]) := by
    intro u8 ez H locs ls hP hS hl
    have hf := hzr5 u8 ez
    refine lv_lstore (lv' := [(4, .long u8), (0, .ref (ad 0)), (1, .int p1), (2, .int p2)]) hx hb dX12_earnsOf_23 hl (by decide) rfl (fun ls hl => ?_)
    refine lv_ldc2 hx hb hown (hts (.constantLong RX12 191 6000) (by decide +kernel)) dX12_earnsOf_25 ?_
    refine lv_aload_n hx hb dX12_earnsOf_28 rfl (lv_at hl 1 rfl) ?_
    refine va_get (D := D) (ci := 11) (v := .ref (ad 6)) (C := RX12) (T := TX12) (N := 31) hx hb hts hinX12_earnsOf_X12 hown E.1 hP 0 (zO.get (oX12_at)) rfl 7 (by decide) (hts (.fieldLink RX12 26 "EdgeAndSpeedModel" "piece" "[I") (by decide +kernel)) (fun _ h9 => h9) rfl dX12_earnsOf_29 ?_
    refine lv_iconst (v := 4) hx hb dX12_earnsOf_32 (by decide) ?_
    refine lv_iload_n hx hb dX12_earnsOf_33 rfl (lv_at hl 2 rfl) ?_
    refine lv_imul hx hb dX12_earnsOf_34 ?_
    refine lv_iconst (v := 3) hx hb dX12_earnsOf_35 (by decide) ?_
    refine lv_iadd hx hb dX12_earnsOf_36 ?_
    obtain ⟨g9, hf⟩ := zg_i hf
    refine va_iald hx hb E.1 hP 6 1 (zIA.get (aX12_7)) rfl g9 dX12_earnsOf_37 ?_
    refine lv_i2l hx hb dX12_earnsOf_38 rfl ?_
    refine lv_lmul hx hb dX12_earnsOf_39 ?_
    refine lv_ldc2 hx hb hown (hts (.constantLong RX12 274 60) (by decide +kernel)) dX12_earnsOf_40 ?_
    refine lv_aload_n hx hb dX12_earnsOf_43 rfl (lv_at hl 1 rfl) ?_
    refine lv_iload_n hx hb dX12_earnsOf_44 rfl (lv_at hl 2 rfl) ?_
    refine lv_iload_n hx hb dX12_earnsOf_45 rfl (lv_at hl 3 rfl) ?_
    refine lv_aload_n hx hb dX12_earnsOf_46 rfl (lv_at hl 1 rfl) ?_
    refine lv_iload_n hx hb dX12_earnsOf_47 rfl (lv_at hl 2 rfl) ?_
    obtain ⟨x10, h11, hf⟩ := zb1_e hf
    refine zgo_i (zrunV (As := [.int p1]) (rest := [.int p2, .int p1, .ref (ad 0), .long 60, .long (6000 * (I 6 ((4 * p1) + 3).toNatClampNeg).toInt64)]) S (c_X12_steps l hD p1 h11) (cwV 1 hts gX12_earnsOf_X12_steps rfl rfl rfl ddX12_steps ⟨Nat.le_trans (Nat.le_of_ble_eq_true rfl) hfr, Nat.le_trans (Nat.le_of_ble_eq_true rfl) hlo⟩) (va_recv E.1 hP (q := (RX12, TX12, 31)) (ci := 11) rfl (zO.get (oX12_at))) E hP hS hl.1 rfl rfl (Nat.le_of_ble_eq_true rfl) dX12_earnsOf_48) hS (fun H locs hP hS => ?_)
    refine lv_iconst (v := 0) hx hb dX12_earnsOf_51 (by decide) ?_
    obtain ⟨x12, h13, hf⟩ := zb1_e hf
    refine zgo_i (zrunV (As := [.int p1, .int p2, .int x10, .int 0]) (rest := [.long 60, .long (6000 * (I 6 ((4 * p1) + 3).toNatClampNeg).toInt64)]) S (c_X12_wears l hD p1 p2 x10 0 h13) (cwV 4 hts gX12_earnsOf_X12_wears rfl rfl rfl ddX12_wears ⟨Nat.le_trans (Nat.le_of_ble_eq_true rfl) hfr, Nat.le_trans (Nat.le_of_ble_eq_true rfl) hlo⟩) (va_recv E.1 hP (q := (RX12, TX12, 31)) (ci := 11) rfl (zO.get (oX12_at))) E hP hS hl.1 rfl rfl (Nat.le_of_ble_eq_true rfl) dX12_earnsOf_52) hS (fun H locs hP hS => ?_)
    refine lv_i2l hx hb dX12_earnsOf_55 rfl ?_
    refine lv_lmul hx hb dX12_earnsOf_56 ?_
    refine lv_aload_n hx hb dX12_earnsOf_57 rfl (lv_at hl 1 rfl) ?_
    refine va_get (D := D) (ci := 11) (v := .ref (ad 11)) (C := RX12) (T := TX12) (N := 31) hx hb hts hinX12_earnsOf_X12 hown E.1 hP 0 (zO.get (oX12_at)) rfl 12 (by decide) (hts (.fieldLink RX12 41 "EdgeAndSpeedModel" "rest" "[I") (by decide +kernel)) (fun _ h9 => h9) rfl dX12_earnsOf_58 ?_
    refine lv_iconst (v := 1) hx hb dX12_earnsOf_61 (by decide) ?_
    obtain ⟨g14, hf⟩ := zg_i hf
    refine va_iald hx hb E.1 hP 11 1 (zIA.get (aX12_12)) rfl g14 dX12_earnsOf_62 ?_
    refine lv_i2l hx hb dX12_earnsOf_63 rfl ?_
    refine lv_lmul hx hb dX12_earnsOf_64 ?_
    refine lv_lsub hx hb dX12_earnsOf_65 ?_
    refine lv_topl (fun u15 eu15 => ?_)
    replace hf := zn_s eu15 hf
    refine lv_lstore (lv' := [(6, .long u15), (4, .long u8), (0, .ref (ad 0)), (1, .int p1), (2, .int p2)]) hx hb dX12_earnsOf_66 hl (by decide) rfl (fun ls hl => ?_)
    refine lv_lload hx hb dX12_earnsOf_68 (lv_at hl 0 rfl) ?_
    refine lv_ldc2 hx hb hown (hts (.constantLong RX12 191 6000) (by decide +kernel)) dX12_earnsOf_70 ?_
    refine lv_lmul hx hb dX12_earnsOf_73 ?_
    refine lv_lload hx hb dX12_earnsOf_74 (lv_at hl 1 rfl) ?_
    obtain ⟨g16, hf⟩ := zg_i hf
    refine lv_ldiv hx hb dX12_earnsOf_76 g16 ?_
    refine lv_ldc2 hx hb hown (hts (.constantLong RX12 191 6000) (by decide +kernel)) dX12_earnsOf_77 ?_
    refine lv_aload_n hx hb dX12_earnsOf_80 rfl (lv_at hl 2 rfl) ?_
    refine va_get (D := D) (ci := 11) (v := .ref (ad 11)) (C := RX12) (T := TX12) (N := 31) hx hb hts hinX12_earnsOf_X12 hown E.1 hP 0 (zO.get (oX12_at)) rfl 12 (by decide) (hts (.fieldLink RX12 41 "EdgeAndSpeedModel" "rest" "[I") (by decide +kernel)) (fun _ h9 => h9) rfl dX12_earnsOf_81 ?_
    refine lv_iconst (v := 2) hx hb dX12_earnsOf_84 (by decide) ?_
    obtain ⟨g17, hf⟩ := zg_i hf
    refine va_iald hx hb E.1 hP 11 1 (zIA.get (aX12_12)) rfl g17 dX12_earnsOf_85 ?_
    refine lv_i2l hx hb dX12_earnsOf_86 rfl ?_
    refine lv_lmul hx hb dX12_earnsOf_87 ?_
    refine lv_lsub hx hb dX12_earnsOf_88 ?_
    exact hret _ hf _ _ _ _ hP hS dX12_earnsOf_89
  refine lv_if_le (tgt := 21) hx hb dX12_earnsOf_9 (by decide) (fun k3 => ?_) (fun k3 => ?_)
  · replace hf := zt k3 hf
    refine lv_iload_n hx hb dX12_earnsOf_21 rfl (lv_at hl 3 rfl) ?_
    refine lv_i2l hx hb dX12_earnsOf_22 rfl ?_
    exact hjr5 _ (Option.some.inj hf) _ _ _ hP hS (lv_sub hl [0, 1, 2] rfl)
  · replace hf := zf k3 hf
    refine lv_aload_n hx hb dX12_earnsOf_12 rfl (lv_at hl 0 rfl) ?_
    refine lv_iload_n hx hb dX12_earnsOf_13 rfl (lv_at hl 1 rfl) ?_
    refine lv_iload_n hx hb dX12_earnsOf_14 rfl (lv_at hl 2 rfl) ?_
    obtain ⟨u6, h7, hf⟩ := zb1_e hf
    refine zgo_l (zrunV (As := [.int p1, .int p2]) (rest := []) S (c_X12_hundredths l hD p1 p2 h7) (cwV 2 hts gX12_earnsOf_X12_hundredths rfl rfl rfl ddX12_hundredths ⟨Nat.le_trans (Nat.le_of_ble_eq_true rfl) hfr, Nat.le_trans (Nat.le_of_ble_eq_true rfl) hlo⟩) (va_recv E.1 hP (q := (RX12, TX12, 31)) (ci := 11) rfl (zO.get (oX12_at))) E hP hS hl.1 rfl rfl (Nat.le_of_ble_eq_true rfl) dX12_earnsOf_15) hS (fun H locs hP hS => ?_)
    refine lv_goto (tgt := 23) hx hb dX12_earnsOf_18 (by decide) ?_
    exact hjr5 _ (Option.some.inj hf) _ _ _ hP hS (lv_sub hl [0, 1, 2] rfl)
theorem c_X12_earnsOf (l : Launch) {D : va_G} {a0 : Nat → Nat} {A : Nat → Prop} {cy : Nat → ClassId} {ad : Nat → Nat} (hD : zD A 25 ad) {I : zI} {J : zJ} (p1 : Int32) (p2 : Int32) (p3 : Int32) {rx : Int64} (hf : f_X12_earnsOf I J p1 p2 p3 = some rx) : Met l yX12_earnsOf wsX12_earnsOf { frames := 2, cells := 0, slots := 0, locals := 46 } (zPc D a0 A cy [.ref (ad 0), .int p1, .int p2, .int p3] (zw 25 (kM cy ad) ad I J)) (zQl D A rx (zw 25 (kM cy ad) ad I J)) 0 0 A :=
  zmet RX12 (by decide) rfl rfl (Nat.le_of_ble_eq_true rfl) (fun p e R s m below meth c Q hfr hlo ls S0 hQ => w_X12_earnsOf hfr hlo hD p1 p2 p3 hf S0 (fun tx hq H locs ls pc hP hS hd => by cases hq; exact hQ H locs _ hS (fun hx hb hr hlocks hfree => W.lret hx hb hr (fun t ht hW => ⟨⟨_, (), rfl, rfl, zht ht hP⟩, hS.F ht⟩) hfree hd hlocks)))
theorem ddX12_earnsOf : yX12_earnsOf.cls = RX12 ∧ yX12_earnsOf.cls ≠ "java/lang/invoke/MethodHandle" ∧ yX12_earnsOf.cls ≠ "java/lang/invoke/VarHandle" ∧ (parseMethodDescriptor yX12_earnsOf.desc).map (fun d => d.parameters.length) = some 3 := by decide +kernel

def f_X12_earns (I : zI) (J : zJ) (p1 : Int32) (p2 : Int32) (p3 : Int32) : Option Int64 := zb1 (f_X12_isPiece I J p1) (fun x1 => (if x1 = 0 then some (-9223372036854775808) else zb1 (f_X12_isSpeed I J p2) (fun x4 => (if x4 = 0 then some (-9223372036854775808) else zb1 (f_X12_in I J (p3.toInt64) 1 9999) (fun x7 => (if x7 = 0 then some (-9223372036854775808) else zb1 (f_X12_whole I J p1 p2) (fun x10 => (if x10 = 0 then some (-9223372036854775806) else zb1 (f_X12_earnsOf I J p1 p2 p3) (fun u13 => some u13)))))))))
set_option maxHeartbeats 4000000 in
set_option maxRecDepth 100000 in
theorem w_X12_earns {p : Program} {l : Launch} {e : Env} {R : Room} {s : State} {m : MethodId} {args : Array Value} {below : List Frame} {meth : Method} {c : Code} {Q : State → Prop} (hfr : 3 ≤ R.frames) (hlo : 73 ≤ R.locals) {D : va_G} {a0 : Nat → Nat} {A : Nat → Prop} {cy : Nat → ClassId} {ad : Nat → Nat} (hD : zD A 25 ad) {I : zI} {J : zJ} (p1 : Int32) (p2 : Int32) (p3 : Int32) {rx : Int64} (hf : f_X12_earns I J p1 p2 p3 = some rx) {ls : Array Slot} (S0 : zSt p m c cX12_earns 4 s args wsX12_earns RX12 D a0 A cy (zw 25 (kM cy ad) ad I J) [.ref (ad 0), .int p1, .int p2, .int p3] ls) (hret : ∀ (tx : Int64), some tx = some rx → ∀ (H : Heap) (locs : List Loc) (ls : Array Slot) (pc : Nat), va_P D vwCl (zw 25 (kM cy ad) ad I J) H → va_S A s.heap H locs → decode cX12_earns pc = .ok (.lreturn, 1) → W p l e R s m args below meth c H locs 0 0 Q (F0 m pc ls [.long tx])) : W p l e R s m args below meth c s.heap [] 0 0 Q (F0 m 0 ls []) := by
  obtain ⟨S, E, hP, hl⟩ := S0
  obtain ⟨hx, hb, hml, hown, hts⟩ := id S
  have hS : va_S A s.heap s.heap [] := va_S.rf
  replace hl : lv_has ls 4 [(0, .ref (ad 0)), (1, .int p1), (2, .int p2), (3, .int p3)] := hl
  unfold f_X12_earns at hf
  refine lv_aload_n hx hb dX12_earns_0 rfl (lv_at hl 0 rfl) ?_
  refine lv_iload_n hx hb dX12_earns_1 rfl (lv_at hl 1 rfl) ?_
  obtain ⟨x1, h2, hf⟩ := zb1_e hf
  refine zgo_i (zrunV (As := [.int p1]) (rest := []) S (c_X12_isPiece l hD p1 h2) (cwV 1 hts gX12_earns_X12_isPiece rfl rfl rfl ddX12_isPiece ⟨Nat.le_trans (Nat.le_of_ble_eq_true rfl) hfr, Nat.le_trans (Nat.le_of_ble_eq_true rfl) hlo⟩) (va_recv E.1 hP (q := (RX12, TX12, 31)) (ci := 11) rfl (zO.get (oX12_at))) E hP hS hl.1 rfl rfl (Nat.le_of_ble_eq_true rfl) dX12_earns_2) hS (fun H locs hP hS => ?_)
  refine lv_if_eq (tgt := 28) hx hb dX12_earns_5 (by decide) (fun k3 => ?_) (fun k3 => ?_)
  · replace hf := zt k3 hf
    refine lv_ldc2 hx hb hown (hts (.constantLong RX12 238 (-9223372036854775808)) (by decide +kernel)) dX12_earns_28 ?_
    exact hret _ hf _ _ _ _ hP hS dX12_earns_31
  · replace hf := zf k3 hf
    refine lv_aload_n hx hb dX12_earns_8 rfl (lv_at hl 0 rfl) ?_
    refine lv_iload_n hx hb dX12_earns_9 rfl (lv_at hl 2 rfl) ?_
    obtain ⟨x4, h5, hf⟩ := zb1_e hf
    refine zgo_i (zrunV (As := [.int p2]) (rest := []) S (c_X12_isSpeed l hD p2 h5) (cwV 1 hts gX12_earns_X12_isSpeed rfl rfl rfl ddX12_isSpeed ⟨Nat.le_trans (Nat.le_of_ble_eq_true rfl) hfr, Nat.le_trans (Nat.le_of_ble_eq_true rfl) hlo⟩) (va_recv E.1 hP (q := (RX12, TX12, 31)) (ci := 11) rfl (zO.get (oX12_at))) E hP hS hl.1 rfl rfl (Nat.le_of_ble_eq_true rfl) dX12_earns_10) hS (fun H locs hP hS => ?_)
    refine lv_if_eq (tgt := 28) hx hb dX12_earns_13 (by decide) (fun k6 => ?_) (fun k6 => ?_)
    · replace hf := zt k6 hf
      refine lv_ldc2 hx hb hown (hts (.constantLong RX12 238 (-9223372036854775808)) (by decide +kernel)) dX12_earns_28 ?_
      exact hret _ hf _ _ _ _ hP hS dX12_earns_31
    · replace hf := zf k6 hf
      refine lv_iload_n hx hb dX12_earns_16 rfl (lv_at hl 3 rfl) ?_
      refine lv_i2l hx hb dX12_earns_17 rfl ?_
      refine lv_lconst (v := 1) hx hb dX12_earns_18 (by decide) ?_
      refine lv_ldc2 hx hb hown (hts (.constantLong RX12 276 9999) (by decide +kernel)) dX12_earns_19 ?_
      obtain ⟨x7, h8, hf⟩ := zb1_e hf
      refine zgo_i (zrunS (As := [.long (p3.toInt64), .long 1, .long 9999]) (rest := []) S (c_X12_in l hD (p3.toInt64) 1 9999 h8) (va_cwS 3 hts gX12_earns_X12_in rfl rfl rfl ddX12_in ⟨Nat.le_trans (Nat.le_of_ble_eq_true rfl) hfr, Nat.le_trans (Nat.le_of_ble_eq_true rfl) hlo⟩) E hP hS hl.1 rfl rfl (Nat.le_of_ble_eq_true rfl) dX12_earns_22) hS (fun H locs hP hS => ?_)
      refine lv_if_ne (tgt := 32) hx hb dX12_earns_25 (by decide) (fun k9 => ?_) (fun k9 => ?_)
      · replace hf := zf k9 hf
        refine lv_aload_n hx hb dX12_earns_32 rfl (lv_at hl 0 rfl) ?_
        refine lv_iload_n hx hb dX12_earns_33 rfl (lv_at hl 1 rfl) ?_
        refine lv_iload_n hx hb dX12_earns_34 rfl (lv_at hl 2 rfl) ?_
        obtain ⟨x10, h11, hf⟩ := zb1_e hf
        refine zgo_i (zrunV (As := [.int p1, .int p2]) (rest := []) S (c_X12_whole l hD p1 p2 h11) (cwV 2 hts gX12_earns_X12_whole rfl rfl rfl ddX12_whole ⟨Nat.le_trans (Nat.le_of_ble_eq_true rfl) hfr, Nat.le_trans (Nat.le_of_ble_eq_true rfl) hlo⟩) (va_recv E.1 hP (q := (RX12, TX12, 31)) (ci := 11) rfl (zO.get (oX12_at))) E hP hS hl.1 rfl rfl (Nat.le_of_ble_eq_true rfl) dX12_earns_35) hS (fun H locs hP hS => ?_)
        refine lv_if_eq (tgt := 51) hx hb dX12_earns_38 (by decide) (fun k12 => ?_) (fun k12 => ?_)
        · replace hf := zt k12 hf
          refine lv_ldc2 hx hb hown (hts (.constantLong RX12 285 (-9223372036854775806)) (by decide +kernel)) dX12_earns_51 ?_
          exact hret _ hf _ _ _ _ hP hS dX12_earns_54
        · replace hf := zf k12 hf
          refine lv_aload_n hx hb dX12_earns_41 rfl (lv_at hl 0 rfl) ?_
          refine lv_iload_n hx hb dX12_earns_42 rfl (lv_at hl 1 rfl) ?_
          refine lv_iload_n hx hb dX12_earns_43 rfl (lv_at hl 2 rfl) ?_
          refine lv_iload_n hx hb dX12_earns_44 rfl (lv_at hl 3 rfl) ?_
          obtain ⟨u13, h14, hf⟩ := zb1_e hf
          refine zgo_l (zrunV (As := [.int p1, .int p2, .int p3]) (rest := []) S (c_X12_earnsOf l hD p1 p2 p3 h14) (cwV 3 hts gX12_earns_X12_earnsOf rfl rfl rfl ddX12_earnsOf ⟨Nat.le_trans (Nat.le_of_ble_eq_true rfl) hfr, Nat.le_trans (Nat.le_of_ble_eq_true rfl) hlo⟩) (va_recv E.1 hP (q := (RX12, TX12, 31)) (ci := 11) rfl (zO.get (oX12_at))) E hP hS hl.1 rfl rfl (Nat.le_of_ble_eq_true rfl) dX12_earns_45) hS (fun H locs hP hS => ?_)
          refine lv_goto (tgt := 54) hx hb dX12_earns_48 (by decide) ?_
          exact hret _ hf _ _ _ _ hP hS dX12_earns_54
      · replace hf := zt k9 hf
        refine lv_ldc2 hx hb hown (hts (.constantLong RX12 238 (-9223372036854775808)) (by decide +kernel)) dX12_earns_28 ?_
        exact hret _ hf _ _ _ _ hP hS dX12_earns_31
theorem c_X12_earns (l : Launch) {D : va_G} {a0 : Nat → Nat} {A : Nat → Prop} {cy : Nat → ClassId} {ad : Nat → Nat} (hD : zD A 25 ad) {I : zI} {J : zJ} (p1 : Int32) (p2 : Int32) (p3 : Int32) {rx : Int64} (hf : f_X12_earns I J p1 p2 p3 = some rx) : Met l yX12_earns wsX12_earns { frames := 3, cells := 0, slots := 0, locals := 73 } (zPc D a0 A cy [.ref (ad 0), .int p1, .int p2, .int p3] (zw 25 (kM cy ad) ad I J)) (zQl D A rx (zw 25 (kM cy ad) ad I J)) 0 0 A :=
  zmet RX12 (by decide) rfl rfl (Nat.le_of_ble_eq_true rfl) (fun p e R s m below meth c Q hfr hlo ls S0 hQ => w_X12_earns hfr hlo hD p1 p2 p3 hf S0 (fun tx hq H locs ls pc hP hS hd => by cases hq; exact hQ H locs _ hS (fun hx hb hr hlocks hfree => W.lret hx hb hr (fun t ht hW => ⟨⟨_, (), rfl, rfl, zht ht hP⟩, hS.F ht⟩) hfree hd hlocks)))
theorem ddX12_earns : yX12_earns.cls = RX12 ∧ yX12_earns.cls ≠ "java/lang/invoke/MethodHandle" ∧ yX12_earns.cls ≠ "java/lang/invoke/VarHandle" ∧ (parseMethodDescriptor yX12_earns.desc).map (fun d => d.parameters.length) = some 3 := by decide +kernel

def f_X12_shop_L28 (I : zI) (J : zJ) (p1 : Int32) (p2 : Int32) (x8 : Int32) (x9 : Int32) : Option ((Int32 × Int32) ⊕ Int32) := zg (¬ ((0 : Int32) < 0 ∨ 2 ≤ (0 : Int32).toNatClampNeg)) ((if (I 3 (0 : Int32).toNatClampNeg) ≤ x9 then some (.inr x8) else zb1 (f_X12_whole I J p1 x9) (fun x12 => (if x12 = 0 then zn (x9 + 1) (fun y15 => some (.inl (x8, y15))) else (if x8 < 0 then zn (x9 + 1) (fun y17 => some (.inl (x9, y17))) else zb1 (f_X12_earnsOf I J p1 x9 p2) (fun u18 => zb1 (f_X12_earnsOf I J p1 x8 p2) (fun u20 => (if (lg_cmp u18 u20) ≤ 0 then zn (x9 + 1) (fun y23 => some (.inl (x8, y23))) else zn (x9 + 1) (fun y24 => some (.inl (x9, y24)))))))))))
def f_X12_shop (I : zI) (J : zJ) (p1 : Int32) (p2 : Int32) : Option Int32 := zb1 (f_X12_isPiece I J p1) (fun x1 => (if x1 = 0 then some (-1) else zb1 (f_X12_in I J (p2.toInt64) 1 9999) (fun x4 => (if x4 = 0 then some (-1) else zb1 (zl (fun v : (Int32 × Int32) => f_X12_shop_L28 I J p1 p2 v.1 v.2) zF ((-4), 0)) (fun x25 => some x25)))))
theorem hinX12_shop_X12 : ∀ w ∈ u_ws RX12 TX12 31, w ∈ wsX12_shop := by decide +kernel
set_option maxHeartbeats 4000000 in
set_option maxRecDepth 100000 in
theorem w_X12_shop {p : Program} {l : Launch} {e : Env} {R : Room} {s : State} {m : MethodId} {args : Array Value} {below : List Frame} {meth : Method} {c : Code} {Q : State → Prop} (hfr : 3 ≤ R.frames) (hlo : 73 ≤ R.locals) {D : va_G} {a0 : Nat → Nat} {A : Nat → Prop} {cy : Nat → ClassId} {ad : Nat → Nat} (hD : zD A 25 ad) {I : zI} {J : zJ} (p1 : Int32) (p2 : Int32) {rx : Int32} (hf : f_X12_shop I J p1 p2 = some rx) {ls : Array Slot} (S0 : zSt p m c cX12_shop 5 s args wsX12_shop RX12 D a0 A cy (zw 25 (kM cy ad) ad I J) [.ref (ad 0), .int p1, .int p2] ls) (hret : ∀ (tx : Int32), some tx = some rx → ∀ (H : Heap) (locs : List Loc) (ls : Array Slot) (pc : Nat), va_P D vwCl (zw 25 (kM cy ad) ad I J) H → va_S A s.heap H locs → decode cX12_shop pc = .ok (.ireturn, 1) → W p l e R s m args below meth c H locs 0 0 Q (F0 m pc ls [.int tx])) : W p l e R s m args below meth c s.heap [] 0 0 Q (F0 m 0 ls []) := by
  obtain ⟨S, E, hP, hl⟩ := S0
  obtain ⟨hx, hb, hml, hown, hts⟩ := id S
  have hS : va_S A s.heap s.heap [] := va_S.rf
  replace hl : lv_has ls 5 [(0, .ref (ad 0)), (1, .int p1), (2, .int p2)] := hl
  unfold f_X12_shop at hf
  refine lv_aload_n hx hb dX12_shop_0 rfl (lv_at hl 0 rfl) ?_
  refine lv_iload_n hx hb dX12_shop_1 rfl (lv_at hl 1 rfl) ?_
  obtain ⟨x1, h2, hf⟩ := zb1_e hf
  refine zgo_i (zrunV (As := [.int p1]) (rest := []) S (c_X12_isPiece l hD p1 h2) (cwV 1 hts gX12_shop_X12_isPiece rfl rfl rfl ddX12_isPiece ⟨Nat.le_trans (Nat.le_of_ble_eq_true rfl) hfr, Nat.le_trans (Nat.le_of_ble_eq_true rfl) hlo⟩) (va_recv E.1 hP (q := (RX12, TX12, 31)) (ci := 11) rfl (zO.get (oX12_at))) E hP hS hl.1 rfl rfl (Nat.le_of_ble_eq_true rfl) dX12_shop_2) hS (fun H locs hP hS => ?_)
  refine lv_if_eq (tgt := 20) hx hb dX12_shop_5 (by decide) (fun k3 => ?_) (fun k3 => ?_)
  · replace hf := zt k3 hf
    refine lv_iconst (v := (-1)) hx hb dX12_shop_20 (by decide) ?_
    exact hret _ hf _ _ _ _ hP hS dX12_shop_21
  · replace hf := zf k3 hf
    refine lv_iload_n hx hb dX12_shop_8 rfl (lv_at hl 2 rfl) ?_
    refine lv_i2l hx hb dX12_shop_9 rfl ?_
    refine lv_lconst (v := 1) hx hb dX12_shop_10 (by decide) ?_
    refine lv_ldc2 hx hb hown (hts (.constantLong RX12 276 9999) (by decide +kernel)) dX12_shop_11 ?_
    obtain ⟨x4, h5, hf⟩ := zb1_e hf
    refine zgo_i (zrunS (As := [.long (p2.toInt64), .long 1, .long 9999]) (rest := []) S (c_X12_in l hD (p2.toInt64) 1 9999 h5) (va_cwS 3 hts gX12_shop_X12_in rfl rfl rfl ddX12_in ⟨Nat.le_trans (Nat.le_of_ble_eq_true rfl) hfr, Nat.le_trans (Nat.le_of_ble_eq_true rfl) hlo⟩) E hP hS hl.1 rfl rfl (Nat.le_of_ble_eq_true rfl) dX12_shop_14) hS (fun H locs hP hS => ?_)
    refine lv_if_ne (tgt := 22) hx hb dX12_shop_17 (by decide) (fun k6 => ?_) (fun k6 => ?_)
    · replace hf := zf k6 hf
      refine lv_bipush (v := (-4)) hx hb dX12_shop_22 (by decide) ?_
      refine lv_istore_n (lv' := [(3, .int (-4)), (0, .ref (ad 0)), (1, .int p1), (2, .int p2)]) hx hb dX12_shop_24 rfl hl (by decide) rfl (fun ls hl => ?_)
      refine lv_iconst (v := 0) hx hb dX12_shop_25 (by decide) ?_
      refine lv_istore (lv' := [(4, .int 0), (3, .int (-4)), (0, .ref (ad 0)), (1, .int p1), (2, .int p2)]) hx hb dX12_shop_26 hl (by decide) rfl (fun ls hl => ?_)
      obtain ⟨zl7, hf, hzl7⟩ := zb1_i hf
      have hjl7 : ∀ (x25 : Int32), x25 = zl7 → ∀ (H : Heap) (locs : List Loc) (ls : Array Slot), va_P D vwCl (zw 25 (kM cy ad) ad I J) H → va_S A s.heap H locs → lv_has ls 5 [(3, .int x25)] → W p l e R s m args below meth c H locs 0 0 Q (F0 m 85 ls []) := by
        intro x25 ez H locs ls hP hS hl
        have hf := hzl7 x25 ez
        refine lv_iload_n hx hb dX12_shop_85 rfl (lv_at hl 0 rfl) ?_
        exact hret _ hf _ _ _ _ hP hS dX12_shop_86
      refine zl_i (V := (Int32 × Int32)) (P := fun v => ∀ (H : Heap) (locs : List Loc) (ls : Array Slot), va_P D vwCl (zw 25 (kM cy ad) ad I J) H → va_S A s.heap H locs → lv_has ls 5 [(0, .ref (ad 0)), (1, .int p1), (2, .int p2), (3, .int (v.1)), (4, .int (v.2))] → W p l e R s m args below meth c H locs 0 0 Q (F0 m 28 ls [])) ?_ _ _ hf _ _ _ hP hS (lv_sub hl [2, 3, 4, 1, 0] rfl)
      intro v z hf hcl7 hdl7
      obtain ⟨x8, x9⟩ := v
      intro H locs ls hP hS hl
      replace hf : f_X12_shop_L28 I J p1 p2 x8 x9 = some z := hf
      unfold f_X12_shop_L28 at hf
      replace hP : va_P D vwCl (zw 25 (kM cy ad) ad I J) H := hP
      replace hl : lv_has ls 5 [(0, .ref (ad 0)), (1, .int p1), (2, .int p2), (3, .int x8), (4, .int x9)] := hl
      refine lv_iload hx hb dX12_shop_28 (lv_at hl 4 rfl) ?_
      refine lv_aload_n hx hb dX12_shop_30 rfl (lv_at hl 0 rfl) ?_
      refine va_get (D := D) (ci := 11) (v := .ref (ad 3)) (C := RX12) (T := TX12) (N := 31) hx hb hts hinX12_shop_X12 hown E.1 hP 0 (zO.get (oX12_at)) rfl 4 (by decide) (hts (.fieldLink RX12 17 "EdgeAndSpeedModel" "speeds" "[I") (by decide +kernel)) (fun _ h9 => h9) rfl dX12_shop_31 ?_
      refine lv_iconst (v := 0) hx hb dX12_shop_34 (by decide) ?_
      obtain ⟨g10, hf⟩ := zg_i hf
      refine va_iald hx hb E.1 hP 3 1 (zIA.get (aX12_4)) rfl g10 dX12_shop_35 ?_
      refine lv_icmp_ge (tgt := 85) hx hb dX12_shop_36 (by decide) (fun k11 => ?_) (fun k11 => ?_)
      · replace hf := zt k11 hf
        exact hjl7 _ (hdl7 _ (Option.some.inj hf).symm) _ _ _ hP hS (lv_sub hl [3] rfl)
      · replace hf := zf k11 hf
        refine lv_aload_n hx hb dX12_shop_39 rfl (lv_at hl 0 rfl) ?_
        refine lv_iload_n hx hb dX12_shop_40 rfl (lv_at hl 1 rfl) ?_
        refine lv_iload hx hb dX12_shop_41 (lv_at hl 4 rfl) ?_
        obtain ⟨x12, h13, hf⟩ := zb1_e hf
        refine zgo_i (zrunV (As := [.int p1, .int x9]) (rest := []) S (c_X12_whole l hD p1 x9 h13) (cwV 2 hts gX12_shop_X12_whole rfl rfl rfl ddX12_whole ⟨Nat.le_trans (Nat.le_of_ble_eq_true rfl) hfr, Nat.le_trans (Nat.le_of_ble_eq_true rfl) hlo⟩) (va_recv E.1 hP (q := (RX12, TX12, 31)) (ci := 11) rfl (zO.get (oX12_at))) E hP hS hl.1 rfl rfl (Nat.le_of_ble_eq_true rfl) dX12_shop_43) hS (fun H locs hP hS => ?_)
        refine lv_if_eq (tgt := 77) hx hb dX12_shop_46 (by decide) (fun k14 => ?_) (fun k14 => ?_)
        · replace hf := zt k14 hf
          refine lv_iload_n hx hb dX12_shop_77 rfl (lv_at hl 3 rfl) ?_
          refine lv_istore_n (lv' := [(3, .int x8), (0, .ref (ad 0)), (1, .int p1), (2, .int p2), (4, .int x9)]) hx hb dX12_shop_78 rfl hl (by decide) rfl (fun ls hl => ?_)
          obtain ⟨y15, ey15⟩ := zex (x9 + 1)
          replace hf := zn_s ey15 hf
          refine lv_iinc (v := y15) (lv' := [(4, .int y15), (3, .int x8), (0, .ref (ad 0)), (1, .int p1), (2, .int p2)]) hx hb dX12_shop_79 hl (k := 4) rfl (by rw [ey15]; rfl) (by decide) rfl (fun ls hl => ?_)
          refine lv_goto (tgt := 28) hx hb dX12_shop_82 (by decide) ?_
          exact hcl7 _ (Option.some.inj hf).symm _ _ _ hP hS (lv_sub hl [2, 3, 4, 1, 0] rfl)
        · replace hf := zf k14 hf
          refine lv_iload_n hx hb dX12_shop_49 rfl (lv_at hl 3 rfl) ?_
          refine lv_if_lt (tgt := 72) hx hb dX12_shop_50 (by decide) (fun k16 => ?_) (fun k16 => ?_)
          · replace hf := zt k16 hf
            refine lv_iload hx hb dX12_shop_72 (lv_at hl 4 rfl) ?_
            refine lv_goto (tgt := 78) hx hb dX12_shop_74 (by decide) ?_
            refine lv_istore_n (lv' := [(3, .int x9), (0, .ref (ad 0)), (1, .int p1), (2, .int p2), (4, .int x9)]) hx hb dX12_shop_78 rfl hl (by decide) rfl (fun ls hl => ?_)
            obtain ⟨y17, ey17⟩ := zex (x9 + 1)
            replace hf := zn_s ey17 hf
            refine lv_iinc (v := y17) (lv' := [(4, .int y17), (3, .int x9), (0, .ref (ad 0)), (1, .int p1), (2, .int p2)]) hx hb dX12_shop_79 hl (k := 4) rfl (by rw [ey17]; rfl) (by decide) rfl (fun ls hl => ?_)
            refine lv_goto (tgt := 28) hx hb dX12_shop_82 (by decide) ?_
            exact hcl7 _ (Option.some.inj hf).symm _ _ _ hP hS (lv_sub hl [2, 3, 4, 1, 0] rfl)
          · replace hf := zf k16 hf
            refine lv_aload_n hx hb dX12_shop_53 rfl (lv_at hl 0 rfl) ?_
            refine lv_iload_n hx hb dX12_shop_54 rfl (lv_at hl 1 rfl) ?_
            refine lv_iload hx hb dX12_shop_55 (lv_at hl 4 rfl) ?_
            refine lv_iload_n hx hb dX12_shop_57 rfl (lv_at hl 2 rfl) ?_
            obtain ⟨u18, h19, hf⟩ := zb1_e hf
            refine zgo_l (zrunV (As := [.int p1, .int x9, .int p2]) (rest := []) S (c_X12_earnsOf l hD p1 x9 p2 h19) (cwV 3 hts gX12_shop_X12_earnsOf rfl rfl rfl ddX12_earnsOf ⟨Nat.le_trans (Nat.le_of_ble_eq_true rfl) hfr, Nat.le_trans (Nat.le_of_ble_eq_true rfl) hlo⟩) (va_recv E.1 hP (q := (RX12, TX12, 31)) (ci := 11) rfl (zO.get (oX12_at))) E hP hS hl.1 rfl rfl (Nat.le_of_ble_eq_true rfl) dX12_shop_58) hS (fun H locs hP hS => ?_)
            refine lv_aload_n hx hb dX12_shop_61 rfl (lv_at hl 0 rfl) ?_
            refine lv_iload_n hx hb dX12_shop_62 rfl (lv_at hl 1 rfl) ?_
            refine lv_iload_n hx hb dX12_shop_63 rfl (lv_at hl 3 rfl) ?_
            refine lv_iload_n hx hb dX12_shop_64 rfl (lv_at hl 2 rfl) ?_
            obtain ⟨u20, h21, hf⟩ := zb1_e hf
            refine zgo_l (zrunV (As := [.int p1, .int x8, .int p2]) (rest := [.long u18]) S (c_X12_earnsOf l hD p1 x8 p2 h21) (cwV 3 hts gX12_shop_X12_earnsOf rfl rfl rfl ddX12_earnsOf ⟨Nat.le_trans (Nat.le_of_ble_eq_true rfl) hfr, Nat.le_trans (Nat.le_of_ble_eq_true rfl) hlo⟩) (va_recv E.1 hP (q := (RX12, TX12, 31)) (ci := 11) rfl (zO.get (oX12_at))) E hP hS hl.1 rfl rfl (Nat.le_of_ble_eq_true rfl) dX12_shop_65) hS (fun H locs hP hS => ?_)
            refine W.lcmp hx hb dX12_shop_68 ?_
            refine lv_if_le (tgt := 77) hx hb dX12_shop_69 (by decide) (fun k22 => ?_) (fun k22 => ?_)
            · replace hf := zt k22 hf
              refine lv_iload_n hx hb dX12_shop_77 rfl (lv_at hl 3 rfl) ?_
              refine lv_istore_n (lv' := [(3, .int x8), (0, .ref (ad 0)), (1, .int p1), (2, .int p2), (4, .int x9)]) hx hb dX12_shop_78 rfl hl (by decide) rfl (fun ls hl => ?_)
              obtain ⟨y23, ey23⟩ := zex (x9 + 1)
              replace hf := zn_s ey23 hf
              refine lv_iinc (v := y23) (lv' := [(4, .int y23), (3, .int x8), (0, .ref (ad 0)), (1, .int p1), (2, .int p2)]) hx hb dX12_shop_79 hl (k := 4) rfl (by rw [ey23]; rfl) (by decide) rfl (fun ls hl => ?_)
              refine lv_goto (tgt := 28) hx hb dX12_shop_82 (by decide) ?_
              exact hcl7 _ (Option.some.inj hf).symm _ _ _ hP hS (lv_sub hl [2, 3, 4, 1, 0] rfl)
            · replace hf := zf k22 hf
              refine lv_iload hx hb dX12_shop_72 (lv_at hl 4 rfl) ?_
              refine lv_goto (tgt := 78) hx hb dX12_shop_74 (by decide) ?_
              refine lv_istore_n (lv' := [(3, .int x9), (0, .ref (ad 0)), (1, .int p1), (2, .int p2), (4, .int x9)]) hx hb dX12_shop_78 rfl hl (by decide) rfl (fun ls hl => ?_)
              obtain ⟨y24, ey24⟩ := zex (x9 + 1)
              replace hf := zn_s ey24 hf
              refine lv_iinc (v := y24) (lv' := [(4, .int y24), (3, .int x9), (0, .ref (ad 0)), (1, .int p1), (2, .int p2)]) hx hb dX12_shop_79 hl (k := 4) rfl (by rw [ey24]; rfl) (by decide) rfl (fun ls hl => ?_)
              refine lv_goto (tgt := 28) hx hb dX12_shop_82 (by decide) ?_
              exact hcl7 _ (Option.some.inj hf).symm _ _ _ hP hS (lv_sub hl [2, 3, 4, 1, 0] rfl)
    · replace hf := zt k6 hf
      refine lv_iconst (v := (-1)) hx hb dX12_shop_20 (by decide) ?_
      exact hret _ hf _ _ _ _ hP hS dX12_shop_21
theorem c_X12_shop (l : Launch) {D : va_G} {a0 : Nat → Nat} {A : Nat → Prop} {cy : Nat → ClassId} {ad : Nat → Nat} (hD : zD A 25 ad) {I : zI} {J : zJ} (p1 : Int32) (p2 : Int32) {rx : Int32} (hf : f_X12_shop I J p1 p2 = some rx) : Met l yX12_shop wsX12_shop { frames := 3, cells := 0, slots := 0, locals := 73 } (zPc D a0 A cy [.ref (ad 0), .int p1, .int p2] (zw 25 (kM cy ad) ad I J)) (zQi D A rx (zw 25 (kM cy ad) ad I J)) 0 0 A :=
  zmet RX12 (by decide) rfl rfl (Nat.le_of_ble_eq_true rfl) (fun p e R s m below meth c Q hfr hlo ls S0 hQ => w_X12_shop hfr hlo hD p1 p2 hf S0 (fun tx hq H locs ls pc hP hS hd => by cases hq; exact hQ H locs _ hS (fun hx hb hr hlocks hfree => W.iret hx hb hr (fun t ht hW => ⟨⟨_, (), rfl, rfl, zht ht hP⟩, hS.F ht⟩) hfree hd hlocks)))
theorem ddX12_shop : yX12_shop.cls = RX12 ∧ yX12_shop.cls ≠ "java/lang/invoke/MethodHandle" ∧ yX12_shop.cls ≠ "java/lang/invoke/VarHandle" ∧ (parseMethodDescriptor yX12_shop.desc).map (fun d => d.parameters.length) = some 2 := by decide +kernel

def f_X12_pays (I : zI) (J : zJ) (p1 : Int32) (p2 : Int32) (p3 : Int32) : Option Int64 := zb1 (f_X12_hundredths I J p1 p2) (fun u1 => zg (¬ u1 = 0) (some (((6000 * p3.toInt64) * 6000) / u1)))
set_option maxHeartbeats 4000000 in
set_option maxRecDepth 100000 in
theorem w_X12_pays {p : Program} {l : Launch} {e : Env} {R : Room} {s : State} {m : MethodId} {args : Array Value} {below : List Frame} {meth : Method} {c : Code} {Q : State → Prop} (hfr : 2 ≤ R.frames) (hlo : 46 ≤ R.locals) {D : va_G} {a0 : Nat → Nat} {A : Nat → Prop} {cy : Nat → ClassId} {ad : Nat → Nat} (hD : zD A 25 ad) {I : zI} {J : zJ} (p1 : Int32) (p2 : Int32) (p3 : Int32) {rx : Int64} (hf : f_X12_pays I J p1 p2 p3 = some rx) {ls : Array Slot} (S0 : zSt p m c cX12_pays 4 s args wsX12_pays RX12 D a0 A cy (zw 25 (kM cy ad) ad I J) [.ref (ad 0), .int p1, .int p2, .int p3] ls) (hret : ∀ (tx : Int64), some tx = some rx → ∀ (H : Heap) (locs : List Loc) (ls : Array Slot) (pc : Nat), va_P D vwCl (zw 25 (kM cy ad) ad I J) H → va_S A s.heap H locs → decode cX12_pays pc = .ok (.lreturn, 1) → W p l e R s m args below meth c H locs 0 0 Q (F0 m pc ls [.long tx])) : W p l e R s m args below meth c s.heap [] 0 0 Q (F0 m 0 ls []) := by
  obtain ⟨S, E, hP, hl⟩ := S0
  obtain ⟨hx, hb, hml, hown, hts⟩ := id S
  have hS : va_S A s.heap s.heap [] := va_S.rf
  replace hl : lv_has ls 4 [(0, .ref (ad 0)), (1, .int p1), (2, .int p2), (3, .int p3)] := hl
  unfold f_X12_pays at hf
  refine lv_ldc2 hx hb hown (hts (.constantLong RX12 191 6000) (by decide +kernel)) dX12_pays_0 ?_
  refine lv_iload_n hx hb dX12_pays_3 rfl (lv_at hl 3 rfl) ?_
  refine lv_i2l hx hb dX12_pays_4 rfl ?_
  refine lv_lmul hx hb dX12_pays_5 ?_
  refine lv_ldc2 hx hb hown (hts (.constantLong RX12 191 6000) (by decide +kernel)) dX12_pays_6 ?_
  refine lv_lmul hx hb dX12_pays_9 ?_
  refine lv_aload_n hx hb dX12_pays_10 rfl (lv_at hl 0 rfl) ?_
  refine lv_iload_n hx hb dX12_pays_11 rfl (lv_at hl 1 rfl) ?_
  refine lv_iload_n hx hb dX12_pays_12 rfl (lv_at hl 2 rfl) ?_
  obtain ⟨u1, h2, hf⟩ := zb1_e hf
  refine zgo_l (zrunV (As := [.int p1, .int p2]) (rest := [.long ((6000 * p3.toInt64) * 6000)]) S (c_X12_hundredths l hD p1 p2 h2) (cwV 2 hts gX12_pays_X12_hundredths rfl rfl rfl ddX12_hundredths ⟨Nat.le_trans (Nat.le_of_ble_eq_true rfl) hfr, Nat.le_trans (Nat.le_of_ble_eq_true rfl) hlo⟩) (va_recv E.1 hP (q := (RX12, TX12, 31)) (ci := 11) rfl (zO.get (oX12_at))) E hP hS hl.1 rfl rfl (Nat.le_of_ble_eq_true rfl) dX12_pays_13) hS (fun H locs hP hS => ?_)
  obtain ⟨g3, hf⟩ := zg_i hf
  refine lv_ldiv hx hb dX12_pays_16 g3 ?_
  exact hret _ hf _ _ _ _ hP hS dX12_pays_17
theorem c_X12_pays (l : Launch) {D : va_G} {a0 : Nat → Nat} {A : Nat → Prop} {cy : Nat → ClassId} {ad : Nat → Nat} (hD : zD A 25 ad) {I : zI} {J : zJ} (p1 : Int32) (p2 : Int32) (p3 : Int32) {rx : Int64} (hf : f_X12_pays I J p1 p2 p3 = some rx) : Met l yX12_pays wsX12_pays { frames := 2, cells := 0, slots := 0, locals := 46 } (zPc D a0 A cy [.ref (ad 0), .int p1, .int p2, .int p3] (zw 25 (kM cy ad) ad I J)) (zQl D A rx (zw 25 (kM cy ad) ad I J)) 0 0 A :=
  zmet RX12 (by decide) rfl rfl (Nat.le_of_ble_eq_true rfl) (fun p e R s m below meth c Q hfr hlo ls S0 hQ => w_X12_pays hfr hlo hD p1 p2 p3 hf S0 (fun tx hq H locs ls pc hP hS hd => by cases hq; exact hQ H locs _ hS (fun hx hb hr hlocks hfree => W.lret hx hb hr (fun t ht hW => ⟨⟨_, (), rfl, rfl, zht ht hP⟩, hS.F ht⟩) hfree hd hlocks)))
theorem ddX12_pays : yX12_pays.cls = RX12 ∧ yX12_pays.cls ≠ "java/lang/invoke/MethodHandle" ∧ yX12_pays.cls ≠ "java/lang/invoke/VarHandle" ∧ (parseMethodDescriptor yX12_pays.desc).map (fun d => d.parameters.length) = some 3 := by decide +kernel

def f_X12_takes_L10 (I : zI) (J : zJ) (p1 : Int32) (p2 : Int32) (p3 : Int32) (x2 : Int32) (u3 : Int64) (x4 : Int32) : Option ((Int32 × Int64 × Int32) ⊕ Int32) := zg (¬ ((0 : Int32) < 0 ∨ 2 ≤ (0 : Int32).toNatClampNeg)) ((if (I 3 (0 : Int32).toNatClampNeg) ≤ x4 then some (.inr x2) else zb1 (f_X12_whole I J p1 x4) (fun x7 => (if x7 = 0 then zn (x4 + 1) (fun y10 => some (.inl (x2, u3, y10))) else zb1 (f_X12_pays I J p1 x4 p2) (fun u11 => zg (¬ ((2 * x4) < 0 ∨ 24 ≤ (2 * x4).toNatClampNeg)) (zn ((u11 - ((6000 * p3.toInt64) * (I 4 (2 * x4).toNatClampNeg).toInt64))) (fun u14 => (if x2 < 0 then zn (x4 + 1) (fun y16 => some (.inl (x4, u14, y16))) else (if (lg_cmp u14 u3) ≤ 0 then zn (x4 + 1) (fun y18 => some (.inl (x2, u3, y18))) else zn (x4 + 1) (fun y19 => some (.inl (x4, u14, y19))))))))))))
def f_X12_takes (I : zI) (J : zJ) (p1 : Int32) (p2 : Int32) (p3 : Int32) : Option Int32 := zb1 (zl (fun v : (Int32 × Int64 × Int32) => f_X12_takes_L10 I J p1 p2 p3 v.1 v.2.1 v.2.2) zF ((-4), 0, 0)) (fun x20 => some x20)
theorem hinX12_takes_X12 : ∀ w ∈ u_ws RX12 TX12 31, w ∈ wsX12_takes := by decide +kernel
set_option maxHeartbeats 4000000 in
set_option maxRecDepth 100000 in
theorem w_X12_takes {p : Program} {l : Launch} {e : Env} {R : Room} {s : State} {m : MethodId} {args : Array Value} {below : List Frame} {meth : Method} {c : Code} {Q : State → Prop} (hfr : 3 ≤ R.frames) (hlo : 69 ≤ R.locals) {D : va_G} {a0 : Nat → Nat} {A : Nat → Prop} {cy : Nat → ClassId} {ad : Nat → Nat} (hD : zD A 25 ad) {I : zI} {J : zJ} (p1 : Int32) (p2 : Int32) (p3 : Int32) {rx : Int32} (hf : f_X12_takes I J p1 p2 p3 = some rx) {ls : Array Slot} (S0 : zSt p m c cX12_takes 10 s args wsX12_takes RX12 D a0 A cy (zw 25 (kM cy ad) ad I J) [.ref (ad 0), .int p1, .int p2, .int p3] ls) (hret : ∀ (tx : Int32), some tx = some rx → ∀ (H : Heap) (locs : List Loc) (ls : Array Slot) (pc : Nat), va_P D vwCl (zw 25 (kM cy ad) ad I J) H → va_S A s.heap H locs → decode cX12_takes pc = .ok (.ireturn, 1) → W p l e R s m args below meth c H locs 0 0 Q (F0 m pc ls [.int tx])) : W p l e R s m args below meth c s.heap [] 0 0 Q (F0 m 0 ls []) := by
  obtain ⟨S, E, hP, hl⟩ := S0
  obtain ⟨hx, hb, hml, hown, hts⟩ := id S
  have hS : va_S A s.heap s.heap [] := va_S.rf
  replace hl : lv_has ls 10 [(0, .ref (ad 0)), (1, .int p1), (2, .int p2), (3, .int p3)] := hl
  unfold f_X12_takes at hf
  refine lv_bipush (v := (-4)) hx hb dX12_takes_0 (by decide) ?_
  refine lv_istore (lv' := [(4, .int (-4)), (0, .ref (ad 0)), (1, .int p1), (2, .int p2), (3, .int p3)]) hx hb dX12_takes_2 hl (by decide) rfl (fun ls hl => ?_)
  refine lv_lconst (v := 0) hx hb dX12_takes_4 (by decide) ?_
  refine lv_lstore (lv' := [(5, .long 0), (4, .int (-4)), (0, .ref (ad 0)), (1, .int p1), (2, .int p2), (3, .int p3)]) hx hb dX12_takes_5 hl (by decide) rfl (fun ls hl => ?_)
  refine lv_iconst (v := 0) hx hb dX12_takes_7 (by decide) ?_
  refine lv_istore (lv' := [(7, .int 0), (5, .long 0), (4, .int (-4)), (0, .ref (ad 0)), (1, .int p1), (2, .int p2), (3, .int p3)]) hx hb dX12_takes_8 hl (by decide) rfl (fun ls hl => ?_)
  obtain ⟨zl1, hf, hzl1⟩ := zb1_i hf
  have hjl1 : ∀ (x20 : Int32), x20 = zl1 → ∀ (H : Heap) (locs : List Loc) (ls : Array Slot), va_P D vwCl (zw 25 (kM cy ad) ad I J) H → va_S A s.heap H locs → lv_has ls 10 [(4, .int x20)] → W p l e R s m args below meth c H locs 0 0 Q (F0 m 86 ls []) := by
    intro x20 ez H locs ls hP hS hl
    have hf := hzl1 x20 ez
    refine lv_iload hx hb dX12_takes_86 (lv_at hl 0 rfl) ?_
    exact hret _ hf _ _ _ _ hP hS dX12_takes_88
  refine zl_i (V := (Int32 × Int64 × Int32)) (P := fun v => ∀ (H : Heap) (locs : List Loc) (ls : Array Slot), va_P D vwCl (zw 25 (kM cy ad) ad I J) H → va_S A s.heap H locs → lv_has ls 10 [(0, .ref (ad 0)), (1, .int p1), (2, .int p2), (3, .int p3), (4, .int (v.1)), (5, .long (v.2.1)), (7, .int (v.2.2))] → W p l e R s m args below meth c H locs 0 0 Q (F0 m 10 ls [])) ?_ _ _ hf _ _ _ hP hS (lv_sub hl [3, 4, 5, 6, 2, 1, 0] rfl)
  intro v z hf hcl1 hdl1
  obtain ⟨x2, u3, x4⟩ := v
  intro H locs ls hP hS hl
  replace hf : f_X12_takes_L10 I J p1 p2 p3 x2 u3 x4 = some z := hf
  unfold f_X12_takes_L10 at hf
  replace hP : va_P D vwCl (zw 25 (kM cy ad) ad I J) H := hP
  replace hl : lv_has ls 10 [(0, .ref (ad 0)), (1, .int p1), (2, .int p2), (3, .int p3), (4, .int x2), (5, .long u3), (7, .int x4)] := hl
  refine lv_iload hx hb dX12_takes_10 (lv_at hl 6 rfl) ?_
  refine lv_aload_n hx hb dX12_takes_12 rfl (lv_at hl 0 rfl) ?_
  refine va_get (D := D) (ci := 11) (v := .ref (ad 3)) (C := RX12) (T := TX12) (N := 31) hx hb hts hinX12_takes_X12 hown E.1 hP 0 (zO.get (oX12_at)) rfl 4 (by decide) (hts (.fieldLink RX12 17 "EdgeAndSpeedModel" "speeds" "[I") (by decide +kernel)) (fun _ h9 => h9) rfl dX12_takes_13 ?_
  refine lv_iconst (v := 0) hx hb dX12_takes_16 (by decide) ?_
  obtain ⟨g5, hf⟩ := zg_i hf
  refine va_iald hx hb E.1 hP 3 1 (zIA.get (aX12_4)) rfl g5 dX12_takes_17 ?_
  refine lv_icmp_ge (tgt := 86) hx hb dX12_takes_18 (by decide) (fun k6 => ?_) (fun k6 => ?_)
  · replace hf := zt k6 hf
    exact hjl1 _ (hdl1 _ (Option.some.inj hf).symm) _ _ _ hP hS (lv_sub hl [4] rfl)
  · replace hf := zf k6 hf
    refine lv_aload_n hx hb dX12_takes_21 rfl (lv_at hl 0 rfl) ?_
    refine lv_iload_n hx hb dX12_takes_22 rfl (lv_at hl 1 rfl) ?_
    refine lv_iload hx hb dX12_takes_23 (lv_at hl 6 rfl) ?_
    obtain ⟨x7, h8, hf⟩ := zb1_e hf
    refine zgo_i (zrunV (As := [.int p1, .int x4]) (rest := []) S (c_X12_whole l hD p1 x4 h8) (cwV 2 hts gX12_takes_X12_whole rfl rfl rfl ddX12_whole ⟨Nat.le_trans (Nat.le_of_ble_eq_true rfl) hfr, Nat.le_trans (Nat.le_of_ble_eq_true rfl) hlo⟩) (va_recv E.1 hP (q := (RX12, TX12, 31)) (ci := 11) rfl (zO.get (oX12_at))) E hP hS hl.1 rfl rfl (Nat.le_of_ble_eq_true rfl) dX12_takes_25) hS (fun H locs hP hS => ?_)
    refine lv_if_eq (tgt := 80) hx hb dX12_takes_28 (by decide) (fun k9 => ?_) (fun k9 => ?_)
    · replace hf := zt k9 hf
      obtain ⟨y10, ey10⟩ := zex (x4 + 1)
      replace hf := zn_s ey10 hf
      refine lv_iinc (v := y10) (lv' := [(7, .int y10), (0, .ref (ad 0)), (1, .int p1), (2, .int p2), (3, .int p3), (4, .int x2), (5, .long u3)]) hx hb dX12_takes_80 hl (k := 6) rfl (by rw [ey10]; rfl) (by decide) rfl (fun ls hl => ?_)
      refine lv_goto (tgt := 10) hx hb dX12_takes_83 (by decide) ?_
      exact hcl1 _ (Option.some.inj hf).symm _ _ _ hP hS (lv_sub hl [1, 2, 3, 4, 5, 6, 0] rfl)
    · replace hf := zf k9 hf
      refine lv_aload_n hx hb dX12_takes_31 rfl (lv_at hl 0 rfl) ?_
      refine lv_iload_n hx hb dX12_takes_32 rfl (lv_at hl 1 rfl) ?_
      refine lv_iload hx hb dX12_takes_33 (lv_at hl 6 rfl) ?_
      refine lv_iload_n hx hb dX12_takes_35 rfl (lv_at hl 2 rfl) ?_
      obtain ⟨u11, h12, hf⟩ := zb1_e hf
      refine zgo_l (zrunV (As := [.int p1, .int x4, .int p2]) (rest := []) S (c_X12_pays l hD p1 x4 p2 h12) (cwV 3 hts gX12_takes_X12_pays rfl rfl rfl ddX12_pays ⟨Nat.le_trans (Nat.le_of_ble_eq_true rfl) hfr, Nat.le_trans (Nat.le_of_ble_eq_true rfl) hlo⟩) (va_recv E.1 hP (q := (RX12, TX12, 31)) (ci := 11) rfl (zO.get (oX12_at))) E hP hS hl.1 rfl rfl (Nat.le_of_ble_eq_true rfl) dX12_takes_36) hS (fun H locs hP hS => ?_)
      refine lv_ldc2 hx hb hown (hts (.constantLong RX12 191 6000) (by decide +kernel)) dX12_takes_39 ?_
      refine lv_iload_n hx hb dX12_takes_42 rfl (lv_at hl 3 rfl) ?_
      refine lv_i2l hx hb dX12_takes_43 rfl ?_
      refine lv_lmul hx hb dX12_takes_44 ?_
      refine lv_aload_n hx hb dX12_takes_45 rfl (lv_at hl 0 rfl) ?_
      refine va_get (D := D) (ci := 11) (v := .ref (ad 4)) (C := RX12) (T := TX12) (N := 31) hx hb hts hinX12_takes_X12 hown E.1 hP 0 (zO.get (oX12_at)) rfl 5 (by decide) (hts (.fieldLink RX12 20 "EdgeAndSpeedModel" "speed" "[I") (by decide +kernel)) (fun _ h9 => h9) rfl dX12_takes_46 ?_
      refine lv_iconst (v := 2) hx hb dX12_takes_49 (by decide) ?_
      refine lv_iload hx hb dX12_takes_50 (lv_at hl 6 rfl) ?_
      refine lv_imul hx hb dX12_takes_52 ?_
      obtain ⟨g13, hf⟩ := zg_i hf
      refine va_iald hx hb E.1 hP 4 1 (zIA.get (aX12_5)) rfl g13 dX12_takes_53 ?_
      refine lv_i2l hx hb dX12_takes_54 rfl ?_
      refine lv_lmul hx hb dX12_takes_55 ?_
      refine lv_lsub hx hb dX12_takes_56 ?_
      refine lv_topl (fun u14 eu14 => ?_)
      replace hf := zn_s eu14 hf
      refine lv_lstore (lv' := [(8, .long u14), (0, .ref (ad 0)), (1, .int p1), (2, .int p2), (3, .int p3), (4, .int x2), (5, .long u3), (7, .int x4)]) hx hb dX12_takes_57 hl (by decide) rfl (fun ls hl => ?_)
      refine lv_iload hx hb dX12_takes_59 (lv_at hl 5 rfl) ?_
      refine lv_if_lt (tgt := 72) hx hb dX12_takes_61 (by decide) (fun k15 => ?_) (fun k15 => ?_)
      · replace hf := zt k15 hf
        refine lv_iload hx hb dX12_takes_72 (lv_at hl 7 rfl) ?_
        refine lv_istore (lv' := [(4, .int x4), (8, .long u14), (0, .ref (ad 0)), (1, .int p1), (2, .int p2), (3, .int p3), (5, .long u3), (7, .int x4)]) hx hb dX12_takes_74 hl (by decide) rfl (fun ls hl => ?_)
        refine lv_lload hx hb dX12_takes_76 (lv_at hl 1 rfl) ?_
        refine lv_lstore (lv' := [(5, .long u14), (4, .int x4), (8, .long u14), (0, .ref (ad 0)), (1, .int p1), (2, .int p2), (3, .int p3), (7, .int x4)]) hx hb dX12_takes_78 hl (by decide) rfl (fun ls hl => ?_)
        obtain ⟨y16, ey16⟩ := zex (x4 + 1)
        replace hf := zn_s ey16 hf
        refine lv_iinc (v := y16) (lv' := [(7, .int y16), (5, .long u14), (4, .int x4), (8, .long u14), (0, .ref (ad 0)), (1, .int p1), (2, .int p2), (3, .int p3)]) hx hb dX12_takes_80 hl (k := 7) rfl (by rw [ey16]; rfl) (by decide) rfl (fun ls hl => ?_)
        refine lv_goto (tgt := 10) hx hb dX12_takes_83 (by decide) ?_
        exact hcl1 _ (Option.some.inj hf).symm _ _ _ hP hS (lv_sub hl [4, 5, 6, 7, 2, 1, 0] rfl)
      · replace hf := zf k15 hf
        refine lv_lload hx hb dX12_takes_64 (lv_at hl 0 rfl) ?_
        refine lv_lload hx hb dX12_takes_66 (lv_at hl 6 rfl) ?_
        refine W.lcmp hx hb dX12_takes_68 ?_
        refine lv_if_le (tgt := 80) hx hb dX12_takes_69 (by decide) (fun k17 => ?_) (fun k17 => ?_)
        · replace hf := zt k17 hf
          obtain ⟨y18, ey18⟩ := zex (x4 + 1)
          replace hf := zn_s ey18 hf
          refine lv_iinc (v := y18) (lv' := [(7, .int y18), (8, .long u14), (0, .ref (ad 0)), (1, .int p1), (2, .int p2), (3, .int p3), (4, .int x2), (5, .long u3)]) hx hb dX12_takes_80 hl (k := 7) rfl (by rw [ey18]; rfl) (by decide) rfl (fun ls hl => ?_)
          refine lv_goto (tgt := 10) hx hb dX12_takes_83 (by decide) ?_
          exact hcl1 _ (Option.some.inj hf).symm _ _ _ hP hS (lv_sub hl [2, 3, 4, 5, 6, 7, 0] rfl)
        · replace hf := zf k17 hf
          refine lv_iload hx hb dX12_takes_72 (lv_at hl 7 rfl) ?_
          refine lv_istore (lv' := [(4, .int x4), (8, .long u14), (0, .ref (ad 0)), (1, .int p1), (2, .int p2), (3, .int p3), (5, .long u3), (7, .int x4)]) hx hb dX12_takes_74 hl (by decide) rfl (fun ls hl => ?_)
          refine lv_lload hx hb dX12_takes_76 (lv_at hl 1 rfl) ?_
          refine lv_lstore (lv' := [(5, .long u14), (4, .int x4), (8, .long u14), (0, .ref (ad 0)), (1, .int p1), (2, .int p2), (3, .int p3), (7, .int x4)]) hx hb dX12_takes_78 hl (by decide) rfl (fun ls hl => ?_)
          obtain ⟨y19, ey19⟩ := zex (x4 + 1)
          replace hf := zn_s ey19 hf
          refine lv_iinc (v := y19) (lv' := [(7, .int y19), (5, .long u14), (4, .int x4), (8, .long u14), (0, .ref (ad 0)), (1, .int p1), (2, .int p2), (3, .int p3)]) hx hb dX12_takes_80 hl (k := 7) rfl (by rw [ey19]; rfl) (by decide) rfl (fun ls hl => ?_)
          refine lv_goto (tgt := 10) hx hb dX12_takes_83 (by decide) ?_
          exact hcl1 _ (Option.some.inj hf).symm _ _ _ hP hS (lv_sub hl [4, 5, 6, 7, 2, 1, 0] rfl)
theorem c_X12_takes (l : Launch) {D : va_G} {a0 : Nat → Nat} {A : Nat → Prop} {cy : Nat → ClassId} {ad : Nat → Nat} (hD : zD A 25 ad) {I : zI} {J : zJ} (p1 : Int32) (p2 : Int32) (p3 : Int32) {rx : Int32} (hf : f_X12_takes I J p1 p2 p3 = some rx) : Met l yX12_takes wsX12_takes { frames := 3, cells := 0, slots := 0, locals := 69 } (zPc D a0 A cy [.ref (ad 0), .int p1, .int p2, .int p3] (zw 25 (kM cy ad) ad I J)) (zQi D A rx (zw 25 (kM cy ad) ad I J)) 0 0 A :=
  zmet RX12 (by decide) rfl rfl (Nat.le_of_ble_eq_true rfl) (fun p e R s m below meth c Q hfr hlo ls S0 hQ => w_X12_takes hfr hlo hD p1 p2 p3 hf S0 (fun tx hq H locs ls pc hP hS hd => by cases hq; exact hQ H locs _ hS (fun hx hb hr hlocks hfree => W.iret hx hb hr (fun t ht hW => ⟨⟨_, (), rfl, rfl, zht ht hP⟩, hS.F ht⟩) hfree hd hlocks)))
theorem ddX12_takes : yX12_takes.cls = RX12 ∧ yX12_takes.cls ≠ "java/lang/invoke/MethodHandle" ∧ yX12_takes.cls ≠ "java/lang/invoke/VarHandle" ∧ (parseMethodDescriptor yX12_takes.desc).map (fun d => d.parameters.length) = some 3 := by decide +kernel

def f_X12_isPence (I : zI) (J : zJ) (p1 : Int32) : Option Int32 := zb1 (f_X12_in I J (p1.toInt64) 0 99) (fun x1 => zg (x1 = 0 ∨ x1 = 1) (some x1))
set_option maxHeartbeats 4000000 in
set_option maxRecDepth 100000 in
theorem w_X12_isPence {p : Program} {l : Launch} {e : Env} {R : Room} {s : State} {m : MethodId} {args : Array Value} {below : List Frame} {meth : Method} {c : Code} {Q : State → Prop} (hfr : 1 ≤ R.frames) (hlo : 25 ≤ R.locals) {D : va_G} {a0 : Nat → Nat} {A : Nat → Prop} {cy : Nat → ClassId} {ad : Nat → Nat} (hD : zD A 25 ad) {I : zI} {J : zJ} (p1 : Int32) {rx : Int32} (hf : f_X12_isPence I J p1 = some rx) {ls : Array Slot} (S0 : zSt p m c cX12_isPence 1 s args wsX12_isPence RX12 D a0 A cy (zw 25 (kM cy ad) ad I J) [.int p1] ls) (hret : ∀ (tx : Int32), some tx = some rx → (tx = 0 ∨ tx = 1) → ∀ (H : Heap) (locs : List Loc) (ls : Array Slot) (pc : Nat), va_P D vwCl (zw 25 (kM cy ad) ad I J) H → va_S A s.heap H locs → decode cX12_isPence pc = .ok (.ireturn, 1) → W p l e R s m args below meth c H locs 0 0 Q (F0 m pc ls [.int tx])) : W p l e R s m args below meth c s.heap [] 0 0 Q (F0 m 0 ls []) := by
  obtain ⟨S, E, hP, hl⟩ := S0
  obtain ⟨hx, hb, hml, hown, hts⟩ := id S
  have hS : va_S A s.heap s.heap [] := va_S.rf
  replace hl : lv_has ls 1 [(0, .int p1)] := hl
  unfold f_X12_isPence at hf
  refine lv_iload_n hx hb dX12_isPence_0 rfl (lv_at hl 0 rfl) ?_
  refine lv_i2l hx hb dX12_isPence_1 rfl ?_
  refine lv_lconst (v := 0) hx hb dX12_isPence_2 (by decide) ?_
  refine lv_ldc2 hx hb hown (hts (.constantLong RX12 267 99) (by decide +kernel)) dX12_isPence_3 ?_
  obtain ⟨x1, h2, hf⟩ := zb1_e hf
  refine zgo_i (zrunS (As := [.long (p1.toInt64), .long 0, .long 99]) (rest := []) S (c_X12_in l hD (p1.toInt64) 0 99 h2) (va_cwS 3 hts gX12_isPence_X12_in rfl rfl rfl ddX12_in ⟨Nat.le_trans (Nat.le_of_ble_eq_true rfl) hfr, Nat.le_trans (Nat.le_of_ble_eq_true rfl) hlo⟩) E hP hS hl.1 rfl rfl (Nat.le_of_ble_eq_true rfl) dX12_isPence_6) hS (fun H locs hP hS => ?_)
  obtain ⟨g0, hf⟩ := zg_i hf
  exact hret _ hf g0 _ _ _ _ hP hS dX12_isPence_9
theorem c_X12_isPence (l : Launch) {D : va_G} {a0 : Nat → Nat} {A : Nat → Prop} {cy : Nat → ClassId} {ad : Nat → Nat} (hD : zD A 25 ad) {I : zI} {J : zJ} (p1 : Int32) {rx : Int32} (hf : f_X12_isPence I J p1 = some rx) : Met l yX12_isPence wsX12_isPence { frames := 1, cells := 0, slots := 0, locals := 25 } (zPc D a0 A cy [.int p1] (zw 25 (kM cy ad) ad I J)) (zQi D A rx (zw 25 (kM cy ad) ad I J)) 0 0 A :=
  zmet RX12 (by decide) rfl rfl (Nat.le_of_ble_eq_true rfl) (fun p e R s m below meth c Q hfr hlo ls S0 hQ => w_X12_isPence hfr hlo hD p1 hf S0 (fun tx hq n01 H locs ls pc hP hS hd => by cases hq; exact hQ H locs _ hS (fun hx hb hr hlocks hfree => W.zret hx hb hr (z01 n01) (fun t ht hW => ⟨⟨_, (), rfl, rfl, zht ht hP⟩, hS.F ht⟩) hfree hd hlocks)))
theorem ddX12_isPence : yX12_isPence.cls ≠ "java/lang/invoke/MethodHandle" ∧ yX12_isPence.cls ≠ "java/lang/invoke/VarHandle" ∧ (parseMethodDescriptor yX12_isPence.desc).map (fun d => d.parameters.length) = some 1 := by decide +kernel

def f_X12_pay (I : zI) (J : zJ) (p1 : Int32) (p2 : Int32) (p3 : Int32) (p4 : Int32) : Option Int64 := zb1 (f_X12_isPiece I J p1) (fun x1 => (if x1 = 0 then (if p4 = 1 then some (-9223372036854775808) else some (-1)) else zb1 (f_X12_isPence I J p2) (fun x5 => (if x5 = 0 then (if p4 = 1 then some (-9223372036854775808) else some (-1)) else zb1 (f_X12_isPence I J p3) (fun x9 => (if x9 = 0 then (if p4 = 1 then some (-9223372036854775808) else some (-1)) else zb1 (f_X12_in I J (p4.toInt64) 0 1) (fun x13 => (if x13 = 0 then (if p4 = 1 then some (-9223372036854775808) else some (-1)) else zb1 (f_X12_takes I J p1 p2 p3) (fun x16 => (if 0 ≤ x16 then (if p4 = 0 then some (x16.toInt64) else zb1 (f_X12_earnsOf I J p1 x16 1) (fun u20 => zb1 (f_X12_pays I J p1 x16 p2) (fun u22 => some (u20 - u22)))) else (if p4 = 1 then some (-9223372036854775804) else some (-4))))))))))))
set_option maxHeartbeats 4000000 in
set_option maxRecDepth 100000 in
theorem w_X12_pay {p : Program} {l : Launch} {e : Env} {R : Room} {s : State} {m : MethodId} {args : Array Value} {below : List Frame} {meth : Method} {c : Code} {Q : State → Prop} (hfr : 4 ≤ R.frames) (hlo : 98 ≤ R.locals) {D : va_G} {a0 : Nat → Nat} {A : Nat → Prop} {cy : Nat → ClassId} {ad : Nat → Nat} (hD : zD A 25 ad) {I : zI} {J : zJ} (p1 : Int32) (p2 : Int32) (p3 : Int32) (p4 : Int32) {rx : Int64} (hf : f_X12_pay I J p1 p2 p3 p4 = some rx) {ls : Array Slot} (S0 : zSt p m c cX12_pay 6 s args wsX12_pay RX12 D a0 A cy (zw 25 (kM cy ad) ad I J) [.ref (ad 0), .int p1, .int p2, .int p3, .int p4] ls) (hret : ∀ (tx : Int64), some tx = some rx → ∀ (H : Heap) (locs : List Loc) (ls : Array Slot) (pc : Nat), va_P D vwCl (zw 25 (kM cy ad) ad I J) H → va_S A s.heap H locs → decode cX12_pay pc = .ok (.lreturn, 1) → W p l e R s m args below meth c H locs 0 0 Q (F0 m pc ls [.long tx])) : W p l e R s m args below meth c s.heap [] 0 0 Q (F0 m 0 ls []) := by
  obtain ⟨S, E, hP, hl⟩ := S0
  obtain ⟨hx, hb, hml, hown, hts⟩ := id S
  have hS : va_S A s.heap s.heap [] := va_S.rf
  replace hl : lv_has ls 6 [(0, .ref (ad 0)), (1, .int p1), (2, .int p2), (3, .int p3), (4, .int p4)] := hl
  unfold f_X12_pay at hf
  refine lv_aload_n hx hb dX12_pay_0 rfl (lv_at hl 0 rfl) ?_
  refine lv_iload_n hx hb dX12_pay_1 rfl (lv_at hl 1 rfl) ?_
  obtain ⟨x1, h2, hf⟩ := zb1_e hf
  refine zgo_i (zrunV (As := [.int p1]) (rest := []) S (c_X12_isPiece l hD p1 h2) (cwV 1 hts gX12_pay_X12_isPiece rfl rfl rfl ddX12_isPiece ⟨Nat.le_trans (Nat.le_of_ble_eq_true rfl) hfr, Nat.le_trans (Nat.le_of_ble_eq_true rfl) hlo⟩) (va_recv E.1 hP (q := (RX12, TX12, 31)) (ci := 11) rfl (zO.get (oX12_at))) E hP hS hl.1 rfl rfl (Nat.le_of_ble_eq_true rfl) dX12_pay_2) hS (fun H locs hP hS => ?_)
  refine lv_if_eq (tgt := 33) hx hb dX12_pay_5 (by decide) (fun k3 => ?_) (fun k3 => ?_)
  · replace hf := zt k3 hf
    refine lv_iload hx hb dX12_pay_33 (lv_at hl 4 rfl) ?_
    refine lv_iconst (v := 1) hx hb dX12_pay_35 (by decide) ?_
    refine lv_icmp_ne (tgt := 45) hx hb dX12_pay_36 (by decide) (fun k4 => ?_) (fun k4 => ?_)
    · replace hf := zf k4 hf
      refine lv_ldc2 hx hb hown (hts (.constantLong RX12 196 (-1)) (by decide +kernel)) dX12_pay_45 ?_
      exact hret _ hf _ _ _ _ hP hS dX12_pay_48
    · replace hf := zt k4 hf
      refine lv_ldc2 hx hb hown (hts (.constantLong RX12 238 (-9223372036854775808)) (by decide +kernel)) dX12_pay_39 ?_
      refine lv_goto (tgt := 48) hx hb dX12_pay_42 (by decide) ?_
      exact hret _ hf _ _ _ _ hP hS dX12_pay_48
  · replace hf := zf k3 hf
    refine lv_iload_n hx hb dX12_pay_8 rfl (lv_at hl 2 rfl) ?_
    obtain ⟨x5, h6, hf⟩ := zb1_e hf
    refine zgo_i (zrunS (As := [.int p2]) (rest := []) S (c_X12_isPence l hD p2 h6) (va_cwS 1 hts gX12_pay_X12_isPence rfl rfl rfl ddX12_isPence ⟨Nat.le_trans (Nat.le_of_ble_eq_true rfl) hfr, Nat.le_trans (Nat.le_of_ble_eq_true rfl) hlo⟩) E hP hS hl.1 rfl rfl (Nat.le_of_ble_eq_true rfl) dX12_pay_9) hS (fun H locs hP hS => ?_)
    refine lv_if_eq (tgt := 33) hx hb dX12_pay_12 (by decide) (fun k7 => ?_) (fun k7 => ?_)
    · replace hf := zt k7 hf
      refine lv_iload hx hb dX12_pay_33 (lv_at hl 4 rfl) ?_
      refine lv_iconst (v := 1) hx hb dX12_pay_35 (by decide) ?_
      refine lv_icmp_ne (tgt := 45) hx hb dX12_pay_36 (by decide) (fun k8 => ?_) (fun k8 => ?_)
      · replace hf := zf k8 hf
        refine lv_ldc2 hx hb hown (hts (.constantLong RX12 196 (-1)) (by decide +kernel)) dX12_pay_45 ?_
        exact hret _ hf _ _ _ _ hP hS dX12_pay_48
      · replace hf := zt k8 hf
        refine lv_ldc2 hx hb hown (hts (.constantLong RX12 238 (-9223372036854775808)) (by decide +kernel)) dX12_pay_39 ?_
        refine lv_goto (tgt := 48) hx hb dX12_pay_42 (by decide) ?_
        exact hret _ hf _ _ _ _ hP hS dX12_pay_48
    · replace hf := zf k7 hf
      refine lv_iload_n hx hb dX12_pay_15 rfl (lv_at hl 3 rfl) ?_
      obtain ⟨x9, h10, hf⟩ := zb1_e hf
      refine zgo_i (zrunS (As := [.int p3]) (rest := []) S (c_X12_isPence l hD p3 h10) (va_cwS 1 hts gX12_pay_X12_isPence rfl rfl rfl ddX12_isPence ⟨Nat.le_trans (Nat.le_of_ble_eq_true rfl) hfr, Nat.le_trans (Nat.le_of_ble_eq_true rfl) hlo⟩) E hP hS hl.1 rfl rfl (Nat.le_of_ble_eq_true rfl) dX12_pay_16) hS (fun H locs hP hS => ?_)
      refine lv_if_eq (tgt := 33) hx hb dX12_pay_19 (by decide) (fun k11 => ?_) (fun k11 => ?_)
      · replace hf := zt k11 hf
        refine lv_iload hx hb dX12_pay_33 (lv_at hl 4 rfl) ?_
        refine lv_iconst (v := 1) hx hb dX12_pay_35 (by decide) ?_
        refine lv_icmp_ne (tgt := 45) hx hb dX12_pay_36 (by decide) (fun k12 => ?_) (fun k12 => ?_)
        · replace hf := zf k12 hf
          refine lv_ldc2 hx hb hown (hts (.constantLong RX12 196 (-1)) (by decide +kernel)) dX12_pay_45 ?_
          exact hret _ hf _ _ _ _ hP hS dX12_pay_48
        · replace hf := zt k12 hf
          refine lv_ldc2 hx hb hown (hts (.constantLong RX12 238 (-9223372036854775808)) (by decide +kernel)) dX12_pay_39 ?_
          refine lv_goto (tgt := 48) hx hb dX12_pay_42 (by decide) ?_
          exact hret _ hf _ _ _ _ hP hS dX12_pay_48
      · replace hf := zf k11 hf
        refine lv_iload hx hb dX12_pay_22 (lv_at hl 4 rfl) ?_
        refine lv_i2l hx hb dX12_pay_24 rfl ?_
        refine lv_lconst (v := 0) hx hb dX12_pay_25 (by decide) ?_
        refine lv_lconst (v := 1) hx hb dX12_pay_26 (by decide) ?_
        obtain ⟨x13, h14, hf⟩ := zb1_e hf
        refine zgo_i (zrunS (As := [.long (p4.toInt64), .long 0, .long 1]) (rest := []) S (c_X12_in l hD (p4.toInt64) 0 1 h14) (va_cwS 3 hts gX12_pay_X12_in rfl rfl rfl ddX12_in ⟨Nat.le_trans (Nat.le_of_ble_eq_true rfl) hfr, Nat.le_trans (Nat.le_of_ble_eq_true rfl) hlo⟩) E hP hS hl.1 rfl rfl (Nat.le_of_ble_eq_true rfl) dX12_pay_27) hS (fun H locs hP hS => ?_)
        refine lv_if_ne (tgt := 49) hx hb dX12_pay_30 (by decide) (fun k15 => ?_) (fun k15 => ?_)
        · replace hf := zf k15 hf
          refine lv_aload_n hx hb dX12_pay_49 rfl (lv_at hl 0 rfl) ?_
          refine lv_iload_n hx hb dX12_pay_50 rfl (lv_at hl 1 rfl) ?_
          refine lv_iload_n hx hb dX12_pay_51 rfl (lv_at hl 2 rfl) ?_
          refine lv_iload_n hx hb dX12_pay_52 rfl (lv_at hl 3 rfl) ?_
          obtain ⟨x16, h17, hf⟩ := zb1_e hf
          refine zgo_i (zrunV (As := [.int p1, .int p2, .int p3]) (rest := []) S (c_X12_takes l hD p1 p2 p3 h17) (cwV 3 hts gX12_pay_X12_takes rfl rfl rfl ddX12_takes ⟨Nat.le_trans (Nat.le_of_ble_eq_true rfl) hfr, Nat.le_trans (Nat.le_of_ble_eq_true rfl) hlo⟩) (va_recv E.1 hP (q := (RX12, TX12, 31)) (ci := 11) rfl (zO.get (oX12_at))) E hP hS hl.1 rfl rfl (Nat.le_of_ble_eq_true rfl) dX12_pay_53) hS (fun H locs hP hS => ?_)
          refine lv_istore (lv' := [(5, .int x16), (0, .ref (ad 0)), (1, .int p1), (2, .int p2), (3, .int p3), (4, .int p4)]) hx hb dX12_pay_56 hl (by decide) rfl (fun ls hl => ?_)
          refine lv_iload hx hb dX12_pay_58 (lv_at hl 0 rfl) ?_
          refine lv_if_ge (tgt := 79) hx hb dX12_pay_60 (by decide) (fun k18 => ?_) (fun k18 => ?_)
          · replace hf := zt k18 hf
            refine lv_iload hx hb dX12_pay_79 (lv_at hl 5 rfl) ?_
            refine lv_if_ne (tgt := 90) hx hb dX12_pay_81 (by decide) (fun k19 => ?_) (fun k19 => ?_)
            · replace hf := zf k19 hf
              refine lv_aload_n hx hb dX12_pay_90 rfl (lv_at hl 1 rfl) ?_
              refine lv_iload_n hx hb dX12_pay_91 rfl (lv_at hl 2 rfl) ?_
              refine lv_iload hx hb dX12_pay_92 (lv_at hl 0 rfl) ?_
              refine lv_iconst (v := 1) hx hb dX12_pay_94 (by decide) ?_
              obtain ⟨u20, h21, hf⟩ := zb1_e hf
              refine zgo_l (zrunV (As := [.int p1, .int x16, .int 1]) (rest := []) S (c_X12_earnsOf l hD p1 x16 1 h21) (cwV 3 hts gX12_pay_X12_earnsOf rfl rfl rfl ddX12_earnsOf ⟨Nat.le_trans (Nat.le_of_ble_eq_true rfl) hfr, Nat.le_trans (Nat.le_of_ble_eq_true rfl) hlo⟩) (va_recv E.1 hP (q := (RX12, TX12, 31)) (ci := 11) rfl (zO.get (oX12_at))) E hP hS hl.1 rfl rfl (Nat.le_of_ble_eq_true rfl) dX12_pay_95) hS (fun H locs hP hS => ?_)
              refine lv_aload_n hx hb dX12_pay_98 rfl (lv_at hl 1 rfl) ?_
              refine lv_iload_n hx hb dX12_pay_99 rfl (lv_at hl 2 rfl) ?_
              refine lv_iload hx hb dX12_pay_100 (lv_at hl 0 rfl) ?_
              refine lv_iload_n hx hb dX12_pay_102 rfl (lv_at hl 3 rfl) ?_
              obtain ⟨u22, h23, hf⟩ := zb1_e hf
              refine zgo_l (zrunV (As := [.int p1, .int x16, .int p2]) (rest := [.long u20]) S (c_X12_pays l hD p1 x16 p2 h23) (cwV 3 hts gX12_pay_X12_pays rfl rfl rfl ddX12_pays ⟨Nat.le_trans (Nat.le_of_ble_eq_true rfl) hfr, Nat.le_trans (Nat.le_of_ble_eq_true rfl) hlo⟩) (va_recv E.1 hP (q := (RX12, TX12, 31)) (ci := 11) rfl (zO.get (oX12_at))) E hP hS hl.1 rfl rfl (Nat.le_of_ble_eq_true rfl) dX12_pay_103) hS (fun H locs hP hS => ?_)
              refine lv_lsub hx hb dX12_pay_106 ?_
              exact hret _ hf _ _ _ _ hP hS dX12_pay_107
            · replace hf := zt k19 hf
              refine lv_iload hx hb dX12_pay_84 (lv_at hl 0 rfl) ?_
              refine lv_i2l hx hb dX12_pay_86 rfl ?_
              refine lv_goto (tgt := 107) hx hb dX12_pay_87 (by decide) ?_
              exact hret _ hf _ _ _ _ hP hS dX12_pay_107
          · replace hf := zf k18 hf
            refine lv_iload hx hb dX12_pay_63 (lv_at hl 5 rfl) ?_
            refine lv_iconst (v := 1) hx hb dX12_pay_65 (by decide) ?_
            refine lv_icmp_ne (tgt := 75) hx hb dX12_pay_66 (by decide) (fun k24 => ?_) (fun k24 => ?_)
            · replace hf := zf k24 hf
              refine lv_ldc2 hx hb hown (hts (.constantLong RX12 258 (-4)) (by decide +kernel)) dX12_pay_75 ?_
              exact hret _ hf _ _ _ _ hP hS dX12_pay_78
            · replace hf := zt k24 hf
              refine lv_ldc2 hx hb hown (hts (.constantLong RX12 296 (-9223372036854775804)) (by decide +kernel)) dX12_pay_69 ?_
              refine lv_goto (tgt := 78) hx hb dX12_pay_72 (by decide) ?_
              exact hret _ hf _ _ _ _ hP hS dX12_pay_78
        · replace hf := zt k15 hf
          refine lv_iload hx hb dX12_pay_33 (lv_at hl 4 rfl) ?_
          refine lv_iconst (v := 1) hx hb dX12_pay_35 (by decide) ?_
          refine lv_icmp_ne (tgt := 45) hx hb dX12_pay_36 (by decide) (fun k25 => ?_) (fun k25 => ?_)
          · replace hf := zf k25 hf
            refine lv_ldc2 hx hb hown (hts (.constantLong RX12 196 (-1)) (by decide +kernel)) dX12_pay_45 ?_
            exact hret _ hf _ _ _ _ hP hS dX12_pay_48
          · replace hf := zt k25 hf
            refine lv_ldc2 hx hb hown (hts (.constantLong RX12 238 (-9223372036854775808)) (by decide +kernel)) dX12_pay_39 ?_
            refine lv_goto (tgt := 48) hx hb dX12_pay_42 (by decide) ?_
            exact hret _ hf _ _ _ _ hP hS dX12_pay_48
theorem c_X12_pay (l : Launch) {D : va_G} {a0 : Nat → Nat} {A : Nat → Prop} {cy : Nat → ClassId} {ad : Nat → Nat} (hD : zD A 25 ad) {I : zI} {J : zJ} (p1 : Int32) (p2 : Int32) (p3 : Int32) (p4 : Int32) {rx : Int64} (hf : f_X12_pay I J p1 p2 p3 p4 = some rx) : Met l yX12_pay wsX12_pay { frames := 4, cells := 0, slots := 0, locals := 98 } (zPc D a0 A cy [.ref (ad 0), .int p1, .int p2, .int p3, .int p4] (zw 25 (kM cy ad) ad I J)) (zQl D A rx (zw 25 (kM cy ad) ad I J)) 0 0 A :=
  zmet RX12 (by decide) rfl rfl (Nat.le_of_ble_eq_true rfl) (fun p e R s m below meth c Q hfr hlo ls S0 hQ => w_X12_pay hfr hlo hD p1 p2 p3 p4 hf S0 (fun tx hq H locs ls pc hP hS hd => by cases hq; exact hQ H locs _ hS (fun hx hb hr hlocks hfree => W.lret hx hb hr (fun t ht hW => ⟨⟨_, (), rfl, rfl, zht ht hP⟩, hS.F ht⟩) hfree hd hlocks)))
theorem ddX12_pay : yX12_pay.cls = RX12 ∧ yX12_pay.cls ≠ "java/lang/invoke/MethodHandle" ∧ yX12_pay.cls ≠ "java/lang/invoke/VarHandle" ∧ (parseMethodDescriptor yX12_pay.desc).map (fun d => d.parameters.length) = some 4 := by decide +kernel
