def f_X12_does (I : zI) (J : zJ) (p1 : Int32) (p2 : Int32) (p3 : Int32) (p4 : Int32) (p5 : Int32) : Option (Int32 × zI × zJ) := zb1 (f_X12_isAsked I J p1 p2 p3 p4 p5) (fun x1 => (if x1 = 0 then some ((-1), I, J) else zb2 (f_X12_handles I J p1 p2) (fun I4 J5 => zb1 (f_X12_cell I4 J5 p3 p4 p5) (fun x7 => zg (¬ (x7 < 0 ∨ 7272 ≤ x7.toNatClampNeg)) (some ((I4 15 x7.toNatClampNeg), I4, J5))))))
theorem hinX12_does_X12 : ∀ w ∈ u_ws RX12 TX12 31, w ∈ wsX12_does := by decide +kernel
set_option maxHeartbeats 4000000 in
set_option maxRecDepth 100000 in
theorem w_X12_does {p : Program} {l : Launch} {e : Env} {R : Room} {s : State} {m : MethodId} {args : Array Value} {below : List Frame} {meth : Method} {c : Code} {Q : State → Prop} (hfr : 5 ≤ R.frames) (hlo : 131 ≤ R.locals) {D : va_G} {a0 : Nat → Nat} {A : Nat → Prop} {cy : Nat → ClassId} {ad : Nat → Nat} (hD : zD A 25 ad) {I : zI} {J : zJ} (p1 : Int32) (p2 : Int32) (p3 : Int32) (p4 : Int32) (p5 : Int32) {rx : Int32} {rI : zI} {rJ : zJ} (hf : f_X12_does I J p1 p2 p3 p4 p5 = some (rx, rI, rJ)) {ls : Array Slot} (S0 : zSt p m c cX12_does 6 s args wsX12_does RX12 D a0 A cy (zw 25 (kM cy ad) ad I J) [.ref (ad 0), .int p1, .int p2, .int p3, .int p4, .int p5] ls) (hret : ∀ (tx : Int32) (tI : zI) (tJ : zJ), some (tx, tI, tJ) = some (rx, rI, rJ) → ∀ (H : Heap) (locs : List Loc) (ls : Array Slot) (pc : Nat), va_P D vwCl (zw 25 (kM cy ad) ad tI tJ) H → va_S A s.heap H locs → decode cX12_does pc = .ok (.ireturn, 1) → W p l e R s m args below meth c H locs 0 0 Q (F0 m pc ls [.int tx])) : W p l e R s m args below meth c s.heap [] 0 0 Q (F0 m 0 ls []) := by
  obtain ⟨S, E, hP, hl⟩ := S0
  obtain ⟨hx, hb, hml, hown, hts⟩ := id S
  have hS : va_S A s.heap s.heap [] := va_S.rf
  replace hl : lv_has ls 6 [(0, .ref (ad 0)), (1, .int p1), (2, .int p2), (3, .int p3), (4, .int p4), (5, .int p5)] := hl
  unfold f_X12_does at hf
  refine lv_aload_n hx hb dX12_does_0 rfl (lv_at hl 0 rfl) ?_
  refine lv_iload_n hx hb dX12_does_1 rfl (lv_at hl 1 rfl) ?_
  refine lv_iload_n hx hb dX12_does_2 rfl (lv_at hl 2 rfl) ?_
  refine lv_iload_n hx hb dX12_does_3 rfl (lv_at hl 3 rfl) ?_
  refine lv_iload hx hb dX12_does_4 (lv_at hl 4 rfl) ?_
  refine lv_iload hx hb dX12_does_6 (lv_at hl 5 rfl) ?_
  obtain ⟨x1, h2, hf⟩ := zb1_e hf
  refine zgo_i (zrunV (As := [.int p1, .int p2, .int p3, .int p4, .int p5]) (rest := []) S (c_X12_isAsked l hD p1 p2 p3 p4 p5 h2) (cwV 5 hts gX12_does_X12_isAsked rfl rfl rfl ddX12_isAsked ⟨Nat.le_trans (Nat.le_of_ble_eq_true rfl) hfr, Nat.le_trans (Nat.le_of_ble_eq_true rfl) hlo⟩) (va_recv E.1 hP (q := (RX12, TX12, 31)) (ci := 11) rfl (zO.get (oX12_at))) E hP hS hl.1 rfl rfl (Nat.le_of_ble_eq_true rfl) dX12_does_8) hS (fun H locs hP hS => ?_)
  refine lv_if_ne (tgt := 16) hx hb dX12_does_11 (by decide) (fun k3 => ?_) (fun k3 => ?_)
  · replace hf := zf k3 hf
    refine lv_aload_n hx hb dX12_does_16 rfl (lv_at hl 0 rfl) ?_
    refine lv_iload_n hx hb dX12_does_17 rfl (lv_at hl 1 rfl) ?_
    refine lv_iload_n hx hb dX12_does_18 rfl (lv_at hl 2 rfl) ?_
    obtain ⟨I4, J5, h6, hf⟩ := zb2_e hf
    refine zgo_v (zrunV (As := [.int p1, .int p2]) (rest := []) S (c_X12_handles l hD p1 p2 h6) (cwV 2 hts gX12_does_X12_handles rfl rfl rfl ddX12_handles ⟨Nat.le_trans (Nat.le_of_ble_eq_true rfl) hfr, Nat.le_trans (Nat.le_of_ble_eq_true rfl) hlo⟩) (va_recv E.1 hP (q := (RX12, TX12, 31)) (ci := 11) rfl (zO.get (oX12_at))) E hP hS hl.1 rfl rfl (Nat.le_of_ble_eq_true rfl) dX12_does_19) hS (fun H locs hP hS => ?_)
    refine lv_aload_n hx hb dX12_does_22 rfl (lv_at hl 0 rfl) ?_
    refine va_get (D := D) (ci := 11) (v := .ref (ad 15)) (C := RX12) (T := TX12) (N := 31) hx hb hts hinX12_does_X12 hown E.1 hP 0 (zO.get (oX12_at)) rfl 17 (by decide) (hts (.fieldLink RX12 53 "EdgeAndSpeedModel" "act" "[I") (by decide +kernel)) (fun _ h9 => h9) rfl dX12_does_23 ?_
    refine lv_iload_n hx hb dX12_does_26 rfl (lv_at hl 3 rfl) ?_
    refine lv_iload hx hb dX12_does_27 (lv_at hl 4 rfl) ?_
    refine lv_iload hx hb dX12_does_29 (lv_at hl 5 rfl) ?_
    obtain ⟨x7, h8, hf⟩ := zb1_e hf
    refine zgo_i (zrunS (As := [.int p3, .int p4, .int p5]) (rest := [.ref (ad 15)]) S (c_X12_cell l hD p3 p4 p5 h8) (va_cwS 3 hts gX12_does_X12_cell rfl rfl rfl ddX12_cell ⟨Nat.le_trans (Nat.le_of_ble_eq_true rfl) hfr, Nat.le_trans (Nat.le_of_ble_eq_true rfl) hlo⟩) E hP hS hl.1 rfl rfl (Nat.le_of_ble_eq_true rfl) dX12_does_31) hS (fun H locs hP hS => ?_)
    obtain ⟨g9, hf⟩ := zg_i hf
    refine va_iald hx hb E.1 hP 15 1 (zIA.get (aX12_17)) rfl g9 dX12_does_34 ?_
    exact hret _ _ _ hf _ _ _ _ hP hS dX12_does_35
  · replace hf := zt k3 hf
    refine lv_iconst (v := (-1)) hx hb dX12_does_14 (by decide) ?_
    exact hret _ _ _ hf _ _ _ _ hP hS dX12_does_15
theorem c_X12_does (l : Launch) {D : va_G} {a0 : Nat → Nat} {A : Nat → Prop} {cy : Nat → ClassId} {ad : Nat → Nat} (hD : zD A 25 ad) {I : zI} {J : zJ} (p1 : Int32) (p2 : Int32) (p3 : Int32) (p4 : Int32) (p5 : Int32) {rx : Int32} {rI : zI} {rJ : zJ} (hf : f_X12_does I J p1 p2 p3 p4 p5 = some (rx, rI, rJ)) : Met l yX12_does wsX12_does { frames := 5, cells := 0, slots := 0, locals := 131 } (zPc D a0 A cy [.ref (ad 0), .int p1, .int p2, .int p3, .int p4, .int p5] (zw 25 (kM cy ad) ad I J)) (zQi D A rx (zw 25 (kM cy ad) ad rI rJ)) 0 0 A :=
  zmet RX12 (by decide) rfl rfl (Nat.le_of_ble_eq_true rfl) (fun p e R s m below meth c Q hfr hlo ls S0 hQ => w_X12_does hfr hlo hD p1 p2 p3 p4 p5 hf S0 (fun tx tI tJ hq H locs ls pc hP hS hd => by cases hq; exact hQ H locs _ hS (fun hx hb hr hlocks hfree => W.iret hx hb hr (fun t ht hW => ⟨⟨_, (), rfl, rfl, zht ht hP⟩, hS.F ht⟩) hfree hd hlocks)))
theorem ddX12_does : yX12_does.cls = RX12 ∧ yX12_does.cls ≠ "java/lang/invoke/MethodHandle" ∧ yX12_does.cls ≠ "java/lang/invoke/VarHandle" ∧ (parseMethodDescriptor yX12_does.desc).map (fun d => d.parameters.length) = some 5 := by decide +kernel

def f_X12_value (I : zI) (J : zJ) (p1 : Int32) (p2 : Int32) (p3 : Int32) (p4 : Int32) (p5 : Int32) : Option (Int64 × zI × zJ) := zb1 (f_X12_isAsked I J p1 p2 p3 p4 p5) (fun x1 => (if x1 = 0 then some ((-9223372036854775808), I, J) else zb2 (f_X12_handles I J p1 p2) (fun I4 J5 => zb1 (f_X12_counts I4 J5 0) (fun J7 => zb1 (f_X12_follows I4 J7 p2) (fun J9 => zb1 (f_X12_cell I4 J9 p3 p4 p5) (fun x11 => zg (¬ (x11 < 0 ∨ 7272 ≤ x11.toNatClampNeg)) (some ((J9 16 x11.toNatClampNeg), I4, J9))))))))
theorem hinX12_value_X12 : ∀ w ∈ u_ws RX12 TX12 31, w ∈ wsX12_value := by decide +kernel
set_option maxHeartbeats 4000000 in
set_option maxRecDepth 100000 in
theorem w_X12_value {p : Program} {l : Launch} {e : Env} {R : Room} {s : State} {m : MethodId} {args : Array Value} {below : List Frame} {meth : Method} {c : Code} {Q : State → Prop} (hfr : 5 ≤ R.frames) (hlo : 131 ≤ R.locals) {D : va_G} {a0 : Nat → Nat} {A : Nat → Prop} {cy : Nat → ClassId} {ad : Nat → Nat} (hD : zD A 25 ad) {I : zI} {J : zJ} (p1 : Int32) (p2 : Int32) (p3 : Int32) (p4 : Int32) (p5 : Int32) {rx : Int64} {rI : zI} {rJ : zJ} (hf : f_X12_value I J p1 p2 p3 p4 p5 = some (rx, rI, rJ)) {ls : Array Slot} (S0 : zSt p m c cX12_value 6 s args wsX12_value RX12 D a0 A cy (zw 25 (kM cy ad) ad I J) [.ref (ad 0), .int p1, .int p2, .int p3, .int p4, .int p5] ls) (hret : ∀ (tx : Int64) (tI : zI) (tJ : zJ), some (tx, tI, tJ) = some (rx, rI, rJ) → ∀ (H : Heap) (locs : List Loc) (ls : Array Slot) (pc : Nat), va_P D vwCl (zw 25 (kM cy ad) ad tI tJ) H → va_S A s.heap H locs → decode cX12_value pc = .ok (.lreturn, 1) → W p l e R s m args below meth c H locs 0 0 Q (F0 m pc ls [.long tx])) : W p l e R s m args below meth c s.heap [] 0 0 Q (F0 m 0 ls []) := by
  obtain ⟨S, E, hP, hl⟩ := S0
  obtain ⟨hx, hb, hml, hown, hts⟩ := id S
  have hS : va_S A s.heap s.heap [] := va_S.rf
  replace hl : lv_has ls 6 [(0, .ref (ad 0)), (1, .int p1), (2, .int p2), (3, .int p3), (4, .int p4), (5, .int p5)] := hl
  unfold f_X12_value at hf
  refine lv_aload_n hx hb dX12_value_0 rfl (lv_at hl 0 rfl) ?_
  refine lv_iload_n hx hb dX12_value_1 rfl (lv_at hl 1 rfl) ?_
  refine lv_iload_n hx hb dX12_value_2 rfl (lv_at hl 2 rfl) ?_
  refine lv_iload_n hx hb dX12_value_3 rfl (lv_at hl 3 rfl) ?_
  refine lv_iload hx hb dX12_value_4 (lv_at hl 4 rfl) ?_
  refine lv_iload hx hb dX12_value_6 (lv_at hl 5 rfl) ?_
  obtain ⟨x1, h2, hf⟩ := zb1_e hf
  refine zgo_i (zrunV (As := [.int p1, .int p2, .int p3, .int p4, .int p5]) (rest := []) S (c_X12_isAsked l hD p1 p2 p3 p4 p5 h2) (cwV 5 hts gX12_value_X12_isAsked rfl rfl rfl ddX12_isAsked ⟨Nat.le_trans (Nat.le_of_ble_eq_true rfl) hfr, Nat.le_trans (Nat.le_of_ble_eq_true rfl) hlo⟩) (va_recv E.1 hP (q := (RX12, TX12, 31)) (ci := 11) rfl (zO.get (oX12_at))) E hP hS hl.1 rfl rfl (Nat.le_of_ble_eq_true rfl) dX12_value_8) hS (fun H locs hP hS => ?_)
  refine lv_if_ne (tgt := 18) hx hb dX12_value_11 (by decide) (fun k3 => ?_) (fun k3 => ?_)
  · replace hf := zf k3 hf
    refine lv_aload_n hx hb dX12_value_18 rfl (lv_at hl 0 rfl) ?_
    refine lv_iload_n hx hb dX12_value_19 rfl (lv_at hl 1 rfl) ?_
    refine lv_iload_n hx hb dX12_value_20 rfl (lv_at hl 2 rfl) ?_
    obtain ⟨I4, J5, h6, hf⟩ := zb2_e hf
    refine zgo_v (zrunV (As := [.int p1, .int p2]) (rest := []) S (c_X12_handles l hD p1 p2 h6) (cwV 2 hts gX12_value_X12_handles rfl rfl rfl ddX12_handles ⟨Nat.le_trans (Nat.le_of_ble_eq_true rfl) hfr, Nat.le_trans (Nat.le_of_ble_eq_true rfl) hlo⟩) (va_recv E.1 hP (q := (RX12, TX12, 31)) (ci := 11) rfl (zO.get (oX12_at))) E hP hS hl.1 rfl rfl (Nat.le_of_ble_eq_true rfl) dX12_value_21) hS (fun H locs hP hS => ?_)
    refine lv_aload_n hx hb dX12_value_24 rfl (lv_at hl 0 rfl) ?_
    refine lv_iconst (v := 0) hx hb dX12_value_25 (by decide) ?_
    obtain ⟨J7, h8, hf⟩ := zb1_e hf
    refine zgo_v (zrunV (As := [.int 0]) (rest := []) S (c_X12_counts l hD 0 h8) (cwV 1 hts gX12_value_X12_counts rfl rfl rfl ddX12_counts ⟨Nat.le_trans (Nat.le_of_ble_eq_true rfl) hfr, Nat.le_trans (Nat.le_of_ble_eq_true rfl) hlo⟩) (va_recv E.1 hP (q := (RX12, TX12, 31)) (ci := 11) rfl (zO.get (oX12_at))) E hP hS hl.1 rfl rfl (Nat.le_of_ble_eq_true rfl) dX12_value_26) hS (fun H locs hP hS => ?_)
    refine lv_aload_n hx hb dX12_value_29 rfl (lv_at hl 0 rfl) ?_
    refine lv_iload_n hx hb dX12_value_30 rfl (lv_at hl 2 rfl) ?_
    obtain ⟨J9, h10, hf⟩ := zb1_e hf
    refine zgo_v (zrunV (As := [.int p2]) (rest := []) S (c_X12_follows l hD p2 h10) (cwV 1 hts gX12_value_X12_follows rfl rfl rfl ddX12_follows ⟨Nat.le_trans (Nat.le_of_ble_eq_true rfl) hfr, Nat.le_trans (Nat.le_of_ble_eq_true rfl) hlo⟩) (va_recv E.1 hP (q := (RX12, TX12, 31)) (ci := 11) rfl (zO.get (oX12_at))) E hP hS hl.1 rfl rfl (Nat.le_of_ble_eq_true rfl) dX12_value_31) hS (fun H locs hP hS => ?_)
    refine lv_aload_n hx hb dX12_value_34 rfl (lv_at hl 0 rfl) ?_
    refine va_get (D := D) (ci := 11) (v := .ref (ad 16)) (C := RX12) (T := TX12) (N := 31) hx hb hts hinX12_value_X12 hown E.1 hP 0 (zO.get (oX12_at)) rfl 18 (by decide) (hts (.fieldLink RX12 56 "EdgeAndSpeedModel" "value" "[J") (by decide +kernel)) (fun _ h9 => h9) rfl dX12_value_35 ?_
    refine lv_iload_n hx hb dX12_value_38 rfl (lv_at hl 3 rfl) ?_
    refine lv_iload hx hb dX12_value_39 (lv_at hl 4 rfl) ?_
    refine lv_iload hx hb dX12_value_41 (lv_at hl 5 rfl) ?_
    obtain ⟨x11, h12, hf⟩ := zb1_e hf
    refine zgo_i (zrunS (As := [.int p3, .int p4, .int p5]) (rest := [.ref (ad 16)]) S (c_X12_cell l hD p3 p4 p5 h12) (va_cwS 3 hts gX12_value_X12_cell rfl rfl rfl ddX12_cell ⟨Nat.le_trans (Nat.le_of_ble_eq_true rfl) hfr, Nat.le_trans (Nat.le_of_ble_eq_true rfl) hlo⟩) E hP hS hl.1 rfl rfl (Nat.le_of_ble_eq_true rfl) dX12_value_43) hS (fun H locs hP hS => ?_)
    obtain ⟨g13, hf⟩ := zg_i hf
    refine va_lald hx hb E.1 hP 16 2 (zLA.get (aX12_18)) rfl g13 dX12_value_46 ?_
    exact hret _ _ _ hf _ _ _ _ hP hS dX12_value_47
  · replace hf := zt k3 hf
    refine lv_ldc2 hx hb hown (hts (.constantLong RX12 238 (-9223372036854775808)) (by decide +kernel)) dX12_value_14 ?_
    exact hret _ _ _ hf _ _ _ _ hP hS dX12_value_17
theorem c_X12_value (l : Launch) {D : va_G} {a0 : Nat → Nat} {A : Nat → Prop} {cy : Nat → ClassId} {ad : Nat → Nat} (hD : zD A 25 ad) {I : zI} {J : zJ} (p1 : Int32) (p2 : Int32) (p3 : Int32) (p4 : Int32) (p5 : Int32) {rx : Int64} {rI : zI} {rJ : zJ} (hf : f_X12_value I J p1 p2 p3 p4 p5 = some (rx, rI, rJ)) : Met l yX12_value wsX12_value { frames := 5, cells := 0, slots := 0, locals := 131 } (zPc D a0 A cy [.ref (ad 0), .int p1, .int p2, .int p3, .int p4, .int p5] (zw 25 (kM cy ad) ad I J)) (zQl D A rx (zw 25 (kM cy ad) ad rI rJ)) 0 0 A :=
  zmet RX12 (by decide) rfl rfl (Nat.le_of_ble_eq_true rfl) (fun p e R s m below meth c Q hfr hlo ls S0 hQ => w_X12_value hfr hlo hD p1 p2 p3 p4 p5 hf S0 (fun tx tI tJ hq H locs ls pc hP hS hd => by cases hq; exact hQ H locs _ hS (fun hx hb hr hlocks hfree => W.lret hx hb hr (fun t ht hW => ⟨⟨_, (), rfl, rfl, zht ht hP⟩, hS.F ht⟩) hfree hd hlocks)))
theorem ddX12_value : yX12_value.cls = RX12 ∧ yX12_value.cls ≠ "java/lang/invoke/MethodHandle" ∧ yX12_value.cls ≠ "java/lang/invoke/VarHandle" ∧ (parseMethodDescriptor yX12_value.desc).map (fun d => d.parameters.length) = some 5 := by decide +kernel

def f_X12_mean (I : zI) (J : zJ) (p1 : Int32) (p2 : Int32) (p3 : Int32) (p4 : Int32) (p5 : Int32) (p6 : Int32) : Option (Int64 × zI × zJ) := zb1 (f_X12_isAsked I J p1 p2 p3 p4 p5) (fun x1 => (if x1 = 0 then some ((-1), I, J) else zb1 (f_X12_in I J (p6.toInt64) 0 1) (fun x4 => (if x4 = 0 then some ((-1), I, J) else zb2 (f_X12_handles I J p1 p2) (fun I7 J8 => zb1 ((if p6 = 0 then some (3) else some (2)) : Option Int32) (fun x13 => zb1 (f_X12_counts I7 J8 x13) (fun J14 => zb1 (f_X12_follows I7 J14 p2) (fun J16 => zb1 (f_X12_cell I7 J16 p3 p4 p5) (fun x18 => zg (¬ (x18 < 0 ∨ 7272 ≤ x18.toNatClampNeg)) (zn ((J16 16 x18.toNatClampNeg)) (fun u21 => (if p6 = 0 then some ((-u21), I7, J16) else some (u21, I7, J16)))))))))))))
theorem hinX12_mean_X12 : ∀ w ∈ u_ws RX12 TX12 31, w ∈ wsX12_mean := by decide +kernel
set_option maxHeartbeats 4000000 in
set_option maxRecDepth 100000 in
theorem w_X12_mean {p : Program} {l : Launch} {e : Env} {R : Room} {s : State} {m : MethodId} {args : Array Value} {below : List Frame} {meth : Method} {c : Code} {Q : State → Prop} (hfr : 5 ≤ R.frames) (hlo : 131 ≤ R.locals) {D : va_G} {a0 : Nat → Nat} {A : Nat → Prop} {cy : Nat → ClassId} {ad : Nat → Nat} (hD : zD A 25 ad) {I : zI} {J : zJ} (p1 : Int32) (p2 : Int32) (p3 : Int32) (p4 : Int32) (p5 : Int32) (p6 : Int32) {rx : Int64} {rI : zI} {rJ : zJ} (hf : f_X12_mean I J p1 p2 p3 p4 p5 p6 = some (rx, rI, rJ)) {ls : Array Slot} (S0 : zSt p m c cX12_mean 9 s args wsX12_mean RX12 D a0 A cy (zw 25 (kM cy ad) ad I J) [.ref (ad 0), .int p1, .int p2, .int p3, .int p4, .int p5, .int p6] ls) (hret : ∀ (tx : Int64) (tI : zI) (tJ : zJ), some (tx, tI, tJ) = some (rx, rI, rJ) → ∀ (H : Heap) (locs : List Loc) (ls : Array Slot) (pc : Nat), va_P D vwCl (zw 25 (kM cy ad) ad tI tJ) H → va_S A s.heap H locs → decode cX12_mean pc = .ok (.lreturn, 1) → W p l e R s m args below meth c H locs 0 0 Q (F0 m pc ls [.long tx])) : W p l e R s m args below meth c s.heap [] 0 0 Q (F0 m 0 ls []) := by
  obtain ⟨S, E, hP, hl⟩ := S0
  obtain ⟨hx, hb, hml, hown, hts⟩ := id S
  have hS : va_S A s.heap s.heap [] := va_S.rf
  replace hl : lv_has ls 9 [(0, .ref (ad 0)), (1, .int p1), (2, .int p2), (3, .int p3), (4, .int p4), (5, .int p5), (6, .int p6)] := hl
  unfold f_X12_mean at hf
  refine lv_aload_n hx hb dX12_mean_0 rfl (lv_at hl 0 rfl) ?_
  refine lv_iload_n hx hb dX12_mean_1 rfl (lv_at hl 1 rfl) ?_
  refine lv_iload_n hx hb dX12_mean_2 rfl (lv_at hl 2 rfl) ?_
  refine lv_iload_n hx hb dX12_mean_3 rfl (lv_at hl 3 rfl) ?_
  refine lv_iload hx hb dX12_mean_4 (lv_at hl 4 rfl) ?_
  refine lv_iload hx hb dX12_mean_6 (lv_at hl 5 rfl) ?_
  obtain ⟨x1, h2, hf⟩ := zb1_e hf
  refine zgo_i (zrunV (As := [.int p1, .int p2, .int p3, .int p4, .int p5]) (rest := []) S (c_X12_isAsked l hD p1 p2 p3 p4 p5 h2) (cwV 5 hts gX12_mean_X12_isAsked rfl rfl rfl ddX12_isAsked ⟨Nat.le_trans (Nat.le_of_ble_eq_true rfl) hfr, Nat.le_trans (Nat.le_of_ble_eq_true rfl) hlo⟩) (va_recv E.1 hP (q := (RX12, TX12, 31)) (ci := 11) rfl (zO.get (oX12_at))) E hP hS hl.1 rfl rfl (Nat.le_of_ble_eq_true rfl) dX12_mean_8) hS (fun H locs hP hS => ?_)
  refine lv_if_eq (tgt := 25) hx hb dX12_mean_11 (by decide) (fun k3 => ?_) (fun k3 => ?_)
  · replace hf := zt k3 hf
    refine lv_ldc2 hx hb hown (hts (.constantLong RX12 196 (-1)) (by decide +kernel)) dX12_mean_25 ?_
    exact hret _ _ _ hf _ _ _ _ hP hS dX12_mean_28
  · replace hf := zf k3 hf
    refine lv_iload hx hb dX12_mean_14 (lv_at hl 6 rfl) ?_
    refine lv_i2l hx hb dX12_mean_16 rfl ?_
    refine lv_lconst (v := 0) hx hb dX12_mean_17 (by decide) ?_
    refine lv_lconst (v := 1) hx hb dX12_mean_18 (by decide) ?_
    obtain ⟨x4, h5, hf⟩ := zb1_e hf
    refine zgo_i (zrunS (As := [.long (p6.toInt64), .long 0, .long 1]) (rest := []) S (c_X12_in l hD (p6.toInt64) 0 1 h5) (va_cwS 3 hts gX12_mean_X12_in rfl rfl rfl ddX12_in ⟨Nat.le_trans (Nat.le_of_ble_eq_true rfl) hfr, Nat.le_trans (Nat.le_of_ble_eq_true rfl) hlo⟩) E hP hS hl.1 rfl rfl (Nat.le_of_ble_eq_true rfl) dX12_mean_19) hS (fun H locs hP hS => ?_)
    refine lv_if_ne (tgt := 29) hx hb dX12_mean_22 (by decide) (fun k6 => ?_) (fun k6 => ?_)
    · replace hf := zf k6 hf
      refine lv_aload_n hx hb dX12_mean_29 rfl (lv_at hl 0 rfl) ?_
      refine lv_iload_n hx hb dX12_mean_30 rfl (lv_at hl 1 rfl) ?_
      refine lv_iload_n hx hb dX12_mean_31 rfl (lv_at hl 2 rfl) ?_
      obtain ⟨I7, J8, h9, hf⟩ := zb2_e hf
      refine zgo_v (zrunV (As := [.int p1, .int p2]) (rest := []) S (c_X12_handles l hD p1 p2 h9) (cwV 2 hts gX12_mean_X12_handles rfl rfl rfl ddX12_handles ⟨Nat.le_trans (Nat.le_of_ble_eq_true rfl) hfr, Nat.le_trans (Nat.le_of_ble_eq_true rfl) hlo⟩) (va_recv E.1 hP (q := (RX12, TX12, 31)) (ci := 11) rfl (zO.get (oX12_at))) E hP hS hl.1 rfl rfl (Nat.le_of_ble_eq_true rfl) dX12_mean_32) hS (fun H locs hP hS => ?_)
      refine lv_aload_n hx hb dX12_mean_35 rfl (lv_at hl 0 rfl) ?_
      refine lv_iload hx hb dX12_mean_36 (lv_at hl 6 rfl) ?_
      obtain ⟨zr12, hf, hzr12⟩ := zb1_i hf
      have hjr12 : ∀ (x13 : Int32), x13 = zr12 → ∀ (H : Heap) (locs : List Loc) (ls : Array Slot), va_P D vwCl (zw 25 (kM cy ad) ad I7 J8) H → va_S A s.heap H locs → lv_has ls 9 [(0, .ref (ad 0)), (2, .int p2), (3, .int p3), (4, .int p4), (5, .int p5), (6, .int p6)] → W p l e R s m args below meth c H locs 0 0 Q (F0 m 46 ls [.int x13, .ref (ad 0)]) := by
        intro x13 ez H locs ls hP hS hl
        have hf := hzr12 x13 ez
        obtain ⟨J14, h15, hf⟩ := zb1_e hf
        refine zgo_v (zrunV (As := [.int x13]) (rest := []) S (c_X12_counts l hD x13 h15) (cwV 1 hts gX12_mean_X12_counts rfl rfl rfl ddX12_counts ⟨Nat.le_trans (Nat.le_of_ble_eq_true rfl) hfr, Nat.le_trans (Nat.le_of_ble_eq_true rfl) hlo⟩) (va_recv E.1 hP (q := (RX12, TX12, 31)) (ci := 11) rfl (zO.get (oX12_at))) E hP hS hl.1 rfl rfl (Nat.le_of_ble_eq_true rfl) dX12_mean_46) hS (fun H locs hP hS => ?_)
        refine lv_aload_n hx hb dX12_mean_49 rfl (lv_at hl 0 rfl) ?_
        refine lv_iload_n hx hb dX12_mean_50 rfl (lv_at hl 1 rfl) ?_
        obtain ⟨J16, h17, hf⟩ := zb1_e hf
        refine zgo_v (zrunV (As := [.int p2]) (rest := []) S (c_X12_follows l hD p2 h17) (cwV 1 hts gX12_mean_X12_follows rfl rfl rfl ddX12_follows ⟨Nat.le_trans (Nat.le_of_ble_eq_true rfl) hfr, Nat.le_trans (Nat.le_of_ble_eq_true rfl) hlo⟩) (va_recv E.1 hP (q := (RX12, TX12, 31)) (ci := 11) rfl (zO.get (oX12_at))) E hP hS hl.1 rfl rfl (Nat.le_of_ble_eq_true rfl) dX12_mean_51) hS (fun H locs hP hS => ?_)
        refine lv_aload_n hx hb dX12_mean_54 rfl (lv_at hl 0 rfl) ?_
        refine va_get (D := D) (ci := 11) (v := .ref (ad 16)) (C := RX12) (T := TX12) (N := 31) hx hb hts hinX12_mean_X12 hown E.1 hP 0 (zO.get (oX12_at)) rfl 18 (by decide) (hts (.fieldLink RX12 56 "EdgeAndSpeedModel" "value" "[J") (by decide +kernel)) (fun _ h9 => h9) rfl dX12_mean_55 ?_
        refine lv_iload_n hx hb dX12_mean_58 rfl (lv_at hl 2 rfl) ?_
        refine lv_iload hx hb dX12_mean_59 (lv_at hl 3 rfl) ?_
        refine lv_iload hx hb dX12_mean_61 (lv_at hl 4 rfl) ?_
        obtain ⟨x18, h19, hf⟩ := zb1_e hf
        refine zgo_i (zrunS (As := [.int p3, .int p4, .int p5]) (rest := [.ref (ad 16)]) S (c_X12_cell l hD p3 p4 p5 h19) (va_cwS 3 hts gX12_mean_X12_cell rfl rfl rfl ddX12_cell ⟨Nat.le_trans (Nat.le_of_ble_eq_true rfl) hfr, Nat.le_trans (Nat.le_of_ble_eq_true rfl) hlo⟩) E hP hS hl.1 rfl rfl (Nat.le_of_ble_eq_true rfl) dX12_mean_63) hS (fun H locs hP hS => ?_)
        obtain ⟨g20, hf⟩ := zg_i hf
        refine va_lald hx hb E.1 hP 16 2 (zLA.get (aX12_18)) rfl g20 dX12_mean_66 ?_
        refine lv_topl (fun u21 eu21 => ?_)
        replace hf := zn_s eu21 hf
        refine lv_lstore (lv' := [(7, .long u21), (0, .ref (ad 0)), (2, .int p2), (3, .int p3), (4, .int p4), (5, .int p5), (6, .int p6)]) hx hb dX12_mean_67 hl (by decide) rfl (fun ls hl => ?_)
        refine lv_iload hx hb dX12_mean_69 (lv_at hl 6 rfl) ?_
        refine lv_if_ne (tgt := 80) hx hb dX12_mean_71 (by decide) (fun k22 => ?_) (fun k22 => ?_)
        · replace hf := zf k22 hf
          refine lv_lload hx hb dX12_mean_80 (lv_at hl 0 rfl) ?_
          exact hret _ _ _ hf _ _ _ _ hP hS dX12_mean_82
        · replace hf := zt k22 hf
          refine lv_lload hx hb dX12_mean_74 (lv_at hl 0 rfl) ?_
          refine lv_lneg hx hb dX12_mean_76 ?_
          refine lv_goto (tgt := 82) hx hb dX12_mean_77 (by decide) ?_
          exact hret _ _ _ hf _ _ _ _ hP hS dX12_mean_82
      refine lv_if_ne (tgt := 45) hx hb dX12_mean_38 (by decide) (fun k10 => ?_) (fun k10 => ?_)
      · replace hf := zf k10 hf
        refine lv_iconst (v := 2) hx hb dX12_mean_45 (by decide) ?_
        exact hjr12 _ (Option.some.inj hf) _ _ _ hP hS (lv_sub hl [0, 2, 3, 4, 5, 6] rfl)
      · replace hf := zt k10 hf
        refine lv_iconst (v := 3) hx hb dX12_mean_41 (by decide) ?_
        refine lv_goto (tgt := 46) hx hb dX12_mean_42 (by decide) ?_
        exact hjr12 _ (Option.some.inj hf) _ _ _ hP hS (lv_sub hl [0, 2, 3, 4, 5, 6] rfl)
    · replace hf := zt k6 hf
      refine lv_ldc2 hx hb hown (hts (.constantLong RX12 196 (-1)) (by decide +kernel)) dX12_mean_25 ?_
      exact hret _ _ _ hf _ _ _ _ hP hS dX12_mean_28
theorem c_X12_mean (l : Launch) {D : va_G} {a0 : Nat → Nat} {A : Nat → Prop} {cy : Nat → ClassId} {ad : Nat → Nat} (hD : zD A 25 ad) {I : zI} {J : zJ} (p1 : Int32) (p2 : Int32) (p3 : Int32) (p4 : Int32) (p5 : Int32) (p6 : Int32) {rx : Int64} {rI : zI} {rJ : zJ} (hf : f_X12_mean I J p1 p2 p3 p4 p5 p6 = some (rx, rI, rJ)) : Met l yX12_mean wsX12_mean { frames := 5, cells := 0, slots := 0, locals := 131 } (zPc D a0 A cy [.ref (ad 0), .int p1, .int p2, .int p3, .int p4, .int p5, .int p6] (zw 25 (kM cy ad) ad I J)) (zQl D A rx (zw 25 (kM cy ad) ad rI rJ)) 0 0 A :=
  zmet RX12 (by decide) rfl rfl (Nat.le_of_ble_eq_true rfl) (fun p e R s m below meth c Q hfr hlo ls S0 hQ => w_X12_mean hfr hlo hD p1 p2 p3 p4 p5 p6 hf S0 (fun tx tI tJ hq H locs ls pc hP hS hd => by cases hq; exact hQ H locs _ hS (fun hx hb hr hlocks hfree => W.lret hx hb hr (fun t ht hW => ⟨⟨_, (), rfl, rfl, zht ht hP⟩, hS.F ht⟩) hfree hd hlocks)))
theorem ddX12_mean : yX12_mean.cls = RX12 ∧ yX12_mean.cls ≠ "java/lang/invoke/MethodHandle" ∧ yX12_mean.cls ≠ "java/lang/invoke/VarHandle" ∧ (parseMethodDescriptor yX12_mean.desc).map (fun d => d.parameters.length) = some 6 := by decide +kernel

def f_X12_meets (I : zI) (J : zJ) (p1 : Int32) (p2 : Int32) (p3 : Int32) : Option zI := zg (¬ ((0 : Int32) < 0 ∨ 2 ≤ (0 : Int32).toNatClampNeg)) ((if (I 5 (0 : Int32).toNatClampNeg) ≤ p1 then some I else zb1 ((if p2 = 0 then zb1 (f_X12_steps I J p1) (fun x6 => some (x6)) else some (p2)) : Option Int32) (fun x8 => zb1 (f_X12_cell I J p1 x8 p3) (fun x9 => zg (¬ (x9 < 0 ∨ 7272 ≤ x9.toNatClampNeg)) (zn (va_up I 18 (upd (I 18) x9.toNatClampNeg (vp_nar .boolean 1))) (fun I11 => some I11))))))
theorem hinX12_meets_X12 : ∀ w ∈ u_ws RX12 TX12 31, w ∈ wsX12_meets := by decide +kernel
set_option maxHeartbeats 4000000 in
set_option maxRecDepth 100000 in
theorem w_X12_meets {p : Program} {l : Launch} {e : Env} {R : Room} {s : State} {m : MethodId} {args : Array Value} {below : List Frame} {meth : Method} {c : Code} {Q : State → Prop} (hfr : 1 ≤ R.frames) (hlo : 22 ≤ R.locals) {D : va_G} {a0 : Nat → Nat} {A : Nat → Prop} {cy : Nat → ClassId} {ad : Nat → Nat} (hD : zD A 25 ad) {I : zI} {J : zJ} (p1 : Int32) (p2 : Int32) (p3 : Int32) {rI : zI} (hf : f_X12_meets I J p1 p2 p3 = some rI) {ls : Array Slot} (S0 : zSt p m c cX12_meets 4 s args wsX12_meets RX12 D a0 A cy (zw 25 (kM cy ad) ad I J) [.ref (ad 0), .int p1, .int p2, .int p3] ls) (hret : ∀ (tI : zI), some tI = some rI → ∀ (H : Heap) (locs : List Loc) (ls : Array Slot) (pc : Nat), va_P D vwCl (zw 25 (kM cy ad) ad tI J) H → va_S A s.heap H locs → decode cX12_meets pc = .ok (.return_, 1) → W p l e R s m args below meth c H locs 0 0 Q (F0 m pc ls [])) : W p l e R s m args below meth c s.heap [] 0 0 Q (F0 m 0 ls []) := by
  obtain ⟨S, E, hP, hl⟩ := S0
  obtain ⟨hx, hb, hml, hown, hts⟩ := id S
  have hS : va_S A s.heap s.heap [] := va_S.rf
  replace hl : lv_has ls 4 [(0, .ref (ad 0)), (1, .int p1), (2, .int p2), (3, .int p3)] := hl
  unfold f_X12_meets at hf
  refine lv_iload_n hx hb dX12_meets_0 rfl (lv_at hl 1 rfl) ?_
  refine lv_aload_n hx hb dX12_meets_1 rfl (lv_at hl 0 rfl) ?_
  refine va_get (D := D) (ci := 11) (v := .ref (ad 5)) (C := RX12) (T := TX12) (N := 31) hx hb hts hinX12_meets_X12 hown E.1 hP 0 (zO.get (oX12_at)) rfl 6 (by decide) (hts (.fieldLink RX12 23 "EdgeAndSpeedModel" "pieces" "[I") (by decide +kernel)) (fun _ h9 => h9) rfl dX12_meets_2 ?_
  refine lv_iconst (v := 0) hx hb dX12_meets_5 (by decide) ?_
  obtain ⟨g1, hf⟩ := zg_i hf
  refine va_iald hx hb E.1 hP 5 1 (zIA.get (aX12_6)) rfl g1 dX12_meets_6 ?_
  refine lv_icmp_ge (tgt := 34) hx hb dX12_meets_7 (by decide) (fun k2 => ?_) (fun k2 => ?_)
  · replace hf := zt k2 hf
    exact hret _ hf _ _ _ _ hP hS dX12_meets_34
  · replace hf := zf k2 hf
    refine lv_aload_n hx hb dX12_meets_10 rfl (lv_at hl 0 rfl) ?_
    refine va_get (D := D) (ci := 11) (v := .ref (ad 18)) (C := RX12) (T := TX12) (N := 31) hx hb hts hinX12_meets_X12 hown E.1 hP 0 (zO.get (oX12_at)) rfl 20 (by decide) (hts (.fieldLink RX12 63 "EdgeAndSpeedModel" "met" "[Z") (by decide +kernel)) (fun _ h9 => h9) rfl dX12_meets_11 ?_
    refine lv_iload_n hx hb dX12_meets_14 rfl (lv_at hl 1 rfl) ?_
    refine lv_iload_n hx hb dX12_meets_15 rfl (lv_at hl 2 rfl) ?_
    obtain ⟨zr5, hf, hzr5⟩ := zb1_i hf
    have hjr5 : ∀ (x8 : Int32), x8 = zr5 → ∀ (H : Heap) (locs : List Loc) (ls : Array Slot), va_P D vwCl (zw 25 (kM cy ad) ad I J) H → va_S A s.heap H locs → lv_has ls 4 [(3, .int p3)] → W p l e R s m args below meth c H locs 0 0 Q (F0 m 28 ls [.int x8, .int p1, .ref (ad 18)]) := by
      intro x8 ez H locs ls hP hS hl
      have hf := hzr5 x8 ez
      refine lv_iload_n hx hb dX12_meets_28 rfl (lv_at hl 0 rfl) ?_
      obtain ⟨x9, h10, hf⟩ := zb1_e hf
      refine zgo_i (zrunS (As := [.int p1, .int x8, .int p3]) (rest := [.ref (ad 18)]) S (c_X12_cell l hD p1 x8 p3 h10) (va_cwS 3 hts gX12_meets_X12_cell rfl rfl rfl ddX12_cell ⟨Nat.le_trans (Nat.le_of_ble_eq_true rfl) hfr, Nat.le_trans (Nat.le_of_ble_eq_true rfl) hlo⟩) E hP hS hl.1 rfl rfl (Nat.le_of_ble_eq_true rfl) dX12_meets_29) hS (fun H locs hP hS => ?_)
      refine lv_iconst (v := 1) hx hb dX12_meets_32 (by decide) ?_
      obtain ⟨g12, hf⟩ := zg_i hf
      obtain ⟨I11, eI11⟩ := zex (va_up I 18 (upd (I 18) x9.toNatClampNeg (vp_nar .boolean 1)))
      replace hf := zn_s eI11 hf
      refine zast_z hx hb E.1 hP hD.D hS (aX12_20) g12 dX12_meets_33 eI11 (fun H locs hP hS => ?_)
      exact hret _ hf _ _ _ _ hP hS dX12_meets_34
    refine lv_if_ne (tgt := 27) hx hb dX12_meets_16 (by decide) (fun k3 => ?_) (fun k3 => ?_)
    · replace hf := zf k3 hf
      refine lv_iload_n hx hb dX12_meets_27 rfl (lv_at hl 2 rfl) ?_
      exact hjr5 _ (Option.some.inj hf) _ _ _ hP hS (lv_sub hl [3] rfl)
    · replace hf := zt k3 hf
      refine lv_aload_n hx hb dX12_meets_19 rfl (lv_at hl 0 rfl) ?_
      refine lv_iload_n hx hb dX12_meets_20 rfl (lv_at hl 1 rfl) ?_
      obtain ⟨x6, h7, hf⟩ := zb1_e hf
      refine zgo_i (zrunV (As := [.int p1]) (rest := [.int p1, .ref (ad 18)]) S (c_X12_steps l hD p1 h7) (cwV 1 hts gX12_meets_X12_steps rfl rfl rfl ddX12_steps ⟨Nat.le_trans (Nat.le_of_ble_eq_true rfl) hfr, Nat.le_trans (Nat.le_of_ble_eq_true rfl) hlo⟩) (va_recv E.1 hP (q := (RX12, TX12, 31)) (ci := 11) rfl (zO.get (oX12_at))) E hP hS hl.1 rfl rfl (Nat.le_of_ble_eq_true rfl) dX12_meets_21) hS (fun H locs hP hS => ?_)
      refine lv_goto (tgt := 28) hx hb dX12_meets_24 (by decide) ?_
      exact hjr5 _ (Option.some.inj hf) _ _ _ hP hS (lv_sub hl [3] rfl)
theorem c_X12_meets (l : Launch) {D : va_G} {a0 : Nat → Nat} {A : Nat → Prop} {cy : Nat → ClassId} {ad : Nat → Nat} (hD : zD A 25 ad) {I : zI} {J : zJ} (p1 : Int32) (p2 : Int32) (p3 : Int32) {rI : zI} (hf : f_X12_meets I J p1 p2 p3 = some rI) : Met l yX12_meets wsX12_meets { frames := 1, cells := 0, slots := 0, locals := 22 } (zPc D a0 A cy [.ref (ad 0), .int p1, .int p2, .int p3] (zw 25 (kM cy ad) ad I J)) (zQv D A (zw 25 (kM cy ad) ad rI J)) 0 0 A :=
  zmet RX12 (by decide) rfl rfl (Nat.le_of_ble_eq_true rfl) (fun p e R s m below meth c Q hfr hlo ls S0 hQ => w_X12_meets hfr hlo hD p1 p2 p3 hf S0 (fun tI hq H locs ls pc hP hS hd => by cases hq; exact hQ H locs _ hS (fun hx hb hr hlocks hfree => W.vret hx hb hr (fun t ht hW => ⟨⟨(), rfl, trivial, zht ht hP⟩, hS.F ht⟩) hfree hd hlocks)))
theorem ddX12_meets : yX12_meets.cls = RX12 ∧ yX12_meets.cls ≠ "java/lang/invoke/MethodHandle" ∧ yX12_meets.cls ≠ "java/lang/invoke/VarHandle" ∧ (parseMethodDescriptor yX12_meets.desc).map (fun d => d.parameters.length) = some 3 := by decide +kernel

def f_X12_walksOn (I : zI) (J : zJ) (p1 : Int32) (p2 : Int32) (p3 : Int32) (p4 : Int32) : Option zI := zb1 (f_X12_cell I J p1 p2 p3) (fun x1 => zg (¬ (x1 < 0 ∨ 7272 ≤ x1.toNatClampNeg)) (zn ((I 15 x1.toNatClampNeg)) (fun y4 => (if y4 = 48 then zb1 (f_X12_meets I J p1 p2 0) (fun I34 => some I34) else (if y4 = 49 then zb1 (f_X12_meets I J (p1 + 1) 0 p3) (fun I32 => some I32) else zb1 (f_X12_wears I J p1 (y4 / 8) ((y4 - y4 / 8 * 8) + 1) p4) (fun x7 => zn ((p3 + x7)) (fun y9 => zb1 ((if y9 ≤ 100 then zb1 (f_X12_breaksAt I J p3) (fun x13 => some (x13)) else some (100)) : Option Int32) (fun x15 => zb1 ((if x15 ≤ 0 then some (I) else zb1 (f_X12_meets I J (p1 + 1) 0 0) (fun I19 => some (I19))) : Option zI) (fun I21 => (if 100 ≤ x15 then (if 100 ≤ x15 then some I21 else zb1 (f_X12_meets I21 J (p1 + 1) 0 y9) (fun I24 => some I24)) else (if p2 ≤ ((y4 - y4 / 8 * 8) + 1) then (if 100 ≤ x15 then some I21 else zb1 (f_X12_meets I21 J (p1 + 1) 0 y9) (fun I28 => some I28)) else zb1 (f_X12_meets I21 J p1 ((p2 - (y4 - y4 / 8 * 8)) - 1) y9) (fun I30 => some I30))))))))))))
theorem hinX12_walksOn_X12 : ∀ w ∈ u_ws RX12 TX12 31, w ∈ wsX12_walksOn := by decide +kernel
set_option maxHeartbeats 4000000 in
set_option maxRecDepth 100000 in
theorem w_X12_walksOn {p : Program} {l : Launch} {e : Env} {R : Room} {s : State} {m : MethodId} {args : Array Value} {below : List Frame} {meth : Method} {c : Code} {Q : State → Prop} (hfr : 2 ≤ R.frames) (hlo : 45 ≤ R.locals) {D : va_G} {a0 : Nat → Nat} {A : Nat → Prop} {cy : Nat → ClassId} {ad : Nat → Nat} (hD : zD A 25 ad) {I : zI} {J : zJ} (p1 : Int32) (p2 : Int32) (p3 : Int32) (p4 : Int32) {rI : zI} (hf : f_X12_walksOn I J p1 p2 p3 p4 = some rI) {ls : Array Slot} (S0 : zSt p m c cX12_walksOn 8 s args wsX12_walksOn RX12 D a0 A cy (zw 25 (kM cy ad) ad I J) [.ref (ad 0), .int p1, .int p2, .int p3, .int p4] ls) (hret : ∀ (tI : zI), some tI = some rI → ∀ (H : Heap) (locs : List Loc) (ls : Array Slot) (pc : Nat), va_P D vwCl (zw 25 (kM cy ad) ad tI J) H → va_S A s.heap H locs → decode cX12_walksOn pc = .ok (.return_, 1) → W p l e R s m args below meth c H locs 0 0 Q (F0 m pc ls [])) : W p l e R s m args below meth c s.heap [] 0 0 Q (F0 m 0 ls []) := by
  obtain ⟨S, E, hP, hl⟩ := S0
  obtain ⟨hx, hb, hml, hown, hts⟩ := id S
  have hS : va_S A s.heap s.heap [] := va_S.rf
  replace hl : lv_has ls 8 [(0, .ref (ad 0)), (1, .int p1), (2, .int p2), (3, .int p3), (4, .int p4)] := hl
  unfold f_X12_walksOn at hf
  refine lv_aload_n hx hb dX12_walksOn_0 rfl (lv_at hl 0 rfl) ?_
  refine va_get (D := D) (ci := 11) (v := .ref (ad 15)) (C := RX12) (T := TX12) (N := 31) hx hb hts hinX12_walksOn_X12 hown E.1 hP 0 (zO.get (oX12_at)) rfl 17 (by decide) (hts (.fieldLink RX12 53 "EdgeAndSpeedModel" "act" "[I") (by decide +kernel)) (fun _ h9 => h9) rfl dX12_walksOn_1 ?_
  refine lv_iload_n hx hb dX12_walksOn_4 rfl (lv_at hl 1 rfl) ?_
  refine lv_iload_n hx hb dX12_walksOn_5 rfl (lv_at hl 2 rfl) ?_
  refine lv_iload_n hx hb dX12_walksOn_6 rfl (lv_at hl 3 rfl) ?_
  obtain ⟨x1, h2, hf⟩ := zb1_e hf
  refine zgo_i (zrunS (As := [.int p1, .int p2, .int p3]) (rest := [.ref (ad 15)]) S (c_X12_cell l hD p1 p2 p3 h2) (va_cwS 3 hts gX12_walksOn_X12_cell rfl rfl rfl ddX12_cell ⟨Nat.le_trans (Nat.le_of_ble_eq_true rfl) hfr, Nat.le_trans (Nat.le_of_ble_eq_true rfl) hlo⟩) E hP hS hl.1 rfl rfl (Nat.le_of_ble_eq_true rfl) dX12_walksOn_7) hS (fun H locs hP hS => ?_)
  obtain ⟨g3, hf⟩ := zg_i hf
  refine va_iald hx hb E.1 hP 15 1 (zIA.get (aX12_17)) rfl g3 dX12_walksOn_10 ?_
  refine lv_topi (fun y4 ey4 => ?_)
  replace hf := zn_s ey4 hf
  refine lv_istore (lv' := [(5, .int y4), (0, .ref (ad 0)), (1, .int p1), (2, .int p2), (3, .int p3), (4, .int p4)]) hx hb dX12_walksOn_11 hl (by decide) rfl (fun ls hl => ?_)
  refine lv_iload hx hb dX12_walksOn_13 (lv_at hl 0 rfl) ?_
  refine lv_bipush (v := 48) hx hb dX12_walksOn_15 (by decide) ?_
  refine lv_icmp_ne (tgt := 28) hx hb dX12_walksOn_17 (by decide) (fun k5 => ?_) (fun k5 => ?_)
  · replace hf := zf k5 hf
    refine lv_iload hx hb dX12_walksOn_28 (lv_at hl 0 rfl) ?_
    refine lv_bipush (v := 49) hx hb dX12_walksOn_30 (by decide) ?_
    refine lv_icmp_ne (tgt := 45) hx hb dX12_walksOn_32 (by decide) (fun k6 => ?_) (fun k6 => ?_)
    · replace hf := zf k6 hf
      refine lv_iload_n hx hb dX12_walksOn_45 rfl (lv_at hl 4 rfl) ?_
      refine lv_aload_n hx hb dX12_walksOn_46 rfl (lv_at hl 1 rfl) ?_
      refine lv_iload_n hx hb dX12_walksOn_47 rfl (lv_at hl 2 rfl) ?_
      refine lv_iload hx hb dX12_walksOn_48 (lv_at hl 0 rfl) ?_
      refine lv_bipush (v := 8) hx hb dX12_walksOn_50 (by decide) ?_
      refine lv_idiv hx hb dX12_walksOn_52 (by decide) ?_
      refine lv_iload hx hb dX12_walksOn_53 (lv_at hl 0 rfl) ?_
      refine lv_bipush (v := 8) hx hb dX12_walksOn_55 (by decide) ?_
      refine lv_irem hx hb dX12_walksOn_57 (by decide) ?_
      refine lv_iconst (v := 1) hx hb dX12_walksOn_58 (by decide) ?_
      refine lv_iadd hx hb dX12_walksOn_59 ?_
      refine lv_iload hx hb dX12_walksOn_60 (lv_at hl 5 rfl) ?_
      obtain ⟨x7, h8, hf⟩ := zb1_e hf
      refine zgo_i (zrunV (As := [.int p1, .int (y4 / 8), .int ((y4 - y4 / 8 * 8) + 1), .int p4]) (rest := [.int p3]) S (c_X12_wears l hD p1 (y4 / 8) ((y4 - y4 / 8 * 8) + 1) p4 h8) (cwV 4 hts gX12_walksOn_X12_wears rfl rfl rfl ddX12_wears ⟨Nat.le_trans (Nat.le_of_ble_eq_true rfl) hfr, Nat.le_trans (Nat.le_of_ble_eq_true rfl) hlo⟩) (va_recv E.1 hP (q := (RX12, TX12, 31)) (ci := 11) rfl (zO.get (oX12_at))) E hP hS hl.1 rfl rfl (Nat.le_of_ble_eq_true rfl) dX12_walksOn_62) hS (fun H locs hP hS => ?_)
      refine lv_iadd hx hb dX12_walksOn_65 ?_
      refine lv_topi (fun y9 ey9 => ?_)
      replace hf := zn_s ey9 hf
      refine lv_istore (lv' := [(6, .int y9), (5, .int y4), (0, .ref (ad 0)), (1, .int p1), (2, .int p2), (3, .int p3), (4, .int p4)]) hx hb dX12_walksOn_66 hl (by decide) rfl (fun ls hl => ?_)
      refine lv_iload hx hb dX12_walksOn_68 (lv_at hl 0 rfl) ?_
      refine lv_bipush (v := 100) hx hb dX12_walksOn_70 (by decide) ?_
      obtain ⟨zr12, hf, hzr12⟩ := zb1_i hf
      have hjr12 : ∀ (x15 : Int32), x15 = zr12 → ∀ (H : Heap) (locs : List Loc) (ls : Array Slot), va_P D vwCl (zw 25 (kM cy ad) ad I J) H → va_S A s.heap H locs → lv_has ls 8 [(0, .ref (ad 0)), (1, .int p1), (2, .int p2), (5, .int y4), (6, .int y9)] → W p l e R s m args below meth c H locs 0 0 Q (F0 m 85 ls [.int x15]) := by
        intro x15 ez H locs ls hP hS hl
        have hf := hzr12 x15 ez
        refine lv_istore (lv' := [(7, .int x15), (0, .ref (ad 0)), (1, .int p1), (2, .int p2), (5, .int y4), (6, .int y9)]) hx hb dX12_walksOn_85 hl (by decide) rfl (fun ls hl => ?_)
        refine lv_iload hx hb dX12_walksOn_87 (lv_at hl 0 rfl) ?_
        obtain ⟨zr18, hf, hzr18⟩ := zb1_i hf
        have hjr18 : ∀ (I21 : zI), I21 = zr18 → ∀ (H : Heap) (locs : List Loc) (ls : Array Slot), va_P D vwCl (zw 25 (kM cy ad) ad I21 J) H → va_S A s.heap H locs → lv_has ls 8 [(0, .ref (ad 0)), (1, .int p1), (2, .int p2), (5, .int y4), (6, .int y9), (7, .int x15)] → W p l e R s m args below meth c H locs 0 0 Q (F0 m 101 ls []) := by
          intro I21 ez H locs ls hP hS hl
          have hf := hzr18 I21 ez
          refine lv_iload hx hb dX12_walksOn_101 (lv_at hl 5 rfl) ?_
          refine lv_bipush (v := 100) hx hb dX12_walksOn_103 (by decide) ?_
          refine lv_icmp_ge (tgt := 138) hx hb dX12_walksOn_105 (by decide) (fun k22 => ?_) (fun k22 => ?_)
          · replace hf := zt k22 hf
            refine lv_iload hx hb dX12_walksOn_138 (lv_at hl 5 rfl) ?_
            refine lv_bipush (v := 100) hx hb dX12_walksOn_140 (by decide) ?_
            refine lv_icmp_ge (tgt := 155) hx hb dX12_walksOn_142 (by decide) (fun k23 => ?_) (fun k23 => ?_)
            · replace hf := zt k23 hf
              exact hret _ hf _ _ _ _ hP hS dX12_walksOn_155
            · replace hf := zf k23 hf
              refine lv_aload_n hx hb dX12_walksOn_145 rfl (lv_at hl 0 rfl) ?_
              refine lv_iload_n hx hb dX12_walksOn_146 rfl (lv_at hl 1 rfl) ?_
              refine lv_iconst (v := 1) hx hb dX12_walksOn_147 (by decide) ?_
              refine lv_iadd hx hb dX12_walksOn_148 ?_
              refine lv_iconst (v := 0) hx hb dX12_walksOn_149 (by decide) ?_
              refine lv_iload hx hb dX12_walksOn_150 (lv_at hl 4 rfl) ?_
              obtain ⟨I24, h25, hf⟩ := zb1_e hf
              refine zgo_v (zrunV (As := [.int (p1 + 1), .int 0, .int y9]) (rest := []) S (c_X12_meets l hD (p1 + 1) 0 y9 h25) (cwV 3 hts gX12_walksOn_X12_meets rfl rfl rfl ddX12_meets ⟨Nat.le_trans (Nat.le_of_ble_eq_true rfl) hfr, Nat.le_trans (Nat.le_of_ble_eq_true rfl) hlo⟩) (va_recv E.1 hP (q := (RX12, TX12, 31)) (ci := 11) rfl (zO.get (oX12_at))) E hP hS hl.1 rfl rfl (Nat.le_of_ble_eq_true rfl) dX12_walksOn_152) hS (fun H locs hP hS => ?_)
              exact hret _ hf _ _ _ _ hP hS dX12_walksOn_155
          · replace hf := zf k22 hf
            refine lv_iload_n hx hb dX12_walksOn_108 rfl (lv_at hl 2 rfl) ?_
            refine lv_iload hx hb dX12_walksOn_109 (lv_at hl 3 rfl) ?_
            refine lv_bipush (v := 8) hx hb dX12_walksOn_111 (by decide) ?_
            refine lv_irem hx hb dX12_walksOn_113 (by decide) ?_
            refine lv_iconst (v := 1) hx hb dX12_walksOn_114 (by decide) ?_
            refine lv_iadd hx hb dX12_walksOn_115 ?_
            refine lv_icmp_le (tgt := 138) hx hb dX12_walksOn_116 (by decide) (fun k26 => ?_) (fun k26 => ?_)
            · replace hf := zt k26 hf
              refine lv_iload hx hb dX12_walksOn_138 (lv_at hl 5 rfl) ?_
              refine lv_bipush (v := 100) hx hb dX12_walksOn_140 (by decide) ?_
              refine lv_icmp_ge (tgt := 155) hx hb dX12_walksOn_142 (by decide) (fun k27 => ?_) (fun k27 => ?_)
              · replace hf := zt k27 hf
                exact hret _ hf _ _ _ _ hP hS dX12_walksOn_155
              · replace hf := zf k27 hf
                refine lv_aload_n hx hb dX12_walksOn_145 rfl (lv_at hl 0 rfl) ?_
                refine lv_iload_n hx hb dX12_walksOn_146 rfl (lv_at hl 1 rfl) ?_
                refine lv_iconst (v := 1) hx hb dX12_walksOn_147 (by decide) ?_
                refine lv_iadd hx hb dX12_walksOn_148 ?_
                refine lv_iconst (v := 0) hx hb dX12_walksOn_149 (by decide) ?_
                refine lv_iload hx hb dX12_walksOn_150 (lv_at hl 4 rfl) ?_
                obtain ⟨I28, h29, hf⟩ := zb1_e hf
                refine zgo_v (zrunV (As := [.int (p1 + 1), .int 0, .int y9]) (rest := []) S (c_X12_meets l hD (p1 + 1) 0 y9 h29) (cwV 3 hts gX12_walksOn_X12_meets rfl rfl rfl ddX12_meets ⟨Nat.le_trans (Nat.le_of_ble_eq_true rfl) hfr, Nat.le_trans (Nat.le_of_ble_eq_true rfl) hlo⟩) (va_recv E.1 hP (q := (RX12, TX12, 31)) (ci := 11) rfl (zO.get (oX12_at))) E hP hS hl.1 rfl rfl (Nat.le_of_ble_eq_true rfl) dX12_walksOn_152) hS (fun H locs hP hS => ?_)
                exact hret _ hf _ _ _ _ hP hS dX12_walksOn_155
            · replace hf := zf k26 hf
              refine lv_aload_n hx hb dX12_walksOn_119 rfl (lv_at hl 0 rfl) ?_
              refine lv_iload_n hx hb dX12_walksOn_120 rfl (lv_at hl 1 rfl) ?_
              refine lv_iload_n hx hb dX12_walksOn_121 rfl (lv_at hl 2 rfl) ?_
              refine lv_iload hx hb dX12_walksOn_122 (lv_at hl 3 rfl) ?_
              refine lv_bipush (v := 8) hx hb dX12_walksOn_124 (by decide) ?_
              refine lv_irem hx hb dX12_walksOn_126 (by decide) ?_
              refine lv_isub hx hb dX12_walksOn_127 ?_
              refine lv_iconst (v := 1) hx hb dX12_walksOn_128 (by decide) ?_
              refine lv_isub hx hb dX12_walksOn_129 ?_
              refine lv_iload hx hb dX12_walksOn_130 (lv_at hl 4 rfl) ?_
              obtain ⟨I30, h31, hf⟩ := zb1_e hf
              refine zgo_v (zrunV (As := [.int p1, .int ((p2 - (y4 - y4 / 8 * 8)) - 1), .int y9]) (rest := []) S (c_X12_meets l hD p1 ((p2 - (y4 - y4 / 8 * 8)) - 1) y9 h31) (cwV 3 hts gX12_walksOn_X12_meets rfl rfl rfl ddX12_meets ⟨Nat.le_trans (Nat.le_of_ble_eq_true rfl) hfr, Nat.le_trans (Nat.le_of_ble_eq_true rfl) hlo⟩) (va_recv E.1 hP (q := (RX12, TX12, 31)) (ci := 11) rfl (zO.get (oX12_at))) E hP hS hl.1 rfl rfl (Nat.le_of_ble_eq_true rfl) dX12_walksOn_132) hS (fun H locs hP hS => ?_)
              refine lv_goto (tgt := 155) hx hb dX12_walksOn_135 (by decide) ?_
              exact hret _ hf _ _ _ _ hP hS dX12_walksOn_155
        refine lv_if_le (tgt := 101) hx hb dX12_walksOn_89 (by decide) (fun k16 => ?_) (fun k16 => ?_)
        · replace hf := zt k16 hf
          exact hjr18 _ (Option.some.inj hf) _ _ _ hP hS (lv_sub hl [1, 2, 3, 4, 5, 0] rfl)
        · replace hf := zf k16 hf
          refine lv_aload_n hx hb dX12_walksOn_92 rfl (lv_at hl 1 rfl) ?_
          refine lv_iload_n hx hb dX12_walksOn_93 rfl (lv_at hl 2 rfl) ?_
          refine lv_iconst (v := 1) hx hb dX12_walksOn_94 (by decide) ?_
          refine lv_iadd hx hb dX12_walksOn_95 ?_
          refine lv_iconst (v := 0) hx hb dX12_walksOn_96 (by decide) ?_
          refine lv_iconst (v := 0) hx hb dX12_walksOn_97 (by decide) ?_
          obtain ⟨I19, h20, hf⟩ := zb1_e hf
          refine zgo_v (zrunV (As := [.int (p1 + 1), .int 0, .int 0]) (rest := []) S (c_X12_meets l hD (p1 + 1) 0 0 h20) (cwV 3 hts gX12_walksOn_X12_meets rfl rfl rfl ddX12_meets ⟨Nat.le_trans (Nat.le_of_ble_eq_true rfl) hfr, Nat.le_trans (Nat.le_of_ble_eq_true rfl) hlo⟩) (va_recv E.1 hP (q := (RX12, TX12, 31)) (ci := 11) rfl (zO.get (oX12_at))) E hP hS hl.1 rfl rfl (Nat.le_of_ble_eq_true rfl) dX12_walksOn_98) hS (fun H locs hP hS => ?_)
          exact hjr18 _ (Option.some.inj hf) _ _ _ hP hS (lv_sub hl [1, 2, 3, 4, 5, 0] rfl)
      refine lv_icmp_le (tgt := 80) hx hb dX12_walksOn_72 (by decide) (fun k10 => ?_) (fun k10 => ?_)
      · replace hf := zt k10 hf
        refine lv_aload_n hx hb dX12_walksOn_80 rfl (lv_at hl 2 rfl) ?_
        refine lv_iload_n hx hb dX12_walksOn_81 rfl (lv_at hl 5 rfl) ?_
        obtain ⟨x13, h14, hf⟩ := zb1_e hf
        refine zgo_i (zrunV (As := [.int p3]) (rest := []) S (c_X12_breaksAt l hD p3 h14) (cwV 1 hts gX12_walksOn_X12_breaksAt rfl rfl rfl ddX12_breaksAt ⟨Nat.le_trans (Nat.le_of_ble_eq_true rfl) hfr, Nat.le_trans (Nat.le_of_ble_eq_true rfl) hlo⟩) (va_recv E.1 hP (q := (RX12, TX12, 31)) (ci := 11) rfl (zO.get (oX12_at))) E hP hS hl.1 rfl rfl (Nat.le_of_ble_eq_true rfl) dX12_walksOn_82) hS (fun H locs hP hS => ?_)
        exact hjr12 _ (Option.some.inj hf) _ _ _ hP hS (lv_sub hl [2, 3, 4, 1, 0] rfl)
      · replace hf := zf k10 hf
        refine lv_bipush (v := 100) hx hb dX12_walksOn_75 (by decide) ?_
        refine lv_goto (tgt := 85) hx hb dX12_walksOn_77 (by decide) ?_
        exact hjr12 _ (Option.some.inj hf) _ _ _ hP hS (lv_sub hl [2, 3, 4, 1, 0] rfl)
    · replace hf := zt k6 hf
      refine lv_aload_n hx hb dX12_walksOn_35 rfl (lv_at hl 1 rfl) ?_
      refine lv_iload_n hx hb dX12_walksOn_36 rfl (lv_at hl 2 rfl) ?_
      refine lv_iconst (v := 1) hx hb dX12_walksOn_37 (by decide) ?_
      refine lv_iadd hx hb dX12_walksOn_38 ?_
      refine lv_iconst (v := 0) hx hb dX12_walksOn_39 (by decide) ?_
      refine lv_iload_n hx hb dX12_walksOn_40 rfl (lv_at hl 4 rfl) ?_
      obtain ⟨I32, h33, hf⟩ := zb1_e hf
      refine zgo_v (zrunV (As := [.int (p1 + 1), .int 0, .int p3]) (rest := []) S (c_X12_meets l hD (p1 + 1) 0 p3 h33) (cwV 3 hts gX12_walksOn_X12_meets rfl rfl rfl ddX12_meets ⟨Nat.le_trans (Nat.le_of_ble_eq_true rfl) hfr, Nat.le_trans (Nat.le_of_ble_eq_true rfl) hlo⟩) (va_recv E.1 hP (q := (RX12, TX12, 31)) (ci := 11) rfl (zO.get (oX12_at))) E hP hS hl.1 rfl rfl (Nat.le_of_ble_eq_true rfl) dX12_walksOn_41) hS (fun H locs hP hS => ?_)
      exact hret _ hf _ _ _ _ hP hS dX12_walksOn_44
  · replace hf := zt k5 hf
    refine lv_aload_n hx hb dX12_walksOn_20 rfl (lv_at hl 1 rfl) ?_
    refine lv_iload_n hx hb dX12_walksOn_21 rfl (lv_at hl 2 rfl) ?_
    refine lv_iload_n hx hb dX12_walksOn_22 rfl (lv_at hl 3 rfl) ?_
    refine lv_iconst (v := 0) hx hb dX12_walksOn_23 (by decide) ?_
    obtain ⟨I34, h35, hf⟩ := zb1_e hf
    refine zgo_v (zrunV (As := [.int p1, .int p2, .int 0]) (rest := []) S (c_X12_meets l hD p1 p2 0 h35) (cwV 3 hts gX12_walksOn_X12_meets rfl rfl rfl ddX12_meets ⟨Nat.le_trans (Nat.le_of_ble_eq_true rfl) hfr, Nat.le_trans (Nat.le_of_ble_eq_true rfl) hlo⟩) (va_recv E.1 hP (q := (RX12, TX12, 31)) (ci := 11) rfl (zO.get (oX12_at))) E hP hS hl.1 rfl rfl (Nat.le_of_ble_eq_true rfl) dX12_walksOn_24) hS (fun H locs hP hS => ?_)
    exact hret _ hf _ _ _ _ hP hS dX12_walksOn_27
theorem c_X12_walksOn (l : Launch) {D : va_G} {a0 : Nat → Nat} {A : Nat → Prop} {cy : Nat → ClassId} {ad : Nat → Nat} (hD : zD A 25 ad) {I : zI} {J : zJ} (p1 : Int32) (p2 : Int32) (p3 : Int32) (p4 : Int32) {rI : zI} (hf : f_X12_walksOn I J p1 p2 p3 p4 = some rI) : Met l yX12_walksOn wsX12_walksOn { frames := 2, cells := 0, slots := 0, locals := 45 } (zPc D a0 A cy [.ref (ad 0), .int p1, .int p2, .int p3, .int p4] (zw 25 (kM cy ad) ad I J)) (zQv D A (zw 25 (kM cy ad) ad rI J)) 0 0 A :=
  zmet RX12 (by decide) rfl rfl (Nat.le_of_ble_eq_true rfl) (fun p e R s m below meth c Q hfr hlo ls S0 hQ => w_X12_walksOn hfr hlo hD p1 p2 p3 p4 hf S0 (fun tI hq H locs ls pc hP hS hd => by cases hq; exact hQ H locs _ hS (fun hx hb hr hlocks hfree => W.vret hx hb hr (fun t ht hW => ⟨⟨(), rfl, trivial, zht ht hP⟩, hS.F ht⟩) hfree hd hlocks)))
theorem ddX12_walksOn : yX12_walksOn.cls = RX12 ∧ yX12_walksOn.cls ≠ "java/lang/invoke/MethodHandle" ∧ yX12_walksOn.cls ≠ "java/lang/invoke/VarHandle" ∧ (parseMethodDescriptor yX12_walksOn.desc).map (fun d => d.parameters.length) = some 4 := by decide +kernel

def f_X12_walks_L55 (J : zJ) (x12 : Int32) (x19 : Int32) (p1 : Int32) (x23 : Int32) (I24 : zI) : Option ((Int32 × zI) ⊕ zI) := (if x23 < 0 then some (.inr I24) else zb1 (f_X12_cell I24 J x12 x19 x23) (fun x26 => zg (¬ (x26 < 0 ∨ 7272 ≤ x26.toNatClampNeg)) ((if (I24 18 x26.toNatClampNeg) = 0 then zn (x23 + (-1)) (fun y30 => some (.inl (y30, I24))) else zb1 (f_X12_walksOn I24 J x12 x19 x23 p1) (fun I31 => zn (x23 + (-1)) (fun y33 => some (.inl (y33, I31))))))))
def f_X12_walks_L47 (J : zJ) (x12 : Int32) (p1 : Int32) (x19 : Int32) (I20 : zI) : Option ((Int32 × zI) ⊕ zI) := (if x19 ≤ 0 then some (.inr I20) else zb1 (zl (fun v : (Int32 × zI) => f_X12_walks_L55 J x12 x19 p1 v.1 v.2) zF (100, I20)) (fun I34 => zn (x19 + (-1)) (fun y35 => some (.inl (y35, I34)))))
def f_X12_walks_L31 (J : zJ) (p1 : Int32) (x12 : Int32) (I13 : zI) : Option ((Int32 × zI) ⊕ zI) := zg (¬ ((0 : Int32) < 0 ∨ 2 ≤ (0 : Int32).toNatClampNeg)) ((if (I13 5 (0 : Int32).toNatClampNeg) ≤ x12 then some (.inr I13) else zb1 (f_X12_steps I13 J x12) (fun x16 => zb1 (zl (fun v : (Int32 × zI) => f_X12_walks_L47 J x12 p1 v.1 v.2) zF (x16, I13)) (fun I36 => zn (x12 + 1) (fun y37 => some (.inl (y37, I36)))))))
def f_X12_walks_L2 (x2 : Int32) (I3 : zI) : Option ((Int32 × zI) ⊕ zI) := (if 7272 ≤ x2 then some (.inr I3) else zg (¬ (x2 < 0 ∨ 7272 ≤ x2.toNatClampNeg)) (zn (va_up I3 18 (upd (I3 18) x2.toNatClampNeg (vp_nar .boolean 0))) (fun I5 => zn (x2 + 1) (fun y7 => some (.inl (y7, I5))))))
def f_X12_walks (I : zI) (J : zJ) (p1 : Int32) : Option zI := zb1 (zl (fun v : (Int32 × zI) => f_X12_walks_L2 v.1 v.2) zF (0, I)) (fun I8 => zb1 (f_X12_meets I8 J 0 0 0) (fun I9 => zb1 (zl (fun v : (Int32 × zI) => f_X12_walks_L31 J p1 v.1 v.2) zF (0, I9)) (fun I38 => some I38)))
theorem hinX12_walks_X12 : ∀ w ∈ u_ws RX12 TX12 31, w ∈ wsX12_walks := by decide +kernel
set_option maxHeartbeats 4000000 in
set_option maxRecDepth 100000 in
theorem w_X12_walks {p : Program} {l : Launch} {e : Env} {R : Room} {s : State} {m : MethodId} {args : Array Value} {below : List Frame} {meth : Method} {c : Code} {Q : State → Prop} (hfr : 3 ≤ R.frames) (hlo : 72 ≤ R.locals) {D : va_G} {a0 : Nat → Nat} {A : Nat → Prop} {cy : Nat → ClassId} {ad : Nat → Nat} (hD : zD A 25 ad) {I : zI} {J : zJ} (p1 : Int32) {rI : zI} (hf : f_X12_walks I J p1 = some rI) {ls : Array Slot} (S0 : zSt p m c cX12_walks 5 s args wsX12_walks RX12 D a0 A cy (zw 25 (kM cy ad) ad I J) [.ref (ad 0), .int p1] ls) (hret : ∀ (tI : zI), some tI = some rI → ∀ (H : Heap) (locs : List Loc) (ls : Array Slot) (pc : Nat), va_P D vwCl (zw 25 (kM cy ad) ad tI J) H → va_S A s.heap H locs → decode cX12_walks pc = .ok (.return_, 1) → W p l e R s m args below meth c H locs 0 0 Q (F0 m pc ls [])) : W p l e R s m args below meth c s.heap [] 0 0 Q (F0 m 0 ls []) := by
  obtain ⟨S, E, hP, hl⟩ := S0
  obtain ⟨hx, hb, hml, hown, hts⟩ := id S
  have hS : va_S A s.heap s.heap [] := va_S.rf
  replace hl : lv_has ls 5 [(0, .ref (ad 0)), (1, .int p1)] := hl
  unfold f_X12_walks at hf
  refine lv_iconst (v := 0) hx hb dX12_walks_0 (by decide) ?_
  refine lv_istore_n (lv' := [(2, .int 0), (0, .ref (ad 0)), (1, .int p1)]) hx hb dX12_walks_1 rfl hl (by decide) rfl (fun ls hl => ?_)
  obtain ⟨zl1, hf, hzl1⟩ := zb1_i hf
  have hjl1 : ∀ (I8 : zI), I8 = zl1 → ∀ (H : Heap) (locs : List Loc) (ls : Array Slot), va_P D vwCl (zw 25 (kM cy ad) ad I8 J) H → va_S A s.heap H locs → lv_has ls 5 [(0, .ref (ad 0)), (1, .int p1)] → W p l e R s m args below meth c H locs 0 0 Q (F0 m 22 ls []) := by
    intro I8 ez H locs ls hP hS hl
    have hf := hzl1 I8 ez
    refine lv_aload_n hx hb dX12_walks_22 rfl (lv_at hl 0 rfl) ?_
    refine lv_iconst (v := 0) hx hb dX12_walks_23 (by decide) ?_
    refine lv_iconst (v := 0) hx hb dX12_walks_24 (by decide) ?_
    refine lv_iconst (v := 0) hx hb dX12_walks_25 (by decide) ?_
    obtain ⟨I9, h10, hf⟩ := zb1_e hf
    refine zgo_v (zrunV (As := [.int 0, .int 0, .int 0]) (rest := []) S (c_X12_meets l hD 0 0 0 h10) (cwV 3 hts gX12_walks_X12_meets rfl rfl rfl ddX12_meets ⟨Nat.le_trans (Nat.le_of_ble_eq_true rfl) hfr, Nat.le_trans (Nat.le_of_ble_eq_true rfl) hlo⟩) (va_recv E.1 hP (q := (RX12, TX12, 31)) (ci := 11) rfl (zO.get (oX12_at))) E hP hS hl.1 rfl rfl (Nat.le_of_ble_eq_true rfl) dX12_walks_26) hS (fun H locs hP hS => ?_)
    refine lv_iconst (v := 0) hx hb dX12_walks_29 (by decide) ?_
    refine lv_istore_n (lv' := [(2, .int 0), (0, .ref (ad 0)), (1, .int p1)]) hx hb dX12_walks_30 rfl hl (by decide) rfl (fun ls hl => ?_)
    obtain ⟨zl11, hf, hzl11⟩ := zb1_i hf
    have hjl11 : ∀ (I38 : zI), I38 = zl11 → ∀ (H : Heap) (locs : List Loc) (ls : Array Slot), va_P D vwCl (zw 25 (kM cy ad) ad I38 J) H → va_S A s.heap H locs → lv_has ls 5 [] → W p l e R s m args below meth c H locs 0 0 Q (F0 m 102 ls []) := by
      intro I38 ez H locs ls hP hS hl
      have hf := hzl11 I38 ez
      exact hret _ hf _ _ _ _ hP hS dX12_walks_102
    refine zl_i (V := (Int32 × zI)) (P := fun v => ∀ (H : Heap) (locs : List Loc) (ls : Array Slot), va_P D vwCl (zw 25 (kM cy ad) ad v.2 J) H → va_S A s.heap H locs → lv_has ls 5 [(0, .ref (ad 0)), (1, .int p1), (2, .int (v.1))] → W p l e R s m args below meth c H locs 0 0 Q (F0 m 31 ls [])) ?_ _ _ hf _ _ _ hP hS (lv_sub hl [1, 2, 0] rfl)
    intro v z hf hcl11 hdl11
    obtain ⟨x12, I13⟩ := v
    intro H locs ls hP hS hl
    replace hf : f_X12_walks_L31 J p1 x12 I13 = some z := hf
    unfold f_X12_walks_L31 at hf
    replace hP : va_P D vwCl (zw 25 (kM cy ad) ad I13 J) H := hP
    replace hl : lv_has ls 5 [(0, .ref (ad 0)), (1, .int p1), (2, .int x12)] := hl
    refine lv_iload_n hx hb dX12_walks_31 rfl (lv_at hl 2 rfl) ?_
    refine lv_aload_n hx hb dX12_walks_32 rfl (lv_at hl 0 rfl) ?_
    refine va_get (D := D) (ci := 11) (v := .ref (ad 5)) (C := RX12) (T := TX12) (N := 31) hx hb hts hinX12_walks_X12 hown E.1 hP 0 (zO.get (oX12_at)) rfl 6 (by decide) (hts (.fieldLink RX12 23 "EdgeAndSpeedModel" "pieces" "[I") (by decide +kernel)) (fun _ h9 => h9) rfl dX12_walks_33 ?_
    refine lv_iconst (v := 0) hx hb dX12_walks_36 (by decide) ?_
    obtain ⟨g14, hf⟩ := zg_i hf
    refine va_iald hx hb E.1 hP 5 1 (zIA.get (aX12_6)) rfl g14 dX12_walks_37 ?_
    refine lv_icmp_ge (tgt := 102) hx hb dX12_walks_38 (by decide) (fun k15 => ?_) (fun k15 => ?_)
    · replace hf := zt k15 hf
      exact hjl11 _ (hdl11 _ (Option.some.inj hf).symm) _ _ _ hP hS (lv_sub hl [] rfl)
    · replace hf := zf k15 hf
      refine lv_aload_n hx hb dX12_walks_41 rfl (lv_at hl 0 rfl) ?_
      refine lv_iload_n hx hb dX12_walks_42 rfl (lv_at hl 2 rfl) ?_
      obtain ⟨x16, h17, hf⟩ := zb1_e hf
      refine zgo_i (zrunV (As := [.int x12]) (rest := []) S (c_X12_steps l hD x12 h17) (cwV 1 hts gX12_walks_X12_steps rfl rfl rfl ddX12_steps ⟨Nat.le_trans (Nat.le_of_ble_eq_true rfl) hfr, Nat.le_trans (Nat.le_of_ble_eq_true rfl) hlo⟩) (va_recv E.1 hP (q := (RX12, TX12, 31)) (ci := 11) rfl (zO.get (oX12_at))) E hP hS hl.1 rfl rfl (Nat.le_of_ble_eq_true rfl) dX12_walks_43) hS (fun H locs hP hS => ?_)
      refine lv_istore_n (lv' := [(3, .int x16), (0, .ref (ad 0)), (1, .int p1), (2, .int x12)]) hx hb dX12_walks_46 rfl hl (by decide) rfl (fun ls hl => ?_)
      obtain ⟨zl18, hf, hzl18⟩ := zb1_i hf
      have hjl18 : ∀ (I36 : zI), I36 = zl18 → ∀ (H : Heap) (locs : List Loc) (ls : Array Slot), va_P D vwCl (zw 25 (kM cy ad) ad I36 J) H → va_S A s.heap H locs → lv_has ls 5 [(0, .ref (ad 0)), (1, .int p1), (2, .int x12)] → W p l e R s m args below meth c H locs 0 0 Q (F0 m 96 ls []) := by
        intro I36 ez H locs ls hP hS hl
        have hf := hzl18 I36 ez
        obtain ⟨y37, ey37⟩ := zex (x12 + 1)
        replace hf := zn_s ey37 hf
        refine lv_iinc (v := y37) (lv' := [(2, .int y37), (0, .ref (ad 0)), (1, .int p1)]) hx hb dX12_walks_96 hl (k := 2) rfl (by rw [ey37]; rfl) (by decide) rfl (fun ls hl => ?_)
        refine lv_goto (tgt := 31) hx hb dX12_walks_99 (by decide) ?_
        exact hcl11 _ (Option.some.inj hf).symm _ _ _ hP hS (lv_sub hl [1, 2, 0] rfl)
      refine zl_i (V := (Int32 × zI)) (P := fun v => ∀ (H : Heap) (locs : List Loc) (ls : Array Slot), va_P D vwCl (zw 25 (kM cy ad) ad v.2 J) H → va_S A s.heap H locs → lv_has ls 5 [(0, .ref (ad 0)), (1, .int p1), (2, .int x12), (3, .int (v.1))] → W p l e R s m args below meth c H locs 0 0 Q (F0 m 47 ls [])) ?_ _ _ hf _ _ _ hP hS (lv_sub hl [1, 2, 3, 0] rfl)
      intro v z hf hcl18 hdl18
      obtain ⟨x19, I20⟩ := v
      intro H locs ls hP hS hl
      replace hf : f_X12_walks_L47 J x12 p1 x19 I20 = some z := hf
      unfold f_X12_walks_L47 at hf
      replace hP : va_P D vwCl (zw 25 (kM cy ad) ad I20 J) H := hP
      replace hl : lv_has ls 5 [(0, .ref (ad 0)), (1, .int p1), (2, .int x12), (3, .int x19)] := hl
      refine lv_iload_n hx hb dX12_walks_47 rfl (lv_at hl 3 rfl) ?_
      refine lv_if_le (tgt := 96) hx hb dX12_walks_48 (by decide) (fun k21 => ?_) (fun k21 => ?_)
      · replace hf := zt k21 hf
        exact hjl18 _ (hdl18 _ (Option.some.inj hf).symm) _ _ _ hP hS (lv_sub hl [0, 1, 2] rfl)
      · replace hf := zf k21 hf
        refine lv_bipush (v := 100) hx hb dX12_walks_51 (by decide) ?_
        refine lv_istore (lv' := [(4, .int 100), (0, .ref (ad 0)), (1, .int p1), (2, .int x12), (3, .int x19)]) hx hb dX12_walks_53 hl (by decide) rfl (fun ls hl => ?_)
        obtain ⟨zl22, hf, hzl22⟩ := zb1_i hf
        have hjl22 : ∀ (I34 : zI), I34 = zl22 → ∀ (H : Heap) (locs : List Loc) (ls : Array Slot), va_P D vwCl (zw 25 (kM cy ad) ad I34 J) H → va_S A s.heap H locs → lv_has ls 5 [(0, .ref (ad 0)), (1, .int p1), (2, .int x12), (3, .int x19)] → W p l e R s m args below meth c H locs 0 0 Q (F0 m 90 ls []) := by
          intro I34 ez H locs ls hP hS hl
          have hf := hzl22 I34 ez
          obtain ⟨y35, ey35⟩ := zex (x19 + (-1))
          replace hf := zn_s ey35 hf
          refine lv_iinc (v := y35) (lv' := [(3, .int y35), (0, .ref (ad 0)), (1, .int p1), (2, .int x12)]) hx hb dX12_walks_90 hl (k := 3) rfl (by rw [ey35]; rfl) (by decide) rfl (fun ls hl => ?_)
          refine lv_goto (tgt := 47) hx hb dX12_walks_93 (by decide) ?_
          exact hcl18 _ (Option.some.inj hf).symm _ _ _ hP hS (lv_sub hl [1, 2, 3, 0] rfl)
        refine zl_i (V := (Int32 × zI)) (P := fun v => ∀ (H : Heap) (locs : List Loc) (ls : Array Slot), va_P D vwCl (zw 25 (kM cy ad) ad v.2 J) H → va_S A s.heap H locs → lv_has ls 5 [(0, .ref (ad 0)), (1, .int p1), (2, .int x12), (3, .int x19), (4, .int (v.1))] → W p l e R s m args below meth c H locs 0 0 Q (F0 m 55 ls [])) ?_ _ _ hf _ _ _ hP hS (lv_sub hl [1, 2, 3, 4, 0] rfl)
        intro v z hf hcl22 hdl22
        obtain ⟨x23, I24⟩ := v
        intro H locs ls hP hS hl
        replace hf : f_X12_walks_L55 J x12 x19 p1 x23 I24 = some z := hf
        unfold f_X12_walks_L55 at hf
        replace hP : va_P D vwCl (zw 25 (kM cy ad) ad I24 J) H := hP
        replace hl : lv_has ls 5 [(0, .ref (ad 0)), (1, .int p1), (2, .int x12), (3, .int x19), (4, .int x23)] := hl
        refine lv_iload hx hb dX12_walks_55 (lv_at hl 4 rfl) ?_
        refine lv_if_lt (tgt := 90) hx hb dX12_walks_57 (by decide) (fun k25 => ?_) (fun k25 => ?_)
        · replace hf := zt k25 hf
          exact hjl22 _ (hdl22 _ (Option.some.inj hf).symm) _ _ _ hP hS (lv_sub hl [0, 1, 2, 3] rfl)
        · replace hf := zf k25 hf
          refine lv_aload_n hx hb dX12_walks_60 rfl (lv_at hl 0 rfl) ?_
          refine va_get (D := D) (ci := 11) (v := .ref (ad 18)) (C := RX12) (T := TX12) (N := 31) hx hb hts hinX12_walks_X12 hown E.1 hP 0 (zO.get (oX12_at)) rfl 20 (by decide) (hts (.fieldLink RX12 63 "EdgeAndSpeedModel" "met" "[Z") (by decide +kernel)) (fun _ h9 => h9) rfl dX12_walks_61 ?_
          refine lv_iload_n hx hb dX12_walks_64 rfl (lv_at hl 2 rfl) ?_
          refine lv_iload_n hx hb dX12_walks_65 rfl (lv_at hl 3 rfl) ?_
          refine lv_iload hx hb dX12_walks_66 (lv_at hl 4 rfl) ?_
          obtain ⟨x26, h27, hf⟩ := zb1_e hf
          refine zgo_i (zrunS (As := [.int x12, .int x19, .int x23]) (rest := [.ref (ad 18)]) S (c_X12_cell l hD x12 x19 x23 h27) (va_cwS 3 hts gX12_walks_X12_cell rfl rfl rfl ddX12_cell ⟨Nat.le_trans (Nat.le_of_ble_eq_true rfl) hfr, Nat.le_trans (Nat.le_of_ble_eq_true rfl) hlo⟩) E hP hS hl.1 rfl rfl (Nat.le_of_ble_eq_true rfl) dX12_walks_68) hS (fun H locs hP hS => ?_)
          obtain ⟨g28, hf⟩ := zg_i hf
          refine va_zald hx hb E.1 hP 18 3 (zIA.get (aX12_20)) rfl g28 dX12_walks_71 ?_
          refine lv_if_eq (tgt := 84) hx hb dX12_walks_72 (by decide) (fun k29 => ?_) (fun k29 => ?_)
          · replace hf := zt k29 hf
            obtain ⟨y30, ey30⟩ := zex (x23 + (-1))
            replace hf := zn_s ey30 hf
            refine lv_iinc (v := y30) (lv' := [(4, .int y30), (0, .ref (ad 0)), (1, .int p1), (2, .int x12), (3, .int x19)]) hx hb dX12_walks_84 hl (k := 4) rfl (by rw [ey30]; rfl) (by decide) rfl (fun ls hl => ?_)
            refine lv_goto (tgt := 55) hx hb dX12_walks_87 (by decide) ?_
            exact hcl22 _ (Option.some.inj hf).symm _ _ _ hP hS (lv_sub hl [1, 2, 3, 4, 0] rfl)
          · replace hf := zf k29 hf
            refine lv_aload_n hx hb dX12_walks_75 rfl (lv_at hl 0 rfl) ?_
            refine lv_iload_n hx hb dX12_walks_76 rfl (lv_at hl 2 rfl) ?_
            refine lv_iload_n hx hb dX12_walks_77 rfl (lv_at hl 3 rfl) ?_
            refine lv_iload hx hb dX12_walks_78 (lv_at hl 4 rfl) ?_
            refine lv_iload_n hx hb dX12_walks_80 rfl (lv_at hl 1 rfl) ?_
            obtain ⟨I31, h32, hf⟩ := zb1_e hf
            refine zgo_v (zrunV (As := [.int x12, .int x19, .int x23, .int p1]) (rest := []) S (c_X12_walksOn l hD x12 x19 x23 p1 h32) (cwV 4 hts gX12_walks_X12_walksOn rfl rfl rfl ddX12_walksOn ⟨Nat.le_trans (Nat.le_of_ble_eq_true rfl) hfr, Nat.le_trans (Nat.le_of_ble_eq_true rfl) hlo⟩) (va_recv E.1 hP (q := (RX12, TX12, 31)) (ci := 11) rfl (zO.get (oX12_at))) E hP hS hl.1 rfl rfl (Nat.le_of_ble_eq_true rfl) dX12_walks_81) hS (fun H locs hP hS => ?_)
            obtain ⟨y33, ey33⟩ := zex (x23 + (-1))
            replace hf := zn_s ey33 hf
            refine lv_iinc (v := y33) (lv' := [(4, .int y33), (0, .ref (ad 0)), (1, .int p1), (2, .int x12), (3, .int x19)]) hx hb dX12_walks_84 hl (k := 4) rfl (by rw [ey33]; rfl) (by decide) rfl (fun ls hl => ?_)
            refine lv_goto (tgt := 55) hx hb dX12_walks_87 (by decide) ?_
            exact hcl22 _ (Option.some.inj hf).symm _ _ _ hP hS (lv_sub hl [1, 2, 3, 4, 0] rfl)
  refine zl_i (V := (Int32 × zI)) (P := fun v => ∀ (H : Heap) (locs : List Loc) (ls : Array Slot), va_P D vwCl (zw 25 (kM cy ad) ad v.2 J) H → va_S A s.heap H locs → lv_has ls 5 [(0, .ref (ad 0)), (1, .int p1), (2, .int (v.1))] → W p l e R s m args below meth c H locs 0 0 Q (F0 m 2 ls [])) ?_ _ _ hf _ _ _ hP hS (lv_sub hl [1, 2, 0] rfl)
  intro v z hf hcl1 hdl1
  obtain ⟨x2, I3⟩ := v
  intro H locs ls hP hS hl
  replace hf : f_X12_walks_L2 x2 I3 = some z := hf
  unfold f_X12_walks_L2 at hf
  replace hP : va_P D vwCl (zw 25 (kM cy ad) ad I3 J) H := hP
  replace hl : lv_has ls 5 [(0, .ref (ad 0)), (1, .int p1), (2, .int x2)] := hl
  refine lv_iload_n hx hb dX12_walks_2 rfl (lv_at hl 2 rfl) ?_
  refine lv_sipush (v := 7272) hx hb dX12_walks_3 (by decide) ?_
  refine lv_icmp_ge (tgt := 22) hx hb dX12_walks_6 (by decide) (fun k4 => ?_) (fun k4 => ?_)
  · replace hf := zt k4 hf
    exact hjl1 _ (hdl1 _ (Option.some.inj hf).symm) _ _ _ hP hS (lv_sub hl [0, 1] rfl)
  · replace hf := zf k4 hf
    refine lv_aload_n hx hb dX12_walks_9 rfl (lv_at hl 0 rfl) ?_
    refine va_get (D := D) (ci := 11) (v := .ref (ad 18)) (C := RX12) (T := TX12) (N := 31) hx hb hts hinX12_walks_X12 hown E.1 hP 0 (zO.get (oX12_at)) rfl 20 (by decide) (hts (.fieldLink RX12 63 "EdgeAndSpeedModel" "met" "[Z") (by decide +kernel)) (fun _ h9 => h9) rfl dX12_walks_10 ?_
    refine lv_iload_n hx hb dX12_walks_13 rfl (lv_at hl 2 rfl) ?_
    refine lv_iconst (v := 0) hx hb dX12_walks_14 (by decide) ?_
    obtain ⟨g6, hf⟩ := zg_i hf
    obtain ⟨I5, eI5⟩ := zex (va_up I3 18 (upd (I3 18) x2.toNatClampNeg (vp_nar .boolean 0)))
    replace hf := zn_s eI5 hf
    refine zast_z hx hb E.1 hP hD.D hS (aX12_20) g6 dX12_walks_15 eI5 (fun H locs hP hS => ?_)
    obtain ⟨y7, ey7⟩ := zex (x2 + 1)
    replace hf := zn_s ey7 hf
    refine lv_iinc (v := y7) (lv' := [(2, .int y7), (0, .ref (ad 0)), (1, .int p1)]) hx hb dX12_walks_16 hl (k := 2) rfl (by rw [ey7]; rfl) (by decide) rfl (fun ls hl => ?_)
    refine lv_goto (tgt := 2) hx hb dX12_walks_19 (by decide) ?_
    exact hcl1 _ (Option.some.inj hf).symm _ _ _ hP hS (lv_sub hl [1, 2, 0] rfl)
theorem c_X12_walks (l : Launch) {D : va_G} {a0 : Nat → Nat} {A : Nat → Prop} {cy : Nat → ClassId} {ad : Nat → Nat} (hD : zD A 25 ad) {I : zI} {J : zJ} (p1 : Int32) {rI : zI} (hf : f_X12_walks I J p1 = some rI) : Met l yX12_walks wsX12_walks { frames := 3, cells := 0, slots := 0, locals := 72 } (zPc D a0 A cy [.ref (ad 0), .int p1] (zw 25 (kM cy ad) ad I J)) (zQv D A (zw 25 (kM cy ad) ad rI J)) 0 0 A :=
  zmet RX12 (by decide) rfl rfl (Nat.le_of_ble_eq_true rfl) (fun p e R s m below meth c Q hfr hlo ls S0 hQ => w_X12_walks hfr hlo hD p1 hf S0 (fun tI hq H locs ls pc hP hS hd => by cases hq; exact hQ H locs _ hS (fun hx hb hr hlocks hfree => W.vret hx hb hr (fun t ht hW => ⟨⟨(), rfl, trivial, zht ht hP⟩, hS.F ht⟩) hfree hd hlocks)))
theorem ddX12_walks : yX12_walks.cls = RX12 ∧ yX12_walks.cls ≠ "java/lang/invoke/MethodHandle" ∧ yX12_walks.cls ≠ "java/lang/invoke/VarHandle" ∧ (parseMethodDescriptor yX12_walks.desc).map (fun d => d.parameters.length) = some 1 := by decide +kernel

def f_X12_judge_L97 (I23 : zI) (J24 : zJ) (x27 : Int32) (x33 : Int32) (p2 : Int32) (x36 : Int32) : Option (Int32 ⊕ (Unit ⊕ (Int32 ⊕ (Unit ⊕ (Int32 ⊕ (Unit ⊕ (Int32 × zI × zJ))))))) := (if 100 < x36 then some (.inr (.inl ())) else zb1 (f_X12_cell I23 J24 x27 x33 x36) (fun x38 => zg (¬ (x38 < 0 ∨ 7272 ≤ x38.toNatClampNeg)) ((if (I23 18 x38.toNatClampNeg) = 0 then zn (x36 + 1) (fun y42 => some (.inl y42)) else zg (¬ (x38 < 0 ∨ 7272 ≤ x38.toNatClampNeg)) (zb1 (f_X12_comes I23 J24 x27 x33 x36 p2 (I23 17 x38.toNatClampNeg)) (fun u44 => zg (¬ (x38 < 0 ∨ 7272 ≤ x38.toNatClampNeg)) ((if 0 ≤ (lg_cmp u44 (J24 16 x38.toNatClampNeg)) then zn (x36 + 1) (fun y48 => some (.inl y48)) else zb1 (f_X12_steps I23 J24 x27) (fun x49 => some (.inr (.inr (.inr (.inr (.inr (.inr ((((1000 * x27) + (101 * (x49 - x33))) + x36), I23, J24))))))))))))))))
def f_X12_judge_L89 (I23 : zI) (J24 : zJ) (x27 : Int32) (p2 : Int32) (x33 : Int32) : Option (Int32 ⊕ (Unit ⊕ (Int32 ⊕ (Unit ⊕ (Int32 × zI × zJ))))) := (if x33 ≤ 0 then some (.inr (.inl ())) else zc0 (zl (fun v : Int32 => f_X12_judge_L97 I23 J24 x27 x33 p2 v) zF 0) (zn (x33 + (-1)) (fun y51 => some (.inl y51))))
def f_X12_judge_L72 (I23 : zI) (J24 : zJ) (p2 : Int32) (x27 : Int32) : Option (Int32 ⊕ (Unit ⊕ (Int32 × zI × zJ))) := zg (¬ ((0 : Int32) < 0 ∨ 2 ≤ (0 : Int32).toNatClampNeg)) ((if (I23 5 (0 : Int32).toNatClampNeg) ≤ x27 then some (.inr (.inl ())) else zb1 (f_X12_steps I23 J24 x27) (fun x30 => zc0 (zl (fun v : Int32 => f_X12_judge_L89 I23 J24 x27 p2 v) zF x30) (zn (x27 + 1) (fun y52 => some (.inl y52))))))
def f_X12_judge_L35 (x13 : Int32) (I14 : zI) : Option ((Int32 × zI) ⊕ zI) := (if 7272 ≤ x13 then some (.inr I14) else zg (¬ (x13 < 0 ∨ 7272 ≤ x13.toNatClampNeg)) (zg (¬ (x13 < 0 ∨ 7272 ≤ x13.toNatClampNeg)) (zn (va_up I14 17 (upd (I14 17) x13.toNatClampNeg (I14 15 x13.toNatClampNeg))) (fun I17 => zn (x13 + 1) (fun y19 => some (.inl (y19, I17)))))))
def f_X12_judge (I : zI) (J : zJ) (p1 : Int32) (p2 : Int32) : Option (Int32 × zI × zJ) := zb1 (f_X12_in I J (p1.toInt64) 0 5) (fun x1 => (if x1 = 0 then some ((-1), I, J) else zb1 (f_X12_isSteel I J p2) (fun x4 => (if x4 = 0 then some ((-1), I, J) else zb2 (f_X12_handles I J p1 p2) (fun I7 J8 => zb1 (f_X12_walks I7 J8 p2) (fun I10 => zb1 (zl (fun v : (Int32 × zI) => f_X12_judge_L35 v.1 v.2) zF (0, I10)) (fun I20 => zb1 (f_X12_counts I20 J8 0) (fun J21 => zb2 (f_X12_solves I20 J21 p2) (fun I23 J24 => zc0 (zl (fun v : Int32 => f_X12_judge_L72 I23 J24 p2 v) zF 0) (some ((-4), I23, J24)))))))))))
theorem hinX12_judge_X12 : ∀ w ∈ u_ws RX12 TX12 31, w ∈ wsX12_judge := by decide +kernel
set_option maxHeartbeats 4000000 in
set_option maxRecDepth 100000 in
theorem w_X12_judge {p : Program} {l : Launch} {e : Env} {R : Room} {s : State} {m : MethodId} {args : Array Value} {below : List Frame} {meth : Method} {c : Code} {Q : State → Prop} (hfr : 5 ≤ R.frames) (hlo : 131 ≤ R.locals) {D : va_G} {a0 : Nat → Nat} {A : Nat → Prop} {cy : Nat → ClassId} {ad : Nat → Nat} (hD : zD A 25 ad) {I : zI} {J : zJ} (p1 : Int32) (p2 : Int32) {rx : Int32} {rI : zI} {rJ : zJ} (hf : f_X12_judge I J p1 p2 = some (rx, rI, rJ)) {ls : Array Slot} (S0 : zSt p m c cX12_judge 7 s args wsX12_judge RX12 D a0 A cy (zw 25 (kM cy ad) ad I J) [.ref (ad 0), .int p1, .int p2] ls) (hret : ∀ (tx : Int32) (tI : zI) (tJ : zJ), some (tx, tI, tJ) = some (rx, rI, rJ) → ∀ (H : Heap) (locs : List Loc) (ls : Array Slot) (pc : Nat), va_P D vwCl (zw 25 (kM cy ad) ad tI tJ) H → va_S A s.heap H locs → decode cX12_judge pc = .ok (.ireturn, 1) → W p l e R s m args below meth c H locs 0 0 Q (F0 m pc ls [.int tx])) : W p l e R s m args below meth c s.heap [] 0 0 Q (F0 m 0 ls []) := by
  obtain ⟨S, E, hP, hl⟩ := S0
  obtain ⟨hx, hb, hml, hown, hts⟩ := id S
  have hS : va_S A s.heap s.heap [] := va_S.rf
  replace hl : lv_has ls 7 [(0, .ref (ad 0)), (1, .int p1), (2, .int p2)] := hl
  unfold f_X12_judge at hf
  refine lv_iload_n hx hb dX12_judge_0 rfl (lv_at hl 1 rfl) ?_
  refine lv_i2l hx hb dX12_judge_1 rfl ?_
  refine lv_lconst (v := 0) hx hb dX12_judge_2 (by decide) ?_
  refine lv_ldc2 hx hb hown (hts (.constantLong RX12 225 5) (by decide +kernel)) dX12_judge_3 ?_
  obtain ⟨x1, h2, hf⟩ := zb1_e hf
  refine zgo_i (zrunS (As := [.long (p1.toInt64), .long 0, .long 5]) (rest := []) S (c_X12_in l hD (p1.toInt64) 0 5 h2) (va_cwS 3 hts gX12_judge_X12_in rfl rfl rfl ddX12_in ⟨Nat.le_trans (Nat.le_of_ble_eq_true rfl) hfr, Nat.le_trans (Nat.le_of_ble_eq_true rfl) hlo⟩) E hP hS hl.1 rfl rfl (Nat.le_of_ble_eq_true rfl) dX12_judge_6) hS (fun H locs hP hS => ?_)
  refine lv_if_eq (tgt := 20) hx hb dX12_judge_9 (by decide) (fun k3 => ?_) (fun k3 => ?_)
  · replace hf := zt k3 hf
    refine lv_iconst (v := (-1)) hx hb dX12_judge_20 (by decide) ?_
    exact hret _ _ _ hf _ _ _ _ hP hS dX12_judge_21
  · replace hf := zf k3 hf
    refine lv_aload_n hx hb dX12_judge_12 rfl (lv_at hl 0 rfl) ?_
    refine lv_iload_n hx hb dX12_judge_13 rfl (lv_at hl 2 rfl) ?_
    obtain ⟨x4, h5, hf⟩ := zb1_e hf
    refine zgo_i (zrunV (As := [.int p2]) (rest := []) S (c_X12_isSteel l hD p2 h5) (cwV 1 hts gX12_judge_X12_isSteel rfl rfl rfl ddX12_isSteel ⟨Nat.le_trans (Nat.le_of_ble_eq_true rfl) hfr, Nat.le_trans (Nat.le_of_ble_eq_true rfl) hlo⟩) (va_recv E.1 hP (q := (RX12, TX12, 31)) (ci := 11) rfl (zO.get (oX12_at))) E hP hS hl.1 rfl rfl (Nat.le_of_ble_eq_true rfl) dX12_judge_14) hS (fun H locs hP hS => ?_)
    refine lv_if_ne (tgt := 22) hx hb dX12_judge_17 (by decide) (fun k6 => ?_) (fun k6 => ?_)
    · replace hf := zf k6 hf
      refine lv_aload_n hx hb dX12_judge_22 rfl (lv_at hl 0 rfl) ?_
      refine lv_iload_n hx hb dX12_judge_23 rfl (lv_at hl 1 rfl) ?_
      refine lv_iload_n hx hb dX12_judge_24 rfl (lv_at hl 2 rfl) ?_
      obtain ⟨I7, J8, h9, hf⟩ := zb2_e hf
      refine zgo_v (zrunV (As := [.int p1, .int p2]) (rest := []) S (c_X12_handles l hD p1 p2 h9) (cwV 2 hts gX12_judge_X12_handles rfl rfl rfl ddX12_handles ⟨Nat.le_trans (Nat.le_of_ble_eq_true rfl) hfr, Nat.le_trans (Nat.le_of_ble_eq_true rfl) hlo⟩) (va_recv E.1 hP (q := (RX12, TX12, 31)) (ci := 11) rfl (zO.get (oX12_at))) E hP hS hl.1 rfl rfl (Nat.le_of_ble_eq_true rfl) dX12_judge_25) hS (fun H locs hP hS => ?_)
      refine lv_aload_n hx hb dX12_judge_28 rfl (lv_at hl 0 rfl) ?_
      refine lv_iload_n hx hb dX12_judge_29 rfl (lv_at hl 2 rfl) ?_
      obtain ⟨I10, h11, hf⟩ := zb1_e hf
      refine zgo_v (zrunV (As := [.int p2]) (rest := []) S (c_X12_walks l hD p2 h11) (cwV 1 hts gX12_judge_X12_walks rfl rfl rfl ddX12_walks ⟨Nat.le_trans (Nat.le_of_ble_eq_true rfl) hfr, Nat.le_trans (Nat.le_of_ble_eq_true rfl) hlo⟩) (va_recv E.1 hP (q := (RX12, TX12, 31)) (ci := 11) rfl (zO.get (oX12_at))) E hP hS hl.1 rfl rfl (Nat.le_of_ble_eq_true rfl) dX12_judge_30) hS (fun H locs hP hS => ?_)
      refine lv_iconst (v := 0) hx hb dX12_judge_33 (by decide) ?_
      refine lv_istore_n (lv' := [(3, .int 0), (0, .ref (ad 0)), (1, .int p1), (2, .int p2)]) hx hb dX12_judge_34 rfl hl (by decide) rfl (fun ls hl => ?_)
      obtain ⟨zl12, hf, hzl12⟩ := zb1_i hf
      have hjl12 : ∀ (I20 : zI), I20 = zl12 → ∀ (H : Heap) (locs : List Loc) (ls : Array Slot), va_P D vwCl (zw 25 (kM cy ad) ad I20 J8) H → va_S A s.heap H locs → lv_has ls 7 [(0, .ref (ad 0)), (2, .int p2)] → W p l e R s m args below meth c H locs 0 0 Q (F0 m 60 ls []) := by
        intro I20 ez H locs ls hP hS hl
        have hf := hzl12 I20 ez
        refine lv_aload_n hx hb dX12_judge_60 rfl (lv_at hl 0 rfl) ?_
        refine lv_iconst (v := 0) hx hb dX12_judge_61 (by decide) ?_
        obtain ⟨J21, h22, hf⟩ := zb1_e hf
        refine zgo_v (zrunV (As := [.int 0]) (rest := []) S (c_X12_counts l hD 0 h22) (cwV 1 hts gX12_judge_X12_counts rfl rfl rfl ddX12_counts ⟨Nat.le_trans (Nat.le_of_ble_eq_true rfl) hfr, Nat.le_trans (Nat.le_of_ble_eq_true rfl) hlo⟩) (va_recv E.1 hP (q := (RX12, TX12, 31)) (ci := 11) rfl (zO.get (oX12_at))) E hP hS hl.1 rfl rfl (Nat.le_of_ble_eq_true rfl) dX12_judge_62) hS (fun H locs hP hS => ?_)
        refine lv_aload_n hx hb dX12_judge_65 rfl (lv_at hl 0 rfl) ?_
        refine lv_iload_n hx hb dX12_judge_66 rfl (lv_at hl 1 rfl) ?_
        obtain ⟨I23, J24, h25, hf⟩ := zb2_e hf
        refine zgo_v (zrunV (As := [.int p2]) (rest := []) S (c_X12_solves l hD p2 h25) (cwV 1 hts gX12_judge_X12_solves rfl rfl rfl ddX12_solves ⟨Nat.le_trans (Nat.le_of_ble_eq_true rfl) hfr, Nat.le_trans (Nat.le_of_ble_eq_true rfl) hlo⟩) (va_recv E.1 hP (q := (RX12, TX12, 31)) (ci := 11) rfl (zO.get (oX12_at))) E hP hS hl.1 rfl rfl (Nat.le_of_ble_eq_true rfl) dX12_judge_67) hS (fun H locs hP hS => ?_)
        refine lv_iconst (v := 0) hx hb dX12_judge_70 (by decide) ?_
        refine lv_istore_n (lv' := [(3, .int 0), (0, .ref (ad 0)), (2, .int p2)]) hx hb dX12_judge_71 rfl hl (by decide) rfl (fun ls hl => ?_)
        obtain ⟨zl26, hf, hzl26, hel26⟩ := zc0_i hf
        have hjl26 : (Sum.inl ()) = zl26 → ∀ (H : Heap) (locs : List Loc) (ls : Array Slot), va_P D vwCl (zw 25 (kM cy ad) ad I23 J24) H → va_S A s.heap H locs → lv_has ls 7 [] → W p l e R s m args below meth c H locs 0 0 Q (F0 m 191 ls []) := by
          intro  ez H locs ls hP hS hl
          have hf := hzl26  ez
          refine lv_bipush (v := (-4)) hx hb dX12_judge_191 (by decide) ?_
          exact hret _ _ _ hf _ _ _ _ hP hS dX12_judge_193
        refine zl_i (V := Int32) (P := fun v => ∀ (H : Heap) (locs : List Loc) (ls : Array Slot), va_P D vwCl (zw 25 (kM cy ad) ad I23 J24) H → va_S A s.heap H locs → lv_has ls 7 [(0, .ref (ad 0)), (2, .int p2), (3, .int v)] → W p l e R s m args below meth c H locs 0 0 Q (F0 m 72 ls [])) ?_ _ _ hf _ _ _ hP hS (lv_sub hl [1, 2, 0] rfl)
        intro v z hf hcl26 hdl26
        obtain ⟨x27, rfl⟩ : ∃ y, y = v := ⟨v, rfl⟩
        intro H locs ls hP hS hl
        replace hf : f_X12_judge_L72 I23 J24 p2 x27 = some z := hf
        unfold f_X12_judge_L72 at hf
        replace hP : va_P D vwCl (zw 25 (kM cy ad) ad I23 J24) H := hP
        replace hl : lv_has ls 7 [(0, .ref (ad 0)), (2, .int p2), (3, .int x27)] := hl
        refine lv_iload_n hx hb dX12_judge_72 rfl (lv_at hl 2 rfl) ?_
        refine lv_aload_n hx hb dX12_judge_73 rfl (lv_at hl 0 rfl) ?_
        refine va_get (D := D) (ci := 11) (v := .ref (ad 5)) (C := RX12) (T := TX12) (N := 31) hx hb hts hinX12_judge_X12 hown E.1 hP 0 (zO.get (oX12_at)) rfl 6 (by decide) (hts (.fieldLink RX12 23 "EdgeAndSpeedModel" "pieces" "[I") (by decide +kernel)) (fun _ h9 => h9) rfl dX12_judge_74 ?_
        refine lv_iconst (v := 0) hx hb dX12_judge_77 (by decide) ?_
        obtain ⟨g28, hf⟩ := zg_i hf
        refine va_iald hx hb E.1 hP 5 1 (zIA.get (aX12_6)) rfl g28 dX12_judge_78 ?_
        refine lv_icmp_ge (tgt := 191) hx hb dX12_judge_79 (by decide) (fun k29 => ?_) (fun k29 => ?_)
        · replace hf := zt k29 hf
          exact hjl26 (hdl26 _ (Option.some.inj hf).symm) _ _ _ hP hS (lv_sub hl [] rfl)
        · replace hf := zf k29 hf
          refine lv_aload_n hx hb dX12_judge_82 rfl (lv_at hl 0 rfl) ?_
          refine lv_iload_n hx hb dX12_judge_83 rfl (lv_at hl 2 rfl) ?_
          obtain ⟨x30, h31, hf⟩ := zb1_e hf
          refine zgo_i (zrunV (As := [.int x27]) (rest := []) S (c_X12_steps l hD x27 h31) (cwV 1 hts gX12_judge_X12_steps rfl rfl rfl ddX12_steps ⟨Nat.le_trans (Nat.le_of_ble_eq_true rfl) hfr, Nat.le_trans (Nat.le_of_ble_eq_true rfl) hlo⟩) (va_recv E.1 hP (q := (RX12, TX12, 31)) (ci := 11) rfl (zO.get (oX12_at))) E hP hS hl.1 rfl rfl (Nat.le_of_ble_eq_true rfl) dX12_judge_84) hS (fun H locs hP hS => ?_)
          refine lv_istore (lv' := [(4, .int x30), (0, .ref (ad 0)), (2, .int p2), (3, .int x27)]) hx hb dX12_judge_87 hl (by decide) rfl (fun ls hl => ?_)
          obtain ⟨zl32, hf, hzl32, hel32⟩ := zc0_i hf
          have hjl32 : (Sum.inl ()) = zl32 → ∀ (H : Heap) (locs : List Loc) (ls : Array Slot), va_P D vwCl (zw 25 (kM cy ad) ad I23 J24) H → va_S A s.heap H locs → lv_has ls 7 [(0, .ref (ad 0)), (2, .int p2), (3, .int x27)] → W p l e R s m args below meth c H locs 0 0 Q (F0 m 185 ls []) := by
            intro  ez H locs ls hP hS hl
            have hf := hzl32  ez
            obtain ⟨y52, ey52⟩ := zex (x27 + 1)
            replace hf := zn_s ey52 hf
            refine lv_iinc (v := y52) (lv' := [(3, .int y52), (0, .ref (ad 0)), (2, .int p2)]) hx hb dX12_judge_185 hl (k := 2) rfl (by rw [ey52]; rfl) (by decide) rfl (fun ls hl => ?_)
            refine lv_goto (tgt := 72) hx hb dX12_judge_188 (by decide) ?_
            exact hcl26 _ (Option.some.inj hf).symm _ _ _ hP hS (lv_sub hl [1, 2, 0] rfl)
          refine zl_i (V := Int32) (P := fun v => ∀ (H : Heap) (locs : List Loc) (ls : Array Slot), va_P D vwCl (zw 25 (kM cy ad) ad I23 J24) H → va_S A s.heap H locs → lv_has ls 7 [(0, .ref (ad 0)), (2, .int p2), (3, .int x27), (4, .int v)] → W p l e R s m args below meth c H locs 0 0 Q (F0 m 89 ls [])) ?_ _ _ hf _ _ _ hP hS (lv_sub hl [1, 2, 3, 0] rfl)
          intro v z hf hcl32 hdl32
          obtain ⟨x33, rfl⟩ : ∃ y, y = v := ⟨v, rfl⟩
          intro H locs ls hP hS hl
          replace hf : f_X12_judge_L89 I23 J24 x27 p2 x33 = some z := hf
          unfold f_X12_judge_L89 at hf
          replace hP : va_P D vwCl (zw 25 (kM cy ad) ad I23 J24) H := hP
          replace hl : lv_has ls 7 [(0, .ref (ad 0)), (2, .int p2), (3, .int x27), (4, .int x33)] := hl
          refine lv_iload hx hb dX12_judge_89 (lv_at hl 3 rfl) ?_
          refine lv_if_le (tgt := 185) hx hb dX12_judge_91 (by decide) (fun k34 => ?_) (fun k34 => ?_)
          · replace hf := zt k34 hf
            exact hjl32 (hdl32 _ (Option.some.inj hf).symm) _ _ _ hP hS (lv_sub hl [0, 1, 2] rfl)
          · replace hf := zf k34 hf
            refine lv_iconst (v := 0) hx hb dX12_judge_94 (by decide) ?_
            refine lv_istore (lv' := [(5, .int 0), (0, .ref (ad 0)), (2, .int p2), (3, .int x27), (4, .int x33)]) hx hb dX12_judge_95 hl (by decide) rfl (fun ls hl => ?_)
            obtain ⟨zl35, hf, hzl35, hel35⟩ := zc0_i hf
            have hjl35 : (Sum.inl ()) = zl35 → ∀ (H : Heap) (locs : List Loc) (ls : Array Slot), va_P D vwCl (zw 25 (kM cy ad) ad I23 J24) H → va_S A s.heap H locs → lv_has ls 7 [(0, .ref (ad 0)), (2, .int p2), (3, .int x27), (4, .int x33)] → W p l e R s m args below meth c H locs 0 0 Q (F0 m 179 ls []) := by
              intro  ez H locs ls hP hS hl
              have hf := hzl35  ez
              obtain ⟨y51, ey51⟩ := zex (x33 + (-1))
              replace hf := zn_s ey51 hf
              refine lv_iinc (v := y51) (lv' := [(4, .int y51), (0, .ref (ad 0)), (2, .int p2), (3, .int x27)]) hx hb dX12_judge_179 hl (k := 3) rfl (by rw [ey51]; rfl) (by decide) rfl (fun ls hl => ?_)
              refine lv_goto (tgt := 89) hx hb dX12_judge_182 (by decide) ?_
              exact hcl32 _ (Option.some.inj hf).symm _ _ _ hP hS (lv_sub hl [1, 2, 3, 0] rfl)
            refine zl_i (V := Int32) (P := fun v => ∀ (H : Heap) (locs : List Loc) (ls : Array Slot), va_P D vwCl (zw 25 (kM cy ad) ad I23 J24) H → va_S A s.heap H locs → lv_has ls 7 [(0, .ref (ad 0)), (2, .int p2), (3, .int x27), (4, .int x33), (5, .int v)] → W p l e R s m args below meth c H locs 0 0 Q (F0 m 97 ls [])) ?_ _ _ hf _ _ _ hP hS (lv_sub hl [1, 2, 3, 4, 0] rfl)
            intro v z hf hcl35 hdl35
            obtain ⟨x36, rfl⟩ : ∃ y, y = v := ⟨v, rfl⟩
            intro H locs ls hP hS hl
            replace hf : f_X12_judge_L97 I23 J24 x27 x33 p2 x36 = some z := hf
            unfold f_X12_judge_L97 at hf
            replace hP : va_P D vwCl (zw 25 (kM cy ad) ad I23 J24) H := hP
            replace hl : lv_has ls 7 [(0, .ref (ad 0)), (2, .int p2), (3, .int x27), (4, .int x33), (5, .int x36)] := hl
            refine lv_iload hx hb dX12_judge_97 (lv_at hl 4 rfl) ?_
            refine lv_bipush (v := 100) hx hb dX12_judge_99 (by decide) ?_
            refine lv_icmp_gt (tgt := 179) hx hb dX12_judge_101 (by decide) (fun k37 => ?_) (fun k37 => ?_)
            · replace hf := zt k37 hf
              exact hjl35 (hdl35 _ (Option.some.inj hf).symm) _ _ _ hP hS (lv_sub hl [0, 1, 2, 3] rfl)
            · replace hf := zf k37 hf
              refine lv_iload_n hx hb dX12_judge_104 rfl (lv_at hl 2 rfl) ?_
              refine lv_iload hx hb dX12_judge_105 (lv_at hl 3 rfl) ?_
              refine lv_iload hx hb dX12_judge_107 (lv_at hl 4 rfl) ?_
              obtain ⟨x38, h39, hf⟩ := zb1_e hf
              refine zgo_i (zrunS (As := [.int x27, .int x33, .int x36]) (rest := []) S (c_X12_cell l hD x27 x33 x36 h39) (va_cwS 3 hts gX12_judge_X12_cell rfl rfl rfl ddX12_cell ⟨Nat.le_trans (Nat.le_of_ble_eq_true rfl) hfr, Nat.le_trans (Nat.le_of_ble_eq_true rfl) hlo⟩) E hP hS hl.1 rfl rfl (Nat.le_of_ble_eq_true rfl) dX12_judge_109) hS (fun H locs hP hS => ?_)
              refine lv_istore (lv' := [(6, .int x38), (0, .ref (ad 0)), (2, .int p2), (3, .int x27), (4, .int x33), (5, .int x36)]) hx hb dX12_judge_112 hl (by decide) rfl (fun ls hl => ?_)
              refine lv_aload_n hx hb dX12_judge_114 rfl (lv_at hl 1 rfl) ?_
              refine va_get (D := D) (ci := 11) (v := .ref (ad 18)) (C := RX12) (T := TX12) (N := 31) hx hb hts hinX12_judge_X12 hown E.1 hP 0 (zO.get (oX12_at)) rfl 20 (by decide) (hts (.fieldLink RX12 63 "EdgeAndSpeedModel" "met" "[Z") (by decide +kernel)) (fun _ h9 => h9) rfl dX12_judge_115 ?_
              refine lv_iload hx hb dX12_judge_118 (lv_at hl 0 rfl) ?_
              obtain ⟨g40, hf⟩ := zg_i hf
              refine va_zald hx hb E.1 hP 18 3 (zIA.get (aX12_20)) rfl g40 dX12_judge_120 ?_
              refine lv_if_eq (tgt := 173) hx hb dX12_judge_121 (by decide) (fun k41 => ?_) (fun k41 => ?_)
              · replace hf := zt k41 hf
                obtain ⟨y42, ey42⟩ := zex (x36 + 1)
                replace hf := zn_s ey42 hf
                refine lv_iinc (v := y42) (lv' := [(5, .int y42), (6, .int x38), (0, .ref (ad 0)), (2, .int p2), (3, .int x27), (4, .int x33)]) hx hb dX12_judge_173 hl (k := 5) rfl (by rw [ey42]; rfl) (by decide) rfl (fun ls hl => ?_)
                refine lv_goto (tgt := 97) hx hb dX12_judge_176 (by decide) ?_
                exact hcl35 _ (Option.some.inj hf).symm _ _ _ hP hS (lv_sub hl [2, 3, 4, 5, 0] rfl)
              · replace hf := zf k41 hf
                refine lv_aload_n hx hb dX12_judge_124 rfl (lv_at hl 1 rfl) ?_
                refine lv_iload_n hx hb dX12_judge_125 rfl (lv_at hl 3 rfl) ?_
                refine lv_iload hx hb dX12_judge_126 (lv_at hl 4 rfl) ?_
                refine lv_iload hx hb dX12_judge_128 (lv_at hl 5 rfl) ?_
                refine lv_iload_n hx hb dX12_judge_130 rfl (lv_at hl 2 rfl) ?_
                refine lv_aload_n hx hb dX12_judge_131 rfl (lv_at hl 1 rfl) ?_
                refine va_get (D := D) (ci := 11) (v := .ref (ad 17)) (C := RX12) (T := TX12) (N := 31) hx hb hts hinX12_judge_X12 hown E.1 hP 0 (zO.get (oX12_at)) rfl 19 (by decide) (hts (.fieldLink RX12 60 "EdgeAndSpeedModel" "acts" "[I") (by decide +kernel)) (fun _ h9 => h9) rfl dX12_judge_132 ?_
                refine lv_iload hx hb dX12_judge_135 (lv_at hl 0 rfl) ?_
                obtain ⟨g43, hf⟩ := zg_i hf
                refine va_iald hx hb E.1 hP 17 1 (zIA.get (aX12_19)) rfl g43 dX12_judge_137 ?_
                obtain ⟨u44, h45, hf⟩ := zb1_e hf
                refine zgo_l (zrunV (As := [.int x27, .int x33, .int x36, .int p2, .int (I23 17 x38.toNatClampNeg)]) (rest := []) S (c_X12_comes l hD x27 x33 x36 p2 (I23 17 x38.toNatClampNeg) h45) (cwV 5 hts gX12_judge_X12_comes rfl rfl rfl ddX12_comes ⟨Nat.le_trans (Nat.le_of_ble_eq_true rfl) hfr, Nat.le_trans (Nat.le_of_ble_eq_true rfl) hlo⟩) (va_recv E.1 hP (q := (RX12, TX12, 31)) (ci := 11) rfl (zO.get (oX12_at))) E hP hS hl.1 rfl rfl (Nat.le_of_ble_eq_true rfl) dX12_judge_138) hS (fun H locs hP hS => ?_)
                refine lv_aload_n hx hb dX12_judge_141 rfl (lv_at hl 1 rfl) ?_
                refine va_get (D := D) (ci := 11) (v := .ref (ad 16)) (C := RX12) (T := TX12) (N := 31) hx hb hts hinX12_judge_X12 hown E.1 hP 0 (zO.get (oX12_at)) rfl 18 (by decide) (hts (.fieldLink RX12 56 "EdgeAndSpeedModel" "value" "[J") (by decide +kernel)) (fun _ h9 => h9) rfl dX12_judge_142 ?_
                refine lv_iload hx hb dX12_judge_145 (lv_at hl 0 rfl) ?_
                obtain ⟨g46, hf⟩ := zg_i hf
                refine va_lald hx hb E.1 hP 16 2 (zLA.get (aX12_18)) rfl g46 dX12_judge_147 ?_
                refine W.lcmp hx hb dX12_judge_148 ?_
                refine lv_if_ge (tgt := 173) hx hb dX12_judge_149 (by decide) (fun k47 => ?_) (fun k47 => ?_)
                · replace hf := zt k47 hf
                  obtain ⟨y48, ey48⟩ := zex (x36 + 1)
                  replace hf := zn_s ey48 hf
                  refine lv_iinc (v := y48) (lv' := [(5, .int y48), (6, .int x38), (0, .ref (ad 0)), (2, .int p2), (3, .int x27), (4, .int x33)]) hx hb dX12_judge_173 hl (k := 5) rfl (by rw [ey48]; rfl) (by decide) rfl (fun ls hl => ?_)
                  refine lv_goto (tgt := 97) hx hb dX12_judge_176 (by decide) ?_
                  exact hcl35 _ (Option.some.inj hf).symm _ _ _ hP hS (lv_sub hl [2, 3, 4, 5, 0] rfl)
                · replace hf := zf k47 hf
                  refine lv_sipush (v := 1000) hx hb dX12_judge_152 (by decide) ?_
                  refine lv_iload_n hx hb dX12_judge_155 rfl (lv_at hl 3 rfl) ?_
                  refine lv_imul hx hb dX12_judge_156 ?_
                  refine lv_bipush (v := 101) hx hb dX12_judge_157 (by decide) ?_
                  refine lv_aload_n hx hb dX12_judge_159 rfl (lv_at hl 1 rfl) ?_
                  refine lv_iload_n hx hb dX12_judge_160 rfl (lv_at hl 3 rfl) ?_
                  obtain ⟨x49, h50, hf⟩ := zb1_e hf
                  refine zgo_i (zrunV (As := [.int x27]) (rest := [.int 101, .int (1000 * x27)]) S (c_X12_steps l hD x27 h50) (cwV 1 hts gX12_judge_X12_steps rfl rfl rfl ddX12_steps ⟨Nat.le_trans (Nat.le_of_ble_eq_true rfl) hfr, Nat.le_trans (Nat.le_of_ble_eq_true rfl) hlo⟩) (va_recv E.1 hP (q := (RX12, TX12, 31)) (ci := 11) rfl (zO.get (oX12_at))) E hP hS hl.1 rfl rfl (Nat.le_of_ble_eq_true rfl) dX12_judge_161) hS (fun H locs hP hS => ?_)
                  refine lv_iload hx hb dX12_judge_164 (lv_at hl 4 rfl) ?_
                  refine lv_isub hx hb dX12_judge_166 ?_
                  refine lv_imul hx hb dX12_judge_167 ?_
                  refine lv_iadd hx hb dX12_judge_168 ?_
                  refine lv_iload hx hb dX12_judge_169 (lv_at hl 5 rfl) ?_
                  refine lv_iadd hx hb dX12_judge_171 ?_
                  replace hf := hel35 _ (hdl35 _ (Option.some.inj hf).symm)
                  replace hf := hel32 _ (hdl32 _ (Option.some.inj hf).symm)
                  replace hf := hel26 _ (hdl26 _ (Option.some.inj hf).symm)
                  exact hret _ _ _ hf _ _ _ _ hP hS dX12_judge_172
      refine zl_i (V := (Int32 × zI)) (P := fun v => ∀ (H : Heap) (locs : List Loc) (ls : Array Slot), va_P D vwCl (zw 25 (kM cy ad) ad v.2 J8) H → va_S A s.heap H locs → lv_has ls 7 [(0, .ref (ad 0)), (2, .int p2), (3, .int (v.1))] → W p l e R s m args below meth c H locs 0 0 Q (F0 m 35 ls [])) ?_ _ _ hf _ _ _ hP hS (lv_sub hl [1, 3, 0] rfl)
      intro v z hf hcl12 hdl12
      obtain ⟨x13, I14⟩ := v
      intro H locs ls hP hS hl
      replace hf : f_X12_judge_L35 x13 I14 = some z := hf
      unfold f_X12_judge_L35 at hf
      replace hP : va_P D vwCl (zw 25 (kM cy ad) ad I14 J8) H := hP
      replace hl : lv_has ls 7 [(0, .ref (ad 0)), (2, .int p2), (3, .int x13)] := hl
      refine lv_iload_n hx hb dX12_judge_35 rfl (lv_at hl 2 rfl) ?_
      refine lv_sipush (v := 7272) hx hb dX12_judge_36 (by decide) ?_
      refine lv_icmp_ge (tgt := 60) hx hb dX12_judge_39 (by decide) (fun k15 => ?_) (fun k15 => ?_)
      · replace hf := zt k15 hf
        exact hjl12 _ (hdl12 _ (Option.some.inj hf).symm) _ _ _ hP hS (lv_sub hl [0, 1] rfl)
      · replace hf := zf k15 hf
        refine lv_aload_n hx hb dX12_judge_42 rfl (lv_at hl 0 rfl) ?_
        refine va_get (D := D) (ci := 11) (v := .ref (ad 17)) (C := RX12) (T := TX12) (N := 31) hx hb hts hinX12_judge_X12 hown E.1 hP 0 (zO.get (oX12_at)) rfl 19 (by decide) (hts (.fieldLink RX12 60 "EdgeAndSpeedModel" "acts" "[I") (by decide +kernel)) (fun _ h9 => h9) rfl dX12_judge_43 ?_
        refine lv_iload_n hx hb dX12_judge_46 rfl (lv_at hl 2 rfl) ?_
        refine lv_aload_n hx hb dX12_judge_47 rfl (lv_at hl 0 rfl) ?_
        refine va_get (D := D) (ci := 11) (v := .ref (ad 15)) (C := RX12) (T := TX12) (N := 31) hx hb hts hinX12_judge_X12 hown E.1 hP 0 (zO.get (oX12_at)) rfl 17 (by decide) (hts (.fieldLink RX12 53 "EdgeAndSpeedModel" "act" "[I") (by decide +kernel)) (fun _ h9 => h9) rfl dX12_judge_48 ?_
        refine lv_iload_n hx hb dX12_judge_51 rfl (lv_at hl 2 rfl) ?_
        obtain ⟨g16, hf⟩ := zg_i hf
        refine va_iald hx hb E.1 hP 15 1 (zIA.get (aX12_17)) rfl g16 dX12_judge_52 ?_
        obtain ⟨g18, hf⟩ := zg_i hf
        obtain ⟨I17, eI17⟩ := zex (va_up I14 17 (upd (I14 17) x13.toNatClampNeg (I14 15 x13.toNatClampNeg)))
        replace hf := zn_s eI17 hf
        refine zast_i hx hb E.1 hP hD.D hS (aX12_19) g18 dX12_judge_53 eI17 (fun H locs hP hS => ?_)
        obtain ⟨y19, ey19⟩ := zex (x13 + 1)
        replace hf := zn_s ey19 hf
        refine lv_iinc (v := y19) (lv' := [(3, .int y19), (0, .ref (ad 0)), (2, .int p2)]) hx hb dX12_judge_54 hl (k := 2) rfl (by rw [ey19]; rfl) (by decide) rfl (fun ls hl => ?_)
        refine lv_goto (tgt := 35) hx hb dX12_judge_57 (by decide) ?_
        exact hcl12 _ (Option.some.inj hf).symm _ _ _ hP hS (lv_sub hl [1, 2, 0] rfl)
    · replace hf := zt k6 hf
      refine lv_iconst (v := (-1)) hx hb dX12_judge_20 (by decide) ?_
      exact hret _ _ _ hf _ _ _ _ hP hS dX12_judge_21
theorem c_X12_judge (l : Launch) {D : va_G} {a0 : Nat → Nat} {A : Nat → Prop} {cy : Nat → ClassId} {ad : Nat → Nat} (hD : zD A 25 ad) {I : zI} {J : zJ} (p1 : Int32) (p2 : Int32) {rx : Int32} {rI : zI} {rJ : zJ} (hf : f_X12_judge I J p1 p2 = some (rx, rI, rJ)) : Met l yX12_judge wsX12_judge { frames := 5, cells := 0, slots := 0, locals := 131 } (zPc D a0 A cy [.ref (ad 0), .int p1, .int p2] (zw 25 (kM cy ad) ad I J)) (zQi D A rx (zw 25 (kM cy ad) ad rI rJ)) 0 0 A :=
  zmet RX12 (by decide) rfl rfl (Nat.le_of_ble_eq_true rfl) (fun p e R s m below meth c Q hfr hlo ls S0 hQ => w_X12_judge hfr hlo hD p1 p2 hf S0 (fun tx tI tJ hq H locs ls pc hP hS hd => by cases hq; exact hQ H locs _ hS (fun hx hb hr hlocks hfree => W.iret hx hb hr (fun t ht hW => ⟨⟨_, (), rfl, rfl, zht ht hP⟩, hS.F ht⟩) hfree hd hlocks)))
theorem ddX12_judge : yX12_judge.cls = RX12 ∧ yX12_judge.cls ≠ "java/lang/invoke/MethodHandle" ∧ yX12_judge.cls ≠ "java/lang/invoke/VarHandle" ∧ (parseMethodDescriptor yX12_judge.desc).map (fun d => d.parameters.length) = some 2 := by decide +kernel

def f_X12_parts_L21 (J : zJ) (p1 : Int32) (p3 : Int32) (p4 : Int32) (p2 : Int32) (y1 : Int32) (x5 : Int32) (I6 : zI) : Option ((Int32 × zI) ⊕ zI) := (if 48 ≤ x5 then some (.inr I6) else zn (((x5 - x5 / 8 * 8) + 1)) (fun y8 => zb1 (f_X12_can I6 J p1 p3 p4 x5) (fun x9 => zb1 ((if x9 = 0 then some (101) else zb1 (f_X12_wears I6 J p1 (x5 / 8) y8 p2) (fun x14 => some ((p4 + x14)))) : Option Int32) (fun x16 => zb1 ((if 100 < x16 then some (0) else (if y8 < p3 then some (1) else zg (¬ (((4 * p1) + 2) < 0 ∨ 64 ≤ ((4 * p1) + 2).toNatClampNeg)) ((if (I6 6 ((4 * p1) + 2).toNatClampNeg) < p4 then some (0) else some (1))))) : Option Int32) (fun x23 => zb1 ((if x23 = 0 then some (0) else some (((101 * (p3 - y8)) + x16))) : Option Int32) (fun x27 => (if x23 = 0 then zn (x5 + 1) (fun y29 => some (.inl (y29, I6))) else zg (¬ (x27 < 0 ∨ 909 ≤ x27.toNatClampNeg)) ((if 1000000000 ≤ (I6 19 x27.toNatClampNeg) then zn (x5 + 1) (fun y32 => some (.inl (y32, I6))) else zg (¬ (x27 < 0 ∨ 909 ≤ x27.toNatClampNeg)) (zb1 (f_X12_minutes I6 J p1 (x5 / 8)) (fun x34 => zg (¬ ((2 : Int32) < 0 ∨ 10 ≤ (2 : Int32).toNatClampNeg)) (zn (((I6 19 x27.toNatClampNeg) + (x34 * (I6 11 (2 : Int32).toNatClampNeg)))) (fun y37 => zg (¬ (x27 < 0 ∨ 909 ≤ x27.toNatClampNeg)) (zn (((I6 20 x27.toNatClampNeg) + 1)) (fun y39 => zg (¬ (y1 < 0 ∨ 909 ≤ y1.toNatClampNeg)) ((if y37 < (I6 19 y1.toNatClampNeg) then zg (¬ (y1 < 0 ∨ 909 ≤ y1.toNatClampNeg)) (zn (va_up I6 19 (upd (I6 19) y1.toNatClampNeg y37)) (fun I42 => zg (¬ (y1 < 0 ∨ 909 ≤ y1.toNatClampNeg)) (zn (va_up I42 20 (upd (I42 20) y1.toNatClampNeg y39)) (fun I44 => zg (¬ (y1 < 0 ∨ 909 ≤ y1.toNatClampNeg)) (zn (va_up I44 21 (upd (I44 21) y1.toNatClampNeg x5)) (fun I46 => zn (x5 + 1) (fun y48 => some (.inl (y48, I46))))))))) else zg (¬ (y1 < 0 ∨ 909 ≤ y1.toNatClampNeg)) ((if y37 = (I6 19 y1.toNatClampNeg) then zg (¬ (y1 < 0 ∨ 909 ≤ y1.toNatClampNeg)) ((if (I6 20 y1.toNatClampNeg) ≤ y39 then zn (x5 + 1) (fun y54 => some (.inl (y54, I6))) else zg (¬ (y1 < 0 ∨ 909 ≤ y1.toNatClampNeg)) (zn (va_up I6 19 (upd (I6 19) y1.toNatClampNeg y37)) (fun I55 => zg (¬ (y1 < 0 ∨ 909 ≤ y1.toNatClampNeg)) (zn (va_up I55 20 (upd (I55 20) y1.toNatClampNeg y39)) (fun I57 => zg (¬ (y1 < 0 ∨ 909 ≤ y1.toNatClampNeg)) (zn (va_up I57 21 (upd (I57 21) y1.toNatClampNeg x5)) (fun I59 => zn (x5 + 1) (fun y61 => some (.inl (y61, I59))))))))))) else zn (x5 + 1) (fun y51 => some (.inl (y51, I6))))))))))))))))))))))
def f_X12_parts (I : zI) (J : zJ) (p1 : Int32) (p2 : Int32) (p3 : Int32) (p4 : Int32) : Option zI := zn (((101 * p3) + p4)) (fun y1 => zg (¬ (y1 < 0 ∨ 909 ≤ y1.toNatClampNeg)) (zn (va_up I 19 (upd (I 19) y1.toNatClampNeg 1000000000)) (fun I2 => zb1 (zl (fun v : (Int32 × zI) => f_X12_parts_L21 J p1 p3 p4 p2 y1 v.1 v.2) zF (0, I2)) (fun I62 => some I62))))
theorem hinX12_parts_X12 : ∀ w ∈ u_ws RX12 TX12 31, w ∈ wsX12_parts := by decide +kernel
set_option maxHeartbeats 4000000 in
set_option maxRecDepth 100000 in
theorem w_X12_parts {p : Program} {l : Launch} {e : Env} {R : Room} {s : State} {m : MethodId} {args : Array Value} {below : List Frame} {meth : Method} {c : Code} {Q : State → Prop} (hfr : 3 ≤ R.frames) (hlo : 70 ≤ R.locals) {D : va_G} {a0 : Nat → Nat} {A : Nat → Prop} {cy : Nat → ClassId} {ad : Nat → Nat} (hD : zD A 25 ad) {I : zI} {J : zJ} (p1 : Int32) (p2 : Int32) (p3 : Int32) (p4 : Int32) {rI : zI} (hf : f_X12_parts I J p1 p2 p3 p4 = some rI) {ls : Array Slot} (S0 : zSt p m c cX12_parts 13 s args wsX12_parts RX12 D a0 A cy (zw 25 (kM cy ad) ad I J) [.ref (ad 0), .int p1, .int p2, .int p3, .int p4] ls) (hret : ∀ (tI : zI), some tI = some rI → ∀ (H : Heap) (locs : List Loc) (ls : Array Slot) (pc : Nat), va_P D vwCl (zw 25 (kM cy ad) ad tI J) H → va_S A s.heap H locs → decode cX12_parts pc = .ok (.return_, 1) → W p l e R s m args below meth c H locs 0 0 Q (F0 m pc ls [])) : W p l e R s m args below meth c s.heap [] 0 0 Q (F0 m 0 ls []) := by
  obtain ⟨S, E, hP, hl⟩ := S0
  obtain ⟨hx, hb, hml, hown, hts⟩ := id S
  have hS : va_S A s.heap s.heap [] := va_S.rf
  replace hl : lv_has ls 13 [(0, .ref (ad 0)), (1, .int p1), (2, .int p2), (3, .int p3), (4, .int p4)] := hl
  unfold f_X12_parts at hf
  refine lv_bipush (v := 101) hx hb dX12_parts_0 (by decide) ?_
  refine lv_iload_n hx hb dX12_parts_2 rfl (lv_at hl 3 rfl) ?_
  refine lv_imul hx hb dX12_parts_3 ?_
  refine lv_iload hx hb dX12_parts_4 (lv_at hl 4 rfl) ?_
  refine lv_iadd hx hb dX12_parts_6 ?_
  refine lv_topi (fun y1 ey1 => ?_)
  replace hf := zn_s ey1 hf
  refine lv_istore (lv' := [(5, .int y1), (0, .ref (ad 0)), (1, .int p1), (2, .int p2), (3, .int p3), (4, .int p4)]) hx hb dX12_parts_7 hl (by decide) rfl (fun ls hl => ?_)
  refine lv_aload_n hx hb dX12_parts_9 rfl (lv_at hl 1 rfl) ?_
  refine va_get (D := D) (ci := 11) (v := .ref (ad 19)) (C := RX12) (T := TX12) (N := 31) hx hb hts hinX12_parts_X12 hown E.1 hP 0 (zO.get (oX12_at)) rfl 25 (by decide) (hts (.fieldLink RX12 67 "EdgeAndSpeedModel" "partCost" "[I") (by decide +kernel)) (fun _ h9 => h9) rfl dX12_parts_10 ?_
  refine lv_iload hx hb dX12_parts_13 (lv_at hl 0 rfl) ?_
  refine lv_ldc hx hb hown (hts (.constant RX12 254 1000000000) (by decide +kernel)) dX12_parts_15 ?_
  obtain ⟨g3, hf⟩ := zg_i hf
  obtain ⟨I2, eI2⟩ := zex (va_up I 19 (upd (I 19) y1.toNatClampNeg 1000000000))
  replace hf := zn_s eI2 hf
  refine zast_i hx hb E.1 hP hD.D hS (aX12_25) g3 dX12_parts_17 eI2 (fun H locs hP hS => ?_)
  refine lv_iconst (v := 0) hx hb dX12_parts_18 (by decide) ?_
  refine lv_istore (lv' := [(6, .int 0), (5, .int y1), (0, .ref (ad 0)), (1, .int p1), (2, .int p2), (3, .int p3), (4, .int p4)]) hx hb dX12_parts_19 hl (by decide) rfl (fun ls hl => ?_)
  obtain ⟨zl4, hf, hzl4⟩ := zb1_i hf
  have hjl4 : ∀ (I62 : zI), I62 = zl4 → ∀ (H : Heap) (locs : List Loc) (ls : Array Slot), va_P D vwCl (zw 25 (kM cy ad) ad I62 J) H → va_S A s.heap H locs → lv_has ls 13 [] → W p l e R s m args below meth c H locs 0 0 Q (F0 m 257 ls []) := by
    intro I62 ez H locs ls hP hS hl
    have hf := hzl4 I62 ez
    exact hret _ hf _ _ _ _ hP hS dX12_parts_257
  refine zl_i (V := (Int32 × zI)) (P := fun v => ∀ (H : Heap) (locs : List Loc) (ls : Array Slot), va_P D vwCl (zw 25 (kM cy ad) ad v.2 J) H → va_S A s.heap H locs → lv_has ls 13 [(0, .ref (ad 0)), (1, .int p1), (2, .int p2), (3, .int p3), (4, .int p4), (5, .int y1), (6, .int (v.1))] → W p l e R s m args below meth c H locs 0 0 Q (F0 m 21 ls [])) ?_ _ _ hf _ _ _ hP hS (lv_sub hl [2, 3, 4, 5, 6, 1, 0] rfl)
  intro v z hf hcl4 hdl4
  obtain ⟨x5, I6⟩ := v
  intro H locs ls hP hS hl
  replace hf : f_X12_parts_L21 J p1 p3 p4 p2 y1 x5 I6 = some z := hf
  unfold f_X12_parts_L21 at hf
  replace hP : va_P D vwCl (zw 25 (kM cy ad) ad I6 J) H := hP
  replace hl : lv_has ls 13 [(0, .ref (ad 0)), (1, .int p1), (2, .int p2), (3, .int p3), (4, .int p4), (5, .int y1), (6, .int x5)] := hl
  refine lv_iload hx hb dX12_parts_21 (lv_at hl 6 rfl) ?_
  refine lv_bipush (v := 48) hx hb dX12_parts_23 (by decide) ?_
  refine lv_icmp_ge (tgt := 257) hx hb dX12_parts_25 (by decide) (fun k7 => ?_) (fun k7 => ?_)
  · replace hf := zt k7 hf
    exact hjl4 _ (hdl4 _ (Option.some.inj hf).symm) _ _ _ hP hS (lv_sub hl [] rfl)
  · replace hf := zf k7 hf
    refine lv_iload hx hb dX12_parts_28 (lv_at hl 6 rfl) ?_
    refine lv_bipush (v := 8) hx hb dX12_parts_30 (by decide) ?_
    refine lv_irem hx hb dX12_parts_32 (by decide) ?_
    refine lv_iconst (v := 1) hx hb dX12_parts_33 (by decide) ?_
    refine lv_iadd hx hb dX12_parts_34 ?_
    refine lv_topi (fun y8 ey8 => ?_)
    replace hf := zn_s ey8 hf
    refine lv_istore (lv' := [(7, .int y8), (0, .ref (ad 0)), (1, .int p1), (2, .int p2), (3, .int p3), (4, .int p4), (5, .int y1), (6, .int x5)]) hx hb dX12_parts_35 hl (by decide) rfl (fun ls hl => ?_)
    refine lv_aload_n hx hb dX12_parts_37 rfl (lv_at hl 1 rfl) ?_
    refine lv_iload_n hx hb dX12_parts_38 rfl (lv_at hl 2 rfl) ?_
    refine lv_iload_n hx hb dX12_parts_39 rfl (lv_at hl 4 rfl) ?_
    refine lv_iload hx hb dX12_parts_40 (lv_at hl 5 rfl) ?_
    refine lv_iload hx hb dX12_parts_42 (lv_at hl 7 rfl) ?_
    obtain ⟨x9, h10, hf⟩ := zb1_e hf
    refine zgo_i (zrunV (As := [.int p1, .int p3, .int p4, .int x5]) (rest := []) S (c_X12_can l hD p1 p3 p4 x5 h10) (cwV 4 hts gX12_parts_X12_can rfl rfl rfl ddX12_can ⟨Nat.le_trans (Nat.le_of_ble_eq_true rfl) hfr, Nat.le_trans (Nat.le_of_ble_eq_true rfl) hlo⟩) (va_recv E.1 hP (q := (RX12, TX12, 31)) (ci := 11) rfl (zO.get (oX12_at))) E hP hS hl.1 rfl rfl (Nat.le_of_ble_eq_true rfl) dX12_parts_44) hS (fun H locs hP hS => ?_)
    refine lv_istore (lv' := [(8, .int x9), (7, .int y8), (0, .ref (ad 0)), (1, .int p1), (2, .int p2), (3, .int p3), (4, .int p4), (5, .int y1), (6, .int x5)]) hx hb dX12_parts_47 hl (by decide) rfl (fun ls hl => ?_)
    refine lv_iload hx hb dX12_parts_49 (lv_at hl 0 rfl) ?_
    obtain ⟨zr13, hf, hzr13⟩ := zb1_i hf
    have hjr13 : ∀ (x16 : Int32), x16 = zr13 → ∀ (H : Heap) (locs : List Loc) (ls : Array Slot), va_P D vwCl (zw 25 (kM cy ad) ad I6 J) H → va_S A s.heap H locs → lv_has ls 13 [(0, .ref (ad 0)), (1, .int p1), (2, .int p2), (3, .int p3), (4, .int p4), (5, .int y1), (6, .int x5), (7, .int y8)] → W p l e R s m args below meth c H locs 0 0 Q (F0 m 75 ls [.int x16]) := by
      intro x16 ez H locs ls hP hS hl
      have hf := hzr13 x16 ez
      refine lv_istore (lv' := [(9, .int x16), (0, .ref (ad 0)), (1, .int p1), (2, .int p2), (3, .int p3), (4, .int p4), (5, .int y1), (6, .int x5), (7, .int y8)]) hx hb dX12_parts_75 hl (by decide) rfl (fun ls hl => ?_)
      refine lv_iload hx hb dX12_parts_77 (lv_at hl 0 rfl) ?_
      refine lv_bipush (v := 100) hx hb dX12_parts_79 (by decide) ?_
      obtain ⟨zr19, hf, hzr19⟩ := zb1_i hf
      have hjr19 : ∀ (x23 : Int32), x23 = zr19 → ∀ (H : Heap) (locs : List Loc) (ls : Array Slot), va_P D vwCl (zw 25 (kM cy ad) ad I6 J) H → va_S A s.heap H locs → lv_has ls 13 [(0, .ref (ad 0)), (1, .int p1), (2, .int p2), (3, .int p3), (4, .int p4), (5, .int y1), (6, .int x5), (7, .int y8), (9, .int x16)] → W p l e R s m args below meth c H locs 0 0 Q (F0 m 110 ls [.int x23]) := by
        intro x23 ez H locs ls hP hS hl
        have hf := hzr19 x23 ez
        refine lv_istore (lv' := [(8, .int x23), (0, .ref (ad 0)), (1, .int p1), (2, .int p2), (3, .int p3), (4, .int p4), (5, .int y1), (6, .int x5), (7, .int y8), (9, .int x16)]) hx hb dX12_parts_110 hl (by decide) rfl (fun ls hl => ?_)
        refine lv_iload hx hb dX12_parts_112 (lv_at hl 0 rfl) ?_
        obtain ⟨zr26, hf, hzr26⟩ := zb1_i hf
        have hjr26 : ∀ (x27 : Int32), x27 = zr26 → ∀ (H : Heap) (locs : List Loc) (ls : Array Slot), va_P D vwCl (zw 25 (kM cy ad) ad I6 J) H → va_S A s.heap H locs → lv_has ls 13 [(0, .ref (ad 0)), (1, .int p1), (2, .int p2), (3, .int p3), (4, .int p4), (5, .int y1), (6, .int x5), (8, .int x23)] → W p l e R s m args below meth c H locs 0 0 Q (F0 m 131 ls [.int x27]) := by
          intro x27 ez H locs ls hP hS hl
          have hf := hzr26 x27 ez
          refine lv_istore (lv' := [(10, .int x27), (0, .ref (ad 0)), (1, .int p1), (2, .int p2), (3, .int p3), (4, .int p4), (5, .int y1), (6, .int x5), (8, .int x23)]) hx hb dX12_parts_131 hl (by decide) rfl (fun ls hl => ?_)
          refine lv_iload hx hb dX12_parts_133 (lv_at hl 8 rfl) ?_
          refine lv_if_eq (tgt := 251) hx hb dX12_parts_135 (by decide) (fun k28 => ?_) (fun k28 => ?_)
          · replace hf := zt k28 hf
            obtain ⟨y29, ey29⟩ := zex (x5 + 1)
            replace hf := zn_s ey29 hf
            refine lv_iinc (v := y29) (lv' := [(6, .int y29), (10, .int x27), (0, .ref (ad 0)), (1, .int p1), (2, .int p2), (3, .int p3), (4, .int p4), (5, .int y1), (8, .int x23)]) hx hb dX12_parts_251 hl (k := 7) rfl (by rw [ey29]; rfl) (by decide) rfl (fun ls hl => ?_)
            refine lv_goto (tgt := 21) hx hb dX12_parts_254 (by decide) ?_
            exact hcl4 _ (Option.some.inj hf).symm _ _ _ hP hS (lv_sub hl [2, 3, 4, 5, 6, 7, 0] rfl)
          · replace hf := zf k28 hf
            refine lv_aload_n hx hb dX12_parts_138 rfl (lv_at hl 1 rfl) ?_
            refine va_get (D := D) (ci := 11) (v := .ref (ad 19)) (C := RX12) (T := TX12) (N := 31) hx hb hts hinX12_parts_X12 hown E.1 hP 0 (zO.get (oX12_at)) rfl 25 (by decide) (hts (.fieldLink RX12 67 "EdgeAndSpeedModel" "partCost" "[I") (by decide +kernel)) (fun _ h9 => h9) rfl dX12_parts_139 ?_
            refine lv_iload hx hb dX12_parts_142 (lv_at hl 0 rfl) ?_
            obtain ⟨g30, hf⟩ := zg_i hf
            refine va_iald hx hb E.1 hP 19 1 (zIA.get (aX12_25)) rfl g30 dX12_parts_144 ?_
            refine lv_ldc hx hb hown (hts (.constant RX12 254 1000000000) (by decide +kernel)) dX12_parts_145 ?_
            refine lv_icmp_ge (tgt := 251) hx hb dX12_parts_147 (by decide) (fun k31 => ?_) (fun k31 => ?_)
            · replace hf := zt k31 hf
              obtain ⟨y32, ey32⟩ := zex (x5 + 1)
              replace hf := zn_s ey32 hf
              refine lv_iinc (v := y32) (lv' := [(6, .int y32), (10, .int x27), (0, .ref (ad 0)), (1, .int p1), (2, .int p2), (3, .int p3), (4, .int p4), (5, .int y1), (8, .int x23)]) hx hb dX12_parts_251 hl (k := 7) rfl (by rw [ey32]; rfl) (by decide) rfl (fun ls hl => ?_)
              refine lv_goto (tgt := 21) hx hb dX12_parts_254 (by decide) ?_
              exact hcl4 _ (Option.some.inj hf).symm _ _ _ hP hS (lv_sub hl [2, 3, 4, 5, 6, 7, 0] rfl)
            · replace hf := zf k31 hf
              refine lv_aload_n hx hb dX12_parts_150 rfl (lv_at hl 1 rfl) ?_
              refine va_get (D := D) (ci := 11) (v := .ref (ad 19)) (C := RX12) (T := TX12) (N := 31) hx hb hts hinX12_parts_X12 hown E.1 hP 0 (zO.get (oX12_at)) rfl 25 (by decide) (hts (.fieldLink RX12 67 "EdgeAndSpeedModel" "partCost" "[I") (by decide +kernel)) (fun _ h9 => h9) rfl dX12_parts_151 ?_
              refine lv_iload hx hb dX12_parts_154 (lv_at hl 0 rfl) ?_
              obtain ⟨g33, hf⟩ := zg_i hf
              refine va_iald hx hb E.1 hP 19 1 (zIA.get (aX12_25)) rfl g33 dX12_parts_156 ?_
              refine lv_aload_n hx hb dX12_parts_157 rfl (lv_at hl 1 rfl) ?_
              refine lv_iload_n hx hb dX12_parts_158 rfl (lv_at hl 2 rfl) ?_
              refine lv_iload hx hb dX12_parts_159 (lv_at hl 7 rfl) ?_
              refine lv_bipush (v := 8) hx hb dX12_parts_161 (by decide) ?_
              refine lv_idiv hx hb dX12_parts_163 (by decide) ?_
              obtain ⟨x34, h35, hf⟩ := zb1_e hf
              refine zgo_i (zrunV (As := [.int p1, .int (x5 / 8)]) (rest := [.int (I6 19 x27.toNatClampNeg)]) S (c_X12_minutes l hD p1 (x5 / 8) h35) (cwV 2 hts gX12_parts_X12_minutes rfl rfl rfl ddX12_minutes ⟨Nat.le_trans (Nat.le_of_ble_eq_true rfl) hfr, Nat.le_trans (Nat.le_of_ble_eq_true rfl) hlo⟩) (va_recv E.1 hP (q := (RX12, TX12, 31)) (ci := 11) rfl (zO.get (oX12_at))) E hP hS hl.1 rfl rfl (Nat.le_of_ble_eq_true rfl) dX12_parts_164) hS (fun H locs hP hS => ?_)
              refine lv_aload_n hx hb dX12_parts_167 rfl (lv_at hl 1 rfl) ?_
              refine va_get (D := D) (ci := 11) (v := .ref (ad 11)) (C := RX12) (T := TX12) (N := 31) hx hb hts hinX12_parts_X12 hown E.1 hP 0 (zO.get (oX12_at)) rfl 12 (by decide) (hts (.fieldLink RX12 41 "EdgeAndSpeedModel" "rest" "[I") (by decide +kernel)) (fun _ h9 => h9) rfl dX12_parts_168 ?_
              refine lv_iconst (v := 2) hx hb dX12_parts_171 (by decide) ?_
              obtain ⟨g36, hf⟩ := zg_i hf
              refine va_iald hx hb E.1 hP 11 1 (zIA.get (aX12_12)) rfl g36 dX12_parts_172 ?_
              refine lv_imul hx hb dX12_parts_173 ?_
              refine lv_iadd hx hb dX12_parts_174 ?_
              refine lv_topi (fun y37 ey37 => ?_)
              replace hf := zn_s ey37 hf
              refine lv_istore (lv' := [(11, .int y37), (10, .int x27), (0, .ref (ad 0)), (1, .int p1), (2, .int p2), (3, .int p3), (4, .int p4), (5, .int y1), (6, .int x5), (8, .int x23)]) hx hb dX12_parts_175 hl (by decide) rfl (fun ls hl => ?_)
              refine lv_aload_n hx hb dX12_parts_177 rfl (lv_at hl 2 rfl) ?_
              refine va_get (D := D) (ci := 11) (v := .ref (ad 20)) (C := RX12) (T := TX12) (N := 31) hx hb hts hinX12_parts_X12 hown E.1 hP 0 (zO.get (oX12_at)) rfl 26 (by decide) (hts (.fieldLink RX12 70 "EdgeAndSpeedModel" "partMany" "[I") (by decide +kernel)) (fun _ h9 => h9) rfl dX12_parts_178 ?_
              refine lv_iload hx hb dX12_parts_181 (lv_at hl 1 rfl) ?_
              obtain ⟨g38, hf⟩ := zg_i hf
              refine va_iald hx hb E.1 hP 20 1 (zIA.get (aX12_26)) rfl g38 dX12_parts_183 ?_
              refine lv_iconst (v := 1) hx hb dX12_parts_184 (by decide) ?_
              refine lv_iadd hx hb dX12_parts_185 ?_
              refine lv_topi (fun y39 ey39 => ?_)
              replace hf := zn_s ey39 hf
              refine lv_istore (lv' := [(12, .int y39), (11, .int y37), (10, .int x27), (0, .ref (ad 0)), (1, .int p1), (2, .int p2), (3, .int p3), (4, .int p4), (5, .int y1), (6, .int x5), (8, .int x23)]) hx hb dX12_parts_186 hl (by decide) rfl (fun ls hl => ?_)
              refine lv_iload hx hb dX12_parts_188 (lv_at hl 1 rfl) ?_
              refine lv_aload_n hx hb dX12_parts_190 rfl (lv_at hl 3 rfl) ?_
              refine va_get (D := D) (ci := 11) (v := .ref (ad 19)) (C := RX12) (T := TX12) (N := 31) hx hb hts hinX12_parts_X12 hown E.1 hP 0 (zO.get (oX12_at)) rfl 25 (by decide) (hts (.fieldLink RX12 67 "EdgeAndSpeedModel" "partCost" "[I") (by decide +kernel)) (fun _ h9 => h9) rfl dX12_parts_191 ?_
              refine lv_iload hx hb dX12_parts_194 (lv_at hl 8 rfl) ?_
              obtain ⟨g40, hf⟩ := zg_i hf
              refine va_iald hx hb E.1 hP 19 1 (zIA.get (aX12_25)) rfl g40 dX12_parts_196 ?_
              refine lv_icmp_lt (tgt := 224) hx hb dX12_parts_197 (by decide) (fun k41 => ?_) (fun k41 => ?_)
              · replace hf := zt k41 hf
                refine lv_aload_n hx hb dX12_parts_224 rfl (lv_at hl 3 rfl) ?_
                refine va_get (D := D) (ci := 11) (v := .ref (ad 19)) (C := RX12) (T := TX12) (N := 31) hx hb hts hinX12_parts_X12 hown E.1 hP 0 (zO.get (oX12_at)) rfl 25 (by decide) (hts (.fieldLink RX12 67 "EdgeAndSpeedModel" "partCost" "[I") (by decide +kernel)) (fun _ h9 => h9) rfl dX12_parts_225 ?_
                refine lv_iload hx hb dX12_parts_228 (lv_at hl 8 rfl) ?_
                refine lv_iload hx hb dX12_parts_230 (lv_at hl 1 rfl) ?_
                obtain ⟨g43, hf⟩ := zg_i hf
                obtain ⟨I42, eI42⟩ := zex (va_up I6 19 (upd (I6 19) y1.toNatClampNeg y37))
                replace hf := zn_s eI42 hf
                refine zast_i hx hb E.1 hP hD.D hS (aX12_25) g43 dX12_parts_232 eI42 (fun H locs hP hS => ?_)
                refine lv_aload_n hx hb dX12_parts_233 rfl (lv_at hl 3 rfl) ?_
                refine va_get (D := D) (ci := 11) (v := .ref (ad 20)) (C := RX12) (T := TX12) (N := 31) hx hb hts hinX12_parts_X12 hown E.1 hP 0 (zO.get (oX12_at)) rfl 26 (by decide) (hts (.fieldLink RX12 70 "EdgeAndSpeedModel" "partMany" "[I") (by decide +kernel)) (fun _ h9 => h9) rfl dX12_parts_234 ?_
                refine lv_iload hx hb dX12_parts_237 (lv_at hl 8 rfl) ?_
                refine lv_iload hx hb dX12_parts_239 (lv_at hl 0 rfl) ?_
                obtain ⟨g45, hf⟩ := zg_i hf
                obtain ⟨I44, eI44⟩ := zex (va_up I42 20 (upd (I42 20) y1.toNatClampNeg y39))
                replace hf := zn_s eI44 hf
                refine zast_i hx hb E.1 hP hD.D hS (aX12_26) g45 dX12_parts_241 eI44 (fun H locs hP hS => ?_)
                refine lv_aload_n hx hb dX12_parts_242 rfl (lv_at hl 3 rfl) ?_
                refine va_get (D := D) (ci := 11) (v := .ref (ad 21)) (C := RX12) (T := TX12) (N := 31) hx hb hts hinX12_parts_X12 hown E.1 hP 0 (zO.get (oX12_at)) rfl 27 (by decide) (hts (.fieldLink RX12 73 "EdgeAndSpeedModel" "partFirst" "[I") (by decide +kernel)) (fun _ h9 => h9) rfl dX12_parts_243 ?_
                refine lv_iload hx hb dX12_parts_246 (lv_at hl 8 rfl) ?_
                refine lv_iload hx hb dX12_parts_248 (lv_at hl 9 rfl) ?_
                obtain ⟨g47, hf⟩ := zg_i hf
                obtain ⟨I46, eI46⟩ := zex (va_up I44 21 (upd (I44 21) y1.toNatClampNeg x5))
                replace hf := zn_s eI46 hf
                refine zast_i hx hb E.1 hP hD.D hS (aX12_27) g47 dX12_parts_250 eI46 (fun H locs hP hS => ?_)
                obtain ⟨y48, ey48⟩ := zex (x5 + 1)
                replace hf := zn_s ey48 hf
                refine lv_iinc (v := y48) (lv' := [(6, .int y48), (12, .int y39), (11, .int y37), (10, .int x27), (0, .ref (ad 0)), (1, .int p1), (2, .int p2), (3, .int p3), (4, .int p4), (5, .int y1), (8, .int x23)]) hx hb dX12_parts_251 hl (k := 9) rfl (by rw [ey48]; rfl) (by decide) rfl (fun ls hl => ?_)
                refine lv_goto (tgt := 21) hx hb dX12_parts_254 (by decide) ?_
                exact hcl4 _ (Option.some.inj hf).symm _ _ _ hP hS (lv_sub hl [4, 5, 6, 7, 8, 9, 0] rfl)
              · replace hf := zf k41 hf
                refine lv_iload hx hb dX12_parts_200 (lv_at hl 1 rfl) ?_
                refine lv_aload_n hx hb dX12_parts_202 rfl (lv_at hl 3 rfl) ?_
                refine va_get (D := D) (ci := 11) (v := .ref (ad 19)) (C := RX12) (T := TX12) (N := 31) hx hb hts hinX12_parts_X12 hown E.1 hP 0 (zO.get (oX12_at)) rfl 25 (by decide) (hts (.fieldLink RX12 67 "EdgeAndSpeedModel" "partCost" "[I") (by decide +kernel)) (fun _ h9 => h9) rfl dX12_parts_203 ?_
                refine lv_iload hx hb dX12_parts_206 (lv_at hl 8 rfl) ?_
                obtain ⟨g49, hf⟩ := zg_i hf
                refine va_iald hx hb E.1 hP 19 1 (zIA.get (aX12_25)) rfl g49 dX12_parts_208 ?_
                refine lv_icmp_ne (tgt := 251) hx hb dX12_parts_209 (by decide) (fun k50 => ?_) (fun k50 => ?_)
                · replace hf := zf k50 hf
                  obtain ⟨y51, ey51⟩ := zex (x5 + 1)
                  replace hf := zn_s ey51 hf
                  refine lv_iinc (v := y51) (lv' := [(6, .int y51), (12, .int y39), (11, .int y37), (10, .int x27), (0, .ref (ad 0)), (1, .int p1), (2, .int p2), (3, .int p3), (4, .int p4), (5, .int y1), (8, .int x23)]) hx hb dX12_parts_251 hl (k := 9) rfl (by rw [ey51]; rfl) (by decide) rfl (fun ls hl => ?_)
                  refine lv_goto (tgt := 21) hx hb dX12_parts_254 (by decide) ?_
                  exact hcl4 _ (Option.some.inj hf).symm _ _ _ hP hS (lv_sub hl [4, 5, 6, 7, 8, 9, 0] rfl)
                · replace hf := zt k50 hf
                  refine lv_iload hx hb dX12_parts_212 (lv_at hl 0 rfl) ?_
                  refine lv_aload_n hx hb dX12_parts_214 rfl (lv_at hl 3 rfl) ?_
                  refine va_get (D := D) (ci := 11) (v := .ref (ad 20)) (C := RX12) (T := TX12) (N := 31) hx hb hts hinX12_parts_X12 hown E.1 hP 0 (zO.get (oX12_at)) rfl 26 (by decide) (hts (.fieldLink RX12 70 "EdgeAndSpeedModel" "partMany" "[I") (by decide +kernel)) (fun _ h9 => h9) rfl dX12_parts_215 ?_
                  refine lv_iload hx hb dX12_parts_218 (lv_at hl 8 rfl) ?_
                  obtain ⟨g52, hf⟩ := zg_i hf
                  refine va_iald hx hb E.1 hP 20 1 (zIA.get (aX12_26)) rfl g52 dX12_parts_220 ?_
                  refine lv_icmp_ge (tgt := 251) hx hb dX12_parts_221 (by decide) (fun k53 => ?_) (fun k53 => ?_)
                  · replace hf := zt k53 hf
                    obtain ⟨y54, ey54⟩ := zex (x5 + 1)
                    replace hf := zn_s ey54 hf
                    refine lv_iinc (v := y54) (lv' := [(6, .int y54), (12, .int y39), (11, .int y37), (10, .int x27), (0, .ref (ad 0)), (1, .int p1), (2, .int p2), (3, .int p3), (4, .int p4), (5, .int y1), (8, .int x23)]) hx hb dX12_parts_251 hl (k := 9) rfl (by rw [ey54]; rfl) (by decide) rfl (fun ls hl => ?_)
                    refine lv_goto (tgt := 21) hx hb dX12_parts_254 (by decide) ?_
                    exact hcl4 _ (Option.some.inj hf).symm _ _ _ hP hS (lv_sub hl [4, 5, 6, 7, 8, 9, 0] rfl)
                  · replace hf := zf k53 hf
                    refine lv_aload_n hx hb dX12_parts_224 rfl (lv_at hl 3 rfl) ?_
                    refine va_get (D := D) (ci := 11) (v := .ref (ad 19)) (C := RX12) (T := TX12) (N := 31) hx hb hts hinX12_parts_X12 hown E.1 hP 0 (zO.get (oX12_at)) rfl 25 (by decide) (hts (.fieldLink RX12 67 "EdgeAndSpeedModel" "partCost" "[I") (by decide +kernel)) (fun _ h9 => h9) rfl dX12_parts_225 ?_
                    refine lv_iload hx hb dX12_parts_228 (lv_at hl 8 rfl) ?_
                    refine lv_iload hx hb dX12_parts_230 (lv_at hl 1 rfl) ?_
                    obtain ⟨g56, hf⟩ := zg_i hf
                    obtain ⟨I55, eI55⟩ := zex (va_up I6 19 (upd (I6 19) y1.toNatClampNeg y37))
                    replace hf := zn_s eI55 hf
                    refine zast_i hx hb E.1 hP hD.D hS (aX12_25) g56 dX12_parts_232 eI55 (fun H locs hP hS => ?_)
                    refine lv_aload_n hx hb dX12_parts_233 rfl (lv_at hl 3 rfl) ?_
                    refine va_get (D := D) (ci := 11) (v := .ref (ad 20)) (C := RX12) (T := TX12) (N := 31) hx hb hts hinX12_parts_X12 hown E.1 hP 0 (zO.get (oX12_at)) rfl 26 (by decide) (hts (.fieldLink RX12 70 "EdgeAndSpeedModel" "partMany" "[I") (by decide +kernel)) (fun _ h9 => h9) rfl dX12_parts_234 ?_
                    refine lv_iload hx hb dX12_parts_237 (lv_at hl 8 rfl) ?_
                    refine lv_iload hx hb dX12_parts_239 (lv_at hl 0 rfl) ?_
                    obtain ⟨g58, hf⟩ := zg_i hf
                    obtain ⟨I57, eI57⟩ := zex (va_up I55 20 (upd (I55 20) y1.toNatClampNeg y39))
                    replace hf := zn_s eI57 hf
                    refine zast_i hx hb E.1 hP hD.D hS (aX12_26) g58 dX12_parts_241 eI57 (fun H locs hP hS => ?_)
                    refine lv_aload_n hx hb dX12_parts_242 rfl (lv_at hl 3 rfl) ?_
                    refine va_get (D := D) (ci := 11) (v := .ref (ad 21)) (C := RX12) (T := TX12) (N := 31) hx hb hts hinX12_parts_X12 hown E.1 hP 0 (zO.get (oX12_at)) rfl 27 (by decide) (hts (.fieldLink RX12 73 "EdgeAndSpeedModel" "partFirst" "[I") (by decide +kernel)) (fun _ h9 => h9) rfl dX12_parts_243 ?_
                    refine lv_iload hx hb dX12_parts_246 (lv_at hl 8 rfl) ?_
                    refine lv_iload hx hb dX12_parts_248 (lv_at hl 9 rfl) ?_
                    obtain ⟨g60, hf⟩ := zg_i hf
                    obtain ⟨I59, eI59⟩ := zex (va_up I57 21 (upd (I57 21) y1.toNatClampNeg x5))
                    replace hf := zn_s eI59 hf
                    refine zast_i hx hb E.1 hP hD.D hS (aX12_27) g60 dX12_parts_250 eI59 (fun H locs hP hS => ?_)
                    obtain ⟨y61, ey61⟩ := zex (x5 + 1)
                    replace hf := zn_s ey61 hf
                    refine lv_iinc (v := y61) (lv' := [(6, .int y61), (12, .int y39), (11, .int y37), (10, .int x27), (0, .ref (ad 0)), (1, .int p1), (2, .int p2), (3, .int p3), (4, .int p4), (5, .int y1), (8, .int x23)]) hx hb dX12_parts_251 hl (k := 9) rfl (by rw [ey61]; rfl) (by decide) rfl (fun ls hl => ?_)
                    refine lv_goto (tgt := 21) hx hb dX12_parts_254 (by decide) ?_
                    exact hcl4 _ (Option.some.inj hf).symm _ _ _ hP hS (lv_sub hl [4, 5, 6, 7, 8, 9, 0] rfl)
        refine lv_if_eq (tgt := 130) hx hb dX12_parts_114 (by decide) (fun k24 => ?_) (fun k24 => ?_)
        · replace hf := zt k24 hf
          refine lv_iconst (v := 0) hx hb dX12_parts_130 (by decide) ?_
          exact hjr26 _ (Option.some.inj hf) _ _ _ hP hS (lv_sub hl [1, 2, 3, 4, 5, 6, 7, 0] rfl)
        · replace hf := zf k24 hf
          refine lv_bipush (v := 101) hx hb dX12_parts_117 (by decide) ?_
          refine lv_iload_n hx hb dX12_parts_119 rfl (lv_at hl 4 rfl) ?_
          refine lv_iload hx hb dX12_parts_120 (lv_at hl 8 rfl) ?_
          refine lv_isub hx hb dX12_parts_122 ?_
          refine lv_imul hx hb dX12_parts_123 ?_
          refine lv_iload hx hb dX12_parts_124 (lv_at hl 9 rfl) ?_
          refine lv_iadd hx hb dX12_parts_126 ?_
          refine lv_goto (tgt := 131) hx hb dX12_parts_127 (by decide) ?_
          exact hjr26 _ (Option.some.inj hf) _ _ _ hP hS (lv_sub hl [1, 2, 3, 4, 5, 6, 7, 0] rfl)
      refine lv_icmp_gt (tgt := 109) hx hb dX12_parts_81 (by decide) (fun k17 => ?_) (fun k17 => ?_)
      · replace hf := zt k17 hf
        refine lv_iconst (v := 0) hx hb dX12_parts_109 (by decide) ?_
        exact hjr19 _ (Option.some.inj hf) _ _ _ hP hS (lv_sub hl [1, 2, 3, 4, 5, 6, 7, 8, 0] rfl)
      · replace hf := zf k17 hf
        refine lv_iload hx hb dX12_parts_84 (lv_at hl 8 rfl) ?_
        refine lv_iload_n hx hb dX12_parts_86 rfl (lv_at hl 4 rfl) ?_
        refine lv_icmp_lt (tgt := 105) hx hb dX12_parts_87 (by decide) (fun k20 => ?_) (fun k20 => ?_)
        · replace hf := zt k20 hf
          refine lv_iconst (v := 1) hx hb dX12_parts_105 (by decide) ?_
          refine lv_goto (tgt := 110) hx hb dX12_parts_106 (by decide) ?_
          exact hjr19 _ (Option.some.inj hf) _ _ _ hP hS (lv_sub hl [1, 2, 3, 4, 5, 6, 7, 8, 0] rfl)
        · replace hf := zf k20 hf
          refine lv_iload hx hb dX12_parts_90 (lv_at hl 5 rfl) ?_
          refine lv_aload_n hx hb dX12_parts_92 rfl (lv_at hl 1 rfl) ?_
          refine va_get (D := D) (ci := 11) (v := .ref (ad 6)) (C := RX12) (T := TX12) (N := 31) hx hb hts hinX12_parts_X12 hown E.1 hP 0 (zO.get (oX12_at)) rfl 7 (by decide) (hts (.fieldLink RX12 26 "EdgeAndSpeedModel" "piece" "[I") (by decide +kernel)) (fun _ h9 => h9) rfl dX12_parts_93 ?_
          refine lv_iconst (v := 4) hx hb dX12_parts_96 (by decide) ?_
          refine lv_iload_n hx hb dX12_parts_97 rfl (lv_at hl 2 rfl) ?_
          refine lv_imul hx hb dX12_parts_98 ?_
          refine lv_iconst (v := 2) hx hb dX12_parts_99 (by decide) ?_
          refine lv_iadd hx hb dX12_parts_100 ?_
          obtain ⟨g21, hf⟩ := zg_i hf
          refine va_iald hx hb E.1 hP 6 1 (zIA.get (aX12_7)) rfl g21 dX12_parts_101 ?_
          refine lv_icmp_gt (tgt := 109) hx hb dX12_parts_102 (by decide) (fun k22 => ?_) (fun k22 => ?_)
          · replace hf := zt k22 hf
            refine lv_iconst (v := 0) hx hb dX12_parts_109 (by decide) ?_
            exact hjr19 _ (Option.some.inj hf) _ _ _ hP hS (lv_sub hl [1, 2, 3, 4, 5, 6, 7, 8, 0] rfl)
          · replace hf := zf k22 hf
            refine lv_iconst (v := 1) hx hb dX12_parts_105 (by decide) ?_
            refine lv_goto (tgt := 110) hx hb dX12_parts_106 (by decide) ?_
            exact hjr19 _ (Option.some.inj hf) _ _ _ hP hS (lv_sub hl [1, 2, 3, 4, 5, 6, 7, 8, 0] rfl)
    refine lv_if_eq (tgt := 73) hx hb dX12_parts_51 (by decide) (fun k11 => ?_) (fun k11 => ?_)
    · replace hf := zt k11 hf
      refine lv_bipush (v := 101) hx hb dX12_parts_73 (by decide) ?_
      exact hjr13 _ (Option.some.inj hf) _ _ _ hP hS (lv_sub hl [2, 3, 4, 5, 6, 7, 8, 1] rfl)
    · replace hf := zf k11 hf
      refine lv_iload hx hb dX12_parts_54 (lv_at hl 6 rfl) ?_
      refine lv_aload_n hx hb dX12_parts_56 rfl (lv_at hl 2 rfl) ?_
      refine lv_iload_n hx hb dX12_parts_57 rfl (lv_at hl 3 rfl) ?_
      refine lv_iload hx hb dX12_parts_58 (lv_at hl 8 rfl) ?_
      refine lv_bipush (v := 8) hx hb dX12_parts_60 (by decide) ?_
      refine lv_idiv hx hb dX12_parts_62 (by decide) ?_
      refine lv_iload hx hb dX12_parts_63 (lv_at hl 1 rfl) ?_
      refine lv_iload_n hx hb dX12_parts_65 rfl (lv_at hl 4 rfl) ?_
      obtain ⟨x14, h15, hf⟩ := zb1_e hf
      refine zgo_i (zrunV (As := [.int p1, .int (x5 / 8), .int y8, .int p2]) (rest := [.int p4]) S (c_X12_wears l hD p1 (x5 / 8) y8 p2 h15) (cwV 4 hts gX12_parts_X12_wears rfl rfl rfl ddX12_wears ⟨Nat.le_trans (Nat.le_of_ble_eq_true rfl) hfr, Nat.le_trans (Nat.le_of_ble_eq_true rfl) hlo⟩) (va_recv E.1 hP (q := (RX12, TX12, 31)) (ci := 11) rfl (zO.get (oX12_at))) E hP hS hl.1 rfl rfl (Nat.le_of_ble_eq_true rfl) dX12_parts_66) hS (fun H locs hP hS => ?_)
      refine lv_iadd hx hb dX12_parts_69 ?_
      refine lv_goto (tgt := 75) hx hb dX12_parts_70 (by decide) ?_
      exact hjr13 _ (Option.some.inj hf) _ _ _ hP hS (lv_sub hl [2, 3, 4, 5, 6, 7, 8, 1] rfl)
theorem c_X12_parts (l : Launch) {D : va_G} {a0 : Nat → Nat} {A : Nat → Prop} {cy : Nat → ClassId} {ad : Nat → Nat} (hD : zD A 25 ad) {I : zI} {J : zJ} (p1 : Int32) (p2 : Int32) (p3 : Int32) (p4 : Int32) {rI : zI} (hf : f_X12_parts I J p1 p2 p3 p4 = some rI) : Met l yX12_parts wsX12_parts { frames := 3, cells := 0, slots := 0, locals := 70 } (zPc D a0 A cy [.ref (ad 0), .int p1, .int p2, .int p3, .int p4] (zw 25 (kM cy ad) ad I J)) (zQv D A (zw 25 (kM cy ad) ad rI J)) 0 0 A :=
  zmet RX12 (by decide) rfl rfl (Nat.le_of_ble_eq_true rfl) (fun p e R s m below meth c Q hfr hlo ls S0 hQ => w_X12_parts hfr hlo hD p1 p2 p3 p4 hf S0 (fun tI hq H locs ls pc hP hS hd => by cases hq; exact hQ H locs _ hS (fun hx hb hr hlocks hfree => W.vret hx hb hr (fun t ht hW => ⟨⟨(), rfl, trivial, zht ht hP⟩, hS.F ht⟩) hfree hd hlocks)))
theorem ddX12_parts : yX12_parts.cls = RX12 ∧ yX12_parts.cls ≠ "java/lang/invoke/MethodHandle" ∧ yX12_parts.cls ≠ "java/lang/invoke/VarHandle" ∧ (parseMethodDescriptor yX12_parts.desc).map (fun d => d.parameters.length) = some 4 := by decide +kernel

def f_X12_parted_L61 (x14 : Int32) (J : zJ) (p1 : Int32) (p2 : Int32) (x20 : Int32) (I21 : zI) : Option ((Int32 × zI) ⊕ zI) := (if 100 < x20 then some (.inr I21) else (if x14 = 0 then zg (¬ (x20 < 0 ∨ 909 ≤ x20.toNatClampNeg)) (zn (va_up I21 19 (upd (I21 19) x20.toNatClampNeg 0)) (fun I27 => zg (¬ (x20 < 0 ∨ 909 ≤ x20.toNatClampNeg)) (zn (va_up I27 20 (upd (I27 20) x20.toNatClampNeg 0)) (fun I29 => zn (x20 + 1) (fun y31 => some (.inl (y31, I29))))))) else zb1 (f_X12_parts I21 J p1 p2 x14 x20) (fun I24 => zn (x20 + 1) (fun y26 => some (.inl (y26, I24))))))
def f_X12_parted_L48 (J : zJ) (p1 : Int32) (p2 : Int32) (x14 : Int32) (I15 : zI) : Option ((Int32 × zI) ⊕ zI) := zb1 (f_X12_steps I15 J p1) (fun x16 => (if x16 < x14 then some (.inr I15) else zb1 (zl (fun v : (Int32 × zI) => f_X12_parted_L61 x14 J p1 p2 v.1 v.2) zF (0, I15)) (fun I32 => zn (x14 + 1) (fun y33 => some (.inl (y33, I32))))))
def f_X12_parted (I : zI) (J : zJ) (p1 : Int32) (p2 : Int32) (p3 : Int32) (p4 : Int32) : Option (Int64 × zI) := zb1 (f_X12_isPiece I J p1) (fun x1 => (if x1 = 0 then some ((-1), I) else zb1 (f_X12_isSteel I J p2) (fun x4 => (if x4 = 0 then some ((-1), I) else zb1 (f_X12_in I J (p3.toInt64) 0 100) (fun x7 => (if x7 = 0 then some ((-1), I) else zb1 (f_X12_in I J (p4.toInt64) 0 2) (fun x10 => (if x10 = 0 then some ((-1), I) else zb1 (zl (fun v : (Int32 × zI) => f_X12_parted_L48 J p1 p2 v.1 v.2) zF (0, I)) (fun I34 => zb1 (f_X12_steps I34 J p1) (fun x35 => zn (((101 * x35) + p3)) (fun y37 => zg (¬ (y37 < 0 ∨ 909 ≤ y37.toNatClampNeg)) ((if (I34 19 y37.toNatClampNeg) = 1000000000 then some ((-4), I34) else (if p4 = 0 then zg (¬ (y37 < 0 ∨ 909 ≤ y37.toNatClampNeg)) (some ((I34 19 y37.toNatClampNeg).toInt64, I34)) else (if p4 = 1 then zg (¬ (y37 < 0 ∨ 909 ≤ y37.toNatClampNeg)) (some ((I34 20 y37.toNatClampNeg).toInt64, I34)) else zg (¬ (y37 < 0 ∨ 909 ≤ y37.toNatClampNeg)) (some ((I34 21 y37.toNatClampNeg).toInt64, I34)))))))))))))))))
theorem hinX12_parted_X12 : ∀ w ∈ u_ws RX12 TX12 31, w ∈ wsX12_parted := by decide +kernel
set_option maxHeartbeats 4000000 in
set_option maxRecDepth 100000 in
theorem w_X12_parted {p : Program} {l : Launch} {e : Env} {R : Room} {s : State} {m : MethodId} {args : Array Value} {below : List Frame} {meth : Method} {c : Code} {Q : State → Prop} (hfr : 4 ≤ R.frames) (hlo : 102 ≤ R.locals) {D : va_G} {a0 : Nat → Nat} {A : Nat → Prop} {cy : Nat → ClassId} {ad : Nat → Nat} (hD : zD A 25 ad) {I : zI} {J : zJ} (p1 : Int32) (p2 : Int32) (p3 : Int32) (p4 : Int32) {rx : Int64} {rI : zI} (hf : f_X12_parted I J p1 p2 p3 p4 = some (rx, rI)) {ls : Array Slot} (S0 : zSt p m c cX12_parted 7 s args wsX12_parted RX12 D a0 A cy (zw 25 (kM cy ad) ad I J) [.ref (ad 0), .int p1, .int p2, .int p3, .int p4] ls) (hret : ∀ (tx : Int64) (tI : zI), some (tx, tI) = some (rx, rI) → ∀ (H : Heap) (locs : List Loc) (ls : Array Slot) (pc : Nat), va_P D vwCl (zw 25 (kM cy ad) ad tI J) H → va_S A s.heap H locs → decode cX12_parted pc = .ok (.lreturn, 1) → W p l e R s m args below meth c H locs 0 0 Q (F0 m pc ls [.long tx])) : W p l e R s m args below meth c s.heap [] 0 0 Q (F0 m 0 ls []) := by
  obtain ⟨S, E, hP, hl⟩ := S0
  obtain ⟨hx, hb, hml, hown, hts⟩ := id S
  have hS : va_S A s.heap s.heap [] := va_S.rf
  replace hl : lv_has ls 7 [(0, .ref (ad 0)), (1, .int p1), (2, .int p2), (3, .int p3), (4, .int p4)] := hl
  unfold f_X12_parted at hf
  refine lv_aload_n hx hb dX12_parted_0 rfl (lv_at hl 0 rfl) ?_
  refine lv_iload_n hx hb dX12_parted_1 rfl (lv_at hl 1 rfl) ?_
  obtain ⟨x1, h2, hf⟩ := zb1_e hf
  refine zgo_i (zrunV (As := [.int p1]) (rest := []) S (c_X12_isPiece l hD p1 h2) (cwV 1 hts gX12_parted_X12_isPiece rfl rfl rfl ddX12_isPiece ⟨Nat.le_trans (Nat.le_of_ble_eq_true rfl) hfr, Nat.le_trans (Nat.le_of_ble_eq_true rfl) hlo⟩) (va_recv E.1 hP (q := (RX12, TX12, 31)) (ci := 11) rfl (zO.get (oX12_at))) E hP hS hl.1 rfl rfl (Nat.le_of_ble_eq_true rfl) dX12_parted_2) hS (fun H locs hP hS => ?_)
  refine lv_if_eq (tgt := 41) hx hb dX12_parted_5 (by decide) (fun k3 => ?_) (fun k3 => ?_)
  · replace hf := zt k3 hf
    refine lv_ldc2 hx hb hown (hts (.constantLong RX12 196 (-1)) (by decide +kernel)) dX12_parted_41 ?_
    exact hret _ _ hf _ _ _ _ hP hS dX12_parted_44
  · replace hf := zf k3 hf
    refine lv_aload_n hx hb dX12_parted_8 rfl (lv_at hl 0 rfl) ?_
    refine lv_iload_n hx hb dX12_parted_9 rfl (lv_at hl 2 rfl) ?_
    obtain ⟨x4, h5, hf⟩ := zb1_e hf
    refine zgo_i (zrunV (As := [.int p2]) (rest := []) S (c_X12_isSteel l hD p2 h5) (cwV 1 hts gX12_parted_X12_isSteel rfl rfl rfl ddX12_isSteel ⟨Nat.le_trans (Nat.le_of_ble_eq_true rfl) hfr, Nat.le_trans (Nat.le_of_ble_eq_true rfl) hlo⟩) (va_recv E.1 hP (q := (RX12, TX12, 31)) (ci := 11) rfl (zO.get (oX12_at))) E hP hS hl.1 rfl rfl (Nat.le_of_ble_eq_true rfl) dX12_parted_10) hS (fun H locs hP hS => ?_)
    refine lv_if_eq (tgt := 41) hx hb dX12_parted_13 (by decide) (fun k6 => ?_) (fun k6 => ?_)
    · replace hf := zt k6 hf
      refine lv_ldc2 hx hb hown (hts (.constantLong RX12 196 (-1)) (by decide +kernel)) dX12_parted_41 ?_
      exact hret _ _ hf _ _ _ _ hP hS dX12_parted_44
    · replace hf := zf k6 hf
      refine lv_iload_n hx hb dX12_parted_16 rfl (lv_at hl 3 rfl) ?_
      refine lv_i2l hx hb dX12_parted_17 rfl ?_
      refine lv_lconst (v := 0) hx hb dX12_parted_18 (by decide) ?_
      refine lv_ldc2 hx hb hown (hts (.constantLong RX12 164 100) (by decide +kernel)) dX12_parted_19 ?_
      obtain ⟨x7, h8, hf⟩ := zb1_e hf
      refine zgo_i (zrunS (As := [.long (p3.toInt64), .long 0, .long 100]) (rest := []) S (c_X12_in l hD (p3.toInt64) 0 100 h8) (va_cwS 3 hts gX12_parted_X12_in rfl rfl rfl ddX12_in ⟨Nat.le_trans (Nat.le_of_ble_eq_true rfl) hfr, Nat.le_trans (Nat.le_of_ble_eq_true rfl) hlo⟩) E hP hS hl.1 rfl rfl (Nat.le_of_ble_eq_true rfl) dX12_parted_22) hS (fun H locs hP hS => ?_)
      refine lv_if_eq (tgt := 41) hx hb dX12_parted_25 (by decide) (fun k9 => ?_) (fun k9 => ?_)
      · replace hf := zt k9 hf
        refine lv_ldc2 hx hb hown (hts (.constantLong RX12 196 (-1)) (by decide +kernel)) dX12_parted_41 ?_
        exact hret _ _ hf _ _ _ _ hP hS dX12_parted_44
      · replace hf := zf k9 hf
        refine lv_iload hx hb dX12_parted_28 (lv_at hl 4 rfl) ?_
        refine lv_i2l hx hb dX12_parted_30 rfl ?_
        refine lv_lconst (v := 0) hx hb dX12_parted_31 (by decide) ?_
        refine lv_ldc2 hx hb hown (hts (.constantLong RX12 151 2) (by decide +kernel)) dX12_parted_32 ?_
        obtain ⟨x10, h11, hf⟩ := zb1_e hf
        refine zgo_i (zrunS (As := [.long (p4.toInt64), .long 0, .long 2]) (rest := []) S (c_X12_in l hD (p4.toInt64) 0 2 h11) (va_cwS 3 hts gX12_parted_X12_in rfl rfl rfl ddX12_in ⟨Nat.le_trans (Nat.le_of_ble_eq_true rfl) hfr, Nat.le_trans (Nat.le_of_ble_eq_true rfl) hlo⟩) E hP hS hl.1 rfl rfl (Nat.le_of_ble_eq_true rfl) dX12_parted_35) hS (fun H locs hP hS => ?_)
        refine lv_if_ne (tgt := 45) hx hb dX12_parted_38 (by decide) (fun k12 => ?_) (fun k12 => ?_)
        · replace hf := zf k12 hf
          refine lv_iconst (v := 0) hx hb dX12_parted_45 (by decide) ?_
          refine lv_istore (lv' := [(5, .int 0), (0, .ref (ad 0)), (1, .int p1), (2, .int p2), (3, .int p3), (4, .int p4)]) hx hb dX12_parted_46 hl (by decide) rfl (fun ls hl => ?_)
          obtain ⟨zl13, hf, hzl13⟩ := zb1_i hf
          have hjl13 : ∀ (I34 : zI), I34 = zl13 → ∀ (H : Heap) (locs : List Loc) (ls : Array Slot), va_P D vwCl (zw 25 (kM cy ad) ad I34 J) H → va_S A s.heap H locs → lv_has ls 7 [(0, .ref (ad 0)), (1, .int p1), (3, .int p3), (4, .int p4)] → W p l e R s m args below meth c H locs 0 0 Q (F0 m 114 ls []) := by
            intro I34 ez H locs ls hP hS hl
            have hf := hzl13 I34 ez
            refine lv_bipush (v := 101) hx hb dX12_parted_114 (by decide) ?_
            refine lv_aload_n hx hb dX12_parted_116 rfl (lv_at hl 0 rfl) ?_
            refine lv_iload_n hx hb dX12_parted_117 rfl (lv_at hl 1 rfl) ?_
            obtain ⟨x35, h36, hf⟩ := zb1_e hf
            refine zgo_i (zrunV (As := [.int p1]) (rest := [.int 101]) S (c_X12_steps l hD p1 h36) (cwV 1 hts gX12_parted_X12_steps rfl rfl rfl ddX12_steps ⟨Nat.le_trans (Nat.le_of_ble_eq_true rfl) hfr, Nat.le_trans (Nat.le_of_ble_eq_true rfl) hlo⟩) (va_recv E.1 hP (q := (RX12, TX12, 31)) (ci := 11) rfl (zO.get (oX12_at))) E hP hS hl.1 rfl rfl (Nat.le_of_ble_eq_true rfl) dX12_parted_118) hS (fun H locs hP hS => ?_)
            refine lv_imul hx hb dX12_parted_121 ?_
            refine lv_iload_n hx hb dX12_parted_122 rfl (lv_at hl 2 rfl) ?_
            refine lv_iadd hx hb dX12_parted_123 ?_
            refine lv_topi (fun y37 ey37 => ?_)
            replace hf := zn_s ey37 hf
            refine lv_istore (lv' := [(5, .int y37), (0, .ref (ad 0)), (1, .int p1), (3, .int p3), (4, .int p4)]) hx hb dX12_parted_124 hl (by decide) rfl (fun ls hl => ?_)
            refine lv_aload_n hx hb dX12_parted_126 rfl (lv_at hl 1 rfl) ?_
            refine va_get (D := D) (ci := 11) (v := .ref (ad 19)) (C := RX12) (T := TX12) (N := 31) hx hb hts hinX12_parted_X12 hown E.1 hP 0 (zO.get (oX12_at)) rfl 25 (by decide) (hts (.fieldLink RX12 67 "EdgeAndSpeedModel" "partCost" "[I") (by decide +kernel)) (fun _ h9 => h9) rfl dX12_parted_127 ?_
            refine lv_iload hx hb dX12_parted_130 (lv_at hl 0 rfl) ?_
            obtain ⟨g38, hf⟩ := zg_i hf
            refine va_iald hx hb E.1 hP 19 1 (zIA.get (aX12_25)) rfl g38 dX12_parted_132 ?_
            refine lv_ldc hx hb hown (hts (.constant RX12 254 1000000000) (by decide +kernel)) dX12_parted_133 ?_
            refine lv_icmp_ne (tgt := 144) hx hb dX12_parted_135 (by decide) (fun k39 => ?_) (fun k39 => ?_)
            · replace hf := zf k39 hf
              refine lv_iload hx hb dX12_parted_144 (lv_at hl 4 rfl) ?_
              refine lv_if_ne (tgt := 160) hx hb dX12_parted_146 (by decide) (fun k40 => ?_) (fun k40 => ?_)
              · replace hf := zf k40 hf
                refine lv_iload hx hb dX12_parted_160 (lv_at hl 4 rfl) ?_
                refine lv_iconst (v := 1) hx hb dX12_parted_162 (by decide) ?_
                refine lv_icmp_ne (tgt := 177) hx hb dX12_parted_163 (by decide) (fun k41 => ?_) (fun k41 => ?_)
                · replace hf := zf k41 hf
                  refine lv_aload_n hx hb dX12_parted_177 rfl (lv_at hl 1 rfl) ?_
                  refine va_get (D := D) (ci := 11) (v := .ref (ad 21)) (C := RX12) (T := TX12) (N := 31) hx hb hts hinX12_parted_X12 hown E.1 hP 0 (zO.get (oX12_at)) rfl 27 (by decide) (hts (.fieldLink RX12 73 "EdgeAndSpeedModel" "partFirst" "[I") (by decide +kernel)) (fun _ h9 => h9) rfl dX12_parted_178 ?_
                  refine lv_iload hx hb dX12_parted_181 (lv_at hl 0 rfl) ?_
                  obtain ⟨g42, hf⟩ := zg_i hf
                  refine va_iald hx hb E.1 hP 21 1 (zIA.get (aX12_27)) rfl g42 dX12_parted_183 ?_
                  refine lv_i2l hx hb dX12_parted_184 rfl ?_
                  exact hret _ _ hf _ _ _ _ hP hS dX12_parted_185
                · replace hf := zt k41 hf
                  refine lv_aload_n hx hb dX12_parted_166 rfl (lv_at hl 1 rfl) ?_
                  refine va_get (D := D) (ci := 11) (v := .ref (ad 20)) (C := RX12) (T := TX12) (N := 31) hx hb hts hinX12_parted_X12 hown E.1 hP 0 (zO.get (oX12_at)) rfl 26 (by decide) (hts (.fieldLink RX12 70 "EdgeAndSpeedModel" "partMany" "[I") (by decide +kernel)) (fun _ h9 => h9) rfl dX12_parted_167 ?_
                  refine lv_iload hx hb dX12_parted_170 (lv_at hl 0 rfl) ?_
                  obtain ⟨g43, hf⟩ := zg_i hf
                  refine va_iald hx hb E.1 hP 20 1 (zIA.get (aX12_26)) rfl g43 dX12_parted_172 ?_
                  refine lv_i2l hx hb dX12_parted_173 rfl ?_
                  refine lv_goto (tgt := 185) hx hb dX12_parted_174 (by decide) ?_
                  exact hret _ _ hf _ _ _ _ hP hS dX12_parted_185
              · replace hf := zt k40 hf
                refine lv_aload_n hx hb dX12_parted_149 rfl (lv_at hl 1 rfl) ?_
                refine va_get (D := D) (ci := 11) (v := .ref (ad 19)) (C := RX12) (T := TX12) (N := 31) hx hb hts hinX12_parted_X12 hown E.1 hP 0 (zO.get (oX12_at)) rfl 25 (by decide) (hts (.fieldLink RX12 67 "EdgeAndSpeedModel" "partCost" "[I") (by decide +kernel)) (fun _ h9 => h9) rfl dX12_parted_150 ?_
                refine lv_iload hx hb dX12_parted_153 (lv_at hl 0 rfl) ?_
                obtain ⟨g44, hf⟩ := zg_i hf
                refine va_iald hx hb E.1 hP 19 1 (zIA.get (aX12_25)) rfl g44 dX12_parted_155 ?_
                refine lv_i2l hx hb dX12_parted_156 rfl ?_
                refine lv_goto (tgt := 185) hx hb dX12_parted_157 (by decide) ?_
                exact hret _ _ hf _ _ _ _ hP hS dX12_parted_185
            · replace hf := zt k39 hf
              refine lv_ldc2 hx hb hown (hts (.constantLong RX12 258 (-4)) (by decide +kernel)) dX12_parted_138 ?_
              refine lv_goto (tgt := 185) hx hb dX12_parted_141 (by decide) ?_
              exact hret _ _ hf _ _ _ _ hP hS dX12_parted_185
          refine zl_i (V := (Int32 × zI)) (P := fun v => ∀ (H : Heap) (locs : List Loc) (ls : Array Slot), va_P D vwCl (zw 25 (kM cy ad) ad v.2 J) H → va_S A s.heap H locs → lv_has ls 7 [(0, .ref (ad 0)), (1, .int p1), (2, .int p2), (3, .int p3), (4, .int p4), (5, .int (v.1))] → W p l e R s m args below meth c H locs 0 0 Q (F0 m 48 ls [])) ?_ _ _ hf _ _ _ hP hS (lv_sub hl [1, 2, 3, 4, 5, 0] rfl)
          intro v z hf hcl13 hdl13
          obtain ⟨x14, I15⟩ := v
          intro H locs ls hP hS hl
          replace hf : f_X12_parted_L48 J p1 p2 x14 I15 = some z := hf
          unfold f_X12_parted_L48 at hf
          replace hP : va_P D vwCl (zw 25 (kM cy ad) ad I15 J) H := hP
          replace hl : lv_has ls 7 [(0, .ref (ad 0)), (1, .int p1), (2, .int p2), (3, .int p3), (4, .int p4), (5, .int x14)] := hl
          refine lv_iload hx hb dX12_parted_48 (lv_at hl 5 rfl) ?_
          refine lv_aload_n hx hb dX12_parted_50 rfl (lv_at hl 0 rfl) ?_
          refine lv_iload_n hx hb dX12_parted_51 rfl (lv_at hl 1 rfl) ?_
          obtain ⟨x16, h17, hf⟩ := zb1_e hf
          refine zgo_i (zrunV (As := [.int p1]) (rest := [.int x14]) S (c_X12_steps l hD p1 h17) (cwV 1 hts gX12_parted_X12_steps rfl rfl rfl ddX12_steps ⟨Nat.le_trans (Nat.le_of_ble_eq_true rfl) hfr, Nat.le_trans (Nat.le_of_ble_eq_true rfl) hlo⟩) (va_recv E.1 hP (q := (RX12, TX12, 31)) (ci := 11) rfl (zO.get (oX12_at))) E hP hS hl.1 rfl rfl (Nat.le_of_ble_eq_true rfl) dX12_parted_52) hS (fun H locs hP hS => ?_)
          refine lv_icmp_gt (tgt := 114) hx hb dX12_parted_55 (by decide) (fun k18 => ?_) (fun k18 => ?_)
          · replace hf := zt k18 hf
            exact hjl13 _ (hdl13 _ (Option.some.inj hf).symm) _ _ _ hP hS (lv_sub hl [0, 1, 3, 4] rfl)
          · replace hf := zf k18 hf
            refine lv_iconst (v := 0) hx hb dX12_parted_58 (by decide) ?_
            refine lv_istore (lv' := [(6, .int 0), (0, .ref (ad 0)), (1, .int p1), (2, .int p2), (3, .int p3), (4, .int p4), (5, .int x14)]) hx hb dX12_parted_59 hl (by decide) rfl (fun ls hl => ?_)
            obtain ⟨zl19, hf, hzl19⟩ := zb1_i hf
            have hjl19 : ∀ (I32 : zI), I32 = zl19 → ∀ (H : Heap) (locs : List Loc) (ls : Array Slot), va_P D vwCl (zw 25 (kM cy ad) ad I32 J) H → va_S A s.heap H locs → lv_has ls 7 [(0, .ref (ad 0)), (1, .int p1), (2, .int p2), (3, .int p3), (4, .int p4), (5, .int x14)] → W p l e R s m args below meth c H locs 0 0 Q (F0 m 108 ls []) := by
              intro I32 ez H locs ls hP hS hl
              have hf := hzl19 I32 ez
              obtain ⟨y33, ey33⟩ := zex (x14 + 1)
              replace hf := zn_s ey33 hf
              refine lv_iinc (v := y33) (lv' := [(5, .int y33), (0, .ref (ad 0)), (1, .int p1), (2, .int p2), (3, .int p3), (4, .int p4)]) hx hb dX12_parted_108 hl (k := 5) rfl (by rw [ey33]; rfl) (by decide) rfl (fun ls hl => ?_)
              refine lv_goto (tgt := 48) hx hb dX12_parted_111 (by decide) ?_
              exact hcl13 _ (Option.some.inj hf).symm _ _ _ hP hS (lv_sub hl [1, 2, 3, 4, 5, 0] rfl)
            refine zl_i (V := (Int32 × zI)) (P := fun v => ∀ (H : Heap) (locs : List Loc) (ls : Array Slot), va_P D vwCl (zw 25 (kM cy ad) ad v.2 J) H → va_S A s.heap H locs → lv_has ls 7 [(0, .ref (ad 0)), (1, .int p1), (2, .int p2), (3, .int p3), (4, .int p4), (5, .int x14), (6, .int (v.1))] → W p l e R s m args below meth c H locs 0 0 Q (F0 m 61 ls [])) ?_ _ _ hf _ _ _ hP hS (lv_sub hl [1, 2, 3, 4, 5, 6, 0] rfl)
            intro v z hf hcl19 hdl19
            obtain ⟨x20, I21⟩ := v
            intro H locs ls hP hS hl
            replace hf : f_X12_parted_L61 x14 J p1 p2 x20 I21 = some z := hf
            unfold f_X12_parted_L61 at hf
            replace hP : va_P D vwCl (zw 25 (kM cy ad) ad I21 J) H := hP
            replace hl : lv_has ls 7 [(0, .ref (ad 0)), (1, .int p1), (2, .int p2), (3, .int p3), (4, .int p4), (5, .int x14), (6, .int x20)] := hl
            refine lv_iload hx hb dX12_parted_61 (lv_at hl 6 rfl) ?_
            refine lv_bipush (v := 100) hx hb dX12_parted_63 (by decide) ?_
            refine lv_icmp_gt (tgt := 108) hx hb dX12_parted_65 (by decide) (fun k22 => ?_) (fun k22 => ?_)
            · replace hf := zt k22 hf
              exact hjl19 _ (hdl19 _ (Option.some.inj hf).symm) _ _ _ hP hS (lv_sub hl [0, 1, 2, 3, 4, 5] rfl)
            · replace hf := zf k22 hf
              refine lv_iload hx hb dX12_parted_68 (lv_at hl 5 rfl) ?_
              refine lv_if_ne (tgt := 92) hx hb dX12_parted_70 (by decide) (fun k23 => ?_) (fun k23 => ?_)
              · replace hf := zf k23 hf
                refine lv_aload_n hx hb dX12_parted_92 rfl (lv_at hl 0 rfl) ?_
                refine lv_iload_n hx hb dX12_parted_93 rfl (lv_at hl 1 rfl) ?_
                refine lv_iload_n hx hb dX12_parted_94 rfl (lv_at hl 2 rfl) ?_
                refine lv_iload hx hb dX12_parted_95 (lv_at hl 5 rfl) ?_
                refine lv_iload hx hb dX12_parted_97 (lv_at hl 6 rfl) ?_
                obtain ⟨I24, h25, hf⟩ := zb1_e hf
                refine zgo_v (zrunV (As := [.int p1, .int p2, .int x14, .int x20]) (rest := []) S (c_X12_parts l hD p1 p2 x14 x20 h25) (cwV 4 hts gX12_parted_X12_parts rfl rfl rfl ddX12_parts ⟨Nat.le_trans (Nat.le_of_ble_eq_true rfl) hfr, Nat.le_trans (Nat.le_of_ble_eq_true rfl) hlo⟩) (va_recv E.1 hP (q := (RX12, TX12, 31)) (ci := 11) rfl (zO.get (oX12_at))) E hP hS hl.1 rfl rfl (Nat.le_of_ble_eq_true rfl) dX12_parted_99) hS (fun H locs hP hS => ?_)
                obtain ⟨y26, ey26⟩ := zex (x20 + 1)
                replace hf := zn_s ey26 hf
                refine lv_iinc (v := y26) (lv' := [(6, .int y26), (0, .ref (ad 0)), (1, .int p1), (2, .int p2), (3, .int p3), (4, .int p4), (5, .int x14)]) hx hb dX12_parted_102 hl (k := 6) rfl (by rw [ey26]; rfl) (by decide) rfl (fun ls hl => ?_)
                refine lv_goto (tgt := 61) hx hb dX12_parted_105 (by decide) ?_
                exact hcl19 _ (Option.some.inj hf).symm _ _ _ hP hS (lv_sub hl [1, 2, 3, 4, 5, 6, 0] rfl)
              · replace hf := zt k23 hf
                refine lv_aload_n hx hb dX12_parted_73 rfl (lv_at hl 0 rfl) ?_
                refine va_get (D := D) (ci := 11) (v := .ref (ad 19)) (C := RX12) (T := TX12) (N := 31) hx hb hts hinX12_parted_X12 hown E.1 hP 0 (zO.get (oX12_at)) rfl 25 (by decide) (hts (.fieldLink RX12 67 "EdgeAndSpeedModel" "partCost" "[I") (by decide +kernel)) (fun _ h9 => h9) rfl dX12_parted_74 ?_
                refine lv_iload hx hb dX12_parted_77 (lv_at hl 6 rfl) ?_
                refine lv_iconst (v := 0) hx hb dX12_parted_79 (by decide) ?_
                obtain ⟨g28, hf⟩ := zg_i hf
                obtain ⟨I27, eI27⟩ := zex (va_up I21 19 (upd (I21 19) x20.toNatClampNeg 0))
                replace hf := zn_s eI27 hf
                refine zast_i hx hb E.1 hP hD.D hS (aX12_25) g28 dX12_parted_80 eI27 (fun H locs hP hS => ?_)
                refine lv_aload_n hx hb dX12_parted_81 rfl (lv_at hl 0 rfl) ?_
                refine va_get (D := D) (ci := 11) (v := .ref (ad 20)) (C := RX12) (T := TX12) (N := 31) hx hb hts hinX12_parted_X12 hown E.1 hP 0 (zO.get (oX12_at)) rfl 26 (by decide) (hts (.fieldLink RX12 70 "EdgeAndSpeedModel" "partMany" "[I") (by decide +kernel)) (fun _ h9 => h9) rfl dX12_parted_82 ?_
                refine lv_iload hx hb dX12_parted_85 (lv_at hl 6 rfl) ?_
                refine lv_iconst (v := 0) hx hb dX12_parted_87 (by decide) ?_
                obtain ⟨g30, hf⟩ := zg_i hf
                obtain ⟨I29, eI29⟩ := zex (va_up I27 20 (upd (I27 20) x20.toNatClampNeg 0))
                replace hf := zn_s eI29 hf
                refine zast_i hx hb E.1 hP hD.D hS (aX12_26) g30 dX12_parted_88 eI29 (fun H locs hP hS => ?_)
                refine lv_goto (tgt := 102) hx hb dX12_parted_89 (by decide) ?_
                obtain ⟨y31, ey31⟩ := zex (x20 + 1)
                replace hf := zn_s ey31 hf
                refine lv_iinc (v := y31) (lv' := [(6, .int y31), (0, .ref (ad 0)), (1, .int p1), (2, .int p2), (3, .int p3), (4, .int p4), (5, .int x14)]) hx hb dX12_parted_102 hl (k := 6) rfl (by rw [ey31]; rfl) (by decide) rfl (fun ls hl => ?_)
                refine lv_goto (tgt := 61) hx hb dX12_parted_105 (by decide) ?_
                exact hcl19 _ (Option.some.inj hf).symm _ _ _ hP hS (lv_sub hl [1, 2, 3, 4, 5, 6, 0] rfl)
        · replace hf := zt k12 hf
          refine lv_ldc2 hx hb hown (hts (.constantLong RX12 196 (-1)) (by decide +kernel)) dX12_parted_41 ?_
          exact hret _ _ hf _ _ _ _ hP hS dX12_parted_44
theorem c_X12_parted (l : Launch) {D : va_G} {a0 : Nat → Nat} {A : Nat → Prop} {cy : Nat → ClassId} {ad : Nat → Nat} (hD : zD A 25 ad) {I : zI} {J : zJ} (p1 : Int32) (p2 : Int32) (p3 : Int32) (p4 : Int32) {rx : Int64} {rI : zI} (hf : f_X12_parted I J p1 p2 p3 p4 = some (rx, rI)) : Met l yX12_parted wsX12_parted { frames := 4, cells := 0, slots := 0, locals := 102 } (zPc D a0 A cy [.ref (ad 0), .int p1, .int p2, .int p3, .int p4] (zw 25 (kM cy ad) ad I J)) (zQl D A rx (zw 25 (kM cy ad) ad rI J)) 0 0 A :=
  zmet RX12 (by decide) rfl rfl (Nat.le_of_ble_eq_true rfl) (fun p e R s m below meth c Q hfr hlo ls S0 hQ => w_X12_parted hfr hlo hD p1 p2 p3 p4 hf S0 (fun tx tI hq H locs ls pc hP hS hd => by cases hq; exact hQ H locs _ hS (fun hx hb hr hlocks hfree => W.lret hx hb hr (fun t ht hW => ⟨⟨_, (), rfl, rfl, zht ht hP⟩, hS.F ht⟩) hfree hd hlocks)))
theorem ddX12_parted : yX12_parted.cls = RX12 ∧ yX12_parted.cls ≠ "java/lang/invoke/MethodHandle" ∧ yX12_parted.cls ≠ "java/lang/invoke/VarHandle" ∧ (parseMethodDescriptor yX12_parted.desc).map (fun d => d.parameters.length) = some 4 := by decide +kernel
