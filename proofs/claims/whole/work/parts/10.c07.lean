def f_X9_change (I : zI) (J : zJ) : Option zI := zn (va_up I 38 (va_up (I 38) 4 0)) (fun I1 => zn (va_up I1 38 (va_up (I1 38) 9 ((I1 38 9) + 1))) (fun I2 => zb1 (f_X0_changeHundredths I2 J 4) (fun x3 => zn (va_up I2 38 (va_up (I2 38) 6 ((I2 38 6) + x3))) (fun I5 => some I5))))
theorem hinX9_change_X9 : ∀ w ∈ u_ws RX9 TX9 10, w ∈ wsX9_change := by decide +kernel
set_option maxHeartbeats 4000000 in
set_option maxRecDepth 100000 in
theorem w_X9_change {p : Program} {l : Launch} {e : Env} {R : Room} {s : State} {m : MethodId} {args : Array Value} {below : List Frame} {meth : Method} {c : Code} {Q : State → Prop} (hfr : 1 ≤ R.frames) (hlo : 20 ≤ R.locals) {D : va_G} {a0 : Nat → Nat} {A : Nat → Prop} {cy : Nat → ClassId} {ad : Nat → Nat} (hD : zD A 74 ad) {I : zI} {J : zJ}  {rI : zI} (hf : f_X9_change I J = some rI) {ls : Array Slot} (S0 : zSt p m c cX9_change 1 s args wsX9_change RX9 D a0 A cy (zw 74 (kC cy ad a0) ad I J) [.ref (ad 38)] ls) (hret : ∀ (tI : zI), some tI = some rI → ∀ (H : Heap) (locs : List Loc) (ls : Array Slot) (pc : Nat), va_P D vwCl (zw 74 (kC cy ad a0) ad tI J) H → va_S A s.heap H locs → decode cX9_change pc = .ok (.return_, 1) → W p l e R s m args below meth c H locs 0 0 Q (F0 m pc ls [])) : W p l e R s m args below meth c s.heap [] 0 0 Q (F0 m 0 ls []) := by
  obtain ⟨S, E, hP, hl⟩ := S0
  obtain ⟨hx, hb, hml, hown, hts⟩ := id S
  have hS : va_S A s.heap s.heap [] := va_S.rf
  replace hl : lv_has ls 1 [(0, .ref (ad 38))] := hl
  unfold f_X9_change at hf
  refine lv_aload_n hx hb dX9_change_0 rfl (lv_at hl 0 rfl) ?_
  refine lv_iconst (v := 0) hx hb dX9_change_1 (by decide) ?_
  obtain ⟨I1, eI1⟩ := zex (va_up I 38 (va_up (I 38) 4 0))
  replace hf := zn_s eI1 hf
  refine zput (D := D) (ci := 8) (v := .int 0) (ty := .int) (C := RX9) (T := TX9) (N := 10) hx hb hts hinX9_change_X9 tyX9 tyX9_ok nmX9 hown E.1 hP hD.D hS 38 (zO.get (oX9_at)) rfl 4 (by decide) (hts (.fieldLink RX9 35 "EdgeAndSpeed$Trial" "wear" "I") (by decide +kernel)) (fun _ h9 => h9) rfl (tyX9_ok 4 (by decide)) rfl rfl (Nat.le_of_ble_eq_true rfl) dX9_change_2 (zO.setI (oX9_at) rfl eI1) (fun H locs hP hS => ?_)
  refine lv_aload_n hx hb dX9_change_5 rfl (lv_at hl 0 rfl) ?_
  refine lv_dup hx hb dX9_change_6 rfl ?_
  refine va_get (D := D) (ci := 8) (v := .int (I1 38 9)) (C := RX9) (T := TX9) (N := 10) hx hb hts hinX9_change_X9 hown E.1 hP 38 (zO.get (oX9_at)) rfl 9 (by decide) (hts (.fieldLink RX9 70 "EdgeAndSpeed$Trial" "changes" "I") (by decide +kernel)) (fun _ h9 => h9) rfl dX9_change_7 ?_
  refine lv_iconst (v := 1) hx hb dX9_change_10 (by decide) ?_
  refine lv_iadd hx hb dX9_change_11 ?_
  obtain ⟨I2, eI2⟩ := zex (va_up I1 38 (va_up (I1 38) 9 ((I1 38 9) + 1)))
  replace hf := zn_s eI2 hf
  refine zput (D := D) (ci := 8) (v := .int ((I1 38 9) + 1)) (ty := .int) (C := RX9) (T := TX9) (N := 10) hx hb hts hinX9_change_X9 tyX9 tyX9_ok nmX9 hown E.1 hP hD.D hS 38 (zO.get (oX9_at)) rfl 9 (by decide) (hts (.fieldLink RX9 70 "EdgeAndSpeed$Trial" "changes" "I") (by decide +kernel)) (fun _ h9 => h9) rfl (tyX9_ok 9 (by decide)) rfl rfl (Nat.le_of_ble_eq_true rfl) dX9_change_12 (zO.setI (oX9_at) rfl eI2) (fun H locs hP hS => ?_)
  refine lv_aload_n hx hb dX9_change_15 rfl (lv_at hl 0 rfl) ?_
  refine lv_dup hx hb dX9_change_16 rfl ?_
  refine va_get (D := D) (ci := 8) (v := .int (I2 38 6)) (C := RX9) (T := TX9) (N := 10) hx hb hts hinX9_change_X9 hown E.1 hP 38 (zO.get (oX9_at)) rfl 6 (by decide) (hts (.fieldLink RX9 61 "EdgeAndSpeed$Trial" "minutes" "I") (by decide +kernel)) (fun _ h9 => h9) rfl dX9_change_17 ?_
  refine lv_aload_n hx hb dX9_change_20 rfl (lv_at hl 0 rfl) ?_
  refine va_get (D := D) (ci := 8) (v := .ref (ad 4)) (C := RX9) (T := TX9) (N := 10) hx hb hts hinX9_change_X9 hown E.1 hP 38 (zO.get (oX9_at)) rfl 0 (by decide) (hts (.fieldLink RX9 9 "EdgeAndSpeed$Trial" "bench" "LEdgeAndSpeed$Bench;") (by decide +kernel)) (fun _ h9 => h9) rfl dX9_change_21 ?_
  obtain ⟨x3, h4, hf⟩ := zb1_e hf
  refine zgo_i (zrunV (As := []) (rest := [.int (I2 38 6), .ref (ad 38)]) S (c_X0_changeHundredths l hD 4 (zBat_C (by decide)) h4) (cwV 0 hts gX9_change_X0_changeHundredths rfl rfl rfl ddX0_changeHundredths ⟨Nat.le_trans (Nat.le_of_ble_eq_true rfl) hfr, Nat.le_trans (Nat.le_of_ble_eq_true rfl) hlo⟩) (va_recv E.1 hP (q := (RX0, TX0, 17)) (ci := 0) rfl (zO.get (zBat_o (zBat_C (by decide))))) E hP hS hl.1 rfl rfl (Nat.le_of_ble_eq_true rfl) dX9_change_24) hS (fun H locs hP hS => ?_)
  refine lv_iadd hx hb dX9_change_27 ?_
  obtain ⟨I5, eI5⟩ := zex (va_up I2 38 (va_up (I2 38) 6 ((I2 38 6) + x3)))
  replace hf := zn_s eI5 hf
  refine zput (D := D) (ci := 8) (v := .int ((I2 38 6) + x3)) (ty := .int) (C := RX9) (T := TX9) (N := 10) hx hb hts hinX9_change_X9 tyX9 tyX9_ok nmX9 hown E.1 hP hD.D hS 38 (zO.get (oX9_at)) rfl 6 (by decide) (hts (.fieldLink RX9 61 "EdgeAndSpeed$Trial" "minutes" "I") (by decide +kernel)) (fun _ h9 => h9) rfl (tyX9_ok 6 (by decide)) rfl rfl (Nat.le_of_ble_eq_true rfl) dX9_change_28 (zO.setI (oX9_at) rfl eI5) (fun H locs hP hS => ?_)
  exact hret _ hf _ _ _ _ hP hS dX9_change_31
theorem c_X9_change (l : Launch) {D : va_G} {a0 : Nat → Nat} {A : Nat → Prop} {cy : Nat → ClassId} {ad : Nat → Nat} (hD : zD A 74 ad) {I : zI} {J : zJ}  {rI : zI} (hf : f_X9_change I J = some rI) : Met l yX9_change wsX9_change { frames := 1, cells := 0, slots := 0, locals := 20 } (zPc D a0 A cy [.ref (ad 38)] (zw 74 (kC cy ad a0) ad I J)) (zQv D A (zw 74 (kC cy ad a0) ad rI J)) 0 0 A :=
  zmet RX9 (by decide) rfl rfl (Nat.le_of_ble_eq_true rfl) (fun p e R s m below meth c Q hfr hlo ls S0 hQ => w_X9_change hfr hlo hD  hf S0 (fun tI hq H locs ls pc hP hS hd => by cases hq; exact hQ H locs _ hS (fun hx hb hr hlocks hfree => W.vret hx hb hr (fun t ht hW => ⟨⟨(), rfl, trivial, zht ht hP⟩, hS.F ht⟩) hfree hd hlocks)))
theorem ddX9_change : yX9_change.cls = RX9 ∧ yX9_change.cls ≠ "java/lang/invoke/MethodHandle" ∧ yX9_change.cls ≠ "java/lang/invoke/VarHandle" ∧ (parseMethodDescriptor yX9_change.desc).map (fun d => d.parameters.length) = some 0 := by decide +kernel

def f_X9_next (I : zI) (J : zJ) : Option zI := zn (va_up I 38 (va_up (I 38) 2 ((I 38 2) + 1))) (fun I1 => zb1 (f_X0_stepsOf I1 J 4 (I1 38 2)) (fun x2 => zn (va_up I1 38 (va_up (I1 38) 3 x2)) (fun I4 => some I4)))
theorem hinX9_next_X9 : ∀ w ∈ u_ws RX9 TX9 10, w ∈ wsX9_next := by decide +kernel
set_option maxHeartbeats 4000000 in
set_option maxRecDepth 100000 in
theorem w_X9_next {p : Program} {l : Launch} {e : Env} {R : Room} {s : State} {m : MethodId} {args : Array Value} {below : List Frame} {meth : Method} {c : Code} {Q : State → Prop} (hfr : 2 ≤ R.frames) (hlo : 42 ≤ R.locals) {D : va_G} {a0 : Nat → Nat} {A : Nat → Prop} {cy : Nat → ClassId} {ad : Nat → Nat} (hD : zD A 74 ad) {I : zI} {J : zJ}  {rI : zI} (hf : f_X9_next I J = some rI) {ls : Array Slot} (S0 : zSt p m c cX9_next 1 s args wsX9_next RX9 D a0 A cy (zw 74 (kC cy ad a0) ad I J) [.ref (ad 38)] ls) (hret : ∀ (tI : zI), some tI = some rI → ∀ (H : Heap) (locs : List Loc) (ls : Array Slot) (pc : Nat), va_P D vwCl (zw 74 (kC cy ad a0) ad tI J) H → va_S A s.heap H locs → decode cX9_next pc = .ok (.return_, 1) → W p l e R s m args below meth c H locs 0 0 Q (F0 m pc ls [])) : W p l e R s m args below meth c s.heap [] 0 0 Q (F0 m 0 ls []) := by
  obtain ⟨S, E, hP, hl⟩ := S0
  obtain ⟨hx, hb, hml, hown, hts⟩ := id S
  have hS : va_S A s.heap s.heap [] := va_S.rf
  replace hl : lv_has ls 1 [(0, .ref (ad 38))] := hl
  unfold f_X9_next at hf
  refine lv_aload_n hx hb dX9_next_0 rfl (lv_at hl 0 rfl) ?_
  refine lv_dup hx hb dX9_next_1 rfl ?_
  refine va_get (D := D) (ci := 8) (v := .int (I 38 2)) (C := RX9) (T := TX9) (N := 10) hx hb hts hinX9_next_X9 hown E.1 hP 38 (zO.get (oX9_at)) rfl 2 (by decide) (hts (.fieldLink RX9 22 "EdgeAndSpeed$Trial" "piece" "I") (by decide +kernel)) (fun _ h9 => h9) rfl dX9_next_2 ?_
  refine lv_iconst (v := 1) hx hb dX9_next_5 (by decide) ?_
  refine lv_iadd hx hb dX9_next_6 ?_
  obtain ⟨I1, eI1⟩ := zex (va_up I 38 (va_up (I 38) 2 ((I 38 2) + 1)))
  replace hf := zn_s eI1 hf
  refine zput (D := D) (ci := 8) (v := .int ((I 38 2) + 1)) (ty := .int) (C := RX9) (T := TX9) (N := 10) hx hb hts hinX9_next_X9 tyX9 tyX9_ok nmX9 hown E.1 hP hD.D hS 38 (zO.get (oX9_at)) rfl 2 (by decide) (hts (.fieldLink RX9 22 "EdgeAndSpeed$Trial" "piece" "I") (by decide +kernel)) (fun _ h9 => h9) rfl (tyX9_ok 2 (by decide)) rfl rfl (Nat.le_of_ble_eq_true rfl) dX9_next_7 (zO.setI (oX9_at) rfl eI1) (fun H locs hP hS => ?_)
  refine lv_aload_n hx hb dX9_next_10 rfl (lv_at hl 0 rfl) ?_
  refine lv_aload_n hx hb dX9_next_11 rfl (lv_at hl 0 rfl) ?_
  refine va_get (D := D) (ci := 8) (v := .ref (ad 4)) (C := RX9) (T := TX9) (N := 10) hx hb hts hinX9_next_X9 hown E.1 hP 38 (zO.get (oX9_at)) rfl 0 (by decide) (hts (.fieldLink RX9 9 "EdgeAndSpeed$Trial" "bench" "LEdgeAndSpeed$Bench;") (by decide +kernel)) (fun _ h9 => h9) rfl dX9_next_12 ?_
  refine lv_aload_n hx hb dX9_next_15 rfl (lv_at hl 0 rfl) ?_
  refine va_get (D := D) (ci := 8) (v := .int (I1 38 2)) (C := RX9) (T := TX9) (N := 10) hx hb hts hinX9_next_X9 hown E.1 hP 38 (zO.get (oX9_at)) rfl 2 (by decide) (hts (.fieldLink RX9 22 "EdgeAndSpeed$Trial" "piece" "I") (by decide +kernel)) (fun _ h9 => h9) rfl dX9_next_16 ?_
  obtain ⟨x2, h3, hf⟩ := zb1_e hf
  refine zgo_i (zrunV (As := [.int (I1 38 2)]) (rest := [.ref (ad 38)]) S (c_X0_stepsOf l hD 4 (zBat_C (by decide)) (I1 38 2) h3) (cwV 1 hts gX9_next_X0_stepsOf rfl rfl rfl ddX0_stepsOf ⟨Nat.le_trans (Nat.le_of_ble_eq_true rfl) hfr, Nat.le_trans (Nat.le_of_ble_eq_true rfl) hlo⟩) (va_recv E.1 hP (q := (RX0, TX0, 17)) (ci := 0) rfl (zO.get (zBat_o (zBat_C (by decide))))) E hP hS hl.1 rfl rfl (Nat.le_of_ble_eq_true rfl) dX9_next_19) hS (fun H locs hP hS => ?_)
  obtain ⟨I4, eI4⟩ := zex (va_up I1 38 (va_up (I1 38) 3 x2))
  replace hf := zn_s eI4 hf
  refine zput (D := D) (ci := 8) (v := .int x2) (ty := .int) (C := RX9) (T := TX9) (N := 10) hx hb hts hinX9_next_X9 tyX9 tyX9_ok nmX9 hown E.1 hP hD.D hS 38 (zO.get (oX9_at)) rfl 3 (by decide) (hts (.fieldLink RX9 32 "EdgeAndSpeed$Trial" "left" "I") (by decide +kernel)) (fun _ h9 => h9) rfl (tyX9_ok 3 (by decide)) rfl rfl (Nat.le_of_ble_eq_true rfl) dX9_next_22 (zO.setI (oX9_at) rfl eI4) (fun H locs hP hS => ?_)
  exact hret _ hf _ _ _ _ hP hS dX9_next_25
theorem c_X9_next (l : Launch) {D : va_G} {a0 : Nat → Nat} {A : Nat → Prop} {cy : Nat → ClassId} {ad : Nat → Nat} (hD : zD A 74 ad) {I : zI} {J : zJ}  {rI : zI} (hf : f_X9_next I J = some rI) : Met l yX9_next wsX9_next { frames := 2, cells := 0, slots := 0, locals := 42 } (zPc D a0 A cy [.ref (ad 38)] (zw 74 (kC cy ad a0) ad I J)) (zQv D A (zw 74 (kC cy ad a0) ad rI J)) 0 0 A :=
  zmet RX9 (by decide) rfl rfl (Nat.le_of_ble_eq_true rfl) (fun p e R s m below meth c Q hfr hlo ls S0 hQ => w_X9_next hfr hlo hD  hf S0 (fun tI hq H locs ls pc hP hS hd => by cases hq; exact hQ H locs _ hS (fun hx hb hr hlocks hfree => W.vret hx hb hr (fun t ht hW => ⟨⟨(), rfl, trivial, zht ht hP⟩, hS.F ht⟩) hfree hd hlocks)))
theorem ddX9_next : yX9_next.cls = RX9 ∧ yX9_next.cls ≠ "java/lang/invoke/MethodHandle" ∧ yX9_next.cls ≠ "java/lang/invoke/VarHandle" ∧ (parseMethodDescriptor yX9_next.desc).map (fun d => d.parameters.length) = some 0 := by decide +kernel

def f_X9_spoil (I : zI) (J : zJ) : Option zI := zn (va_up I 38 (va_up (I 38) 8 ((I 38 8) + 1))) (fun I1 => zb1 (f_X9_next I1 J) (fun I2 => some I2))
theorem hinX9_spoil_X9 : ∀ w ∈ u_ws RX9 TX9 10, w ∈ wsX9_spoil := by decide +kernel
set_option maxHeartbeats 4000000 in
set_option maxRecDepth 100000 in
theorem w_X9_spoil {p : Program} {l : Launch} {e : Env} {R : Room} {s : State} {m : MethodId} {args : Array Value} {below : List Frame} {meth : Method} {c : Code} {Q : State → Prop} (hfr : 3 ≤ R.frames) (hlo : 62 ≤ R.locals) {D : va_G} {a0 : Nat → Nat} {A : Nat → Prop} {cy : Nat → ClassId} {ad : Nat → Nat} (hD : zD A 74 ad) {I : zI} {J : zJ}  {rI : zI} (hf : f_X9_spoil I J = some rI) {ls : Array Slot} (S0 : zSt p m c cX9_spoil 1 s args wsX9_spoil RX9 D a0 A cy (zw 74 (kC cy ad a0) ad I J) [.ref (ad 38)] ls) (hret : ∀ (tI : zI), some tI = some rI → ∀ (H : Heap) (locs : List Loc) (ls : Array Slot) (pc : Nat), va_P D vwCl (zw 74 (kC cy ad a0) ad tI J) H → va_S A s.heap H locs → decode cX9_spoil pc = .ok (.return_, 1) → W p l e R s m args below meth c H locs 0 0 Q (F0 m pc ls [])) : W p l e R s m args below meth c s.heap [] 0 0 Q (F0 m 0 ls []) := by
  obtain ⟨S, E, hP, hl⟩ := S0
  obtain ⟨hx, hb, hml, hown, hts⟩ := id S
  have hS : va_S A s.heap s.heap [] := va_S.rf
  replace hl : lv_has ls 1 [(0, .ref (ad 38))] := hl
  unfold f_X9_spoil at hf
  refine lv_aload_n hx hb dX9_spoil_0 rfl (lv_at hl 0 rfl) ?_
  refine lv_dup hx hb dX9_spoil_1 rfl ?_
  refine va_get (D := D) (ci := 8) (v := .int (I 38 8)) (C := RX9) (T := TX9) (N := 10) hx hb hts hinX9_spoil_X9 hown E.1 hP 38 (zO.get (oX9_at)) rfl 8 (by decide) (hts (.fieldLink RX9 67 "EdgeAndSpeed$Trial" "spoilt" "I") (by decide +kernel)) (fun _ h9 => h9) rfl dX9_spoil_2 ?_
  refine lv_iconst (v := 1) hx hb dX9_spoil_5 (by decide) ?_
  refine lv_iadd hx hb dX9_spoil_6 ?_
  obtain ⟨I1, eI1⟩ := zex (va_up I 38 (va_up (I 38) 8 ((I 38 8) + 1)))
  replace hf := zn_s eI1 hf
  refine zput (D := D) (ci := 8) (v := .int ((I 38 8) + 1)) (ty := .int) (C := RX9) (T := TX9) (N := 10) hx hb hts hinX9_spoil_X9 tyX9 tyX9_ok nmX9 hown E.1 hP hD.D hS 38 (zO.get (oX9_at)) rfl 8 (by decide) (hts (.fieldLink RX9 67 "EdgeAndSpeed$Trial" "spoilt" "I") (by decide +kernel)) (fun _ h9 => h9) rfl (tyX9_ok 8 (by decide)) rfl rfl (Nat.le_of_ble_eq_true rfl) dX9_spoil_7 (zO.setI (oX9_at) rfl eI1) (fun H locs hP hS => ?_)
  refine lv_aload_n hx hb dX9_spoil_10 rfl (lv_at hl 0 rfl) ?_
  obtain ⟨I2, h3, hf⟩ := zb1_e hf
  refine zgo_v (zrunV (As := []) (rest := []) S (c_X9_next l hD  h3) (cwV 0 hts gX9_spoil_X9_next rfl rfl rfl ddX9_next ⟨Nat.le_trans (Nat.le_of_ble_eq_true rfl) hfr, Nat.le_trans (Nat.le_of_ble_eq_true rfl) hlo⟩) (va_recv E.1 hP (q := (RX9, TX9, 10)) (ci := 8) rfl (zO.get (oX9_at))) E hP hS hl.1 rfl rfl (Nat.le_of_ble_eq_true rfl) dX9_spoil_11) hS (fun H locs hP hS => ?_)
  exact hret _ hf _ _ _ _ hP hS dX9_spoil_14
theorem c_X9_spoil (l : Launch) {D : va_G} {a0 : Nat → Nat} {A : Nat → Prop} {cy : Nat → ClassId} {ad : Nat → Nat} (hD : zD A 74 ad) {I : zI} {J : zJ}  {rI : zI} (hf : f_X9_spoil I J = some rI) : Met l yX9_spoil wsX9_spoil { frames := 3, cells := 0, slots := 0, locals := 62 } (zPc D a0 A cy [.ref (ad 38)] (zw 74 (kC cy ad a0) ad I J)) (zQv D A (zw 74 (kC cy ad a0) ad rI J)) 0 0 A :=
  zmet RX9 (by decide) rfl rfl (Nat.le_of_ble_eq_true rfl) (fun p e R s m below meth c Q hfr hlo ls S0 hQ => w_X9_spoil hfr hlo hD  hf S0 (fun tI hq H locs ls pc hP hS hd => by cases hq; exact hQ H locs _ hS (fun hx hb hr hlocks hfree => W.vret hx hb hr (fun t ht hW => ⟨⟨(), rfl, trivial, zht ht hP⟩, hS.F ht⟩) hfree hd hlocks)))
theorem ddX9_spoil : yX9_spoil.cls = RX9 ∧ yX9_spoil.cls ≠ "java/lang/invoke/MethodHandle" ∧ yX9_spoil.cls ≠ "java/lang/invoke/VarHandle" ∧ (parseMethodDescriptor yX9_spoil.desc).map (fun d => d.parameters.length) = some 0 := by decide +kernel

def f_X9_draw (I : zI) (J : zJ) (p1 : Int32) (p2 : Int32) : Option Int64 := zn ((((7919 * p1.toInt64) + (6151 * p2.toInt64)) + 1)) (fun u1 => some (((u1 * u1) - (u1 * u1) / 65521 * 65521) - ((u1 * u1) - (u1 * u1) / 65521 * 65521) / 100 * 100))
set_option maxHeartbeats 4000000 in
set_option maxRecDepth 100000 in
theorem w_X9_draw {p : Program} {l : Launch} {e : Env} {R : Room} {s : State} {m : MethodId} {args : Array Value} {below : List Frame} {meth : Method} {c : Code} {Q : State → Prop} (hfr : 0 ≤ R.frames) (hlo : 0 ≤ R.locals) {D : va_G} {a0 : Nat → Nat} {A : Nat → Prop} {cy : Nat → ClassId} {ad : Nat → Nat} (hD : zD A 74 ad) {I : zI} {J : zJ} (p1 : Int32) (p2 : Int32) {rx : Int64} (hf : f_X9_draw I J p1 p2 = some rx) {ls : Array Slot} (S0 : zSt p m c cX9_draw 4 s args wsX9_draw RX9 D a0 A cy (zw 74 (kC cy ad a0) ad I J) [.int p1, .int p2] ls) (hret : ∀ (tx : Int64), some tx = some rx → ∀ (H : Heap) (locs : List Loc) (ls : Array Slot) (pc : Nat), va_P D vwCl (zw 74 (kC cy ad a0) ad I J) H → va_S A s.heap H locs → decode cX9_draw pc = .ok (.lreturn, 1) → W p l e R s m args below meth c H locs 0 0 Q (F0 m pc ls [.long tx])) : W p l e R s m args below meth c s.heap [] 0 0 Q (F0 m 0 ls []) := by
  obtain ⟨S, E, hP, hl⟩ := S0
  obtain ⟨hx, hb, hml, hown, hts⟩ := id S
  have hS : va_S A s.heap s.heap [] := va_S.rf
  replace hl : lv_has ls 4 [(0, .int p1), (1, .int p2)] := hl
  unfold f_X9_draw at hf
  refine lv_ldc2 hx hb hown (hts (.constantLong RX9 103 7919) (by decide +kernel)) dX9_draw_0 ?_
  refine lv_iload_n hx hb dX9_draw_3 rfl (lv_at hl 0 rfl) ?_
  refine lv_i2l hx hb dX9_draw_4 rfl ?_
  refine lv_lmul hx hb dX9_draw_5 ?_
  refine lv_ldc2 hx hb hown (hts (.constantLong RX9 105 6151) (by decide +kernel)) dX9_draw_6 ?_
  refine lv_iload_n hx hb dX9_draw_9 rfl (lv_at hl 1 rfl) ?_
  refine lv_i2l hx hb dX9_draw_10 rfl ?_
  refine lv_lmul hx hb dX9_draw_11 ?_
  refine lv_ladd hx hb dX9_draw_12 ?_
  refine lv_lconst (v := 1) hx hb dX9_draw_13 (by decide) ?_
  refine lv_ladd hx hb dX9_draw_14 ?_
  refine lv_topl (fun u1 eu1 => ?_)
  replace hf := zn_s eu1 hf
  refine lv_lstore_n (lv' := [(2, .long u1), (0, .int p1), (1, .int p2)]) hx hb dX9_draw_15 rfl hl (by decide) rfl (fun ls hl => ?_)
  refine lv_lload_n hx hb dX9_draw_16 rfl (lv_at hl 0 rfl) ?_
  refine lv_lload_n hx hb dX9_draw_17 rfl (lv_at hl 0 rfl) ?_
  refine lv_lmul hx hb dX9_draw_18 ?_
  refine lv_ldc2 hx hb hown (hts (.constantLong RX9 107 65521) (by decide +kernel)) dX9_draw_19 ?_
  refine lv_lrem hx hb dX9_draw_22 (by decide) ?_
  refine lv_ldc2 hx hb hown (hts (.constantLong RX9 109 100) (by decide +kernel)) dX9_draw_23 ?_
  refine lv_lrem hx hb dX9_draw_26 (by decide) ?_
  exact hret _ hf _ _ _ _ hP hS dX9_draw_27
theorem c_X9_draw (l : Launch) {D : va_G} {a0 : Nat → Nat} {A : Nat → Prop} {cy : Nat → ClassId} {ad : Nat → Nat} (hD : zD A 74 ad) {I : zI} {J : zJ} (p1 : Int32) (p2 : Int32) {rx : Int64} (hf : f_X9_draw I J p1 p2 = some rx) : Met l yX9_draw wsX9_draw { frames := 0, cells := 0, slots := 0, locals := 0 } (zPc D a0 A cy [.int p1, .int p2] (zw 74 (kC cy ad a0) ad I J)) (zQl D A rx (zw 74 (kC cy ad a0) ad I J)) 0 0 A :=
  zmet RX9 (by decide) rfl rfl (Nat.le_of_ble_eq_true rfl) (fun p e R s m below meth c Q hfr hlo ls S0 hQ => w_X9_draw hfr hlo hD p1 p2 hf S0 (fun tx hq H locs ls pc hP hS hd => by cases hq; exact hQ H locs _ hS (fun hx hb hr hlocks hfree => W.lret hx hb hr (fun t ht hW => ⟨⟨_, (), rfl, rfl, zht ht hP⟩, hS.F ht⟩) hfree hd hlocks)))
theorem ddX9_draw : yX9_draw.cls ≠ "java/lang/invoke/MethodHandle" ∧ yX9_draw.cls ≠ "java/lang/invoke/VarHandle" ∧ (parseMethodDescriptor yX9_draw.desc).map (fun d => d.parameters.length) = some 2 := by decide +kernel

def f_X9_cut (I : zI) (J : zJ) (p1 : Int32) (p2 : Int32) (p3 : Int32) : Option zI := zb1 (f_X11_depthOf I J p1) (fun x1 => zb1 (f_X11_speedOf I J p1) (fun x3 => zb1 (f_X0_wears I J 4 (I 38 2) x3 x1 p2) (fun x5 => zb1 (f_X9_draw I J p3 (I 38 5)) (fun u7 => zb1 (f_X0_risk I J 4 (I 38 4) x5) (fun x9 => zb1 ((if 0 ≤ (lg_cmp u7 (x9.toInt64)) then some (0) else some (1)) : Option Int32) (fun x14 => zb1 (f_X11_speedOf I J p1) (fun x15 => zb1 (f_X0_minutes I J 4 (I 38 2) x15) (fun x17 => zn (va_up I 38 (va_up (I 38) 6 ((I 38 6) + x17))) (fun I19 => zn (va_up I19 38 (va_up (I19 38) 5 ((I19 38 5) + 1))) (fun I20 => (if x14 = 0 then zb1 (f_X0_fineOf I20 J 4 (I20 38 2)) (fun x22 => zb1 ((if (I20 38 4) ≤ x22 then some (0) else some (1)) : Option Int32) (fun x27 => zn (va_up I20 38 (va_up (I20 38) 4 ((I20 38 4) + x5))) (fun I28 => zn (va_up I28 38 (va_up (I28 38) 3 ((I28 38 3) - x1))) (fun I29 => (if (I29 38 3) = 0 then (if x27 = 0 then (if (I29 38 3) = 0 then zn (va_up I29 38 (va_up (I29 38) 7 ((I29 38 7) + 1))) (fun I37 => zb1 (f_X9_next I37 J) (fun I38 => some I38)) else some I29) else zb1 (f_X9_spoil I29 J) (fun I40 => some I40)) else (if (I29 38 3) = 0 then zn (va_up I29 38 (va_up (I29 38) 7 ((I29 38 7) + 1))) (fun I32 => zb1 (f_X9_next I32 J) (fun I33 => some I33)) else some I29)))))) else zb1 (f_X9_change I20 J) (fun I42 => zb1 (f_X9_spoil I42 J) (fun I44 => some I44)))))))))))))
theorem hinX9_cut_X9 : ∀ w ∈ u_ws RX9 TX9 10, w ∈ wsX9_cut := by decide +kernel
set_option maxHeartbeats 4000000 in
set_option maxRecDepth 100000 in
theorem w_X9_cut {p : Program} {l : Launch} {e : Env} {R : Room} {s : State} {m : MethodId} {args : Array Value} {below : List Frame} {meth : Method} {c : Code} {Q : State → Prop} (hfr : 4 ≤ R.frames) (hlo : 82 ≤ R.locals) {D : va_G} {a0 : Nat → Nat} {A : Nat → Prop} {cy : Nat → ClassId} {ad : Nat → Nat} (hD : zD A 74 ad) {I : zI} {J : zJ} (p1 : Int32) (p2 : Int32) (p3 : Int32) {rI : zI} (hf : f_X9_cut I J p1 p2 p3 = some rI) {ls : Array Slot} (S0 : zSt p m c cX9_cut 8 s args wsX9_cut RX9 D a0 A cy (zw 74 (kC cy ad a0) ad I J) [.ref (ad 38), .int p1, .int p2, .int p3] ls) (hret : ∀ (tI : zI), some tI = some rI → ∀ (H : Heap) (locs : List Loc) (ls : Array Slot) (pc : Nat), va_P D vwCl (zw 74 (kC cy ad a0) ad tI J) H → va_S A s.heap H locs → decode cX9_cut pc = .ok (.return_, 1) → W p l e R s m args below meth c H locs 0 0 Q (F0 m pc ls [])) : W p l e R s m args below meth c s.heap [] 0 0 Q (F0 m 0 ls []) := by
  obtain ⟨S, E, hP, hl⟩ := S0
  obtain ⟨hx, hb, hml, hown, hts⟩ := id S
  have hS : va_S A s.heap s.heap [] := va_S.rf
  replace hl : lv_has ls 8 [(0, .ref (ad 38)), (1, .int p1), (2, .int p2), (3, .int p3)] := hl
  unfold f_X9_cut at hf
  refine lv_iload_n hx hb dX9_cut_0 rfl (lv_at hl 1 rfl) ?_
  obtain ⟨x1, h2, hf⟩ := zb1_e hf
  refine zgo_i (zrunSN (As := [.int p1]) (rest := []) S (c_X11_depthOf l hD p1 h2) ⟨va_cnB (host := "EdgeAndSpeed") 1 hts gX9_cut_X11_depthOf_n80 rfl rfl rfl (zNmw_15 E.2.2) (hts (.initialized RX11) (by decide +kernel)) ddX11_depthOf ⟨Nat.le_trans (Nat.le_of_ble_eq_true rfl) hfr, Nat.le_trans (Nat.le_of_ble_eq_true rfl) hlo⟩, hts (.static yX11_depthOf) (by decide +kernel), trivial⟩ E hP hS hl.1 rfl rfl (Nat.le_of_ble_eq_true rfl) dX9_cut_1) hS (fun H locs hP hS => ?_)
  refine lv_istore (lv' := [(4, .int x1), (0, .ref (ad 38)), (1, .int p1), (2, .int p2), (3, .int p3)]) hx hb dX9_cut_4 hl (by decide) rfl (fun ls hl => ?_)
  refine lv_aload_n hx hb dX9_cut_6 rfl (lv_at hl 1 rfl) ?_
  refine va_get (D := D) (ci := 8) (v := .ref (ad 4)) (C := RX9) (T := TX9) (N := 10) hx hb hts hinX9_cut_X9 hown E.1 hP 38 (zO.get (oX9_at)) rfl 0 (by decide) (hts (.fieldLink RX9 9 "EdgeAndSpeed$Trial" "bench" "LEdgeAndSpeed$Bench;") (by decide +kernel)) (fun _ h9 => h9) rfl dX9_cut_7 ?_
  refine lv_aload_n hx hb dX9_cut_10 rfl (lv_at hl 1 rfl) ?_
  refine va_get (D := D) (ci := 8) (v := .int (I 38 2)) (C := RX9) (T := TX9) (N := 10) hx hb hts hinX9_cut_X9 hown E.1 hP 38 (zO.get (oX9_at)) rfl 2 (by decide) (hts (.fieldLink RX9 22 "EdgeAndSpeed$Trial" "piece" "I") (by decide +kernel)) (fun _ h9 => h9) rfl dX9_cut_11 ?_
  refine lv_iload_n hx hb dX9_cut_14 rfl (lv_at hl 2 rfl) ?_
  obtain ⟨x3, h4, hf⟩ := zb1_e hf
  refine zgo_i (zrunSN (As := [.int p1]) (rest := [.int (I 38 2), .ref (ad 4)]) S (c_X11_speedOf l hD p1 h4) ⟨va_cnB (host := "EdgeAndSpeed") 1 hts gX9_cut_X11_speedOf_n83 rfl rfl rfl (zNmw_16 E.2.2) (hts (.initialized RX11) (by decide +kernel)) ddX11_speedOf ⟨Nat.le_trans (Nat.le_of_ble_eq_true rfl) hfr, Nat.le_trans (Nat.le_of_ble_eq_true rfl) hlo⟩, hts (.static yX11_speedOf) (by decide +kernel), trivial⟩ E hP hS hl.1 rfl rfl (Nat.le_of_ble_eq_true rfl) dX9_cut_15) hS (fun H locs hP hS => ?_)
  refine lv_iload hx hb dX9_cut_18 (lv_at hl 0 rfl) ?_
  refine lv_iload_n hx hb dX9_cut_20 rfl (lv_at hl 3 rfl) ?_
  obtain ⟨x5, h6, hf⟩ := zb1_e hf
  refine zgo_i (zrunV (As := [.int (I 38 2), .int x3, .int x1, .int p2]) (rest := []) S (c_X0_wears l hD 4 (zBat_C (by decide)) (I 38 2) x3 x1 p2 h6) (cwV 4 hts gX9_cut_X0_wears rfl rfl rfl ddX0_wears ⟨Nat.le_trans (Nat.le_of_ble_eq_true rfl) hfr, Nat.le_trans (Nat.le_of_ble_eq_true rfl) hlo⟩) (va_recv E.1 hP (q := (RX0, TX0, 17)) (ci := 0) rfl (zO.get (zBat_o (zBat_C (by decide))))) E hP hS hl.1 rfl rfl (Nat.le_of_ble_eq_true rfl) dX9_cut_21) hS (fun H locs hP hS => ?_)
  refine lv_istore (lv' := [(5, .int x5), (4, .int x1), (0, .ref (ad 38)), (1, .int p1), (2, .int p2), (3, .int p3)]) hx hb dX9_cut_24 hl (by decide) rfl (fun ls hl => ?_)
  refine lv_iload_n hx hb dX9_cut_26 rfl (lv_at hl 5 rfl) ?_
  refine lv_aload_n hx hb dX9_cut_27 rfl (lv_at hl 2 rfl) ?_
  refine va_get (D := D) (ci := 8) (v := .int (I 38 5)) (C := RX9) (T := TX9) (N := 10) hx hb hts hinX9_cut_X9 hown E.1 hP 38 (zO.get (oX9_at)) rfl 5 (by decide) (hts (.fieldLink RX9 58 "EdgeAndSpeed$Trial" "passes" "I") (by decide +kernel)) (fun _ h9 => h9) rfl dX9_cut_28 ?_
  obtain ⟨u7, h8, hf⟩ := zb1_e hf
  refine zgo_l (zrunS (As := [.int p3, .int (I 38 5)]) (rest := []) S (c_X9_draw l hD p3 (I 38 5) h8) (va_cwS 2 hts gX9_cut_X9_draw rfl rfl rfl ddX9_draw ⟨Nat.le_trans (Nat.le_of_ble_eq_true rfl) hfr, Nat.le_trans (Nat.le_of_ble_eq_true rfl) hlo⟩) E hP hS hl.1 rfl rfl (Nat.le_of_ble_eq_true rfl) dX9_cut_31) hS (fun H locs hP hS => ?_)
  refine lv_aload_n hx hb dX9_cut_34 rfl (lv_at hl 2 rfl) ?_
  refine va_get (D := D) (ci := 8) (v := .ref (ad 4)) (C := RX9) (T := TX9) (N := 10) hx hb hts hinX9_cut_X9 hown E.1 hP 38 (zO.get (oX9_at)) rfl 0 (by decide) (hts (.fieldLink RX9 9 "EdgeAndSpeed$Trial" "bench" "LEdgeAndSpeed$Bench;") (by decide +kernel)) (fun _ h9 => h9) rfl dX9_cut_35 ?_
  refine lv_aload_n hx hb dX9_cut_38 rfl (lv_at hl 2 rfl) ?_
  refine va_get (D := D) (ci := 8) (v := .int (I 38 4)) (C := RX9) (T := TX9) (N := 10) hx hb hts hinX9_cut_X9 hown E.1 hP 38 (zO.get (oX9_at)) rfl 4 (by decide) (hts (.fieldLink RX9 35 "EdgeAndSpeed$Trial" "wear" "I") (by decide +kernel)) (fun _ h9 => h9) rfl dX9_cut_39 ?_
  refine lv_iload hx hb dX9_cut_42 (lv_at hl 0 rfl) ?_
  obtain ⟨x9, h10, hf⟩ := zb1_e hf
  refine zgo_i (zrunV (As := [.int (I 38 4), .int x5]) (rest := [.long u7]) S (c_X0_risk l hD 4 (zBat_C (by decide)) (I 38 4) x5 h10) (cwV 2 hts gX9_cut_X0_risk rfl rfl rfl ddX0_risk ⟨Nat.le_trans (Nat.le_of_ble_eq_true rfl) hfr, Nat.le_trans (Nat.le_of_ble_eq_true rfl) hlo⟩) (va_recv E.1 hP (q := (RX0, TX0, 17)) (ci := 0) rfl (zO.get (zBat_o (zBat_C (by decide))))) E hP hS hl.1 rfl rfl (Nat.le_of_ble_eq_true rfl) dX9_cut_44) hS (fun H locs hP hS => ?_)
  refine lv_i2l hx hb dX9_cut_47 rfl ?_
  refine W.lcmp hx hb dX9_cut_48 ?_
  obtain ⟨zr13, hf, hzr13⟩ := zb1_i hf
  have hjr13 : ∀ (x14 : Int32), x14 = zr13 → ∀ (H : Heap) (locs : List Loc) (ls : Array Slot), va_P D vwCl (zw 74 (kC cy ad a0) ad I J) H → va_S A s.heap H locs → lv_has ls 8 [(0, .ref (ad 38)), (1, .int p1), (4, .int x1), (5, .int x5)] → W p l e R s m args below meth c H locs 0 0 Q (F0 m 57 ls [.int x14]) := by
    intro x14 ez H locs ls hP hS hl
    have hf := hzr13 x14 ez
    refine lv_istore (lv' := [(6, .int x14), (0, .ref (ad 38)), (1, .int p1), (4, .int x1), (5, .int x5)]) hx hb dX9_cut_57 hl (by decide) rfl (fun ls hl => ?_)
    refine lv_aload_n hx hb dX9_cut_59 rfl (lv_at hl 1 rfl) ?_
    refine lv_dup hx hb dX9_cut_60 rfl ?_
    refine va_get (D := D) (ci := 8) (v := .int (I 38 6)) (C := RX9) (T := TX9) (N := 10) hx hb hts hinX9_cut_X9 hown E.1 hP 38 (zO.get (oX9_at)) rfl 6 (by decide) (hts (.fieldLink RX9 61 "EdgeAndSpeed$Trial" "minutes" "I") (by decide +kernel)) (fun _ h9 => h9) rfl dX9_cut_61 ?_
    refine lv_aload_n hx hb dX9_cut_64 rfl (lv_at hl 1 rfl) ?_
    refine va_get (D := D) (ci := 8) (v := .ref (ad 4)) (C := RX9) (T := TX9) (N := 10) hx hb hts hinX9_cut_X9 hown E.1 hP 38 (zO.get (oX9_at)) rfl 0 (by decide) (hts (.fieldLink RX9 9 "EdgeAndSpeed$Trial" "bench" "LEdgeAndSpeed$Bench;") (by decide +kernel)) (fun _ h9 => h9) rfl dX9_cut_65 ?_
    refine lv_aload_n hx hb dX9_cut_68 rfl (lv_at hl 1 rfl) ?_
    refine va_get (D := D) (ci := 8) (v := .int (I 38 2)) (C := RX9) (T := TX9) (N := 10) hx hb hts hinX9_cut_X9 hown E.1 hP 38 (zO.get (oX9_at)) rfl 2 (by decide) (hts (.fieldLink RX9 22 "EdgeAndSpeed$Trial" "piece" "I") (by decide +kernel)) (fun _ h9 => h9) rfl dX9_cut_69 ?_
    refine lv_iload_n hx hb dX9_cut_72 rfl (lv_at hl 2 rfl) ?_
    obtain ⟨x15, h16, hf⟩ := zb1_e hf
    refine zgo_i (zrunSN (As := [.int p1]) (rest := [.int (I 38 2), .ref (ad 4), .int (I 38 6), .ref (ad 38)]) S (c_X11_speedOf l hD p1 h16) ⟨va_cnB (host := "EdgeAndSpeed") 1 hts gX9_cut_X11_speedOf_n83 rfl rfl rfl (zNmw_16 E.2.2) (hts (.initialized RX11) (by decide +kernel)) ddX11_speedOf ⟨Nat.le_trans (Nat.le_of_ble_eq_true rfl) hfr, Nat.le_trans (Nat.le_of_ble_eq_true rfl) hlo⟩, hts (.static yX11_speedOf) (by decide +kernel), trivial⟩ E hP hS hl.1 rfl rfl (Nat.le_of_ble_eq_true rfl) dX9_cut_73) hS (fun H locs hP hS => ?_)
    obtain ⟨x17, h18, hf⟩ := zb1_e hf
    refine zgo_i (zrunV (As := [.int (I 38 2), .int x15]) (rest := [.int (I 38 6), .ref (ad 38)]) S (c_X0_minutes l hD 4 (zBat_C (by decide)) (I 38 2) x15 h18) (cwV 2 hts gX9_cut_X0_minutes rfl rfl rfl ddX0_minutes ⟨Nat.le_trans (Nat.le_of_ble_eq_true rfl) hfr, Nat.le_trans (Nat.le_of_ble_eq_true rfl) hlo⟩) (va_recv E.1 hP (q := (RX0, TX0, 17)) (ci := 0) rfl (zO.get (zBat_o (zBat_C (by decide))))) E hP hS hl.1 rfl rfl (Nat.le_of_ble_eq_true rfl) dX9_cut_76) hS (fun H locs hP hS => ?_)
    refine lv_iadd hx hb dX9_cut_79 ?_
    obtain ⟨I19, eI19⟩ := zex (va_up I 38 (va_up (I 38) 6 ((I 38 6) + x17)))
    replace hf := zn_s eI19 hf
    refine zput (D := D) (ci := 8) (v := .int ((I 38 6) + x17)) (ty := .int) (C := RX9) (T := TX9) (N := 10) hx hb hts hinX9_cut_X9 tyX9 tyX9_ok nmX9 hown E.1 hP hD.D hS 38 (zO.get (oX9_at)) rfl 6 (by decide) (hts (.fieldLink RX9 61 "EdgeAndSpeed$Trial" "minutes" "I") (by decide +kernel)) (fun _ h9 => h9) rfl (tyX9_ok 6 (by decide)) rfl rfl (Nat.le_of_ble_eq_true rfl) dX9_cut_80 (zO.setI (oX9_at) rfl eI19) (fun H locs hP hS => ?_)
    refine lv_aload_n hx hb dX9_cut_83 rfl (lv_at hl 1 rfl) ?_
    refine lv_dup hx hb dX9_cut_84 rfl ?_
    refine va_get (D := D) (ci := 8) (v := .int (I19 38 5)) (C := RX9) (T := TX9) (N := 10) hx hb hts hinX9_cut_X9 hown E.1 hP 38 (zO.get (oX9_at)) rfl 5 (by decide) (hts (.fieldLink RX9 58 "EdgeAndSpeed$Trial" "passes" "I") (by decide +kernel)) (fun _ h9 => h9) rfl dX9_cut_85 ?_
    refine lv_iconst (v := 1) hx hb dX9_cut_88 (by decide) ?_
    refine lv_iadd hx hb dX9_cut_89 ?_
    obtain ⟨I20, eI20⟩ := zex (va_up I19 38 (va_up (I19 38) 5 ((I19 38 5) + 1)))
    replace hf := zn_s eI20 hf
    refine zput (D := D) (ci := 8) (v := .int ((I19 38 5) + 1)) (ty := .int) (C := RX9) (T := TX9) (N := 10) hx hb hts hinX9_cut_X9 tyX9 tyX9_ok nmX9 hown E.1 hP hD.D hS 38 (zO.get (oX9_at)) rfl 5 (by decide) (hts (.fieldLink RX9 58 "EdgeAndSpeed$Trial" "passes" "I") (by decide +kernel)) (fun _ h9 => h9) rfl (tyX9_ok 5 (by decide)) rfl rfl (Nat.le_of_ble_eq_true rfl) dX9_cut_90 (zO.setI (oX9_at) rfl eI20) (fun H locs hP hS => ?_)
    refine lv_iload hx hb dX9_cut_93 (lv_at hl 0 rfl) ?_
    refine lv_if_eq (tgt := 107) hx hb dX9_cut_95 (by decide) (fun k21 => ?_) (fun k21 => ?_)
    · replace hf := zt k21 hf
      refine lv_aload_n hx hb dX9_cut_107 rfl (lv_at hl 1 rfl) ?_
      refine va_get (D := D) (ci := 8) (v := .int (I20 38 4)) (C := RX9) (T := TX9) (N := 10) hx hb hts hinX9_cut_X9 hown E.1 hP 38 (zO.get (oX9_at)) rfl 4 (by decide) (hts (.fieldLink RX9 35 "EdgeAndSpeed$Trial" "wear" "I") (by decide +kernel)) (fun _ h9 => h9) rfl dX9_cut_108 ?_
      refine lv_aload_n hx hb dX9_cut_111 rfl (lv_at hl 1 rfl) ?_
      refine va_get (D := D) (ci := 8) (v := .ref (ad 4)) (C := RX9) (T := TX9) (N := 10) hx hb hts hinX9_cut_X9 hown E.1 hP 38 (zO.get (oX9_at)) rfl 0 (by decide) (hts (.fieldLink RX9 9 "EdgeAndSpeed$Trial" "bench" "LEdgeAndSpeed$Bench;") (by decide +kernel)) (fun _ h9 => h9) rfl dX9_cut_112 ?_
      refine lv_aload_n hx hb dX9_cut_115 rfl (lv_at hl 1 rfl) ?_
      refine va_get (D := D) (ci := 8) (v := .int (I20 38 2)) (C := RX9) (T := TX9) (N := 10) hx hb hts hinX9_cut_X9 hown E.1 hP 38 (zO.get (oX9_at)) rfl 2 (by decide) (hts (.fieldLink RX9 22 "EdgeAndSpeed$Trial" "piece" "I") (by decide +kernel)) (fun _ h9 => h9) rfl dX9_cut_116 ?_
      obtain ⟨x22, h23, hf⟩ := zb1_e hf
      refine zgo_i (zrunV (As := [.int (I20 38 2)]) (rest := [.int (I20 38 4)]) S (c_X0_fineOf l hD 4 (zBat_C (by decide)) (I20 38 2) h23) (cwV 1 hts gX9_cut_X0_fineOf rfl rfl rfl ddX0_fineOf ⟨Nat.le_trans (Nat.le_of_ble_eq_true rfl) hfr, Nat.le_trans (Nat.le_of_ble_eq_true rfl) hlo⟩) (va_recv E.1 hP (q := (RX0, TX0, 17)) (ci := 0) rfl (zO.get (zBat_o (zBat_C (by decide))))) E hP hS hl.1 rfl rfl (Nat.le_of_ble_eq_true rfl) dX9_cut_119) hS (fun H locs hP hS => ?_)
      obtain ⟨zr26, hf, hzr26⟩ := zb1_i hf
      have hjr26 : ∀ (x27 : Int32), x27 = zr26 → ∀ (H : Heap) (locs : List Loc) (ls : Array Slot), va_P D vwCl (zw 74 (kC cy ad a0) ad I20 J) H → va_S A s.heap H locs → lv_has ls 8 [(0, .ref (ad 38)), (4, .int x1), (5, .int x5)] → W p l e R s m args below meth c H locs 0 0 Q (F0 m 130 ls [.int x27]) := by
        intro x27 ez H locs ls hP hS hl
        have hf := hzr26 x27 ez
        refine lv_istore (lv' := [(7, .int x27), (0, .ref (ad 38)), (4, .int x1), (5, .int x5)]) hx hb dX9_cut_130 hl (by decide) rfl (fun ls hl => ?_)
        refine lv_aload_n hx hb dX9_cut_132 rfl (lv_at hl 1 rfl) ?_
        refine lv_dup hx hb dX9_cut_133 rfl ?_
        refine va_get (D := D) (ci := 8) (v := .int (I20 38 4)) (C := RX9) (T := TX9) (N := 10) hx hb hts hinX9_cut_X9 hown E.1 hP 38 (zO.get (oX9_at)) rfl 4 (by decide) (hts (.fieldLink RX9 35 "EdgeAndSpeed$Trial" "wear" "I") (by decide +kernel)) (fun _ h9 => h9) rfl dX9_cut_134 ?_
        refine lv_iload hx hb dX9_cut_137 (lv_at hl 3 rfl) ?_
        refine lv_iadd hx hb dX9_cut_139 ?_
        obtain ⟨I28, eI28⟩ := zex (va_up I20 38 (va_up (I20 38) 4 ((I20 38 4) + x5)))
        replace hf := zn_s eI28 hf
        refine zput (D := D) (ci := 8) (v := .int ((I20 38 4) + x5)) (ty := .int) (C := RX9) (T := TX9) (N := 10) hx hb hts hinX9_cut_X9 tyX9 tyX9_ok nmX9 hown E.1 hP hD.D hS 38 (zO.get (oX9_at)) rfl 4 (by decide) (hts (.fieldLink RX9 35 "EdgeAndSpeed$Trial" "wear" "I") (by decide +kernel)) (fun _ h9 => h9) rfl (tyX9_ok 4 (by decide)) rfl rfl (Nat.le_of_ble_eq_true rfl) dX9_cut_140 (zO.setI (oX9_at) rfl eI28) (fun H locs hP hS => ?_)
        refine lv_aload_n hx hb dX9_cut_143 rfl (lv_at hl 1 rfl) ?_
        refine lv_dup hx hb dX9_cut_144 rfl ?_
        refine va_get (D := D) (ci := 8) (v := .int (I28 38 3)) (C := RX9) (T := TX9) (N := 10) hx hb hts hinX9_cut_X9 hown E.1 hP 38 (zO.get (oX9_at)) rfl 3 (by decide) (hts (.fieldLink RX9 32 "EdgeAndSpeed$Trial" "left" "I") (by decide +kernel)) (fun _ h9 => h9) rfl dX9_cut_145 ?_
        refine lv_iload hx hb dX9_cut_148 (lv_at hl 2 rfl) ?_
        refine lv_isub hx hb dX9_cut_150 ?_
        obtain ⟨I29, eI29⟩ := zex (va_up I28 38 (va_up (I28 38) 3 ((I28 38 3) - x1)))
        replace hf := zn_s eI29 hf
        refine zput (D := D) (ci := 8) (v := .int ((I28 38 3) - x1)) (ty := .int) (C := RX9) (T := TX9) (N := 10) hx hb hts hinX9_cut_X9 tyX9 tyX9_ok nmX9 hown E.1 hP hD.D hS 38 (zO.get (oX9_at)) rfl 3 (by decide) (hts (.fieldLink RX9 32 "EdgeAndSpeed$Trial" "left" "I") (by decide +kernel)) (fun _ h9 => h9) rfl (tyX9_ok 3 (by decide)) rfl rfl (Nat.le_of_ble_eq_true rfl) dX9_cut_151 (zO.setI (oX9_at) rfl eI29) (fun H locs hP hS => ?_)
        refine lv_aload_n hx hb dX9_cut_154 rfl (lv_at hl 1 rfl) ?_
        refine va_get (D := D) (ci := 8) (v := .int (I29 38 3)) (C := RX9) (T := TX9) (N := 10) hx hb hts hinX9_cut_X9 hown E.1 hP 38 (zO.get (oX9_at)) rfl 3 (by decide) (hts (.fieldLink RX9 32 "EdgeAndSpeed$Trial" "left" "I") (by decide +kernel)) (fun _ h9 => h9) rfl dX9_cut_155 ?_
        refine lv_if_ne (tgt := 173) hx hb dX9_cut_158 (by decide) (fun k30 => ?_) (fun k30 => ?_)
        · replace hf := zf k30 hf
          refine lv_aload_n hx hb dX9_cut_173 rfl (lv_at hl 1 rfl) ?_
          refine va_get (D := D) (ci := 8) (v := .int (I29 38 3)) (C := RX9) (T := TX9) (N := 10) hx hb hts hinX9_cut_X9 hown E.1 hP 38 (zO.get (oX9_at)) rfl 3 (by decide) (hts (.fieldLink RX9 32 "EdgeAndSpeed$Trial" "left" "I") (by decide +kernel)) (fun _ h9 => h9) rfl dX9_cut_174 ?_
          refine lv_if_ne (tgt := 194) hx hb dX9_cut_177 (by decide) (fun k31 => ?_) (fun k31 => ?_)
          · replace hf := zf k31 hf
            exact hret _ hf _ _ _ _ hP hS dX9_cut_194
          · replace hf := zt k31 hf
            refine lv_aload_n hx hb dX9_cut_180 rfl (lv_at hl 1 rfl) ?_
            refine lv_dup hx hb dX9_cut_181 rfl ?_
            refine va_get (D := D) (ci := 8) (v := .int (I29 38 7)) (C := RX9) (T := TX9) (N := 10) hx hb hts hinX9_cut_X9 hown E.1 hP 38 (zO.get (oX9_at)) rfl 7 (by decide) (hts (.fieldLink RX9 64 "EdgeAndSpeed$Trial" "done" "I") (by decide +kernel)) (fun _ h9 => h9) rfl dX9_cut_182 ?_
            refine lv_iconst (v := 1) hx hb dX9_cut_185 (by decide) ?_
            refine lv_iadd hx hb dX9_cut_186 ?_
            obtain ⟨I32, eI32⟩ := zex (va_up I29 38 (va_up (I29 38) 7 ((I29 38 7) + 1)))
            replace hf := zn_s eI32 hf
            refine zput (D := D) (ci := 8) (v := .int ((I29 38 7) + 1)) (ty := .int) (C := RX9) (T := TX9) (N := 10) hx hb hts hinX9_cut_X9 tyX9 tyX9_ok nmX9 hown E.1 hP hD.D hS 38 (zO.get (oX9_at)) rfl 7 (by decide) (hts (.fieldLink RX9 64 "EdgeAndSpeed$Trial" "done" "I") (by decide +kernel)) (fun _ h9 => h9) rfl (tyX9_ok 7 (by decide)) rfl rfl (Nat.le_of_ble_eq_true rfl) dX9_cut_187 (zO.setI (oX9_at) rfl eI32) (fun H locs hP hS => ?_)
            refine lv_aload_n hx hb dX9_cut_190 rfl (lv_at hl 1 rfl) ?_
            obtain ⟨I33, h34, hf⟩ := zb1_e hf
            refine zgo_v (zrunV (As := []) (rest := []) S (c_X9_next l hD  h34) (cwV 0 hts gX9_cut_X9_next rfl rfl rfl ddX9_next ⟨Nat.le_trans (Nat.le_of_ble_eq_true rfl) hfr, Nat.le_trans (Nat.le_of_ble_eq_true rfl) hlo⟩) (va_recv E.1 hP (q := (RX9, TX9, 10)) (ci := 8) rfl (zO.get (oX9_at))) E hP hS hl.1 rfl rfl (Nat.le_of_ble_eq_true rfl) dX9_cut_191) hS (fun H locs hP hS => ?_)
            exact hret _ hf _ _ _ _ hP hS dX9_cut_194
        · replace hf := zt k30 hf
          refine lv_iload hx hb dX9_cut_161 (lv_at hl 0 rfl) ?_
          refine lv_if_eq (tgt := 173) hx hb dX9_cut_163 (by decide) (fun k35 => ?_) (fun k35 => ?_)
          · replace hf := zt k35 hf
            refine lv_aload_n hx hb dX9_cut_173 rfl (lv_at hl 1 rfl) ?_
            refine va_get (D := D) (ci := 8) (v := .int (I29 38 3)) (C := RX9) (T := TX9) (N := 10) hx hb hts hinX9_cut_X9 hown E.1 hP 38 (zO.get (oX9_at)) rfl 3 (by decide) (hts (.fieldLink RX9 32 "EdgeAndSpeed$Trial" "left" "I") (by decide +kernel)) (fun _ h9 => h9) rfl dX9_cut_174 ?_
            refine lv_if_ne (tgt := 194) hx hb dX9_cut_177 (by decide) (fun k36 => ?_) (fun k36 => ?_)
            · replace hf := zf k36 hf
              exact hret _ hf _ _ _ _ hP hS dX9_cut_194
            · replace hf := zt k36 hf
              refine lv_aload_n hx hb dX9_cut_180 rfl (lv_at hl 1 rfl) ?_
              refine lv_dup hx hb dX9_cut_181 rfl ?_
              refine va_get (D := D) (ci := 8) (v := .int (I29 38 7)) (C := RX9) (T := TX9) (N := 10) hx hb hts hinX9_cut_X9 hown E.1 hP 38 (zO.get (oX9_at)) rfl 7 (by decide) (hts (.fieldLink RX9 64 "EdgeAndSpeed$Trial" "done" "I") (by decide +kernel)) (fun _ h9 => h9) rfl dX9_cut_182 ?_
              refine lv_iconst (v := 1) hx hb dX9_cut_185 (by decide) ?_
              refine lv_iadd hx hb dX9_cut_186 ?_
              obtain ⟨I37, eI37⟩ := zex (va_up I29 38 (va_up (I29 38) 7 ((I29 38 7) + 1)))
              replace hf := zn_s eI37 hf
              refine zput (D := D) (ci := 8) (v := .int ((I29 38 7) + 1)) (ty := .int) (C := RX9) (T := TX9) (N := 10) hx hb hts hinX9_cut_X9 tyX9 tyX9_ok nmX9 hown E.1 hP hD.D hS 38 (zO.get (oX9_at)) rfl 7 (by decide) (hts (.fieldLink RX9 64 "EdgeAndSpeed$Trial" "done" "I") (by decide +kernel)) (fun _ h9 => h9) rfl (tyX9_ok 7 (by decide)) rfl rfl (Nat.le_of_ble_eq_true rfl) dX9_cut_187 (zO.setI (oX9_at) rfl eI37) (fun H locs hP hS => ?_)
              refine lv_aload_n hx hb dX9_cut_190 rfl (lv_at hl 1 rfl) ?_
              obtain ⟨I38, h39, hf⟩ := zb1_e hf
              refine zgo_v (zrunV (As := []) (rest := []) S (c_X9_next l hD  h39) (cwV 0 hts gX9_cut_X9_next rfl rfl rfl ddX9_next ⟨Nat.le_trans (Nat.le_of_ble_eq_true rfl) hfr, Nat.le_trans (Nat.le_of_ble_eq_true rfl) hlo⟩) (va_recv E.1 hP (q := (RX9, TX9, 10)) (ci := 8) rfl (zO.get (oX9_at))) E hP hS hl.1 rfl rfl (Nat.le_of_ble_eq_true rfl) dX9_cut_191) hS (fun H locs hP hS => ?_)
              exact hret _ hf _ _ _ _ hP hS dX9_cut_194
          · replace hf := zf k35 hf
            refine lv_aload_n hx hb dX9_cut_166 rfl (lv_at hl 1 rfl) ?_
            obtain ⟨I40, h41, hf⟩ := zb1_e hf
            refine zgo_v (zrunV (As := []) (rest := []) S (c_X9_spoil l hD  h41) (cwV 0 hts gX9_cut_X9_spoil rfl rfl rfl ddX9_spoil ⟨Nat.le_trans (Nat.le_of_ble_eq_true rfl) hfr, Nat.le_trans (Nat.le_of_ble_eq_true rfl) hlo⟩) (va_recv E.1 hP (q := (RX9, TX9, 10)) (ci := 8) rfl (zO.get (oX9_at))) E hP hS hl.1 rfl rfl (Nat.le_of_ble_eq_true rfl) dX9_cut_167) hS (fun H locs hP hS => ?_)
            refine lv_goto (tgt := 194) hx hb dX9_cut_170 (by decide) ?_
            exact hret _ hf _ _ _ _ hP hS dX9_cut_194
      refine lv_icmp_le (tgt := 129) hx hb dX9_cut_122 (by decide) (fun k24 => ?_) (fun k24 => ?_)
      · replace hf := zt k24 hf
        refine lv_iconst (v := 0) hx hb dX9_cut_129 (by decide) ?_
        exact hjr26 _ (Option.some.inj hf) _ _ _ hP hS (lv_sub hl [1, 3, 4] rfl)
      · replace hf := zf k24 hf
        refine lv_iconst (v := 1) hx hb dX9_cut_125 (by decide) ?_
        refine lv_goto (tgt := 130) hx hb dX9_cut_126 (by decide) ?_
        exact hjr26 _ (Option.some.inj hf) _ _ _ hP hS (lv_sub hl [1, 3, 4] rfl)
    · replace hf := zf k21 hf
      refine lv_aload_n hx hb dX9_cut_98 rfl (lv_at hl 1 rfl) ?_
      obtain ⟨I42, h43, hf⟩ := zb1_e hf
      refine zgo_v (zrunV (As := []) (rest := []) S (c_X9_change l hD  h43) (cwV 0 hts gX9_cut_X9_change rfl rfl rfl ddX9_change ⟨Nat.le_trans (Nat.le_of_ble_eq_true rfl) hfr, Nat.le_trans (Nat.le_of_ble_eq_true rfl) hlo⟩) (va_recv E.1 hP (q := (RX9, TX9, 10)) (ci := 8) rfl (zO.get (oX9_at))) E hP hS hl.1 rfl rfl (Nat.le_of_ble_eq_true rfl) dX9_cut_99) hS (fun H locs hP hS => ?_)
      refine lv_aload_n hx hb dX9_cut_102 rfl (lv_at hl 1 rfl) ?_
      obtain ⟨I44, h45, hf⟩ := zb1_e hf
      refine zgo_v (zrunV (As := []) (rest := []) S (c_X9_spoil l hD  h45) (cwV 0 hts gX9_cut_X9_spoil rfl rfl rfl ddX9_spoil ⟨Nat.le_trans (Nat.le_of_ble_eq_true rfl) hfr, Nat.le_trans (Nat.le_of_ble_eq_true rfl) hlo⟩) (va_recv E.1 hP (q := (RX9, TX9, 10)) (ci := 8) rfl (zO.get (oX9_at))) E hP hS hl.1 rfl rfl (Nat.le_of_ble_eq_true rfl) dX9_cut_103) hS (fun H locs hP hS => ?_)
      exact hret _ hf _ _ _ _ hP hS dX9_cut_106
  refine lv_if_ge (tgt := 56) hx hb dX9_cut_49 (by decide) (fun k11 => ?_) (fun k11 => ?_)
  · replace hf := zt k11 hf
    refine lv_iconst (v := 0) hx hb dX9_cut_56 (by decide) ?_
    exact hjr13 _ (Option.some.inj hf) _ _ _ hP hS (lv_sub hl [2, 3, 1, 0] rfl)
  · replace hf := zf k11 hf
    refine lv_iconst (v := 1) hx hb dX9_cut_52 (by decide) ?_
    refine lv_goto (tgt := 57) hx hb dX9_cut_53 (by decide) ?_
    exact hjr13 _ (Option.some.inj hf) _ _ _ hP hS (lv_sub hl [2, 3, 1, 0] rfl)
theorem c_X9_cut (l : Launch) {D : va_G} {a0 : Nat → Nat} {A : Nat → Prop} {cy : Nat → ClassId} {ad : Nat → Nat} (hD : zD A 74 ad) {I : zI} {J : zJ} (p1 : Int32) (p2 : Int32) (p3 : Int32) {rI : zI} (hf : f_X9_cut I J p1 p2 p3 = some rI) : Met l yX9_cut wsX9_cut { frames := 4, cells := 0, slots := 0, locals := 82 } (zPc D a0 A cy [.ref (ad 38), .int p1, .int p2, .int p3] (zw 74 (kC cy ad a0) ad I J)) (zQv D A (zw 74 (kC cy ad a0) ad rI J)) 0 0 A :=
  zmet RX9 (by decide) rfl rfl (Nat.le_of_ble_eq_true rfl) (fun p e R s m below meth c Q hfr hlo ls S0 hQ => w_X9_cut hfr hlo hD p1 p2 p3 hf S0 (fun tI hq H locs ls pc hP hS hd => by cases hq; exact hQ H locs _ hS (fun hx hb hr hlocks hfree => W.vret hx hb hr (fun t ht hW => ⟨⟨(), rfl, trivial, zht ht hP⟩, hS.F ht⟩) hfree hd hlocks)))
theorem ddX9_cut : yX9_cut.cls = RX9 ∧ yX9_cut.cls ≠ "java/lang/invoke/MethodHandle" ∧ yX9_cut.cls ≠ "java/lang/invoke/VarHandle" ∧ (parseMethodDescriptor yX9_cut.desc).map (fun d => d.parameters.length) = some 3 := by decide +kernel

def f_X9_go_L7 (J : zJ) (p1 : Int32) (p2 : Int32) (p3 : Int32) (x4 : Int32) (I5 : zI) : Option ((Int32 × zI) ⊕ zI) := (if 1000 ≤ x4 then some (.inr I5) else zb1 (f_X0_hasPiece I5 J 4 (I5 38 2)) (fun x7 => (if x7 = 0 then some (.inr I5) else zb1 (f_X2_choose I5 J p1 p2 (I5 38 2) (I5 38 3) (I5 38 4)) (fun x10 => (if x10 = 48 then zb1 (f_X9_change I5 J) (fun I20 => zn (x4 + 1) (fun y22 => some (.inl (y22, I20)))) else (if x10 = 49 then zb1 (f_X9_spoil I5 J) (fun I17 => zn (x4 + 1) (fun y19 => some (.inl (y19, I17)))) else zb1 (f_X9_cut I5 J x10 p2 p3) (fun I14 => zn (x4 + 1) (fun y16 => some (.inl (y16, I14))))))))))
def f_X9_go (I : zI) (J : zJ) (p1 : Int32) (p2 : Int32) (p3 : Int32) : Option zI := zb1 (f_X9_start I J) (fun I1 => zb1 (zl (fun v : (Int32 × zI) => f_X9_go_L7 J p1 p2 p3 v.1 v.2) zF (0, I1)) (fun I23 => some I23))
theorem hinX9_go_X9 : ∀ w ∈ u_ws RX9 TX9 10, w ∈ wsX9_go := by decide +kernel
set_option maxHeartbeats 4000000 in
set_option maxRecDepth 100000 in
theorem w_X9_go {p : Program} {l : Launch} {e : Env} {R : Room} {s : State} {m : MethodId} {args : Array Value} {below : List Frame} {meth : Method} {c : Code} {Q : State → Prop} (hfr : 5 ≤ R.frames) (hlo : 109 ≤ R.locals) {D : va_G} {a0 : Nat → Nat} {A : Nat → Prop} {cy : Nat → ClassId} {ad : Nat → Nat} (hD : zD A 74 ad) {I : zI} {J : zJ} (p1 : Int32) (p2 : Int32) (p3 : Int32) {rI : zI} (hf : f_X9_go I J p1 p2 p3 = some rI) {ls : Array Slot} (S0 : zSt p m c cX9_go 6 s args wsX9_go RX9 D a0 A cy (zw 74 (kC cy ad a0) ad I J) [.ref (ad 38), .int p1, .int p2, .int p3] ls) (hret : ∀ (tI : zI), some tI = some rI → ∀ (H : Heap) (locs : List Loc) (ls : Array Slot) (pc : Nat), va_P D vwCl (zw 74 (kC cy ad a0) ad tI J) H → va_S A s.heap H locs → decode cX9_go pc = .ok (.return_, 1) → W p l e R s m args below meth c H locs 0 0 Q (F0 m pc ls [])) : W p l e R s m args below meth c s.heap [] 0 0 Q (F0 m 0 ls []) := by
  obtain ⟨S, E, hP, hl⟩ := S0
  obtain ⟨hx, hb, hml, hown, hts⟩ := id S
  have hS : va_S A s.heap s.heap [] := va_S.rf
  replace hl : lv_has ls 6 [(0, .ref (ad 38)), (1, .int p1), (2, .int p2), (3, .int p3)] := hl
  unfold f_X9_go at hf
  refine lv_aload_n hx hb dX9_go_0 rfl (lv_at hl 0 rfl) ?_
  obtain ⟨I1, h2, hf⟩ := zb1_e hf
  refine zgo_v (zrunV (As := []) (rest := []) S (c_X9_start l hD  h2) (cwV 0 hts gX9_go_X9_start rfl rfl rfl ddX9_start ⟨Nat.le_trans (Nat.le_of_ble_eq_true rfl) hfr, Nat.le_trans (Nat.le_of_ble_eq_true rfl) hlo⟩) (va_recv E.1 hP (q := (RX9, TX9, 10)) (ci := 8) rfl (zO.get (oX9_at))) E hP hS hl.1 rfl rfl (Nat.le_of_ble_eq_true rfl) dX9_go_1) hS (fun H locs hP hS => ?_)
  refine lv_iconst (v := 0) hx hb dX9_go_4 (by decide) ?_
  refine lv_istore (lv' := [(4, .int 0), (0, .ref (ad 38)), (1, .int p1), (2, .int p2), (3, .int p3)]) hx hb dX9_go_5 hl (by decide) rfl (fun ls hl => ?_)
  obtain ⟨zl3, hf, hzl3⟩ := zb1_i hf
  have hjl3 : ∀ (I23 : zI), I23 = zl3 → ∀ (H : Heap) (locs : List Loc) (ls : Array Slot), va_P D vwCl (zw 74 (kC cy ad a0) ad I23 J) H → va_S A s.heap H locs → lv_has ls 6 [] → W p l e R s m args below meth c H locs 0 0 Q (F0 m 94 ls []) := by
    intro I23 ez H locs ls hP hS hl
    have hf := hzl3 I23 ez
    exact hret _ hf _ _ _ _ hP hS dX9_go_94
  refine zl_i (V := (Int32 × zI)) (P := fun v => ∀ (H : Heap) (locs : List Loc) (ls : Array Slot), va_P D vwCl (zw 74 (kC cy ad a0) ad v.2 J) H → va_S A s.heap H locs → lv_has ls 6 [(0, .ref (ad 38)), (1, .int p1), (2, .int p2), (3, .int p3), (4, .int (v.1))] → W p l e R s m args below meth c H locs 0 0 Q (F0 m 7 ls [])) ?_ _ _ hf _ _ _ hP hS (lv_sub hl [1, 2, 3, 4, 0] rfl)
  intro v z hf hcl3 hdl3
  obtain ⟨x4, I5⟩ := v
  intro H locs ls hP hS hl
  replace hf : f_X9_go_L7 J p1 p2 p3 x4 I5 = some z := hf
  unfold f_X9_go_L7 at hf
  replace hP : va_P D vwCl (zw 74 (kC cy ad a0) ad I5 J) H := hP
  replace hl : lv_has ls 6 [(0, .ref (ad 38)), (1, .int p1), (2, .int p2), (3, .int p3), (4, .int x4)] := hl
  refine lv_iload hx hb dX9_go_7 (lv_at hl 4 rfl) ?_
  refine lv_sipush (v := 1000) hx hb dX9_go_9 (by decide) ?_
  refine lv_icmp_ge (tgt := 94) hx hb dX9_go_12 (by decide) (fun k6 => ?_) (fun k6 => ?_)
  · replace hf := zt k6 hf
    exact hjl3 _ (hdl3 _ (Option.some.inj hf).symm) _ _ _ hP hS (lv_sub hl [] rfl)
  · replace hf := zf k6 hf
    refine lv_aload_n hx hb dX9_go_15 rfl (lv_at hl 0 rfl) ?_
    refine va_get (D := D) (ci := 8) (v := .ref (ad 4)) (C := RX9) (T := TX9) (N := 10) hx hb hts hinX9_go_X9 hown E.1 hP 38 (zO.get (oX9_at)) rfl 0 (by decide) (hts (.fieldLink RX9 9 "EdgeAndSpeed$Trial" "bench" "LEdgeAndSpeed$Bench;") (by decide +kernel)) (fun _ h9 => h9) rfl dX9_go_16 ?_
    refine lv_aload_n hx hb dX9_go_19 rfl (lv_at hl 0 rfl) ?_
    refine va_get (D := D) (ci := 8) (v := .int (I5 38 2)) (C := RX9) (T := TX9) (N := 10) hx hb hts hinX9_go_X9 hown E.1 hP 38 (zO.get (oX9_at)) rfl 2 (by decide) (hts (.fieldLink RX9 22 "EdgeAndSpeed$Trial" "piece" "I") (by decide +kernel)) (fun _ h9 => h9) rfl dX9_go_20 ?_
    obtain ⟨x7, h8, hf⟩ := zb1_e hf
    refine zgo_i (zrunV (As := [.int (I5 38 2)]) (rest := []) S (c_X0_hasPiece l hD 4 (zBat_C (by decide)) (I5 38 2) h8) (cwV 1 hts gX9_go_X0_hasPiece rfl rfl rfl ddX0_hasPiece ⟨Nat.le_trans (Nat.le_of_ble_eq_true rfl) hfr, Nat.le_trans (Nat.le_of_ble_eq_true rfl) hlo⟩) (va_recv E.1 hP (q := (RX0, TX0, 17)) (ci := 0) rfl (zO.get (zBat_o (zBat_C (by decide))))) E hP hS hl.1 rfl rfl (Nat.le_of_ble_eq_true rfl) dX9_go_23) hS (fun H locs hP hS => ?_)
    refine lv_if_eq (tgt := 94) hx hb dX9_go_26 (by decide) (fun k9 => ?_) (fun k9 => ?_)
    · replace hf := zt k9 hf
      exact hjl3 _ (hdl3 _ (Option.some.inj hf).symm) _ _ _ hP hS (lv_sub hl [] rfl)
    · replace hf := zf k9 hf
      refine lv_aload_n hx hb dX9_go_29 rfl (lv_at hl 0 rfl) ?_
      refine va_get (D := D) (ci := 8) (v := .ref (ad 34)) (C := RX9) (T := TX9) (N := 10) hx hb hts hinX9_go_X9 hown E.1 hP 38 (zO.get (oX9_at)) rfl 1 (by decide) (hts (.fieldLink RX9 15 "EdgeAndSpeed$Trial" "hands" "LEdgeAndSpeed$Hands;") (by decide +kernel)) (fun _ h9 => h9) rfl dX9_go_30 ?_
      refine lv_iload_n hx hb dX9_go_33 rfl (lv_at hl 1 rfl) ?_
      refine lv_iload_n hx hb dX9_go_34 rfl (lv_at hl 2 rfl) ?_
      refine lv_aload_n hx hb dX9_go_35 rfl (lv_at hl 0 rfl) ?_
      refine va_get (D := D) (ci := 8) (v := .int (I5 38 2)) (C := RX9) (T := TX9) (N := 10) hx hb hts hinX9_go_X9 hown E.1 hP 38 (zO.get (oX9_at)) rfl 2 (by decide) (hts (.fieldLink RX9 22 "EdgeAndSpeed$Trial" "piece" "I") (by decide +kernel)) (fun _ h9 => h9) rfl dX9_go_36 ?_
      refine lv_aload_n hx hb dX9_go_39 rfl (lv_at hl 0 rfl) ?_
      refine va_get (D := D) (ci := 8) (v := .int (I5 38 3)) (C := RX9) (T := TX9) (N := 10) hx hb hts hinX9_go_X9 hown E.1 hP 38 (zO.get (oX9_at)) rfl 3 (by decide) (hts (.fieldLink RX9 32 "EdgeAndSpeed$Trial" "left" "I") (by decide +kernel)) (fun _ h9 => h9) rfl dX9_go_40 ?_
      refine lv_aload_n hx hb dX9_go_43 rfl (lv_at hl 0 rfl) ?_
      refine va_get (D := D) (ci := 8) (v := .int (I5 38 4)) (C := RX9) (T := TX9) (N := 10) hx hb hts hinX9_go_X9 hown E.1 hP 38 (zO.get (oX9_at)) rfl 4 (by decide) (hts (.fieldLink RX9 35 "EdgeAndSpeed$Trial" "wear" "I") (by decide +kernel)) (fun _ h9 => h9) rfl dX9_go_44 ?_
      obtain ⟨x10, h11, hf⟩ := zb1_e hf
      refine zgo_i (zrunV (As := [.int p1, .int p2, .int (I5 38 2), .int (I5 38 3), .int (I5 38 4)]) (rest := []) S (c_X2_choose l hD p1 p2 (I5 38 2) (I5 38 3) (I5 38 4) h11) (cwV 5 hts gX9_go_X2_choose rfl rfl rfl ddX2_choose ⟨Nat.le_trans (Nat.le_of_ble_eq_true rfl) hfr, Nat.le_trans (Nat.le_of_ble_eq_true rfl) hlo⟩) (va_recv E.1 hP (q := (RX2, TX2, 4)) (ci := 2) rfl (zO.get (oX2_at))) E hP hS hl.1 rfl rfl (Nat.le_of_ble_eq_true rfl) dX9_go_47) hS (fun H locs hP hS => ?_)
      refine lv_istore (lv' := [(5, .int x10), (0, .ref (ad 38)), (1, .int p1), (2, .int p2), (3, .int p3), (4, .int x4)]) hx hb dX9_go_50 hl (by decide) rfl (fun ls hl => ?_)
      refine lv_iload hx hb dX9_go_52 (lv_at hl 0 rfl) ?_
      refine lv_bipush (v := 48) hx hb dX9_go_54 (by decide) ?_
      refine lv_icmp_ne (tgt := 66) hx hb dX9_go_56 (by decide) (fun k12 => ?_) (fun k12 => ?_)
      · replace hf := zf k12 hf
        refine lv_iload hx hb dX9_go_66 (lv_at hl 0 rfl) ?_
        refine lv_bipush (v := 49) hx hb dX9_go_68 (by decide) ?_
        refine lv_icmp_ne (tgt := 80) hx hb dX9_go_70 (by decide) (fun k13 => ?_) (fun k13 => ?_)
        · replace hf := zf k13 hf
          refine lv_aload_n hx hb dX9_go_80 rfl (lv_at hl 1 rfl) ?_
          refine lv_iload hx hb dX9_go_81 (lv_at hl 0 rfl) ?_
          refine lv_iload_n hx hb dX9_go_83 rfl (lv_at hl 3 rfl) ?_
          refine lv_iload_n hx hb dX9_go_84 rfl (lv_at hl 4 rfl) ?_
          obtain ⟨I14, h15, hf⟩ := zb1_e hf
          refine zgo_v (zrunV (As := [.int x10, .int p2, .int p3]) (rest := []) S (c_X9_cut l hD x10 p2 p3 h15) (cwV 3 hts gX9_go_X9_cut rfl rfl rfl ddX9_cut ⟨Nat.le_trans (Nat.le_of_ble_eq_true rfl) hfr, Nat.le_trans (Nat.le_of_ble_eq_true rfl) hlo⟩) (va_recv E.1 hP (q := (RX9, TX9, 10)) (ci := 8) rfl (zO.get (oX9_at))) E hP hS hl.1 rfl rfl (Nat.le_of_ble_eq_true rfl) dX9_go_85) hS (fun H locs hP hS => ?_)
          obtain ⟨y16, ey16⟩ := zex (x4 + 1)
          replace hf := zn_s ey16 hf
          refine lv_iinc (v := y16) (lv' := [(4, .int y16), (5, .int x10), (0, .ref (ad 38)), (1, .int p1), (2, .int p2), (3, .int p3)]) hx hb dX9_go_88 hl (k := 5) rfl (by rw [ey16]; rfl) (by decide) rfl (fun ls hl => ?_)
          refine lv_goto (tgt := 7) hx hb dX9_go_91 (by decide) ?_
          exact hcl3 _ (Option.some.inj hf).symm _ _ _ hP hS (lv_sub hl [2, 3, 4, 5, 0] rfl)
        · replace hf := zt k13 hf
          refine lv_aload_n hx hb dX9_go_73 rfl (lv_at hl 1 rfl) ?_
          obtain ⟨I17, h18, hf⟩ := zb1_e hf
          refine zgo_v (zrunV (As := []) (rest := []) S (c_X9_spoil l hD  h18) (cwV 0 hts gX9_go_X9_spoil rfl rfl rfl ddX9_spoil ⟨Nat.le_trans (Nat.le_of_ble_eq_true rfl) hfr, Nat.le_trans (Nat.le_of_ble_eq_true rfl) hlo⟩) (va_recv E.1 hP (q := (RX9, TX9, 10)) (ci := 8) rfl (zO.get (oX9_at))) E hP hS hl.1 rfl rfl (Nat.le_of_ble_eq_true rfl) dX9_go_74) hS (fun H locs hP hS => ?_)
          refine lv_goto (tgt := 88) hx hb dX9_go_77 (by decide) ?_
          obtain ⟨y19, ey19⟩ := zex (x4 + 1)
          replace hf := zn_s ey19 hf
          refine lv_iinc (v := y19) (lv' := [(4, .int y19), (5, .int x10), (0, .ref (ad 38)), (1, .int p1), (2, .int p2), (3, .int p3)]) hx hb dX9_go_88 hl (k := 5) rfl (by rw [ey19]; rfl) (by decide) rfl (fun ls hl => ?_)
          refine lv_goto (tgt := 7) hx hb dX9_go_91 (by decide) ?_
          exact hcl3 _ (Option.some.inj hf).symm _ _ _ hP hS (lv_sub hl [2, 3, 4, 5, 0] rfl)
      · replace hf := zt k12 hf
        refine lv_aload_n hx hb dX9_go_59 rfl (lv_at hl 1 rfl) ?_
        obtain ⟨I20, h21, hf⟩ := zb1_e hf
        refine zgo_v (zrunV (As := []) (rest := []) S (c_X9_change l hD  h21) (cwV 0 hts gX9_go_X9_change rfl rfl rfl ddX9_change ⟨Nat.le_trans (Nat.le_of_ble_eq_true rfl) hfr, Nat.le_trans (Nat.le_of_ble_eq_true rfl) hlo⟩) (va_recv E.1 hP (q := (RX9, TX9, 10)) (ci := 8) rfl (zO.get (oX9_at))) E hP hS hl.1 rfl rfl (Nat.le_of_ble_eq_true rfl) dX9_go_60) hS (fun H locs hP hS => ?_)
        refine lv_goto (tgt := 88) hx hb dX9_go_63 (by decide) ?_
        obtain ⟨y22, ey22⟩ := zex (x4 + 1)
        replace hf := zn_s ey22 hf
        refine lv_iinc (v := y22) (lv' := [(4, .int y22), (5, .int x10), (0, .ref (ad 38)), (1, .int p1), (2, .int p2), (3, .int p3)]) hx hb dX9_go_88 hl (k := 5) rfl (by rw [ey22]; rfl) (by decide) rfl (fun ls hl => ?_)
        refine lv_goto (tgt := 7) hx hb dX9_go_91 (by decide) ?_
        exact hcl3 _ (Option.some.inj hf).symm _ _ _ hP hS (lv_sub hl [2, 3, 4, 5, 0] rfl)
theorem c_X9_go (l : Launch) {D : va_G} {a0 : Nat → Nat} {A : Nat → Prop} {cy : Nat → ClassId} {ad : Nat → Nat} (hD : zD A 74 ad) {I : zI} {J : zJ} (p1 : Int32) (p2 : Int32) (p3 : Int32) {rI : zI} (hf : f_X9_go I J p1 p2 p3 = some rI) : Met l yX9_go wsX9_go { frames := 5, cells := 0, slots := 0, locals := 109 } (zPc D a0 A cy [.ref (ad 38), .int p1, .int p2, .int p3] (zw 74 (kC cy ad a0) ad I J)) (zQv D A (zw 74 (kC cy ad a0) ad rI J)) 0 0 A :=
  zmet RX9 (by decide) rfl rfl (Nat.le_of_ble_eq_true rfl) (fun p e R s m below meth c Q hfr hlo ls S0 hQ => w_X9_go hfr hlo hD p1 p2 p3 hf S0 (fun tI hq H locs ls pc hP hS hd => by cases hq; exact hQ H locs _ hS (fun hx hb hr hlocks hfree => W.vret hx hb hr (fun t ht hW => ⟨⟨(), rfl, trivial, zht ht hP⟩, hS.F ht⟩) hfree hd hlocks)))
theorem ddX9_go : yX9_go.cls = RX9 ∧ yX9_go.cls ≠ "java/lang/invoke/MethodHandle" ∧ yX9_go.cls ≠ "java/lang/invoke/VarHandle" ∧ (parseMethodDescriptor yX9_go.desc).map (fun d => d.parameters.length) = some 3 := by decide +kernel

def f_X9_told (I : zI) (J : zJ) (p1 : Int32) : Option Int64 := (if p1 = 0 then some ((I 38 6).toInt64) else if p1 = 1 then zb1 (f_X0_cost I J 4 (I 38 6) ((I 4 13) * (I 38 9))) (fun u5 => some u5) else if p1 = 2 then some ((I 38 7).toInt64) else if p1 = 3 then some ((I 38 8).toInt64) else some ((I 38 9).toInt64))
theorem hinX9_told_X9 : ∀ w ∈ u_ws RX9 TX9 10, w ∈ wsX9_told := by decide +kernel
theorem hinX9_told_X0 : ∀ w ∈ u_ws RX0 TX0 17, w ∈ wsX9_told := by decide +kernel
set_option maxHeartbeats 4000000 in
set_option maxRecDepth 100000 in
theorem w_X9_told {p : Program} {l : Launch} {e : Env} {R : Room} {s : State} {m : MethodId} {args : Array Value} {below : List Frame} {meth : Method} {c : Code} {Q : State → Prop} (hfr : 1 ≤ R.frames) (hlo : 22 ≤ R.locals) {D : va_G} {a0 : Nat → Nat} {A : Nat → Prop} {cy : Nat → ClassId} {ad : Nat → Nat} (hD : zD A 74 ad) {I : zI} {J : zJ} (p1 : Int32) {rx : Int64} (hf : f_X9_told I J p1 = some rx) {ls : Array Slot} (S0 : zSt p m c cX9_told 2 s args wsX9_told RX9 D a0 A cy (zw 74 (kC cy ad a0) ad I J) [.ref (ad 38), .int p1] ls) (hret : ∀ (tx : Int64), some tx = some rx → ∀ (H : Heap) (locs : List Loc) (ls : Array Slot) (pc : Nat), va_P D vwCl (zw 74 (kC cy ad a0) ad I J) H → va_S A s.heap H locs → decode cX9_told pc = .ok (.lreturn, 1) → W p l e R s m args below meth c H locs 0 0 Q (F0 m pc ls [.long tx])) : W p l e R s m args below meth c s.heap [] 0 0 Q (F0 m 0 ls []) := by
  obtain ⟨S, E, hP, hl⟩ := S0
  obtain ⟨hx, hb, hml, hown, hts⟩ := id S
  have hS : va_S A s.heap s.heap [] := va_S.rf
  replace hl : lv_has ls 2 [(0, .ref (ad 38)), (1, .int p1)] := hl
  unfold f_X9_told at hf
  refine lv_iload_n hx hb dX9_told_0 rfl (lv_at hl 1 rfl) ?_
  rcases Decidable.em (p1 = 0) with k1 | k1
  · replace hf := zt k1 hf
    refine lv_tableIn (off := 31) (tgt := 32) hx hb dX9_told_1 (by rw [k1]; decide) (by rw [k1]; decide) (by rw [k1]; rfl) (by decide) ?_
    refine lv_aload_n hx hb dX9_told_32 rfl (lv_at hl 0 rfl) ?_
    refine va_get (D := D) (ci := 8) (v := .int (I 38 6)) (C := RX9) (T := TX9) (N := 10) hx hb hts hinX9_told_X9 hown E.1 hP 38 (zO.get (oX9_at)) rfl 6 (by decide) (hts (.fieldLink RX9 61 "EdgeAndSpeed$Trial" "minutes" "I") (by decide +kernel)) (fun _ h9 => h9) rfl dX9_told_33 ?_
    refine lv_i2l hx hb dX9_told_36 rfl ?_
    exact hret _ hf _ _ _ _ hP hS dX9_told_37
  replace hf := zf k1 hf
  rcases Decidable.em (p1 = 1) with k2 | k2
  · replace hf := zt k2 hf
    refine lv_tableIn (off := 37) (tgt := 38) hx hb dX9_told_1 (by rw [k2]; decide) (by rw [k2]; decide) (by rw [k2]; rfl) (by decide) ?_
    refine lv_aload_n hx hb dX9_told_38 rfl (lv_at hl 0 rfl) ?_
    refine va_get (D := D) (ci := 8) (v := .ref (ad 4)) (C := RX9) (T := TX9) (N := 10) hx hb hts hinX9_told_X9 hown E.1 hP 38 (zO.get (oX9_at)) rfl 0 (by decide) (hts (.fieldLink RX9 9 "EdgeAndSpeed$Trial" "bench" "LEdgeAndSpeed$Bench;") (by decide +kernel)) (fun _ h9 => h9) rfl dX9_told_39 ?_
    refine lv_aload_n hx hb dX9_told_42 rfl (lv_at hl 0 rfl) ?_
    refine va_get (D := D) (ci := 8) (v := .int (I 38 6)) (C := RX9) (T := TX9) (N := 10) hx hb hts hinX9_told_X9 hown E.1 hP 38 (zO.get (oX9_at)) rfl 6 (by decide) (hts (.fieldLink RX9 61 "EdgeAndSpeed$Trial" "minutes" "I") (by decide +kernel)) (fun _ h9 => h9) rfl dX9_told_43 ?_
    refine lv_aload_n hx hb dX9_told_46 rfl (lv_at hl 0 rfl) ?_
    refine va_get (D := D) (ci := 8) (v := .ref (ad 4)) (C := RX9) (T := TX9) (N := 10) hx hb hts hinX9_told_X9 hown E.1 hP 38 (zO.get (oX9_at)) rfl 0 (by decide) (hts (.fieldLink RX9 9 "EdgeAndSpeed$Trial" "bench" "LEdgeAndSpeed$Bench;") (by decide +kernel)) (fun _ h9 => h9) rfl dX9_told_47 ?_
    refine va_getN (D := D) (ci := 0) (v := .int (I 4 13)) (C := RX0) (T := TX0) (N := 17) hx hb hts hinX9_told_X0 hown E.1 hP 4 (zO.get (zBat_o (zBat_C (by decide)))) rfl 13 (by decide) (zNfw_10 E.2.2) (fun _ h9 => h9) rfl dX9_told_50 ?_
    refine lv_aload_n hx hb dX9_told_53 rfl (lv_at hl 0 rfl) ?_
    refine va_get (D := D) (ci := 8) (v := .int (I 38 9)) (C := RX9) (T := TX9) (N := 10) hx hb hts hinX9_told_X9 hown E.1 hP 38 (zO.get (oX9_at)) rfl 9 (by decide) (hts (.fieldLink RX9 70 "EdgeAndSpeed$Trial" "changes" "I") (by decide +kernel)) (fun _ h9 => h9) rfl dX9_told_54 ?_
    refine lv_imul hx hb dX9_told_57 ?_
    obtain ⟨u5, h6, hf⟩ := zb1_e hf
    refine zgo_l (zrunV (As := [.int (I 38 6), .int ((I 4 13) * (I 38 9))]) (rest := []) S (c_X0_cost l hD 4 (zBat_C (by decide)) (I 38 6) ((I 4 13) * (I 38 9)) h6) (cwV 2 hts gX9_told_X0_cost rfl rfl rfl ddX0_cost ⟨Nat.le_trans (Nat.le_of_ble_eq_true rfl) hfr, Nat.le_trans (Nat.le_of_ble_eq_true rfl) hlo⟩) (va_recv E.1 hP (q := (RX0, TX0, 17)) (ci := 0) rfl (zO.get (zBat_o (zBat_C (by decide))))) E hP hS hl.1 rfl rfl (Nat.le_of_ble_eq_true rfl) dX9_told_58) hS (fun H locs hP hS => ?_)
    exact hret _ hf _ _ _ _ hP hS dX9_told_61
  replace hf := zf k2 hf
  rcases Decidable.em (p1 = 2) with k3 | k3
  · replace hf := zt k3 hf
    refine lv_tableIn (off := 61) (tgt := 62) hx hb dX9_told_1 (by rw [k3]; decide) (by rw [k3]; decide) (by rw [k3]; rfl) (by decide) ?_
    refine lv_aload_n hx hb dX9_told_62 rfl (lv_at hl 0 rfl) ?_
    refine va_get (D := D) (ci := 8) (v := .int (I 38 7)) (C := RX9) (T := TX9) (N := 10) hx hb hts hinX9_told_X9 hown E.1 hP 38 (zO.get (oX9_at)) rfl 7 (by decide) (hts (.fieldLink RX9 64 "EdgeAndSpeed$Trial" "done" "I") (by decide +kernel)) (fun _ h9 => h9) rfl dX9_told_63 ?_
    refine lv_i2l hx hb dX9_told_66 rfl ?_
    exact hret _ hf _ _ _ _ hP hS dX9_told_67
  replace hf := zf k3 hf
  rcases Decidable.em (p1 = 3) with k4 | k4
  · replace hf := zt k4 hf
    refine lv_tableIn (off := 67) (tgt := 68) hx hb dX9_told_1 (by rw [k4]; decide) (by rw [k4]; decide) (by rw [k4]; rfl) (by decide) ?_
    refine lv_aload_n hx hb dX9_told_68 rfl (lv_at hl 0 rfl) ?_
    refine va_get (D := D) (ci := 8) (v := .int (I 38 8)) (C := RX9) (T := TX9) (N := 10) hx hb hts hinX9_told_X9 hown E.1 hP 38 (zO.get (oX9_at)) rfl 8 (by decide) (hts (.fieldLink RX9 67 "EdgeAndSpeed$Trial" "spoilt" "I") (by decide +kernel)) (fun _ h9 => h9) rfl dX9_told_69 ?_
    refine lv_i2l hx hb dX9_told_72 rfl ?_
    exact hret _ hf _ _ _ _ hP hS dX9_told_73
  replace hf := zf k4 hf
  refine lv_tableOut (tgt := 74) hx hb dX9_told_1 (zTab (lo := 0) (hi := 3) (fun v h1 h2 h3 => by have h4 : v = 0 ∨ v = 1 ∨ v = 2 ∨ v = 3 := (by omega); rcases h4 with rfl | rfl | rfl | rfl <;> first | exact k1 (Int32.toInt_inj.mp h3) | exact k2 (Int32.toInt_inj.mp h3) | exact k3 (Int32.toInt_inj.mp h3) | exact k4 (Int32.toInt_inj.mp h3))) (by decide) ?_
  refine lv_aload_n hx hb dX9_told_74 rfl (lv_at hl 0 rfl) ?_
  refine va_get (D := D) (ci := 8) (v := .int (I 38 9)) (C := RX9) (T := TX9) (N := 10) hx hb hts hinX9_told_X9 hown E.1 hP 38 (zO.get (oX9_at)) rfl 9 (by decide) (hts (.fieldLink RX9 70 "EdgeAndSpeed$Trial" "changes" "I") (by decide +kernel)) (fun _ h9 => h9) rfl dX9_told_75 ?_
  refine lv_i2l hx hb dX9_told_78 rfl ?_
  exact hret _ hf _ _ _ _ hP hS dX9_told_79
theorem c_X9_told (l : Launch) {D : va_G} {a0 : Nat → Nat} {A : Nat → Prop} {cy : Nat → ClassId} {ad : Nat → Nat} (hD : zD A 74 ad) {I : zI} {J : zJ} (p1 : Int32) {rx : Int64} (hf : f_X9_told I J p1 = some rx) : Met l yX9_told wsX9_told { frames := 1, cells := 0, slots := 0, locals := 22 } (zPc D a0 A cy [.ref (ad 38), .int p1] (zw 74 (kC cy ad a0) ad I J)) (zQl D A rx (zw 74 (kC cy ad a0) ad I J)) 0 0 A :=
  zmet RX9 (by decide) rfl rfl (Nat.le_of_ble_eq_true rfl) (fun p e R s m below meth c Q hfr hlo ls S0 hQ => w_X9_told hfr hlo hD p1 hf S0 (fun tx hq H locs ls pc hP hS hd => by cases hq; exact hQ H locs _ hS (fun hx hb hr hlocks hfree => W.lret hx hb hr (fun t ht hW => ⟨⟨_, (), rfl, rfl, zht ht hP⟩, hS.F ht⟩) hfree hd hlocks)))
theorem ddX9_told : yX9_told.cls = RX9 ∧ yX9_told.cls ≠ "java/lang/invoke/MethodHandle" ∧ yX9_told.cls ≠ "java/lang/invoke/VarHandle" ∧ (parseMethodDescriptor yX9_told.desc).map (fun d => d.parameters.length) = some 1 := by decide +kernel

def f_X11_run (I : zI) (J : zJ) (p1 : Int32) (p2 : Int32) (p3 : Int32) (p4 : Int32) : Option (Int64 × zI × zJ) := zb1 (f_X11_isHandIn I J p1 p2) (fun x1 => (if x1 = 0 then some ((-1), I, J) else zb1 (f_X11_within I J p3 0 9999) (fun x4 => (if x4 = 0 then some ((-1), I, J) else zb1 (f_X11_within I J p4 0 4) (fun x7 => (if x7 = 0 then some ((-1), I, J) else zb2 (f_X2_prepare I J p1 p2) (fun I10 J11 => zb1 (f_X9_go I10 J11 p1 p2 p3) (fun I13 => zb1 (f_X9_told I13 J11 p4) (fun u15 => some (u15, I13, J11))))))))))
theorem hinX11_run_X11 : ∀ w ∈ u_ws RX11 TX11 12, w ∈ wsX11_run := by decide +kernel
set_option maxHeartbeats 4000000 in
set_option maxRecDepth 100000 in
theorem w_X11_run {p : Program} {l : Launch} {e : Env} {R : Room} {s : State} {m : MethodId} {args : Array Value} {below : List Frame} {meth : Method} {c : Code} {Q : State → Prop} (hfr : 7 ≤ R.frames) (hlo : 174 ≤ R.locals) {D : va_G} {a0 : Nat → Nat} {A : Nat → Prop} {cy : Nat → ClassId} {ad : Nat → Nat} (hD : zD A 74 ad) {I : zI} {J : zJ} (p1 : Int32) (p2 : Int32) (p3 : Int32) (p4 : Int32) {rx : Int64} {rI : zI} {rJ : zJ} (hf : f_X11_run I J p1 p2 p3 p4 = some (rx, rI, rJ)) {ls : Array Slot} (S0 : zSt p m c cX11_run 5 s args wsX11_run RX11 D a0 A cy (zw 74 (kC cy ad a0) ad I J) [.ref (ad 0), .int p1, .int p2, .int p3, .int p4] ls) (hret : ∀ (tx : Int64) (tI : zI) (tJ : zJ), some (tx, tI, tJ) = some (rx, rI, rJ) → ∀ (H : Heap) (locs : List Loc) (ls : Array Slot) (pc : Nat), va_P D vwCl (zw 74 (kC cy ad a0) ad tI tJ) H → va_S A s.heap H locs → decode cX11_run pc = .ok (.lreturn, 1) → W p l e R s m args below meth c H locs 0 0 Q (F0 m pc ls [.long tx])) : W p l e R s m args below meth c s.heap [] 0 0 Q (F0 m 0 ls []) := by
  obtain ⟨S, E, hP, hl⟩ := S0
  obtain ⟨hx, hb, hml, hown, hts⟩ := id S
  have hS : va_S A s.heap s.heap [] := va_S.rf
  replace hl : lv_has ls 5 [(0, .ref (ad 0)), (1, .int p1), (2, .int p2), (3, .int p3), (4, .int p4)] := hl
  unfold f_X11_run at hf
  refine lv_aload_n hx hb dX11_run_0 rfl (lv_at hl 0 rfl) ?_
  refine lv_iload_n hx hb dX11_run_1 rfl (lv_at hl 1 rfl) ?_
  refine lv_iload_n hx hb dX11_run_2 rfl (lv_at hl 2 rfl) ?_
  obtain ⟨x1, h2, hf⟩ := zb1_e hf
  refine zgo_i (zrunV (As := [.int p1, .int p2]) (rest := []) S (c_X11_isHandIn l hD p1 p2 h2) (cwV 2 hts gX11_run_X11_isHandIn rfl rfl rfl ddX11_isHandIn ⟨Nat.le_trans (Nat.le_of_ble_eq_true rfl) hfr, Nat.le_trans (Nat.le_of_ble_eq_true rfl) hlo⟩) (va_recv E.1 hP (q := (RX11, TX11, 12)) (ci := 10) rfl (zO.get (oX11_at))) E hP hS hl.1 rfl rfl (Nat.le_of_ble_eq_true rfl) dX11_run_3) hS (fun H locs hP hS => ?_)
  refine lv_if_eq (tgt := 30) hx hb dX11_run_6 (by decide) (fun k3 => ?_) (fun k3 => ?_)
  · replace hf := zt k3 hf
    refine lv_ldc2 hx hb hown (hts (.constantLong RX11 185 (-1)) (by decide +kernel)) dX11_run_30 ?_
    exact hret _ _ _ hf _ _ _ _ hP hS dX11_run_33
  · replace hf := zf k3 hf
    refine lv_iload_n hx hb dX11_run_9 rfl (lv_at hl 3 rfl) ?_
    refine lv_iconst (v := 0) hx hb dX11_run_10 (by decide) ?_
    refine lv_sipush (v := 9999) hx hb dX11_run_11 (by decide) ?_
    obtain ⟨x4, h5, hf⟩ := zb1_e hf
    refine zgo_i (zrunS (As := [.int p3, .int 0, .int 9999]) (rest := []) S (c_X11_within l hD p3 0 9999 h5) (va_cwS 3 hts gX11_run_X11_within rfl rfl rfl ddX11_within ⟨Nat.le_trans (Nat.le_of_ble_eq_true rfl) hfr, Nat.le_trans (Nat.le_of_ble_eq_true rfl) hlo⟩) E hP hS hl.1 rfl rfl (Nat.le_of_ble_eq_true rfl) dX11_run_14) hS (fun H locs hP hS => ?_)
    refine lv_if_eq (tgt := 30) hx hb dX11_run_17 (by decide) (fun k6 => ?_) (fun k6 => ?_)
    · replace hf := zt k6 hf
      refine lv_ldc2 hx hb hown (hts (.constantLong RX11 185 (-1)) (by decide +kernel)) dX11_run_30 ?_
      exact hret _ _ _ hf _ _ _ _ hP hS dX11_run_33
    · replace hf := zf k6 hf
      refine lv_iload hx hb dX11_run_20 (lv_at hl 4 rfl) ?_
      refine lv_iconst (v := 0) hx hb dX11_run_22 (by decide) ?_
      refine lv_iconst (v := 4) hx hb dX11_run_23 (by decide) ?_
      obtain ⟨x7, h8, hf⟩ := zb1_e hf
      refine zgo_i (zrunS (As := [.int p4, .int 0, .int 4]) (rest := []) S (c_X11_within l hD p4 0 4 h8) (va_cwS 3 hts gX11_run_X11_within rfl rfl rfl ddX11_within ⟨Nat.le_trans (Nat.le_of_ble_eq_true rfl) hfr, Nat.le_trans (Nat.le_of_ble_eq_true rfl) hlo⟩) E hP hS hl.1 rfl rfl (Nat.le_of_ble_eq_true rfl) dX11_run_24) hS (fun H locs hP hS => ?_)
      refine lv_if_ne (tgt := 34) hx hb dX11_run_27 (by decide) (fun k9 => ?_) (fun k9 => ?_)
      · replace hf := zf k9 hf
        refine lv_aload_n hx hb dX11_run_34 rfl (lv_at hl 0 rfl) ?_
        refine va_get (D := D) (ci := 10) (v := .ref (ad 34)) (C := RX11) (T := TX11) (N := 12) hx hb hts hinX11_run_X11 hown E.1 hP 0 (zO.get (oX11_at)) rfl 6 (by decide) (hts (.fieldLink RX11 52 "EdgeAndSpeed" "hands" "LEdgeAndSpeed$Hands;") (by decide +kernel)) (fun _ h9 => h9) rfl dX11_run_35 ?_
        refine lv_iload_n hx hb dX11_run_38 rfl (lv_at hl 1 rfl) ?_
        refine lv_iload_n hx hb dX11_run_39 rfl (lv_at hl 2 rfl) ?_
        obtain ⟨I10, J11, h12, hf⟩ := zb2_e hf
        refine zgo_v (zrunV (As := [.int p1, .int p2]) (rest := []) S (c_X2_prepare l hD p1 p2 h12) (cwV 2 hts gX11_run_X2_prepare rfl rfl rfl ddX2_prepare ⟨Nat.le_trans (Nat.le_of_ble_eq_true rfl) hfr, Nat.le_trans (Nat.le_of_ble_eq_true rfl) hlo⟩) (va_recv E.1 hP (q := (RX2, TX2, 4)) (ci := 2) rfl (zO.get (oX2_at))) E hP hS hl.1 rfl rfl (Nat.le_of_ble_eq_true rfl) dX11_run_40) hS (fun H locs hP hS => ?_)
        refine lv_aload_n hx hb dX11_run_43 rfl (lv_at hl 0 rfl) ?_
        refine va_get (D := D) (ci := 10) (v := .ref (ad 38)) (C := RX11) (T := TX11) (N := 12) hx hb hts hinX11_run_X11 hown E.1 hP 0 (zO.get (oX11_at)) rfl 8 (by decide) (hts (.fieldLink RX11 68 "EdgeAndSpeed" "trial" "LEdgeAndSpeed$Trial;") (by decide +kernel)) (fun _ h9 => h9) rfl dX11_run_44 ?_
        refine lv_iload_n hx hb dX11_run_47 rfl (lv_at hl 1 rfl) ?_
        refine lv_iload_n hx hb dX11_run_48 rfl (lv_at hl 2 rfl) ?_
        refine lv_iload_n hx hb dX11_run_49 rfl (lv_at hl 3 rfl) ?_
        obtain ⟨I13, h14, hf⟩ := zb1_e hf
        refine zgo_v (zrunV (As := [.int p1, .int p2, .int p3]) (rest := []) S (c_X9_go l hD p1 p2 p3 h14) (cwV 3 hts gX11_run_X9_go rfl rfl rfl ddX9_go ⟨Nat.le_trans (Nat.le_of_ble_eq_true rfl) hfr, Nat.le_trans (Nat.le_of_ble_eq_true rfl) hlo⟩) (va_recv E.1 hP (q := (RX9, TX9, 10)) (ci := 8) rfl (zO.get (oX9_at))) E hP hS hl.1 rfl rfl (Nat.le_of_ble_eq_true rfl) dX11_run_50) hS (fun H locs hP hS => ?_)
        refine lv_aload_n hx hb dX11_run_53 rfl (lv_at hl 0 rfl) ?_
        refine va_get (D := D) (ci := 10) (v := .ref (ad 38)) (C := RX11) (T := TX11) (N := 12) hx hb hts hinX11_run_X11 hown E.1 hP 0 (zO.get (oX11_at)) rfl 8 (by decide) (hts (.fieldLink RX11 68 "EdgeAndSpeed" "trial" "LEdgeAndSpeed$Trial;") (by decide +kernel)) (fun _ h9 => h9) rfl dX11_run_54 ?_
        refine lv_iload hx hb dX11_run_57 (lv_at hl 4 rfl) ?_
        obtain ⟨u15, h16, hf⟩ := zb1_e hf
        refine zgo_l (zrunV (As := [.int p4]) (rest := []) S (c_X9_told l hD p4 h16) (cwV 1 hts gX11_run_X9_told rfl rfl rfl ddX9_told ⟨Nat.le_trans (Nat.le_of_ble_eq_true rfl) hfr, Nat.le_trans (Nat.le_of_ble_eq_true rfl) hlo⟩) (va_recv E.1 hP (q := (RX9, TX9, 10)) (ci := 8) rfl (zO.get (oX9_at))) E hP hS hl.1 rfl rfl (Nat.le_of_ble_eq_true rfl) dX11_run_59) hS (fun H locs hP hS => ?_)
        exact hret _ _ _ hf _ _ _ _ hP hS dX11_run_62
      · replace hf := zt k9 hf
        refine lv_ldc2 hx hb hown (hts (.constantLong RX11 185 (-1)) (by decide +kernel)) dX11_run_30 ?_
        exact hret _ _ _ hf _ _ _ _ hP hS dX11_run_33
theorem c_X11_run (l : Launch) {D : va_G} {a0 : Nat → Nat} {A : Nat → Prop} {cy : Nat → ClassId} {ad : Nat → Nat} (hD : zD A 74 ad) {I : zI} {J : zJ} (p1 : Int32) (p2 : Int32) (p3 : Int32) (p4 : Int32) {rx : Int64} {rI : zI} {rJ : zJ} (hf : f_X11_run I J p1 p2 p3 p4 = some (rx, rI, rJ)) : Met l yX11_run wsX11_run { frames := 7, cells := 0, slots := 0, locals := 174 } (zPc D a0 A cy [.ref (ad 0), .int p1, .int p2, .int p3, .int p4] (zw 74 (kC cy ad a0) ad I J)) (zQl D A rx (zw 74 (kC cy ad a0) ad rI rJ)) 0 0 A :=
  zmet RX11 (by decide) rfl rfl (Nat.le_of_ble_eq_true rfl) (fun p e R s m below meth c Q hfr hlo ls S0 hQ => w_X11_run hfr hlo hD p1 p2 p3 p4 hf S0 (fun tx tI tJ hq H locs ls pc hP hS hd => by cases hq; exact hQ H locs _ hS (fun hx hb hr hlocks hfree => W.lret hx hb hr (fun t ht hW => ⟨⟨_, (), rfl, rfl, zht ht hP⟩, hS.F ht⟩) hfree hd hlocks)))
theorem ddX11_run : yX11_run.cls = RX11 ∧ yX11_run.cls ≠ "java/lang/invoke/MethodHandle" ∧ yX11_run.cls ≠ "java/lang/invoke/VarHandle" ∧ (parseMethodDescriptor yX11_run.desc).map (fun d => d.parameters.length) = some 4 := by decide +kernel

def f_X1_copy (I : zI) (J : zJ) (o : Nat) (p1 : Nat) : Option zI := zn (va_up I o (va_up (I o) 2 (I p1 2))) (fun I1 => zn (va_up I1 o (va_up (I1 o) 3 (I1 p1 3))) (fun I2 => zn (va_up I2 o (va_up (I2 o) 4 (I2 p1 4))) (fun I3 => zn (va_up I3 o (va_up (I3 o) 5 (I3 p1 5))) (fun I4 => zn (va_up I4 (o + 1) (va_cpy (I4 (p1 + 1)) (I4 (o + 1)) 0 0 20)) (fun I5 => zn (va_up I5 (o + 2) (va_cpy (I5 (p1 + 2)) (I5 (o + 2)) 0 0 20)) (fun I6 => some I6))))))
theorem hinX1_copy_X1 : ∀ w ∈ u_ws RX1 TX1 6, w ∈ wsX1_copy := by decide +kernel
set_option maxHeartbeats 4000000 in
set_option maxRecDepth 100000 in
theorem w_X1_copy {p : Program} {l : Launch} {e : Env} {R : Room} {s : State} {m : MethodId} {args : Array Value} {below : List Frame} {meth : Method} {c : Code} {Q : State → Prop} (hfr : 1 ≤ R.frames) (hlo : 64 ≤ R.locals) {D : va_G} {a0 : Nat → Nat} {A : Nat → Prop} {cy : Nat → ClassId} {ad : Nat → Nat} (hD : zD A 74 ad) {I : zI} {J : zJ} (o : Nat) (ho : zHn o) (p1 : Nat) (hp1 : zHn p1) {rI : zI} (hf : f_X1_copy I J o p1 = some rI) {ls : Array Slot} (S0 : zSt p m c cX1_copy 2 s args wsX1_copy RX1 D a0 A cy (zw 74 (kC cy ad a0) ad I J) [.ref (ad o), .ref (ad p1)] ls) (hret : ∀ (tI : zI), some tI = some rI → ∀ (H : Heap) (locs : List Loc) (ls : Array Slot) (pc : Nat), va_P D vwCl (zw 74 (kC cy ad a0) ad tI J) H → va_S A s.heap H locs → decode cX1_copy pc = .ok (.return_, 1) → W p l e R s m args below meth c H locs 0 0 Q (F0 m pc ls [])) : W p l e R s m args below meth c s.heap [] 0 0 Q (F0 m 0 ls []) := by
  obtain ⟨S, E, hP, hl⟩ := S0
  obtain ⟨hx, hb, hml, hown, hts⟩ := id S
  have hS : va_S A s.heap s.heap [] := va_S.rf
  replace hl : lv_has ls 2 [(0, .ref (ad o)), (1, .ref (ad p1))] := hl
  unfold f_X1_copy at hf
  refine lv_aload_n hx hb dX1_copy_0 rfl (lv_at hl 0 rfl) ?_
  refine lv_aload_n hx hb dX1_copy_1 rfl (lv_at hl 1 rfl) ?_
  refine va_get (D := D) (ci := 1) (v := .int (I p1 2)) (C := RX1) (T := TX1) (N := 6) hx hb hts hinX1_copy_X1 hown E.1 hP p1 (zO.get (oX1_at hp1)) rfl 2 (by decide) (hts (.fieldLink RX1 25 "EdgeAndSpeed$Habits" "rows" "I") (by decide +kernel)) (fun _ h9 => h9) rfl dX1_copy_2 ?_
  obtain ⟨I1, eI1⟩ := zex (va_up I o (va_up (I o) 2 (I p1 2)))
  replace hf := zn_s eI1 hf
  refine zput (D := D) (ci := 1) (v := .int (I p1 2)) (ty := .int) (C := RX1) (T := TX1) (N := 6) hx hb hts hinX1_copy_X1 tyX1 tyX1_ok nmX1 hown E.1 hP hD.D hS o (zO.get (oX1_at ho)) rfl 2 (by decide) (hts (.fieldLink RX1 25 "EdgeAndSpeed$Habits" "rows" "I") (by decide +kernel)) (fun _ h9 => h9) rfl (tyX1_ok 2 (by decide)) rfl rfl (Nat.le_of_ble_eq_true rfl) dX1_copy_5 (zO.setI (oX1_at ho) rfl eI1) (fun H locs hP hS => ?_)
  refine lv_aload_n hx hb dX1_copy_8 rfl (lv_at hl 0 rfl) ?_
  refine lv_aload_n hx hb dX1_copy_9 rfl (lv_at hl 1 rfl) ?_
  refine va_get (D := D) (ci := 1) (v := .int (I1 p1 3)) (C := RX1) (T := TX1) (N := 6) hx hb hts hinX1_copy_X1 hown E.1 hP p1 (zO.get (oX1_at hp1)) rfl 3 (by decide) (hts (.fieldLink RX1 28 "EdgeAndSpeed$Habits" "speed" "I") (by decide +kernel)) (fun _ h9 => h9) rfl dX1_copy_10 ?_
  obtain ⟨I2, eI2⟩ := zex (va_up I1 o (va_up (I1 o) 3 (I1 p1 3)))
  replace hf := zn_s eI2 hf
  refine zput (D := D) (ci := 1) (v := .int (I1 p1 3)) (ty := .int) (C := RX1) (T := TX1) (N := 6) hx hb hts hinX1_copy_X1 tyX1 tyX1_ok nmX1 hown E.1 hP hD.D hS o (zO.get (oX1_at ho)) rfl 3 (by decide) (hts (.fieldLink RX1 28 "EdgeAndSpeed$Habits" "speed" "I") (by decide +kernel)) (fun _ h9 => h9) rfl (tyX1_ok 3 (by decide)) rfl rfl (Nat.le_of_ble_eq_true rfl) dX1_copy_13 (zO.setI (oX1_at ho) rfl eI2) (fun H locs hP hS => ?_)
  refine lv_aload_n hx hb dX1_copy_16 rfl (lv_at hl 0 rfl) ?_
  refine lv_aload_n hx hb dX1_copy_17 rfl (lv_at hl 1 rfl) ?_
  refine va_get (D := D) (ci := 1) (v := .int (I2 p1 4)) (C := RX1) (T := TX1) (N := 6) hx hb hts hinX1_copy_X1 hown E.1 hP p1 (zO.get (oX1_at hp1)) rfl 4 (by decide) (hts (.fieldLink RX1 18 "EdgeAndSpeed$Habits" "limit" "I") (by decide +kernel)) (fun _ h9 => h9) rfl dX1_copy_18 ?_
  obtain ⟨I3, eI3⟩ := zex (va_up I2 o (va_up (I2 o) 4 (I2 p1 4)))
  replace hf := zn_s eI3 hf
  refine zput (D := D) (ci := 1) (v := .int (I2 p1 4)) (ty := .int) (C := RX1) (T := TX1) (N := 6) hx hb hts hinX1_copy_X1 tyX1 tyX1_ok nmX1 hown E.1 hP hD.D hS o (zO.get (oX1_at ho)) rfl 4 (by decide) (hts (.fieldLink RX1 18 "EdgeAndSpeed$Habits" "limit" "I") (by decide +kernel)) (fun _ h9 => h9) rfl (tyX1_ok 4 (by decide)) rfl rfl (Nat.le_of_ble_eq_true rfl) dX1_copy_21 (zO.setI (oX1_at ho) rfl eI3) (fun H locs hP hS => ?_)
  refine lv_aload_n hx hb dX1_copy_24 rfl (lv_at hl 0 rfl) ?_
  refine lv_aload_n hx hb dX1_copy_25 rfl (lv_at hl 1 rfl) ?_
  refine va_get (D := D) (ci := 1) (v := .int (I3 p1 5)) (C := RX1) (T := TX1) (N := 6) hx hb hts hinX1_copy_X1 hown E.1 hP p1 (zO.get (oX1_at hp1)) rfl 5 (by decide) (hts (.fieldLink RX1 22 "EdgeAndSpeed$Habits" "every" "I") (by decide +kernel)) (fun _ h9 => h9) rfl dX1_copy_26 ?_
  obtain ⟨I4, eI4⟩ := zex (va_up I3 o (va_up (I3 o) 5 (I3 p1 5)))
  replace hf := zn_s eI4 hf
  refine zput (D := D) (ci := 1) (v := .int (I3 p1 5)) (ty := .int) (C := RX1) (T := TX1) (N := 6) hx hb hts hinX1_copy_X1 tyX1 tyX1_ok nmX1 hown E.1 hP hD.D hS o (zO.get (oX1_at ho)) rfl 5 (by decide) (hts (.fieldLink RX1 22 "EdgeAndSpeed$Habits" "every" "I") (by decide +kernel)) (fun _ h9 => h9) rfl (tyX1_ok 5 (by decide)) rfl rfl (Nat.le_of_ble_eq_true rfl) dX1_copy_29 (zO.setI (oX1_at ho) rfl eI4) (fun H locs hP hS => ?_)
  refine lv_aload_n hx hb dX1_copy_32 rfl (lv_at hl 1 rfl) ?_
  refine va_get (D := D) (ci := 1) (v := .ref (ad (p1 + 1))) (C := RX1) (T := TX1) (N := 6) hx hb hts hinX1_copy_X1 hown E.1 hP p1 (zO.get (oX1_at hp1)) rfl 0 (by decide) (hts (.fieldLink RX1 9 "EdgeAndSpeed$Habits" "wears" "[I") (by decide +kernel)) (fun _ h9 => h9) rfl dX1_copy_33 ?_
  refine lv_iconst (v := 0) hx hb dX1_copy_36 (by decide) ?_
  refine lv_aload_n hx hb dX1_copy_37 rfl (lv_at hl 0 rfl) ?_
  refine va_get (D := D) (ci := 1) (v := .ref (ad (o + 1))) (C := RX1) (T := TX1) (N := 6) hx hb hts hinX1_copy_X1 hown E.1 hP o (zO.get (oX1_at ho)) rfl 0 (by decide) (hts (.fieldLink RX1 9 "EdgeAndSpeed$Habits" "wears" "[I") (by decide +kernel)) (fun _ h9 => h9) rfl dX1_copy_38 ?_
  refine lv_iconst (v := 0) hx hb dX1_copy_41 (by decide) ?_
  refine lv_bipush (v := 20) hx hb dX1_copy_42 (by decide) ?_
  obtain ⟨I5, eI5⟩ := zex (va_up I4 (o + 1) (va_cpy (I4 (p1 + 1)) (I4 (o + 1)) 0 0 20))
  replace hf := zn_s eI5 hf
  refine zcopy hx hb (hml.trans hl.1.symm) hown (hts (.methodLink RX1 31 arraycopyName) (by decide +kernel)) (hts (.native arraycopyName) (by decide +kernel)) (hts (.static arraycopyName) (by decide +kernel)) (hts (.initialized "java/lang/System") (by decide +kernel)) E.1 hP hD.D hS (aX1_0 hp1) (aX1_0 ho) (Nat.le_trans (Nat.le_of_ble_eq_true rfl) hfr) (Nat.le_trans (Nat.le_of_ble_eq_true rfl) hlo) dX1_copy_44 eI5 (fun H locs hP hS => ?_)
  refine lv_aload_n hx hb dX1_copy_47 rfl (lv_at hl 1 rfl) ?_
  refine va_get (D := D) (ci := 1) (v := .ref (ad (p1 + 2))) (C := RX1) (T := TX1) (N := 6) hx hb hts hinX1_copy_X1 hown E.1 hP p1 (zO.get (oX1_at hp1)) rfl 1 (by decide) (hts (.fieldLink RX1 15 "EdgeAndSpeed$Habits" "speeds" "[I") (by decide +kernel)) (fun _ h9 => h9) rfl dX1_copy_48 ?_
  refine lv_iconst (v := 0) hx hb dX1_copy_51 (by decide) ?_
  refine lv_aload_n hx hb dX1_copy_52 rfl (lv_at hl 0 rfl) ?_
  refine va_get (D := D) (ci := 1) (v := .ref (ad (o + 2))) (C := RX1) (T := TX1) (N := 6) hx hb hts hinX1_copy_X1 hown E.1 hP o (zO.get (oX1_at ho)) rfl 1 (by decide) (hts (.fieldLink RX1 15 "EdgeAndSpeed$Habits" "speeds" "[I") (by decide +kernel)) (fun _ h9 => h9) rfl dX1_copy_53 ?_
  refine lv_iconst (v := 0) hx hb dX1_copy_56 (by decide) ?_
  refine lv_bipush (v := 20) hx hb dX1_copy_57 (by decide) ?_
  obtain ⟨I6, eI6⟩ := zex (va_up I5 (o + 2) (va_cpy (I5 (p1 + 2)) (I5 (o + 2)) 0 0 20))
  replace hf := zn_s eI6 hf
  refine zcopy hx hb (hml.trans hl.1.symm) hown (hts (.methodLink RX1 31 arraycopyName) (by decide +kernel)) (hts (.native arraycopyName) (by decide +kernel)) (hts (.static arraycopyName) (by decide +kernel)) (hts (.initialized "java/lang/System") (by decide +kernel)) E.1 hP hD.D hS (aX1_1 hp1) (aX1_1 ho) (Nat.le_trans (Nat.le_of_ble_eq_true rfl) hfr) (Nat.le_trans (Nat.le_of_ble_eq_true rfl) hlo) dX1_copy_59 eI6 (fun H locs hP hS => ?_)
  exact hret _ hf _ _ _ _ hP hS dX1_copy_62
theorem c_X1_copy (l : Launch) {D : va_G} {a0 : Nat → Nat} {A : Nat → Prop} {cy : Nat → ClassId} {ad : Nat → Nat} (hD : zD A 74 ad) {I : zI} {J : zJ} (o : Nat) (ho : zHn o) (p1 : Nat) (hp1 : zHn p1) {rI : zI} (hf : f_X1_copy I J o p1 = some rI) : Met l yX1_copy wsX1_copy { frames := 1, cells := 0, slots := 0, locals := 64 } (zPc D a0 A cy [.ref (ad o), .ref (ad p1)] (zw 74 (kC cy ad a0) ad I J)) (zQv D A (zw 74 (kC cy ad a0) ad rI J)) 0 0 A :=
  zmet RX1 (by decide) rfl rfl (Nat.le_of_ble_eq_true rfl) (fun p e R s m below meth c Q hfr hlo ls S0 hQ => w_X1_copy hfr hlo hD o ho p1 hp1 hf S0 (fun tI hq H locs ls pc hP hS hd => by cases hq; exact hQ H locs _ hS (fun hx hb hr hlocks hfree => W.vret hx hb hr (fun t ht hW => ⟨⟨(), rfl, trivial, zht ht hP⟩, hS.F ht⟩) hfree hd hlocks)))
theorem ddX1_copy : yX1_copy.cls = RX1 ∧ yX1_copy.cls ≠ "java/lang/invoke/MethodHandle" ∧ yX1_copy.cls ≠ "java/lang/invoke/VarHandle" ∧ (parseMethodDescriptor yX1_copy.desc).map (fun d => d.parameters.length) = some 1 := by decide +kernel

def f_X11_keep (I : zI) (J : zJ) : Option (Int32 × zI) := zb1 (f_X11_within I J (I 0 5) 0 (2 - 1)) (fun x1 => (if x1 = 0 then some ((-3), I) else zg (¬ ((I 0 5) < 0 ∨ 2 ≤ (I 0 5).toNatClampNeg)) (zb1 (f_X1_copy I J (27 + 3 * (I 0 5).toNatClampNeg) 24) (fun I5 => zn (va_up I5 0 (va_up (I5 0) 5 ((I5 0 5) + 1))) (fun I7 => some ((I7 0 5), I7))))))
theorem hinX11_keep_X11 : ∀ w ∈ u_ws RX11 TX11 12, w ∈ wsX11_keep := by decide +kernel
set_option maxHeartbeats 4000000 in
set_option maxRecDepth 100000 in
theorem w_X11_keep {p : Program} {l : Launch} {e : Env} {R : Room} {s : State} {m : MethodId} {args : Array Value} {below : List Frame} {meth : Method} {c : Code} {Q : State → Prop} (hfr : 2 ≤ R.frames) (hlo : 85 ≤ R.locals) {D : va_G} {a0 : Nat → Nat} {A : Nat → Prop} {cy : Nat → ClassId} {ad : Nat → Nat} (hD : zD A 74 ad) {I : zI} {J : zJ}  {rx : Int32} {rI : zI} (hf : f_X11_keep I J = some (rx, rI)) {ls : Array Slot} (S0 : zSt p m c cX11_keep 1 s args wsX11_keep RX11 D a0 A cy (zw 74 (kC cy ad a0) ad I J) [.ref (ad 0)] ls) (hret : ∀ (tx : Int32) (tI : zI), some (tx, tI) = some (rx, rI) → ∀ (H : Heap) (locs : List Loc) (ls : Array Slot) (pc : Nat), va_P D vwCl (zw 74 (kC cy ad a0) ad tI J) H → va_S A s.heap H locs → decode cX11_keep pc = .ok (.ireturn, 1) → W p l e R s m args below meth c H locs 0 0 Q (F0 m pc ls [.int tx])) : W p l e R s m args below meth c s.heap [] 0 0 Q (F0 m 0 ls []) := by
  obtain ⟨S, E, hP, hl⟩ := S0
  obtain ⟨hx, hb, hml, hown, hts⟩ := id S
  have hS : va_S A s.heap s.heap [] := va_S.rf
  replace hl : lv_has ls 1 [(0, .ref (ad 0))] := hl
  unfold f_X11_keep at hf
  refine lv_aload_n hx hb dX11_keep_0 rfl (lv_at hl 0 rfl) ?_
  refine va_get (D := D) (ci := 10) (v := .int (I 0 5)) (C := RX11) (T := TX11) (N := 12) hx hb hts hinX11_keep_X11 hown E.1 hP 0 (zO.get (oX11_at)) rfl 5 (by decide) (hts (.fieldLink RX11 116 "EdgeAndSpeed" "keptRows" "I") (by decide +kernel)) (fun _ h9 => h9) rfl dX11_keep_1 ?_
  refine lv_iconst (v := 0) hx hb dX11_keep_4 (by decide) ?_
  refine lv_aload_n hx hb dX11_keep_5 rfl (lv_at hl 0 rfl) ?_
  refine va_get (D := D) (ci := 10) (v := .ref (ad 33)) (C := RX11) (T := TX11) (N := 12) hx hb hts hinX11_keep_X11 hown E.1 hP 0 (zO.get (oX11_at)) rfl 4 (by decide) (hts (.fieldLink RX11 33 "EdgeAndSpeed" "kept" "[LEdgeAndSpeed$Habits;") (by decide +kernel)) (fun _ h9 => h9) rfl dX11_keep_6 ?_
  refine va_alen (v := 2) (ty := .object "EdgeAndSpeed$Habits") hx hb E.1 hP 33 4 (zRA.get aX11_4) rfl rfl dX11_keep_9 ?_
  refine lv_iconst (v := 1) hx hb dX11_keep_10 (by decide) ?_
  refine lv_isub hx hb dX11_keep_11 ?_
  obtain ⟨x1, h2, hf⟩ := zb1_e hf
  refine zgo_i (zrunS (As := [.int (I 0 5), .int 0, .int (2 - 1)]) (rest := []) S (c_X11_within l hD (I 0 5) 0 (2 - 1) h2) (va_cwS 3 hts gX11_keep_X11_within rfl rfl rfl ddX11_within ⟨Nat.le_trans (Nat.le_of_ble_eq_true rfl) hfr, Nat.le_trans (Nat.le_of_ble_eq_true rfl) hlo⟩) E hP hS hl.1 rfl rfl (Nat.le_of_ble_eq_true rfl) dX11_keep_12) hS (fun H locs hP hS => ?_)
  refine lv_if_ne (tgt := 21) hx hb dX11_keep_15 (by decide) (fun k3 => ?_) (fun k3 => ?_)
  · replace hf := zf k3 hf
    refine lv_aload_n hx hb dX11_keep_21 rfl (lv_at hl 0 rfl) ?_
    refine va_get (D := D) (ci := 10) (v := .ref (ad 33)) (C := RX11) (T := TX11) (N := 12) hx hb hts hinX11_keep_X11 hown E.1 hP 0 (zO.get (oX11_at)) rfl 4 (by decide) (hts (.fieldLink RX11 33 "EdgeAndSpeed" "kept" "[LEdgeAndSpeed$Habits;") (by decide +kernel)) (fun _ h9 => h9) rfl dX11_keep_22 ?_
    refine lv_aload_n hx hb dX11_keep_25 rfl (lv_at hl 0 rfl) ?_
    refine va_get (D := D) (ci := 10) (v := .int (I 0 5)) (C := RX11) (T := TX11) (N := 12) hx hb hts hinX11_keep_X11 hown E.1 hP 0 (zO.get (oX11_at)) rfl 5 (by decide) (hts (.fieldLink RX11 116 "EdgeAndSpeed" "keptRows" "I") (by decide +kernel)) (fun _ h9 => h9) rfl dX11_keep_26 ?_
    obtain ⟨g4, hf⟩ := zg_i hf
    refine va_aldq (C := "EdgeAndSpeed$Habits") hx hb E.1 hP 33 4 (zRA.get aX11_4) rfl g4 dX11_keep_29 ?_
    refine lv_aload_n hx hb dX11_keep_30 rfl (lv_at hl 0 rfl) ?_
    refine va_get (D := D) (ci := 10) (v := .ref (ad 24)) (C := RX11) (T := TX11) (N := 12) hx hb hts hinX11_keep_X11 hown E.1 hP 0 (zO.get (oX11_at)) rfl 3 (by decide) (hts (.fieldLink RX11 29 "EdgeAndSpeed" "habits" "LEdgeAndSpeed$Habits;") (by decide +kernel)) (fun _ h9 => h9) rfl dX11_keep_31 ?_
    obtain ⟨I5, h6, hf⟩ := zb1_e hf
    refine zgo_v (zrunV (As := [.ref (ad 24)]) (rest := []) S (c_X1_copy l hD (27 + 3 * (I 0 5).toNatClampNeg) (zHn_k g4) 24 (by decide) h6) (cwV 1 hts gX11_keep_X1_copy rfl rfl rfl ddX1_copy ⟨Nat.le_trans (Nat.le_of_ble_eq_true rfl) hfr, Nat.le_trans (Nat.le_of_ble_eq_true rfl) hlo⟩) (va_recv E.1 hP (q := (RX1, TX1, 6)) (ci := 1) rfl (zO.get (oX1_at (zHn_k g4)))) E hP hS hl.1 rfl rfl (Nat.le_of_ble_eq_true rfl) dX11_keep_34) hS (fun H locs hP hS => ?_)
    refine lv_aload_n hx hb dX11_keep_37 rfl (lv_at hl 0 rfl) ?_
    refine lv_dup hx hb dX11_keep_38 rfl ?_
    refine va_get (D := D) (ci := 10) (v := .int (I5 0 5)) (C := RX11) (T := TX11) (N := 12) hx hb hts hinX11_keep_X11 hown E.1 hP 0 (zO.get (oX11_at)) rfl 5 (by decide) (hts (.fieldLink RX11 116 "EdgeAndSpeed" "keptRows" "I") (by decide +kernel)) (fun _ h9 => h9) rfl dX11_keep_39 ?_
    refine lv_iconst (v := 1) hx hb dX11_keep_42 (by decide) ?_
    refine lv_iadd hx hb dX11_keep_43 ?_
    obtain ⟨I7, eI7⟩ := zex (va_up I5 0 (va_up (I5 0) 5 ((I5 0 5) + 1)))
    replace hf := zn_s eI7 hf
    refine zput (D := D) (ci := 10) (v := .int ((I5 0 5) + 1)) (ty := .int) (C := RX11) (T := TX11) (N := 12) hx hb hts hinX11_keep_X11 tyX11 tyX11_ok nmX11 hown E.1 hP hD.D hS 0 (zO.get (oX11_at)) rfl 5 (by decide) (hts (.fieldLink RX11 116 "EdgeAndSpeed" "keptRows" "I") (by decide +kernel)) (fun _ h9 => h9) rfl (tyX11_ok 5 (by decide)) rfl rfl (Nat.le_of_ble_eq_true rfl) dX11_keep_44 (zO.setI (oX11_at) rfl eI7) (fun H locs hP hS => ?_)
    refine lv_aload_n hx hb dX11_keep_47 rfl (lv_at hl 0 rfl) ?_
    refine va_get (D := D) (ci := 10) (v := .int (I7 0 5)) (C := RX11) (T := TX11) (N := 12) hx hb hts hinX11_keep_X11 hown E.1 hP 0 (zO.get (oX11_at)) rfl 5 (by decide) (hts (.fieldLink RX11 116 "EdgeAndSpeed" "keptRows" "I") (by decide +kernel)) (fun _ h9 => h9) rfl dX11_keep_48 ?_
    exact hret _ _ hf _ _ _ _ hP hS dX11_keep_51
  · replace hf := zt k3 hf
    refine lv_bipush (v := (-3)) hx hb dX11_keep_18 (by decide) ?_
    exact hret _ _ hf _ _ _ _ hP hS dX11_keep_20
theorem c_X11_keep (l : Launch) {D : va_G} {a0 : Nat → Nat} {A : Nat → Prop} {cy : Nat → ClassId} {ad : Nat → Nat} (hD : zD A 74 ad) {I : zI} {J : zJ}  {rx : Int32} {rI : zI} (hf : f_X11_keep I J = some (rx, rI)) : Met l yX11_keep wsX11_keep { frames := 2, cells := 0, slots := 0, locals := 85 } (zPc D a0 A cy [.ref (ad 0)] (zw 74 (kC cy ad a0) ad I J)) (zQi D A rx (zw 74 (kC cy ad a0) ad rI J)) 0 0 A :=
  zmet RX11 (by decide) rfl rfl (Nat.le_of_ble_eq_true rfl) (fun p e R s m below meth c Q hfr hlo ls S0 hQ => w_X11_keep hfr hlo hD  hf S0 (fun tx tI hq H locs ls pc hP hS hd => by cases hq; exact hQ H locs _ hS (fun hx hb hr hlocks hfree => W.iret hx hb hr (fun t ht hW => ⟨⟨_, (), rfl, rfl, zht ht hP⟩, hS.F ht⟩) hfree hd hlocks)))
theorem ddX11_keep : yX11_keep.cls = RX11 ∧ yX11_keep.cls ≠ "java/lang/invoke/MethodHandle" ∧ yX11_keep.cls ≠ "java/lang/invoke/VarHandle" ∧ (parseMethodDescriptor yX11_keep.desc).map (fun d => d.parameters.length) = some 0 := by decide +kernel

def f_X11_back (I : zI) (J : zJ) : Option (Int32 × zI) := zb1 (f_X11_within I J (I 0 5) 1 2) (fun x1 => (if x1 = 0 then some ((-2), I) else zn (va_up I 0 (va_up (I 0) 5 ((I 0 5) - 1))) (fun I4 => zg (¬ ((I4 0 5) < 0 ∨ 2 ≤ (I4 0 5).toNatClampNeg)) (zb1 (f_X1_copy I4 J 24 (27 + 3 * (I4 0 5).toNatClampNeg)) (fun I6 => some ((I6 0 5), I6))))))
theorem hinX11_back_X11 : ∀ w ∈ u_ws RX11 TX11 12, w ∈ wsX11_back := by decide +kernel
set_option maxHeartbeats 4000000 in
set_option maxRecDepth 100000 in
theorem w_X11_back {p : Program} {l : Launch} {e : Env} {R : Room} {s : State} {m : MethodId} {args : Array Value} {below : List Frame} {meth : Method} {c : Code} {Q : State → Prop} (hfr : 2 ≤ R.frames) (hlo : 85 ≤ R.locals) {D : va_G} {a0 : Nat → Nat} {A : Nat → Prop} {cy : Nat → ClassId} {ad : Nat → Nat} (hD : zD A 74 ad) {I : zI} {J : zJ}  {rx : Int32} {rI : zI} (hf : f_X11_back I J = some (rx, rI)) {ls : Array Slot} (S0 : zSt p m c cX11_back 1 s args wsX11_back RX11 D a0 A cy (zw 74 (kC cy ad a0) ad I J) [.ref (ad 0)] ls) (hret : ∀ (tx : Int32) (tI : zI), some (tx, tI) = some (rx, rI) → ∀ (H : Heap) (locs : List Loc) (ls : Array Slot) (pc : Nat), va_P D vwCl (zw 74 (kC cy ad a0) ad tI J) H → va_S A s.heap H locs → decode cX11_back pc = .ok (.ireturn, 1) → W p l e R s m args below meth c H locs 0 0 Q (F0 m pc ls [.int tx])) : W p l e R s m args below meth c s.heap [] 0 0 Q (F0 m 0 ls []) := by
  obtain ⟨S, E, hP, hl⟩ := S0
  obtain ⟨hx, hb, hml, hown, hts⟩ := id S
  have hS : va_S A s.heap s.heap [] := va_S.rf
  replace hl : lv_has ls 1 [(0, .ref (ad 0))] := hl
  unfold f_X11_back at hf
  refine lv_aload_n hx hb dX11_back_0 rfl (lv_at hl 0 rfl) ?_
  refine va_get (D := D) (ci := 10) (v := .int (I 0 5)) (C := RX11) (T := TX11) (N := 12) hx hb hts hinX11_back_X11 hown E.1 hP 0 (zO.get (oX11_at)) rfl 5 (by decide) (hts (.fieldLink RX11 116 "EdgeAndSpeed" "keptRows" "I") (by decide +kernel)) (fun _ h9 => h9) rfl dX11_back_1 ?_
  refine lv_iconst (v := 1) hx hb dX11_back_4 (by decide) ?_
  refine lv_aload_n hx hb dX11_back_5 rfl (lv_at hl 0 rfl) ?_
  refine va_get (D := D) (ci := 10) (v := .ref (ad 33)) (C := RX11) (T := TX11) (N := 12) hx hb hts hinX11_back_X11 hown E.1 hP 0 (zO.get (oX11_at)) rfl 4 (by decide) (hts (.fieldLink RX11 33 "EdgeAndSpeed" "kept" "[LEdgeAndSpeed$Habits;") (by decide +kernel)) (fun _ h9 => h9) rfl dX11_back_6 ?_
  refine va_alen (v := 2) (ty := .object "EdgeAndSpeed$Habits") hx hb E.1 hP 33 4 (zRA.get aX11_4) rfl rfl dX11_back_9 ?_
  obtain ⟨x1, h2, hf⟩ := zb1_e hf
  refine zgo_i (zrunS (As := [.int (I 0 5), .int 1, .int 2]) (rest := []) S (c_X11_within l hD (I 0 5) 1 2 h2) (va_cwS 3 hts gX11_back_X11_within rfl rfl rfl ddX11_within ⟨Nat.le_trans (Nat.le_of_ble_eq_true rfl) hfr, Nat.le_trans (Nat.le_of_ble_eq_true rfl) hlo⟩) E hP hS hl.1 rfl rfl (Nat.le_of_ble_eq_true rfl) dX11_back_10) hS (fun H locs hP hS => ?_)
  refine lv_if_ne (tgt := 19) hx hb dX11_back_13 (by decide) (fun k3 => ?_) (fun k3 => ?_)
  · replace hf := zf k3 hf
    refine lv_aload_n hx hb dX11_back_19 rfl (lv_at hl 0 rfl) ?_
    refine lv_dup hx hb dX11_back_20 rfl ?_
    refine va_get (D := D) (ci := 10) (v := .int (I 0 5)) (C := RX11) (T := TX11) (N := 12) hx hb hts hinX11_back_X11 hown E.1 hP 0 (zO.get (oX11_at)) rfl 5 (by decide) (hts (.fieldLink RX11 116 "EdgeAndSpeed" "keptRows" "I") (by decide +kernel)) (fun _ h9 => h9) rfl dX11_back_21 ?_
    refine lv_iconst (v := 1) hx hb dX11_back_24 (by decide) ?_
    refine lv_isub hx hb dX11_back_25 ?_
    obtain ⟨I4, eI4⟩ := zex (va_up I 0 (va_up (I 0) 5 ((I 0 5) - 1)))
    replace hf := zn_s eI4 hf
    refine zput (D := D) (ci := 10) (v := .int ((I 0 5) - 1)) (ty := .int) (C := RX11) (T := TX11) (N := 12) hx hb hts hinX11_back_X11 tyX11 tyX11_ok nmX11 hown E.1 hP hD.D hS 0 (zO.get (oX11_at)) rfl 5 (by decide) (hts (.fieldLink RX11 116 "EdgeAndSpeed" "keptRows" "I") (by decide +kernel)) (fun _ h9 => h9) rfl (tyX11_ok 5 (by decide)) rfl rfl (Nat.le_of_ble_eq_true rfl) dX11_back_26 (zO.setI (oX11_at) rfl eI4) (fun H locs hP hS => ?_)
    refine lv_aload_n hx hb dX11_back_29 rfl (lv_at hl 0 rfl) ?_
    refine va_get (D := D) (ci := 10) (v := .ref (ad 24)) (C := RX11) (T := TX11) (N := 12) hx hb hts hinX11_back_X11 hown E.1 hP 0 (zO.get (oX11_at)) rfl 3 (by decide) (hts (.fieldLink RX11 29 "EdgeAndSpeed" "habits" "LEdgeAndSpeed$Habits;") (by decide +kernel)) (fun _ h9 => h9) rfl dX11_back_30 ?_
    refine lv_aload_n hx hb dX11_back_33 rfl (lv_at hl 0 rfl) ?_
    refine va_get (D := D) (ci := 10) (v := .ref (ad 33)) (C := RX11) (T := TX11) (N := 12) hx hb hts hinX11_back_X11 hown E.1 hP 0 (zO.get (oX11_at)) rfl 4 (by decide) (hts (.fieldLink RX11 33 "EdgeAndSpeed" "kept" "[LEdgeAndSpeed$Habits;") (by decide +kernel)) (fun _ h9 => h9) rfl dX11_back_34 ?_
    refine lv_aload_n hx hb dX11_back_37 rfl (lv_at hl 0 rfl) ?_
    refine va_get (D := D) (ci := 10) (v := .int (I4 0 5)) (C := RX11) (T := TX11) (N := 12) hx hb hts hinX11_back_X11 hown E.1 hP 0 (zO.get (oX11_at)) rfl 5 (by decide) (hts (.fieldLink RX11 116 "EdgeAndSpeed" "keptRows" "I") (by decide +kernel)) (fun _ h9 => h9) rfl dX11_back_38 ?_
    obtain ⟨g5, hf⟩ := zg_i hf
    refine va_aldq (C := "EdgeAndSpeed$Habits") hx hb E.1 hP 33 4 (zRA.get aX11_4) rfl g5 dX11_back_41 ?_
    obtain ⟨I6, h7, hf⟩ := zb1_e hf
    refine zgo_v (zrunV (As := [.ref (ad (27 + 3 * (I4 0 5).toNatClampNeg))]) (rest := []) S (c_X1_copy l hD 24 (by decide) (27 + 3 * (I4 0 5).toNatClampNeg) (zHn_k g5) h7) (cwV 1 hts gX11_back_X1_copy rfl rfl rfl ddX1_copy ⟨Nat.le_trans (Nat.le_of_ble_eq_true rfl) hfr, Nat.le_trans (Nat.le_of_ble_eq_true rfl) hlo⟩) (va_recv E.1 hP (q := (RX1, TX1, 6)) (ci := 1) rfl (zO.get (oX1_at (by decide)))) E hP hS hl.1 rfl rfl (Nat.le_of_ble_eq_true rfl) dX11_back_42) hS (fun H locs hP hS => ?_)
    refine lv_aload_n hx hb dX11_back_45 rfl (lv_at hl 0 rfl) ?_
    refine va_get (D := D) (ci := 10) (v := .int (I6 0 5)) (C := RX11) (T := TX11) (N := 12) hx hb hts hinX11_back_X11 hown E.1 hP 0 (zO.get (oX11_at)) rfl 5 (by decide) (hts (.fieldLink RX11 116 "EdgeAndSpeed" "keptRows" "I") (by decide +kernel)) (fun _ h9 => h9) rfl dX11_back_46 ?_
    exact hret _ _ hf _ _ _ _ hP hS dX11_back_49
  · replace hf := zt k3 hf
    refine lv_bipush (v := (-2)) hx hb dX11_back_16 (by decide) ?_
    exact hret _ _ hf _ _ _ _ hP hS dX11_back_18
theorem c_X11_back (l : Launch) {D : va_G} {a0 : Nat → Nat} {A : Nat → Prop} {cy : Nat → ClassId} {ad : Nat → Nat} (hD : zD A 74 ad) {I : zI} {J : zJ}  {rx : Int32} {rI : zI} (hf : f_X11_back I J = some (rx, rI)) : Met l yX11_back wsX11_back { frames := 2, cells := 0, slots := 0, locals := 85 } (zPc D a0 A cy [.ref (ad 0)] (zw 74 (kC cy ad a0) ad I J)) (zQi D A rx (zw 74 (kC cy ad a0) ad rI J)) 0 0 A :=
  zmet RX11 (by decide) rfl rfl (Nat.le_of_ble_eq_true rfl) (fun p e R s m below meth c Q hfr hlo ls S0 hQ => w_X11_back hfr hlo hD  hf S0 (fun tx tI hq H locs ls pc hP hS hd => by cases hq; exact hQ H locs _ hS (fun hx hb hr hlocks hfree => W.iret hx hb hr (fun t ht hW => ⟨⟨_, (), rfl, rfl, zht ht hP⟩, hS.F ht⟩) hfree hd hlocks)))
theorem ddX11_back : yX11_back.cls = RX11 ∧ yX11_back.cls ≠ "java/lang/invoke/MethodHandle" ∧ yX11_back.cls ≠ "java/lang/invoke/VarHandle" ∧ (parseMethodDescriptor yX11_back.desc).map (fun d => d.parameters.length) = some 0 := by decide +kernel

def f_X11_count (I : zI) (J : zJ) (p1 : Int32) : Option Int32 := (if p1 = 0 then some (I 4 9) else if p1 = 1 then some (I 4 10) else if p1 = 2 then some (I 4 11) else if p1 = 3 then some (I 1 2) else if p1 = 4 then some (I 24 2) else if p1 = 5 then some (I 0 5) else some (-1))
theorem hinX11_count_X11 : ∀ w ∈ u_ws RX11 TX11 12, w ∈ wsX11_count := by decide +kernel
theorem hinX11_count_X0 : ∀ w ∈ u_ws RX0 TX0 17, w ∈ wsX11_count := by decide +kernel
theorem hinX11_count_X8 : ∀ w ∈ u_ws RX8 TX8 4, w ∈ wsX11_count := by decide +kernel
theorem hinX11_count_X1 : ∀ w ∈ u_ws RX1 TX1 6, w ∈ wsX11_count := by decide +kernel
set_option maxHeartbeats 4000000 in
set_option maxRecDepth 100000 in
theorem w_X11_count {p : Program} {l : Launch} {e : Env} {R : Room} {s : State} {m : MethodId} {args : Array Value} {below : List Frame} {meth : Method} {c : Code} {Q : State → Prop} (hfr : 0 ≤ R.frames) (hlo : 0 ≤ R.locals) {D : va_G} {a0 : Nat → Nat} {A : Nat → Prop} {cy : Nat → ClassId} {ad : Nat → Nat} (hD : zD A 74 ad) {I : zI} {J : zJ} (p1 : Int32) {rx : Int32} (hf : f_X11_count I J p1 = some rx) {ls : Array Slot} (S0 : zSt p m c cX11_count 2 s args wsX11_count RX11 D a0 A cy (zw 74 (kC cy ad a0) ad I J) [.ref (ad 0), .int p1] ls) (hret : ∀ (tx : Int32), some tx = some rx → ∀ (H : Heap) (locs : List Loc) (ls : Array Slot) (pc : Nat), va_P D vwCl (zw 74 (kC cy ad a0) ad I J) H → va_S A s.heap H locs → decode cX11_count pc = .ok (.ireturn, 1) → W p l e R s m args below meth c H locs 0 0 Q (F0 m pc ls [.int tx])) : W p l e R s m args below meth c s.heap [] 0 0 Q (F0 m 0 ls []) := by
  obtain ⟨S, E, hP, hl⟩ := S0
  obtain ⟨hx, hb, hml, hown, hts⟩ := id S
  have hS : va_S A s.heap s.heap [] := va_S.rf
  replace hl : lv_has ls 2 [(0, .ref (ad 0)), (1, .int p1)] := hl
  unfold f_X11_count at hf
  refine lv_iload_n hx hb dX11_count_0 rfl (lv_at hl 1 rfl) ?_
  rcases Decidable.em (p1 = 0) with k1 | k1
  · replace hf := zt k1 hf
    refine lv_tableIn (off := 39) (tgt := 40) hx hb dX11_count_1 (by rw [k1]; decide) (by rw [k1]; decide) (by rw [k1]; rfl) (by decide) ?_
    refine lv_aload_n hx hb dX11_count_40 rfl (lv_at hl 0 rfl) ?_
    refine va_get (D := D) (ci := 10) (v := .ref (ad 4)) (C := RX11) (T := TX11) (N := 12) hx hb hts hinX11_count_X11 hown E.1 hP 0 (zO.get (oX11_at)) rfl 1 (by decide) (hts (.fieldLink RX11 19 "EdgeAndSpeed" "bench" "LEdgeAndSpeed$Bench;") (by decide +kernel)) (fun _ h9 => h9) rfl dX11_count_41 ?_
    refine va_getN (D := D) (ci := 0) (v := .int (I 4 9)) (C := RX0) (T := TX0) (N := 17) hx hb hts hinX11_count_X0 hown E.1 hP 4 (zO.get (zBat_o (zBat_C (by decide)))) rfl 9 (by decide) (zNfw_2 E.2.2) (fun _ h9 => h9) rfl dX11_count_44 ?_
    exact hret _ hf _ _ _ _ hP hS dX11_count_47
  replace hf := zf k1 hf
  rcases Decidable.em (p1 = 1) with k2 | k2
  · replace hf := zt k2 hf
    refine lv_tableIn (off := 47) (tgt := 48) hx hb dX11_count_1 (by rw [k2]; decide) (by rw [k2]; decide) (by rw [k2]; rfl) (by decide) ?_
    refine lv_aload_n hx hb dX11_count_48 rfl (lv_at hl 0 rfl) ?_
    refine va_get (D := D) (ci := 10) (v := .ref (ad 4)) (C := RX11) (T := TX11) (N := 12) hx hb hts hinX11_count_X11 hown E.1 hP 0 (zO.get (oX11_at)) rfl 1 (by decide) (hts (.fieldLink RX11 19 "EdgeAndSpeed" "bench" "LEdgeAndSpeed$Bench;") (by decide +kernel)) (fun _ h9 => h9) rfl dX11_count_49 ?_
    refine va_getN (D := D) (ci := 0) (v := .int (I 4 10)) (C := RX0) (T := TX0) (N := 17) hx hb hts hinX11_count_X0 hown E.1 hP 4 (zO.get (zBat_o (zBat_C (by decide)))) rfl 10 (by decide) (zNfw_5 E.2.2) (fun _ h9 => h9) rfl dX11_count_52 ?_
    exact hret _ hf _ _ _ _ hP hS dX11_count_55
  replace hf := zf k2 hf
  rcases Decidable.em (p1 = 2) with k3 | k3
  · replace hf := zt k3 hf
    refine lv_tableIn (off := 55) (tgt := 56) hx hb dX11_count_1 (by rw [k3]; decide) (by rw [k3]; decide) (by rw [k3]; rfl) (by decide) ?_
    refine lv_aload_n hx hb dX11_count_56 rfl (lv_at hl 0 rfl) ?_
    refine va_get (D := D) (ci := 10) (v := .ref (ad 4)) (C := RX11) (T := TX11) (N := 12) hx hb hts hinX11_count_X11 hown E.1 hP 0 (zO.get (oX11_at)) rfl 1 (by decide) (hts (.fieldLink RX11 19 "EdgeAndSpeed" "bench" "LEdgeAndSpeed$Bench;") (by decide +kernel)) (fun _ h9 => h9) rfl dX11_count_57 ?_
    refine va_getN (D := D) (ci := 0) (v := .int (I 4 11)) (C := RX0) (T := TX0) (N := 17) hx hb hts hinX11_count_X0 hown E.1 hP 4 (zO.get (zBat_o (zBat_C (by decide)))) rfl 11 (by decide) (zNfw_7 E.2.2) (fun _ h9 => h9) rfl dX11_count_60 ?_
    exact hret _ hf _ _ _ _ hP hS dX11_count_63
  replace hf := zf k3 hf
  rcases Decidable.em (p1 = 3) with k4 | k4
  · replace hf := zt k4 hf
    refine lv_tableIn (off := 63) (tgt := 64) hx hb dX11_count_1 (by rw [k4]; decide) (by rw [k4]; decide) (by rw [k4]; rfl) (by decide) ?_
    refine lv_aload_n hx hb dX11_count_64 rfl (lv_at hl 0 rfl) ?_
    refine va_get (D := D) (ci := 10) (v := .ref (ad 1)) (C := RX11) (T := TX11) (N := 12) hx hb hts hinX11_count_X11 hown E.1 hP 0 (zO.get (oX11_at)) rfl 0 (by decide) (hts (.fieldLink RX11 12 "EdgeAndSpeed" "text" "LEdgeAndSpeed$Text;") (by decide +kernel)) (fun _ h9 => h9) rfl dX11_count_65 ?_
    refine va_getN (D := D) (ci := 7) (v := .int (I 1 2)) (C := RX8) (T := TX8) (N := 4) hx hb hts hinX11_count_X8 hown E.1 hP 1 (zO.get (oX8_at)) rfl 2 (by decide) (zNfw_0 E.2.2) (fun _ h9 => h9) rfl dX11_count_68 ?_
    exact hret _ hf _ _ _ _ hP hS dX11_count_71
  replace hf := zf k4 hf
  rcases Decidable.em (p1 = 4) with k5 | k5
  · replace hf := zt k5 hf
    refine lv_tableIn (off := 71) (tgt := 72) hx hb dX11_count_1 (by rw [k5]; decide) (by rw [k5]; decide) (by rw [k5]; rfl) (by decide) ?_
    refine lv_aload_n hx hb dX11_count_72 rfl (lv_at hl 0 rfl) ?_
    refine va_get (D := D) (ci := 10) (v := .ref (ad 24)) (C := RX11) (T := TX11) (N := 12) hx hb hts hinX11_count_X11 hown E.1 hP 0 (zO.get (oX11_at)) rfl 3 (by decide) (hts (.fieldLink RX11 29 "EdgeAndSpeed" "habits" "LEdgeAndSpeed$Habits;") (by decide +kernel)) (fun _ h9 => h9) rfl dX11_count_73 ?_
    refine va_getN (D := D) (ci := 1) (v := .int (I 24 2)) (C := RX1) (T := TX1) (N := 6) hx hb hts hinX11_count_X1 hown E.1 hP 24 (zO.get (oX1_at (by decide))) rfl 2 (by decide) (zNfw_12 E.2.2) (fun _ h9 => h9) rfl dX11_count_76 ?_
    exact hret _ hf _ _ _ _ hP hS dX11_count_79
  replace hf := zf k5 hf
  rcases Decidable.em (p1 = 5) with k6 | k6
  · replace hf := zt k6 hf
    refine lv_tableIn (off := 79) (tgt := 80) hx hb dX11_count_1 (by rw [k6]; decide) (by rw [k6]; decide) (by rw [k6]; rfl) (by decide) ?_
    refine lv_aload_n hx hb dX11_count_80 rfl (lv_at hl 0 rfl) ?_
    refine va_get (D := D) (ci := 10) (v := .int (I 0 5)) (C := RX11) (T := TX11) (N := 12) hx hb hts hinX11_count_X11 hown E.1 hP 0 (zO.get (oX11_at)) rfl 5 (by decide) (hts (.fieldLink RX11 116 "EdgeAndSpeed" "keptRows" "I") (by decide +kernel)) (fun _ h9 => h9) rfl dX11_count_81 ?_
    exact hret _ hf _ _ _ _ hP hS dX11_count_84
  replace hf := zf k6 hf
  refine lv_tableOut (tgt := 85) hx hb dX11_count_1 (zTab (lo := 0) (hi := 5) (fun v h1 h2 h3 => by have h4 : v = 0 ∨ v = 1 ∨ v = 2 ∨ v = 3 ∨ v = 4 ∨ v = 5 := (by omega); rcases h4 with rfl | rfl | rfl | rfl | rfl | rfl <;> first | exact k1 (Int32.toInt_inj.mp h3) | exact k2 (Int32.toInt_inj.mp h3) | exact k3 (Int32.toInt_inj.mp h3) | exact k4 (Int32.toInt_inj.mp h3) | exact k5 (Int32.toInt_inj.mp h3) | exact k6 (Int32.toInt_inj.mp h3))) (by decide) ?_
  refine lv_iconst (v := (-1)) hx hb dX11_count_85 (by decide) ?_
  exact hret _ hf _ _ _ _ hP hS dX11_count_86
theorem c_X11_count (l : Launch) {D : va_G} {a0 : Nat → Nat} {A : Nat → Prop} {cy : Nat → ClassId} {ad : Nat → Nat} (hD : zD A 74 ad) {I : zI} {J : zJ} (p1 : Int32) {rx : Int32} (hf : f_X11_count I J p1 = some rx) : Met l yX11_count wsX11_count { frames := 0, cells := 0, slots := 0, locals := 0 } (zPc D a0 A cy [.ref (ad 0), .int p1] (zw 74 (kC cy ad a0) ad I J)) (zQi D A rx (zw 74 (kC cy ad a0) ad I J)) 0 0 A :=
  zmet RX11 (by decide) rfl rfl (Nat.le_of_ble_eq_true rfl) (fun p e R s m below meth c Q hfr hlo ls S0 hQ => w_X11_count hfr hlo hD p1 hf S0 (fun tx hq H locs ls pc hP hS hd => by cases hq; exact hQ H locs _ hS (fun hx hb hr hlocks hfree => W.iret hx hb hr (fun t ht hW => ⟨⟨_, (), rfl, rfl, zht ht hP⟩, hS.F ht⟩) hfree hd hlocks)))
theorem ddX11_count : yX11_count.cls = RX11 ∧ yX11_count.cls ≠ "java/lang/invoke/MethodHandle" ∧ yX11_count.cls ≠ "java/lang/invoke/VarHandle" ∧ (parseMethodDescriptor yX11_count.desc).map (fun d => d.parameters.length) = some 1 := by decide +kernel

def f_X0_layFirst (I : zI) (J : zJ) (o : Nat) : Option zI := zb1 (f_X0_clear I J o) (fun I1 => zb2 (f_X0_takeSpeed I1 J o 10 10) (fun x3 I4 => zb2 (f_X0_takePiece I4 J o 10 1 100 10) (fun x6 I7 => zb2 (f_X0_finish I7 J o) (fun x9 I10 => some I10))))
set_option maxHeartbeats 4000000 in
set_option maxRecDepth 100000 in
theorem w_X0_layFirst {p : Program} {l : Launch} {e : Env} {R : Room} {s : State} {m : MethodId} {args : Array Value} {below : List Frame} {meth : Method} {c : Code} {Q : State → Prop} (hfr : 3 ≤ R.frames) (hlo : 67 ≤ R.locals) {D : va_G} {a0 : Nat → Nat} {A : Nat → Prop} {cy : Nat → ClassId} {ad : Nat → Nat} {N : Nat} {K : zK} (hD : zD A N ad) {I : zI} {J : zJ} (o : Nat) (hB : zBat N K cy ad o) {rI : zI} (hf : f_X0_layFirst I J o = some rI) {ls : Array Slot} (S0 : zSt p m c cX0_layFirst 1 s args wsX0_layFirst RX0 D a0 A cy (zw N K ad I J) [.ref (ad o)] ls) (hret : ∀ (tI : zI), some tI = some rI → ∀ (H : Heap) (locs : List Loc) (ls : Array Slot) (pc : Nat), va_P D vwCl (zw N K ad tI J) H → va_S A s.heap H locs → decode cX0_layFirst pc = .ok (.return_, 1) → W p l e R s m args below meth c H locs 0 0 Q (F0 m pc ls [])) : W p l e R s m args below meth c s.heap [] 0 0 Q (F0 m 0 ls []) := by
  obtain ⟨S, E, hP, hl⟩ := S0
  obtain ⟨hx, hb, hml, hown, hts⟩ := id S
  have hS : va_S A s.heap s.heap [] := va_S.rf
  replace hl : lv_has ls 1 [(0, .ref (ad o))] := hl
  unfold f_X0_layFirst at hf
  refine lv_aload_n hx hb dX0_layFirst_0 rfl (lv_at hl 0 rfl) ?_
  obtain ⟨I1, h2, hf⟩ := zb1_e hf
  refine zgo_v (zrunV (As := []) (rest := []) S (c_X0_clear l hD o hB h2) (cwV 0 hts gX0_layFirst_X0_clear rfl rfl rfl ddX0_clear ⟨Nat.le_trans (Nat.le_of_ble_eq_true rfl) hfr, Nat.le_trans (Nat.le_of_ble_eq_true rfl) hlo⟩) (va_recv E.1 hP (q := (RX0, TX0, 17)) (ci := 0) rfl (zO.get (zBat_o hB))) E hP hS hl.1 rfl rfl (Nat.le_of_ble_eq_true rfl) dX0_layFirst_1) hS (fun H locs hP hS => ?_)
  refine lv_aload_n hx hb dX0_layFirst_4 rfl (lv_at hl 0 rfl) ?_
  refine lv_bipush (v := 10) hx hb dX0_layFirst_5 (by decide) ?_
  refine lv_bipush (v := 10) hx hb dX0_layFirst_7 (by decide) ?_
  obtain ⟨x3, I4, h5, hf⟩ := zb2_e hf
  refine zgo_i (zrunV (As := [.int 10, .int 10]) (rest := []) S (c_X0_takeSpeed l hD o hB 10 10 h5) (cwV 2 hts gX0_layFirst_X0_takeSpeed rfl rfl rfl ddX0_takeSpeed ⟨Nat.le_trans (Nat.le_of_ble_eq_true rfl) hfr, Nat.le_trans (Nat.le_of_ble_eq_true rfl) hlo⟩) (va_recv E.1 hP (q := (RX0, TX0, 17)) (ci := 0) rfl (zO.get (zBat_o hB))) E hP hS hl.1 rfl rfl (Nat.le_of_ble_eq_true rfl) dX0_layFirst_9) hS (fun H locs hP hS => ?_)
  refine lv_pop hx hb dX0_layFirst_12 rfl ?_
  refine lv_aload_n hx hb dX0_layFirst_13 rfl (lv_at hl 0 rfl) ?_
  refine lv_bipush (v := 10) hx hb dX0_layFirst_14 (by decide) ?_
  refine lv_iconst (v := 1) hx hb dX0_layFirst_16 (by decide) ?_
  refine lv_bipush (v := 100) hx hb dX0_layFirst_17 (by decide) ?_
  refine lv_bipush (v := 10) hx hb dX0_layFirst_19 (by decide) ?_
  obtain ⟨x6, I7, h8, hf⟩ := zb2_e hf
  refine zgo_i (zrunV (As := [.int 10, .int 1, .int 100, .int 10]) (rest := []) S (c_X0_takePiece l hD o hB 10 1 100 10 h8) (cwV 4 hts gX0_layFirst_X0_takePiece rfl rfl rfl ddX0_takePiece ⟨Nat.le_trans (Nat.le_of_ble_eq_true rfl) hfr, Nat.le_trans (Nat.le_of_ble_eq_true rfl) hlo⟩) (va_recv E.1 hP (q := (RX0, TX0, 17)) (ci := 0) rfl (zO.get (zBat_o hB))) E hP hS hl.1 rfl rfl (Nat.le_of_ble_eq_true rfl) dX0_layFirst_21) hS (fun H locs hP hS => ?_)
  refine lv_pop hx hb dX0_layFirst_24 rfl ?_
  refine lv_aload_n hx hb dX0_layFirst_25 rfl (lv_at hl 0 rfl) ?_
  obtain ⟨x9, I10, h11, hf⟩ := zb2_e hf
  refine zgo_i (zrunV (As := []) (rest := []) S (c_X0_finish l hD o hB h11) (cwV 0 hts gX0_layFirst_X0_finish rfl rfl rfl ddX0_finish ⟨Nat.le_trans (Nat.le_of_ble_eq_true rfl) hfr, Nat.le_trans (Nat.le_of_ble_eq_true rfl) hlo⟩) (va_recv E.1 hP (q := (RX0, TX0, 17)) (ci := 0) rfl (zO.get (zBat_o hB))) E hP hS hl.1 rfl rfl (Nat.le_of_ble_eq_true rfl) dX0_layFirst_26) hS (fun H locs hP hS => ?_)
  refine lv_pop hx hb dX0_layFirst_29 rfl ?_
  exact hret _ hf _ _ _ _ hP hS dX0_layFirst_30
theorem c_X0_layFirst (l : Launch) {D : va_G} {a0 : Nat → Nat} {A : Nat → Prop} {cy : Nat → ClassId} {ad : Nat → Nat} {N : Nat} {K : zK} (hD : zD A N ad) {I : zI} {J : zJ} (o : Nat) (hB : zBat N K cy ad o) {rI : zI} (hf : f_X0_layFirst I J o = some rI) : Met l yX0_layFirst wsX0_layFirst { frames := 3, cells := 0, slots := 0, locals := 67 } (zPc D a0 A cy [.ref (ad o)] (zw N K ad I J)) (zQv D A (zw N K ad rI J)) 0 0 A :=
  zmet RX0 (by decide) rfl rfl (Nat.le_of_ble_eq_true rfl) (fun p e R s m below meth c Q hfr hlo ls S0 hQ => w_X0_layFirst hfr hlo hD o hB hf S0 (fun tI hq H locs ls pc hP hS hd => by cases hq; exact hQ H locs _ hS (fun hx hb hr hlocks hfree => W.vret hx hb hr (fun t ht hW => ⟨⟨(), rfl, trivial, zht ht hP⟩, hS.F ht⟩) hfree hd hlocks)))
theorem ddX0_layFirst : yX0_layFirst.cls = RX0 ∧ yX0_layFirst.cls ≠ "java/lang/invoke/MethodHandle" ∧ yX0_layFirst.cls ≠ "java/lang/invoke/VarHandle" ∧ (parseMethodDescriptor yX0_layFirst.desc).map (fun d => d.parameters.length) = some 0 := by decide +kernel
