def f_X11_within (I : zI) (J : zJ) (p1 : Int32) (p2 : Int32) (p3 : Int32) : Option Int32 := (if p1 < p2 then some 0 else (if p3 < p1 then some 0 else some 1))
set_option maxHeartbeats 4000000 in
set_option maxRecDepth 100000 in
theorem w_X11_within {p : Program} {l : Launch} {e : Env} {R : Room} {s : State} {m : MethodId} {args : Array Value} {below : List Frame} {meth : Method} {c : Code} {Q : State → Prop} (hfr : 0 ≤ R.frames) (hlo : 0 ≤ R.locals) {D : va_G} {a0 : Nat → Nat} {A : Nat → Prop} {cy : Nat → ClassId} {ad : Nat → Nat} {N : Nat} {K : zK} (hD : zD A N ad) {I : zI} {J : zJ} (p1 : Int32) (p2 : Int32) (p3 : Int32) {rx : Int32} (hf : f_X11_within I J p1 p2 p3 = some rx) {ls : Array Slot} (S0 : zSt p m c cX11_within 3 s args wsX11_within RX11 D a0 A cy (zw N K ad I J) [.int p1, .int p2, .int p3] ls) (hret : ∀ (tx : Int32), some tx = some rx → (tx = 0 ∨ tx = 1) → ∀ (H : Heap) (locs : List Loc) (ls : Array Slot) (pc : Nat), va_P D vwCl (zw N K ad I J) H → va_S A s.heap H locs → decode cX11_within pc = .ok (.ireturn, 1) → W p l e R s m args below meth c H locs 0 0 Q (F0 m pc ls [.int tx])) : W p l e R s m args below meth c s.heap [] 0 0 Q (F0 m 0 ls []) := by
  obtain ⟨S, E, hP, hl⟩ := S0
  obtain ⟨hx, hb, hml, hown, hts⟩ := id S
  have hS : va_S A s.heap s.heap [] := va_S.rf
  replace hl : lv_has ls 3 [(0, .int p1), (1, .int p2), (2, .int p3)] := hl
  unfold f_X11_within at hf
  refine lv_iload_n hx hb dX11_within_0 rfl (lv_at hl 0 rfl) ?_
  refine lv_iload_n hx hb dX11_within_1 rfl (lv_at hl 1 rfl) ?_
  refine lv_icmp_lt (tgt := 14) hx hb dX11_within_2 (by decide) (fun k1 => ?_) (fun k1 => ?_)
  · replace hf := zt k1 hf
    refine lv_iconst (v := 0) hx hb dX11_within_14 (by decide) ?_
    exact hret _ hf (Or.inl rfl) _ _ _ _ hP hS dX11_within_15
  · replace hf := zf k1 hf
    refine lv_iload_n hx hb dX11_within_5 rfl (lv_at hl 0 rfl) ?_
    refine lv_iload_n hx hb dX11_within_6 rfl (lv_at hl 2 rfl) ?_
    refine lv_icmp_gt (tgt := 14) hx hb dX11_within_7 (by decide) (fun k2 => ?_) (fun k2 => ?_)
    · replace hf := zt k2 hf
      refine lv_iconst (v := 0) hx hb dX11_within_14 (by decide) ?_
      exact hret _ hf (Or.inl rfl) _ _ _ _ hP hS dX11_within_15
    · replace hf := zf k2 hf
      refine lv_iconst (v := 1) hx hb dX11_within_10 (by decide) ?_
      refine lv_goto (tgt := 15) hx hb dX11_within_11 (by decide) ?_
      exact hret _ hf (Or.inr rfl) _ _ _ _ hP hS dX11_within_15
theorem c_X11_within (l : Launch) {D : va_G} {a0 : Nat → Nat} {A : Nat → Prop} {cy : Nat → ClassId} {ad : Nat → Nat} {N : Nat} {K : zK} (hD : zD A N ad) {I : zI} {J : zJ} (p1 : Int32) (p2 : Int32) (p3 : Int32) {rx : Int32} (hf : f_X11_within I J p1 p2 p3 = some rx) : Met l yX11_within wsX11_within { frames := 0, cells := 0, slots := 0, locals := 0 } (zPc D a0 A cy [.int p1, .int p2, .int p3] (zw N K ad I J)) (zQi D A rx (zw N K ad I J)) 0 0 A :=
  zmet RX11 (by decide) rfl rfl (Nat.le_of_ble_eq_true rfl) (fun p e R s m below meth c Q hfr hlo ls S0 hQ => w_X11_within hfr hlo hD p1 p2 p3 hf S0 (fun tx hq n01 H locs ls pc hP hS hd => by cases hq; exact hQ H locs _ hS (fun hx hb hr hlocks hfree => W.zret hx hb hr (z01 n01) (fun t ht hW => ⟨⟨_, (), rfl, rfl, zht ht hP⟩, hS.F ht⟩) hfree hd hlocks)))
theorem ddX11_within : yX11_within.cls ≠ "java/lang/invoke/MethodHandle" ∧ yX11_within.cls ≠ "java/lang/invoke/VarHandle" ∧ (parseMethodDescriptor yX11_within.desc).map (fun d => d.parameters.length) = some 3 := by decide +kernel

def f_X11_at (I : zI) (J : zJ) (q : Nat) (n : Nat) (p2 : Int32) : Option Int32 := (if p2 < 0 then some 0 else (if (nI n) ≤ p2 then some 0 else zg (¬ (p2 < 0 ∨ n ≤ p2.toNatClampNeg)) (some (I q p2.toNatClampNeg))))
set_option maxHeartbeats 4000000 in
set_option maxRecDepth 100000 in
theorem w_X11_at {p : Program} {l : Launch} {e : Env} {R : Room} {s : State} {m : MethodId} {args : Array Value} {below : List Frame} {meth : Method} {c : Code} {Q : State → Prop} (hfr : 0 ≤ R.frames) (hlo : 0 ≤ R.locals) {D : va_G} {a0 : Nat → Nat} {A : Nat → Prop} {cy : Nat → ClassId} {ad : Nat → Nat} {N : Nat} {K : zK} (hD : zD A N ad) {I : zI} {J : zJ} (q n : Nat) (hq : zIA N K (cy 1) q n) (p2 : Int32) {rx : Int32} (hf : f_X11_at I J q n p2 = some rx) {ls : Array Slot} (S0 : zSt p m c cX11_at 2 s args wsX11_at RX11 D a0 A cy (zw N K ad I J) [.ref (ad q), .int p2] ls) (hret : ∀ (tx : Int32), some tx = some rx → ∀ (H : Heap) (locs : List Loc) (ls : Array Slot) (pc : Nat), va_P D vwCl (zw N K ad I J) H → va_S A s.heap H locs → decode cX11_at pc = .ok (.ireturn, 1) → W p l e R s m args below meth c H locs 0 0 Q (F0 m pc ls [.int tx])) : W p l e R s m args below meth c s.heap [] 0 0 Q (F0 m 0 ls []) := by
  obtain ⟨S, E, hP, hl⟩ := S0
  obtain ⟨hx, hb, hml, hown, hts⟩ := id S
  have hS : va_S A s.heap s.heap [] := va_S.rf
  replace hl : lv_has ls 2 [(0, .ref (ad q)), (1, .int p2)] := hl
  unfold f_X11_at at hf
  refine lv_iload_n hx hb dX11_at_0 rfl (lv_at hl 1 rfl) ?_
  refine lv_if_lt (tgt := 16) hx hb dX11_at_1 (by decide) (fun k1 => ?_) (fun k1 => ?_)
  · replace hf := zt k1 hf
    refine lv_iconst (v := 0) hx hb dX11_at_16 (by decide) ?_
    exact hret _ hf _ _ _ _ hP hS dX11_at_17
  · replace hf := zf k1 hf
    refine lv_iload_n hx hb dX11_at_4 rfl (lv_at hl 1 rfl) ?_
    refine lv_aload_n hx hb dX11_at_5 rfl (lv_at hl 0 rfl) ?_
    refine va_alen (v := (nI n)) (ty := .int) hx hb E.1 hP q 1 (zIA.get hq) rfl rfl dX11_at_6 ?_
    refine lv_icmp_ge (tgt := 16) hx hb dX11_at_7 (by decide) (fun k2 => ?_) (fun k2 => ?_)
    · replace hf := zt k2 hf
      refine lv_iconst (v := 0) hx hb dX11_at_16 (by decide) ?_
      exact hret _ hf _ _ _ _ hP hS dX11_at_17
    · replace hf := zf k2 hf
      refine lv_aload_n hx hb dX11_at_10 rfl (lv_at hl 0 rfl) ?_
      refine lv_iload_n hx hb dX11_at_11 rfl (lv_at hl 1 rfl) ?_
      obtain ⟨g3, hf⟩ := zg_i hf
      refine va_iald hx hb E.1 hP q 1 (zIA.get hq) rfl g3 dX11_at_12 ?_
      refine lv_goto (tgt := 17) hx hb dX11_at_13 (by decide) ?_
      exact hret _ hf _ _ _ _ hP hS dX11_at_17
theorem c_X11_at (l : Launch) {D : va_G} {a0 : Nat → Nat} {A : Nat → Prop} {cy : Nat → ClassId} {ad : Nat → Nat} {N : Nat} {K : zK} (hD : zD A N ad) {I : zI} {J : zJ} (q n : Nat) (hq : zIA N K (cy 1) q n) (p2 : Int32) {rx : Int32} (hf : f_X11_at I J q n p2 = some rx) : Met l yX11_at wsX11_at { frames := 0, cells := 0, slots := 0, locals := 0 } (zPc D a0 A cy [.ref (ad q), .int p2] (zw N K ad I J)) (zQi D A rx (zw N K ad I J)) 0 0 A :=
  zmet RX11 (by decide) rfl rfl (Nat.le_of_ble_eq_true rfl) (fun p e R s m below meth c Q hfr hlo ls S0 hQ => w_X11_at hfr hlo hD q n hq p2 hf S0 (fun tx hq H locs ls pc hP hS hd => by cases hq; exact hQ H locs _ hS (fun hx hb hr hlocks hfree => W.iret hx hb hr (fun t ht hW => ⟨⟨_, (), rfl, rfl, zht ht hP⟩, hS.F ht⟩) hfree hd hlocks)))
theorem ddX11_at : yX11_at.cls ≠ "java/lang/invoke/MethodHandle" ∧ yX11_at.cls ≠ "java/lang/invoke/VarHandle" ∧ (parseMethodDescriptor yX11_at.desc).map (fun d => d.parameters.length) = some 2 := by decide +kernel

def f_X11_depthOf (I : zI) (J : zJ) (p1 : Int32) : Option Int32 := some ((p1 - p1 / 8 * 8) + 1)
set_option maxHeartbeats 4000000 in
set_option maxRecDepth 100000 in
theorem w_X11_depthOf {p : Program} {l : Launch} {e : Env} {R : Room} {s : State} {m : MethodId} {args : Array Value} {below : List Frame} {meth : Method} {c : Code} {Q : State → Prop} (hfr : 0 ≤ R.frames) (hlo : 0 ≤ R.locals) {D : va_G} {a0 : Nat → Nat} {A : Nat → Prop} {cy : Nat → ClassId} {ad : Nat → Nat} {N : Nat} {K : zK} (hD : zD A N ad) {I : zI} {J : zJ} (p1 : Int32) {rx : Int32} (hf : f_X11_depthOf I J p1 = some rx) {ls : Array Slot} (S0 : zSt p m c cX11_depthOf 1 s args wsX11_depthOf RX11 D a0 A cy (zw N K ad I J) [.int p1] ls) (hret : ∀ (tx : Int32), some tx = some rx → ∀ (H : Heap) (locs : List Loc) (ls : Array Slot) (pc : Nat), va_P D vwCl (zw N K ad I J) H → va_S A s.heap H locs → decode cX11_depthOf pc = .ok (.ireturn, 1) → W p l e R s m args below meth c H locs 0 0 Q (F0 m pc ls [.int tx])) : W p l e R s m args below meth c s.heap [] 0 0 Q (F0 m 0 ls []) := by
  obtain ⟨S, E, hP, hl⟩ := S0
  obtain ⟨hx, hb, hml, hown, hts⟩ := id S
  have hS : va_S A s.heap s.heap [] := va_S.rf
  replace hl : lv_has ls 1 [(0, .int p1)] := hl
  unfold f_X11_depthOf at hf
  refine lv_iload_n hx hb dX11_depthOf_0 rfl (lv_at hl 0 rfl) ?_
  refine lv_bipush (v := 8) hx hb dX11_depthOf_1 (by decide) ?_
  refine lv_irem hx hb dX11_depthOf_3 (by decide) ?_
  refine lv_iconst (v := 1) hx hb dX11_depthOf_4 (by decide) ?_
  refine lv_iadd hx hb dX11_depthOf_5 ?_
  exact hret _ hf _ _ _ _ hP hS dX11_depthOf_6
theorem c_X11_depthOf (l : Launch) {D : va_G} {a0 : Nat → Nat} {A : Nat → Prop} {cy : Nat → ClassId} {ad : Nat → Nat} {N : Nat} {K : zK} (hD : zD A N ad) {I : zI} {J : zJ} (p1 : Int32) {rx : Int32} (hf : f_X11_depthOf I J p1 = some rx) : Met l yX11_depthOf wsX11_depthOf { frames := 0, cells := 0, slots := 0, locals := 0 } (zPc D a0 A cy [.int p1] (zw N K ad I J)) (zQi D A rx (zw N K ad I J)) 0 0 A :=
  zmet RX11 (by decide) rfl rfl (Nat.le_of_ble_eq_true rfl) (fun p e R s m below meth c Q hfr hlo ls S0 hQ => w_X11_depthOf hfr hlo hD p1 hf S0 (fun tx hq H locs ls pc hP hS hd => by cases hq; exact hQ H locs _ hS (fun hx hb hr hlocks hfree => W.iret hx hb hr (fun t ht hW => ⟨⟨_, (), rfl, rfl, zht ht hP⟩, hS.F ht⟩) hfree hd hlocks)))
theorem ddX11_depthOf : yX11_depthOf.cls ≠ "java/lang/invoke/MethodHandle" ∧ yX11_depthOf.cls ≠ "java/lang/invoke/VarHandle" ∧ (parseMethodDescriptor yX11_depthOf.desc).map (fun d => d.parameters.length) = some 1 := by decide +kernel

def f_X11_speedOf (I : zI) (J : zJ) (p1 : Int32) : Option Int32 := some (p1 / 8)
set_option maxHeartbeats 4000000 in
set_option maxRecDepth 100000 in
theorem w_X11_speedOf {p : Program} {l : Launch} {e : Env} {R : Room} {s : State} {m : MethodId} {args : Array Value} {below : List Frame} {meth : Method} {c : Code} {Q : State → Prop} (hfr : 0 ≤ R.frames) (hlo : 0 ≤ R.locals) {D : va_G} {a0 : Nat → Nat} {A : Nat → Prop} {cy : Nat → ClassId} {ad : Nat → Nat} {N : Nat} {K : zK} (hD : zD A N ad) {I : zI} {J : zJ} (p1 : Int32) {rx : Int32} (hf : f_X11_speedOf I J p1 = some rx) {ls : Array Slot} (S0 : zSt p m c cX11_speedOf 1 s args wsX11_speedOf RX11 D a0 A cy (zw N K ad I J) [.int p1] ls) (hret : ∀ (tx : Int32), some tx = some rx → ∀ (H : Heap) (locs : List Loc) (ls : Array Slot) (pc : Nat), va_P D vwCl (zw N K ad I J) H → va_S A s.heap H locs → decode cX11_speedOf pc = .ok (.ireturn, 1) → W p l e R s m args below meth c H locs 0 0 Q (F0 m pc ls [.int tx])) : W p l e R s m args below meth c s.heap [] 0 0 Q (F0 m 0 ls []) := by
  obtain ⟨S, E, hP, hl⟩ := S0
  obtain ⟨hx, hb, hml, hown, hts⟩ := id S
  have hS : va_S A s.heap s.heap [] := va_S.rf
  replace hl : lv_has ls 1 [(0, .int p1)] := hl
  unfold f_X11_speedOf at hf
  refine lv_iload_n hx hb dX11_speedOf_0 rfl (lv_at hl 0 rfl) ?_
  refine lv_bipush (v := 8) hx hb dX11_speedOf_1 (by decide) ?_
  refine lv_idiv hx hb dX11_speedOf_3 (by decide) ?_
  exact hret _ hf _ _ _ _ hP hS dX11_speedOf_4
theorem c_X11_speedOf (l : Launch) {D : va_G} {a0 : Nat → Nat} {A : Nat → Prop} {cy : Nat → ClassId} {ad : Nat → Nat} {N : Nat} {K : zK} (hD : zD A N ad) {I : zI} {J : zJ} (p1 : Int32) {rx : Int32} (hf : f_X11_speedOf I J p1 = some rx) : Met l yX11_speedOf wsX11_speedOf { frames := 0, cells := 0, slots := 0, locals := 0 } (zPc D a0 A cy [.int p1] (zw N K ad I J)) (zQi D A rx (zw N K ad I J)) 0 0 A :=
  zmet RX11 (by decide) rfl rfl (Nat.le_of_ble_eq_true rfl) (fun p e R s m below meth c Q hfr hlo ls S0 hQ => w_X11_speedOf hfr hlo hD p1 hf S0 (fun tx hq H locs ls pc hP hS hd => by cases hq; exact hQ H locs _ hS (fun hx hb hr hlocks hfree => W.iret hx hb hr (fun t ht hW => ⟨⟨_, (), rfl, rfl, zht ht hP⟩, hS.F ht⟩) hfree hd hlocks)))
theorem ddX11_speedOf : yX11_speedOf.cls ≠ "java/lang/invoke/MethodHandle" ∧ yX11_speedOf.cls ≠ "java/lang/invoke/VarHandle" ∧ (parseMethodDescriptor yX11_speedOf.desc).map (fun d => d.parameters.length) = some 1 := by decide +kernel

def f_X8_append_L21 (p2 : Int64) (x4 : Int32) (I5 : zI) : Option ((Int32 × zI) ⊕ zI) := (if x4 < 0 then some (.inr I5) else zg (¬ ((I5 1 2) < 0 ∨ 500 ≤ (I5 1 2).toNatClampNeg)) (zn (va_up I5 2 (upd (I5 2) (I5 1 2).toNatClampNeg (vp_nar .byte ((((p2.toUInt64 >>> ((8 * x4).toInt64.toUInt64 &&& Int64.toUInt64 63)).toInt64).toInt32).toInt8.toInt32)))) (fun I7 => zn (va_up I7 1 (va_up (I7 1) 2 ((I7 1 2) + 1))) (fun I9 => zn (x4 + (-1)) (fun y10 => some (.inl (y10, I9)))))))
def f_X8_append (I : zI) (J : zJ) (p1 : Int32) (p2 : Int64) : Option (Int32 × zI) := (if ((I 1 2) + p1) ≤ 500 then zn ((p1 - 1)) (fun y2 => zb1 (zl (fun v : (Int32 × zI) => f_X8_append_L21 p2 v.1 v.2) zF (y2, I)) (fun I11 => some (1, I11))) else some (0, I))
theorem hinX8_append_X8 : ∀ w ∈ u_ws RX8 TX8 4, w ∈ wsX8_append := by decide +kernel
set_option maxHeartbeats 4000000 in
set_option maxRecDepth 100000 in
theorem w_X8_append {p : Program} {l : Launch} {e : Env} {R : Room} {s : State} {m : MethodId} {args : Array Value} {below : List Frame} {meth : Method} {c : Code} {Q : State → Prop} (hfr : 0 ≤ R.frames) (hlo : 0 ≤ R.locals) {D : va_G} {a0 : Nat → Nat} {A : Nat → Prop} {cy : Nat → ClassId} {ad : Nat → Nat} (hD : zD A 74 ad) {I : zI} {J : zJ} (p1 : Int32) (p2 : Int64) {rx : Int32} {rI : zI} (hf : f_X8_append I J p1 p2 = some (rx, rI)) {ls : Array Slot} (S0 : zSt p m c cX8_append 5 s args wsX8_append RX8 D a0 A cy (zw 74 (kC cy ad a0) ad I J) [.ref (ad 1), .int p1, .long p2] ls) (hret : ∀ (tx : Int32) (tI : zI), some (tx, tI) = some (rx, rI) → (tx = 0 ∨ tx = 1) → ∀ (H : Heap) (locs : List Loc) (ls : Array Slot) (pc : Nat), va_P D vwCl (zw 74 (kC cy ad a0) ad tI J) H → va_S A s.heap H locs → decode cX8_append pc = .ok (.ireturn, 1) → W p l e R s m args below meth c H locs 0 0 Q (F0 m pc ls [.int tx])) : W p l e R s m args below meth c s.heap [] 0 0 Q (F0 m 0 ls []) := by
  obtain ⟨S, E, hP, hl⟩ := S0
  obtain ⟨hx, hb, hml, hown, hts⟩ := id S
  have hS : va_S A s.heap s.heap [] := va_S.rf
  replace hl : lv_has ls 5 [(0, .ref (ad 1)), (1, .int p1), (2, .long p2)] := hl
  unfold f_X8_append at hf
  refine lv_aload_n hx hb dX8_append_0 rfl (lv_at hl 0 rfl) ?_
  refine va_get (D := D) (ci := 7) (v := .int (I 1 2)) (C := RX8) (T := TX8) (N := 4) hx hb hts hinX8_append_X8 hown E.1 hP 1 (zO.get (oX8_at)) rfl 2 (by decide) (hts (.fieldLink RX8 19 "EdgeAndSpeed$Text" "length" "I") (by decide +kernel)) (fun _ h9 => h9) rfl dX8_append_1 ?_
  refine lv_iload_n hx hb dX8_append_4 rfl (lv_at hl 1 rfl) ?_
  refine lv_iadd hx hb dX8_append_5 ?_
  refine lv_aload_n hx hb dX8_append_6 rfl (lv_at hl 0 rfl) ?_
  refine va_get (D := D) (ci := 7) (v := .ref (ad 2)) (C := RX8) (T := TX8) (N := 4) hx hb hts hinX8_append_X8 hown E.1 hP 1 (zO.get (oX8_at)) rfl 0 (by decide) (hts (.fieldLink RX8 9 "EdgeAndSpeed$Text" "bytes" "[B") (by decide +kernel)) (fun _ h9 => h9) rfl dX8_append_7 ?_
  refine va_alen (v := 500) (ty := .byte) hx hb E.1 hP 2 0 (zIA.get (aX8_0)) rfl rfl dX8_append_10 ?_
  refine lv_icmp_le (tgt := 16) hx hb dX8_append_11 (by decide) (fun k1 => ?_) (fun k1 => ?_)
  · replace hf := zt k1 hf
    refine lv_iload_n hx hb dX8_append_16 rfl (lv_at hl 1 rfl) ?_
    refine lv_iconst (v := 1) hx hb dX8_append_17 (by decide) ?_
    refine lv_isub hx hb dX8_append_18 ?_
    refine lv_topi (fun y2 ey2 => ?_)
    replace hf := zn_s ey2 hf
    refine lv_istore (lv' := [(4, .int y2), (0, .ref (ad 1)), (1, .int p1), (2, .long p2)]) hx hb dX8_append_19 hl (by decide) rfl (fun ls hl => ?_)
    obtain ⟨zl3, hf, hzl3⟩ := zb1_i hf
    have hjl3 : ∀ (I11 : zI), I11 = zl3 → ∀ (H : Heap) (locs : List Loc) (ls : Array Slot), va_P D vwCl (zw 74 (kC cy ad a0) ad I11 J) H → va_S A s.heap H locs → lv_has ls 5 [] → W p l e R s m args below meth c H locs 0 0 Q (F0 m 60 ls []) := by
      intro I11 ez H locs ls hP hS hl
      have hf := hzl3 I11 ez
      refine lv_iconst (v := 1) hx hb dX8_append_60 (by decide) ?_
      exact hret _ _ hf (Or.inr rfl) _ _ _ _ hP hS dX8_append_61
    refine zl_i (V := (Int32 × zI)) (P := fun v => ∀ (H : Heap) (locs : List Loc) (ls : Array Slot), va_P D vwCl (zw 74 (kC cy ad a0) ad v.2 J) H → va_S A s.heap H locs → lv_has ls 5 [(0, .ref (ad 1)), (2, .long p2), (4, .int (v.1))] → W p l e R s m args below meth c H locs 0 0 Q (F0 m 21 ls [])) ?_ _ _ hf _ _ _ hP hS (lv_sub hl [1, 3, 0] rfl)
    intro v z hf hcl3 hdl3
    obtain ⟨x4, I5⟩ := v
    intro H locs ls hP hS hl
    replace hf : f_X8_append_L21 p2 x4 I5 = some z := hf
    unfold f_X8_append_L21 at hf
    replace hP : va_P D vwCl (zw 74 (kC cy ad a0) ad I5 J) H := hP
    replace hl : lv_has ls 5 [(0, .ref (ad 1)), (2, .long p2), (4, .int x4)] := hl
    refine lv_iload hx hb dX8_append_21 (lv_at hl 2 rfl) ?_
    refine lv_if_lt (tgt := 60) hx hb dX8_append_23 (by decide) (fun k6 => ?_) (fun k6 => ?_)
    · replace hf := zt k6 hf
      exact hjl3 _ (hdl3 _ (Option.some.inj hf).symm) _ _ _ hP hS (lv_sub hl [] rfl)
    · replace hf := zf k6 hf
      refine lv_aload_n hx hb dX8_append_26 rfl (lv_at hl 0 rfl) ?_
      refine va_get (D := D) (ci := 7) (v := .ref (ad 2)) (C := RX8) (T := TX8) (N := 4) hx hb hts hinX8_append_X8 hown E.1 hP 1 (zO.get (oX8_at)) rfl 0 (by decide) (hts (.fieldLink RX8 9 "EdgeAndSpeed$Text" "bytes" "[B") (by decide +kernel)) (fun _ h9 => h9) rfl dX8_append_27 ?_
      refine lv_aload_n hx hb dX8_append_30 rfl (lv_at hl 0 rfl) ?_
      refine va_get (D := D) (ci := 7) (v := .int (I5 1 2)) (C := RX8) (T := TX8) (N := 4) hx hb hts hinX8_append_X8 hown E.1 hP 1 (zO.get (oX8_at)) rfl 2 (by decide) (hts (.fieldLink RX8 19 "EdgeAndSpeed$Text" "length" "I") (by decide +kernel)) (fun _ h9 => h9) rfl dX8_append_31 ?_
      refine lv_lload_n hx hb dX8_append_34 rfl (lv_at hl 1 rfl) ?_
      refine lv_bipush (v := 8) hx hb dX8_append_35 (by decide) ?_
      refine lv_iload hx hb dX8_append_37 (lv_at hl 2 rfl) ?_
      refine lv_imul hx hb dX8_append_39 ?_
      refine lv_lushr hx hb dX8_append_40 rfl ?_
      refine lv_l2i hx hb dX8_append_41 rfl ?_
      refine lv_i2b hx hb dX8_append_42 rfl ?_
      obtain ⟨g8, hf⟩ := zg_i hf
      obtain ⟨I7, eI7⟩ := zex (va_up I5 2 (upd (I5 2) (I5 1 2).toNatClampNeg (vp_nar .byte ((((p2.toUInt64 >>> ((8 * x4).toInt64.toUInt64 &&& Int64.toUInt64 63)).toInt64).toInt32).toInt8.toInt32))))
      replace hf := zn_s eI7 hf
      refine zast_b hx hb E.1 hP hD.D hS (aX8_0) g8 dX8_append_43 eI7 (fun H locs hP hS => ?_)
      refine lv_aload_n hx hb dX8_append_44 rfl (lv_at hl 0 rfl) ?_
      refine lv_dup hx hb dX8_append_45 rfl ?_
      refine va_get (D := D) (ci := 7) (v := .int (I7 1 2)) (C := RX8) (T := TX8) (N := 4) hx hb hts hinX8_append_X8 hown E.1 hP 1 (zO.get (oX8_at)) rfl 2 (by decide) (hts (.fieldLink RX8 19 "EdgeAndSpeed$Text" "length" "I") (by decide +kernel)) (fun _ h9 => h9) rfl dX8_append_46 ?_
      refine lv_iconst (v := 1) hx hb dX8_append_49 (by decide) ?_
      refine lv_iadd hx hb dX8_append_50 ?_
      obtain ⟨I9, eI9⟩ := zex (va_up I7 1 (va_up (I7 1) 2 ((I7 1 2) + 1)))
      replace hf := zn_s eI9 hf
      refine zput (D := D) (ci := 7) (v := .int ((I7 1 2) + 1)) (ty := .int) (C := RX8) (T := TX8) (N := 4) hx hb hts hinX8_append_X8 tyX8 tyX8_ok nmX8 hown E.1 hP hD.D hS 1 (zO.get (oX8_at)) rfl 2 (by decide) (hts (.fieldLink RX8 19 "EdgeAndSpeed$Text" "length" "I") (by decide +kernel)) (fun _ h9 => h9) rfl (tyX8_ok 2 (by decide)) rfl rfl (Nat.le_of_ble_eq_true rfl) dX8_append_51 (zO.setI (oX8_at) rfl eI9) (fun H locs hP hS => ?_)
      obtain ⟨y10, ey10⟩ := zex (x4 + (-1))
      replace hf := zn_s ey10 hf
      refine lv_iinc (v := y10) (lv' := [(4, .int y10), (0, .ref (ad 1)), (2, .long p2)]) hx hb dX8_append_54 hl (k := 2) rfl (by rw [ey10]; rfl) (by decide) rfl (fun ls hl => ?_)
      refine lv_goto (tgt := 21) hx hb dX8_append_57 (by decide) ?_
      exact hcl3 _ (Option.some.inj hf).symm _ _ _ hP hS (lv_sub hl [1, 2, 0] rfl)
  · replace hf := zf k1 hf
    refine lv_iconst (v := 0) hx hb dX8_append_14 (by decide) ?_
    exact hret _ _ hf (Or.inl rfl) _ _ _ _ hP hS dX8_append_15
theorem c_X8_append (l : Launch) {D : va_G} {a0 : Nat → Nat} {A : Nat → Prop} {cy : Nat → ClassId} {ad : Nat → Nat} (hD : zD A 74 ad) {I : zI} {J : zJ} (p1 : Int32) (p2 : Int64) {rx : Int32} {rI : zI} (hf : f_X8_append I J p1 p2 = some (rx, rI)) : Met l yX8_append wsX8_append { frames := 0, cells := 0, slots := 0, locals := 0 } (zPc D a0 A cy [.ref (ad 1), .int p1, .long p2] (zw 74 (kC cy ad a0) ad I J)) (zQi D A rx (zw 74 (kC cy ad a0) ad rI J)) 0 0 A :=
  zmet RX8 (by decide) rfl rfl (Nat.le_of_ble_eq_true rfl) (fun p e R s m below meth c Q hfr hlo ls S0 hQ => w_X8_append hfr hlo hD p1 p2 hf S0 (fun tx tI hq n01 H locs ls pc hP hS hd => by cases hq; exact hQ H locs _ hS (fun hx hb hr hlocks hfree => W.zret hx hb hr (z01 n01) (fun t ht hW => ⟨⟨_, (), rfl, rfl, zht ht hP⟩, hS.F ht⟩) hfree hd hlocks)))
theorem ddX8_append : yX8_append.cls = RX8 ∧ yX8_append.cls ≠ "java/lang/invoke/MethodHandle" ∧ yX8_append.cls ≠ "java/lang/invoke/VarHandle" ∧ (parseMethodDescriptor yX8_append.desc).map (fun d => d.parameters.length) = some 2 := by decide +kernel

def f_X0_takeSpeed (I : zI) (J : zJ) (o : Nat) (p1 : Int32) (p2 : Int32) : Option (Int32 × zI) := zb1 (f_X11_within I J p1 1 99) (fun x1 => (if x1 = 0 then some (0, I) else zb1 (f_X11_within I J p2 0 999) (fun x4 => (if x4 = 0 then some (0, I) else zb1 (f_X11_within I J (I o 9) 0 5) (fun x7 => (if x7 = 0 then some (0, I) else zg (¬ ((I o 9) < 0 ∨ 6 ≤ (I o 9).toNatClampNeg)) (zn (va_up I (o + 1) (upd (I (o + 1)) (I o 9).toNatClampNeg p1)) (fun I10 => zg (¬ ((I10 o 9) < 0 ∨ 6 ≤ (I10 o 9).toNatClampNeg)) (zn (va_up I10 (o + 2) (upd (I10 (o + 2)) (I10 o 9).toNatClampNeg p2)) (fun I12 => zn (va_up I12 o (va_up (I12 o) 9 ((I12 o 9) + 1))) (fun I14 => some (1, I14))))))))))))
theorem hinX0_takeSpeed_X0 : ∀ w ∈ u_ws RX0 TX0 17, w ∈ wsX0_takeSpeed := by decide +kernel
set_option maxHeartbeats 4000000 in
set_option maxRecDepth 100000 in
theorem w_X0_takeSpeed {p : Program} {l : Launch} {e : Env} {R : Room} {s : State} {m : MethodId} {args : Array Value} {below : List Frame} {meth : Method} {c : Code} {Q : State → Prop} (hfr : 1 ≤ R.frames) (hlo : 22 ≤ R.locals) {D : va_G} {a0 : Nat → Nat} {A : Nat → Prop} {cy : Nat → ClassId} {ad : Nat → Nat} {N : Nat} {K : zK} (hD : zD A N ad) {I : zI} {J : zJ} (o : Nat) (hB : zBat N K cy ad o) (p1 : Int32) (p2 : Int32) {rx : Int32} {rI : zI} (hf : f_X0_takeSpeed I J o p1 p2 = some (rx, rI)) {ls : Array Slot} (S0 : zSt p m c cX0_takeSpeed 3 s args wsX0_takeSpeed RX0 D a0 A cy (zw N K ad I J) [.ref (ad o), .int p1, .int p2] ls) (hret : ∀ (tx : Int32) (tI : zI), some (tx, tI) = some (rx, rI) → (tx = 0 ∨ tx = 1) → ∀ (H : Heap) (locs : List Loc) (ls : Array Slot) (pc : Nat), va_P D vwCl (zw N K ad tI J) H → va_S A s.heap H locs → decode cX0_takeSpeed pc = .ok (.ireturn, 1) → W p l e R s m args below meth c H locs 0 0 Q (F0 m pc ls [.int tx])) : W p l e R s m args below meth c s.heap [] 0 0 Q (F0 m 0 ls []) := by
  obtain ⟨S, E, hP, hl⟩ := S0
  obtain ⟨hx, hb, hml, hown, hts⟩ := id S
  have hS : va_S A s.heap s.heap [] := va_S.rf
  replace hl : lv_has ls 3 [(0, .ref (ad o)), (1, .int p1), (2, .int p2)] := hl
  unfold f_X0_takeSpeed at hf
  refine lv_iload_n hx hb dX0_takeSpeed_0 rfl (lv_at hl 1 rfl) ?_
  refine lv_iconst (v := 1) hx hb dX0_takeSpeed_1 (by decide) ?_
  refine lv_bipush (v := 99) hx hb dX0_takeSpeed_2 (by decide) ?_
  obtain ⟨x1, h2, hf⟩ := zb1_e hf
  refine zgo_i (zrunSN (As := [.int p1, .int 1, .int 99]) (rest := []) S (c_X11_within l hD p1 1 99 h2) ⟨va_cnB (host := "EdgeAndSpeed") 3 hts gX0_takeSpeed_X11_within_n105 rfl rfl rfl (E.2.2.1 _ (List.mem_of_getElem? (i := 0) rfl)) (hts (.initialized RX11) (by decide +kernel)) ddX11_within ⟨Nat.le_trans (Nat.le_of_ble_eq_true rfl) hfr, Nat.le_trans (Nat.le_of_ble_eq_true rfl) hlo⟩, hts (.static yX11_within) (by decide +kernel), trivial⟩ E hP hS hl.1 rfl rfl (Nat.le_of_ble_eq_true rfl) dX0_takeSpeed_4) hS (fun H locs hP hS => ?_)
  refine lv_if_eq (tgt := 33) hx hb dX0_takeSpeed_7 (by decide) (fun k3 => ?_) (fun k3 => ?_)
  · replace hf := zt k3 hf
    refine lv_iconst (v := 0) hx hb dX0_takeSpeed_33 (by decide) ?_
    exact hret _ _ hf (Or.inl rfl) _ _ _ _ hP hS dX0_takeSpeed_34
  · replace hf := zf k3 hf
    refine lv_iload_n hx hb dX0_takeSpeed_10 rfl (lv_at hl 2 rfl) ?_
    refine lv_iconst (v := 0) hx hb dX0_takeSpeed_11 (by decide) ?_
    refine lv_sipush (v := 999) hx hb dX0_takeSpeed_12 (by decide) ?_
    obtain ⟨x4, h5, hf⟩ := zb1_e hf
    refine zgo_i (zrunSN (As := [.int p2, .int 0, .int 999]) (rest := []) S (c_X11_within l hD p2 0 999 h5) ⟨va_cnB (host := "EdgeAndSpeed") 3 hts gX0_takeSpeed_X11_within_n105 rfl rfl rfl (E.2.2.1 _ (List.mem_of_getElem? (i := 0) rfl)) (hts (.initialized RX11) (by decide +kernel)) ddX11_within ⟨Nat.le_trans (Nat.le_of_ble_eq_true rfl) hfr, Nat.le_trans (Nat.le_of_ble_eq_true rfl) hlo⟩, hts (.static yX11_within) (by decide +kernel), trivial⟩ E hP hS hl.1 rfl rfl (Nat.le_of_ble_eq_true rfl) dX0_takeSpeed_15) hS (fun H locs hP hS => ?_)
    refine lv_if_eq (tgt := 33) hx hb dX0_takeSpeed_18 (by decide) (fun k6 => ?_) (fun k6 => ?_)
    · replace hf := zt k6 hf
      refine lv_iconst (v := 0) hx hb dX0_takeSpeed_33 (by decide) ?_
      exact hret _ _ hf (Or.inl rfl) _ _ _ _ hP hS dX0_takeSpeed_34
    · replace hf := zf k6 hf
      refine lv_aload_n hx hb dX0_takeSpeed_21 rfl (lv_at hl 0 rfl) ?_
      refine va_get (D := D) (ci := 0) (v := .int (I o 9)) (C := RX0) (T := TX0) (N := 17) hx hb hts hinX0_takeSpeed_X0 hown E.1 hP o (zO.get (zBat_o hB)) rfl 9 (by decide) (hts (.fieldLink RX0 54 "EdgeAndSpeed$Bench" "speeds" "I") (by decide +kernel)) (fun _ h9 => h9) rfl dX0_takeSpeed_22 ?_
      refine lv_iconst (v := 0) hx hb dX0_takeSpeed_25 (by decide) ?_
      refine lv_iconst (v := 5) hx hb dX0_takeSpeed_26 (by decide) ?_
      obtain ⟨x7, h8, hf⟩ := zb1_e hf
      refine zgo_i (zrunSN (As := [.int (I o 9), .int 0, .int 5]) (rest := []) S (c_X11_within l hD (I o 9) 0 5 h8) ⟨va_cnB (host := "EdgeAndSpeed") 3 hts gX0_takeSpeed_X11_within_n105 rfl rfl rfl (E.2.2.1 _ (List.mem_of_getElem? (i := 0) rfl)) (hts (.initialized RX11) (by decide +kernel)) ddX11_within ⟨Nat.le_trans (Nat.le_of_ble_eq_true rfl) hfr, Nat.le_trans (Nat.le_of_ble_eq_true rfl) hlo⟩, hts (.static yX11_within) (by decide +kernel), trivial⟩ E hP hS hl.1 rfl rfl (Nat.le_of_ble_eq_true rfl) dX0_takeSpeed_27) hS (fun H locs hP hS => ?_)
      refine lv_if_ne (tgt := 35) hx hb dX0_takeSpeed_30 (by decide) (fun k9 => ?_) (fun k9 => ?_)
      · replace hf := zf k9 hf
        refine lv_aload_n hx hb dX0_takeSpeed_35 rfl (lv_at hl 0 rfl) ?_
        refine va_get (D := D) (ci := 0) (v := .ref (ad (o + 1))) (C := RX0) (T := TX0) (N := 17) hx hb hts hinX0_takeSpeed_X0 hown E.1 hP o (zO.get (zBat_o hB)) rfl 0 (by decide) (hts (.fieldLink RX0 9 "EdgeAndSpeed$Bench" "inches" "[I") (by decide +kernel)) (fun _ h9 => h9) rfl dX0_takeSpeed_36 ?_
        refine lv_aload_n hx hb dX0_takeSpeed_39 rfl (lv_at hl 0 rfl) ?_
        refine va_get (D := D) (ci := 0) (v := .int (I o 9)) (C := RX0) (T := TX0) (N := 17) hx hb hts hinX0_takeSpeed_X0 hown E.1 hP o (zO.get (zBat_o hB)) rfl 9 (by decide) (hts (.fieldLink RX0 54 "EdgeAndSpeed$Bench" "speeds" "I") (by decide +kernel)) (fun _ h9 => h9) rfl dX0_takeSpeed_40 ?_
        refine lv_iload_n hx hb dX0_takeSpeed_43 rfl (lv_at hl 1 rfl) ?_
        obtain ⟨g11, hf⟩ := zg_i hf
        obtain ⟨I10, eI10⟩ := zex (va_up I (o + 1) (upd (I (o + 1)) (I o 9).toNatClampNeg p1))
        replace hf := zn_s eI10 hf
        refine zast_i hx hb E.1 hP hD.D hS (zBat_0 hB) g11 dX0_takeSpeed_44 eI10 (fun H locs hP hS => ?_)
        refine lv_aload_n hx hb dX0_takeSpeed_45 rfl (lv_at hl 0 rfl) ?_
        refine va_get (D := D) (ci := 0) (v := .ref (ad (o + 2))) (C := RX0) (T := TX0) (N := 17) hx hb hts hinX0_takeSpeed_X0 hown E.1 hP o (zO.get (zBat_o hB)) rfl 1 (by decide) (hts (.fieldLink RX0 15 "EdgeAndSpeed$Bench" "wearing" "[I") (by decide +kernel)) (fun _ h9 => h9) rfl dX0_takeSpeed_46 ?_
        refine lv_aload_n hx hb dX0_takeSpeed_49 rfl (lv_at hl 0 rfl) ?_
        refine va_get (D := D) (ci := 0) (v := .int (I10 o 9)) (C := RX0) (T := TX0) (N := 17) hx hb hts hinX0_takeSpeed_X0 hown E.1 hP o (zO.get (zBat_o hB)) rfl 9 (by decide) (hts (.fieldLink RX0 54 "EdgeAndSpeed$Bench" "speeds" "I") (by decide +kernel)) (fun _ h9 => h9) rfl dX0_takeSpeed_50 ?_
        refine lv_iload_n hx hb dX0_takeSpeed_53 rfl (lv_at hl 2 rfl) ?_
        obtain ⟨g13, hf⟩ := zg_i hf
        obtain ⟨I12, eI12⟩ := zex (va_up I10 (o + 2) (upd (I10 (o + 2)) (I10 o 9).toNatClampNeg p2))
        replace hf := zn_s eI12 hf
        refine zast_i hx hb E.1 hP hD.D hS (zBat_1 hB) g13 dX0_takeSpeed_54 eI12 (fun H locs hP hS => ?_)
        refine lv_aload_n hx hb dX0_takeSpeed_55 rfl (lv_at hl 0 rfl) ?_
        refine lv_dup hx hb dX0_takeSpeed_56 rfl ?_
        refine va_get (D := D) (ci := 0) (v := .int (I12 o 9)) (C := RX0) (T := TX0) (N := 17) hx hb hts hinX0_takeSpeed_X0 hown E.1 hP o (zO.get (zBat_o hB)) rfl 9 (by decide) (hts (.fieldLink RX0 54 "EdgeAndSpeed$Bench" "speeds" "I") (by decide +kernel)) (fun _ h9 => h9) rfl dX0_takeSpeed_57 ?_
        refine lv_iconst (v := 1) hx hb dX0_takeSpeed_60 (by decide) ?_
        refine lv_iadd hx hb dX0_takeSpeed_61 ?_
        obtain ⟨I14, eI14⟩ := zex (va_up I12 o (va_up (I12 o) 9 ((I12 o 9) + 1)))
        replace hf := zn_s eI14 hf
        refine zput (D := D) (ci := 0) (v := .int ((I12 o 9) + 1)) (ty := .int) (C := RX0) (T := TX0) (N := 17) hx hb hts hinX0_takeSpeed_X0 tyX0 tyX0_ok nmX0 hown E.1 hP hD.D hS o (zO.get (zBat_o hB)) rfl 9 (by decide) (hts (.fieldLink RX0 54 "EdgeAndSpeed$Bench" "speeds" "I") (by decide +kernel)) (fun _ h9 => h9) rfl (tyX0_ok 9 (by decide)) rfl rfl (Nat.le_of_ble_eq_true rfl) dX0_takeSpeed_62 (zO.setI (zBat_o hB) rfl eI14) (fun H locs hP hS => ?_)
        refine lv_iconst (v := 1) hx hb dX0_takeSpeed_65 (by decide) ?_
        exact hret _ _ hf (Or.inr rfl) _ _ _ _ hP hS dX0_takeSpeed_66
      · replace hf := zt k9 hf
        refine lv_iconst (v := 0) hx hb dX0_takeSpeed_33 (by decide) ?_
        exact hret _ _ hf (Or.inl rfl) _ _ _ _ hP hS dX0_takeSpeed_34
theorem c_X0_takeSpeed (l : Launch) {D : va_G} {a0 : Nat → Nat} {A : Nat → Prop} {cy : Nat → ClassId} {ad : Nat → Nat} {N : Nat} {K : zK} (hD : zD A N ad) {I : zI} {J : zJ} (o : Nat) (hB : zBat N K cy ad o) (p1 : Int32) (p2 : Int32) {rx : Int32} {rI : zI} (hf : f_X0_takeSpeed I J o p1 p2 = some (rx, rI)) : Met l yX0_takeSpeed wsX0_takeSpeed { frames := 1, cells := 0, slots := 0, locals := 22 } (zPc D a0 A cy [.ref (ad o), .int p1, .int p2] (zw N K ad I J)) (zQi D A rx (zw N K ad rI J)) 0 0 A :=
  zmet RX0 (by decide) rfl rfl (Nat.le_of_ble_eq_true rfl) (fun p e R s m below meth c Q hfr hlo ls S0 hQ => w_X0_takeSpeed hfr hlo hD o hB p1 p2 hf S0 (fun tx tI hq n01 H locs ls pc hP hS hd => by cases hq; exact hQ H locs _ hS (fun hx hb hr hlocks hfree => W.zret hx hb hr (z01 n01) (fun t ht hW => ⟨⟨_, (), rfl, rfl, zht ht hP⟩, hS.F ht⟩) hfree hd hlocks)))
theorem ddX0_takeSpeed : yX0_takeSpeed.cls = RX0 ∧ yX0_takeSpeed.cls ≠ "java/lang/invoke/MethodHandle" ∧ yX0_takeSpeed.cls ≠ "java/lang/invoke/VarHandle" ∧ (parseMethodDescriptor yX0_takeSpeed.desc).map (fun d => d.parameters.length) = some 2 := by decide +kernel

def f_X0_tenthsOf (I : zI) (J : zJ) (o : Nat) (p1 : Int32) : Option Int32 := zb1 (f_X11_at I J (o + 8) 4 p1) (fun x1 => some x1)
theorem hinX0_tenthsOf_X0 : ∀ w ∈ u_ws RX0 TX0 17, w ∈ wsX0_tenthsOf := by decide +kernel
set_option maxHeartbeats 4000000 in
set_option maxRecDepth 100000 in
theorem w_X0_tenthsOf {p : Program} {l : Launch} {e : Env} {R : Room} {s : State} {m : MethodId} {args : Array Value} {below : List Frame} {meth : Method} {c : Code} {Q : State → Prop} (hfr : 1 ≤ R.frames) (hlo : 21 ≤ R.locals) {D : va_G} {a0 : Nat → Nat} {A : Nat → Prop} {cy : Nat → ClassId} {ad : Nat → Nat} {N : Nat} {K : zK} (hD : zD A N ad) {I : zI} {J : zJ} (o : Nat) (hB : zBat N K cy ad o) (p1 : Int32) {rx : Int32} (hf : f_X0_tenthsOf I J o p1 = some rx) {ls : Array Slot} (S0 : zSt p m c cX0_tenthsOf 2 s args wsX0_tenthsOf RX0 D a0 A cy (zw N K ad I J) [.ref (ad o), .int p1] ls) (hret : ∀ (tx : Int32), some tx = some rx → ∀ (H : Heap) (locs : List Loc) (ls : Array Slot) (pc : Nat), va_P D vwCl (zw N K ad I J) H → va_S A s.heap H locs → decode cX0_tenthsOf pc = .ok (.ireturn, 1) → W p l e R s m args below meth c H locs 0 0 Q (F0 m pc ls [.int tx])) : W p l e R s m args below meth c s.heap [] 0 0 Q (F0 m 0 ls []) := by
  obtain ⟨S, E, hP, hl⟩ := S0
  obtain ⟨hx, hb, hml, hown, hts⟩ := id S
  have hS : va_S A s.heap s.heap [] := va_S.rf
  replace hl : lv_has ls 2 [(0, .ref (ad o)), (1, .int p1)] := hl
  unfold f_X0_tenthsOf at hf
  refine lv_aload_n hx hb dX0_tenthsOf_0 rfl (lv_at hl 0 rfl) ?_
  refine va_get (D := D) (ci := 0) (v := .ref (ad (o + 8))) (C := RX0) (T := TX0) (N := 17) hx hb hts hinX0_tenthsOf_X0 hown E.1 hP o (zO.get (zBat_o hB)) rfl 7 (by decide) (hts (.fieldLink RX0 33 "EdgeAndSpeed$Bench" "tenths" "[I") (by decide +kernel)) (fun _ h9 => h9) rfl dX0_tenthsOf_1 ?_
  refine lv_iload_n hx hb dX0_tenthsOf_4 rfl (lv_at hl 1 rfl) ?_
  obtain ⟨x1, h2, hf⟩ := zb1_e hf
  refine zgo_i (zrunSN (As := [.ref (ad (o + 8)), .int p1]) (rest := []) S (c_X11_at l hD (o + 8) 4 (zBat_7 hB) p1 h2) ⟨va_cnB (host := "EdgeAndSpeed") 2 hts gX0_tenthsOf_X11_at_n85 rfl rfl rfl (E.2.2.1 _ (List.mem_of_getElem? (i := 1) rfl)) (hts (.initialized RX11) (by decide +kernel)) ddX11_at ⟨Nat.le_trans (Nat.le_of_ble_eq_true rfl) hfr, Nat.le_trans (Nat.le_of_ble_eq_true rfl) hlo⟩, hts (.static yX11_at) (by decide +kernel), trivial⟩ E hP hS hl.1 rfl rfl (Nat.le_of_ble_eq_true rfl) dX0_tenthsOf_5) hS (fun H locs hP hS => ?_)
  exact hret _ hf _ _ _ _ hP hS dX0_tenthsOf_8
theorem c_X0_tenthsOf (l : Launch) {D : va_G} {a0 : Nat → Nat} {A : Nat → Prop} {cy : Nat → ClassId} {ad : Nat → Nat} {N : Nat} {K : zK} (hD : zD A N ad) {I : zI} {J : zJ} (o : Nat) (hB : zBat N K cy ad o) (p1 : Int32) {rx : Int32} (hf : f_X0_tenthsOf I J o p1 = some rx) : Met l yX0_tenthsOf wsX0_tenthsOf { frames := 1, cells := 0, slots := 0, locals := 21 } (zPc D a0 A cy [.ref (ad o), .int p1] (zw N K ad I J)) (zQi D A rx (zw N K ad I J)) 0 0 A :=
  zmet RX0 (by decide) rfl rfl (Nat.le_of_ble_eq_true rfl) (fun p e R s m below meth c Q hfr hlo ls S0 hQ => w_X0_tenthsOf hfr hlo hD o hB p1 hf S0 (fun tx hq H locs ls pc hP hS hd => by cases hq; exact hQ H locs _ hS (fun hx hb hr hlocks hfree => W.iret hx hb hr (fun t ht hW => ⟨⟨_, (), rfl, rfl, zht ht hP⟩, hS.F ht⟩) hfree hd hlocks)))
theorem ddX0_tenthsOf : yX0_tenthsOf.cls = RX0 ∧ yX0_tenthsOf.cls ≠ "java/lang/invoke/MethodHandle" ∧ yX0_tenthsOf.cls ≠ "java/lang/invoke/VarHandle" ∧ (parseMethodDescriptor yX0_tenthsOf.desc).map (fun d => d.parameters.length) = some 1 := by decide +kernel

def f_X0_takeSteel (I : zI) (J : zJ) (o : Nat) (p1 : Int32) (p2 : Int32) : Option (Int32 × zI) := zb1 (f_X11_within I J p1 1 400) (fun x1 => (if x1 = 0 then some (0, I) else zb1 (f_X11_within I J p2 0 10) (fun x4 => (if x4 = 0 then some (0, I) else zb1 (f_X11_within I J (I o 11) 0 3) (fun x7 => (if x7 = 0 then some (0, I) else zg (¬ ((I o 11) < 0 ∨ 4 ≤ (I o 11).toNatClampNeg)) (zn (va_up I (o + 7) (upd (I (o + 7)) (I o 11).toNatClampNeg p1)) (fun I10 => zg (¬ ((I10 o 11) < 0 ∨ 4 ≤ (I10 o 11).toNatClampNeg)) (zn (va_up I10 (o + 8) (upd (I10 (o + 8)) (I10 o 11).toNatClampNeg p2)) (fun I12 => zn (va_up I12 o (va_up (I12 o) 11 ((I12 o 11) + 1))) (fun I14 => some (1, I14))))))))))))
theorem hinX0_takeSteel_X0 : ∀ w ∈ u_ws RX0 TX0 17, w ∈ wsX0_takeSteel := by decide +kernel
set_option maxHeartbeats 4000000 in
set_option maxRecDepth 100000 in
theorem w_X0_takeSteel {p : Program} {l : Launch} {e : Env} {R : Room} {s : State} {m : MethodId} {args : Array Value} {below : List Frame} {meth : Method} {c : Code} {Q : State → Prop} (hfr : 1 ≤ R.frames) (hlo : 22 ≤ R.locals) {D : va_G} {a0 : Nat → Nat} {A : Nat → Prop} {cy : Nat → ClassId} {ad : Nat → Nat} {N : Nat} {K : zK} (hD : zD A N ad) {I : zI} {J : zJ} (o : Nat) (hB : zBat N K cy ad o) (p1 : Int32) (p2 : Int32) {rx : Int32} {rI : zI} (hf : f_X0_takeSteel I J o p1 p2 = some (rx, rI)) {ls : Array Slot} (S0 : zSt p m c cX0_takeSteel 3 s args wsX0_takeSteel RX0 D a0 A cy (zw N K ad I J) [.ref (ad o), .int p1, .int p2] ls) (hret : ∀ (tx : Int32) (tI : zI), some (tx, tI) = some (rx, rI) → (tx = 0 ∨ tx = 1) → ∀ (H : Heap) (locs : List Loc) (ls : Array Slot) (pc : Nat), va_P D vwCl (zw N K ad tI J) H → va_S A s.heap H locs → decode cX0_takeSteel pc = .ok (.ireturn, 1) → W p l e R s m args below meth c H locs 0 0 Q (F0 m pc ls [.int tx])) : W p l e R s m args below meth c s.heap [] 0 0 Q (F0 m 0 ls []) := by
  obtain ⟨S, E, hP, hl⟩ := S0
  obtain ⟨hx, hb, hml, hown, hts⟩ := id S
  have hS : va_S A s.heap s.heap [] := va_S.rf
  replace hl : lv_has ls 3 [(0, .ref (ad o)), (1, .int p1), (2, .int p2)] := hl
  unfold f_X0_takeSteel at hf
  refine lv_iload_n hx hb dX0_takeSteel_0 rfl (lv_at hl 1 rfl) ?_
  refine lv_iconst (v := 1) hx hb dX0_takeSteel_1 (by decide) ?_
  refine lv_sipush (v := 400) hx hb dX0_takeSteel_2 (by decide) ?_
  obtain ⟨x1, h2, hf⟩ := zb1_e hf
  refine zgo_i (zrunSN (As := [.int p1, .int 1, .int 400]) (rest := []) S (c_X11_within l hD p1 1 400 h2) ⟨va_cnB (host := "EdgeAndSpeed") 3 hts gX0_takeSteel_X11_within_n105 rfl rfl rfl (E.2.2.1 _ (List.mem_of_getElem? (i := 0) rfl)) (hts (.initialized RX11) (by decide +kernel)) ddX11_within ⟨Nat.le_trans (Nat.le_of_ble_eq_true rfl) hfr, Nat.le_trans (Nat.le_of_ble_eq_true rfl) hlo⟩, hts (.static yX11_within) (by decide +kernel), trivial⟩ E hP hS hl.1 rfl rfl (Nat.le_of_ble_eq_true rfl) dX0_takeSteel_5) hS (fun H locs hP hS => ?_)
  refine lv_if_eq (tgt := 33) hx hb dX0_takeSteel_8 (by decide) (fun k3 => ?_) (fun k3 => ?_)
  · replace hf := zt k3 hf
    refine lv_iconst (v := 0) hx hb dX0_takeSteel_33 (by decide) ?_
    exact hret _ _ hf (Or.inl rfl) _ _ _ _ hP hS dX0_takeSteel_34
  · replace hf := zf k3 hf
    refine lv_iload_n hx hb dX0_takeSteel_11 rfl (lv_at hl 2 rfl) ?_
    refine lv_iconst (v := 0) hx hb dX0_takeSteel_12 (by decide) ?_
    refine lv_bipush (v := 10) hx hb dX0_takeSteel_13 (by decide) ?_
    obtain ⟨x4, h5, hf⟩ := zb1_e hf
    refine zgo_i (zrunSN (As := [.int p2, .int 0, .int 10]) (rest := []) S (c_X11_within l hD p2 0 10 h5) ⟨va_cnB (host := "EdgeAndSpeed") 3 hts gX0_takeSteel_X11_within_n105 rfl rfl rfl (E.2.2.1 _ (List.mem_of_getElem? (i := 0) rfl)) (hts (.initialized RX11) (by decide +kernel)) ddX11_within ⟨Nat.le_trans (Nat.le_of_ble_eq_true rfl) hfr, Nat.le_trans (Nat.le_of_ble_eq_true rfl) hlo⟩, hts (.static yX11_within) (by decide +kernel), trivial⟩ E hP hS hl.1 rfl rfl (Nat.le_of_ble_eq_true rfl) dX0_takeSteel_15) hS (fun H locs hP hS => ?_)
    refine lv_if_eq (tgt := 33) hx hb dX0_takeSteel_18 (by decide) (fun k6 => ?_) (fun k6 => ?_)
    · replace hf := zt k6 hf
      refine lv_iconst (v := 0) hx hb dX0_takeSteel_33 (by decide) ?_
      exact hret _ _ hf (Or.inl rfl) _ _ _ _ hP hS dX0_takeSteel_34
    · replace hf := zf k6 hf
      refine lv_aload_n hx hb dX0_takeSteel_21 rfl (lv_at hl 0 rfl) ?_
      refine va_get (D := D) (ci := 0) (v := .int (I o 11)) (C := RX0) (T := TX0) (N := 17) hx hb hts hinX0_takeSteel_X0 hown E.1 hP o (zO.get (zBat_o hB)) rfl 11 (by decide) (hts (.fieldLink RX0 61 "EdgeAndSpeed$Bench" "steels" "I") (by decide +kernel)) (fun _ h9 => h9) rfl dX0_takeSteel_22 ?_
      refine lv_iconst (v := 0) hx hb dX0_takeSteel_25 (by decide) ?_
      refine lv_iconst (v := 3) hx hb dX0_takeSteel_26 (by decide) ?_
      obtain ⟨x7, h8, hf⟩ := zb1_e hf
      refine zgo_i (zrunSN (As := [.int (I o 11), .int 0, .int 3]) (rest := []) S (c_X11_within l hD (I o 11) 0 3 h8) ⟨va_cnB (host := "EdgeAndSpeed") 3 hts gX0_takeSteel_X11_within_n105 rfl rfl rfl (E.2.2.1 _ (List.mem_of_getElem? (i := 0) rfl)) (hts (.initialized RX11) (by decide +kernel)) ddX11_within ⟨Nat.le_trans (Nat.le_of_ble_eq_true rfl) hfr, Nat.le_trans (Nat.le_of_ble_eq_true rfl) hlo⟩, hts (.static yX11_within) (by decide +kernel), trivial⟩ E hP hS hl.1 rfl rfl (Nat.le_of_ble_eq_true rfl) dX0_takeSteel_27) hS (fun H locs hP hS => ?_)
      refine lv_if_ne (tgt := 35) hx hb dX0_takeSteel_30 (by decide) (fun k9 => ?_) (fun k9 => ?_)
      · replace hf := zf k9 hf
        refine lv_aload_n hx hb dX0_takeSteel_35 rfl (lv_at hl 0 rfl) ?_
        refine va_get (D := D) (ci := 0) (v := .ref (ad (o + 7))) (C := RX0) (T := TX0) (N := 17) hx hb hts hinX0_takeSteel_X0 hown E.1 hP o (zO.get (zBat_o hB)) rfl 6 (by decide) (hts (.fieldLink RX0 30 "EdgeAndSpeed$Bench" "hardness" "[I") (by decide +kernel)) (fun _ h9 => h9) rfl dX0_takeSteel_36 ?_
        refine lv_aload_n hx hb dX0_takeSteel_39 rfl (lv_at hl 0 rfl) ?_
        refine va_get (D := D) (ci := 0) (v := .int (I o 11)) (C := RX0) (T := TX0) (N := 17) hx hb hts hinX0_takeSteel_X0 hown E.1 hP o (zO.get (zBat_o hB)) rfl 11 (by decide) (hts (.fieldLink RX0 61 "EdgeAndSpeed$Bench" "steels" "I") (by decide +kernel)) (fun _ h9 => h9) rfl dX0_takeSteel_40 ?_
        refine lv_iload_n hx hb dX0_takeSteel_43 rfl (lv_at hl 1 rfl) ?_
        obtain ⟨g11, hf⟩ := zg_i hf
        obtain ⟨I10, eI10⟩ := zex (va_up I (o + 7) (upd (I (o + 7)) (I o 11).toNatClampNeg p1))
        replace hf := zn_s eI10 hf
        refine zast_i hx hb E.1 hP hD.D hS (zBat_6 hB) g11 dX0_takeSteel_44 eI10 (fun H locs hP hS => ?_)
        refine lv_aload_n hx hb dX0_takeSteel_45 rfl (lv_at hl 0 rfl) ?_
        refine va_get (D := D) (ci := 0) (v := .ref (ad (o + 8))) (C := RX0) (T := TX0) (N := 17) hx hb hts hinX0_takeSteel_X0 hown E.1 hP o (zO.get (zBat_o hB)) rfl 7 (by decide) (hts (.fieldLink RX0 33 "EdgeAndSpeed$Bench" "tenths" "[I") (by decide +kernel)) (fun _ h9 => h9) rfl dX0_takeSteel_46 ?_
        refine lv_aload_n hx hb dX0_takeSteel_49 rfl (lv_at hl 0 rfl) ?_
        refine va_get (D := D) (ci := 0) (v := .int (I10 o 11)) (C := RX0) (T := TX0) (N := 17) hx hb hts hinX0_takeSteel_X0 hown E.1 hP o (zO.get (zBat_o hB)) rfl 11 (by decide) (hts (.fieldLink RX0 61 "EdgeAndSpeed$Bench" "steels" "I") (by decide +kernel)) (fun _ h9 => h9) rfl dX0_takeSteel_50 ?_
        refine lv_iload_n hx hb dX0_takeSteel_53 rfl (lv_at hl 2 rfl) ?_
        obtain ⟨g13, hf⟩ := zg_i hf
        obtain ⟨I12, eI12⟩ := zex (va_up I10 (o + 8) (upd (I10 (o + 8)) (I10 o 11).toNatClampNeg p2))
        replace hf := zn_s eI12 hf
        refine zast_i hx hb E.1 hP hD.D hS (zBat_7 hB) g13 dX0_takeSteel_54 eI12 (fun H locs hP hS => ?_)
        refine lv_aload_n hx hb dX0_takeSteel_55 rfl (lv_at hl 0 rfl) ?_
        refine lv_dup hx hb dX0_takeSteel_56 rfl ?_
        refine va_get (D := D) (ci := 0) (v := .int (I12 o 11)) (C := RX0) (T := TX0) (N := 17) hx hb hts hinX0_takeSteel_X0 hown E.1 hP o (zO.get (zBat_o hB)) rfl 11 (by decide) (hts (.fieldLink RX0 61 "EdgeAndSpeed$Bench" "steels" "I") (by decide +kernel)) (fun _ h9 => h9) rfl dX0_takeSteel_57 ?_
        refine lv_iconst (v := 1) hx hb dX0_takeSteel_60 (by decide) ?_
        refine lv_iadd hx hb dX0_takeSteel_61 ?_
        obtain ⟨I14, eI14⟩ := zex (va_up I12 o (va_up (I12 o) 11 ((I12 o 11) + 1)))
        replace hf := zn_s eI14 hf
        refine zput (D := D) (ci := 0) (v := .int ((I12 o 11) + 1)) (ty := .int) (C := RX0) (T := TX0) (N := 17) hx hb hts hinX0_takeSteel_X0 tyX0 tyX0_ok nmX0 hown E.1 hP hD.D hS o (zO.get (zBat_o hB)) rfl 11 (by decide) (hts (.fieldLink RX0 61 "EdgeAndSpeed$Bench" "steels" "I") (by decide +kernel)) (fun _ h9 => h9) rfl (tyX0_ok 11 (by decide)) rfl rfl (Nat.le_of_ble_eq_true rfl) dX0_takeSteel_62 (zO.setI (zBat_o hB) rfl eI14) (fun H locs hP hS => ?_)
        refine lv_iconst (v := 1) hx hb dX0_takeSteel_65 (by decide) ?_
        exact hret _ _ hf (Or.inr rfl) _ _ _ _ hP hS dX0_takeSteel_66
      · replace hf := zt k9 hf
        refine lv_iconst (v := 0) hx hb dX0_takeSteel_33 (by decide) ?_
        exact hret _ _ hf (Or.inl rfl) _ _ _ _ hP hS dX0_takeSteel_34
theorem c_X0_takeSteel (l : Launch) {D : va_G} {a0 : Nat → Nat} {A : Nat → Prop} {cy : Nat → ClassId} {ad : Nat → Nat} {N : Nat} {K : zK} (hD : zD A N ad) {I : zI} {J : zJ} (o : Nat) (hB : zBat N K cy ad o) (p1 : Int32) (p2 : Int32) {rx : Int32} {rI : zI} (hf : f_X0_takeSteel I J o p1 p2 = some (rx, rI)) : Met l yX0_takeSteel wsX0_takeSteel { frames := 1, cells := 0, slots := 0, locals := 22 } (zPc D a0 A cy [.ref (ad o), .int p1, .int p2] (zw N K ad I J)) (zQi D A rx (zw N K ad rI J)) 0 0 A :=
  zmet RX0 (by decide) rfl rfl (Nat.le_of_ble_eq_true rfl) (fun p e R s m below meth c Q hfr hlo ls S0 hQ => w_X0_takeSteel hfr hlo hD o hB p1 p2 hf S0 (fun tx tI hq n01 H locs ls pc hP hS hd => by cases hq; exact hQ H locs _ hS (fun hx hb hr hlocks hfree => W.zret hx hb hr (z01 n01) (fun t ht hW => ⟨⟨_, (), rfl, rfl, zht ht hP⟩, hS.F ht⟩) hfree hd hlocks)))
theorem ddX0_takeSteel : yX0_takeSteel.cls = RX0 ∧ yX0_takeSteel.cls ≠ "java/lang/invoke/MethodHandle" ∧ yX0_takeSteel.cls ≠ "java/lang/invoke/VarHandle" ∧ (parseMethodDescriptor yX0_takeSteel.desc).map (fun d => d.parameters.length) = some 2 := by decide +kernel

def f_X0_finish_L66 (I22 : zI) (o : Nat) (J : zJ) (x24 : Int32) (x25 : Int32) : Option ((Int32 × Int32) ⊕ Int32) := (if (I22 o 11) ≤ x25 then some (.inr x24) else zb1 (f_X0_tenthsOf I22 J o x25) (fun x27 => zn ((x24 + x27)) (fun y29 => zn (x25 + 1) (fun y30 => some (.inl (y29, y30))))))
def f_X0_finish_L20 (o : Nat) (x9 : Int32) (x10 : Int32) (I11 : zI) : Option ((Int32 × Int32 × zI) ⊕ zI) := (if 101 ≤ x10 then some (.inr I11) else zg (¬ (x10 < 0 ∨ 101 ≤ x10.toNatClampNeg)) (zb1 ((if 0 ≤ (I11 (o + 9) x10.toNatClampNeg) then zg (¬ (x10 < 0 ∨ 101 ≤ x10.toNatClampNeg)) (some ((I11 (o + 9) x10.toNatClampNeg))) else some (x9)) : Option Int32) (fun x18 => zg (¬ (x10 < 0 ∨ 101 ≤ x10.toNatClampNeg)) (zn (va_up I11 (o + 9) (upd (I11 (o + 9)) x10.toNatClampNeg x18)) (fun I19 => zn (x10 + 1) (fun y21 => some (.inl (x18, y21, I19))))))))
def f_X0_finish (I : zI) (J : zJ) (o : Nat) : Option (Int32 × zI) := zb1 ((if (I o 11) = 0 then zb2 (f_X0_takeSteel I J o 100 10) (fun x4 I5 => some (I5)) else some (I)) : Option zI) (fun I7 => zb1 (zl (fun v : (Int32 × Int32 × zI) => f_X0_finish_L20 o v.1 v.2.1 v.2.2) zF (0, 0, I7)) (fun I22 => zb1 (zl (fun v : (Int32 × Int32) => f_X0_finish_L66 I22 o J v.1 v.2) zF (0, 0)) (fun x31 => (if x31 = 10 then some (1, I22) else some (0, I22)))))
theorem hinX0_finish_X0 : ∀ w ∈ u_ws RX0 TX0 17, w ∈ wsX0_finish := by decide +kernel
set_option maxHeartbeats 4000000 in
set_option maxRecDepth 100000 in
theorem w_X0_finish {p : Program} {l : Launch} {e : Env} {R : Room} {s : State} {m : MethodId} {args : Array Value} {below : List Frame} {meth : Method} {c : Code} {Q : State → Prop} (hfr : 2 ≤ R.frames) (hlo : 44 ≤ R.locals) {D : va_G} {a0 : Nat → Nat} {A : Nat → Prop} {cy : Nat → ClassId} {ad : Nat → Nat} {N : Nat} {K : zK} (hD : zD A N ad) {I : zI} {J : zJ} (o : Nat) (hB : zBat N K cy ad o) {rx : Int32} {rI : zI} (hf : f_X0_finish I J o = some (rx, rI)) {ls : Array Slot} (S0 : zSt p m c cX0_finish 4 s args wsX0_finish RX0 D a0 A cy (zw N K ad I J) [.ref (ad o)] ls) (hret : ∀ (tx : Int32) (tI : zI), some (tx, tI) = some (rx, rI) → (tx = 0 ∨ tx = 1) → ∀ (H : Heap) (locs : List Loc) (ls : Array Slot) (pc : Nat), va_P D vwCl (zw N K ad tI J) H → va_S A s.heap H locs → decode cX0_finish pc = .ok (.ireturn, 1) → W p l e R s m args below meth c H locs 0 0 Q (F0 m pc ls [.int tx])) : W p l e R s m args below meth c s.heap [] 0 0 Q (F0 m 0 ls []) := by
  obtain ⟨S, E, hP, hl⟩ := S0
  obtain ⟨hx, hb, hml, hown, hts⟩ := id S
  have hS : va_S A s.heap s.heap [] := va_S.rf
  replace hl : lv_has ls 4 [(0, .ref (ad o))] := hl
  unfold f_X0_finish at hf
  refine lv_aload_n hx hb dX0_finish_0 rfl (lv_at hl 0 rfl) ?_
  refine va_get (D := D) (ci := 0) (v := .int (I o 11)) (C := RX0) (T := TX0) (N := 17) hx hb hts hinX0_finish_X0 hown E.1 hP o (zO.get (zBat_o hB)) rfl 11 (by decide) (hts (.fieldLink RX0 61 "EdgeAndSpeed$Bench" "steels" "I") (by decide +kernel)) (fun _ h9 => h9) rfl dX0_finish_1 ?_
  obtain ⟨zr3, hf, hzr3⟩ := zb1_i hf
  have hjr3 : ∀ (I7 : zI), I7 = zr3 → ∀ (H : Heap) (locs : List Loc) (ls : Array Slot), va_P D vwCl (zw N K ad I7 J) H → va_S A s.heap H locs → lv_has ls 4 [(0, .ref (ad o))] → W p l e R s m args below meth c H locs 0 0 Q (F0 m 16 ls []) := by
    intro I7 ez H locs ls hP hS hl
    have hf := hzr3 I7 ez
    refine lv_iconst (v := 0) hx hb dX0_finish_16 (by decide) ?_
    refine lv_istore_n (lv' := [(1, .int 0), (0, .ref (ad o))]) hx hb dX0_finish_17 rfl hl (by decide) rfl (fun ls hl => ?_)
    refine lv_iconst (v := 0) hx hb dX0_finish_18 (by decide) ?_
    refine lv_istore_n (lv' := [(2, .int 0), (1, .int 0), (0, .ref (ad o))]) hx hb dX0_finish_19 rfl hl (by decide) rfl (fun ls hl => ?_)
    obtain ⟨zl8, hf, hzl8⟩ := zb1_i hf
    have hjl8 : ∀ (I22 : zI), I22 = zl8 → ∀ (H : Heap) (locs : List Loc) (ls : Array Slot), va_P D vwCl (zw N K ad I22 J) H → va_S A s.heap H locs → lv_has ls 4 [(0, .ref (ad o))] → W p l e R s m args below meth c H locs 0 0 Q (F0 m 62 ls []) := by
      intro I22 ez H locs ls hP hS hl
      have hf := hzl8 I22 ez
      refine lv_iconst (v := 0) hx hb dX0_finish_62 (by decide) ?_
      refine lv_istore_n (lv' := [(2, .int 0), (0, .ref (ad o))]) hx hb dX0_finish_63 rfl hl (by decide) rfl (fun ls hl => ?_)
      refine lv_iconst (v := 0) hx hb dX0_finish_64 (by decide) ?_
      refine lv_istore_n (lv' := [(3, .int 0), (2, .int 0), (0, .ref (ad o))]) hx hb dX0_finish_65 rfl hl (by decide) rfl (fun ls hl => ?_)
      obtain ⟨zl23, hf, hzl23⟩ := zb1_i hf
      have hjl23 : ∀ (x31 : Int32), x31 = zl23 → ∀ (H : Heap) (locs : List Loc) (ls : Array Slot), va_P D vwCl (zw N K ad I22 J) H → va_S A s.heap H locs → lv_has ls 4 [(2, .int x31)] → W p l e R s m args below meth c H locs 0 0 Q (F0 m 88 ls []) := by
        intro x31 ez H locs ls hP hS hl
        have hf := hzl23 x31 ez
        refine lv_iload_n hx hb dX0_finish_88 rfl (lv_at hl 0 rfl) ?_
        refine lv_bipush (v := 10) hx hb dX0_finish_89 (by decide) ?_
        refine lv_icmp_ne (tgt := 98) hx hb dX0_finish_91 (by decide) (fun k32 => ?_) (fun k32 => ?_)
        · replace hf := zf k32 hf
          refine lv_iconst (v := 0) hx hb dX0_finish_98 (by decide) ?_
          exact hret _ _ hf (Or.inl rfl) _ _ _ _ hP hS dX0_finish_99
        · replace hf := zt k32 hf
          refine lv_iconst (v := 1) hx hb dX0_finish_94 (by decide) ?_
          refine lv_goto (tgt := 99) hx hb dX0_finish_95 (by decide) ?_
          exact hret _ _ hf (Or.inr rfl) _ _ _ _ hP hS dX0_finish_99
      refine zl_i (V := (Int32 × Int32)) (P := fun v => ∀ (H : Heap) (locs : List Loc) (ls : Array Slot), va_P D vwCl (zw N K ad I22 J) H → va_S A s.heap H locs → lv_has ls 4 [(0, .ref (ad o)), (2, .int (v.1)), (3, .int (v.2))] → W p l e R s m args below meth c H locs 0 0 Q (F0 m 66 ls [])) ?_ _ _ hf _ _ _ hP hS (lv_sub hl [2, 1, 0] rfl)
      intro v z hf hcl23 hdl23
      obtain ⟨x24, x25⟩ := v
      intro H locs ls hP hS hl
      replace hf : f_X0_finish_L66 I22 o J x24 x25 = some z := hf
      unfold f_X0_finish_L66 at hf
      replace hP : va_P D vwCl (zw N K ad I22 J) H := hP
      replace hl : lv_has ls 4 [(0, .ref (ad o)), (2, .int x24), (3, .int x25)] := hl
      refine lv_iload_n hx hb dX0_finish_66 rfl (lv_at hl 2 rfl) ?_
      refine lv_aload_n hx hb dX0_finish_67 rfl (lv_at hl 0 rfl) ?_
      refine va_get (D := D) (ci := 0) (v := .int (I22 o 11)) (C := RX0) (T := TX0) (N := 17) hx hb hts hinX0_finish_X0 hown E.1 hP o (zO.get (zBat_o hB)) rfl 11 (by decide) (hts (.fieldLink RX0 61 "EdgeAndSpeed$Bench" "steels" "I") (by decide +kernel)) (fun _ h9 => h9) rfl dX0_finish_68 ?_
      refine lv_icmp_ge (tgt := 88) hx hb dX0_finish_71 (by decide) (fun k26 => ?_) (fun k26 => ?_)
      · replace hf := zt k26 hf
        exact hjl23 _ (hdl23 _ (Option.some.inj hf).symm) _ _ _ hP hS (lv_sub hl [1] rfl)
      · replace hf := zf k26 hf
        refine lv_iload_n hx hb dX0_finish_74 rfl (lv_at hl 1 rfl) ?_
        refine lv_aload_n hx hb dX0_finish_75 rfl (lv_at hl 0 rfl) ?_
        refine lv_iload_n hx hb dX0_finish_76 rfl (lv_at hl 2 rfl) ?_
        obtain ⟨x27, h28, hf⟩ := zb1_e hf
        refine zgo_i (zrunV (As := [.int x25]) (rest := [.int x24]) S (c_X0_tenthsOf l hD o hB x25 h28) (cwV 1 hts gX0_finish_X0_tenthsOf rfl rfl rfl ddX0_tenthsOf ⟨Nat.le_trans (Nat.le_of_ble_eq_true rfl) hfr, Nat.le_trans (Nat.le_of_ble_eq_true rfl) hlo⟩) (va_recv E.1 hP (q := (RX0, TX0, 17)) (ci := 0) rfl (zO.get (zBat_o hB))) E hP hS hl.1 rfl rfl (Nat.le_of_ble_eq_true rfl) dX0_finish_77) hS (fun H locs hP hS => ?_)
        refine lv_iadd hx hb dX0_finish_80 ?_
        refine lv_topi (fun y29 ey29 => ?_)
        replace hf := zn_s ey29 hf
        refine lv_istore_n (lv' := [(2, .int y29), (0, .ref (ad o)), (3, .int x25)]) hx hb dX0_finish_81 rfl hl (by decide) rfl (fun ls hl => ?_)
        obtain ⟨y30, ey30⟩ := zex (x25 + 1)
        replace hf := zn_s ey30 hf
        refine lv_iinc (v := y30) (lv' := [(3, .int y30), (2, .int y29), (0, .ref (ad o))]) hx hb dX0_finish_82 hl (k := 2) rfl (by rw [ey30]; rfl) (by decide) rfl (fun ls hl => ?_)
        refine lv_goto (tgt := 66) hx hb dX0_finish_85 (by decide) ?_
        exact hcl23 _ (Option.some.inj hf).symm _ _ _ hP hS (lv_sub hl [2, 1, 0] rfl)
    refine zl_i (V := (Int32 × Int32 × zI)) (P := fun v => ∀ (H : Heap) (locs : List Loc) (ls : Array Slot), va_P D vwCl (zw N K ad v.2.2 J) H → va_S A s.heap H locs → lv_has ls 4 [(0, .ref (ad o)), (1, .int (v.1)), (2, .int (v.2.1))] → W p l e R s m args below meth c H locs 0 0 Q (F0 m 20 ls [])) ?_ _ _ hf _ _ _ hP hS (lv_sub hl [2, 1, 0] rfl)
    intro v z hf hcl8 hdl8
    obtain ⟨x9, x10, I11⟩ := v
    intro H locs ls hP hS hl
    replace hf : f_X0_finish_L20 o x9 x10 I11 = some z := hf
    unfold f_X0_finish_L20 at hf
    replace hP : va_P D vwCl (zw N K ad I11 J) H := hP
    replace hl : lv_has ls 4 [(0, .ref (ad o)), (1, .int x9), (2, .int x10)] := hl
    refine lv_iload_n hx hb dX0_finish_20 rfl (lv_at hl 2 rfl) ?_
    refine lv_aload_n hx hb dX0_finish_21 rfl (lv_at hl 0 rfl) ?_
    refine va_get (D := D) (ci := 0) (v := .ref (ad (o + 9))) (C := RX0) (T := TX0) (N := 17) hx hb hts hinX0_finish_X0 hown E.1 hP o (zO.get (zBat_o hB)) rfl 8 (by decide) (hts (.fieldLink RX0 36 "EdgeAndSpeed$Bench" "breaking" "[I") (by decide +kernel)) (fun _ h9 => h9) rfl dX0_finish_22 ?_
    refine va_alen (v := 101) (ty := .int) hx hb E.1 hP (o + 9) 1 (zIA.get (zBat_8 hB)) rfl rfl dX0_finish_25 ?_
    refine lv_icmp_ge (tgt := 62) hx hb dX0_finish_26 (by decide) (fun k12 => ?_) (fun k12 => ?_)
    · replace hf := zt k12 hf
      exact hjl8 _ (hdl8 _ (Option.some.inj hf).symm) _ _ _ hP hS (lv_sub hl [0] rfl)
    · replace hf := zf k12 hf
      refine lv_aload_n hx hb dX0_finish_29 rfl (lv_at hl 0 rfl) ?_
      refine va_get (D := D) (ci := 0) (v := .ref (ad (o + 9))) (C := RX0) (T := TX0) (N := 17) hx hb hts hinX0_finish_X0 hown E.1 hP o (zO.get (zBat_o hB)) rfl 8 (by decide) (hts (.fieldLink RX0 36 "EdgeAndSpeed$Bench" "breaking" "[I") (by decide +kernel)) (fun _ h9 => h9) rfl dX0_finish_30 ?_
      refine lv_iload_n hx hb dX0_finish_33 rfl (lv_at hl 2 rfl) ?_
      obtain ⟨g13, hf⟩ := zg_i hf
      refine va_iald hx hb E.1 hP (o + 9) 1 (zIA.get (zBat_8 hB)) rfl g13 dX0_finish_34 ?_
      obtain ⟨zr16, hf, hzr16⟩ := zb1_i hf
      have hjr16 : ∀ (x18 : Int32), x18 = zr16 → ∀ (H : Heap) (locs : List Loc) (ls : Array Slot), va_P D vwCl (zw N K ad I11 J) H → va_S A s.heap H locs → lv_has ls 4 [(0, .ref (ad o)), (2, .int x10)] → W p l e R s m args below meth c H locs 0 0 Q (F0 m 48 ls [.int x18]) := by
        intro x18 ez H locs ls hP hS hl
        have hf := hzr16 x18 ez
        refine lv_istore_n (lv' := [(1, .int x18), (0, .ref (ad o)), (2, .int x10)]) hx hb dX0_finish_48 rfl hl (by decide) rfl (fun ls hl => ?_)
        refine lv_aload_n hx hb dX0_finish_49 rfl (lv_at hl 1 rfl) ?_
        refine va_get (D := D) (ci := 0) (v := .ref (ad (o + 9))) (C := RX0) (T := TX0) (N := 17) hx hb hts hinX0_finish_X0 hown E.1 hP o (zO.get (zBat_o hB)) rfl 8 (by decide) (hts (.fieldLink RX0 36 "EdgeAndSpeed$Bench" "breaking" "[I") (by decide +kernel)) (fun _ h9 => h9) rfl dX0_finish_50 ?_
        refine lv_iload_n hx hb dX0_finish_53 rfl (lv_at hl 2 rfl) ?_
        refine lv_iload_n hx hb dX0_finish_54 rfl (lv_at hl 0 rfl) ?_
        obtain ⟨g20, hf⟩ := zg_i hf
        obtain ⟨I19, eI19⟩ := zex (va_up I11 (o + 9) (upd (I11 (o + 9)) x10.toNatClampNeg x18))
        replace hf := zn_s eI19 hf
        refine zast_i hx hb E.1 hP hD.D hS (zBat_8 hB) g20 dX0_finish_55 eI19 (fun H locs hP hS => ?_)
        obtain ⟨y21, ey21⟩ := zex (x10 + 1)
        replace hf := zn_s ey21 hf
        refine lv_iinc (v := y21) (lv' := [(2, .int y21), (1, .int x18), (0, .ref (ad o))]) hx hb dX0_finish_56 hl (k := 2) rfl (by rw [ey21]; rfl) (by decide) rfl (fun ls hl => ?_)
        refine lv_goto (tgt := 20) hx hb dX0_finish_59 (by decide) ?_
        exact hcl8 _ (Option.some.inj hf).symm _ _ _ hP hS (lv_sub hl [2, 1, 0] rfl)
      refine lv_if_ge (tgt := 42) hx hb dX0_finish_35 (by decide) (fun k14 => ?_) (fun k14 => ?_)
      · replace hf := zt k14 hf
        refine lv_aload_n hx hb dX0_finish_42 rfl (lv_at hl 0 rfl) ?_
        refine va_get (D := D) (ci := 0) (v := .ref (ad (o + 9))) (C := RX0) (T := TX0) (N := 17) hx hb hts hinX0_finish_X0 hown E.1 hP o (zO.get (zBat_o hB)) rfl 8 (by decide) (hts (.fieldLink RX0 36 "EdgeAndSpeed$Bench" "breaking" "[I") (by decide +kernel)) (fun _ h9 => h9) rfl dX0_finish_43 ?_
        refine lv_iload_n hx hb dX0_finish_46 rfl (lv_at hl 2 rfl) ?_
        obtain ⟨g17, hf⟩ := zg_i hf
        refine va_iald hx hb E.1 hP (o + 9) 1 (zIA.get (zBat_8 hB)) rfl g17 dX0_finish_47 ?_
        exact hjr16 _ (Option.some.inj hf) _ _ _ hP hS (lv_sub hl [0, 2] rfl)
      · replace hf := zf k14 hf
        refine lv_iload_n hx hb dX0_finish_38 rfl (lv_at hl 1 rfl) ?_
        refine lv_goto (tgt := 48) hx hb dX0_finish_39 (by decide) ?_
        exact hjr16 _ (Option.some.inj hf) _ _ _ hP hS (lv_sub hl [0, 2] rfl)
  refine lv_if_ne (tgt := 16) hx hb dX0_finish_4 (by decide) (fun k1 => ?_) (fun k1 => ?_)
  · replace hf := zf k1 hf
    exact hjr3 _ (Option.some.inj hf) _ _ _ hP hS (lv_sub hl [0] rfl)
  · replace hf := zt k1 hf
    refine lv_aload_n hx hb dX0_finish_7 rfl (lv_at hl 0 rfl) ?_
    refine lv_bipush (v := 100) hx hb dX0_finish_8 (by decide) ?_
    refine lv_bipush (v := 10) hx hb dX0_finish_10 (by decide) ?_
    obtain ⟨x4, I5, h6, hf⟩ := zb2_e hf
    refine zgo_i (zrunV (As := [.int 100, .int 10]) (rest := []) S (c_X0_takeSteel l hD o hB 100 10 h6) (cwV 2 hts gX0_finish_X0_takeSteel rfl rfl rfl ddX0_takeSteel ⟨Nat.le_trans (Nat.le_of_ble_eq_true rfl) hfr, Nat.le_trans (Nat.le_of_ble_eq_true rfl) hlo⟩) (va_recv E.1 hP (q := (RX0, TX0, 17)) (ci := 0) rfl (zO.get (zBat_o hB))) E hP hS hl.1 rfl rfl (Nat.le_of_ble_eq_true rfl) dX0_finish_12) hS (fun H locs hP hS => ?_)
    refine lv_pop hx hb dX0_finish_15 rfl ?_
    exact hjr3 _ (Option.some.inj hf) _ _ _ hP hS (lv_sub hl [0] rfl)
theorem c_X0_finish (l : Launch) {D : va_G} {a0 : Nat → Nat} {A : Nat → Prop} {cy : Nat → ClassId} {ad : Nat → Nat} {N : Nat} {K : zK} (hD : zD A N ad) {I : zI} {J : zJ} (o : Nat) (hB : zBat N K cy ad o) {rx : Int32} {rI : zI} (hf : f_X0_finish I J o = some (rx, rI)) : Met l yX0_finish wsX0_finish { frames := 2, cells := 0, slots := 0, locals := 44 } (zPc D a0 A cy [.ref (ad o)] (zw N K ad I J)) (zQi D A rx (zw N K ad rI J)) 0 0 A :=
  zmet RX0 (by decide) rfl rfl (Nat.le_of_ble_eq_true rfl) (fun p e R s m below meth c Q hfr hlo ls S0 hQ => w_X0_finish hfr hlo hD o hB hf S0 (fun tx tI hq n01 H locs ls pc hP hS hd => by cases hq; exact hQ H locs _ hS (fun hx hb hr hlocks hfree => W.zret hx hb hr (z01 n01) (fun t ht hW => ⟨⟨_, (), rfl, rfl, zht ht hP⟩, hS.F ht⟩) hfree hd hlocks)))
theorem ddX0_finish : yX0_finish.cls = RX0 ∧ yX0_finish.cls ≠ "java/lang/invoke/MethodHandle" ∧ yX0_finish.cls ≠ "java/lang/invoke/VarHandle" ∧ (parseMethodDescriptor yX0_finish.desc).map (fun d => d.parameters.length) = some 0 := by decide +kernel

def f_J7_fill_53178_L5 (y1 : Int32) (n : Nat) (q : Nat) (p2 : Int32) (x3 : Int32) (I4 : zI) : Option ((Int32 × zI) ⊕ zI) := (if y1 ≤ x3 then some (.inr I4) else zg (¬ (x3 < 0 ∨ n ≤ x3.toNatClampNeg)) (zn (va_up I4 q (upd (I4 q) x3.toNatClampNeg p2)) (fun I6 => zn (x3 + 1) (fun y8 => some (.inl (y8, I6))))))
def f_J7_fill_53178 (I : zI) (J : zJ) (q : Nat) (n : Nat) (p2 : Int32) : Option zI := zn ((nI n)) (fun y1 => zb1 (zl (fun v : (Int32 × zI) => f_J7_fill_53178_L5 y1 n q p2 v.1 v.2) zF (0, I)) (fun I9 => some I9))
set_option maxHeartbeats 4000000 in
set_option maxRecDepth 100000 in
theorem w_J7_fill_53178 {p : Program} {l : Launch} {e : Env} {R : Room} {s : State} {m : MethodId} {args : Array Value} {below : List Frame} {meth : Method} {c : Code} {Q : State → Prop} (hfr : 0 ≤ R.frames) (hlo : 0 ≤ R.locals) {D : va_G} {a0 : Nat → Nat} {A : Nat → Prop} {cy : Nat → ClassId} {ad : Nat → Nat} {N : Nat} {K : zK} (hD : zD A N ad) {I : zI} {J : zJ} (q n : Nat) (hq : zIA N K (cy 1) q n) (p2 : Int32) {rI : zI} (hf : f_J7_fill_53178 I J q n p2 = some rI) {ls : Array Slot} (S0 : zSt p m c cJ7_fill_53178 4 s args wsJ7_fill_53178 RJ7 D a0 A cy (zw N K ad I J) [.ref (ad q), .int p2] ls) (hret : ∀ (tI : zI), some tI = some rI → ∀ (H : Heap) (locs : List Loc) (ls : Array Slot) (pc : Nat), va_P D vwCl (zw N K ad tI J) H → va_S A s.heap H locs → decode cJ7_fill_53178 pc = .ok (.return_, 1) → W p l e R s m args below meth c H locs 0 0 Q (F0 m pc ls [])) : W p l e R s m args below meth c s.heap [] 0 0 Q (F0 m 0 ls []) := by
  obtain ⟨S, E, hP, hl⟩ := S0
  obtain ⟨hx, hb, hml, hown, hts⟩ := id S
  have hS : va_S A s.heap s.heap [] := va_S.rf
  replace hl : lv_has ls 4 [(0, .ref (ad q)), (1, .int p2)] := hl
  unfold f_J7_fill_53178 at hf
  refine lv_iconst (v := 0) hx hb dJ7_fill_53178_0 (by decide) ?_
  refine lv_istore_n (lv' := [(2, .int 0), (0, .ref (ad q)), (1, .int p2)]) hx hb dJ7_fill_53178_1 rfl hl (by decide) rfl (fun ls hl => ?_)
  refine lv_aload_n hx hb dJ7_fill_53178_2 rfl (lv_at hl 1 rfl) ?_
  refine va_alen (v := (nI n)) (ty := .int) hx hb E.1 hP q 1 (zIA.get hq) rfl rfl dJ7_fill_53178_3 ?_
  refine lv_topi (fun y1 ey1 => ?_)
  replace hf := zn_s ey1 hf
  refine lv_istore_n (lv' := [(3, .int y1), (2, .int 0), (0, .ref (ad q)), (1, .int p2)]) hx hb dJ7_fill_53178_4 rfl hl (by decide) rfl (fun ls hl => ?_)
  obtain ⟨zl2, hf, hzl2⟩ := zb1_i hf
  have hjl2 : ∀ (I9 : zI), I9 = zl2 → ∀ (H : Heap) (locs : List Loc) (ls : Array Slot), va_P D vwCl (zw N K ad I9 J) H → va_S A s.heap H locs → lv_has ls 4 [] → W p l e R s m args below meth c H locs 0 0 Q (F0 m 20 ls []) := by
    intro I9 ez H locs ls hP hS hl
    have hf := hzl2 I9 ez
    exact hret _ hf _ _ _ _ hP hS dJ7_fill_53178_20
  refine zl_i (V := (Int32 × zI)) (P := fun v => ∀ (H : Heap) (locs : List Loc) (ls : Array Slot), va_P D vwCl (zw N K ad v.2 J) H → va_S A s.heap H locs → lv_has ls 4 [(0, .ref (ad q)), (1, .int p2), (2, .int (v.1)), (3, .int y1)] → W p l e R s m args below meth c H locs 0 0 Q (F0 m 5 ls [])) ?_ _ _ hf _ _ _ hP hS (lv_sub hl [2, 3, 1, 0] rfl)
  intro v z hf hcl2 hdl2
  obtain ⟨x3, I4⟩ := v
  intro H locs ls hP hS hl
  replace hf : f_J7_fill_53178_L5 y1 n q p2 x3 I4 = some z := hf
  unfold f_J7_fill_53178_L5 at hf
  replace hP : va_P D vwCl (zw N K ad I4 J) H := hP
  replace hl : lv_has ls 4 [(0, .ref (ad q)), (1, .int p2), (2, .int x3), (3, .int y1)] := hl
  refine lv_iload_n hx hb dJ7_fill_53178_5 rfl (lv_at hl 2 rfl) ?_
  refine lv_iload_n hx hb dJ7_fill_53178_6 rfl (lv_at hl 3 rfl) ?_
  refine lv_icmp_ge (tgt := 20) hx hb dJ7_fill_53178_7 (by decide) (fun k5 => ?_) (fun k5 => ?_)
  · replace hf := zt k5 hf
    exact hjl2 _ (hdl2 _ (Option.some.inj hf).symm) _ _ _ hP hS (lv_sub hl [] rfl)
  · replace hf := zf k5 hf
    refine lv_aload_n hx hb dJ7_fill_53178_10 rfl (lv_at hl 0 rfl) ?_
    refine lv_iload_n hx hb dJ7_fill_53178_11 rfl (lv_at hl 2 rfl) ?_
    refine lv_iload_n hx hb dJ7_fill_53178_12 rfl (lv_at hl 1 rfl) ?_
    obtain ⟨g7, hf⟩ := zg_i hf
    obtain ⟨I6, eI6⟩ := zex (va_up I4 q (upd (I4 q) x3.toNatClampNeg p2))
    replace hf := zn_s eI6 hf
    refine zast_i hx hb E.1 hP hD.D hS hq g7 dJ7_fill_53178_13 eI6 (fun H locs hP hS => ?_)
    obtain ⟨y8, ey8⟩ := zex (x3 + 1)
    replace hf := zn_s ey8 hf
    refine lv_iinc (v := y8) (lv' := [(2, .int y8), (0, .ref (ad q)), (1, .int p2), (3, .int y1)]) hx hb dJ7_fill_53178_14 hl (k := 2) rfl (by rw [ey8]; rfl) (by decide) rfl (fun ls hl => ?_)
    refine lv_goto (tgt := 5) hx hb dJ7_fill_53178_17 (by decide) ?_
    exact hcl2 _ (Option.some.inj hf).symm _ _ _ hP hS (lv_sub hl [1, 2, 0, 3] rfl)
theorem c_J7_fill_53178 (l : Launch) {D : va_G} {a0 : Nat → Nat} {A : Nat → Prop} {cy : Nat → ClassId} {ad : Nat → Nat} {N : Nat} {K : zK} (hD : zD A N ad) {I : zI} {J : zJ} (q n : Nat) (hq : zIA N K (cy 1) q n) (p2 : Int32) {rI : zI} (hf : f_J7_fill_53178 I J q n p2 = some rI) : Met l yJ7_fill_53178 wsJ7_fill_53178 { frames := 0, cells := 0, slots := 0, locals := 0 } (zPc D a0 A cy [.ref (ad q), .int p2] (zw N K ad I J)) (zQv D A (zw N K ad rI J)) 0 0 A :=
  zmet RJ7 (by decide) rfl rfl (Nat.le_of_ble_eq_true rfl) (fun p e R s m below meth c Q hfr hlo ls S0 hQ => w_J7_fill_53178 hfr hlo hD q n hq p2 hf S0 (fun tI hq H locs ls pc hP hS hd => by cases hq; exact hQ H locs _ hS (fun hx hb hr hlocks hfree => W.vret hx hb hr (fun t ht hW => ⟨⟨(), rfl, trivial, zht ht hP⟩, hS.F ht⟩) hfree hd hlocks)))
theorem ddJ7_fill_53178 : yJ7_fill_53178.cls ≠ "java/lang/invoke/MethodHandle" ∧ yJ7_fill_53178.cls ≠ "java/lang/invoke/VarHandle" ∧ (parseMethodDescriptor yJ7_fill_53178.desc).map (fun d => d.parameters.length) = some 2 := by decide +kernel

def f_X0_clear (I : zI) (J : zJ) (o : Nat) : Option zI := zn (va_up I o (va_up (I o) 9 0)) (fun I1 => zn (va_up I1 o (va_up (I1 o) 10 0)) (fun I2 => zn (va_up I2 o (va_up (I2 o) 11 0)) (fun I3 => zn (va_up I3 o (va_up (I3 o) 12 4)) (fun I4 => zn (va_up I4 o (va_up (I4 o) 13 9)) (fun I5 => zn (va_up I5 o (va_up (I5 o) 14 60)) (fun I6 => zn (va_up I6 o (va_up (I6 o) 15 8)) (fun I7 => zn (va_up I7 o (va_up (I7 o) 16 999)) (fun I8 => zb1 (f_J7_fill_53178 I8 J (o + 9) 101 (-1)) (fun I9 => some I9)))))))))
theorem hinX0_clear_X0 : ∀ w ∈ u_ws RX0 TX0 17, w ∈ wsX0_clear := by decide +kernel
set_option maxHeartbeats 4000000 in
set_option maxRecDepth 100000 in
theorem w_X0_clear {p : Program} {l : Launch} {e : Env} {R : Room} {s : State} {m : MethodId} {args : Array Value} {below : List Frame} {meth : Method} {c : Code} {Q : State → Prop} (hfr : 1 ≤ R.frames) (hlo : 23 ≤ R.locals) {D : va_G} {a0 : Nat → Nat} {A : Nat → Prop} {cy : Nat → ClassId} {ad : Nat → Nat} {N : Nat} {K : zK} (hD : zD A N ad) {I : zI} {J : zJ} (o : Nat) (hB : zBat N K cy ad o) {rI : zI} (hf : f_X0_clear I J o = some rI) {ls : Array Slot} (S0 : zSt p m c cX0_clear 1 s args wsX0_clear RX0 D a0 A cy (zw N K ad I J) [.ref (ad o)] ls) (hret : ∀ (tI : zI), some tI = some rI → ∀ (H : Heap) (locs : List Loc) (ls : Array Slot) (pc : Nat), va_P D vwCl (zw N K ad tI J) H → va_S A s.heap H locs → decode cX0_clear pc = .ok (.return_, 1) → W p l e R s m args below meth c H locs 0 0 Q (F0 m pc ls [])) : W p l e R s m args below meth c s.heap [] 0 0 Q (F0 m 0 ls []) := by
  obtain ⟨S, E, hP, hl⟩ := S0
  obtain ⟨hx, hb, hml, hown, hts⟩ := id S
  have hS : va_S A s.heap s.heap [] := va_S.rf
  replace hl : lv_has ls 1 [(0, .ref (ad o))] := hl
  unfold f_X0_clear at hf
  refine lv_aload_n hx hb dX0_clear_0 rfl (lv_at hl 0 rfl) ?_
  refine lv_iconst (v := 0) hx hb dX0_clear_1 (by decide) ?_
  obtain ⟨I1, eI1⟩ := zex (va_up I o (va_up (I o) 9 0))
  replace hf := zn_s eI1 hf
  refine zput (D := D) (ci := 0) (v := .int 0) (ty := .int) (C := RX0) (T := TX0) (N := 17) hx hb hts hinX0_clear_X0 tyX0 tyX0_ok nmX0 hown E.1 hP hD.D hS o (zO.get (zBat_o hB)) rfl 9 (by decide) (hts (.fieldLink RX0 54 "EdgeAndSpeed$Bench" "speeds" "I") (by decide +kernel)) (fun _ h9 => h9) rfl (tyX0_ok 9 (by decide)) rfl rfl (Nat.le_of_ble_eq_true rfl) dX0_clear_2 (zO.setI (zBat_o hB) rfl eI1) (fun H locs hP hS => ?_)
  refine lv_aload_n hx hb dX0_clear_5 rfl (lv_at hl 0 rfl) ?_
  refine lv_iconst (v := 0) hx hb dX0_clear_6 (by decide) ?_
  obtain ⟨I2, eI2⟩ := zex (va_up I1 o (va_up (I1 o) 10 0))
  replace hf := zn_s eI2 hf
  refine zput (D := D) (ci := 0) (v := .int 0) (ty := .int) (C := RX0) (T := TX0) (N := 17) hx hb hts hinX0_clear_X0 tyX0 tyX0_ok nmX0 hown E.1 hP hD.D hS o (zO.get (zBat_o hB)) rfl 10 (by decide) (hts (.fieldLink RX0 58 "EdgeAndSpeed$Bench" "pieces" "I") (by decide +kernel)) (fun _ h9 => h9) rfl (tyX0_ok 10 (by decide)) rfl rfl (Nat.le_of_ble_eq_true rfl) dX0_clear_7 (zO.setI (zBat_o hB) rfl eI2) (fun H locs hP hS => ?_)
  refine lv_aload_n hx hb dX0_clear_10 rfl (lv_at hl 0 rfl) ?_
  refine lv_iconst (v := 0) hx hb dX0_clear_11 (by decide) ?_
  obtain ⟨I3, eI3⟩ := zex (va_up I2 o (va_up (I2 o) 11 0))
  replace hf := zn_s eI3 hf
  refine zput (D := D) (ci := 0) (v := .int 0) (ty := .int) (C := RX0) (T := TX0) (N := 17) hx hb hts hinX0_clear_X0 tyX0 tyX0_ok nmX0 hown E.1 hP hD.D hS o (zO.get (zBat_o hB)) rfl 11 (by decide) (hts (.fieldLink RX0 61 "EdgeAndSpeed$Bench" "steels" "I") (by decide +kernel)) (fun _ h9 => h9) rfl (tyX0_ok 11 (by decide)) rfl rfl (Nat.le_of_ble_eq_true rfl) dX0_clear_12 (zO.setI (zBat_o hB) rfl eI3) (fun H locs hP hS => ?_)
  refine lv_aload_n hx hb dX0_clear_15 rfl (lv_at hl 0 rfl) ?_
  refine lv_iconst (v := 4) hx hb dX0_clear_16 (by decide) ?_
  obtain ⟨I4, eI4⟩ := zex (va_up I3 o (va_up (I3 o) 12 4))
  replace hf := zn_s eI4 hf
  refine zput (D := D) (ci := 0) (v := .int 4) (ty := .int) (C := RX0) (T := TX0) (N := 17) hx hb hts hinX0_clear_X0 tyX0 tyX0_ok nmX0 hown E.1 hP hD.D hS o (zO.get (zBat_o hB)) rfl 12 (by decide) (hts (.fieldLink RX0 64 "EdgeAndSpeed$Bench" "changeMinutes" "I") (by decide +kernel)) (fun _ h9 => h9) rfl (tyX0_ok 12 (by decide)) rfl rfl (Nat.le_of_ble_eq_true rfl) dX0_clear_17 (zO.setI (zBat_o hB) rfl eI4) (fun H locs hP hS => ?_)
  refine lv_aload_n hx hb dX0_clear_20 rfl (lv_at hl 0 rfl) ?_
  refine lv_bipush (v := 9) hx hb dX0_clear_21 (by decide) ?_
  obtain ⟨I5, eI5⟩ := zex (va_up I4 o (va_up (I4 o) 13 9))
  replace hf := zn_s eI5 hf
  refine zput (D := D) (ci := 0) (v := .int 9) (ty := .int) (C := RX0) (T := TX0) (N := 17) hx hb hts hinX0_clear_X0 tyX0 tyX0_ok nmX0 hown E.1 hP hD.D hS o (zO.get (zBat_o hB)) rfl 13 (by decide) (hts (.fieldLink RX0 67 "EdgeAndSpeed$Bench" "changePence" "I") (by decide +kernel)) (fun _ h9 => h9) rfl (tyX0_ok 13 (by decide)) rfl rfl (Nat.le_of_ble_eq_true rfl) dX0_clear_23 (zO.setI (zBat_o hB) rfl eI5) (fun H locs hP hS => ?_)
  refine lv_aload_n hx hb dX0_clear_26 rfl (lv_at hl 0 rfl) ?_
  refine lv_bipush (v := 60) hx hb dX0_clear_27 (by decide) ?_
  obtain ⟨I6, eI6⟩ := zex (va_up I5 o (va_up (I5 o) 14 60))
  replace hf := zn_s eI6 hf
  refine zput (D := D) (ci := 0) (v := .int 60) (ty := .int) (C := RX0) (T := TX0) (N := 17) hx hb hts hinX0_clear_X0 tyX0 tyX0_ok nmX0 hown E.1 hP hD.D hS o (zO.get (zBat_o hB)) rfl 14 (by decide) (hts (.fieldLink RX0 70 "EdgeAndSpeed$Bench" "hourPence" "I") (by decide +kernel)) (fun _ h9 => h9) rfl (tyX0_ok 14 (by decide)) rfl rfl (Nat.le_of_ble_eq_true rfl) dX0_clear_29 (zO.setI (zBat_o hB) rfl eI6) (fun H locs hP hS => ?_)
  refine lv_aload_n hx hb dX0_clear_32 rfl (lv_at hl 0 rfl) ?_
  refine lv_bipush (v := 8) hx hb dX0_clear_33 (by decide) ?_
  obtain ⟨I7, eI7⟩ := zex (va_up I6 o (va_up (I6 o) 15 8))
  replace hf := zn_s eI7 hf
  refine zput (D := D) (ci := 0) (v := .int 8) (ty := .int) (C := RX0) (T := TX0) (N := 17) hx hb hts hinX0_clear_X0 tyX0 tyX0_ok nmX0 hown E.1 hP hD.D hS o (zO.get (zBat_o hB)) rfl 15 (by decide) (hts (.fieldLink RX0 73 "EdgeAndSpeed$Bench" "mostSteps" "I") (by decide +kernel)) (fun _ h9 => h9) rfl (tyX0_ok 15 (by decide)) rfl rfl (Nat.le_of_ble_eq_true rfl) dX0_clear_35 (zO.setI (zBat_o hB) rfl eI7) (fun H locs hP hS => ?_)
  refine lv_aload_n hx hb dX0_clear_38 rfl (lv_at hl 0 rfl) ?_
  refine lv_sipush (v := 999) hx hb dX0_clear_39 (by decide) ?_
  obtain ⟨I8, eI8⟩ := zex (va_up I7 o (va_up (I7 o) 16 999))
  replace hf := zn_s eI8 hf
  refine zput (D := D) (ci := 0) (v := .int 999) (ty := .int) (C := RX0) (T := TX0) (N := 17) hx hb hts hinX0_clear_X0 tyX0 tyX0_ok nmX0 hown E.1 hP hD.D hS o (zO.get (zBat_o hB)) rfl 16 (by decide) (hts (.fieldLink RX0 76 "EdgeAndSpeed$Bench" "mostWork" "I") (by decide +kernel)) (fun _ h9 => h9) rfl (tyX0_ok 16 (by decide)) rfl rfl (Nat.le_of_ble_eq_true rfl) dX0_clear_42 (zO.setI (zBat_o hB) rfl eI8) (fun H locs hP hS => ?_)
  refine lv_aload_n hx hb dX0_clear_45 rfl (lv_at hl 0 rfl) ?_
  refine va_get (D := D) (ci := 0) (v := .ref (ad (o + 9))) (C := RX0) (T := TX0) (N := 17) hx hb hts hinX0_clear_X0 hown E.1 hP o (zO.get (zBat_o hB)) rfl 8 (by decide) (hts (.fieldLink RX0 36 "EdgeAndSpeed$Bench" "breaking" "[I") (by decide +kernel)) (fun _ h9 => h9) rfl dX0_clear_46 ?_
  refine lv_iconst (v := (-1)) hx hb dX0_clear_49 (by decide) ?_
  obtain ⟨I9, h10, hf⟩ := zb1_e hf
  refine zgo_v (zrunS (As := [.ref (ad (o + 9)), .int (-1)]) (rest := []) S (c_J7_fill_53178 l hD (o + 9) 101 (zBat_8 hB) (-1) h10) (va_cwS 2 hts gX0_clear_J7_fill_53178 rfl rfl rfl ddJ7_fill_53178 ⟨Nat.le_trans (Nat.le_of_ble_eq_true rfl) hfr, Nat.le_trans (Nat.le_of_ble_eq_true rfl) hlo⟩) E hP hS hl.1 rfl rfl (Nat.le_of_ble_eq_true rfl) dX0_clear_50) hS (fun H locs hP hS => ?_)
  exact hret _ hf _ _ _ _ hP hS dX0_clear_53
theorem c_X0_clear (l : Launch) {D : va_G} {a0 : Nat → Nat} {A : Nat → Prop} {cy : Nat → ClassId} {ad : Nat → Nat} {N : Nat} {K : zK} (hD : zD A N ad) {I : zI} {J : zJ} (o : Nat) (hB : zBat N K cy ad o) {rI : zI} (hf : f_X0_clear I J o = some rI) : Met l yX0_clear wsX0_clear { frames := 1, cells := 0, slots := 0, locals := 23 } (zPc D a0 A cy [.ref (ad o)] (zw N K ad I J)) (zQv D A (zw N K ad rI J)) 0 0 A :=
  zmet RX0 (by decide) rfl rfl (Nat.le_of_ble_eq_true rfl) (fun p e R s m below meth c Q hfr hlo ls S0 hQ => w_X0_clear hfr hlo hD o hB hf S0 (fun tI hq H locs ls pc hP hS hd => by cases hq; exact hQ H locs _ hS (fun hx hb hr hlocks hfree => W.vret hx hb hr (fun t ht hW => ⟨⟨(), rfl, trivial, zht ht hP⟩, hS.F ht⟩) hfree hd hlocks)))
theorem ddX0_clear : yX0_clear.cls = RX0 ∧ yX0_clear.cls ≠ "java/lang/invoke/MethodHandle" ∧ yX0_clear.cls ≠ "java/lang/invoke/VarHandle" ∧ (parseMethodDescriptor yX0_clear.desc).map (fun d => d.parameters.length) = some 0 := by decide +kernel

