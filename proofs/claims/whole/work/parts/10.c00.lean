def f_X11_within (I : zI) (J : zJ) (p1 : Int32) (p2 : Int32) (p3 : Int32) : Option Int32 := (if p1 < p2 then some 0 else (if p3 < p1 then some 0 else some 1))
set_option maxHeartbeats 4000000 in
set_option maxRecDepth 100000 in
theorem w_X11_within {p : Program} {l : Launch} {e : Env} {R : Room} {s : State} {m : MethodId} {args : Array Value} {below : List Frame} {meth : Method} {c : Code} {Q : State → Prop} (hfr : 0 ≤ R.frames) (hlo : 0 ≤ R.locals) {D : va_G} {a0 : Nat → Nat} {A : Nat → Prop} {cy : Nat → ClassId} {ad : Nat → Nat} {N : Nat} {K : zK} (hD : zD A N ad) {I : zI} {J : zJ} (p1 : Int32) (p2 : Int32) (p3 : Int32) {rx : Int32} (hf : f_X11_within I J p1 p2 p3 = some rx) {ls : Array Slot} (S0 : zSt p m c cX11_within 3 s args wsX11_within RX11 D a0 A cy (zw N K ad I J) [.int p1, .int p2, .int p3] ls) (hret : ∀ (tx : Int32), some tx = some rx → (tx = 0 ∨ tx = 1) → ∀ (H : Heap) (locs : List Loc) (ls : Array Slot) (pc : Nat), va_P D vwCl (zw N K ad I J) H → va_S A s.heap H locs → decode cX11_within pc = .ok (.ireturn, 1) → W p l e R s m args below meth c H locs 0 0 Q (F0 m pc ls [.int tx])) : W p l e R s m args below meth c s.heap [] 0 0 Q (F0 m 0 ls []) := by
  obtain ⟨S, E, hP, hl⟩ := S0
  obtain ⟨hx, hb, hml, hown, hts⟩ := id S
  have hS : va_S A s.heap s.heap [] := va_S.rf
  replace hl : lv_has ls 3 [(0, .int p1), (1, .int p2), (2, .int p3)] := hl
  unfold f_X11_within at hf
  refine lv_iload_n hx hb dX11_within_0 rfl (lv_at hl 0 rfl) ?_
  refine lv_iload_n hx hb dX11_within_1 rfl (lv_at hl 1 rfl) ?_
  refine lv_icmp_lt (tgt := 14) hx hb dX11_within_2 (by decide) (fun k1 => ?_) (fun k1 => ?_)
  · replace hf := zt k1 hf
    refine lv_iconst (v := 0) hx hb dX11_within_14 (by decide) ?_
    exact hret _ hf (Or.inl rfl) _ _ _ _ hP hS dX11_within_15
  · replace hf := zf k1 hf
    refine lv_iload_n hx hb dX11_within_5 rfl (lv_at hl 0 rfl) ?_
    refine lv_iload_n hx hb dX11_within_6 rfl (lv_at hl 2 rfl) ?_
    refine lv_icmp_gt (tgt := 14) hx hb dX11_within_7 (by decide) (fun k2 => ?_) (fun k2 => ?_)
    · replace hf := zt k2 hf
      refine lv_iconst (v := 0) hx hb dX11_within_14 (by decide) ?_
      exact hret _ hf (Or.inl rfl) _ _ _ _ hP hS dX11_within_15
    · replace hf := zf k2 hf
      refine lv_iconst (v := 1) hx hb dX11_within_10 (by decide) ?_
      refine lv_goto (tgt := 15) hx hb dX11_within_11 (by decide) ?_
      exact hret _ hf (Or.inr rfl) _ _ _ _ hP hS dX11_within_15
theorem c_X11_within (l : Launch) {D : va_G} {a0 : Nat → Nat} {A : Nat → Prop} {cy : Nat → ClassId} {ad : Nat → Nat} {N : Nat} {K : zK} (hD : zD A N ad) {I : zI} {J : zJ} (p1 : Int32) (p2 : Int32) (p3 : Int32) {rx : Int32} (hf : f_X11_within I J p1 p2 p3 = some rx) : Met l yX11_within wsX11_within { frames := 0, cells := 0, slots := 0, locals := 0 } (zPc D a0 A cy [.int p1, .int p2, .int p3] (zw N K ad I J)) (zQi D A rx (zw N K ad I J)) 0 0 A :=
  zmet RX11 (by decide) rfl rfl (Nat.le_of_ble_eq_true rfl) (fun p e R s m below meth c Q hfr hlo ls S0 hQ => w_X11_within hfr hlo hD p1 p2 p3 hf S0 (fun tx hq n01 H locs ls pc hP hS hd => by cases hq; exact hQ H locs _ hS (fun hx hb hr hlocks hfree => W.zret hx hb hr (z01 n01) (fun t ht hW => ⟨⟨_, (), rfl, rfl, zht ht hP⟩, hS.F ht⟩) hfree hd hlocks)))
theorem ddX11_within : yX11_within.cls ≠ "java/lang/invoke/MethodHandle" ∧ yX11_within.cls ≠ "java/lang/invoke/VarHandle" ∧ (parseMethodDescriptor yX11_within.desc).map (fun d => d.parameters.length) = some 3 := by decide +kernel

def f_X11_at (I : zI) (J : zJ) (q : Nat) (n : Nat) (p2 : Int32) : Option Int32 := (if p2 < 0 then some 0 else (if (nI n) ≤ p2 then some 0 else zg (¬ (p2 < 0 ∨ n ≤ p2.toNatClampNeg)) (some (I q p2.toNatClampNeg))))
set_option maxHeartbeats 4000000 in
set_option maxRecDepth 100000 in
theorem w_X11_at {p : Program} {l : Launch} {e : Env} {R : Room} {s : State} {m : MethodId} {args : Array Value} {below : List Frame} {meth : Method} {c : Code} {Q : State → Prop} (hfr : 0 ≤ R.frames) (hlo : 0 ≤ R.locals) {D : va_G} {a0 : Nat → Nat} {A : Nat → Prop} {cy : Nat → ClassId} {ad : Nat → Nat} {N : Nat} {K : zK} (hD : zD A N ad) {I : zI} {J : zJ} (q n : Nat) (hq : zIA N K (cy 1) q n) (p2 : Int32) {rx : Int32} (hf : f_X11_at I J q n p2 = some rx) {ls : Array Slot} (S0 : zSt p m c cX11_at 2 s args wsX11_at RX11 D a0 A cy (zw N K ad I J) [.ref (ad q), .int p2] ls) (hret : ∀ (tx : Int32), some tx = some rx → ∀ (H : Heap) (locs : List Loc) (ls : Array Slot) (pc : Nat), va_P D vwCl (zw N K ad I J) H → va_S A s.heap H locs → decode cX11_at pc = .ok (.ireturn, 1) → W p l e R s m args below meth c H locs 0 0 Q (F0 m pc ls [.int tx])) : W p l e R s m args below meth c s.heap [] 0 0 Q (F0 m 0 ls []) := by
  obtain ⟨S, E, hP, hl⟩ := S0
  obtain ⟨hx, hb, hml, hown, hts⟩ := id S
  have hS : va_S A s.heap s.heap [] := va_S.rf
  replace hl : lv_has ls 2 [(0, .ref (ad q)), (1, .int p2)] := hl
  unfold f_X11_at at hf
  refine lv_iload_n hx hb dX11_at_0 rfl (lv_at hl 1 rfl) ?_
  refine lv_if_lt (tgt := 16) hx hb dX11_at_1 (by decide) (fun k1 => ?_) (fun k1 => ?_)
  · replace hf := zt k1 hf
    refine lv_iconst (v := 0) hx hb dX11_at_16 (by decide) ?_
    exact hret _ hf _ _ _ _ hP hS dX11_at_17
  · replace hf := zf k1 hf
    refine lv_iload_n hx hb dX11_at_4 rfl (lv_at hl 1 rfl) ?_
    refine lv_aload_n hx hb dX11_at_5 rfl (lv_at hl 0 rfl) ?_
    refine va_alen (v := (nI n)) (ty := .int) hx hb E.1 hP q 1 (zIA.get hq) rfl rfl dX11_at_6 ?_
    refine lv_icmp_ge (tgt := 16) hx hb dX11_at_7 (by decide) (fun k2 => ?_) (fun k2 => ?_)
    · replace hf := zt k2 hf
      refine lv_iconst (v := 0) hx hb dX11_at_16 (by decide) ?_
      exact hret _ hf _ _ _ _ hP hS dX11_at_17
    · replace hf := zf k2 hf
      refine lv_aload_n hx hb dX11_at_10 rfl (lv_at hl 0 rfl) ?_
      refine lv_iload_n hx hb dX11_at_11 rfl (lv_at hl 1 rfl) ?_
      obtain ⟨g3, hf⟩ := zg_i hf
      refine va_iald hx hb E.1 hP q 1 (zIA.get hq) rfl g3 dX11_at_12 ?_
      refine lv_goto (tgt := 17) hx hb dX11_at_13 (by decide) ?_
      exact hret _ hf _ _ _ _ hP hS dX11_at_17
theorem c_X11_at (l : Launch) {D : va_G} {a0 : Nat → Nat} {A : Nat → Prop} {cy : Nat → ClassId} {ad : Nat → Nat} {N : Nat} {K : zK} (hD : zD A N ad) {I : zI} {J : zJ} (q n : Nat) (hq : zIA N K (cy 1) q n) (p2 : Int32) {rx : Int32} (hf : f_X11_at I J q n p2 = some rx) : Met l yX11_at wsX11_at { frames := 0, cells := 0, slots := 0, locals := 0 } (zPc D a0 A cy [.ref (ad q), .int p2] (zw N K ad I J)) (zQi D A rx (zw N K ad I J)) 0 0 A :=
  zmet RX11 (by decide) rfl rfl (Nat.le_of_ble_eq_true rfl) (fun p e R s m below meth c Q hfr hlo ls S0 hQ => w_X11_at hfr hlo hD q n hq p2 hf S0 (fun tx hq H locs ls pc hP hS hd => by cases hq; exact hQ H locs _ hS (fun hx hb hr hlocks hfree => W.iret hx hb hr (fun t ht hW => ⟨⟨_, (), rfl, rfl, zht ht hP⟩, hS.F ht⟩) hfree hd hlocks)))
theorem ddX11_at : yX11_at.cls ≠ "java/lang/invoke/MethodHandle" ∧ yX11_at.cls ≠ "java/lang/invoke/VarHandle" ∧ (parseMethodDescriptor yX11_at.desc).map (fun d => d.parameters.length) = some 2 := by decide +kernel

def f_X11_depthOf (I : zI) (J : zJ) (p1 : Int32) : Option Int32 := some ((p1 - p1 / 8 * 8) + 1)
set_option maxHeartbeats 4000000 in
set_option maxRecDepth 100000 in
theorem w_X11_depthOf {p : Program} {l : Launch} {e : Env} {R : Room} {s : State} {m : MethodId} {args : Array Value} {below : List Frame} {meth : Method} {c : Code} {Q : State → Prop} (hfr : 0 ≤ R.frames) (hlo : 0 ≤ R.locals) {D : va_G} {a0 : Nat → Nat} {A : Nat → Prop} {cy : Nat → ClassId} {ad : Nat → Nat} {N : Nat} {K : zK} (hD : zD A N ad) {I : zI} {J : zJ} (p1 : Int32) {rx : Int32} (hf : f_X11_depthOf I J p1 = some rx) {ls : Array Slot} (S0 : zSt p m c cX11_depthOf 1 s args wsX11_depthOf RX11 D a0 A cy (zw N K ad I J) [.int p1] ls) (hret : ∀ (tx : Int32), some tx = some rx → ∀ (H : Heap) (locs : List Loc) (ls : Array Slot) (pc : Nat), va_P D vwCl (zw N K ad I J) H → va_S A s.heap H locs → decode cX11_depthOf pc = .ok (.ireturn, 1) → W p l e R s m args below meth c H locs 0 0 Q (F0 m pc ls [.int tx])) : W p l e R s m args below meth c s.heap [] 0 0 Q (F0 m 0 ls []) := by
  obtain ⟨S, E, hP, hl⟩ := S0
  obtain ⟨hx, hb, hml, hown, hts⟩ := id S
  have hS : va_S A s.heap s.heap [] := va_S.rf
  replace hl : lv_has ls 1 [(0, .int p1)] := hl
  unfold f_X11_depthOf at hf
  refine lv_iload_n hx hb dX11_depthOf_0 rfl (lv_at hl 0 rfl) ?_
  refine lv_bipush (v := 8) hx hb dX11_depthOf_1 (by decide) ?_
  refine lv_irem hx hb dX11_depthOf_3 (by decide) ?_
  refine lv_iconst (v := 1) hx hb dX11_depthOf_4 (by decide) ?_
  refine lv_iadd hx hb dX11_depthOf_5 ?_
  exact hret _ hf _ _ _ _ hP hS dX11_depthOf_6
theorem c_X11_depthOf (l : Launch) {D : va_G} {a0 : Nat → Nat} {A : Nat → Prop} {cy : Nat → ClassId} {ad : Nat → Nat} {N : Nat} {K : zK} (hD : zD A N ad) {I : zI} {J : zJ} (p1 : Int32) {rx : Int32} (hf : f_X11_depthOf I J p1 = some rx) : Met l yX11_depthOf wsX11_depthOf { frames := 0, cells := 0, slots := 0, locals := 0 } (zPc D a0 A cy [.int p1] (zw N K ad I J)) (zQi D A rx (zw N K ad I J)) 0 0 A :=
  zmet RX11 (by decide) rfl rfl (Nat.le_of_ble_eq_true rfl) (fun p e R s m below meth c Q hfr hlo ls S0 hQ => w_X11_depthOf hfr hlo hD p1 hf S0 (fun tx hq H locs ls pc hP hS hd => by cases hq; exact hQ H locs _ hS (fun hx hb hr hlocks hfree => W.iret hx hb hr (fun t ht hW => ⟨⟨_, (), rfl, rfl, zht ht hP⟩, hS.F ht⟩) hfree hd hlocks)))
theorem ddX11_depthOf : yX11_depthOf.cls ≠ "java/lang/invoke/MethodHandle" ∧ yX11_depthOf.cls ≠ "java/lang/invoke/VarHandle" ∧ (parseMethodDescriptor yX11_depthOf.desc).map (fun d => d.parameters.length) = some 1 := by decide +kernel

def f_X11_speedOf (I : zI) (J : zJ) (p1 : Int32) : Option Int32 := some (p1 / 8)
set_option maxHeartbeats 4000000 in
set_option maxRecDepth 100000 in
theorem w_X11_speedOf {p : Program} {l : Launch} {e : Env} {R : Room} {s : State} {m : MethodId} {args : Array Value} {below : List Frame} {meth : Method} {c : Code} {Q : State → Prop} (hfr : 0 ≤ R.frames) (hlo : 0 ≤ R.locals) {D : va_G} {a0 : Nat → Nat} {A : Nat → Prop} {cy : Nat → ClassId} {ad : Nat → Nat} {N : Nat} {K : zK} (hD : zD A N ad) {I : zI} {J : zJ} (p1 : Int32) {rx : Int32} (hf : f_X11_speedOf I J p1 = some rx) {ls : Array Slot} (S0 : zSt p m c cX11_speedOf 1 s args wsX11_speedOf RX11 D a0 A cy (zw N K ad I J) [.int p1] ls) (hret : ∀ (tx : Int32), some tx = some rx → ∀ (H : Heap) (locs : List Loc) (ls : Array Slot) (pc : Nat), va_P D vwCl (zw N K ad I J) H → va_S A s.heap H locs → decode cX11_speedOf pc = .ok (.ireturn, 1) → W p l e R s m args below meth c H locs 0 0 Q (F0 m pc ls [.int tx])) : W p l e R s m args below meth c s.heap [] 0 0 Q (F0 m 0 ls []) := by
  obtain ⟨S, E, hP, hl⟩ := S0
  obtain ⟨hx, hb, hml, hown, hts⟩ := id S
  have hS : va_S A s.heap s.heap [] := va_S.rf
  replace hl : lv_has ls 1 [(0, .int p1)] := hl
  unfold f_X11_speedOf at hf
  refine lv_iload_n hx hb dX11_speedOf_0 rfl (lv_at hl 0 rfl) ?_
  refine lv_bipush (v := 8) hx hb dX11_speedOf_1 (by decide) ?_
  refine lv_idiv hx hb dX11_speedOf_3 (by decide) ?_
  exact hret _ hf _ _ _ _ hP hS dX11_speedOf_4
theorem c_X11_speedOf (l : Launch) {D : va_G} {a0 : Nat → Nat} {A : Nat → Prop} {cy : Nat → ClassId} {ad : Nat → Nat} {N : Nat} {K : zK} (hD : zD A N ad) {I : zI} {J : zJ} (p1 : Int32) {rx : Int32} (hf : f_X11_speedOf I J p1 = some rx) : Met l yX11_speedOf wsX11_speedOf { frames := 0, cells := 0, slots := 0, locals := 0 } (zPc D a0 A cy [.int p1] (zw N K ad I J)) (zQi D A rx (zw N K ad I J)) 0 0 A :=
  zmet RX11 (by decide) rfl rfl (Nat.le_of_ble_eq_true rfl) (fun p e R s m below meth c Q hfr hlo ls S0 hQ => w_X11_speedOf hfr hlo hD p1 hf S0 (fun tx hq H locs ls pc hP hS hd => by cases hq; exact hQ H locs _ hS (fun hx hb hr hlocks hfree => W.iret hx hb hr (fun t ht hW => ⟨⟨_, (), rfl, rfl, zht ht hP⟩, hS.F ht⟩) hfree hd hlocks)))
theorem ddX11_speedOf : yX11_speedOf.cls ≠ "java/lang/invoke/MethodHandle" ∧ yX11_speedOf.cls ≠ "java/lang/invoke/VarHandle" ∧ (parseMethodDescriptor yX11_speedOf.desc).map (fun d => d.parameters.length) = some 1 := by decide +kernel

def f_X8_append_L21 (p2 : Int64) (x4 : Int32) (I5 : zI) : Option ((Int32 × zI) ⊕ zI) := (if x4 < 0 then some (.inr I5) else zg (¬ ((I5 1 2) < 0 ∨ 500 ≤ (I5 1 2).toNatClampNeg)) (zn (va_up I5 2 (upd (I5 2) (I5 1 2).toNatClampNeg (vp_nar .byte ((((p2.toUInt64 >>> ((8 * x4).toInt64.toUInt64 &&& Int64.toUInt64 63)).toInt64).toInt32).toInt8.toInt32)))) (fun I7 => zn (va_up I7 1 (va_up (I7 1) 2 ((I7 1 2) + 1))) (fun I9 => zn (x4 + (-1)) (fun y10 => some (.inl (y10, I9)))))))
def f_X8_append (I : zI) (J : zJ) (p1 : Int32) (p2 : Int64) : Option (Int32 × zI) := (if ((I 1 2) + p1) ≤ 500 then zn ((p1 - 1)) (fun y2 => zb1 (zl (fun v : (Int32 × zI) => f_X8_append_L21 p2 v.1 v.2) zF (y2, I)) (fun I11 => some (1, I11))) else some (0, I))
theorem hinX8_append_X8 : ∀ w ∈ u_ws RX8 TX8 4, w ∈ wsX8_append := by decide +kernel
set_option maxHeartbeats 4000000 in
set_option maxRecDepth 100000 in
theorem w_X8_append {p : Program} {l : Launch} {e : Env} {R : Room} {s : State} {m : MethodId} {args : Array Value} {below : List Frame} {meth : Method} {c : Code} {Q : State → Prop} (hfr : 0 ≤ R.frames) (hlo : 0 ≤ R.locals) {D : va_G} {a0 : Nat → Nat} {A : Nat → Prop} {cy : Nat → ClassId} {ad : Nat → Nat} (hD : zD A 74 ad) {I : zI} {J : zJ} (p1 : Int32) (p2 : Int64) {rx : Int32} {rI : zI} (hf : f_X8_append I J p1 p2 = some (rx, rI)) {ls : Array Slot} (S0 : zSt p m c cX8_append 5 s args wsX8_append RX8 D a0 A cy (zw 74 (kC cy ad a0) ad I J) [.ref (ad 1), .int p1, .long p2] ls) (hret : ∀ (tx : Int32) (tI : zI), some (tx, tI) = some (rx, rI) → (tx = 0 ∨ tx = 1) → ∀ (H : Heap) (locs : List Loc) (ls : Array Slot) (pc : Nat), va_P D vwCl (zw 74 (kC cy ad a0) ad tI J) H → va_S A s.heap H locs → decode cX8_append pc = .ok (.ireturn, 1) → W p l e R s m args below meth c H locs 0 0 Q (F0 m pc ls [.int tx])) : W p l e R s m args below meth c s.heap [] 0 0 Q (F0 m 0 ls []) := by
  obtain ⟨S, E, hP, hl⟩ := S0
  obtain ⟨hx, hb, hml, hown, hts⟩ := id S
  have hS : va_S A s.heap s.heap [] := va_S.rf
  replace hl : lv_has ls 5 [(0, .ref (ad 1)), (1, .int p1), (2, .long p2)] := hl
  unfold f_X8_append at hf
  refine lv_aload_n hx hb dX8_append_0 rfl (lv_at hl 0 rfl) ?_
  refine va_get (D := D) (ci := 7) (v := .int (I 1 2)) (C := RX8) (T := TX8) (N := 4) hx hb hts hinX8_append_X8 hown E.1 hP 1 (zO.get (oX8_at)) rfl 2 (by decide) (hts (.fieldLink RX8 19 "EdgeAndSpeed$Text" "length" "I") (by decide +kernel)) (fun _ h9 => h9) rfl dX8_append_1 ?_
  refine lv_iload_n hx hb dX8_append_4 rfl (lv_at hl 1 rfl) ?_
  refine lv_iadd hx hb dX8_append_5 ?_
  refine lv_aload_n hx hb dX8_append_6 rfl (lv_at hl 0 rfl) ?_
  refine va_get (D := D) (ci := 7) (v := .ref (ad 2)) (C := RX8) (T := TX8) (N := 4) hx hb hts hinX8_append_X8 hown E.1 hP 1 (zO.get (oX8_at)) rfl 0 (by decide) (hts (.fieldLink RX8 9 "EdgeAndSpeed$Text" "bytes" "[B") (by decide +kernel)) (fun _ h9 => h9) rfl dX8_append_7 ?_
  refine va_alen (v := 500) (ty := .byte) hx hb E.1 hP 2 0 (zIA.get (aX8_0)) rfl rfl dX8_append_10 ?_
  refine lv_icmp_le (tgt := 16) hx hb dX8_append_11 (by decide) (fun k1 => ?_) (fun k1 => ?_)
  · replace hf := zt k1 hf
    refine lv_iload_n hx hb dX8_append_16 rfl (lv_at hl 1 rfl) ?_
    refine lv_iconst (v := 1) hx hb dX8_append_17 (by decide) ?_
    refine lv_isub hx hb dX8_append_18 ?_
    refine lv_topi (fun y2 ey2 => ?_)
    replace hf := zn_s ey2 hf
    refine lv_istore (lv' := [(4, .int y2), (0, .ref (ad 1)), (1, .int p1), (2, .long p2)]) hx hb dX8_append_19 hl (by decide) rfl (fun ls hl => ?_)
    obtain ⟨zl3, hf, hzl3⟩ := zb1_i hf
    have hjl3 : ∀ (I11 : zI), I11 = zl3 → ∀ (H : Heap) (locs : List Loc) (ls : Array Slot), va_P D vwCl (zw 74 (kC cy ad a0) ad I11 J) H → va_S A s.heap H locs → lv_has ls 5 [] → W p l e R s m args below meth c H locs 0 0 Q (F0 m 60 ls []) := by
      intro I11 ez H locs ls hP hS hl
      have hf := hzl3 I11 ez
      refine lv_iconst (v := 1) hx hb dX8_append_60 (by decide) ?_
      exact hret _ _ hf (Or.inr rfl) _ _ _ _ hP hS dX8_append_61
    refine zl_i (V := (Int32 × zI)) (P := fun v => ∀ (H : Heap) (locs : List Loc) (ls : Array Slot), va_P D vwCl (zw 74 (kC cy ad a0) ad v.2 J) H → va_S A s.heap H locs → lv_has ls 5 [(0, .ref (ad 1)), (2, .long p2), (4, .int (v.1))] → W p l e R s m args below meth c H locs 0 0 Q (F0 m 21 ls [])) ?_ _ _ hf _ _ _ hP hS (lv_sub hl [1, 3, 0] rfl)
    intro v z hf hcl3 hdl3
    obtain ⟨x4, I5⟩ := v
    intro H locs ls hP hS hl
    replace hf : f_X8_append_L21 p2 x4 I5 = some z := hf
    unfold f_X8_append_L21 at hf
    replace hP : va_P D vwCl (zw 74 (kC cy ad a0) ad I5 J) H := hP
    replace hl : lv_has ls 5 [(0, .ref (ad 1)), (2, .long p2), (4, .int x4)] := hl
    refine lv_iload hx hb dX8_append_21 (lv_at hl 2 rfl) ?_
    refine lv_if_lt (tgt := 60) hx hb dX8_append_23 (by decide) (fun k6 => ?_) (fun k6 => ?_)
    · replace hf := zt k6 hf
      exact hjl3 _ (hdl3 _ (Option.some.inj hf).symm) _ _ _ hP hS (lv_sub hl [] rfl)
    · replace hf := zf k6 hf
      refine lv_aload_n hx hb dX8_append_26 rfl (lv_at hl 0 rfl) ?_
      refine va_get (D := D) (ci := 7) (v := .ref (ad 2)) (C := RX8) (T := TX8) (N := 4) hx hb hts hinX8_append_X8 hown E.1 hP 1 (zO.get (oX8_at)) rfl 0 (by decide) (hts (.fieldLink RX8 9 "EdgeAndSpeed$Text" "bytes" "[B") (by decide +kernel)) (fun _ h9 => h9) rfl dX8_append_27 ?_
      refine lv_aload_n hx hb dX8_append_30 rfl (lv_at hl 0 rfl) ?_
      refine va_get (D := D) (ci := 7) (v := .int (I5 1 2)) (C := RX8) (T := TX8) (N := 4) hx hb hts hinX8_append_X8 hown E.1 hP 1 (zO.get (oX8_at)) rfl 2 (by decide) (hts (.fieldLink RX8 19 "EdgeAndSpeed$Text" "length" "I") (by decide +kernel)) (fun _ h9 => h9) rfl dX8_append_31 ?_
      refine lv_lload_n hx hb dX8_append_34 rfl (lv_at hl 1 rfl) ?_
      refine lv_bipush (v := 8) hx hb dX8_append_35 (by decide) ?_
      refine lv_iload hx hb dX8_append_37 (lv_at hl 2 rfl) ?_
      refine lv_imul hx hb dX8_append_39 ?_
      refine lv_lushr hx hb dX8_append_40 rfl ?_
      refine lv_l2i hx hb dX8_append_41 rfl ?_
      refine lv_i2b hx hb dX8_append_42 rfl ?_
      obtain ⟨g8, hf⟩ := zg_i hf
      obtain ⟨I7, eI7⟩ := zex (va_up I5 2 (upd (I5 2) (I5 1 2).toNatClampNeg (vp_nar .byte ((((p2.toUInt64 >>> ((8 * x4).toInt64.toUInt64 &&& Int64.toUInt64 63)).toInt64).toInt32).toInt8.toInt32))))
      replace hf := zn_s eI7 hf
      refine zast_b hx hb E.1 hP hD.D hS (aX8_0) g8 dX8_append_43 eI7 (fun H locs hP hS => ?_)
      refine lv_aload_n hx hb dX8_append_44 rfl (lv_at hl 0 rfl) ?_
      refine lv_dup hx hb dX8_append_45 rfl ?_
      refine va_get (D := D) (ci := 7) (v := .int (I7 1 2)) (C := RX8) (T := TX8) (N := 4) hx hb hts hinX8_append_X8 hown E.1 hP 1 (zO.get (oX8_at)) rfl 2 (by decide) (hts (.fieldLink RX8 19 "EdgeAndSpeed$Text" "length" "I") (by decide +kernel)) (fun _ h9 => h9) rfl dX8_append_46 ?_
      refine lv_iconst (v := 1) hx hb dX8_append_49 (by decide) ?_
      refine lv_iadd hx hb dX8_append_50 ?_
      obtain ⟨I9, eI9⟩ := zex (va_up I7 1 (va_up (I7 1) 2 ((I7 1 2) + 1)))
      replace hf := zn_s eI9 hf
      refine zput (D := D) (ci := 7) (v := .int ((I7 1 2) + 1)) (ty := .int) (C := RX8) (T := TX8) (N := 4) hx hb hts hinX8_append_X8 tyX8 tyX8_ok nmX8 hown E.1 hP hD.D hS 1 (zO.get (oX8_at)) rfl 2 (by decide) (hts (.fieldLink RX8 19 "EdgeAndSpeed$Text" "length" "I") (by decide +kernel)) (fun _ h9 => h9) rfl (tyX8_ok 2 (by decide)) rfl rfl (Nat.le_of_ble_eq_true rfl) dX8_append_51 (zO.setI (oX8_at) rfl eI9) (fun H locs hP hS => ?_)
      obtain ⟨y10, ey10⟩ := zex (x4 + (-1))
      replace hf := zn_s ey10 hf
      refine lv_iinc (v := y10) (lv' := [(4, .int y10), (0, .ref (ad 1)), (2, .long p2)]) hx hb dX8_append_54 hl (k := 2) rfl (by rw [ey10]; rfl) (by decide) rfl (fun ls hl => ?_)
      refine lv_goto (tgt := 21) hx hb dX8_append_57 (by decide) ?_
      exact hcl3 _ (Option.some.inj hf).symm _ _ _ hP hS (lv_sub hl [1, 2, 0] rfl)
  · replace hf := zf k1 hf
    refine lv_iconst (v := 0) hx hb dX8_append_14 (by decide) ?_
    exact hret _ _ hf (Or.inl rfl) _ _ _ _ hP hS dX8_append_15
theorem c_X8_append (l : Launch) {D : va_G} {a0 : Nat → Nat} {A : Nat → Prop} {cy : Nat → ClassId} {ad : Nat → Nat} (hD : zD A 74 ad) {I : zI} {J : zJ} (p1 : Int32) (p2 : Int64) {rx : Int32} {rI : zI} (hf : f_X8_append I J p1 p2 = some (rx, rI)) : Met l yX8_append wsX8_append { frames := 0, cells := 0, slots := 0, locals := 0 } (zPc D a0 A cy [.ref (ad 1), .int p1, .long p2] (zw 74 (kC cy ad a0) ad I J)) (zQi D A rx (zw 74 (kC cy ad a0) ad rI J)) 0 0 A :=
  zmet RX8 (by decide) rfl rfl (Nat.le_of_ble_eq_true rfl) (fun p e R s m below meth c Q hfr hlo ls S0 hQ => w_X8_append hfr hlo hD p1 p2 hf S0 (fun tx tI hq n01 H locs ls pc hP hS hd => by cases hq; exact hQ H locs _ hS (fun hx hb hr hlocks hfree => W.zret hx hb hr (z01 n01) (fun t ht hW => ⟨⟨_, (), rfl, rfl, zht ht hP⟩, hS.F ht⟩) hfree hd hlocks)))
theorem ddX8_append : yX8_append.cls = RX8 ∧ yX8_append.cls ≠ "java/lang/invoke/MethodHandle" ∧ yX8_append.cls ≠ "java/lang/invoke/VarHandle" ∧ (parseMethodDescriptor yX8_append.desc).map (fun d => d.parameters.length) = some 2 := by decide +kernel

def f_X11_write (I : zI) (J : zJ) (p1 : Int32) (p2 : Int64) : Option (Int32 × zI) := zb1 (f_X11_within I J p1 1 8) (fun x1 => (if x1 = 0 then some ((-1), I) else zb2 (f_X8_append I J p1 p2) (fun x4 I5 => (if x4 = 0 then some ((-3), I5) else some ((I5 1 2), I5)))))
theorem hinX11_write_X11 : ∀ w ∈ u_ws RX11 TX11 12, w ∈ wsX11_write := by decide +kernel
theorem hinX11_write_X8 : ∀ w ∈ u_ws RX8 TX8 4, w ∈ wsX11_write := by decide +kernel
set_option maxHeartbeats 4000000 in
set_option maxRecDepth 100000 in
theorem w_X11_write {p : Program} {l : Launch} {e : Env} {R : Room} {s : State} {m : MethodId} {args : Array Value} {below : List Frame} {meth : Method} {c : Code} {Q : State → Prop} (hfr : 1 ≤ R.frames) (hlo : 24 ≤ R.locals) {D : va_G} {a0 : Nat → Nat} {A : Nat → Prop} {cy : Nat → ClassId} {ad : Nat → Nat} (hD : zD A 74 ad) {I : zI} {J : zJ} (p1 : Int32) (p2 : Int64) {rx : Int32} {rI : zI} (hf : f_X11_write I J p1 p2 = some (rx, rI)) {ls : Array Slot} (S0 : zSt p m c cX11_write 4 s args wsX11_write RX11 D a0 A cy (zw 74 (kC cy ad a0) ad I J) [.ref (ad 0), .int p1, .long p2] ls) (hret : ∀ (tx : Int32) (tI : zI), some (tx, tI) = some (rx, rI) → ∀ (H : Heap) (locs : List Loc) (ls : Array Slot) (pc : Nat), va_P D vwCl (zw 74 (kC cy ad a0) ad tI J) H → va_S A s.heap H locs → decode cX11_write pc = .ok (.ireturn, 1) → W p l e R s m args below meth c H locs 0 0 Q (F0 m pc ls [.int tx])) : W p l e R s m args below meth c s.heap [] 0 0 Q (F0 m 0 ls []) := by
  obtain ⟨S, E, hP, hl⟩ := S0
  obtain ⟨hx, hb, hml, hown, hts⟩ := id S
  have hS : va_S A s.heap s.heap [] := va_S.rf
  replace hl : lv_has ls 4 [(0, .ref (ad 0)), (1, .int p1), (2, .long p2)] := hl
  unfold f_X11_write at hf
  refine lv_iload_n hx hb dX11_write_0 rfl (lv_at hl 1 rfl) ?_
  refine lv_iconst (v := 1) hx hb dX11_write_1 (by decide) ?_
  refine lv_bipush (v := 8) hx hb dX11_write_2 (by decide) ?_
  obtain ⟨x1, h2, hf⟩ := zb1_e hf
  refine zgo_i (zrunS (As := [.int p1, .int 1, .int 8]) (rest := []) S (c_X11_within l hD p1 1 8 h2) (va_cwS 3 hts gX11_write_X11_within rfl rfl rfl ddX11_within ⟨Nat.le_trans (Nat.le_of_ble_eq_true rfl) hfr, Nat.le_trans (Nat.le_of_ble_eq_true rfl) hlo⟩) E hP hS hl.1 rfl rfl (Nat.le_of_ble_eq_true rfl) dX11_write_4) hS (fun H locs hP hS => ?_)
  refine lv_if_ne (tgt := 12) hx hb dX11_write_7 (by decide) (fun k3 => ?_) (fun k3 => ?_)
  · replace hf := zf k3 hf
    refine lv_aload_n hx hb dX11_write_12 rfl (lv_at hl 0 rfl) ?_
    refine va_get (D := D) (ci := 10) (v := .ref (ad 1)) (C := RX11) (T := TX11) (N := 12) hx hb hts hinX11_write_X11 hown E.1 hP 0 (zO.get (oX11_at)) rfl 0 (by decide) (hts (.fieldLink RX11 12 "EdgeAndSpeed" "text" "LEdgeAndSpeed$Text;") (by decide +kernel)) (fun _ h9 => h9) rfl dX11_write_13 ?_
    refine lv_iload_n hx hb dX11_write_16 rfl (lv_at hl 1 rfl) ?_
    refine lv_lload_n hx hb dX11_write_17 rfl (lv_at hl 2 rfl) ?_
    obtain ⟨x4, I5, h6, hf⟩ := zb2_e hf
    refine zgo_i (zrunV (As := [.int p1, .long p2]) (rest := []) S (c_X8_append l hD p1 p2 h6) (cwV 2 hts gX11_write_X8_append rfl rfl rfl ddX8_append ⟨Nat.le_trans (Nat.le_of_ble_eq_true rfl) hfr, Nat.le_trans (Nat.le_of_ble_eq_true rfl) hlo⟩) (va_recv E.1 hP (q := (RX8, TX8, 4)) (ci := 7) rfl (zO.get (oX8_at))) E hP hS hl.1 rfl rfl (Nat.le_of_ble_eq_true rfl) dX11_write_18) hS (fun H locs hP hS => ?_)
    refine lv_if_eq (tgt := 34) hx hb dX11_write_21 (by decide) (fun k7 => ?_) (fun k7 => ?_)
    · replace hf := zt k7 hf
      refine lv_bipush (v := (-3)) hx hb dX11_write_34 (by decide) ?_
      exact hret _ _ hf _ _ _ _ hP hS dX11_write_36
    · replace hf := zf k7 hf
      refine lv_aload_n hx hb dX11_write_24 rfl (lv_at hl 0 rfl) ?_
      refine va_get (D := D) (ci := 10) (v := .ref (ad 1)) (C := RX11) (T := TX11) (N := 12) hx hb hts hinX11_write_X11 hown E.1 hP 0 (zO.get (oX11_at)) rfl 0 (by decide) (hts (.fieldLink RX11 12 "EdgeAndSpeed" "text" "LEdgeAndSpeed$Text;") (by decide +kernel)) (fun _ h9 => h9) rfl dX11_write_25 ?_
      refine va_getN (D := D) (ci := 7) (v := .int (I5 1 2)) (C := RX8) (T := TX8) (N := 4) hx hb hts hinX11_write_X8 hown E.1 hP 1 (zO.get (oX8_at)) rfl 2 (by decide) (zNfw_0 E.2.2) (fun _ h9 => h9) rfl dX11_write_28 ?_
      refine lv_goto (tgt := 36) hx hb dX11_write_31 (by decide) ?_
      exact hret _ _ hf _ _ _ _ hP hS dX11_write_36
  · replace hf := zt k3 hf
    refine lv_iconst (v := (-1)) hx hb dX11_write_10 (by decide) ?_
    exact hret _ _ hf _ _ _ _ hP hS dX11_write_11
theorem c_X11_write (l : Launch) {D : va_G} {a0 : Nat → Nat} {A : Nat → Prop} {cy : Nat → ClassId} {ad : Nat → Nat} (hD : zD A 74 ad) {I : zI} {J : zJ} (p1 : Int32) (p2 : Int64) {rx : Int32} {rI : zI} (hf : f_X11_write I J p1 p2 = some (rx, rI)) : Met l yX11_write wsX11_write { frames := 1, cells := 0, slots := 0, locals := 24 } (zPc D a0 A cy [.ref (ad 0), .int p1, .long p2] (zw 74 (kC cy ad a0) ad I J)) (zQi D A rx (zw 74 (kC cy ad a0) ad rI J)) 0 0 A :=
  zmet RX11 (by decide) rfl rfl (Nat.le_of_ble_eq_true rfl) (fun p e R s m below meth c Q hfr hlo ls S0 hQ => w_X11_write hfr hlo hD p1 p2 hf S0 (fun tx tI hq H locs ls pc hP hS hd => by cases hq; exact hQ H locs _ hS (fun hx hb hr hlocks hfree => W.iret hx hb hr (fun t ht hW => ⟨⟨_, (), rfl, rfl, zht ht hP⟩, hS.F ht⟩) hfree hd hlocks)))
theorem ddX11_write : yX11_write.cls = RX11 ∧ yX11_write.cls ≠ "java/lang/invoke/MethodHandle" ∧ yX11_write.cls ≠ "java/lang/invoke/VarHandle" ∧ (parseMethodDescriptor yX11_write.desc).map (fun d => d.parameters.length) = some 2 := by decide +kernel

def f_X11_wipe (I : zI) (J : zJ) : Option (Int32 × zI) := zn ((I 1 2)) (fun y1 => zn (va_up I 1 (va_up (I 1) 2 0)) (fun I2 => some (y1, I2)))
theorem hinX11_wipe_X11 : ∀ w ∈ u_ws RX11 TX11 12, w ∈ wsX11_wipe := by decide +kernel
theorem hinX11_wipe_X8 : ∀ w ∈ u_ws RX8 TX8 4, w ∈ wsX11_wipe := by decide +kernel
set_option maxHeartbeats 4000000 in
set_option maxRecDepth 100000 in
theorem w_X11_wipe {p : Program} {l : Launch} {e : Env} {R : Room} {s : State} {m : MethodId} {args : Array Value} {below : List Frame} {meth : Method} {c : Code} {Q : State → Prop} (hfr : 0 ≤ R.frames) (hlo : 0 ≤ R.locals) {D : va_G} {a0 : Nat → Nat} {A : Nat → Prop} {cy : Nat → ClassId} {ad : Nat → Nat} (hD : zD A 74 ad) {I : zI} {J : zJ}  {rx : Int32} {rI : zI} (hf : f_X11_wipe I J = some (rx, rI)) {ls : Array Slot} (S0 : zSt p m c cX11_wipe 2 s args wsX11_wipe RX11 D a0 A cy (zw 74 (kC cy ad a0) ad I J) [.ref (ad 0)] ls) (hret : ∀ (tx : Int32) (tI : zI), some (tx, tI) = some (rx, rI) → ∀ (H : Heap) (locs : List Loc) (ls : Array Slot) (pc : Nat), va_P D vwCl (zw 74 (kC cy ad a0) ad tI J) H → va_S A s.heap H locs → decode cX11_wipe pc = .ok (.ireturn, 1) → W p l e R s m args below meth c H locs 0 0 Q (F0 m pc ls [.int tx])) : W p l e R s m args below meth c s.heap [] 0 0 Q (F0 m 0 ls []) := by
  obtain ⟨S, E, hP, hl⟩ := S0
  obtain ⟨hx, hb, hml, hown, hts⟩ := id S
  have hS : va_S A s.heap s.heap [] := va_S.rf
  replace hl : lv_has ls 2 [(0, .ref (ad 0))] := hl
  unfold f_X11_wipe at hf
  refine lv_aload_n hx hb dX11_wipe_0 rfl (lv_at hl 0 rfl) ?_
  refine va_get (D := D) (ci := 10) (v := .ref (ad 1)) (C := RX11) (T := TX11) (N := 12) hx hb hts hinX11_wipe_X11 hown E.1 hP 0 (zO.get (oX11_at)) rfl 0 (by decide) (hts (.fieldLink RX11 12 "EdgeAndSpeed" "text" "LEdgeAndSpeed$Text;") (by decide +kernel)) (fun _ h9 => h9) rfl dX11_wipe_1 ?_
  refine va_getN (D := D) (ci := 7) (v := .int (I 1 2)) (C := RX8) (T := TX8) (N := 4) hx hb hts hinX11_wipe_X8 hown E.1 hP 1 (zO.get (oX8_at)) rfl 2 (by decide) (zNfw_0 E.2.2) (fun _ h9 => h9) rfl dX11_wipe_4 ?_
  refine lv_topi (fun y1 ey1 => ?_)
  replace hf := zn_s ey1 hf
  refine lv_istore_n (lv' := [(1, .int y1), (0, .ref (ad 0))]) hx hb dX11_wipe_7 rfl hl (by decide) rfl (fun ls hl => ?_)
  refine lv_aload_n hx hb dX11_wipe_8 rfl (lv_at hl 1 rfl) ?_
  refine va_get (D := D) (ci := 10) (v := .ref (ad 1)) (C := RX11) (T := TX11) (N := 12) hx hb hts hinX11_wipe_X11 hown E.1 hP 0 (zO.get (oX11_at)) rfl 0 (by decide) (hts (.fieldLink RX11 12 "EdgeAndSpeed" "text" "LEdgeAndSpeed$Text;") (by decide +kernel)) (fun _ h9 => h9) rfl dX11_wipe_9 ?_
  refine lv_iconst (v := 0) hx hb dX11_wipe_12 (by decide) ?_
  obtain ⟨I2, eI2⟩ := zex (va_up I 1 (va_up (I 1) 2 0))
  replace hf := zn_s eI2 hf
  refine zputN (D := D) (ci := 7) (v := .int 0) (ty := .int) (C := RX8) (T := TX8) (N := 4) hx hb hts hinX11_wipe_X8 tyX8 tyX8_ok nmX8 hown E.1 hP hD.D hS 1 (zO.get (oX8_at)) rfl 2 (by decide) (zNfw_0 E.2.2) (fun _ h9 => h9) rfl (tyX8_ok 2 (by decide)) rfl rfl (Nat.le_of_ble_eq_true rfl) dX11_wipe_13 (zO.setI (oX8_at) rfl eI2) (fun H locs hP hS => ?_)
  refine lv_iload_n hx hb dX11_wipe_16 rfl (lv_at hl 0 rfl) ?_
  exact hret _ _ hf _ _ _ _ hP hS dX11_wipe_17
theorem c_X11_wipe (l : Launch) {D : va_G} {a0 : Nat → Nat} {A : Nat → Prop} {cy : Nat → ClassId} {ad : Nat → Nat} (hD : zD A 74 ad) {I : zI} {J : zJ}  {rx : Int32} {rI : zI} (hf : f_X11_wipe I J = some (rx, rI)) : Met l yX11_wipe wsX11_wipe { frames := 0, cells := 0, slots := 0, locals := 0 } (zPc D a0 A cy [.ref (ad 0)] (zw 74 (kC cy ad a0) ad I J)) (zQi D A rx (zw 74 (kC cy ad a0) ad rI J)) 0 0 A :=
  zmet RX11 (by decide) rfl rfl (Nat.le_of_ble_eq_true rfl) (fun p e R s m below meth c Q hfr hlo ls S0 hQ => w_X11_wipe hfr hlo hD  hf S0 (fun tx tI hq H locs ls pc hP hS hd => by cases hq; exact hQ H locs _ hS (fun hx hb hr hlocks hfree => W.iret hx hb hr (fun t ht hW => ⟨⟨_, (), rfl, rfl, zht ht hP⟩, hS.F ht⟩) hfree hd hlocks)))
theorem ddX11_wipe : yX11_wipe.cls = RX11 ∧ yX11_wipe.cls ≠ "java/lang/invoke/MethodHandle" ∧ yX11_wipe.cls ≠ "java/lang/invoke/VarHandle" ∧ (parseMethodDescriptor yX11_wipe.desc).map (fun d => d.parameters.length) = some 0 := by decide +kernel

def f_J7_fill_53178_L5 (y1 : Int32) (n : Nat) (q : Nat) (p2 : Int32) (x3 : Int32) (I4 : zI) : Option ((Int32 × zI) ⊕ zI) := (if y1 ≤ x3 then some (.inr I4) else zg (¬ (x3 < 0 ∨ n ≤ x3.toNatClampNeg)) (zn (va_up I4 q (upd (I4 q) x3.toNatClampNeg p2)) (fun I6 => zn (x3 + 1) (fun y8 => some (.inl (y8, I6))))))
def f_J7_fill_53178 (I : zI) (J : zJ) (q : Nat) (n : Nat) (p2 : Int32) : Option zI := zn ((nI n)) (fun y1 => zb1 (zl (fun v : (Int32 × zI) => f_J7_fill_53178_L5 y1 n q p2 v.1 v.2) zF (0, I)) (fun I9 => some I9))
set_option maxHeartbeats 4000000 in
set_option maxRecDepth 100000 in
theorem w_J7_fill_53178 {p : Program} {l : Launch} {e : Env} {R : Room} {s : State} {m : MethodId} {args : Array Value} {below : List Frame} {meth : Method} {c : Code} {Q : State → Prop} (hfr : 0 ≤ R.frames) (hlo : 0 ≤ R.locals) {D : va_G} {a0 : Nat → Nat} {A : Nat → Prop} {cy : Nat → ClassId} {ad : Nat → Nat} {N : Nat} {K : zK} (hD : zD A N ad) {I : zI} {J : zJ} (q n : Nat) (hq : zIA N K (cy 1) q n) (p2 : Int32) {rI : zI} (hf : f_J7_fill_53178 I J q n p2 = some rI) {ls : Array Slot} (S0 : zSt p m c cJ7_fill_53178 4 s args wsJ7_fill_53178 RJ7 D a0 A cy (zw N K ad I J) [.ref (ad q), .int p2] ls) (hret : ∀ (tI : zI), some tI = some rI → ∀ (H : Heap) (locs : List Loc) (ls : Array Slot) (pc : Nat), va_P D vwCl (zw N K ad tI J) H → va_S A s.heap H locs → decode cJ7_fill_53178 pc = .ok (.return_, 1) → W p l e R s m args below meth c H locs 0 0 Q (F0 m pc ls [])) : W p l e R s m args below meth c s.heap [] 0 0 Q (F0 m 0 ls []) := by
  obtain ⟨S, E, hP, hl⟩ := S0
  obtain ⟨hx, hb, hml, hown, hts⟩ := id S
  have hS : va_S A s.heap s.heap [] := va_S.rf
  replace hl : lv_has ls 4 [(0, .ref (ad q)), (1, .int p2)] := hl
  unfold f_J7_fill_53178 at hf
  refine lv_iconst (v := 0) hx hb dJ7_fill_53178_0 (by decide) ?_
  refine lv_istore_n (lv' := [(2, .int 0), (0, .ref (ad q)), (1, .int p2)]) hx hb dJ7_fill_53178_1 rfl hl (by decide) rfl (fun ls hl => ?_)
  refine lv_aload_n hx hb dJ7_fill_53178_2 rfl (lv_at hl 1 rfl) ?_
  refine va_alen (v := (nI n)) (ty := .int) hx hb E.1 hP q 1 (zIA.get hq) rfl rfl dJ7_fill_53178_3 ?_
  refine lv_topi (fun y1 ey1 => ?_)
  replace hf := zn_s ey1 hf
  refine lv_istore_n (lv' := [(3, .int y1), (2, .int 0), (0, .ref (ad q)), (1, .int p2)]) hx hb dJ7_fill_53178_4 rfl hl (by decide) rfl (fun ls hl => ?_)
  obtain ⟨zl2, hf, hzl2⟩ := zb1_i hf
  have hjl2 : ∀ (I9 : zI), I9 = zl2 → ∀ (H : Heap) (locs : List Loc) (ls : Array Slot), va_P D vwCl (zw N K ad I9 J) H → va_S A s.heap H locs → lv_has ls 4 [] → W p l e R s m args below meth c H locs 0 0 Q (F0 m 20 ls []) := by
    intro I9 ez H locs ls hP hS hl
    have hf := hzl2 I9 ez
    exact hret _ hf _ _ _ _ hP hS dJ7_fill_53178_20
  refine zl_i (V := (Int32 × zI)) (P := fun v => ∀ (H : Heap) (locs : List Loc) (ls : Array Slot), va_P D vwCl (zw N K ad v.2 J) H → va_S A s.heap H locs → lv_has ls 4 [(0, .ref (ad q)), (1, .int p2), (2, .int (v.1)), (3, .int y1)] → W p l e R s m args below meth c H locs 0 0 Q (F0 m 5 ls [])) ?_ _ _ hf _ _ _ hP hS (lv_sub hl [2, 3, 1, 0] rfl)
  intro v z hf hcl2 hdl2
  obtain ⟨x3, I4⟩ := v
  intro H locs ls hP hS hl
  replace hf : f_J7_fill_53178_L5 y1 n q p2 x3 I4 = some z := hf
  unfold f_J7_fill_53178_L5 at hf
  replace hP : va_P D vwCl (zw N K ad I4 J) H := hP
  replace hl : lv_has ls 4 [(0, .ref (ad q)), (1, .int p2), (2, .int x3), (3, .int y1)] := hl
  refine lv_iload_n hx hb dJ7_fill_53178_5 rfl (lv_at hl 2 rfl) ?_
  refine lv_iload_n hx hb dJ7_fill_53178_6 rfl (lv_at hl 3 rfl) ?_
  refine lv_icmp_ge (tgt := 20) hx hb dJ7_fill_53178_7 (by decide) (fun k5 => ?_) (fun k5 => ?_)
  · replace hf := zt k5 hf
    exact hjl2 _ (hdl2 _ (Option.some.inj hf).symm) _ _ _ hP hS (lv_sub hl [] rfl)
  · replace hf := zf k5 hf
    refine lv_aload_n hx hb dJ7_fill_53178_10 rfl (lv_at hl 0 rfl) ?_
    refine lv_iload_n hx hb dJ7_fill_53178_11 rfl (lv_at hl 2 rfl) ?_
    refine lv_iload_n hx hb dJ7_fill_53178_12 rfl (lv_at hl 1 rfl) ?_
    obtain ⟨g7, hf⟩ := zg_i hf
    obtain ⟨I6, eI6⟩ := zex (va_up I4 q (upd (I4 q) x3.toNatClampNeg p2))
    replace hf := zn_s eI6 hf
    refine zast_i hx hb E.1 hP hD.D hS hq g7 dJ7_fill_53178_13 eI6 (fun H locs hP hS => ?_)
    obtain ⟨y8, ey8⟩ := zex (x3 + 1)
    replace hf := zn_s ey8 hf
    refine lv_iinc (v := y8) (lv' := [(2, .int y8), (0, .ref (ad q)), (1, .int p2), (3, .int y1)]) hx hb dJ7_fill_53178_14 hl (k := 2) rfl (by rw [ey8]; rfl) (by decide) rfl (fun ls hl => ?_)
    refine lv_goto (tgt := 5) hx hb dJ7_fill_53178_17 (by decide) ?_
    exact hcl2 _ (Option.some.inj hf).symm _ _ _ hP hS (lv_sub hl [1, 2, 0, 3] rfl)
theorem c_J7_fill_53178 (l : Launch) {D : va_G} {a0 : Nat → Nat} {A : Nat → Prop} {cy : Nat → ClassId} {ad : Nat → Nat} {N : Nat} {K : zK} (hD : zD A N ad) {I : zI} {J : zJ} (q n : Nat) (hq : zIA N K (cy 1) q n) (p2 : Int32) {rI : zI} (hf : f_J7_fill_53178 I J q n p2 = some rI) : Met l yJ7_fill_53178 wsJ7_fill_53178 { frames := 0, cells := 0, slots := 0, locals := 0 } (zPc D a0 A cy [.ref (ad q), .int p2] (zw N K ad I J)) (zQv D A (zw N K ad rI J)) 0 0 A :=
  zmet RJ7 (by decide) rfl rfl (Nat.le_of_ble_eq_true rfl) (fun p e R s m below meth c Q hfr hlo ls S0 hQ => w_J7_fill_53178 hfr hlo hD q n hq p2 hf S0 (fun tI hq H locs ls pc hP hS hd => by cases hq; exact hQ H locs _ hS (fun hx hb hr hlocks hfree => W.vret hx hb hr (fun t ht hW => ⟨⟨(), rfl, trivial, zht ht hP⟩, hS.F ht⟩) hfree hd hlocks)))
theorem ddJ7_fill_53178 : yJ7_fill_53178.cls ≠ "java/lang/invoke/MethodHandle" ∧ yJ7_fill_53178.cls ≠ "java/lang/invoke/VarHandle" ∧ (parseMethodDescriptor yJ7_fill_53178.desc).map (fun d => d.parameters.length) = some 2 := by decide +kernel

def f_X0_clear (I : zI) (J : zJ) (o : Nat) : Option zI := zn (va_up I o (va_up (I o) 9 0)) (fun I1 => zn (va_up I1 o (va_up (I1 o) 10 0)) (fun I2 => zn (va_up I2 o (va_up (I2 o) 11 0)) (fun I3 => zn (va_up I3 o (va_up (I3 o) 12 4)) (fun I4 => zn (va_up I4 o (va_up (I4 o) 13 9)) (fun I5 => zn (va_up I5 o (va_up (I5 o) 14 60)) (fun I6 => zn (va_up I6 o (va_up (I6 o) 15 8)) (fun I7 => zn (va_up I7 o (va_up (I7 o) 16 999)) (fun I8 => zb1 (f_J7_fill_53178 I8 J (o + 9) 101 (-1)) (fun I9 => some I9)))))))))
theorem hinX0_clear_X0 : ∀ w ∈ u_ws RX0 TX0 17, w ∈ wsX0_clear := by decide +kernel
set_option maxHeartbeats 4000000 in
set_option maxRecDepth 100000 in
theorem w_X0_clear {p : Program} {l : Launch} {e : Env} {R : Room} {s : State} {m : MethodId} {args : Array Value} {below : List Frame} {meth : Method} {c : Code} {Q : State → Prop} (hfr : 1 ≤ R.frames) (hlo : 23 ≤ R.locals) {D : va_G} {a0 : Nat → Nat} {A : Nat → Prop} {cy : Nat → ClassId} {ad : Nat → Nat} {N : Nat} {K : zK} (hD : zD A N ad) {I : zI} {J : zJ} (o : Nat) (hB : zBat N K cy ad o) {rI : zI} (hf : f_X0_clear I J o = some rI) {ls : Array Slot} (S0 : zSt p m c cX0_clear 1 s args wsX0_clear RX0 D a0 A cy (zw N K ad I J) [.ref (ad o)] ls) (hret : ∀ (tI : zI), some tI = some rI → ∀ (H : Heap) (locs : List Loc) (ls : Array Slot) (pc : Nat), va_P D vwCl (zw N K ad tI J) H → va_S A s.heap H locs → decode cX0_clear pc = .ok (.return_, 1) → W p l e R s m args below meth c H locs 0 0 Q (F0 m pc ls [])) : W p l e R s m args below meth c s.heap [] 0 0 Q (F0 m 0 ls []) := by
  obtain ⟨S, E, hP, hl⟩ := S0
  obtain ⟨hx, hb, hml, hown, hts⟩ := id S
  have hS : va_S A s.heap s.heap [] := va_S.rf
  replace hl : lv_has ls 1 [(0, .ref (ad o))] := hl
  unfold f_X0_clear at hf
  refine lv_aload_n hx hb dX0_clear_0 rfl (lv_at hl 0 rfl) ?_
  refine lv_iconst (v := 0) hx hb dX0_clear_1 (by decide) ?_
  obtain ⟨I1, eI1⟩ := zex (va_up I o (va_up (I o) 9 0))
  replace hf := zn_s eI1 hf
  refine zput (D := D) (ci := 0) (v := .int 0) (ty := .int) (C := RX0) (T := TX0) (N := 17) hx hb hts hinX0_clear_X0 tyX0 tyX0_ok nmX0 hown E.1 hP hD.D hS o (zO.get (zBat_o hB)) rfl 9 (by decide) (hts (.fieldLink RX0 54 "EdgeAndSpeed$Bench" "speeds" "I") (by decide +kernel)) (fun _ h9 => h9) rfl (tyX0_ok 9 (by decide)) rfl rfl (Nat.le_of_ble_eq_true rfl) dX0_clear_2 (zO.setI (zBat_o hB) rfl eI1) (fun H locs hP hS => ?_)
  refine lv_aload_n hx hb dX0_clear_5 rfl (lv_at hl 0 rfl) ?_
  refine lv_iconst (v := 0) hx hb dX0_clear_6 (by decide) ?_
  obtain ⟨I2, eI2⟩ := zex (va_up I1 o (va_up (I1 o) 10 0))
  replace hf := zn_s eI2 hf
  refine zput (D := D) (ci := 0) (v := .int 0) (ty := .int) (C := RX0) (T := TX0) (N := 17) hx hb hts hinX0_clear_X0 tyX0 tyX0_ok nmX0 hown E.1 hP hD.D hS o (zO.get (zBat_o hB)) rfl 10 (by decide) (hts (.fieldLink RX0 58 "EdgeAndSpeed$Bench" "pieces" "I") (by decide +kernel)) (fun _ h9 => h9) rfl (tyX0_ok 10 (by decide)) rfl rfl (Nat.le_of_ble_eq_true rfl) dX0_clear_7 (zO.setI (zBat_o hB) rfl eI2) (fun H locs hP hS => ?_)
  refine lv_aload_n hx hb dX0_clear_10 rfl (lv_at hl 0 rfl) ?_
  refine lv_iconst (v := 0) hx hb dX0_clear_11 (by decide) ?_
  obtain ⟨I3, eI3⟩ := zex (va_up I2 o (va_up (I2 o) 11 0))
  replace hf := zn_s eI3 hf
  refine zput (D := D) (ci := 0) (v := .int 0) (ty := .int) (C := RX0) (T := TX0) (N := 17) hx hb hts hinX0_clear_X0 tyX0 tyX0_ok nmX0 hown E.1 hP hD.D hS o (zO.get (zBat_o hB)) rfl 11 (by decide) (hts (.fieldLink RX0 61 "EdgeAndSpeed$Bench" "steels" "I") (by decide +kernel)) (fun _ h9 => h9) rfl (tyX0_ok 11 (by decide)) rfl rfl (Nat.le_of_ble_eq_true rfl) dX0_clear_12 (zO.setI (zBat_o hB) rfl eI3) (fun H locs hP hS => ?_)
  refine lv_aload_n hx hb dX0_clear_15 rfl (lv_at hl 0 rfl) ?_
  refine lv_iconst (v := 4) hx hb dX0_clear_16 (by decide) ?_
  obtain ⟨I4, eI4⟩ := zex (va_up I3 o (va_up (I3 o) 12 4))
  replace hf := zn_s eI4 hf
  refine zput (D := D) (ci := 0) (v := .int 4) (ty := .int) (C := RX0) (T := TX0) (N := 17) hx hb hts hinX0_clear_X0 tyX0 tyX0_ok nmX0 hown E.1 hP hD.D hS o (zO.get (zBat_o hB)) rfl 12 (by decide) (hts (.fieldLink RX0 64 "EdgeAndSpeed$Bench" "changeMinutes" "I") (by decide +kernel)) (fun _ h9 => h9) rfl (tyX0_ok 12 (by decide)) rfl rfl (Nat.le_of_ble_eq_true rfl) dX0_clear_17 (zO.setI (zBat_o hB) rfl eI4) (fun H locs hP hS => ?_)
  refine lv_aload_n hx hb dX0_clear_20 rfl (lv_at hl 0 rfl) ?_
  refine lv_bipush (v := 9) hx hb dX0_clear_21 (by decide) ?_
  obtain ⟨I5, eI5⟩ := zex (va_up I4 o (va_up (I4 o) 13 9))
  replace hf := zn_s eI5 hf
  refine zput (D := D) (ci := 0) (v := .int 9) (ty := .int) (C := RX0) (T := TX0) (N := 17) hx hb hts hinX0_clear_X0 tyX0 tyX0_ok nmX0 hown E.1 hP hD.D hS o (zO.get (zBat_o hB)) rfl 13 (by decide) (hts (.fieldLink RX0 67 "EdgeAndSpeed$Bench" "changePence" "I") (by decide +kernel)) (fun _ h9 => h9) rfl (tyX0_ok 13 (by decide)) rfl rfl (Nat.le_of_ble_eq_true rfl) dX0_clear_23 (zO.setI (zBat_o hB) rfl eI5) (fun H locs hP hS => ?_)
  refine lv_aload_n hx hb dX0_clear_26 rfl (lv_at hl 0 rfl) ?_
  refine lv_bipush (v := 60) hx hb dX0_clear_27 (by decide) ?_
  obtain ⟨I6, eI6⟩ := zex (va_up I5 o (va_up (I5 o) 14 60))
  replace hf := zn_s eI6 hf
  refine zput (D := D) (ci := 0) (v := .int 60) (ty := .int) (C := RX0) (T := TX0) (N := 17) hx hb hts hinX0_clear_X0 tyX0 tyX0_ok nmX0 hown E.1 hP hD.D hS o (zO.get (zBat_o hB)) rfl 14 (by decide) (hts (.fieldLink RX0 70 "EdgeAndSpeed$Bench" "hourPence" "I") (by decide +kernel)) (fun _ h9 => h9) rfl (tyX0_ok 14 (by decide)) rfl rfl (Nat.le_of_ble_eq_true rfl) dX0_clear_29 (zO.setI (zBat_o hB) rfl eI6) (fun H locs hP hS => ?_)
  refine lv_aload_n hx hb dX0_clear_32 rfl (lv_at hl 0 rfl) ?_
  refine lv_bipush (v := 8) hx hb dX0_clear_33 (by decide) ?_
  obtain ⟨I7, eI7⟩ := zex (va_up I6 o (va_up (I6 o) 15 8))
  replace hf := zn_s eI7 hf
  refine zput (D := D) (ci := 0) (v := .int 8) (ty := .int) (C := RX0) (T := TX0) (N := 17) hx hb hts hinX0_clear_X0 tyX0 tyX0_ok nmX0 hown E.1 hP hD.D hS o (zO.get (zBat_o hB)) rfl 15 (by decide) (hts (.fieldLink RX0 73 "EdgeAndSpeed$Bench" "mostSteps" "I") (by decide +kernel)) (fun _ h9 => h9) rfl (tyX0_ok 15 (by decide)) rfl rfl (Nat.le_of_ble_eq_true rfl) dX0_clear_35 (zO.setI (zBat_o hB) rfl eI7) (fun H locs hP hS => ?_)
  refine lv_aload_n hx hb dX0_clear_38 rfl (lv_at hl 0 rfl) ?_
  refine lv_sipush (v := 999) hx hb dX0_clear_39 (by decide) ?_
  obtain ⟨I8, eI8⟩ := zex (va_up I7 o (va_up (I7 o) 16 999))
  replace hf := zn_s eI8 hf
  refine zput (D := D) (ci := 0) (v := .int 999) (ty := .int) (C := RX0) (T := TX0) (N := 17) hx hb hts hinX0_clear_X0 tyX0 tyX0_ok nmX0 hown E.1 hP hD.D hS o (zO.get (zBat_o hB)) rfl 16 (by decide) (hts (.fieldLink RX0 76 "EdgeAndSpeed$Bench" "mostWork" "I") (by decide +kernel)) (fun _ h9 => h9) rfl (tyX0_ok 16 (by decide)) rfl rfl (Nat.le_of_ble_eq_true rfl) dX0_clear_42 (zO.setI (zBat_o hB) rfl eI8) (fun H locs hP hS => ?_)
  refine lv_aload_n hx hb dX0_clear_45 rfl (lv_at hl 0 rfl) ?_
  refine va_get (D := D) (ci := 0) (v := .ref (ad (o + 9))) (C := RX0) (T := TX0) (N := 17) hx hb hts hinX0_clear_X0 hown E.1 hP o (zO.get (zBat_o hB)) rfl 8 (by decide) (hts (.fieldLink RX0 36 "EdgeAndSpeed$Bench" "breaking" "[I") (by decide +kernel)) (fun _ h9 => h9) rfl dX0_clear_46 ?_
  refine lv_iconst (v := (-1)) hx hb dX0_clear_49 (by decide) ?_
  obtain ⟨I9, h10, hf⟩ := zb1_e hf
  refine zgo_v (zrunS (As := [.ref (ad (o + 9)), .int (-1)]) (rest := []) S (c_J7_fill_53178 l hD (o + 9) 101 (zBat_8 hB) (-1) h10) (va_cwS 2 hts gX0_clear_J7_fill_53178 rfl rfl rfl ddJ7_fill_53178 ⟨Nat.le_trans (Nat.le_of_ble_eq_true rfl) hfr, Nat.le_trans (Nat.le_of_ble_eq_true rfl) hlo⟩) E hP hS hl.1 rfl rfl (Nat.le_of_ble_eq_true rfl) dX0_clear_50) hS (fun H locs hP hS => ?_)
  exact hret _ hf _ _ _ _ hP hS dX0_clear_53
theorem c_X0_clear (l : Launch) {D : va_G} {a0 : Nat → Nat} {A : Nat → Prop} {cy : Nat → ClassId} {ad : Nat → Nat} {N : Nat} {K : zK} (hD : zD A N ad) {I : zI} {J : zJ} (o : Nat) (hB : zBat N K cy ad o) {rI : zI} (hf : f_X0_clear I J o = some rI) : Met l yX0_clear wsX0_clear { frames := 1, cells := 0, slots := 0, locals := 23 } (zPc D a0 A cy [.ref (ad o)] (zw N K ad I J)) (zQv D A (zw N K ad rI J)) 0 0 A :=
  zmet RX0 (by decide) rfl rfl (Nat.le_of_ble_eq_true rfl) (fun p e R s m below meth c Q hfr hlo ls S0 hQ => w_X0_clear hfr hlo hD o hB hf S0 (fun tI hq H locs ls pc hP hS hd => by cases hq; exact hQ H locs _ hS (fun hx hb hr hlocks hfree => W.vret hx hb hr (fun t ht hW => ⟨⟨(), rfl, trivial, zht ht hP⟩, hS.F ht⟩) hfree hd hlocks)))
theorem ddX0_clear : yX0_clear.cls = RX0 ∧ yX0_clear.cls ≠ "java/lang/invoke/MethodHandle" ∧ yX0_clear.cls ≠ "java/lang/invoke/VarHandle" ∧ (parseMethodDescriptor yX0_clear.desc).map (fun d => d.parameters.length) = some 0 := by decide +kernel

def f_X8_byteAt (I : zI) (J : zJ) (p1 : Int32) : Option Int32 := (if p1 < 0 then some 0 else (if (I 1 2) ≤ p1 then some 0 else (if 500 ≤ p1 then some 0 else zg (¬ (p1 < 0 ∨ 500 ≤ p1.toNatClampNeg)) (some ((I 2 p1.toNatClampNeg) &&& 255)))))
theorem hinX8_byteAt_X8 : ∀ w ∈ u_ws RX8 TX8 4, w ∈ wsX8_byteAt := by decide +kernel
set_option maxHeartbeats 4000000 in
set_option maxRecDepth 100000 in
theorem w_X8_byteAt {p : Program} {l : Launch} {e : Env} {R : Room} {s : State} {m : MethodId} {args : Array Value} {below : List Frame} {meth : Method} {c : Code} {Q : State → Prop} (hfr : 0 ≤ R.frames) (hlo : 0 ≤ R.locals) {D : va_G} {a0 : Nat → Nat} {A : Nat → Prop} {cy : Nat → ClassId} {ad : Nat → Nat} (hD : zD A 74 ad) {I : zI} {J : zJ} (p1 : Int32) {rx : Int32} (hf : f_X8_byteAt I J p1 = some rx) {ls : Array Slot} (S0 : zSt p m c cX8_byteAt 2 s args wsX8_byteAt RX8 D a0 A cy (zw 74 (kC cy ad a0) ad I J) [.ref (ad 1), .int p1] ls) (hret : ∀ (tx : Int32), some tx = some rx → ∀ (H : Heap) (locs : List Loc) (ls : Array Slot) (pc : Nat), va_P D vwCl (zw 74 (kC cy ad a0) ad I J) H → va_S A s.heap H locs → decode cX8_byteAt pc = .ok (.ireturn, 1) → W p l e R s m args below meth c H locs 0 0 Q (F0 m pc ls [.int tx])) : W p l e R s m args below meth c s.heap [] 0 0 Q (F0 m 0 ls []) := by
  obtain ⟨S, E, hP, hl⟩ := S0
  obtain ⟨hx, hb, hml, hown, hts⟩ := id S
  have hS : va_S A s.heap s.heap [] := va_S.rf
  replace hl : lv_has ls 2 [(0, .ref (ad 1)), (1, .int p1)] := hl
  unfold f_X8_byteAt at hf
  refine lv_iload_n hx hb dX8_byteAt_0 rfl (lv_at hl 1 rfl) ?_
  refine lv_if_lt (tgt := 34) hx hb dX8_byteAt_1 (by decide) (fun k1 => ?_) (fun k1 => ?_)
  · replace hf := zt k1 hf
    refine lv_iconst (v := 0) hx hb dX8_byteAt_34 (by decide) ?_
    exact hret _ hf _ _ _ _ hP hS dX8_byteAt_35
  · replace hf := zf k1 hf
    refine lv_iload_n hx hb dX8_byteAt_4 rfl (lv_at hl 1 rfl) ?_
    refine lv_aload_n hx hb dX8_byteAt_5 rfl (lv_at hl 0 rfl) ?_
    refine va_get (D := D) (ci := 7) (v := .int (I 1 2)) (C := RX8) (T := TX8) (N := 4) hx hb hts hinX8_byteAt_X8 hown E.1 hP 1 (zO.get (oX8_at)) rfl 2 (by decide) (hts (.fieldLink RX8 19 "EdgeAndSpeed$Text" "length" "I") (by decide +kernel)) (fun _ h9 => h9) rfl dX8_byteAt_6 ?_
    refine lv_icmp_ge (tgt := 34) hx hb dX8_byteAt_9 (by decide) (fun k2 => ?_) (fun k2 => ?_)
    · replace hf := zt k2 hf
      refine lv_iconst (v := 0) hx hb dX8_byteAt_34 (by decide) ?_
      exact hret _ hf _ _ _ _ hP hS dX8_byteAt_35
    · replace hf := zf k2 hf
      refine lv_iload_n hx hb dX8_byteAt_12 rfl (lv_at hl 1 rfl) ?_
      refine lv_aload_n hx hb dX8_byteAt_13 rfl (lv_at hl 0 rfl) ?_
      refine va_get (D := D) (ci := 7) (v := .ref (ad 2)) (C := RX8) (T := TX8) (N := 4) hx hb hts hinX8_byteAt_X8 hown E.1 hP 1 (zO.get (oX8_at)) rfl 0 (by decide) (hts (.fieldLink RX8 9 "EdgeAndSpeed$Text" "bytes" "[B") (by decide +kernel)) (fun _ h9 => h9) rfl dX8_byteAt_14 ?_
      refine va_alen (v := 500) (ty := .byte) hx hb E.1 hP 2 0 (zIA.get (aX8_0)) rfl rfl dX8_byteAt_17 ?_
      refine lv_icmp_ge (tgt := 34) hx hb dX8_byteAt_18 (by decide) (fun k3 => ?_) (fun k3 => ?_)
      · replace hf := zt k3 hf
        refine lv_iconst (v := 0) hx hb dX8_byteAt_34 (by decide) ?_
        exact hret _ hf _ _ _ _ hP hS dX8_byteAt_35
      · replace hf := zf k3 hf
        refine lv_aload_n hx hb dX8_byteAt_21 rfl (lv_at hl 0 rfl) ?_
        refine va_get (D := D) (ci := 7) (v := .ref (ad 2)) (C := RX8) (T := TX8) (N := 4) hx hb hts hinX8_byteAt_X8 hown E.1 hP 1 (zO.get (oX8_at)) rfl 0 (by decide) (hts (.fieldLink RX8 9 "EdgeAndSpeed$Text" "bytes" "[B") (by decide +kernel)) (fun _ h9 => h9) rfl dX8_byteAt_22 ?_
        refine lv_iload_n hx hb dX8_byteAt_25 rfl (lv_at hl 1 rfl) ?_
        obtain ⟨g4, hf⟩ := zg_i hf
        refine va_bald hx hb E.1 hP 2 0 (zIA.get (aX8_0)) rfl g4 dX8_byteAt_26 ?_
        refine lv_sipush (v := 255) hx hb dX8_byteAt_27 (by decide) ?_
        refine lv_iand hx hb dX8_byteAt_30 ?_
        refine lv_goto (tgt := 35) hx hb dX8_byteAt_31 (by decide) ?_
        exact hret _ hf _ _ _ _ hP hS dX8_byteAt_35
theorem c_X8_byteAt (l : Launch) {D : va_G} {a0 : Nat → Nat} {A : Nat → Prop} {cy : Nat → ClassId} {ad : Nat → Nat} (hD : zD A 74 ad) {I : zI} {J : zJ} (p1 : Int32) {rx : Int32} (hf : f_X8_byteAt I J p1 = some rx) : Met l yX8_byteAt wsX8_byteAt { frames := 0, cells := 0, slots := 0, locals := 0 } (zPc D a0 A cy [.ref (ad 1), .int p1] (zw 74 (kC cy ad a0) ad I J)) (zQi D A rx (zw 74 (kC cy ad a0) ad I J)) 0 0 A :=
  zmet RX8 (by decide) rfl rfl (Nat.le_of_ble_eq_true rfl) (fun p e R s m below meth c Q hfr hlo ls S0 hQ => w_X8_byteAt hfr hlo hD p1 hf S0 (fun tx hq H locs ls pc hP hS hd => by cases hq; exact hQ H locs _ hS (fun hx hb hr hlocks hfree => W.iret hx hb hr (fun t ht hW => ⟨⟨_, (), rfl, rfl, zht ht hP⟩, hS.F ht⟩) hfree hd hlocks)))
theorem ddX8_byteAt : yX8_byteAt.cls = RX8 ∧ yX8_byteAt.cls ≠ "java/lang/invoke/MethodHandle" ∧ yX8_byteAt.cls ≠ "java/lang/invoke/VarHandle" ∧ (parseMethodDescriptor yX8_byteAt.desc).map (fun d => d.parameters.length) = some 1 := by decide +kernel

def f_X8_numbersOf (I : zI) (J : zJ) (p1 : Int32) : Option Int32 := (if p1 = 98 then some 2 else if p1 = 99 then some 2 else if p1 = 100 then some 0 else if p1 = 101 then some 0 else if p1 = 102 then some 0 else if p1 = 103 then some 0 else if p1 = 104 then some 1 else if p1 = 105 then some 0 else if p1 = 106 then some 0 else if p1 = 107 then some 2 else if p1 = 108 then some 0 else if p1 = 109 then some 0 else if p1 = 110 then some 0 else if p1 = 111 then some 0 else if p1 = 112 then some 4 else if p1 = 113 then some 0 else if p1 = 114 then some 0 else if p1 = 115 then some 0 else if p1 = 116 then some 2 else if p1 = 117 then some 0 else if p1 = 118 then some 2 else some 0)
set_option maxHeartbeats 4000000 in
set_option maxRecDepth 100000 in
theorem w_X8_numbersOf {p : Program} {l : Launch} {e : Env} {R : Room} {s : State} {m : MethodId} {args : Array Value} {below : List Frame} {meth : Method} {c : Code} {Q : State → Prop} (hfr : 0 ≤ R.frames) (hlo : 0 ≤ R.locals) {D : va_G} {a0 : Nat → Nat} {A : Nat → Prop} {cy : Nat → ClassId} {ad : Nat → Nat} (hD : zD A 74 ad) {I : zI} {J : zJ} (p1 : Int32) {rx : Int32} (hf : f_X8_numbersOf I J p1 = some rx) {ls : Array Slot} (S0 : zSt p m c cX8_numbersOf 1 s args wsX8_numbersOf RX8 D a0 A cy (zw 74 (kC cy ad a0) ad I J) [.int p1] ls) (hret : ∀ (tx : Int32), some tx = some rx → ∀ (H : Heap) (locs : List Loc) (ls : Array Slot) (pc : Nat), va_P D vwCl (zw 74 (kC cy ad a0) ad I J) H → va_S A s.heap H locs → decode cX8_numbersOf pc = .ok (.ireturn, 1) → W p l e R s m args below meth c H locs 0 0 Q (F0 m pc ls [.int tx])) : W p l e R s m args below meth c s.heap [] 0 0 Q (F0 m 0 ls []) := by
  obtain ⟨S, E, hP, hl⟩ := S0
  obtain ⟨hx, hb, hml, hown, hts⟩ := id S
  have hS : va_S A s.heap s.heap [] := va_S.rf
  replace hl : lv_has ls 1 [(0, .int p1)] := hl
  unfold f_X8_numbersOf at hf
  refine lv_iload_n hx hb dX8_numbersOf_0 rfl (lv_at hl 0 rfl) ?_
  rcases Decidable.em (p1 = 98) with k1 | k1
  · replace hf := zt k1 hf
    refine lv_tableIn (off := 101) (tgt := 102) hx hb dX8_numbersOf_1 (by rw [k1]; decide) (by rw [k1]; decide) (by rw [k1]; rfl) (by decide) ?_
    refine lv_iconst (v := 2) hx hb dX8_numbersOf_102 (by decide) ?_
    exact hret _ hf _ _ _ _ hP hS dX8_numbersOf_103
  replace hf := zf k1 hf
  rcases Decidable.em (p1 = 99) with k2 | k2
  · replace hf := zt k2 hf
    refine lv_tableIn (off := 101) (tgt := 102) hx hb dX8_numbersOf_1 (by rw [k2]; decide) (by rw [k2]; decide) (by rw [k2]; rfl) (by decide) ?_
    refine lv_iconst (v := 2) hx hb dX8_numbersOf_102 (by decide) ?_
    exact hret _ hf _ _ _ _ hP hS dX8_numbersOf_103
  replace hf := zf k2 hf
  rcases Decidable.em (p1 = 100) with k3 | k3
  · replace hf := zt k3 hf
    refine lv_tableIn (off := 105) (tgt := 106) hx hb dX8_numbersOf_1 (by rw [k3]; decide) (by rw [k3]; decide) (by rw [k3]; rfl) (by decide) ?_
    refine lv_iconst (v := 0) hx hb dX8_numbersOf_106 (by decide) ?_
    exact hret _ hf _ _ _ _ hP hS dX8_numbersOf_107
  replace hf := zf k3 hf
  rcases Decidable.em (p1 = 101) with k4 | k4
  · replace hf := zt k4 hf
    refine lv_tableIn (off := 105) (tgt := 106) hx hb dX8_numbersOf_1 (by rw [k4]; decide) (by rw [k4]; decide) (by rw [k4]; rfl) (by decide) ?_
    refine lv_iconst (v := 0) hx hb dX8_numbersOf_106 (by decide) ?_
    exact hret _ hf _ _ _ _ hP hS dX8_numbersOf_107
  replace hf := zf k4 hf
  rcases Decidable.em (p1 = 102) with k5 | k5
  · replace hf := zt k5 hf
    refine lv_tableIn (off := 105) (tgt := 106) hx hb dX8_numbersOf_1 (by rw [k5]; decide) (by rw [k5]; decide) (by rw [k5]; rfl) (by decide) ?_
    refine lv_iconst (v := 0) hx hb dX8_numbersOf_106 (by decide) ?_
    exact hret _ hf _ _ _ _ hP hS dX8_numbersOf_107
  replace hf := zf k5 hf
  rcases Decidable.em (p1 = 103) with k6 | k6
  · replace hf := zt k6 hf
    refine lv_tableIn (off := 105) (tgt := 106) hx hb dX8_numbersOf_1 (by rw [k6]; decide) (by rw [k6]; decide) (by rw [k6]; rfl) (by decide) ?_
    refine lv_iconst (v := 0) hx hb dX8_numbersOf_106 (by decide) ?_
    exact hret _ hf _ _ _ _ hP hS dX8_numbersOf_107
  replace hf := zf k6 hf
  rcases Decidable.em (p1 = 104) with k7 | k7
  · replace hf := zt k7 hf
    refine lv_tableIn (off := 99) (tgt := 100) hx hb dX8_numbersOf_1 (by rw [k7]; decide) (by rw [k7]; decide) (by rw [k7]; rfl) (by decide) ?_
    refine lv_iconst (v := 1) hx hb dX8_numbersOf_100 (by decide) ?_
    exact hret _ hf _ _ _ _ hP hS dX8_numbersOf_101
  replace hf := zf k7 hf
  rcases Decidable.em (p1 = 105) with k8 | k8
  · replace hf := zt k8 hf
    refine lv_tableIn (off := 105) (tgt := 106) hx hb dX8_numbersOf_1 (by rw [k8]; decide) (by rw [k8]; decide) (by rw [k8]; rfl) (by decide) ?_
    refine lv_iconst (v := 0) hx hb dX8_numbersOf_106 (by decide) ?_
    exact hret _ hf _ _ _ _ hP hS dX8_numbersOf_107
  replace hf := zf k8 hf
  rcases Decidable.em (p1 = 106) with k9 | k9
  · replace hf := zt k9 hf
    refine lv_tableIn (off := 105) (tgt := 106) hx hb dX8_numbersOf_1 (by rw [k9]; decide) (by rw [k9]; decide) (by rw [k9]; rfl) (by decide) ?_
    refine lv_iconst (v := 0) hx hb dX8_numbersOf_106 (by decide) ?_
    exact hret _ hf _ _ _ _ hP hS dX8_numbersOf_107
  replace hf := zf k9 hf
  rcases Decidable.em (p1 = 107) with k10 | k10
  · replace hf := zt k10 hf
    refine lv_tableIn (off := 101) (tgt := 102) hx hb dX8_numbersOf_1 (by rw [k10]; decide) (by rw [k10]; decide) (by rw [k10]; rfl) (by decide) ?_
    refine lv_iconst (v := 2) hx hb dX8_numbersOf_102 (by decide) ?_
    exact hret _ hf _ _ _ _ hP hS dX8_numbersOf_103
  replace hf := zf k10 hf
  rcases Decidable.em (p1 = 108) with k11 | k11
  · replace hf := zt k11 hf
    refine lv_tableIn (off := 105) (tgt := 106) hx hb dX8_numbersOf_1 (by rw [k11]; decide) (by rw [k11]; decide) (by rw [k11]; rfl) (by decide) ?_
    refine lv_iconst (v := 0) hx hb dX8_numbersOf_106 (by decide) ?_
    exact hret _ hf _ _ _ _ hP hS dX8_numbersOf_107
  replace hf := zf k11 hf
  rcases Decidable.em (p1 = 109) with k12 | k12
  · replace hf := zt k12 hf
    refine lv_tableIn (off := 105) (tgt := 106) hx hb dX8_numbersOf_1 (by rw [k12]; decide) (by rw [k12]; decide) (by rw [k12]; rfl) (by decide) ?_
    refine lv_iconst (v := 0) hx hb dX8_numbersOf_106 (by decide) ?_
    exact hret _ hf _ _ _ _ hP hS dX8_numbersOf_107
  replace hf := zf k12 hf
  rcases Decidable.em (p1 = 110) with k13 | k13
  · replace hf := zt k13 hf
    refine lv_tableIn (off := 105) (tgt := 106) hx hb dX8_numbersOf_1 (by rw [k13]; decide) (by rw [k13]; decide) (by rw [k13]; rfl) (by decide) ?_
    refine lv_iconst (v := 0) hx hb dX8_numbersOf_106 (by decide) ?_
    exact hret _ hf _ _ _ _ hP hS dX8_numbersOf_107
  replace hf := zf k13 hf
  rcases Decidable.em (p1 = 111) with k14 | k14
  · replace hf := zt k14 hf
    refine lv_tableIn (off := 105) (tgt := 106) hx hb dX8_numbersOf_1 (by rw [k14]; decide) (by rw [k14]; decide) (by rw [k14]; rfl) (by decide) ?_
    refine lv_iconst (v := 0) hx hb dX8_numbersOf_106 (by decide) ?_
    exact hret _ hf _ _ _ _ hP hS dX8_numbersOf_107
  replace hf := zf k14 hf
  rcases Decidable.em (p1 = 112) with k15 | k15
  · replace hf := zt k15 hf
    refine lv_tableIn (off := 103) (tgt := 104) hx hb dX8_numbersOf_1 (by rw [k15]; decide) (by rw [k15]; decide) (by rw [k15]; rfl) (by decide) ?_
    refine lv_iconst (v := 4) hx hb dX8_numbersOf_104 (by decide) ?_
    exact hret _ hf _ _ _ _ hP hS dX8_numbersOf_105
  replace hf := zf k15 hf
  rcases Decidable.em (p1 = 113) with k16 | k16
  · replace hf := zt k16 hf
    refine lv_tableIn (off := 105) (tgt := 106) hx hb dX8_numbersOf_1 (by rw [k16]; decide) (by rw [k16]; decide) (by rw [k16]; rfl) (by decide) ?_
    refine lv_iconst (v := 0) hx hb dX8_numbersOf_106 (by decide) ?_
    exact hret _ hf _ _ _ _ hP hS dX8_numbersOf_107
  replace hf := zf k16 hf
  rcases Decidable.em (p1 = 114) with k17 | k17
  · replace hf := zt k17 hf
    refine lv_tableIn (off := 105) (tgt := 106) hx hb dX8_numbersOf_1 (by rw [k17]; decide) (by rw [k17]; decide) (by rw [k17]; rfl) (by decide) ?_
    refine lv_iconst (v := 0) hx hb dX8_numbersOf_106 (by decide) ?_
    exact hret _ hf _ _ _ _ hP hS dX8_numbersOf_107
  replace hf := zf k17 hf
  rcases Decidable.em (p1 = 115) with k18 | k18
  · replace hf := zt k18 hf
    refine lv_tableIn (off := 105) (tgt := 106) hx hb dX8_numbersOf_1 (by rw [k18]; decide) (by rw [k18]; decide) (by rw [k18]; rfl) (by decide) ?_
    refine lv_iconst (v := 0) hx hb dX8_numbersOf_106 (by decide) ?_
    exact hret _ hf _ _ _ _ hP hS dX8_numbersOf_107
  replace hf := zf k18 hf
  rcases Decidable.em (p1 = 116) with k19 | k19
  · replace hf := zt k19 hf
    refine lv_tableIn (off := 101) (tgt := 102) hx hb dX8_numbersOf_1 (by rw [k19]; decide) (by rw [k19]; decide) (by rw [k19]; rfl) (by decide) ?_
    refine lv_iconst (v := 2) hx hb dX8_numbersOf_102 (by decide) ?_
    exact hret _ hf _ _ _ _ hP hS dX8_numbersOf_103
  replace hf := zf k19 hf
  rcases Decidable.em (p1 = 117) with k20 | k20
  · replace hf := zt k20 hf
    refine lv_tableIn (off := 105) (tgt := 106) hx hb dX8_numbersOf_1 (by rw [k20]; decide) (by rw [k20]; decide) (by rw [k20]; rfl) (by decide) ?_
    refine lv_iconst (v := 0) hx hb dX8_numbersOf_106 (by decide) ?_
    exact hret _ hf _ _ _ _ hP hS dX8_numbersOf_107
  replace hf := zf k20 hf
  rcases Decidable.em (p1 = 118) with k21 | k21
  · replace hf := zt k21 hf
    refine lv_tableIn (off := 101) (tgt := 102) hx hb dX8_numbersOf_1 (by rw [k21]; decide) (by rw [k21]; decide) (by rw [k21]; rfl) (by decide) ?_
    refine lv_iconst (v := 2) hx hb dX8_numbersOf_102 (by decide) ?_
    exact hret _ hf _ _ _ _ hP hS dX8_numbersOf_103
  replace hf := zf k21 hf
  refine lv_tableOut (tgt := 106) hx hb dX8_numbersOf_1 (zTab (lo := 98) (hi := 118) (fun v h1 h2 h3 => by have h4 : v = 98 ∨ v = 99 ∨ v = 100 ∨ v = 101 ∨ v = 102 ∨ v = 103 ∨ v = 104 ∨ v = 105 ∨ v = 106 ∨ v = 107 ∨ v = 108 ∨ v = 109 ∨ v = 110 ∨ v = 111 ∨ v = 112 ∨ v = 113 ∨ v = 114 ∨ v = 115 ∨ v = 116 ∨ v = 117 ∨ v = 118 := (by omega); rcases h4 with rfl | rfl | rfl | rfl | rfl | rfl | rfl | rfl | rfl | rfl | rfl | rfl | rfl | rfl | rfl | rfl | rfl | rfl | rfl | rfl | rfl <;> first | exact k1 (Int32.toInt_inj.mp h3) | exact k2 (Int32.toInt_inj.mp h3) | exact k3 (Int32.toInt_inj.mp h3) | exact k4 (Int32.toInt_inj.mp h3) | exact k5 (Int32.toInt_inj.mp h3) | exact k6 (Int32.toInt_inj.mp h3) | exact k7 (Int32.toInt_inj.mp h3) | exact k8 (Int32.toInt_inj.mp h3) | exact k9 (Int32.toInt_inj.mp h3) | exact k10 (Int32.toInt_inj.mp h3) | exact k11 (Int32.toInt_inj.mp h3) | exact k12 (Int32.toInt_inj.mp h3) | exact k13 (Int32.toInt_inj.mp h3) | exact k14 (Int32.toInt_inj.mp h3) | exact k15 (Int32.toInt_inj.mp h3) | exact k16 (Int32.toInt_inj.mp h3) | exact k17 (Int32.toInt_inj.mp h3) | exact k18 (Int32.toInt_inj.mp h3) | exact k19 (Int32.toInt_inj.mp h3) | exact k20 (Int32.toInt_inj.mp h3) | exact k21 (Int32.toInt_inj.mp h3))) (by decide) ?_
  refine lv_iconst (v := 0) hx hb dX8_numbersOf_106 (by decide) ?_
  exact hret _ hf _ _ _ _ hP hS dX8_numbersOf_107
theorem c_X8_numbersOf (l : Launch) {D : va_G} {a0 : Nat → Nat} {A : Nat → Prop} {cy : Nat → ClassId} {ad : Nat → Nat} (hD : zD A 74 ad) {I : zI} {J : zJ} (p1 : Int32) {rx : Int32} (hf : f_X8_numbersOf I J p1 = some rx) : Met l yX8_numbersOf wsX8_numbersOf { frames := 0, cells := 0, slots := 0, locals := 0 } (zPc D a0 A cy [.int p1] (zw 74 (kC cy ad a0) ad I J)) (zQi D A rx (zw 74 (kC cy ad a0) ad I J)) 0 0 A :=
  zmet RX8 (by decide) rfl rfl (Nat.le_of_ble_eq_true rfl) (fun p e R s m below meth c Q hfr hlo ls S0 hQ => w_X8_numbersOf hfr hlo hD p1 hf S0 (fun tx hq H locs ls pc hP hS hd => by cases hq; exact hQ H locs _ hS (fun hx hb hr hlocks hfree => W.iret hx hb hr (fun t ht hW => ⟨⟨_, (), rfl, rfl, zht ht hP⟩, hS.F ht⟩) hfree hd hlocks)))
theorem ddX8_numbersOf : yX8_numbersOf.cls ≠ "java/lang/invoke/MethodHandle" ∧ yX8_numbersOf.cls ≠ "java/lang/invoke/VarHandle" ∧ (parseMethodDescriptor yX8_numbersOf.desc).map (fun d => d.parameters.length) = some 1 := by decide +kernel

def f_X8_readNumber_L4 (J : zJ) (x2 : Int32) (x3 : Int32) (I4 : zI) : Option ((Int32 × Int32 × zI) ⊕ (Int32 × Int32 × zI)) := (if 4 ≤ x3 then some (.inr (x2, x3, I4)) else zb1 (f_X8_byteAt I4 J (I4 1 3)) (fun x6 => zb1 (f_X11_within I4 J x6 48 57) (fun x8 => (if x8 = 0 then some (.inr (x2, x3, I4)) else zb1 (f_X8_byteAt I4 J (I4 1 3)) (fun x11 => zn ((((10 * x2) + x11) - 48)) (fun y13 => zn (x3 + 1) (fun y14 => zn (va_up I4 1 (va_up (I4 1) 3 ((I4 1 3) + 1))) (fun I15 => some (.inl (y13, y14, I15))))))))))
def f_X8_readNumber (I : zI) (J : zJ) (p1 : Int32) : Option (Int32 × zI) := zb3 (zl (fun v : (Int32 × Int32 × zI) => f_X8_readNumber_L4 J v.1 v.2.1 v.2.2) zF (0, 0, I)) (fun x16 x17 I18 => zb1 (f_X11_within I18 J p1 0 (4 - 1)) (fun x19 => (if x19 = 0 then some (0, I18) else zg (¬ (p1 < 0 ∨ 4 ≤ p1.toNatClampNeg)) (zn (va_up I18 3 (upd (I18 3) p1.toNatClampNeg x16)) (fun I22 => zb1 (f_X11_within I22 J x17 1 3) (fun x24 => zg (x24 = 0 ∨ x24 = 1) (some (x24, I22))))))))
theorem hinX8_readNumber_X8 : ∀ w ∈ u_ws RX8 TX8 4, w ∈ wsX8_readNumber := by decide +kernel
set_option maxHeartbeats 4000000 in
set_option maxRecDepth 100000 in
theorem w_X8_readNumber {p : Program} {l : Launch} {e : Env} {R : Room} {s : State} {m : MethodId} {args : Array Value} {below : List Frame} {meth : Method} {c : Code} {Q : State → Prop} (hfr : 1 ≤ R.frames) (hlo : 22 ≤ R.locals) {D : va_G} {a0 : Nat → Nat} {A : Nat → Prop} {cy : Nat → ClassId} {ad : Nat → Nat} (hD : zD A 74 ad) {I : zI} {J : zJ} (p1 : Int32) {rx : Int32} {rI : zI} (hf : f_X8_readNumber I J p1 = some (rx, rI)) {ls : Array Slot} (S0 : zSt p m c cX8_readNumber 4 s args wsX8_readNumber RX8 D a0 A cy (zw 74 (kC cy ad a0) ad I J) [.ref (ad 1), .int p1] ls) (hret : ∀ (tx : Int32) (tI : zI), some (tx, tI) = some (rx, rI) → (tx = 0 ∨ tx = 1) → ∀ (H : Heap) (locs : List Loc) (ls : Array Slot) (pc : Nat), va_P D vwCl (zw 74 (kC cy ad a0) ad tI J) H → va_S A s.heap H locs → decode cX8_readNumber pc = .ok (.ireturn, 1) → W p l e R s m args below meth c H locs 0 0 Q (F0 m pc ls [.int tx])) : W p l e R s m args below meth c s.heap [] 0 0 Q (F0 m 0 ls []) := by
  obtain ⟨S, E, hP, hl⟩ := S0
  obtain ⟨hx, hb, hml, hown, hts⟩ := id S
  have hS : va_S A s.heap s.heap [] := va_S.rf
  replace hl : lv_has ls 4 [(0, .ref (ad 1)), (1, .int p1)] := hl
  unfold f_X8_readNumber at hf
  refine lv_iconst (v := 0) hx hb dX8_readNumber_0 (by decide) ?_
  refine lv_istore_n (lv' := [(2, .int 0), (0, .ref (ad 1)), (1, .int p1)]) hx hb dX8_readNumber_1 rfl hl (by decide) rfl (fun ls hl => ?_)
  refine lv_iconst (v := 0) hx hb dX8_readNumber_2 (by decide) ?_
  refine lv_istore_n (lv' := [(3, .int 0), (2, .int 0), (0, .ref (ad 1)), (1, .int p1)]) hx hb dX8_readNumber_3 rfl hl (by decide) rfl (fun ls hl => ?_)
  obtain ⟨zl1, hf, hzl1⟩ := zb3_i hf
  have hjl1 : ∀ (x16 : Int32) (x17 : Int32) (I18 : zI), (x16, x17, I18) = zl1 → ∀ (H : Heap) (locs : List Loc) (ls : Array Slot), va_P D vwCl (zw 74 (kC cy ad a0) ad I18 J) H → va_S A s.heap H locs → lv_has ls 4 [(0, .ref (ad 1)), (1, .int p1), (2, .int x16), (3, .int x17)] → W p l e R s m args below meth c H locs 0 0 Q (F0 m 60 ls []) := by
    intro x16 x17 I18 ez H locs ls hP hS hl
    have hf := hzl1 x16 x17 I18 ez
    refine lv_iload_n hx hb dX8_readNumber_60 rfl (lv_at hl 1 rfl) ?_
    refine lv_iconst (v := 0) hx hb dX8_readNumber_61 (by decide) ?_
    refine lv_aload_n hx hb dX8_readNumber_62 rfl (lv_at hl 0 rfl) ?_
    refine va_get (D := D) (ci := 7) (v := .ref (ad 3)) (C := RX8) (T := TX8) (N := 4) hx hb hts hinX8_readNumber_X8 hown E.1 hP 1 (zO.get (oX8_at)) rfl 1 (by decide) (hts (.fieldLink RX8 15 "EdgeAndSpeed$Text" "told" "[I") (by decide +kernel)) (fun _ h9 => h9) rfl dX8_readNumber_63 ?_
    refine va_alen (v := 4) (ty := .int) hx hb E.1 hP 3 1 (zIA.get (aX8_1)) rfl rfl dX8_readNumber_66 ?_
    refine lv_iconst (v := 1) hx hb dX8_readNumber_67 (by decide) ?_
    refine lv_isub hx hb dX8_readNumber_68 ?_
    obtain ⟨x19, h20, hf⟩ := zb1_e hf
    refine zgo_i (zrunSN (As := [.int p1, .int 0, .int (4 - 1)]) (rest := []) S (c_X11_within l hD p1 0 (4 - 1) h20) ⟨va_cnB (host := "EdgeAndSpeed") 3 hts gX8_readNumber_X11_within_n53 rfl rfl rfl (zNmw_2 E.2.2) (hts (.initialized RX11) (by decide +kernel)) ddX11_within ⟨Nat.le_trans (Nat.le_of_ble_eq_true rfl) hfr, Nat.le_trans (Nat.le_of_ble_eq_true rfl) hlo⟩, hts (.static yX11_within) (by decide +kernel), trivial⟩ E hP hS hl.1 rfl rfl (Nat.le_of_ble_eq_true rfl) dX8_readNumber_69) hS (fun H locs hP hS => ?_)
    refine lv_if_ne (tgt := 77) hx hb dX8_readNumber_72 (by decide) (fun k21 => ?_) (fun k21 => ?_)
    · replace hf := zf k21 hf
      refine lv_aload_n hx hb dX8_readNumber_77 rfl (lv_at hl 0 rfl) ?_
      refine va_get (D := D) (ci := 7) (v := .ref (ad 3)) (C := RX8) (T := TX8) (N := 4) hx hb hts hinX8_readNumber_X8 hown E.1 hP 1 (zO.get (oX8_at)) rfl 1 (by decide) (hts (.fieldLink RX8 15 "EdgeAndSpeed$Text" "told" "[I") (by decide +kernel)) (fun _ h9 => h9) rfl dX8_readNumber_78 ?_
      refine lv_iload_n hx hb dX8_readNumber_81 rfl (lv_at hl 1 rfl) ?_
      refine lv_iload_n hx hb dX8_readNumber_82 rfl (lv_at hl 2 rfl) ?_
      obtain ⟨g23, hf⟩ := zg_i hf
      obtain ⟨I22, eI22⟩ := zex (va_up I18 3 (upd (I18 3) p1.toNatClampNeg x16))
      replace hf := zn_s eI22 hf
      refine zast_i hx hb E.1 hP hD.D hS (aX8_1) g23 dX8_readNumber_83 eI22 (fun H locs hP hS => ?_)
      refine lv_iload_n hx hb dX8_readNumber_84 rfl (lv_at hl 3 rfl) ?_
      refine lv_iconst (v := 1) hx hb dX8_readNumber_85 (by decide) ?_
      refine lv_iconst (v := 3) hx hb dX8_readNumber_86 (by decide) ?_
      obtain ⟨x24, h25, hf⟩ := zb1_e hf
      refine zgo_i (zrunSN (As := [.int x17, .int 1, .int 3]) (rest := []) S (c_X11_within l hD x17 1 3 h25) ⟨va_cnB (host := "EdgeAndSpeed") 3 hts gX8_readNumber_X11_within_n53 rfl rfl rfl (zNmw_2 E.2.2) (hts (.initialized RX11) (by decide +kernel)) ddX11_within ⟨Nat.le_trans (Nat.le_of_ble_eq_true rfl) hfr, Nat.le_trans (Nat.le_of_ble_eq_true rfl) hlo⟩, hts (.static yX11_within) (by decide +kernel), trivial⟩ E hP hS hl.1 rfl rfl (Nat.le_of_ble_eq_true rfl) dX8_readNumber_87) hS (fun H locs hP hS => ?_)
      obtain ⟨g0, hf⟩ := zg_i hf
      exact hret _ _ hf g0 _ _ _ _ hP hS dX8_readNumber_90
    · replace hf := zt k21 hf
      refine lv_iconst (v := 0) hx hb dX8_readNumber_75 (by decide) ?_
      exact hret _ _ hf (Or.inl rfl) _ _ _ _ hP hS dX8_readNumber_76
  refine zl_i (V := (Int32 × Int32 × zI)) (P := fun v => ∀ (H : Heap) (locs : List Loc) (ls : Array Slot), va_P D vwCl (zw 74 (kC cy ad a0) ad v.2.2 J) H → va_S A s.heap H locs → lv_has ls 4 [(0, .ref (ad 1)), (1, .int p1), (2, .int (v.1)), (3, .int (v.2.1))] → W p l e R s m args below meth c H locs 0 0 Q (F0 m 4 ls [])) ?_ _ _ hf _ _ _ hP hS (lv_sub hl [2, 3, 1, 0] rfl)
  intro v z hf hcl1 hdl1
  obtain ⟨x2, x3, I4⟩ := v
  intro H locs ls hP hS hl
  replace hf : f_X8_readNumber_L4 J x2 x3 I4 = some z := hf
  unfold f_X8_readNumber_L4 at hf
  replace hP : va_P D vwCl (zw 74 (kC cy ad a0) ad I4 J) H := hP
  replace hl : lv_has ls 4 [(0, .ref (ad 1)), (1, .int p1), (2, .int x2), (3, .int x3)] := hl
  refine lv_iload_n hx hb dX8_readNumber_4 rfl (lv_at hl 3 rfl) ?_
  refine lv_iconst (v := 4) hx hb dX8_readNumber_5 (by decide) ?_
  refine lv_icmp_ge (tgt := 60) hx hb dX8_readNumber_6 (by decide) (fun k5 => ?_) (fun k5 => ?_)
  · replace hf := zt k5 hf
    exact hjl1 _ _ _ (hdl1 _ (Option.some.inj hf).symm) _ _ _ hP hS (lv_sub hl [0, 1, 2, 3] rfl)
  · replace hf := zf k5 hf
    refine lv_aload_n hx hb dX8_readNumber_9 rfl (lv_at hl 0 rfl) ?_
    refine lv_aload_n hx hb dX8_readNumber_10 rfl (lv_at hl 0 rfl) ?_
    refine va_get (D := D) (ci := 7) (v := .int (I4 1 3)) (C := RX8) (T := TX8) (N := 4) hx hb hts hinX8_readNumber_X8 hown E.1 hP 1 (zO.get (oX8_at)) rfl 3 (by decide) (hts (.fieldLink RX8 28 "EdgeAndSpeed$Text" "place" "I") (by decide +kernel)) (fun _ h9 => h9) rfl dX8_readNumber_11 ?_
    obtain ⟨x6, h7, hf⟩ := zb1_e hf
    refine zgo_i (zrunV (As := [.int (I4 1 3)]) (rest := []) S (c_X8_byteAt l hD (I4 1 3) h7) (cwV 1 hts gX8_readNumber_X8_byteAt rfl rfl rfl ddX8_byteAt ⟨Nat.le_trans (Nat.le_of_ble_eq_true rfl) hfr, Nat.le_trans (Nat.le_of_ble_eq_true rfl) hlo⟩) (va_recv E.1 hP (q := (RX8, TX8, 4)) (ci := 7) rfl (zO.get (oX8_at))) E hP hS hl.1 rfl rfl (Nat.le_of_ble_eq_true rfl) dX8_readNumber_14) hS (fun H locs hP hS => ?_)
    refine lv_bipush (v := 48) hx hb dX8_readNumber_17 (by decide) ?_
    refine lv_bipush (v := 57) hx hb dX8_readNumber_19 (by decide) ?_
    obtain ⟨x8, h9, hf⟩ := zb1_e hf
    refine zgo_i (zrunSN (As := [.int x6, .int 48, .int 57]) (rest := []) S (c_X11_within l hD x6 48 57 h9) ⟨va_cnB (host := "EdgeAndSpeed") 3 hts gX8_readNumber_X11_within_n53 rfl rfl rfl (zNmw_2 E.2.2) (hts (.initialized RX11) (by decide +kernel)) ddX11_within ⟨Nat.le_trans (Nat.le_of_ble_eq_true rfl) hfr, Nat.le_trans (Nat.le_of_ble_eq_true rfl) hlo⟩, hts (.static yX11_within) (by decide +kernel), trivial⟩ E hP hS hl.1 rfl rfl (Nat.le_of_ble_eq_true rfl) dX8_readNumber_21) hS (fun H locs hP hS => ?_)
    refine lv_if_eq (tgt := 60) hx hb dX8_readNumber_24 (by decide) (fun k10 => ?_) (fun k10 => ?_)
    · replace hf := zt k10 hf
      exact hjl1 _ _ _ (hdl1 _ (Option.some.inj hf).symm) _ _ _ hP hS (lv_sub hl [0, 1, 2, 3] rfl)
    · replace hf := zf k10 hf
      refine lv_bipush (v := 10) hx hb dX8_readNumber_27 (by decide) ?_
      refine lv_iload_n hx hb dX8_readNumber_29 rfl (lv_at hl 2 rfl) ?_
      refine lv_imul hx hb dX8_readNumber_30 ?_
      refine lv_aload_n hx hb dX8_readNumber_31 rfl (lv_at hl 0 rfl) ?_
      refine lv_aload_n hx hb dX8_readNumber_32 rfl (lv_at hl 0 rfl) ?_
      refine va_get (D := D) (ci := 7) (v := .int (I4 1 3)) (C := RX8) (T := TX8) (N := 4) hx hb hts hinX8_readNumber_X8 hown E.1 hP 1 (zO.get (oX8_at)) rfl 3 (by decide) (hts (.fieldLink RX8 28 "EdgeAndSpeed$Text" "place" "I") (by decide +kernel)) (fun _ h9 => h9) rfl dX8_readNumber_33 ?_
      obtain ⟨x11, h12, hf⟩ := zb1_e hf
      refine zgo_i (zrunV (As := [.int (I4 1 3)]) (rest := [.int (10 * x2)]) S (c_X8_byteAt l hD (I4 1 3) h12) (cwV 1 hts gX8_readNumber_X8_byteAt rfl rfl rfl ddX8_byteAt ⟨Nat.le_trans (Nat.le_of_ble_eq_true rfl) hfr, Nat.le_trans (Nat.le_of_ble_eq_true rfl) hlo⟩) (va_recv E.1 hP (q := (RX8, TX8, 4)) (ci := 7) rfl (zO.get (oX8_at))) E hP hS hl.1 rfl rfl (Nat.le_of_ble_eq_true rfl) dX8_readNumber_36) hS (fun H locs hP hS => ?_)
      refine lv_iadd hx hb dX8_readNumber_39 ?_
      refine lv_bipush (v := 48) hx hb dX8_readNumber_40 (by decide) ?_
      refine lv_isub hx hb dX8_readNumber_42 ?_
      refine lv_topi (fun y13 ey13 => ?_)
      replace hf := zn_s ey13 hf
      refine lv_istore_n (lv' := [(2, .int y13), (0, .ref (ad 1)), (1, .int p1), (3, .int x3)]) hx hb dX8_readNumber_43 rfl hl (by decide) rfl (fun ls hl => ?_)
      obtain ⟨y14, ey14⟩ := zex (x3 + 1)
      replace hf := zn_s ey14 hf
      refine lv_iinc (v := y14) (lv' := [(3, .int y14), (2, .int y13), (0, .ref (ad 1)), (1, .int p1)]) hx hb dX8_readNumber_44 hl (k := 3) rfl (by rw [ey14]; rfl) (by decide) rfl (fun ls hl => ?_)
      refine lv_aload_n hx hb dX8_readNumber_47 rfl (lv_at hl 2 rfl) ?_
      refine lv_dup hx hb dX8_readNumber_48 rfl ?_
      refine va_get (D := D) (ci := 7) (v := .int (I4 1 3)) (C := RX8) (T := TX8) (N := 4) hx hb hts hinX8_readNumber_X8 hown E.1 hP 1 (zO.get (oX8_at)) rfl 3 (by decide) (hts (.fieldLink RX8 28 "EdgeAndSpeed$Text" "place" "I") (by decide +kernel)) (fun _ h9 => h9) rfl dX8_readNumber_49 ?_
      refine lv_iconst (v := 1) hx hb dX8_readNumber_52 (by decide) ?_
      refine lv_iadd hx hb dX8_readNumber_53 ?_
      obtain ⟨I15, eI15⟩ := zex (va_up I4 1 (va_up (I4 1) 3 ((I4 1 3) + 1)))
      replace hf := zn_s eI15 hf
      refine zput (D := D) (ci := 7) (v := .int ((I4 1 3) + 1)) (ty := .int) (C := RX8) (T := TX8) (N := 4) hx hb hts hinX8_readNumber_X8 tyX8 tyX8_ok nmX8 hown E.1 hP hD.D hS 1 (zO.get (oX8_at)) rfl 3 (by decide) (hts (.fieldLink RX8 28 "EdgeAndSpeed$Text" "place" "I") (by decide +kernel)) (fun _ h9 => h9) rfl (tyX8_ok 3 (by decide)) rfl rfl (Nat.le_of_ble_eq_true rfl) dX8_readNumber_54 (zO.setI (oX8_at) rfl eI15) (fun H locs hP hS => ?_)
      refine lv_goto (tgt := 4) hx hb dX8_readNumber_57 (by decide) ?_
      exact hcl1 _ (Option.some.inj hf).symm _ _ _ hP hS (lv_sub hl [2, 3, 1, 0] rfl)
theorem c_X8_readNumber (l : Launch) {D : va_G} {a0 : Nat → Nat} {A : Nat → Prop} {cy : Nat → ClassId} {ad : Nat → Nat} (hD : zD A 74 ad) {I : zI} {J : zJ} (p1 : Int32) {rx : Int32} {rI : zI} (hf : f_X8_readNumber I J p1 = some (rx, rI)) : Met l yX8_readNumber wsX8_readNumber { frames := 1, cells := 0, slots := 0, locals := 22 } (zPc D a0 A cy [.ref (ad 1), .int p1] (zw 74 (kC cy ad a0) ad I J)) (zQi D A rx (zw 74 (kC cy ad a0) ad rI J)) 0 0 A :=
  zmet RX8 (by decide) rfl rfl (Nat.le_of_ble_eq_true rfl) (fun p e R s m below meth c Q hfr hlo ls S0 hQ => w_X8_readNumber hfr hlo hD p1 hf S0 (fun tx tI hq n01 H locs ls pc hP hS hd => by cases hq; exact hQ H locs _ hS (fun hx hb hr hlocks hfree => W.zret hx hb hr (z01 n01) (fun t ht hW => ⟨⟨_, (), rfl, rfl, zht ht hP⟩, hS.F ht⟩) hfree hd hlocks)))
theorem ddX8_readNumber : yX8_readNumber.cls = RX8 ∧ yX8_readNumber.cls ≠ "java/lang/invoke/MethodHandle" ∧ yX8_readNumber.cls ≠ "java/lang/invoke/VarHandle" ∧ (parseMethodDescriptor yX8_readNumber.desc).map (fun d => d.parameters.length) = some 1 := by decide +kernel

def f_X8_readNumbers_L12 (p1 : Int32) (J : zJ) (x3 : Int32) (I4 : zI) : Option ((Int32 × zI) ⊕ (zI ⊕ (Int32 × zI))) := (if p1 ≤ x3 then some (.inr (.inl I4)) else zb2 (f_X8_readNumber I4 J x3) (fun x6 I7 => (if x6 = 0 then some (.inr (.inr (0, I7))) else zb1 (f_X8_byteAt I7 J (I7 1 3)) (fun x10 => zb1 ((if p1 ≤ (x3 + 1) then some (59) else some (44)) : Option Int32) (fun x15 => (if x10 = x15 then zn (va_up I7 1 (va_up (I7 1) 3 ((I7 1 3) + 1))) (fun I17 => zn (x3 + 1) (fun y18 => some (.inl (y18, I17)))) else some (.inr (.inr (0, I7)))))))))
def f_X8_readNumbers (I : zI) (J : zJ) (p1 : Int32) : Option (Int32 × zI) := zn (va_up I 1 (va_up (I 1) 3 ((I 1 3) + 1))) (fun I1 => zc1 (zl (fun v : (Int32 × zI) => f_X8_readNumbers_L12 p1 J v.1 v.2) zF (0, I1)) (fun I19 => (if p1 ≤ 0 then some (0, I19) else some (1, I19))))
theorem hinX8_readNumbers_X8 : ∀ w ∈ u_ws RX8 TX8 4, w ∈ wsX8_readNumbers := by decide +kernel
set_option maxHeartbeats 4000000 in
set_option maxRecDepth 100000 in
theorem w_X8_readNumbers {p : Program} {l : Launch} {e : Env} {R : Room} {s : State} {m : MethodId} {args : Array Value} {below : List Frame} {meth : Method} {c : Code} {Q : State → Prop} (hfr : 2 ≤ R.frames) (hlo : 45 ≤ R.locals) {D : va_G} {a0 : Nat → Nat} {A : Nat → Prop} {cy : Nat → ClassId} {ad : Nat → Nat} (hD : zD A 74 ad) {I : zI} {J : zJ} (p1 : Int32) {rx : Int32} {rI : zI} (hf : f_X8_readNumbers I J p1 = some (rx, rI)) {ls : Array Slot} (S0 : zSt p m c cX8_readNumbers 3 s args wsX8_readNumbers RX8 D a0 A cy (zw 74 (kC cy ad a0) ad I J) [.ref (ad 1), .int p1] ls) (hret : ∀ (tx : Int32) (tI : zI), some (tx, tI) = some (rx, rI) → (tx = 0 ∨ tx = 1) → ∀ (H : Heap) (locs : List Loc) (ls : Array Slot) (pc : Nat), va_P D vwCl (zw 74 (kC cy ad a0) ad tI J) H → va_S A s.heap H locs → decode cX8_readNumbers pc = .ok (.ireturn, 1) → W p l e R s m args below meth c H locs 0 0 Q (F0 m pc ls [.int tx])) : W p l e R s m args below meth c s.heap [] 0 0 Q (F0 m 0 ls []) := by
  obtain ⟨S, E, hP, hl⟩ := S0
  obtain ⟨hx, hb, hml, hown, hts⟩ := id S
  have hS : va_S A s.heap s.heap [] := va_S.rf
  replace hl : lv_has ls 3 [(0, .ref (ad 1)), (1, .int p1)] := hl
  unfold f_X8_readNumbers at hf
  refine lv_aload_n hx hb dX8_readNumbers_0 rfl (lv_at hl 0 rfl) ?_
  refine lv_dup hx hb dX8_readNumbers_1 rfl ?_
  refine va_get (D := D) (ci := 7) (v := .int (I 1 3)) (C := RX8) (T := TX8) (N := 4) hx hb hts hinX8_readNumbers_X8 hown E.1 hP 1 (zO.get (oX8_at)) rfl 3 (by decide) (hts (.fieldLink RX8 28 "EdgeAndSpeed$Text" "place" "I") (by decide +kernel)) (fun _ h9 => h9) rfl dX8_readNumbers_2 ?_
  refine lv_iconst (v := 1) hx hb dX8_readNumbers_5 (by decide) ?_
  refine lv_iadd hx hb dX8_readNumbers_6 ?_
  obtain ⟨I1, eI1⟩ := zex (va_up I 1 (va_up (I 1) 3 ((I 1 3) + 1)))
  replace hf := zn_s eI1 hf
  refine zput (D := D) (ci := 7) (v := .int ((I 1 3) + 1)) (ty := .int) (C := RX8) (T := TX8) (N := 4) hx hb hts hinX8_readNumbers_X8 tyX8 tyX8_ok nmX8 hown E.1 hP hD.D hS 1 (zO.get (oX8_at)) rfl 3 (by decide) (hts (.fieldLink RX8 28 "EdgeAndSpeed$Text" "place" "I") (by decide +kernel)) (fun _ h9 => h9) rfl (tyX8_ok 3 (by decide)) rfl rfl (Nat.le_of_ble_eq_true rfl) dX8_readNumbers_7 (zO.setI (oX8_at) rfl eI1) (fun H locs hP hS => ?_)
  refine lv_iconst (v := 0) hx hb dX8_readNumbers_10 (by decide) ?_
  refine lv_istore_n (lv' := [(2, .int 0), (0, .ref (ad 1)), (1, .int p1)]) hx hb dX8_readNumbers_11 rfl hl (by decide) rfl (fun ls hl => ?_)
  obtain ⟨zl2, hf, hzl2, hel2⟩ := zc1_i hf
  have hjl2 : ∀ (I19 : zI), (Sum.inl I19) = zl2 → ∀ (H : Heap) (locs : List Loc) (ls : Array Slot), va_P D vwCl (zw 74 (kC cy ad a0) ad I19 J) H → va_S A s.heap H locs → lv_has ls 3 [(1, .int p1)] → W p l e R s m args below meth c H locs 0 0 Q (F0 m 68 ls []) := by
    intro I19 ez H locs ls hP hS hl
    have hf := hzl2 I19 ez
    refine lv_iload_n hx hb dX8_readNumbers_68 rfl (lv_at hl 0 rfl) ?_
    refine lv_if_le (tgt := 76) hx hb dX8_readNumbers_69 (by decide) (fun k20 => ?_) (fun k20 => ?_)
    · replace hf := zt k20 hf
      refine lv_iconst (v := 0) hx hb dX8_readNumbers_76 (by decide) ?_
      exact hret _ _ hf (Or.inl rfl) _ _ _ _ hP hS dX8_readNumbers_77
    · replace hf := zf k20 hf
      refine lv_iconst (v := 1) hx hb dX8_readNumbers_72 (by decide) ?_
      refine lv_goto (tgt := 77) hx hb dX8_readNumbers_73 (by decide) ?_
      exact hret _ _ hf (Or.inr rfl) _ _ _ _ hP hS dX8_readNumbers_77
  refine zl_i (V := (Int32 × zI)) (P := fun v => ∀ (H : Heap) (locs : List Loc) (ls : Array Slot), va_P D vwCl (zw 74 (kC cy ad a0) ad v.2 J) H → va_S A s.heap H locs → lv_has ls 3 [(0, .ref (ad 1)), (1, .int p1), (2, .int (v.1))] → W p l e R s m args below meth c H locs 0 0 Q (F0 m 12 ls [])) ?_ _ _ hf _ _ _ hP hS (lv_sub hl [1, 2, 0] rfl)
  intro v z hf hcl2 hdl2
  obtain ⟨x3, I4⟩ := v
  intro H locs ls hP hS hl
  replace hf : f_X8_readNumbers_L12 p1 J x3 I4 = some z := hf
  unfold f_X8_readNumbers_L12 at hf
  replace hP : va_P D vwCl (zw 74 (kC cy ad a0) ad I4 J) H := hP
  replace hl : lv_has ls 3 [(0, .ref (ad 1)), (1, .int p1), (2, .int x3)] := hl
  refine lv_iload_n hx hb dX8_readNumbers_12 rfl (lv_at hl 2 rfl) ?_
  refine lv_iload_n hx hb dX8_readNumbers_13 rfl (lv_at hl 1 rfl) ?_
  refine lv_icmp_ge (tgt := 68) hx hb dX8_readNumbers_14 (by decide) (fun k5 => ?_) (fun k5 => ?_)
  · replace hf := zt k5 hf
    exact hjl2 _ (hdl2 _ (Option.some.inj hf).symm) _ _ _ hP hS (lv_sub hl [1] rfl)
  · replace hf := zf k5 hf
    refine lv_aload_n hx hb dX8_readNumbers_17 rfl (lv_at hl 0 rfl) ?_
    refine lv_iload_n hx hb dX8_readNumbers_18 rfl (lv_at hl 2 rfl) ?_
    obtain ⟨x6, I7, h8, hf⟩ := zb2_e hf
    refine zgo_i (zrunV (As := [.int x3]) (rest := []) S (c_X8_readNumber l hD x3 h8) (cwV 1 hts gX8_readNumbers_X8_readNumber rfl rfl rfl ddX8_readNumber ⟨Nat.le_trans (Nat.le_of_ble_eq_true rfl) hfr, Nat.le_trans (Nat.le_of_ble_eq_true rfl) hlo⟩) (va_recv E.1 hP (q := (RX8, TX8, 4)) (ci := 7) rfl (zO.get (oX8_at))) E hP hS hl.1 rfl rfl (Nat.le_of_ble_eq_true rfl) dX8_readNumbers_19) hS (fun H locs hP hS => ?_)
    refine lv_if_eq (tgt := 50) hx hb dX8_readNumbers_22 (by decide) (fun k9 => ?_) (fun k9 => ?_)
    · replace hf := zt k9 hf
      refine lv_iconst (v := 0) hx hb dX8_readNumbers_50 (by decide) ?_
      replace hf := hel2 _ (hdl2 _ (Option.some.inj hf).symm)
      exact hret _ _ hf (Or.inl rfl) _ _ _ _ hP hS dX8_readNumbers_51
    · replace hf := zf k9 hf
      refine lv_aload_n hx hb dX8_readNumbers_25 rfl (lv_at hl 0 rfl) ?_
      refine lv_aload_n hx hb dX8_readNumbers_26 rfl (lv_at hl 0 rfl) ?_
      refine va_get (D := D) (ci := 7) (v := .int (I7 1 3)) (C := RX8) (T := TX8) (N := 4) hx hb hts hinX8_readNumbers_X8 hown E.1 hP 1 (zO.get (oX8_at)) rfl 3 (by decide) (hts (.fieldLink RX8 28 "EdgeAndSpeed$Text" "place" "I") (by decide +kernel)) (fun _ h9 => h9) rfl dX8_readNumbers_27 ?_
      obtain ⟨x10, h11, hf⟩ := zb1_e hf
      refine zgo_i (zrunV (As := [.int (I7 1 3)]) (rest := []) S (c_X8_byteAt l hD (I7 1 3) h11) (cwV 1 hts gX8_readNumbers_X8_byteAt rfl rfl rfl ddX8_byteAt ⟨Nat.le_trans (Nat.le_of_ble_eq_true rfl) hfr, Nat.le_trans (Nat.le_of_ble_eq_true rfl) hlo⟩) (va_recv E.1 hP (q := (RX8, TX8, 4)) (ci := 7) rfl (zO.get (oX8_at))) E hP hS hl.1 rfl rfl (Nat.le_of_ble_eq_true rfl) dX8_readNumbers_30) hS (fun H locs hP hS => ?_)
      refine lv_iload_n hx hb dX8_readNumbers_33 rfl (lv_at hl 2 rfl) ?_
      refine lv_iconst (v := 1) hx hb dX8_readNumbers_34 (by decide) ?_
      refine lv_iadd hx hb dX8_readNumbers_35 ?_
      refine lv_iload_n hx hb dX8_readNumbers_36 rfl (lv_at hl 1 rfl) ?_
      obtain ⟨zr14, hf, hzr14⟩ := zb1_i hf
      have hjr14 : ∀ (x15 : Int32), x15 = zr14 → ∀ (H : Heap) (locs : List Loc) (ls : Array Slot), va_P D vwCl (zw 74 (kC cy ad a0) ad I7 J) H → va_S A s.heap H locs → lv_has ls 3 [(0, .ref (ad 1)), (1, .int p1), (2, .int x3)] → W p l e R s m args below meth c H locs 0 0 Q (F0 m 47 ls [.int x15, .int x10]) := by
        intro x15 ez H locs ls hP hS hl
        have hf := hzr14 x15 ez
        refine lv_icmp_eq (tgt := 52) hx hb dX8_readNumbers_47 (by decide) (fun k16 => ?_) (fun k16 => ?_)
        · replace hf := zt k16 hf
          refine lv_aload_n hx hb dX8_readNumbers_52 rfl (lv_at hl 0 rfl) ?_
          refine lv_dup hx hb dX8_readNumbers_53 rfl ?_
          refine va_get (D := D) (ci := 7) (v := .int (I7 1 3)) (C := RX8) (T := TX8) (N := 4) hx hb hts hinX8_readNumbers_X8 hown E.1 hP 1 (zO.get (oX8_at)) rfl 3 (by decide) (hts (.fieldLink RX8 28 "EdgeAndSpeed$Text" "place" "I") (by decide +kernel)) (fun _ h9 => h9) rfl dX8_readNumbers_54 ?_
          refine lv_iconst (v := 1) hx hb dX8_readNumbers_57 (by decide) ?_
          refine lv_iadd hx hb dX8_readNumbers_58 ?_
          obtain ⟨I17, eI17⟩ := zex (va_up I7 1 (va_up (I7 1) 3 ((I7 1 3) + 1)))
          replace hf := zn_s eI17 hf
          refine zput (D := D) (ci := 7) (v := .int ((I7 1 3) + 1)) (ty := .int) (C := RX8) (T := TX8) (N := 4) hx hb hts hinX8_readNumbers_X8 tyX8 tyX8_ok nmX8 hown E.1 hP hD.D hS 1 (zO.get (oX8_at)) rfl 3 (by decide) (hts (.fieldLink RX8 28 "EdgeAndSpeed$Text" "place" "I") (by decide +kernel)) (fun _ h9 => h9) rfl (tyX8_ok 3 (by decide)) rfl rfl (Nat.le_of_ble_eq_true rfl) dX8_readNumbers_59 (zO.setI (oX8_at) rfl eI17) (fun H locs hP hS => ?_)
          obtain ⟨y18, ey18⟩ := zex (x3 + 1)
          replace hf := zn_s ey18 hf
          refine lv_iinc (v := y18) (lv' := [(2, .int y18), (0, .ref (ad 1)), (1, .int p1)]) hx hb dX8_readNumbers_62 hl (k := 2) rfl (by rw [ey18]; rfl) (by decide) rfl (fun ls hl => ?_)
          refine lv_goto (tgt := 12) hx hb dX8_readNumbers_65 (by decide) ?_
          exact hcl2 _ (Option.some.inj hf).symm _ _ _ hP hS (lv_sub hl [1, 2, 0] rfl)
        · replace hf := zf k16 hf
          refine lv_iconst (v := 0) hx hb dX8_readNumbers_50 (by decide) ?_
          replace hf := hel2 _ (hdl2 _ (Option.some.inj hf).symm)
          exact hret _ _ hf (Or.inl rfl) _ _ _ _ hP hS dX8_readNumbers_51
      refine lv_icmp_ge (tgt := 45) hx hb dX8_readNumbers_37 (by decide) (fun k12 => ?_) (fun k12 => ?_)
      · replace hf := zt k12 hf
        refine lv_bipush (v := 59) hx hb dX8_readNumbers_45 (by decide) ?_
        exact hjr14 _ (Option.some.inj hf) _ _ _ hP hS (lv_sub hl [0, 1, 2] rfl)
      · replace hf := zf k12 hf
        refine lv_bipush (v := 44) hx hb dX8_readNumbers_40 (by decide) ?_
        refine lv_goto (tgt := 47) hx hb dX8_readNumbers_42 (by decide) ?_
        exact hjr14 _ (Option.some.inj hf) _ _ _ hP hS (lv_sub hl [0, 1, 2] rfl)
theorem c_X8_readNumbers (l : Launch) {D : va_G} {a0 : Nat → Nat} {A : Nat → Prop} {cy : Nat → ClassId} {ad : Nat → Nat} (hD : zD A 74 ad) {I : zI} {J : zJ} (p1 : Int32) {rx : Int32} {rI : zI} (hf : f_X8_readNumbers I J p1 = some (rx, rI)) : Met l yX8_readNumbers wsX8_readNumbers { frames := 2, cells := 0, slots := 0, locals := 45 } (zPc D a0 A cy [.ref (ad 1), .int p1] (zw 74 (kC cy ad a0) ad I J)) (zQi D A rx (zw 74 (kC cy ad a0) ad rI J)) 0 0 A :=
  zmet RX8 (by decide) rfl rfl (Nat.le_of_ble_eq_true rfl) (fun p e R s m below meth c Q hfr hlo ls S0 hQ => w_X8_readNumbers hfr hlo hD p1 hf S0 (fun tx tI hq n01 H locs ls pc hP hS hd => by cases hq; exact hQ H locs _ hS (fun hx hb hr hlocks hfree => W.zret hx hb hr (z01 n01) (fun t ht hW => ⟨⟨_, (), rfl, rfl, zht ht hP⟩, hS.F ht⟩) hfree hd hlocks)))
theorem ddX8_readNumbers : yX8_readNumbers.cls = RX8 ∧ yX8_readNumbers.cls ≠ "java/lang/invoke/MethodHandle" ∧ yX8_readNumbers.cls ≠ "java/lang/invoke/VarHandle" ∧ (parseMethodDescriptor yX8_readNumbers.desc).map (fun d => d.parameters.length) = some 1 := by decide +kernel

def f_X0_takeSpeed (I : zI) (J : zJ) (o : Nat) (p1 : Int32) (p2 : Int32) : Option (Int32 × zI) := zb1 (f_X11_within I J p1 1 99) (fun x1 => (if x1 = 0 then some (0, I) else zb1 (f_X11_within I J p2 0 999) (fun x4 => (if x4 = 0 then some (0, I) else zb1 (f_X11_within I J (I o 9) 0 5) (fun x7 => (if x7 = 0 then some (0, I) else zg (¬ ((I o 9) < 0 ∨ 6 ≤ (I o 9).toNatClampNeg)) (zn (va_up I (o + 1) (upd (I (o + 1)) (I o 9).toNatClampNeg p1)) (fun I10 => zg (¬ ((I10 o 9) < 0 ∨ 6 ≤ (I10 o 9).toNatClampNeg)) (zn (va_up I10 (o + 2) (upd (I10 (o + 2)) (I10 o 9).toNatClampNeg p2)) (fun I12 => zn (va_up I12 o (va_up (I12 o) 9 ((I12 o 9) + 1))) (fun I14 => some (1, I14))))))))))))
theorem hinX0_takeSpeed_X0 : ∀ w ∈ u_ws RX0 TX0 17, w ∈ wsX0_takeSpeed := by decide +kernel
set_option maxHeartbeats 4000000 in
set_option maxRecDepth 100000 in
theorem w_X0_takeSpeed {p : Program} {l : Launch} {e : Env} {R : Room} {s : State} {m : MethodId} {args : Array Value} {below : List Frame} {meth : Method} {c : Code} {Q : State → Prop} (hfr : 1 ≤ R.frames) (hlo : 22 ≤ R.locals) {D : va_G} {a0 : Nat → Nat} {A : Nat → Prop} {cy : Nat → ClassId} {ad : Nat → Nat} {N : Nat} {K : zK} (hD : zD A N ad) {I : zI} {J : zJ} (o : Nat) (hB : zBat N K cy ad o) (p1 : Int32) (p2 : Int32) {rx : Int32} {rI : zI} (hf : f_X0_takeSpeed I J o p1 p2 = some (rx, rI)) {ls : Array Slot} (S0 : zSt p m c cX0_takeSpeed 3 s args wsX0_takeSpeed RX0 D a0 A cy (zw N K ad I J) [.ref (ad o), .int p1, .int p2] ls) (hret : ∀ (tx : Int32) (tI : zI), some (tx, tI) = some (rx, rI) → (tx = 0 ∨ tx = 1) → ∀ (H : Heap) (locs : List Loc) (ls : Array Slot) (pc : Nat), va_P D vwCl (zw N K ad tI J) H → va_S A s.heap H locs → decode cX0_takeSpeed pc = .ok (.ireturn, 1) → W p l e R s m args below meth c H locs 0 0 Q (F0 m pc ls [.int tx])) : W p l e R s m args below meth c s.heap [] 0 0 Q (F0 m 0 ls []) := by
  obtain ⟨S, E, hP, hl⟩ := S0
  obtain ⟨hx, hb, hml, hown, hts⟩ := id S
  have hS : va_S A s.heap s.heap [] := va_S.rf
  replace hl : lv_has ls 3 [(0, .ref (ad o)), (1, .int p1), (2, .int p2)] := hl
  unfold f_X0_takeSpeed at hf
  refine lv_iload_n hx hb dX0_takeSpeed_0 rfl (lv_at hl 1 rfl) ?_
  refine lv_iconst (v := 1) hx hb dX0_takeSpeed_1 (by decide) ?_
  refine lv_bipush (v := 99) hx hb dX0_takeSpeed_2 (by decide) ?_
  obtain ⟨x1, h2, hf⟩ := zb1_e hf
  refine zgo_i (zrunSN (As := [.int p1, .int 1, .int 99]) (rest := []) S (c_X11_within l hD p1 1 99 h2) ⟨va_cnB (host := "EdgeAndSpeed") 3 hts gX0_takeSpeed_X11_within_n105 rfl rfl rfl (zNmw_0 E.2.2) (hts (.initialized RX11) (by decide +kernel)) ddX11_within ⟨Nat.le_trans (Nat.le_of_ble_eq_true rfl) hfr, Nat.le_trans (Nat.le_of_ble_eq_true rfl) hlo⟩, hts (.static yX11_within) (by decide +kernel), trivial⟩ E hP hS hl.1 rfl rfl (Nat.le_of_ble_eq_true rfl) dX0_takeSpeed_4) hS (fun H locs hP hS => ?_)
  refine lv_if_eq (tgt := 33) hx hb dX0_takeSpeed_7 (by decide) (fun k3 => ?_) (fun k3 => ?_)
  · replace hf := zt k3 hf
    refine lv_iconst (v := 0) hx hb dX0_takeSpeed_33 (by decide) ?_
    exact hret _ _ hf (Or.inl rfl) _ _ _ _ hP hS dX0_takeSpeed_34
  · replace hf := zf k3 hf
    refine lv_iload_n hx hb dX0_takeSpeed_10 rfl (lv_at hl 2 rfl) ?_
    refine lv_iconst (v := 0) hx hb dX0_takeSpeed_11 (by decide) ?_
    refine lv_sipush (v := 999) hx hb dX0_takeSpeed_12 (by decide) ?_
    obtain ⟨x4, h5, hf⟩ := zb1_e hf
    refine zgo_i (zrunSN (As := [.int p2, .int 0, .int 999]) (rest := []) S (c_X11_within l hD p2 0 999 h5) ⟨va_cnB (host := "EdgeAndSpeed") 3 hts gX0_takeSpeed_X11_within_n105 rfl rfl rfl (zNmw_0 E.2.2) (hts (.initialized RX11) (by decide +kernel)) ddX11_within ⟨Nat.le_trans (Nat.le_of_ble_eq_true rfl) hfr, Nat.le_trans (Nat.le_of_ble_eq_true rfl) hlo⟩, hts (.static yX11_within) (by decide +kernel), trivial⟩ E hP hS hl.1 rfl rfl (Nat.le_of_ble_eq_true rfl) dX0_takeSpeed_15) hS (fun H locs hP hS => ?_)
    refine lv_if_eq (tgt := 33) hx hb dX0_takeSpeed_18 (by decide) (fun k6 => ?_) (fun k6 => ?_)
    · replace hf := zt k6 hf
      refine lv_iconst (v := 0) hx hb dX0_takeSpeed_33 (by decide) ?_
      exact hret _ _ hf (Or.inl rfl) _ _ _ _ hP hS dX0_takeSpeed_34
    · replace hf := zf k6 hf
      refine lv_aload_n hx hb dX0_takeSpeed_21 rfl (lv_at hl 0 rfl) ?_
      refine va_get (D := D) (ci := 0) (v := .int (I o 9)) (C := RX0) (T := TX0) (N := 17) hx hb hts hinX0_takeSpeed_X0 hown E.1 hP o (zO.get (zBat_o hB)) rfl 9 (by decide) (hts (.fieldLink RX0 54 "EdgeAndSpeed$Bench" "speeds" "I") (by decide +kernel)) (fun _ h9 => h9) rfl dX0_takeSpeed_22 ?_
      refine lv_iconst (v := 0) hx hb dX0_takeSpeed_25 (by decide) ?_
      refine lv_iconst (v := 5) hx hb dX0_takeSpeed_26 (by decide) ?_
      obtain ⟨x7, h8, hf⟩ := zb1_e hf
      refine zgo_i (zrunSN (As := [.int (I o 9), .int 0, .int 5]) (rest := []) S (c_X11_within l hD (I o 9) 0 5 h8) ⟨va_cnB (host := "EdgeAndSpeed") 3 hts gX0_takeSpeed_X11_within_n105 rfl rfl rfl (zNmw_0 E.2.2) (hts (.initialized RX11) (by decide +kernel)) ddX11_within ⟨Nat.le_trans (Nat.le_of_ble_eq_true rfl) hfr, Nat.le_trans (Nat.le_of_ble_eq_true rfl) hlo⟩, hts (.static yX11_within) (by decide +kernel), trivial⟩ E hP hS hl.1 rfl rfl (Nat.le_of_ble_eq_true rfl) dX0_takeSpeed_27) hS (fun H locs hP hS => ?_)
      refine lv_if_ne (tgt := 35) hx hb dX0_takeSpeed_30 (by decide) (fun k9 => ?_) (fun k9 => ?_)
      · replace hf := zf k9 hf
        refine lv_aload_n hx hb dX0_takeSpeed_35 rfl (lv_at hl 0 rfl) ?_
        refine va_get (D := D) (ci := 0) (v := .ref (ad (o + 1))) (C := RX0) (T := TX0) (N := 17) hx hb hts hinX0_takeSpeed_X0 hown E.1 hP o (zO.get (zBat_o hB)) rfl 0 (by decide) (hts (.fieldLink RX0 9 "EdgeAndSpeed$Bench" "inches" "[I") (by decide +kernel)) (fun _ h9 => h9) rfl dX0_takeSpeed_36 ?_
        refine lv_aload_n hx hb dX0_takeSpeed_39 rfl (lv_at hl 0 rfl) ?_
        refine va_get (D := D) (ci := 0) (v := .int (I o 9)) (C := RX0) (T := TX0) (N := 17) hx hb hts hinX0_takeSpeed_X0 hown E.1 hP o (zO.get (zBat_o hB)) rfl 9 (by decide) (hts (.fieldLink RX0 54 "EdgeAndSpeed$Bench" "speeds" "I") (by decide +kernel)) (fun _ h9 => h9) rfl dX0_takeSpeed_40 ?_
        refine lv_iload_n hx hb dX0_takeSpeed_43 rfl (lv_at hl 1 rfl) ?_
        obtain ⟨g11, hf⟩ := zg_i hf
        obtain ⟨I10, eI10⟩ := zex (va_up I (o + 1) (upd (I (o + 1)) (I o 9).toNatClampNeg p1))
        replace hf := zn_s eI10 hf
        refine zast_i hx hb E.1 hP hD.D hS (zBat_0 hB) g11 dX0_takeSpeed_44 eI10 (fun H locs hP hS => ?_)
        refine lv_aload_n hx hb dX0_takeSpeed_45 rfl (lv_at hl 0 rfl) ?_
        refine va_get (D := D) (ci := 0) (v := .ref (ad (o + 2))) (C := RX0) (T := TX0) (N := 17) hx hb hts hinX0_takeSpeed_X0 hown E.1 hP o (zO.get (zBat_o hB)) rfl 1 (by decide) (hts (.fieldLink RX0 15 "EdgeAndSpeed$Bench" "wearing" "[I") (by decide +kernel)) (fun _ h9 => h9) rfl dX0_takeSpeed_46 ?_
        refine lv_aload_n hx hb dX0_takeSpeed_49 rfl (lv_at hl 0 rfl) ?_
        refine va_get (D := D) (ci := 0) (v := .int (I10 o 9)) (C := RX0) (T := TX0) (N := 17) hx hb hts hinX0_takeSpeed_X0 hown E.1 hP o (zO.get (zBat_o hB)) rfl 9 (by decide) (hts (.fieldLink RX0 54 "EdgeAndSpeed$Bench" "speeds" "I") (by decide +kernel)) (fun _ h9 => h9) rfl dX0_takeSpeed_50 ?_
        refine lv_iload_n hx hb dX0_takeSpeed_53 rfl (lv_at hl 2 rfl) ?_
        obtain ⟨g13, hf⟩ := zg_i hf
        obtain ⟨I12, eI12⟩ := zex (va_up I10 (o + 2) (upd (I10 (o + 2)) (I10 o 9).toNatClampNeg p2))
        replace hf := zn_s eI12 hf
        refine zast_i hx hb E.1 hP hD.D hS (zBat_1 hB) g13 dX0_takeSpeed_54 eI12 (fun H locs hP hS => ?_)
        refine lv_aload_n hx hb dX0_takeSpeed_55 rfl (lv_at hl 0 rfl) ?_
        refine lv_dup hx hb dX0_takeSpeed_56 rfl ?_
        refine va_get (D := D) (ci := 0) (v := .int (I12 o 9)) (C := RX0) (T := TX0) (N := 17) hx hb hts hinX0_takeSpeed_X0 hown E.1 hP o (zO.get (zBat_o hB)) rfl 9 (by decide) (hts (.fieldLink RX0 54 "EdgeAndSpeed$Bench" "speeds" "I") (by decide +kernel)) (fun _ h9 => h9) rfl dX0_takeSpeed_57 ?_
        refine lv_iconst (v := 1) hx hb dX0_takeSpeed_60 (by decide) ?_
        refine lv_iadd hx hb dX0_takeSpeed_61 ?_
        obtain ⟨I14, eI14⟩ := zex (va_up I12 o (va_up (I12 o) 9 ((I12 o 9) + 1)))
        replace hf := zn_s eI14 hf
        refine zput (D := D) (ci := 0) (v := .int ((I12 o 9) + 1)) (ty := .int) (C := RX0) (T := TX0) (N := 17) hx hb hts hinX0_takeSpeed_X0 tyX0 tyX0_ok nmX0 hown E.1 hP hD.D hS o (zO.get (zBat_o hB)) rfl 9 (by decide) (hts (.fieldLink RX0 54 "EdgeAndSpeed$Bench" "speeds" "I") (by decide +kernel)) (fun _ h9 => h9) rfl (tyX0_ok 9 (by decide)) rfl rfl (Nat.le_of_ble_eq_true rfl) dX0_takeSpeed_62 (zO.setI (zBat_o hB) rfl eI14) (fun H locs hP hS => ?_)
        refine lv_iconst (v := 1) hx hb dX0_takeSpeed_65 (by decide) ?_
        exact hret _ _ hf (Or.inr rfl) _ _ _ _ hP hS dX0_takeSpeed_66
      · replace hf := zt k9 hf
        refine lv_iconst (v := 0) hx hb dX0_takeSpeed_33 (by decide) ?_
        exact hret _ _ hf (Or.inl rfl) _ _ _ _ hP hS dX0_takeSpeed_34
theorem c_X0_takeSpeed (l : Launch) {D : va_G} {a0 : Nat → Nat} {A : Nat → Prop} {cy : Nat → ClassId} {ad : Nat → Nat} {N : Nat} {K : zK} (hD : zD A N ad) {I : zI} {J : zJ} (o : Nat) (hB : zBat N K cy ad o) (p1 : Int32) (p2 : Int32) {rx : Int32} {rI : zI} (hf : f_X0_takeSpeed I J o p1 p2 = some (rx, rI)) : Met l yX0_takeSpeed wsX0_takeSpeed { frames := 1, cells := 0, slots := 0, locals := 22 } (zPc D a0 A cy [.ref (ad o), .int p1, .int p2] (zw N K ad I J)) (zQi D A rx (zw N K ad rI J)) 0 0 A :=
  zmet RX0 (by decide) rfl rfl (Nat.le_of_ble_eq_true rfl) (fun p e R s m below meth c Q hfr hlo ls S0 hQ => w_X0_takeSpeed hfr hlo hD o hB p1 p2 hf S0 (fun tx tI hq n01 H locs ls pc hP hS hd => by cases hq; exact hQ H locs _ hS (fun hx hb hr hlocks hfree => W.zret hx hb hr (z01 n01) (fun t ht hW => ⟨⟨_, (), rfl, rfl, zht ht hP⟩, hS.F ht⟩) hfree hd hlocks)))
theorem ddX0_takeSpeed : yX0_takeSpeed.cls = RX0 ∧ yX0_takeSpeed.cls ≠ "java/lang/invoke/MethodHandle" ∧ yX0_takeSpeed.cls ≠ "java/lang/invoke/VarHandle" ∧ (parseMethodDescriptor yX0_takeSpeed.desc).map (fun d => d.parameters.length) = some 2 := by decide +kernel

def f_X0_takePiece (I : zI) (J : zJ) (o : Nat) (p1 : Int32) (p2 : Int32) (p3 : Int32) (p4 : Int32) : Option (Int32 × zI) := zb1 (f_X11_within I J p1 1 99) (fun x1 => (if x1 = 0 then some (0, I) else zb1 (f_X11_within I J p2 1 8) (fun x4 => (if x4 = 0 then some (0, I) else zb1 (f_X11_within I J p3 0 100) (fun x7 => (if x7 = 0 then some (0, I) else zb1 (f_X11_within I J p4 0 999) (fun x10 => (if x10 = 0 then some (0, I) else zb1 (f_X11_within I J (I o 10) 0 7) (fun x13 => (if x13 = 0 then some (0, I) else zg (¬ ((I o 10) < 0 ∨ 8 ≤ (I o 10).toNatClampNeg)) (zn (va_up I (o + 3) (upd (I (o + 3)) (I o 10).toNatClampNeg p1)) (fun I16 => zg (¬ ((I16 o 10) < 0 ∨ 8 ≤ (I16 o 10).toNatClampNeg)) (zn (va_up I16 (o + 4) (upd (I16 (o + 4)) (I16 o 10).toNatClampNeg p2)) (fun I18 => zg (¬ ((I18 o 10) < 0 ∨ 8 ≤ (I18 o 10).toNatClampNeg)) (zn (va_up I18 (o + 5) (upd (I18 (o + 5)) (I18 o 10).toNatClampNeg p3)) (fun I20 => zg (¬ ((I20 o 10) < 0 ∨ 8 ≤ (I20 o 10).toNatClampNeg)) (zn (va_up I20 (o + 6) (upd (I20 (o + 6)) (I20 o 10).toNatClampNeg p4)) (fun I22 => zn (va_up I22 o (va_up (I22 o) 10 ((I22 o 10) + 1))) (fun I24 => some (1, I24))))))))))))))))))))
theorem hinX0_takePiece_X0 : ∀ w ∈ u_ws RX0 TX0 17, w ∈ wsX0_takePiece := by decide +kernel
set_option maxHeartbeats 4000000 in
set_option maxRecDepth 100000 in
theorem w_X0_takePiece {p : Program} {l : Launch} {e : Env} {R : Room} {s : State} {m : MethodId} {args : Array Value} {below : List Frame} {meth : Method} {c : Code} {Q : State → Prop} (hfr : 1 ≤ R.frames) (hlo : 22 ≤ R.locals) {D : va_G} {a0 : Nat → Nat} {A : Nat → Prop} {cy : Nat → ClassId} {ad : Nat → Nat} {N : Nat} {K : zK} (hD : zD A N ad) {I : zI} {J : zJ} (o : Nat) (hB : zBat N K cy ad o) (p1 : Int32) (p2 : Int32) (p3 : Int32) (p4 : Int32) {rx : Int32} {rI : zI} (hf : f_X0_takePiece I J o p1 p2 p3 p4 = some (rx, rI)) {ls : Array Slot} (S0 : zSt p m c cX0_takePiece 5 s args wsX0_takePiece RX0 D a0 A cy (zw N K ad I J) [.ref (ad o), .int p1, .int p2, .int p3, .int p4] ls) (hret : ∀ (tx : Int32) (tI : zI), some (tx, tI) = some (rx, rI) → (tx = 0 ∨ tx = 1) → ∀ (H : Heap) (locs : List Loc) (ls : Array Slot) (pc : Nat), va_P D vwCl (zw N K ad tI J) H → va_S A s.heap H locs → decode cX0_takePiece pc = .ok (.ireturn, 1) → W p l e R s m args below meth c H locs 0 0 Q (F0 m pc ls [.int tx])) : W p l e R s m args below meth c s.heap [] 0 0 Q (F0 m 0 ls []) := by
  obtain ⟨S, E, hP, hl⟩ := S0
  obtain ⟨hx, hb, hml, hown, hts⟩ := id S
  have hS : va_S A s.heap s.heap [] := va_S.rf
  replace hl : lv_has ls 5 [(0, .ref (ad o)), (1, .int p1), (2, .int p2), (3, .int p3), (4, .int p4)] := hl
  unfold f_X0_takePiece at hf
  refine lv_iload_n hx hb dX0_takePiece_0 rfl (lv_at hl 1 rfl) ?_
  refine lv_iconst (v := 1) hx hb dX0_takePiece_1 (by decide) ?_
  refine lv_bipush (v := 99) hx hb dX0_takePiece_2 (by decide) ?_
  obtain ⟨x1, h2, hf⟩ := zb1_e hf
  refine zgo_i (zrunSN (As := [.int p1, .int 1, .int 99]) (rest := []) S (c_X11_within l hD p1 1 99 h2) ⟨va_cnB (host := "EdgeAndSpeed") 3 hts gX0_takePiece_X11_within_n105 rfl rfl rfl (zNmw_0 E.2.2) (hts (.initialized RX11) (by decide +kernel)) ddX11_within ⟨Nat.le_trans (Nat.le_of_ble_eq_true rfl) hfr, Nat.le_trans (Nat.le_of_ble_eq_true rfl) hlo⟩, hts (.static yX11_within) (by decide +kernel), trivial⟩ E hP hS hl.1 rfl rfl (Nat.le_of_ble_eq_true rfl) dX0_takePiece_4) hS (fun H locs hP hS => ?_)
  refine lv_if_eq (tgt := 30) hx hb dX0_takePiece_7 (by decide) (fun k3 => ?_) (fun k3 => ?_)
  · replace hf := zt k3 hf
    refine lv_iconst (v := 0) hx hb dX0_takePiece_30 (by decide) ?_
    exact hret _ _ hf (Or.inl rfl) _ _ _ _ hP hS dX0_takePiece_31
  · replace hf := zf k3 hf
    refine lv_iload_n hx hb dX0_takePiece_10 rfl (lv_at hl 2 rfl) ?_
    refine lv_iconst (v := 1) hx hb dX0_takePiece_11 (by decide) ?_
    refine lv_bipush (v := 8) hx hb dX0_takePiece_12 (by decide) ?_
    obtain ⟨x4, h5, hf⟩ := zb1_e hf
    refine zgo_i (zrunSN (As := [.int p2, .int 1, .int 8]) (rest := []) S (c_X11_within l hD p2 1 8 h5) ⟨va_cnB (host := "EdgeAndSpeed") 3 hts gX0_takePiece_X11_within_n105 rfl rfl rfl (zNmw_0 E.2.2) (hts (.initialized RX11) (by decide +kernel)) ddX11_within ⟨Nat.le_trans (Nat.le_of_ble_eq_true rfl) hfr, Nat.le_trans (Nat.le_of_ble_eq_true rfl) hlo⟩, hts (.static yX11_within) (by decide +kernel), trivial⟩ E hP hS hl.1 rfl rfl (Nat.le_of_ble_eq_true rfl) dX0_takePiece_14) hS (fun H locs hP hS => ?_)
    refine lv_if_eq (tgt := 30) hx hb dX0_takePiece_17 (by decide) (fun k6 => ?_) (fun k6 => ?_)
    · replace hf := zt k6 hf
      refine lv_iconst (v := 0) hx hb dX0_takePiece_30 (by decide) ?_
      exact hret _ _ hf (Or.inl rfl) _ _ _ _ hP hS dX0_takePiece_31
    · replace hf := zf k6 hf
      refine lv_iload_n hx hb dX0_takePiece_20 rfl (lv_at hl 3 rfl) ?_
      refine lv_iconst (v := 0) hx hb dX0_takePiece_21 (by decide) ?_
      refine lv_bipush (v := 100) hx hb dX0_takePiece_22 (by decide) ?_
      obtain ⟨x7, h8, hf⟩ := zb1_e hf
      refine zgo_i (zrunSN (As := [.int p3, .int 0, .int 100]) (rest := []) S (c_X11_within l hD p3 0 100 h8) ⟨va_cnB (host := "EdgeAndSpeed") 3 hts gX0_takePiece_X11_within_n105 rfl rfl rfl (zNmw_0 E.2.2) (hts (.initialized RX11) (by decide +kernel)) ddX11_within ⟨Nat.le_trans (Nat.le_of_ble_eq_true rfl) hfr, Nat.le_trans (Nat.le_of_ble_eq_true rfl) hlo⟩, hts (.static yX11_within) (by decide +kernel), trivial⟩ E hP hS hl.1 rfl rfl (Nat.le_of_ble_eq_true rfl) dX0_takePiece_24) hS (fun H locs hP hS => ?_)
      refine lv_if_ne (tgt := 32) hx hb dX0_takePiece_27 (by decide) (fun k9 => ?_) (fun k9 => ?_)
      · replace hf := zf k9 hf
        refine lv_iload hx hb dX0_takePiece_32 (lv_at hl 4 rfl) ?_
        refine lv_iconst (v := 0) hx hb dX0_takePiece_34 (by decide) ?_
        refine lv_sipush (v := 999) hx hb dX0_takePiece_35 (by decide) ?_
        obtain ⟨x10, h11, hf⟩ := zb1_e hf
        refine zgo_i (zrunSN (As := [.int p4, .int 0, .int 999]) (rest := []) S (c_X11_within l hD p4 0 999 h11) ⟨va_cnB (host := "EdgeAndSpeed") 3 hts gX0_takePiece_X11_within_n105 rfl rfl rfl (zNmw_0 E.2.2) (hts (.initialized RX11) (by decide +kernel)) ddX11_within ⟨Nat.le_trans (Nat.le_of_ble_eq_true rfl) hfr, Nat.le_trans (Nat.le_of_ble_eq_true rfl) hlo⟩, hts (.static yX11_within) (by decide +kernel), trivial⟩ E hP hS hl.1 rfl rfl (Nat.le_of_ble_eq_true rfl) dX0_takePiece_38) hS (fun H locs hP hS => ?_)
        refine lv_if_eq (tgt := 57) hx hb dX0_takePiece_41 (by decide) (fun k12 => ?_) (fun k12 => ?_)
        · replace hf := zt k12 hf
          refine lv_iconst (v := 0) hx hb dX0_takePiece_57 (by decide) ?_
          exact hret _ _ hf (Or.inl rfl) _ _ _ _ hP hS dX0_takePiece_58
        · replace hf := zf k12 hf
          refine lv_aload_n hx hb dX0_takePiece_44 rfl (lv_at hl 0 rfl) ?_
          refine va_get (D := D) (ci := 0) (v := .int (I o 10)) (C := RX0) (T := TX0) (N := 17) hx hb hts hinX0_takePiece_X0 hown E.1 hP o (zO.get (zBat_o hB)) rfl 10 (by decide) (hts (.fieldLink RX0 58 "EdgeAndSpeed$Bench" "pieces" "I") (by decide +kernel)) (fun _ h9 => h9) rfl dX0_takePiece_45 ?_
          refine lv_iconst (v := 0) hx hb dX0_takePiece_48 (by decide) ?_
          refine lv_bipush (v := 7) hx hb dX0_takePiece_49 (by decide) ?_
          obtain ⟨x13, h14, hf⟩ := zb1_e hf
          refine zgo_i (zrunSN (As := [.int (I o 10), .int 0, .int 7]) (rest := []) S (c_X11_within l hD (I o 10) 0 7 h14) ⟨va_cnB (host := "EdgeAndSpeed") 3 hts gX0_takePiece_X11_within_n105 rfl rfl rfl (zNmw_0 E.2.2) (hts (.initialized RX11) (by decide +kernel)) ddX11_within ⟨Nat.le_trans (Nat.le_of_ble_eq_true rfl) hfr, Nat.le_trans (Nat.le_of_ble_eq_true rfl) hlo⟩, hts (.static yX11_within) (by decide +kernel), trivial⟩ E hP hS hl.1 rfl rfl (Nat.le_of_ble_eq_true rfl) dX0_takePiece_51) hS (fun H locs hP hS => ?_)
          refine lv_if_ne (tgt := 59) hx hb dX0_takePiece_54 (by decide) (fun k15 => ?_) (fun k15 => ?_)
          · replace hf := zf k15 hf
            refine lv_aload_n hx hb dX0_takePiece_59 rfl (lv_at hl 0 rfl) ?_
            refine va_get (D := D) (ci := 0) (v := .ref (ad (o + 3))) (C := RX0) (T := TX0) (N := 17) hx hb hts hinX0_takePiece_X0 hown E.1 hP o (zO.get (zBat_o hB)) rfl 2 (by decide) (hts (.fieldLink RX0 18 "EdgeAndSpeed$Bench" "lengths" "[I") (by decide +kernel)) (fun _ h9 => h9) rfl dX0_takePiece_60 ?_
            refine lv_aload_n hx hb dX0_takePiece_63 rfl (lv_at hl 0 rfl) ?_
            refine va_get (D := D) (ci := 0) (v := .int (I o 10)) (C := RX0) (T := TX0) (N := 17) hx hb hts hinX0_takePiece_X0 hown E.1 hP o (zO.get (zBat_o hB)) rfl 10 (by decide) (hts (.fieldLink RX0 58 "EdgeAndSpeed$Bench" "pieces" "I") (by decide +kernel)) (fun _ h9 => h9) rfl dX0_takePiece_64 ?_
            refine lv_iload_n hx hb dX0_takePiece_67 rfl (lv_at hl 1 rfl) ?_
            obtain ⟨g17, hf⟩ := zg_i hf
            obtain ⟨I16, eI16⟩ := zex (va_up I (o + 3) (upd (I (o + 3)) (I o 10).toNatClampNeg p1))
            replace hf := zn_s eI16 hf
            refine zast_i hx hb E.1 hP hD.D hS (zBat_2 hB) g17 dX0_takePiece_68 eI16 (fun H locs hP hS => ?_)
            refine lv_aload_n hx hb dX0_takePiece_69 rfl (lv_at hl 0 rfl) ?_
            refine va_get (D := D) (ci := 0) (v := .ref (ad (o + 4))) (C := RX0) (T := TX0) (N := 17) hx hb hts hinX0_takePiece_X0 hown E.1 hP o (zO.get (zBat_o hB)) rfl 3 (by decide) (hts (.fieldLink RX0 21 "EdgeAndSpeed$Bench" "depths" "[I") (by decide +kernel)) (fun _ h9 => h9) rfl dX0_takePiece_70 ?_
            refine lv_aload_n hx hb dX0_takePiece_73 rfl (lv_at hl 0 rfl) ?_
            refine va_get (D := D) (ci := 0) (v := .int (I16 o 10)) (C := RX0) (T := TX0) (N := 17) hx hb hts hinX0_takePiece_X0 hown E.1 hP o (zO.get (zBat_o hB)) rfl 10 (by decide) (hts (.fieldLink RX0 58 "EdgeAndSpeed$Bench" "pieces" "I") (by decide +kernel)) (fun _ h9 => h9) rfl dX0_takePiece_74 ?_
            refine lv_iload_n hx hb dX0_takePiece_77 rfl (lv_at hl 2 rfl) ?_
            obtain ⟨g19, hf⟩ := zg_i hf
            obtain ⟨I18, eI18⟩ := zex (va_up I16 (o + 4) (upd (I16 (o + 4)) (I16 o 10).toNatClampNeg p2))
            replace hf := zn_s eI18 hf
            refine zast_i hx hb E.1 hP hD.D hS (zBat_3 hB) g19 dX0_takePiece_78 eI18 (fun H locs hP hS => ?_)
            refine lv_aload_n hx hb dX0_takePiece_79 rfl (lv_at hl 0 rfl) ?_
            refine va_get (D := D) (ci := 0) (v := .ref (ad (o + 5))) (C := RX0) (T := TX0) (N := 17) hx hb hts hinX0_takePiece_X0 hown E.1 hP o (zO.get (zBat_o hB)) rfl 4 (by decide) (hts (.fieldLink RX0 24 "EdgeAndSpeed$Bench" "fines" "[I") (by decide +kernel)) (fun _ h9 => h9) rfl dX0_takePiece_80 ?_
            refine lv_aload_n hx hb dX0_takePiece_83 rfl (lv_at hl 0 rfl) ?_
            refine va_get (D := D) (ci := 0) (v := .int (I18 o 10)) (C := RX0) (T := TX0) (N := 17) hx hb hts hinX0_takePiece_X0 hown E.1 hP o (zO.get (zBat_o hB)) rfl 10 (by decide) (hts (.fieldLink RX0 58 "EdgeAndSpeed$Bench" "pieces" "I") (by decide +kernel)) (fun _ h9 => h9) rfl dX0_takePiece_84 ?_
            refine lv_iload_n hx hb dX0_takePiece_87 rfl (lv_at hl 3 rfl) ?_
            obtain ⟨g21, hf⟩ := zg_i hf
            obtain ⟨I20, eI20⟩ := zex (va_up I18 (o + 5) (upd (I18 (o + 5)) (I18 o 10).toNatClampNeg p3))
            replace hf := zn_s eI20 hf
            refine zast_i hx hb E.1 hP hD.D hS (zBat_4 hB) g21 dX0_takePiece_88 eI20 (fun H locs hP hS => ?_)
            refine lv_aload_n hx hb dX0_takePiece_89 rfl (lv_at hl 0 rfl) ?_
            refine va_get (D := D) (ci := 0) (v := .ref (ad (o + 6))) (C := RX0) (T := TX0) (N := 17) hx hb hts hinX0_takePiece_X0 hown E.1 hP o (zO.get (zBat_o hB)) rfl 5 (by decide) (hts (.fieldLink RX0 27 "EdgeAndSpeed$Bench" "worths" "[I") (by decide +kernel)) (fun _ h9 => h9) rfl dX0_takePiece_90 ?_
            refine lv_aload_n hx hb dX0_takePiece_93 rfl (lv_at hl 0 rfl) ?_
            refine va_get (D := D) (ci := 0) (v := .int (I20 o 10)) (C := RX0) (T := TX0) (N := 17) hx hb hts hinX0_takePiece_X0 hown E.1 hP o (zO.get (zBat_o hB)) rfl 10 (by decide) (hts (.fieldLink RX0 58 "EdgeAndSpeed$Bench" "pieces" "I") (by decide +kernel)) (fun _ h9 => h9) rfl dX0_takePiece_94 ?_
            refine lv_iload hx hb dX0_takePiece_97 (lv_at hl 4 rfl) ?_
            obtain ⟨g23, hf⟩ := zg_i hf
            obtain ⟨I22, eI22⟩ := zex (va_up I20 (o + 6) (upd (I20 (o + 6)) (I20 o 10).toNatClampNeg p4))
            replace hf := zn_s eI22 hf
            refine zast_i hx hb E.1 hP hD.D hS (zBat_5 hB) g23 dX0_takePiece_99 eI22 (fun H locs hP hS => ?_)
            refine lv_aload_n hx hb dX0_takePiece_100 rfl (lv_at hl 0 rfl) ?_
            refine lv_dup hx hb dX0_takePiece_101 rfl ?_
            refine va_get (D := D) (ci := 0) (v := .int (I22 o 10)) (C := RX0) (T := TX0) (N := 17) hx hb hts hinX0_takePiece_X0 hown E.1 hP o (zO.get (zBat_o hB)) rfl 10 (by decide) (hts (.fieldLink RX0 58 "EdgeAndSpeed$Bench" "pieces" "I") (by decide +kernel)) (fun _ h9 => h9) rfl dX0_takePiece_102 ?_
            refine lv_iconst (v := 1) hx hb dX0_takePiece_105 (by decide) ?_
            refine lv_iadd hx hb dX0_takePiece_106 ?_
            obtain ⟨I24, eI24⟩ := zex (va_up I22 o (va_up (I22 o) 10 ((I22 o 10) + 1)))
            replace hf := zn_s eI24 hf
            refine zput (D := D) (ci := 0) (v := .int ((I22 o 10) + 1)) (ty := .int) (C := RX0) (T := TX0) (N := 17) hx hb hts hinX0_takePiece_X0 tyX0 tyX0_ok nmX0 hown E.1 hP hD.D hS o (zO.get (zBat_o hB)) rfl 10 (by decide) (hts (.fieldLink RX0 58 "EdgeAndSpeed$Bench" "pieces" "I") (by decide +kernel)) (fun _ h9 => h9) rfl (tyX0_ok 10 (by decide)) rfl rfl (Nat.le_of_ble_eq_true rfl) dX0_takePiece_107 (zO.setI (zBat_o hB) rfl eI24) (fun H locs hP hS => ?_)
            refine lv_iconst (v := 1) hx hb dX0_takePiece_110 (by decide) ?_
            exact hret _ _ hf (Or.inr rfl) _ _ _ _ hP hS dX0_takePiece_111
          · replace hf := zt k15 hf
            refine lv_iconst (v := 0) hx hb dX0_takePiece_57 (by decide) ?_
            exact hret _ _ hf (Or.inl rfl) _ _ _ _ hP hS dX0_takePiece_58
      · replace hf := zt k9 hf
        refine lv_iconst (v := 0) hx hb dX0_takePiece_30 (by decide) ?_
        exact hret _ _ hf (Or.inl rfl) _ _ _ _ hP hS dX0_takePiece_31
theorem c_X0_takePiece (l : Launch) {D : va_G} {a0 : Nat → Nat} {A : Nat → Prop} {cy : Nat → ClassId} {ad : Nat → Nat} {N : Nat} {K : zK} (hD : zD A N ad) {I : zI} {J : zJ} (o : Nat) (hB : zBat N K cy ad o) (p1 : Int32) (p2 : Int32) (p3 : Int32) (p4 : Int32) {rx : Int32} {rI : zI} (hf : f_X0_takePiece I J o p1 p2 p3 p4 = some (rx, rI)) : Met l yX0_takePiece wsX0_takePiece { frames := 1, cells := 0, slots := 0, locals := 22 } (zPc D a0 A cy [.ref (ad o), .int p1, .int p2, .int p3, .int p4] (zw N K ad I J)) (zQi D A rx (zw N K ad rI J)) 0 0 A :=
  zmet RX0 (by decide) rfl rfl (Nat.le_of_ble_eq_true rfl) (fun p e R s m below meth c Q hfr hlo ls S0 hQ => w_X0_takePiece hfr hlo hD o hB p1 p2 p3 p4 hf S0 (fun tx tI hq n01 H locs ls pc hP hS hd => by cases hq; exact hQ H locs _ hS (fun hx hb hr hlocks hfree => W.zret hx hb hr (z01 n01) (fun t ht hW => ⟨⟨_, (), rfl, rfl, zht ht hP⟩, hS.F ht⟩) hfree hd hlocks)))
theorem ddX0_takePiece : yX0_takePiece.cls = RX0 ∧ yX0_takePiece.cls ≠ "java/lang/invoke/MethodHandle" ∧ yX0_takePiece.cls ≠ "java/lang/invoke/VarHandle" ∧ (parseMethodDescriptor yX0_takePiece.desc).map (fun d => d.parameters.length) = some 4 := by decide +kernel

def f_X0_takeBreak (I : zI) (J : zJ) (o : Nat) (p1 : Int32) (p2 : Int32) : Option (Int32 × zI) := zb1 (f_X11_within I J p1 0 100) (fun x1 => (if x1 = 0 then some (0, I) else zb1 (f_X11_within I J p2 0 100) (fun x4 => (if x4 = 0 then some (0, I) else zg (¬ (p1 < 0 ∨ 101 ≤ p1.toNatClampNeg)) (zn (va_up I (o + 9) (upd (I (o + 9)) p1.toNatClampNeg p2)) (fun I7 => some (1, I7)))))))
theorem hinX0_takeBreak_X0 : ∀ w ∈ u_ws RX0 TX0 17, w ∈ wsX0_takeBreak := by decide +kernel
set_option maxHeartbeats 4000000 in
set_option maxRecDepth 100000 in
theorem w_X0_takeBreak {p : Program} {l : Launch} {e : Env} {R : Room} {s : State} {m : MethodId} {args : Array Value} {below : List Frame} {meth : Method} {c : Code} {Q : State → Prop} (hfr : 1 ≤ R.frames) (hlo : 22 ≤ R.locals) {D : va_G} {a0 : Nat → Nat} {A : Nat → Prop} {cy : Nat → ClassId} {ad : Nat → Nat} {N : Nat} {K : zK} (hD : zD A N ad) {I : zI} {J : zJ} (o : Nat) (hB : zBat N K cy ad o) (p1 : Int32) (p2 : Int32) {rx : Int32} {rI : zI} (hf : f_X0_takeBreak I J o p1 p2 = some (rx, rI)) {ls : Array Slot} (S0 : zSt p m c cX0_takeBreak 3 s args wsX0_takeBreak RX0 D a0 A cy (zw N K ad I J) [.ref (ad o), .int p1, .int p2] ls) (hret : ∀ (tx : Int32) (tI : zI), some (tx, tI) = some (rx, rI) → (tx = 0 ∨ tx = 1) → ∀ (H : Heap) (locs : List Loc) (ls : Array Slot) (pc : Nat), va_P D vwCl (zw N K ad tI J) H → va_S A s.heap H locs → decode cX0_takeBreak pc = .ok (.ireturn, 1) → W p l e R s m args below meth c H locs 0 0 Q (F0 m pc ls [.int tx])) : W p l e R s m args below meth c s.heap [] 0 0 Q (F0 m 0 ls []) := by
  obtain ⟨S, E, hP, hl⟩ := S0
  obtain ⟨hx, hb, hml, hown, hts⟩ := id S
  have hS : va_S A s.heap s.heap [] := va_S.rf
  replace hl : lv_has ls 3 [(0, .ref (ad o)), (1, .int p1), (2, .int p2)] := hl
  unfold f_X0_takeBreak at hf
  refine lv_iload_n hx hb dX0_takeBreak_0 rfl (lv_at hl 1 rfl) ?_
  refine lv_iconst (v := 0) hx hb dX0_takeBreak_1 (by decide) ?_
  refine lv_bipush (v := 100) hx hb dX0_takeBreak_2 (by decide) ?_
  obtain ⟨x1, h2, hf⟩ := zb1_e hf
  refine zgo_i (zrunSN (As := [.int p1, .int 0, .int 100]) (rest := []) S (c_X11_within l hD p1 0 100 h2) ⟨va_cnB (host := "EdgeAndSpeed") 3 hts gX0_takeBreak_X11_within_n105 rfl rfl rfl (zNmw_0 E.2.2) (hts (.initialized RX11) (by decide +kernel)) ddX11_within ⟨Nat.le_trans (Nat.le_of_ble_eq_true rfl) hfr, Nat.le_trans (Nat.le_of_ble_eq_true rfl) hlo⟩, hts (.static yX11_within) (by decide +kernel), trivial⟩ E hP hS hl.1 rfl rfl (Nat.le_of_ble_eq_true rfl) dX0_takeBreak_4) hS (fun H locs hP hS => ?_)
  refine lv_if_eq (tgt := 20) hx hb dX0_takeBreak_7 (by decide) (fun k3 => ?_) (fun k3 => ?_)
  · replace hf := zt k3 hf
    refine lv_iconst (v := 0) hx hb dX0_takeBreak_20 (by decide) ?_
    exact hret _ _ hf (Or.inl rfl) _ _ _ _ hP hS dX0_takeBreak_21
  · replace hf := zf k3 hf
    refine lv_iload_n hx hb dX0_takeBreak_10 rfl (lv_at hl 2 rfl) ?_
    refine lv_iconst (v := 0) hx hb dX0_takeBreak_11 (by decide) ?_
    refine lv_bipush (v := 100) hx hb dX0_takeBreak_12 (by decide) ?_
    obtain ⟨x4, h5, hf⟩ := zb1_e hf
    refine zgo_i (zrunSN (As := [.int p2, .int 0, .int 100]) (rest := []) S (c_X11_within l hD p2 0 100 h5) ⟨va_cnB (host := "EdgeAndSpeed") 3 hts gX0_takeBreak_X11_within_n105 rfl rfl rfl (zNmw_0 E.2.2) (hts (.initialized RX11) (by decide +kernel)) ddX11_within ⟨Nat.le_trans (Nat.le_of_ble_eq_true rfl) hfr, Nat.le_trans (Nat.le_of_ble_eq_true rfl) hlo⟩, hts (.static yX11_within) (by decide +kernel), trivial⟩ E hP hS hl.1 rfl rfl (Nat.le_of_ble_eq_true rfl) dX0_takeBreak_14) hS (fun H locs hP hS => ?_)
    refine lv_if_ne (tgt := 22) hx hb dX0_takeBreak_17 (by decide) (fun k6 => ?_) (fun k6 => ?_)
    · replace hf := zf k6 hf
      refine lv_aload_n hx hb dX0_takeBreak_22 rfl (lv_at hl 0 rfl) ?_
      refine va_get (D := D) (ci := 0) (v := .ref (ad (o + 9))) (C := RX0) (T := TX0) (N := 17) hx hb hts hinX0_takeBreak_X0 hown E.1 hP o (zO.get (zBat_o hB)) rfl 8 (by decide) (hts (.fieldLink RX0 36 "EdgeAndSpeed$Bench" "breaking" "[I") (by decide +kernel)) (fun _ h9 => h9) rfl dX0_takeBreak_23 ?_
      refine lv_iload_n hx hb dX0_takeBreak_26 rfl (lv_at hl 1 rfl) ?_
      refine lv_iload_n hx hb dX0_takeBreak_27 rfl (lv_at hl 2 rfl) ?_
      obtain ⟨g8, hf⟩ := zg_i hf
      obtain ⟨I7, eI7⟩ := zex (va_up I (o + 9) (upd (I (o + 9)) p1.toNatClampNeg p2))
      replace hf := zn_s eI7 hf
      refine zast_i hx hb E.1 hP hD.D hS (zBat_8 hB) g8 dX0_takeBreak_28 eI7 (fun H locs hP hS => ?_)
      refine lv_iconst (v := 1) hx hb dX0_takeBreak_29 (by decide) ?_
      exact hret _ _ hf (Or.inr rfl) _ _ _ _ hP hS dX0_takeBreak_30
    · replace hf := zt k6 hf
      refine lv_iconst (v := 0) hx hb dX0_takeBreak_20 (by decide) ?_
      exact hret _ _ hf (Or.inl rfl) _ _ _ _ hP hS dX0_takeBreak_21
theorem c_X0_takeBreak (l : Launch) {D : va_G} {a0 : Nat → Nat} {A : Nat → Prop} {cy : Nat → ClassId} {ad : Nat → Nat} {N : Nat} {K : zK} (hD : zD A N ad) {I : zI} {J : zJ} (o : Nat) (hB : zBat N K cy ad o) (p1 : Int32) (p2 : Int32) {rx : Int32} {rI : zI} (hf : f_X0_takeBreak I J o p1 p2 = some (rx, rI)) : Met l yX0_takeBreak wsX0_takeBreak { frames := 1, cells := 0, slots := 0, locals := 22 } (zPc D a0 A cy [.ref (ad o), .int p1, .int p2] (zw N K ad I J)) (zQi D A rx (zw N K ad rI J)) 0 0 A :=
  zmet RX0 (by decide) rfl rfl (Nat.le_of_ble_eq_true rfl) (fun p e R s m below meth c Q hfr hlo ls S0 hQ => w_X0_takeBreak hfr hlo hD o hB p1 p2 hf S0 (fun tx tI hq n01 H locs ls pc hP hS hd => by cases hq; exact hQ H locs _ hS (fun hx hb hr hlocks hfree => W.zret hx hb hr (z01 n01) (fun t ht hW => ⟨⟨_, (), rfl, rfl, zht ht hP⟩, hS.F ht⟩) hfree hd hlocks)))
theorem ddX0_takeBreak : yX0_takeBreak.cls = RX0 ∧ yX0_takeBreak.cls ≠ "java/lang/invoke/MethodHandle" ∧ yX0_takeBreak.cls ≠ "java/lang/invoke/VarHandle" ∧ (parseMethodDescriptor yX0_takeBreak.desc).map (fun d => d.parameters.length) = some 2 := by decide +kernel

def f_X0_takeChange (I : zI) (J : zJ) (o : Nat) (p1 : Int32) (p2 : Int32) : Option (Int32 × zI) := zb1 (f_X11_within I J p1 0 99) (fun x1 => (if x1 = 0 then some (0, I) else zb1 (f_X11_within I J p2 0 99) (fun x4 => (if x4 = 0 then some (0, I) else zn (va_up I o (va_up (I o) 12 p1)) (fun I7 => zn (va_up I7 o (va_up (I7 o) 13 p2)) (fun I8 => some (1, I8)))))))
theorem hinX0_takeChange_X0 : ∀ w ∈ u_ws RX0 TX0 17, w ∈ wsX0_takeChange := by decide +kernel
set_option maxHeartbeats 4000000 in
set_option maxRecDepth 100000 in
theorem w_X0_takeChange {p : Program} {l : Launch} {e : Env} {R : Room} {s : State} {m : MethodId} {args : Array Value} {below : List Frame} {meth : Method} {c : Code} {Q : State → Prop} (hfr : 1 ≤ R.frames) (hlo : 22 ≤ R.locals) {D : va_G} {a0 : Nat → Nat} {A : Nat → Prop} {cy : Nat → ClassId} {ad : Nat → Nat} {N : Nat} {K : zK} (hD : zD A N ad) {I : zI} {J : zJ} (o : Nat) (hB : zBat N K cy ad o) (p1 : Int32) (p2 : Int32) {rx : Int32} {rI : zI} (hf : f_X0_takeChange I J o p1 p2 = some (rx, rI)) {ls : Array Slot} (S0 : zSt p m c cX0_takeChange 3 s args wsX0_takeChange RX0 D a0 A cy (zw N K ad I J) [.ref (ad o), .int p1, .int p2] ls) (hret : ∀ (tx : Int32) (tI : zI), some (tx, tI) = some (rx, rI) → (tx = 0 ∨ tx = 1) → ∀ (H : Heap) (locs : List Loc) (ls : Array Slot) (pc : Nat), va_P D vwCl (zw N K ad tI J) H → va_S A s.heap H locs → decode cX0_takeChange pc = .ok (.ireturn, 1) → W p l e R s m args below meth c H locs 0 0 Q (F0 m pc ls [.int tx])) : W p l e R s m args below meth c s.heap [] 0 0 Q (F0 m 0 ls []) := by
  obtain ⟨S, E, hP, hl⟩ := S0
  obtain ⟨hx, hb, hml, hown, hts⟩ := id S
  have hS : va_S A s.heap s.heap [] := va_S.rf
  replace hl : lv_has ls 3 [(0, .ref (ad o)), (1, .int p1), (2, .int p2)] := hl
  unfold f_X0_takeChange at hf
  refine lv_iload_n hx hb dX0_takeChange_0 rfl (lv_at hl 1 rfl) ?_
  refine lv_iconst (v := 0) hx hb dX0_takeChange_1 (by decide) ?_
  refine lv_bipush (v := 99) hx hb dX0_takeChange_2 (by decide) ?_
  obtain ⟨x1, h2, hf⟩ := zb1_e hf
  refine zgo_i (zrunSN (As := [.int p1, .int 0, .int 99]) (rest := []) S (c_X11_within l hD p1 0 99 h2) ⟨va_cnB (host := "EdgeAndSpeed") 3 hts gX0_takeChange_X11_within_n105 rfl rfl rfl (zNmw_0 E.2.2) (hts (.initialized RX11) (by decide +kernel)) ddX11_within ⟨Nat.le_trans (Nat.le_of_ble_eq_true rfl) hfr, Nat.le_trans (Nat.le_of_ble_eq_true rfl) hlo⟩, hts (.static yX11_within) (by decide +kernel), trivial⟩ E hP hS hl.1 rfl rfl (Nat.le_of_ble_eq_true rfl) dX0_takeChange_4) hS (fun H locs hP hS => ?_)
  refine lv_if_eq (tgt := 20) hx hb dX0_takeChange_7 (by decide) (fun k3 => ?_) (fun k3 => ?_)
  · replace hf := zt k3 hf
    refine lv_iconst (v := 0) hx hb dX0_takeChange_20 (by decide) ?_
    exact hret _ _ hf (Or.inl rfl) _ _ _ _ hP hS dX0_takeChange_21
  · replace hf := zf k3 hf
    refine lv_iload_n hx hb dX0_takeChange_10 rfl (lv_at hl 2 rfl) ?_
    refine lv_iconst (v := 0) hx hb dX0_takeChange_11 (by decide) ?_
    refine lv_bipush (v := 99) hx hb dX0_takeChange_12 (by decide) ?_
    obtain ⟨x4, h5, hf⟩ := zb1_e hf
    refine zgo_i (zrunSN (As := [.int p2, .int 0, .int 99]) (rest := []) S (c_X11_within l hD p2 0 99 h5) ⟨va_cnB (host := "EdgeAndSpeed") 3 hts gX0_takeChange_X11_within_n105 rfl rfl rfl (zNmw_0 E.2.2) (hts (.initialized RX11) (by decide +kernel)) ddX11_within ⟨Nat.le_trans (Nat.le_of_ble_eq_true rfl) hfr, Nat.le_trans (Nat.le_of_ble_eq_true rfl) hlo⟩, hts (.static yX11_within) (by decide +kernel), trivial⟩ E hP hS hl.1 rfl rfl (Nat.le_of_ble_eq_true rfl) dX0_takeChange_14) hS (fun H locs hP hS => ?_)
    refine lv_if_ne (tgt := 22) hx hb dX0_takeChange_17 (by decide) (fun k6 => ?_) (fun k6 => ?_)
    · replace hf := zf k6 hf
      refine lv_aload_n hx hb dX0_takeChange_22 rfl (lv_at hl 0 rfl) ?_
      refine lv_iload_n hx hb dX0_takeChange_23 rfl (lv_at hl 1 rfl) ?_
      obtain ⟨I7, eI7⟩ := zex (va_up I o (va_up (I o) 12 p1))
      replace hf := zn_s eI7 hf
      refine zput (D := D) (ci := 0) (v := .int p1) (ty := .int) (C := RX0) (T := TX0) (N := 17) hx hb hts hinX0_takeChange_X0 tyX0 tyX0_ok nmX0 hown E.1 hP hD.D hS o (zO.get (zBat_o hB)) rfl 12 (by decide) (hts (.fieldLink RX0 64 "EdgeAndSpeed$Bench" "changeMinutes" "I") (by decide +kernel)) (fun _ h9 => h9) rfl (tyX0_ok 12 (by decide)) rfl rfl (Nat.le_of_ble_eq_true rfl) dX0_takeChange_24 (zO.setI (zBat_o hB) rfl eI7) (fun H locs hP hS => ?_)
      refine lv_aload_n hx hb dX0_takeChange_27 rfl (lv_at hl 0 rfl) ?_
      refine lv_iload_n hx hb dX0_takeChange_28 rfl (lv_at hl 2 rfl) ?_
      obtain ⟨I8, eI8⟩ := zex (va_up I7 o (va_up (I7 o) 13 p2))
      replace hf := zn_s eI8 hf
      refine zput (D := D) (ci := 0) (v := .int p2) (ty := .int) (C := RX0) (T := TX0) (N := 17) hx hb hts hinX0_takeChange_X0 tyX0 tyX0_ok nmX0 hown E.1 hP hD.D hS o (zO.get (zBat_o hB)) rfl 13 (by decide) (hts (.fieldLink RX0 67 "EdgeAndSpeed$Bench" "changePence" "I") (by decide +kernel)) (fun _ h9 => h9) rfl (tyX0_ok 13 (by decide)) rfl rfl (Nat.le_of_ble_eq_true rfl) dX0_takeChange_29 (zO.setI (zBat_o hB) rfl eI8) (fun H locs hP hS => ?_)
      refine lv_iconst (v := 1) hx hb dX0_takeChange_32 (by decide) ?_
      exact hret _ _ hf (Or.inr rfl) _ _ _ _ hP hS dX0_takeChange_33
    · replace hf := zt k6 hf
      refine lv_iconst (v := 0) hx hb dX0_takeChange_20 (by decide) ?_
      exact hret _ _ hf (Or.inl rfl) _ _ _ _ hP hS dX0_takeChange_21
theorem c_X0_takeChange (l : Launch) {D : va_G} {a0 : Nat → Nat} {A : Nat → Prop} {cy : Nat → ClassId} {ad : Nat → Nat} {N : Nat} {K : zK} (hD : zD A N ad) {I : zI} {J : zJ} (o : Nat) (hB : zBat N K cy ad o) (p1 : Int32) (p2 : Int32) {rx : Int32} {rI : zI} (hf : f_X0_takeChange I J o p1 p2 = some (rx, rI)) : Met l yX0_takeChange wsX0_takeChange { frames := 1, cells := 0, slots := 0, locals := 22 } (zPc D a0 A cy [.ref (ad o), .int p1, .int p2] (zw N K ad I J)) (zQi D A rx (zw N K ad rI J)) 0 0 A :=
  zmet RX0 (by decide) rfl rfl (Nat.le_of_ble_eq_true rfl) (fun p e R s m below meth c Q hfr hlo ls S0 hQ => w_X0_takeChange hfr hlo hD o hB p1 p2 hf S0 (fun tx tI hq n01 H locs ls pc hP hS hd => by cases hq; exact hQ H locs _ hS (fun hx hb hr hlocks hfree => W.zret hx hb hr (z01 n01) (fun t ht hW => ⟨⟨_, (), rfl, rfl, zht ht hP⟩, hS.F ht⟩) hfree hd hlocks)))
theorem ddX0_takeChange : yX0_takeChange.cls = RX0 ∧ yX0_takeChange.cls ≠ "java/lang/invoke/MethodHandle" ∧ yX0_takeChange.cls ≠ "java/lang/invoke/VarHandle" ∧ (parseMethodDescriptor yX0_takeChange.desc).map (fun d => d.parameters.length) = some 2 := by decide +kernel

def f_X0_takeHour (I : zI) (J : zJ) (o : Nat) (p1 : Int32) : Option (Int32 × zI) := zb1 (f_X11_within I J p1 0 999) (fun x1 => (if x1 = 0 then some (0, I) else zn (va_up I o (va_up (I o) 14 p1)) (fun I4 => some (1, I4))))
theorem hinX0_takeHour_X0 : ∀ w ∈ u_ws RX0 TX0 17, w ∈ wsX0_takeHour := by decide +kernel
set_option maxHeartbeats 4000000 in
set_option maxRecDepth 100000 in
theorem w_X0_takeHour {p : Program} {l : Launch} {e : Env} {R : Room} {s : State} {m : MethodId} {args : Array Value} {below : List Frame} {meth : Method} {c : Code} {Q : State → Prop} (hfr : 1 ≤ R.frames) (hlo : 22 ≤ R.locals) {D : va_G} {a0 : Nat → Nat} {A : Nat → Prop} {cy : Nat → ClassId} {ad : Nat → Nat} {N : Nat} {K : zK} (hD : zD A N ad) {I : zI} {J : zJ} (o : Nat) (hB : zBat N K cy ad o) (p1 : Int32) {rx : Int32} {rI : zI} (hf : f_X0_takeHour I J o p1 = some (rx, rI)) {ls : Array Slot} (S0 : zSt p m c cX0_takeHour 2 s args wsX0_takeHour RX0 D a0 A cy (zw N K ad I J) [.ref (ad o), .int p1] ls) (hret : ∀ (tx : Int32) (tI : zI), some (tx, tI) = some (rx, rI) → (tx = 0 ∨ tx = 1) → ∀ (H : Heap) (locs : List Loc) (ls : Array Slot) (pc : Nat), va_P D vwCl (zw N K ad tI J) H → va_S A s.heap H locs → decode cX0_takeHour pc = .ok (.ireturn, 1) → W p l e R s m args below meth c H locs 0 0 Q (F0 m pc ls [.int tx])) : W p l e R s m args below meth c s.heap [] 0 0 Q (F0 m 0 ls []) := by
  obtain ⟨S, E, hP, hl⟩ := S0
  obtain ⟨hx, hb, hml, hown, hts⟩ := id S
  have hS : va_S A s.heap s.heap [] := va_S.rf
  replace hl : lv_has ls 2 [(0, .ref (ad o)), (1, .int p1)] := hl
  unfold f_X0_takeHour at hf
  refine lv_iload_n hx hb dX0_takeHour_0 rfl (lv_at hl 1 rfl) ?_
  refine lv_iconst (v := 0) hx hb dX0_takeHour_1 (by decide) ?_
  refine lv_sipush (v := 999) hx hb dX0_takeHour_2 (by decide) ?_
  obtain ⟨x1, h2, hf⟩ := zb1_e hf
  refine zgo_i (zrunSN (As := [.int p1, .int 0, .int 999]) (rest := []) S (c_X11_within l hD p1 0 999 h2) ⟨va_cnB (host := "EdgeAndSpeed") 3 hts gX0_takeHour_X11_within_n105 rfl rfl rfl (zNmw_0 E.2.2) (hts (.initialized RX11) (by decide +kernel)) ddX11_within ⟨Nat.le_trans (Nat.le_of_ble_eq_true rfl) hfr, Nat.le_trans (Nat.le_of_ble_eq_true rfl) hlo⟩, hts (.static yX11_within) (by decide +kernel), trivial⟩ E hP hS hl.1 rfl rfl (Nat.le_of_ble_eq_true rfl) dX0_takeHour_5) hS (fun H locs hP hS => ?_)
  refine lv_if_ne (tgt := 13) hx hb dX0_takeHour_8 (by decide) (fun k3 => ?_) (fun k3 => ?_)
  · replace hf := zf k3 hf
    refine lv_aload_n hx hb dX0_takeHour_13 rfl (lv_at hl 0 rfl) ?_
    refine lv_iload_n hx hb dX0_takeHour_14 rfl (lv_at hl 1 rfl) ?_
    obtain ⟨I4, eI4⟩ := zex (va_up I o (va_up (I o) 14 p1))
    replace hf := zn_s eI4 hf
    refine zput (D := D) (ci := 0) (v := .int p1) (ty := .int) (C := RX0) (T := TX0) (N := 17) hx hb hts hinX0_takeHour_X0 tyX0 tyX0_ok nmX0 hown E.1 hP hD.D hS o (zO.get (zBat_o hB)) rfl 14 (by decide) (hts (.fieldLink RX0 70 "EdgeAndSpeed$Bench" "hourPence" "I") (by decide +kernel)) (fun _ h9 => h9) rfl (tyX0_ok 14 (by decide)) rfl rfl (Nat.le_of_ble_eq_true rfl) dX0_takeHour_15 (zO.setI (zBat_o hB) rfl eI4) (fun H locs hP hS => ?_)
    refine lv_iconst (v := 1) hx hb dX0_takeHour_18 (by decide) ?_
    exact hret _ _ hf (Or.inr rfl) _ _ _ _ hP hS dX0_takeHour_19
  · replace hf := zt k3 hf
    refine lv_iconst (v := 0) hx hb dX0_takeHour_11 (by decide) ?_
    exact hret _ _ hf (Or.inl rfl) _ _ _ _ hP hS dX0_takeHour_12
theorem c_X0_takeHour (l : Launch) {D : va_G} {a0 : Nat → Nat} {A : Nat → Prop} {cy : Nat → ClassId} {ad : Nat → Nat} {N : Nat} {K : zK} (hD : zD A N ad) {I : zI} {J : zJ} (o : Nat) (hB : zBat N K cy ad o) (p1 : Int32) {rx : Int32} {rI : zI} (hf : f_X0_takeHour I J o p1 = some (rx, rI)) : Met l yX0_takeHour wsX0_takeHour { frames := 1, cells := 0, slots := 0, locals := 22 } (zPc D a0 A cy [.ref (ad o), .int p1] (zw N K ad I J)) (zQi D A rx (zw N K ad rI J)) 0 0 A :=
  zmet RX0 (by decide) rfl rfl (Nat.le_of_ble_eq_true rfl) (fun p e R s m below meth c Q hfr hlo ls S0 hQ => w_X0_takeHour hfr hlo hD o hB p1 hf S0 (fun tx tI hq n01 H locs ls pc hP hS hd => by cases hq; exact hQ H locs _ hS (fun hx hb hr hlocks hfree => W.zret hx hb hr (z01 n01) (fun t ht hW => ⟨⟨_, (), rfl, rfl, zht ht hP⟩, hS.F ht⟩) hfree hd hlocks)))
theorem ddX0_takeHour : yX0_takeHour.cls = RX0 ∧ yX0_takeHour.cls ≠ "java/lang/invoke/MethodHandle" ∧ yX0_takeHour.cls ≠ "java/lang/invoke/VarHandle" ∧ (parseMethodDescriptor yX0_takeHour.desc).map (fun d => d.parameters.length) = some 1 := by decide +kernel

def f_X0_takeMost (I : zI) (J : zJ) (o : Nat) (p1 : Int32) (p2 : Int32) : Option (Int32 × zI) := zb1 (f_X11_within I J p1 1 8) (fun x1 => (if x1 = 0 then some (0, I) else zb1 (f_X11_within I J p2 1 999) (fun x4 => (if x4 = 0 then some (0, I) else zn (va_up I o (va_up (I o) 15 p1)) (fun I7 => zn (va_up I7 o (va_up (I7 o) 16 p2)) (fun I8 => some (1, I8)))))))
theorem hinX0_takeMost_X0 : ∀ w ∈ u_ws RX0 TX0 17, w ∈ wsX0_takeMost := by decide +kernel
set_option maxHeartbeats 4000000 in
set_option maxRecDepth 100000 in
theorem w_X0_takeMost {p : Program} {l : Launch} {e : Env} {R : Room} {s : State} {m : MethodId} {args : Array Value} {below : List Frame} {meth : Method} {c : Code} {Q : State → Prop} (hfr : 1 ≤ R.frames) (hlo : 22 ≤ R.locals) {D : va_G} {a0 : Nat → Nat} {A : Nat → Prop} {cy : Nat → ClassId} {ad : Nat → Nat} {N : Nat} {K : zK} (hD : zD A N ad) {I : zI} {J : zJ} (o : Nat) (hB : zBat N K cy ad o) (p1 : Int32) (p2 : Int32) {rx : Int32} {rI : zI} (hf : f_X0_takeMost I J o p1 p2 = some (rx, rI)) {ls : Array Slot} (S0 : zSt p m c cX0_takeMost 3 s args wsX0_takeMost RX0 D a0 A cy (zw N K ad I J) [.ref (ad o), .int p1, .int p2] ls) (hret : ∀ (tx : Int32) (tI : zI), some (tx, tI) = some (rx, rI) → (tx = 0 ∨ tx = 1) → ∀ (H : Heap) (locs : List Loc) (ls : Array Slot) (pc : Nat), va_P D vwCl (zw N K ad tI J) H → va_S A s.heap H locs → decode cX0_takeMost pc = .ok (.ireturn, 1) → W p l e R s m args below meth c H locs 0 0 Q (F0 m pc ls [.int tx])) : W p l e R s m args below meth c s.heap [] 0 0 Q (F0 m 0 ls []) := by
  obtain ⟨S, E, hP, hl⟩ := S0
  obtain ⟨hx, hb, hml, hown, hts⟩ := id S
  have hS : va_S A s.heap s.heap [] := va_S.rf
  replace hl : lv_has ls 3 [(0, .ref (ad o)), (1, .int p1), (2, .int p2)] := hl
  unfold f_X0_takeMost at hf
  refine lv_iload_n hx hb dX0_takeMost_0 rfl (lv_at hl 1 rfl) ?_
  refine lv_iconst (v := 1) hx hb dX0_takeMost_1 (by decide) ?_
  refine lv_bipush (v := 8) hx hb dX0_takeMost_2 (by decide) ?_
  obtain ⟨x1, h2, hf⟩ := zb1_e hf
  refine zgo_i (zrunSN (As := [.int p1, .int 1, .int 8]) (rest := []) S (c_X11_within l hD p1 1 8 h2) ⟨va_cnB (host := "EdgeAndSpeed") 3 hts gX0_takeMost_X11_within_n105 rfl rfl rfl (zNmw_0 E.2.2) (hts (.initialized RX11) (by decide +kernel)) ddX11_within ⟨Nat.le_trans (Nat.le_of_ble_eq_true rfl) hfr, Nat.le_trans (Nat.le_of_ble_eq_true rfl) hlo⟩, hts (.static yX11_within) (by decide +kernel), trivial⟩ E hP hS hl.1 rfl rfl (Nat.le_of_ble_eq_true rfl) dX0_takeMost_4) hS (fun H locs hP hS => ?_)
  refine lv_if_eq (tgt := 21) hx hb dX0_takeMost_7 (by decide) (fun k3 => ?_) (fun k3 => ?_)
  · replace hf := zt k3 hf
    refine lv_iconst (v := 0) hx hb dX0_takeMost_21 (by decide) ?_
    exact hret _ _ hf (Or.inl rfl) _ _ _ _ hP hS dX0_takeMost_22
  · replace hf := zf k3 hf
    refine lv_iload_n hx hb dX0_takeMost_10 rfl (lv_at hl 2 rfl) ?_
    refine lv_iconst (v := 1) hx hb dX0_takeMost_11 (by decide) ?_
    refine lv_sipush (v := 999) hx hb dX0_takeMost_12 (by decide) ?_
    obtain ⟨x4, h5, hf⟩ := zb1_e hf
    refine zgo_i (zrunSN (As := [.int p2, .int 1, .int 999]) (rest := []) S (c_X11_within l hD p2 1 999 h5) ⟨va_cnB (host := "EdgeAndSpeed") 3 hts gX0_takeMost_X11_within_n105 rfl rfl rfl (zNmw_0 E.2.2) (hts (.initialized RX11) (by decide +kernel)) ddX11_within ⟨Nat.le_trans (Nat.le_of_ble_eq_true rfl) hfr, Nat.le_trans (Nat.le_of_ble_eq_true rfl) hlo⟩, hts (.static yX11_within) (by decide +kernel), trivial⟩ E hP hS hl.1 rfl rfl (Nat.le_of_ble_eq_true rfl) dX0_takeMost_15) hS (fun H locs hP hS => ?_)
    refine lv_if_ne (tgt := 23) hx hb dX0_takeMost_18 (by decide) (fun k6 => ?_) (fun k6 => ?_)
    · replace hf := zf k6 hf
      refine lv_aload_n hx hb dX0_takeMost_23 rfl (lv_at hl 0 rfl) ?_
      refine lv_iload_n hx hb dX0_takeMost_24 rfl (lv_at hl 1 rfl) ?_
      obtain ⟨I7, eI7⟩ := zex (va_up I o (va_up (I o) 15 p1))
      replace hf := zn_s eI7 hf
      refine zput (D := D) (ci := 0) (v := .int p1) (ty := .int) (C := RX0) (T := TX0) (N := 17) hx hb hts hinX0_takeMost_X0 tyX0 tyX0_ok nmX0 hown E.1 hP hD.D hS o (zO.get (zBat_o hB)) rfl 15 (by decide) (hts (.fieldLink RX0 73 "EdgeAndSpeed$Bench" "mostSteps" "I") (by decide +kernel)) (fun _ h9 => h9) rfl (tyX0_ok 15 (by decide)) rfl rfl (Nat.le_of_ble_eq_true rfl) dX0_takeMost_25 (zO.setI (zBat_o hB) rfl eI7) (fun H locs hP hS => ?_)
      refine lv_aload_n hx hb dX0_takeMost_28 rfl (lv_at hl 0 rfl) ?_
      refine lv_iload_n hx hb dX0_takeMost_29 rfl (lv_at hl 2 rfl) ?_
      obtain ⟨I8, eI8⟩ := zex (va_up I7 o (va_up (I7 o) 16 p2))
      replace hf := zn_s eI8 hf
      refine zput (D := D) (ci := 0) (v := .int p2) (ty := .int) (C := RX0) (T := TX0) (N := 17) hx hb hts hinX0_takeMost_X0 tyX0 tyX0_ok nmX0 hown E.1 hP hD.D hS o (zO.get (zBat_o hB)) rfl 16 (by decide) (hts (.fieldLink RX0 76 "EdgeAndSpeed$Bench" "mostWork" "I") (by decide +kernel)) (fun _ h9 => h9) rfl (tyX0_ok 16 (by decide)) rfl rfl (Nat.le_of_ble_eq_true rfl) dX0_takeMost_30 (zO.setI (zBat_o hB) rfl eI8) (fun H locs hP hS => ?_)
      refine lv_iconst (v := 1) hx hb dX0_takeMost_33 (by decide) ?_
      exact hret _ _ hf (Or.inr rfl) _ _ _ _ hP hS dX0_takeMost_34
    · replace hf := zt k6 hf
      refine lv_iconst (v := 0) hx hb dX0_takeMost_21 (by decide) ?_
      exact hret _ _ hf (Or.inl rfl) _ _ _ _ hP hS dX0_takeMost_22
theorem c_X0_takeMost (l : Launch) {D : va_G} {a0 : Nat → Nat} {A : Nat → Prop} {cy : Nat → ClassId} {ad : Nat → Nat} {N : Nat} {K : zK} (hD : zD A N ad) {I : zI} {J : zJ} (o : Nat) (hB : zBat N K cy ad o) (p1 : Int32) (p2 : Int32) {rx : Int32} {rI : zI} (hf : f_X0_takeMost I J o p1 p2 = some (rx, rI)) : Met l yX0_takeMost wsX0_takeMost { frames := 1, cells := 0, slots := 0, locals := 22 } (zPc D a0 A cy [.ref (ad o), .int p1, .int p2] (zw N K ad I J)) (zQi D A rx (zw N K ad rI J)) 0 0 A :=
  zmet RX0 (by decide) rfl rfl (Nat.le_of_ble_eq_true rfl) (fun p e R s m below meth c Q hfr hlo ls S0 hQ => w_X0_takeMost hfr hlo hD o hB p1 p2 hf S0 (fun tx tI hq n01 H locs ls pc hP hS hd => by cases hq; exact hQ H locs _ hS (fun hx hb hr hlocks hfree => W.zret hx hb hr (z01 n01) (fun t ht hW => ⟨⟨_, (), rfl, rfl, zht ht hP⟩, hS.F ht⟩) hfree hd hlocks)))
theorem ddX0_takeMost : yX0_takeMost.cls = RX0 ∧ yX0_takeMost.cls ≠ "java/lang/invoke/MethodHandle" ∧ yX0_takeMost.cls ≠ "java/lang/invoke/VarHandle" ∧ (parseMethodDescriptor yX0_takeMost.desc).map (fun d => d.parameters.length) = some 2 := by decide +kernel

def f_X0_takeSteel (I : zI) (J : zJ) (o : Nat) (p1 : Int32) (p2 : Int32) : Option (Int32 × zI) := zb1 (f_X11_within I J p1 1 400) (fun x1 => (if x1 = 0 then some (0, I) else zb1 (f_X11_within I J p2 0 10) (fun x4 => (if x4 = 0 then some (0, I) else zb1 (f_X11_within I J (I o 11) 0 3) (fun x7 => (if x7 = 0 then some (0, I) else zg (¬ ((I o 11) < 0 ∨ 4 ≤ (I o 11).toNatClampNeg)) (zn (va_up I (o + 7) (upd (I (o + 7)) (I o 11).toNatClampNeg p1)) (fun I10 => zg (¬ ((I10 o 11) < 0 ∨ 4 ≤ (I10 o 11).toNatClampNeg)) (zn (va_up I10 (o + 8) (upd (I10 (o + 8)) (I10 o 11).toNatClampNeg p2)) (fun I12 => zn (va_up I12 o (va_up (I12 o) 11 ((I12 o 11) + 1))) (fun I14 => some (1, I14))))))))))))
theorem hinX0_takeSteel_X0 : ∀ w ∈ u_ws RX0 TX0 17, w ∈ wsX0_takeSteel := by decide +kernel
set_option maxHeartbeats 4000000 in
set_option maxRecDepth 100000 in
theorem w_X0_takeSteel {p : Program} {l : Launch} {e : Env} {R : Room} {s : State} {m : MethodId} {args : Array Value} {below : List Frame} {meth : Method} {c : Code} {Q : State → Prop} (hfr : 1 ≤ R.frames) (hlo : 22 ≤ R.locals) {D : va_G} {a0 : Nat → Nat} {A : Nat → Prop} {cy : Nat → ClassId} {ad : Nat → Nat} {N : Nat} {K : zK} (hD : zD A N ad) {I : zI} {J : zJ} (o : Nat) (hB : zBat N K cy ad o) (p1 : Int32) (p2 : Int32) {rx : Int32} {rI : zI} (hf : f_X0_takeSteel I J o p1 p2 = some (rx, rI)) {ls : Array Slot} (S0 : zSt p m c cX0_takeSteel 3 s args wsX0_takeSteel RX0 D a0 A cy (zw N K ad I J) [.ref (ad o), .int p1, .int p2] ls) (hret : ∀ (tx : Int32) (tI : zI), some (tx, tI) = some (rx, rI) → (tx = 0 ∨ tx = 1) → ∀ (H : Heap) (locs : List Loc) (ls : Array Slot) (pc : Nat), va_P D vwCl (zw N K ad tI J) H → va_S A s.heap H locs → decode cX0_takeSteel pc = .ok (.ireturn, 1) → W p l e R s m args below meth c H locs 0 0 Q (F0 m pc ls [.int tx])) : W p l e R s m args below meth c s.heap [] 0 0 Q (F0 m 0 ls []) := by
  obtain ⟨S, E, hP, hl⟩ := S0
  obtain ⟨hx, hb, hml, hown, hts⟩ := id S
  have hS : va_S A s.heap s.heap [] := va_S.rf
  replace hl : lv_has ls 3 [(0, .ref (ad o)), (1, .int p1), (2, .int p2)] := hl
  unfold f_X0_takeSteel at hf
  refine lv_iload_n hx hb dX0_takeSteel_0 rfl (lv_at hl 1 rfl) ?_
  refine lv_iconst (v := 1) hx hb dX0_takeSteel_1 (by decide) ?_
  refine lv_sipush (v := 400) hx hb dX0_takeSteel_2 (by decide) ?_
  obtain ⟨x1, h2, hf⟩ := zb1_e hf
  refine zgo_i (zrunSN (As := [.int p1, .int 1, .int 400]) (rest := []) S (c_X11_within l hD p1 1 400 h2) ⟨va_cnB (host := "EdgeAndSpeed") 3 hts gX0_takeSteel_X11_within_n105 rfl rfl rfl (zNmw_0 E.2.2) (hts (.initialized RX11) (by decide +kernel)) ddX11_within ⟨Nat.le_trans (Nat.le_of_ble_eq_true rfl) hfr, Nat.le_trans (Nat.le_of_ble_eq_true rfl) hlo⟩, hts (.static yX11_within) (by decide +kernel), trivial⟩ E hP hS hl.1 rfl rfl (Nat.le_of_ble_eq_true rfl) dX0_takeSteel_5) hS (fun H locs hP hS => ?_)
  refine lv_if_eq (tgt := 33) hx hb dX0_takeSteel_8 (by decide) (fun k3 => ?_) (fun k3 => ?_)
  · replace hf := zt k3 hf
    refine lv_iconst (v := 0) hx hb dX0_takeSteel_33 (by decide) ?_
    exact hret _ _ hf (Or.inl rfl) _ _ _ _ hP hS dX0_takeSteel_34
  · replace hf := zf k3 hf
    refine lv_iload_n hx hb dX0_takeSteel_11 rfl (lv_at hl 2 rfl) ?_
    refine lv_iconst (v := 0) hx hb dX0_takeSteel_12 (by decide) ?_
    refine lv_bipush (v := 10) hx hb dX0_takeSteel_13 (by decide) ?_
    obtain ⟨x4, h5, hf⟩ := zb1_e hf
    refine zgo_i (zrunSN (As := [.int p2, .int 0, .int 10]) (rest := []) S (c_X11_within l hD p2 0 10 h5) ⟨va_cnB (host := "EdgeAndSpeed") 3 hts gX0_takeSteel_X11_within_n105 rfl rfl rfl (zNmw_0 E.2.2) (hts (.initialized RX11) (by decide +kernel)) ddX11_within ⟨Nat.le_trans (Nat.le_of_ble_eq_true rfl) hfr, Nat.le_trans (Nat.le_of_ble_eq_true rfl) hlo⟩, hts (.static yX11_within) (by decide +kernel), trivial⟩ E hP hS hl.1 rfl rfl (Nat.le_of_ble_eq_true rfl) dX0_takeSteel_15) hS (fun H locs hP hS => ?_)
    refine lv_if_eq (tgt := 33) hx hb dX0_takeSteel_18 (by decide) (fun k6 => ?_) (fun k6 => ?_)
    · replace hf := zt k6 hf
      refine lv_iconst (v := 0) hx hb dX0_takeSteel_33 (by decide) ?_
      exact hret _ _ hf (Or.inl rfl) _ _ _ _ hP hS dX0_takeSteel_34
    · replace hf := zf k6 hf
      refine lv_aload_n hx hb dX0_takeSteel_21 rfl (lv_at hl 0 rfl) ?_
      refine va_get (D := D) (ci := 0) (v := .int (I o 11)) (C := RX0) (T := TX0) (N := 17) hx hb hts hinX0_takeSteel_X0 hown E.1 hP o (zO.get (zBat_o hB)) rfl 11 (by decide) (hts (.fieldLink RX0 61 "EdgeAndSpeed$Bench" "steels" "I") (by decide +kernel)) (fun _ h9 => h9) rfl dX0_takeSteel_22 ?_
      refine lv_iconst (v := 0) hx hb dX0_takeSteel_25 (by decide) ?_
      refine lv_iconst (v := 3) hx hb dX0_takeSteel_26 (by decide) ?_
      obtain ⟨x7, h8, hf⟩ := zb1_e hf
      refine zgo_i (zrunSN (As := [.int (I o 11), .int 0, .int 3]) (rest := []) S (c_X11_within l hD (I o 11) 0 3 h8) ⟨va_cnB (host := "EdgeAndSpeed") 3 hts gX0_takeSteel_X11_within_n105 rfl rfl rfl (zNmw_0 E.2.2) (hts (.initialized RX11) (by decide +kernel)) ddX11_within ⟨Nat.le_trans (Nat.le_of_ble_eq_true rfl) hfr, Nat.le_trans (Nat.le_of_ble_eq_true rfl) hlo⟩, hts (.static yX11_within) (by decide +kernel), trivial⟩ E hP hS hl.1 rfl rfl (Nat.le_of_ble_eq_true rfl) dX0_takeSteel_27) hS (fun H locs hP hS => ?_)
      refine lv_if_ne (tgt := 35) hx hb dX0_takeSteel_30 (by decide) (fun k9 => ?_) (fun k9 => ?_)
      · replace hf := zf k9 hf
        refine lv_aload_n hx hb dX0_takeSteel_35 rfl (lv_at hl 0 rfl) ?_
        refine va_get (D := D) (ci := 0) (v := .ref (ad (o + 7))) (C := RX0) (T := TX0) (N := 17) hx hb hts hinX0_takeSteel_X0 hown E.1 hP o (zO.get (zBat_o hB)) rfl 6 (by decide) (hts (.fieldLink RX0 30 "EdgeAndSpeed$Bench" "hardness" "[I") (by decide +kernel)) (fun _ h9 => h9) rfl dX0_takeSteel_36 ?_
        refine lv_aload_n hx hb dX0_takeSteel_39 rfl (lv_at hl 0 rfl) ?_
        refine va_get (D := D) (ci := 0) (v := .int (I o 11)) (C := RX0) (T := TX0) (N := 17) hx hb hts hinX0_takeSteel_X0 hown E.1 hP o (zO.get (zBat_o hB)) rfl 11 (by decide) (hts (.fieldLink RX0 61 "EdgeAndSpeed$Bench" "steels" "I") (by decide +kernel)) (fun _ h9 => h9) rfl dX0_takeSteel_40 ?_
        refine lv_iload_n hx hb dX0_takeSteel_43 rfl (lv_at hl 1 rfl) ?_
        obtain ⟨g11, hf⟩ := zg_i hf
        obtain ⟨I10, eI10⟩ := zex (va_up I (o + 7) (upd (I (o + 7)) (I o 11).toNatClampNeg p1))
        replace hf := zn_s eI10 hf
        refine zast_i hx hb E.1 hP hD.D hS (zBat_6 hB) g11 dX0_takeSteel_44 eI10 (fun H locs hP hS => ?_)
        refine lv_aload_n hx hb dX0_takeSteel_45 rfl (lv_at hl 0 rfl) ?_
        refine va_get (D := D) (ci := 0) (v := .ref (ad (o + 8))) (C := RX0) (T := TX0) (N := 17) hx hb hts hinX0_takeSteel_X0 hown E.1 hP o (zO.get (zBat_o hB)) rfl 7 (by decide) (hts (.fieldLink RX0 33 "EdgeAndSpeed$Bench" "tenths" "[I") (by decide +kernel)) (fun _ h9 => h9) rfl dX0_takeSteel_46 ?_
        refine lv_aload_n hx hb dX0_takeSteel_49 rfl (lv_at hl 0 rfl) ?_
        refine va_get (D := D) (ci := 0) (v := .int (I10 o 11)) (C := RX0) (T := TX0) (N := 17) hx hb hts hinX0_takeSteel_X0 hown E.1 hP o (zO.get (zBat_o hB)) rfl 11 (by decide) (hts (.fieldLink RX0 61 "EdgeAndSpeed$Bench" "steels" "I") (by decide +kernel)) (fun _ h9 => h9) rfl dX0_takeSteel_50 ?_
        refine lv_iload_n hx hb dX0_takeSteel_53 rfl (lv_at hl 2 rfl) ?_
        obtain ⟨g13, hf⟩ := zg_i hf
        obtain ⟨I12, eI12⟩ := zex (va_up I10 (o + 8) (upd (I10 (o + 8)) (I10 o 11).toNatClampNeg p2))
        replace hf := zn_s eI12 hf
        refine zast_i hx hb E.1 hP hD.D hS (zBat_7 hB) g13 dX0_takeSteel_54 eI12 (fun H locs hP hS => ?_)
        refine lv_aload_n hx hb dX0_takeSteel_55 rfl (lv_at hl 0 rfl) ?_
        refine lv_dup hx hb dX0_takeSteel_56 rfl ?_
        refine va_get (D := D) (ci := 0) (v := .int (I12 o 11)) (C := RX0) (T := TX0) (N := 17) hx hb hts hinX0_takeSteel_X0 hown E.1 hP o (zO.get (zBat_o hB)) rfl 11 (by decide) (hts (.fieldLink RX0 61 "EdgeAndSpeed$Bench" "steels" "I") (by decide +kernel)) (fun _ h9 => h9) rfl dX0_takeSteel_57 ?_
        refine lv_iconst (v := 1) hx hb dX0_takeSteel_60 (by decide) ?_
        refine lv_iadd hx hb dX0_takeSteel_61 ?_
        obtain ⟨I14, eI14⟩ := zex (va_up I12 o (va_up (I12 o) 11 ((I12 o 11) + 1)))
        replace hf := zn_s eI14 hf
        refine zput (D := D) (ci := 0) (v := .int ((I12 o 11) + 1)) (ty := .int) (C := RX0) (T := TX0) (N := 17) hx hb hts hinX0_takeSteel_X0 tyX0 tyX0_ok nmX0 hown E.1 hP hD.D hS o (zO.get (zBat_o hB)) rfl 11 (by decide) (hts (.fieldLink RX0 61 "EdgeAndSpeed$Bench" "steels" "I") (by decide +kernel)) (fun _ h9 => h9) rfl (tyX0_ok 11 (by decide)) rfl rfl (Nat.le_of_ble_eq_true rfl) dX0_takeSteel_62 (zO.setI (zBat_o hB) rfl eI14) (fun H locs hP hS => ?_)
        refine lv_iconst (v := 1) hx hb dX0_takeSteel_65 (by decide) ?_
        exact hret _ _ hf (Or.inr rfl) _ _ _ _ hP hS dX0_takeSteel_66
      · replace hf := zt k9 hf
        refine lv_iconst (v := 0) hx hb dX0_takeSteel_33 (by decide) ?_
        exact hret _ _ hf (Or.inl rfl) _ _ _ _ hP hS dX0_takeSteel_34
theorem c_X0_takeSteel (l : Launch) {D : va_G} {a0 : Nat → Nat} {A : Nat → Prop} {cy : Nat → ClassId} {ad : Nat → Nat} {N : Nat} {K : zK} (hD : zD A N ad) {I : zI} {J : zJ} (o : Nat) (hB : zBat N K cy ad o) (p1 : Int32) (p2 : Int32) {rx : Int32} {rI : zI} (hf : f_X0_takeSteel I J o p1 p2 = some (rx, rI)) : Met l yX0_takeSteel wsX0_takeSteel { frames := 1, cells := 0, slots := 0, locals := 22 } (zPc D a0 A cy [.ref (ad o), .int p1, .int p2] (zw N K ad I J)) (zQi D A rx (zw N K ad rI J)) 0 0 A :=
  zmet RX0 (by decide) rfl rfl (Nat.le_of_ble_eq_true rfl) (fun p e R s m below meth c Q hfr hlo ls S0 hQ => w_X0_takeSteel hfr hlo hD o hB p1 p2 hf S0 (fun tx tI hq n01 H locs ls pc hP hS hd => by cases hq; exact hQ H locs _ hS (fun hx hb hr hlocks hfree => W.zret hx hb hr (z01 n01) (fun t ht hW => ⟨⟨_, (), rfl, rfl, zht ht hP⟩, hS.F ht⟩) hfree hd hlocks)))
theorem ddX0_takeSteel : yX0_takeSteel.cls = RX0 ∧ yX0_takeSteel.cls ≠ "java/lang/invoke/MethodHandle" ∧ yX0_takeSteel.cls ≠ "java/lang/invoke/VarHandle" ∧ (parseMethodDescriptor yX0_takeSteel.desc).map (fun d => d.parameters.length) = some 2 := by decide +kernel
