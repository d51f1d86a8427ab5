def f_X12_copies_L47 (p1 : Int32) (p2 : Int32) (x14 : Int32) (I15 : zI) : Option ((Int32 × zI) ⊕ zI) := (if 40 ≤ x14 then some (.inr I15) else zg (¬ (((40 * p1) + x14) < 0 ∨ 120 ≤ ((40 * p1) + x14).toNatClampNeg)) (zg (¬ (((40 * p2) + x14) < 0 ∨ 120 ≤ ((40 * p2) + x14).toNatClampNeg)) (zn (va_up I15 14 (upd (I15 14) ((40 * p2) + x14).toNatClampNeg (I15 14 ((40 * p1) + x14).toNatClampNeg))) (fun I18 => zn (x14 + 1) (fun y20 => some (.inl (y20, I18)))))))
def f_X12_copies_L2 (p1 : Int32) (p2 : Int32) (x2 : Int32) (I3 : zI) : Option ((Int32 × zI) ⊕ zI) := (if 3 ≤ x2 then some (.inr I3) else zg (¬ (((3 * p1) + x2) < 0 ∨ 9 ≤ ((3 * p1) + x2).toNatClampNeg)) (zg (¬ (((3 * p2) + x2) < 0 ∨ 9 ≤ ((3 * p2) + x2).toNatClampNeg)) (zn (va_up I3 12 (upd (I3 12) ((3 * p2) + x2).toNatClampNeg (I3 12 ((3 * p1) + x2).toNatClampNeg))) (fun I6 => zn (x2 + 1) (fun y8 => some (.inl (y8, I6)))))))
def f_X12_copies (I : zI) (J : zJ) (p1 : Int32) (p2 : Int32) : Option zI := zb1 (zl (fun v : (Int32 × zI) => f_X12_copies_L2 p1 p2 v.1 v.2) zF (0, I)) (fun I9 => zg (¬ (p1 < 0 ∨ 3 ≤ p1.toNatClampNeg)) (zg (¬ (p2 < 0 ∨ 3 ≤ p2.toNatClampNeg)) (zn (va_up I9 13 (upd (I9 13) p2.toNatClampNeg (I9 13 p1.toNatClampNeg))) (fun I11 => zb1 (zl (fun v : (Int32 × zI) => f_X12_copies_L47 p1 p2 v.1 v.2) zF (0, I11)) (fun I21 => some I21)))))
theorem hinX12_copies_X12 : ∀ w ∈ u_ws RX12 TX12 31, w ∈ wsX12_copies := by decide +kernel
set_option maxHeartbeats 4000000 in
set_option maxRecDepth 100000 in
theorem w_X12_copies {p : Program} {l : Launch} {e : Env} {R : Room} {s : State} {m : MethodId} {args : Array Value} {below : List Frame} {meth : Method} {c : Code} {Q : State → Prop} (hfr : 0 ≤ R.frames) (hlo : 0 ≤ R.locals) {D : va_G} {a0 : Nat → Nat} {A : Nat → Prop} {cy : Nat → ClassId} {ad : Nat → Nat} (hD : zD A 25 ad) {I : zI} {J : zJ} (p1 : Int32) (p2 : Int32) {rI : zI} (hf : f_X12_copies I J p1 p2 = some rI) {ls : Array Slot} (S0 : zSt p m c cX12_copies 4 s args wsX12_copies RX12 D a0 A cy (zw 25 (kM cy ad) ad I J) [.ref (ad 0), .int p1, .int p2] ls) (hret : ∀ (tI : zI), some tI = some rI → ∀ (H : Heap) (locs : List Loc) (ls : Array Slot) (pc : Nat), va_P D vwCl (zw 25 (kM cy ad) ad tI J) H → va_S A s.heap H locs → decode cX12_copies pc = .ok (.return_, 1) → W p l e R s m args below meth c H locs 0 0 Q (F0 m pc ls [])) : W p l e R s m args below meth c s.heap [] 0 0 Q (F0 m 0 ls []) := by
  obtain ⟨S, E, hP, hl⟩ := S0
  obtain ⟨hx, hb, hml, hown, hts⟩ := id S
  have hS : va_S A s.heap s.heap [] := va_S.rf
  replace hl : lv_has ls 4 [(0, .ref (ad 0)), (1, .int p1), (2, .int p2)] := hl
  unfold f_X12_copies at hf
  refine lv_iconst (v := 0) hx hb dX12_copies_0 (by decide) ?_
  refine lv_istore_n (lv' := [(3, .int 0), (0, .ref (ad 0)), (1, .int p1), (2, .int p2)]) hx hb dX12_copies_1 rfl hl (by decide) rfl (fun ls hl => ?_)
  obtain ⟨zl1, hf, hzl1⟩ := zb1_i hf
  have hjl1 : ∀ (I9 : zI), I9 = zl1 → ∀ (H : Heap) (locs : List Loc) (ls : Array Slot), va_P D vwCl (zw 25 (kM cy ad) ad I9 J) H → va_S A s.heap H locs → lv_has ls 4 [(0, .ref (ad 0)), (1, .int p1), (2, .int p2)] → W p l e R s m args below meth c H locs 0 0 Q (F0 m 33 ls []) := by
    intro I9 ez H locs ls hP hS hl
    have hf := hzl1 I9 ez
    refine lv_aload_n hx hb dX12_copies_33 rfl (lv_at hl 0 rfl) ?_
    refine va_get (D := D) (ci := 11) (v := .ref (ad 13)) (C := RX12) (T := TX12) (N := 31) hx hb hts hinX12_copies_X12 hown E.1 hP 0 (zO.get (oX12_at)) rfl 15 (by decide) (hts (.fieldLink RX12 47 "EdgeAndSpeedModel" "logs" "[I") (by decide +kernel)) (fun _ h9 => h9) rfl dX12_copies_34 ?_
    refine lv_iload_n hx hb dX12_copies_37 rfl (lv_at hl 2 rfl) ?_
    refine lv_aload_n hx hb dX12_copies_38 rfl (lv_at hl 0 rfl) ?_
    refine va_get (D := D) (ci := 11) (v := .ref (ad 13)) (C := RX12) (T := TX12) (N := 31) hx hb hts hinX12_copies_X12 hown E.1 hP 0 (zO.get (oX12_at)) rfl 15 (by decide) (hts (.fieldLink RX12 47 "EdgeAndSpeedModel" "logs" "[I") (by decide +kernel)) (fun _ h9 => h9) rfl dX12_copies_39 ?_
    refine lv_iload_n hx hb dX12_copies_42 rfl (lv_at hl 1 rfl) ?_
    obtain ⟨g10, hf⟩ := zg_i hf
    refine va_iald hx hb E.1 hP 13 1 (zIA.get (aX12_15)) rfl g10 dX12_copies_43 ?_
    obtain ⟨g12, hf⟩ := zg_i hf
    obtain ⟨I11, eI11⟩ := zex (va_up I9 13 (upd (I9 13) p2.toNatClampNeg (I9 13 p1.toNatClampNeg)))
    replace hf := zn_s eI11 hf
    refine zast_i hx hb E.1 hP hD.D hS (aX12_15) g12 dX12_copies_44 eI11 (fun H locs hP hS => ?_)
    refine lv_iconst (v := 0) hx hb dX12_copies_45 (by decide) ?_
    refine lv_istore_n (lv' := [(3, .int 0), (0, .ref (ad 0)), (1, .int p1), (2, .int p2)]) hx hb dX12_copies_46 rfl hl (by decide) rfl (fun ls hl => ?_)
    obtain ⟨zl13, hf, hzl13⟩ := zb1_i hf
    have hjl13 : ∀ (I21 : zI), I21 = zl13 → ∀ (H : Heap) (locs : List Loc) (ls : Array Slot), va_P D vwCl (zw 25 (kM cy ad) ad I21 J) H → va_S A s.heap H locs → lv_has ls 4 [] → W p l e R s m args below meth c H locs 0 0 Q (F0 m 81 ls []) := by
      intro I21 ez H locs ls hP hS hl
      have hf := hzl13 I21 ez
      exact hret _ hf _ _ _ _ hP hS dX12_copies_81
    refine zl_i (V := (Int32 × zI)) (P := fun v => ∀ (H : Heap) (locs : List Loc) (ls : Array Slot), va_P D vwCl (zw 25 (kM cy ad) ad v.2 J) H → va_S A s.heap H locs → lv_has ls 4 [(0, .ref (ad 0)), (1, .int p1), (2, .int p2), (3, .int (v.1))] → W p l e R s m args below meth c H locs 0 0 Q (F0 m 47 ls [])) ?_ _ _ hf _ _ _ hP hS (lv_sub hl [1, 2, 3, 0] rfl)
    intro v z hf hcl13 hdl13
    obtain ⟨x14, I15⟩ := v
    intro H locs ls hP hS hl
    replace hf : f_X12_copies_L47 p1 p2 x14 I15 = some z := hf
    unfold f_X12_copies_L47 at hf
    replace hP : va_P D vwCl (zw 25 (kM cy ad) ad I15 J) H := hP
    replace hl : lv_has ls 4 [(0, .ref (ad 0)), (1, .int p1), (2, .int p2), (3, .int x14)] := hl
    refine lv_iload_n hx hb dX12_copies_47 rfl (lv_at hl 3 rfl) ?_
    refine lv_bipush (v := 40) hx hb dX12_copies_48 (by decide) ?_
    refine lv_icmp_ge (tgt := 81) hx hb dX12_copies_50 (by decide) (fun k16 => ?_) (fun k16 => ?_)
    · replace hf := zt k16 hf
      exact hjl13 _ (hdl13 _ (Option.some.inj hf).symm) _ _ _ hP hS (lv_sub hl [] rfl)
    · replace hf := zf k16 hf
      refine lv_aload_n hx hb dX12_copies_53 rfl (lv_at hl 0 rfl) ?_
      refine va_get (D := D) (ci := 11) (v := .ref (ad 14)) (C := RX12) (T := TX12) (N := 31) hx hb hts hinX12_copies_X12 hown E.1 hP 0 (zO.get (oX12_at)) rfl 16 (by decide) (hts (.fieldLink RX12 50 "EdgeAndSpeedModel" "logged" "[I") (by decide +kernel)) (fun _ h9 => h9) rfl dX12_copies_54 ?_
      refine lv_bipush (v := 40) hx hb dX12_copies_57 (by decide) ?_
      refine lv_iload_n hx hb dX12_copies_59 rfl (lv_at hl 2 rfl) ?_
      refine lv_imul hx hb dX12_copies_60 ?_
      refine lv_iload_n hx hb dX12_copies_61 rfl (lv_at hl 3 rfl) ?_
      refine lv_iadd hx hb dX12_copies_62 ?_
      refine lv_aload_n hx hb dX12_copies_63 rfl (lv_at hl 0 rfl) ?_
      refine va_get (D := D) (ci := 11) (v := .ref (ad 14)) (C := RX12) (T := TX12) (N := 31) hx hb hts hinX12_copies_X12 hown E.1 hP 0 (zO.get (oX12_at)) rfl 16 (by decide) (hts (.fieldLink RX12 50 "EdgeAndSpeedModel" "logged" "[I") (by decide +kernel)) (fun _ h9 => h9) rfl dX12_copies_64 ?_
      refine lv_bipush (v := 40) hx hb dX12_copies_67 (by decide) ?_
      refine lv_iload_n hx hb dX12_copies_69 rfl (lv_at hl 1 rfl) ?_
      refine lv_imul hx hb dX12_copies_70 ?_
      refine lv_iload_n hx hb dX12_copies_71 rfl (lv_at hl 3 rfl) ?_
      refine lv_iadd hx hb dX12_copies_72 ?_
      obtain ⟨g17, hf⟩ := zg_i hf
      refine va_iald hx hb E.1 hP 14 1 (zIA.get (aX12_16)) rfl g17 dX12_copies_73 ?_
      obtain ⟨g19, hf⟩ := zg_i hf
      obtain ⟨I18, eI18⟩ := zex (va_up I15 14 (upd (I15 14) ((40 * p2) + x14).toNatClampNeg (I15 14 ((40 * p1) + x14).toNatClampNeg)))
      replace hf := zn_s eI18 hf
      refine zast_i hx hb E.1 hP hD.D hS (aX12_16) g19 dX12_copies_74 eI18 (fun H locs hP hS => ?_)
      obtain ⟨y20, ey20⟩ := zex (x14 + 1)
      replace hf := zn_s ey20 hf
      refine lv_iinc (v := y20) (lv' := [(3, .int y20), (0, .ref (ad 0)), (1, .int p1), (2, .int p2)]) hx hb dX12_copies_75 hl (k := 3) rfl (by rw [ey20]; rfl) (by decide) rfl (fun ls hl => ?_)
      refine lv_goto (tgt := 47) hx hb dX12_copies_78 (by decide) ?_
      exact hcl13 _ (Option.some.inj hf).symm _ _ _ hP hS (lv_sub hl [1, 2, 3, 0] rfl)
  refine zl_i (V := (Int32 × zI)) (P := fun v => ∀ (H : Heap) (locs : List Loc) (ls : Array Slot), va_P D vwCl (zw 25 (kM cy ad) ad v.2 J) H → va_S A s.heap H locs → lv_has ls 4 [(0, .ref (ad 0)), (1, .int p1), (2, .int p2), (3, .int (v.1))] → W p l e R s m args below meth c H locs 0 0 Q (F0 m 2 ls [])) ?_ _ _ hf _ _ _ hP hS (lv_sub hl [1, 2, 3, 0] rfl)
  intro v z hf hcl1 hdl1
  obtain ⟨x2, I3⟩ := v
  intro H locs ls hP hS hl
  replace hf : f_X12_copies_L2 p1 p2 x2 I3 = some z := hf
  unfold f_X12_copies_L2 at hf
  replace hP : va_P D vwCl (zw 25 (kM cy ad) ad I3 J) H := hP
  replace hl : lv_has ls 4 [(0, .ref (ad 0)), (1, .int p1), (2, .int p2), (3, .int x2)] := hl
  refine lv_iload_n hx hb dX12_copies_2 rfl (lv_at hl 3 rfl) ?_
  refine lv_iconst (v := 3) hx hb dX12_copies_3 (by decide) ?_
  refine lv_icmp_ge (tgt := 33) hx hb dX12_copies_4 (by decide) (fun k4 => ?_) (fun k4 => ?_)
  · replace hf := zt k4 hf
    exact hjl1 _ (hdl1 _ (Option.some.inj hf).symm) _ _ _ hP hS (lv_sub hl [0, 1, 2] rfl)
  · replace hf := zf k4 hf
    refine lv_aload_n hx hb dX12_copies_7 rfl (lv_at hl 0 rfl) ?_
    refine va_get (D := D) (ci := 11) (v := .ref (ad 12)) (C := RX12) (T := TX12) (N := 31) hx hb hts hinX12_copies_X12 hown E.1 hP 0 (zO.get (oX12_at)) rfl 14 (by decide) (hts (.fieldLink RX12 44 "EdgeAndSpeedModel" "hands" "[I") (by decide +kernel)) (fun _ h9 => h9) rfl dX12_copies_8 ?_
    refine lv_iconst (v := 3) hx hb dX12_copies_11 (by decide) ?_
    refine lv_iload_n hx hb dX12_copies_12 rfl (lv_at hl 2 rfl) ?_
    refine lv_imul hx hb dX12_copies_13 ?_
    refine lv_iload_n hx hb dX12_copies_14 rfl (lv_at hl 3 rfl) ?_
    refine lv_iadd hx hb dX12_copies_15 ?_
    refine lv_aload_n hx hb dX12_copies_16 rfl (lv_at hl 0 rfl) ?_
    refine va_get (D := D) (ci := 11) (v := .ref (ad 12)) (C := RX12) (T := TX12) (N := 31) hx hb hts hinX12_copies_X12 hown E.1 hP 0 (zO.get (oX12_at)) rfl 14 (by decide) (hts (.fieldLink RX12 44 "EdgeAndSpeedModel" "hands" "[I") (by decide +kernel)) (fun _ h9 => h9) rfl dX12_copies_17 ?_
    refine lv_iconst (v := 3) hx hb dX12_copies_20 (by decide) ?_
    refine lv_iload_n hx hb dX12_copies_21 rfl (lv_at hl 1 rfl) ?_
    refine lv_imul hx hb dX12_copies_22 ?_
    refine lv_iload_n hx hb dX12_copies_23 rfl (lv_at hl 3 rfl) ?_
    refine lv_iadd hx hb dX12_copies_24 ?_
    obtain ⟨g5, hf⟩ := zg_i hf
    refine va_iald hx hb E.1 hP 12 1 (zIA.get (aX12_14)) rfl g5 dX12_copies_25 ?_
    obtain ⟨g7, hf⟩ := zg_i hf
    obtain ⟨I6, eI6⟩ := zex (va_up I3 12 (upd (I3 12) ((3 * p2) + x2).toNatClampNeg (I3 12 ((3 * p1) + x2).toNatClampNeg)))
    replace hf := zn_s eI6 hf
    refine zast_i hx hb E.1 hP hD.D hS (aX12_14) g7 dX12_copies_26 eI6 (fun H locs hP hS => ?_)
    obtain ⟨y8, ey8⟩ := zex (x2 + 1)
    replace hf := zn_s ey8 hf
    refine lv_iinc (v := y8) (lv' := [(3, .int y8), (0, .ref (ad 0)), (1, .int p1), (2, .int p2)]) hx hb dX12_copies_27 hl (k := 3) rfl (by rw [ey8]; rfl) (by decide) rfl (fun ls hl => ?_)
    refine lv_goto (tgt := 2) hx hb dX12_copies_30 (by decide) ?_
    exact hcl1 _ (Option.some.inj hf).symm _ _ _ hP hS (lv_sub hl [1, 2, 3, 0] rfl)
theorem c_X12_copies (l : Launch) {D : va_G} {a0 : Nat → Nat} {A : Nat → Prop} {cy : Nat → ClassId} {ad : Nat → Nat} (hD : zD A 25 ad) {I : zI} {J : zJ} (p1 : Int32) (p2 : Int32) {rI : zI} (hf : f_X12_copies I J p1 p2 = some rI) : Met l yX12_copies wsX12_copies { frames := 0, cells := 0, slots := 0, locals := 0 } (zPc D a0 A cy [.ref (ad 0), .int p1, .int p2] (zw 25 (kM cy ad) ad I J)) (zQv D A (zw 25 (kM cy ad) ad rI J)) 0 0 A :=
  zmet RX12 (by decide) rfl rfl (Nat.le_of_ble_eq_true rfl) (fun p e R s m below meth c Q hfr hlo ls S0 hQ => w_X12_copies hfr hlo hD p1 p2 hf S0 (fun tI hq H locs ls pc hP hS hd => by cases hq; exact hQ H locs _ hS (fun hx hb hr hlocks hfree => W.vret hx hb hr (fun t ht hW => ⟨⟨(), rfl, trivial, zht ht hP⟩, hS.F ht⟩) hfree hd hlocks)))
theorem ddX12_copies : yX12_copies.cls = RX12 ∧ yX12_copies.cls ≠ "java/lang/invoke/MethodHandle" ∧ yX12_copies.cls ≠ "java/lang/invoke/VarHandle" ∧ (parseMethodDescriptor yX12_copies.desc).map (fun d => d.parameters.length) = some 2 := by decide +kernel

def f_X12_keep (I : zI) (J : zJ) : Option (Int32 × zI) := (if (I 0 13) = 2 then some ((-3), I) else zn (va_up I 0 (va_up (I 0) 13 ((I 0 13) + 1))) (fun I2 => zb1 (f_X12_copies I2 J 0 (I2 0 13)) (fun I3 => some ((I3 0 13), I3))))
theorem hinX12_keep_X12 : ∀ w ∈ u_ws RX12 TX12 31, w ∈ wsX12_keep := by decide +kernel
set_option maxHeartbeats 4000000 in
set_option maxRecDepth 100000 in
theorem w_X12_keep {p : Program} {l : Launch} {e : Env} {R : Room} {s : State} {m : MethodId} {args : Array Value} {below : List Frame} {meth : Method} {c : Code} {Q : State → Prop} (hfr : 1 ≤ R.frames) (hlo : 23 ≤ R.locals) {D : va_G} {a0 : Nat → Nat} {A : Nat → Prop} {cy : Nat → ClassId} {ad : Nat → Nat} (hD : zD A 25 ad) {I : zI} {J : zJ}  {rx : Int32} {rI : zI} (hf : f_X12_keep I J = some (rx, rI)) {ls : Array Slot} (S0 : zSt p m c cX12_keep 1 s args wsX12_keep RX12 D a0 A cy (zw 25 (kM cy ad) ad I J) [.ref (ad 0)] ls) (hret : ∀ (tx : Int32) (tI : zI), some (tx, tI) = some (rx, rI) → ∀ (H : Heap) (locs : List Loc) (ls : Array Slot) (pc : Nat), va_P D vwCl (zw 25 (kM cy ad) ad tI J) H → va_S A s.heap H locs → decode cX12_keep pc = .ok (.ireturn, 1) → W p l e R s m args below meth c H locs 0 0 Q (F0 m pc ls [.int tx])) : W p l e R s m args below meth c s.heap [] 0 0 Q (F0 m 0 ls []) := by
  obtain ⟨S, E, hP, hl⟩ := S0
  obtain ⟨hx, hb, hml, hown, hts⟩ := id S
  have hS : va_S A s.heap s.heap [] := va_S.rf
  replace hl : lv_has ls 1 [(0, .ref (ad 0))] := hl
  unfold f_X12_keep at hf
  refine lv_aload_n hx hb dX12_keep_0 rfl (lv_at hl 0 rfl) ?_
  refine va_get (D := D) (ci := 11) (v := .int (I 0 13)) (C := RX12) (T := TX12) (N := 31) hx hb hts hinX12_keep_X12 hown E.1 hP 0 (zO.get (oX12_at)) rfl 13 (by decide) (hts (.fieldLink RX12 95 "EdgeAndSpeedModel" "kept" "I") (by decide +kernel)) (fun _ h9 => h9) rfl dX12_keep_1 ?_
  refine lv_iconst (v := 2) hx hb dX12_keep_4 (by decide) ?_
  refine lv_icmp_ne (tgt := 11) hx hb dX12_keep_5 (by decide) (fun k1 => ?_) (fun k1 => ?_)
  · replace hf := zf k1 hf
    refine lv_aload_n hx hb dX12_keep_11 rfl (lv_at hl 0 rfl) ?_
    refine lv_dup hx hb dX12_keep_12 rfl ?_
    refine va_get (D := D) (ci := 11) (v := .int (I 0 13)) (C := RX12) (T := TX12) (N := 31) hx hb hts hinX12_keep_X12 hown E.1 hP 0 (zO.get (oX12_at)) rfl 13 (by decide) (hts (.fieldLink RX12 95 "EdgeAndSpeedModel" "kept" "I") (by decide +kernel)) (fun _ h9 => h9) rfl dX12_keep_13 ?_
    refine lv_iconst (v := 1) hx hb dX12_keep_16 (by decide) ?_
    refine lv_iadd hx hb dX12_keep_17 ?_
    obtain ⟨I2, eI2⟩ := zex (va_up I 0 (va_up (I 0) 13 ((I 0 13) + 1)))
    replace hf := zn_s eI2 hf
    refine zput (D := D) (ci := 11) (v := .int ((I 0 13) + 1)) (ty := .int) (C := RX12) (T := TX12) (N := 31) hx hb hts hinX12_keep_X12 tyX12 tyX12_ok nmX12 hown E.1 hP hD.D hS 0 (zO.get (oX12_at)) rfl 13 (by decide) (hts (.fieldLink RX12 95 "EdgeAndSpeedModel" "kept" "I") (by decide +kernel)) (fun _ h9 => h9) rfl (tyX12_ok 13 (by decide)) rfl rfl (Nat.le_of_ble_eq_true rfl) dX12_keep_18 (zO.setI (oX12_at) rfl eI2) (fun H locs hP hS => ?_)
    refine lv_aload_n hx hb dX12_keep_21 rfl (lv_at hl 0 rfl) ?_
    refine lv_iconst (v := 0) hx hb dX12_keep_22 (by decide) ?_
    refine lv_aload_n hx hb dX12_keep_23 rfl (lv_at hl 0 rfl) ?_
    refine va_get (D := D) (ci := 11) (v := .int (I2 0 13)) (C := RX12) (T := TX12) (N := 31) hx hb hts hinX12_keep_X12 hown E.1 hP 0 (zO.get (oX12_at)) rfl 13 (by decide) (hts (.fieldLink RX12 95 "EdgeAndSpeedModel" "kept" "I") (by decide +kernel)) (fun _ h9 => h9) rfl dX12_keep_24 ?_
    obtain ⟨I3, h4, hf⟩ := zb1_e hf
    refine zgo_v (zrunV (As := [.int 0, .int (I2 0 13)]) (rest := []) S (c_X12_copies l hD 0 (I2 0 13) h4) (cwV 2 hts gX12_keep_X12_copies rfl rfl rfl ddX12_copies ⟨Nat.le_trans (Nat.le_of_ble_eq_true rfl) hfr, Nat.le_trans (Nat.le_of_ble_eq_true rfl) hlo⟩) (va_recv E.1 hP (q := (RX12, TX12, 31)) (ci := 11) rfl (zO.get (oX12_at))) E hP hS hl.1 rfl rfl (Nat.le_of_ble_eq_true rfl) dX12_keep_27) hS (fun H locs hP hS => ?_)
    refine lv_aload_n hx hb dX12_keep_30 rfl (lv_at hl 0 rfl) ?_
    refine va_get (D := D) (ci := 11) (v := .int (I3 0 13)) (C := RX12) (T := TX12) (N := 31) hx hb hts hinX12_keep_X12 hown E.1 hP 0 (zO.get (oX12_at)) rfl 13 (by decide) (hts (.fieldLink RX12 95 "EdgeAndSpeedModel" "kept" "I") (by decide +kernel)) (fun _ h9 => h9) rfl dX12_keep_31 ?_
    exact hret _ _ hf _ _ _ _ hP hS dX12_keep_34
  · replace hf := zt k1 hf
    refine lv_bipush (v := (-3)) hx hb dX12_keep_8 (by decide) ?_
    exact hret _ _ hf _ _ _ _ hP hS dX12_keep_10
theorem c_X12_keep (l : Launch) {D : va_G} {a0 : Nat → Nat} {A : Nat → Prop} {cy : Nat → ClassId} {ad : Nat → Nat} (hD : zD A 25 ad) {I : zI} {J : zJ}  {rx : Int32} {rI : zI} (hf : f_X12_keep I J = some (rx, rI)) : Met l yX12_keep wsX12_keep { frames := 1, cells := 0, slots := 0, locals := 23 } (zPc D a0 A cy [.ref (ad 0)] (zw 25 (kM cy ad) ad I J)) (zQi D A rx (zw 25 (kM cy ad) ad rI J)) 0 0 A :=
  zmet RX12 (by decide) rfl rfl (Nat.le_of_ble_eq_true rfl) (fun p e R s m below meth c Q hfr hlo ls S0 hQ => w_X12_keep hfr hlo hD  hf S0 (fun tx tI hq H locs ls pc hP hS hd => by cases hq; exact hQ H locs _ hS (fun hx hb hr hlocks hfree => W.iret hx hb hr (fun t ht hW => ⟨⟨_, (), rfl, rfl, zht ht hP⟩, hS.F ht⟩) hfree hd hlocks)))
theorem ddX12_keep : yX12_keep.cls = RX12 ∧ yX12_keep.cls ≠ "java/lang/invoke/MethodHandle" ∧ yX12_keep.cls ≠ "java/lang/invoke/VarHandle" ∧ (parseMethodDescriptor yX12_keep.desc).map (fun d => d.parameters.length) = some 0 := by decide +kernel

def f_X12_back (I : zI) (J : zJ) : Option (Int32 × zI) := (if (I 0 13) = 0 then some ((-2), I) else zb1 (f_X12_copies I J (I 0 13) 0) (fun I2 => zn (va_up I2 0 (va_up (I2 0) 13 ((I2 0 13) - 1))) (fun I4 => some ((I4 0 13), I4))))
theorem hinX12_back_X12 : ∀ w ∈ u_ws RX12 TX12 31, w ∈ wsX12_back := by decide +kernel
set_option maxHeartbeats 4000000 in
set_option maxRecDepth 100000 in
theorem w_X12_back {p : Program} {l : Launch} {e : Env} {R : Room} {s : State} {m : MethodId} {args : Array Value} {below : List Frame} {meth : Method} {c : Code} {Q : State → Prop} (hfr : 1 ≤ R.frames) (hlo : 23 ≤ R.locals) {D : va_G} {a0 : Nat → Nat} {A : Nat → Prop} {cy : Nat → ClassId} {ad : Nat → Nat} (hD : zD A 25 ad) {I : zI} {J : zJ}  {rx : Int32} {rI : zI} (hf : f_X12_back I J = some (rx, rI)) {ls : Array Slot} (S0 : zSt p m c cX12_back 1 s args wsX12_back RX12 D a0 A cy (zw 25 (kM cy ad) ad I J) [.ref (ad 0)] ls) (hret : ∀ (tx : Int32) (tI : zI), some (tx, tI) = some (rx, rI) → ∀ (H : Heap) (locs : List Loc) (ls : Array Slot) (pc : Nat), va_P D vwCl (zw 25 (kM cy ad) ad tI J) H → va_S A s.heap H locs → decode cX12_back pc = .ok (.ireturn, 1) → W p l e R s m args below meth c H locs 0 0 Q (F0 m pc ls [.int tx])) : W p l e R s m args below meth c s.heap [] 0 0 Q (F0 m 0 ls []) := by
  obtain ⟨S, E, hP, hl⟩ := S0
  obtain ⟨hx, hb, hml, hown, hts⟩ := id S
  have hS : va_S A s.heap s.heap [] := va_S.rf
  replace hl : lv_has ls 1 [(0, .ref (ad 0))] := hl
  unfold f_X12_back at hf
  refine lv_aload_n hx hb dX12_back_0 rfl (lv_at hl 0 rfl) ?_
  refine va_get (D := D) (ci := 11) (v := .int (I 0 13)) (C := RX12) (T := TX12) (N := 31) hx hb hts hinX12_back_X12 hown E.1 hP 0 (zO.get (oX12_at)) rfl 13 (by decide) (hts (.fieldLink RX12 95 "EdgeAndSpeedModel" "kept" "I") (by decide +kernel)) (fun _ h9 => h9) rfl dX12_back_1 ?_
  refine lv_if_ne (tgt := 10) hx hb dX12_back_4 (by decide) (fun k1 => ?_) (fun k1 => ?_)
  · replace hf := zf k1 hf
    refine lv_aload_n hx hb dX12_back_10 rfl (lv_at hl 0 rfl) ?_
    refine lv_aload_n hx hb dX12_back_11 rfl (lv_at hl 0 rfl) ?_
    refine va_get (D := D) (ci := 11) (v := .int (I 0 13)) (C := RX12) (T := TX12) (N := 31) hx hb hts hinX12_back_X12 hown E.1 hP 0 (zO.get (oX12_at)) rfl 13 (by decide) (hts (.fieldLink RX12 95 "EdgeAndSpeedModel" "kept" "I") (by decide +kernel)) (fun _ h9 => h9) rfl dX12_back_12 ?_
    refine lv_iconst (v := 0) hx hb dX12_back_15 (by decide) ?_
    obtain ⟨I2, h3, hf⟩ := zb1_e hf
    refine zgo_v (zrunV (As := [.int (I 0 13), .int 0]) (rest := []) S (c_X12_copies l hD (I 0 13) 0 h3) (cwV 2 hts gX12_back_X12_copies rfl rfl rfl ddX12_copies ⟨Nat.le_trans (Nat.le_of_ble_eq_true rfl) hfr, Nat.le_trans (Nat.le_of_ble_eq_true rfl) hlo⟩) (va_recv E.1 hP (q := (RX12, TX12, 31)) (ci := 11) rfl (zO.get (oX12_at))) E hP hS hl.1 rfl rfl (Nat.le_of_ble_eq_true rfl) dX12_back_16) hS (fun H locs hP hS => ?_)
    refine lv_aload_n hx hb dX12_back_19 rfl (lv_at hl 0 rfl) ?_
    refine lv_dup hx hb dX12_back_20 rfl ?_
    refine va_get (D := D) (ci := 11) (v := .int (I2 0 13)) (C := RX12) (T := TX12) (N := 31) hx hb hts hinX12_back_X12 hown E.1 hP 0 (zO.get (oX12_at)) rfl 13 (by decide) (hts (.fieldLink RX12 95 "EdgeAndSpeedModel" "kept" "I") (by decide +kernel)) (fun _ h9 => h9) rfl dX12_back_21 ?_
    refine lv_iconst (v := 1) hx hb dX12_back_24 (by decide) ?_
    refine lv_isub hx hb dX12_back_25 ?_
    obtain ⟨I4, eI4⟩ := zex (va_up I2 0 (va_up (I2 0) 13 ((I2 0 13) - 1)))
    replace hf := zn_s eI4 hf
    refine zput (D := D) (ci := 11) (v := .int ((I2 0 13) - 1)) (ty := .int) (C := RX12) (T := TX12) (N := 31) hx hb hts hinX12_back_X12 tyX12 tyX12_ok nmX12 hown E.1 hP hD.D hS 0 (zO.get (oX12_at)) rfl 13 (by decide) (hts (.fieldLink RX12 95 "EdgeAndSpeedModel" "kept" "I") (by decide +kernel)) (fun _ h9 => h9) rfl (tyX12_ok 13 (by decide)) rfl rfl (Nat.le_of_ble_eq_true rfl) dX12_back_26 (zO.setI (oX12_at) rfl eI4) (fun H locs hP hS => ?_)
    refine lv_aload_n hx hb dX12_back_29 rfl (lv_at hl 0 rfl) ?_
    refine va_get (D := D) (ci := 11) (v := .int (I4 0 13)) (C := RX12) (T := TX12) (N := 31) hx hb hts hinX12_back_X12 hown E.1 hP 0 (zO.get (oX12_at)) rfl 13 (by decide) (hts (.fieldLink RX12 95 "EdgeAndSpeedModel" "kept" "I") (by decide +kernel)) (fun _ h9 => h9) rfl dX12_back_30 ?_
    exact hret _ _ hf _ _ _ _ hP hS dX12_back_33
  · replace hf := zt k1 hf
    refine lv_bipush (v := (-2)) hx hb dX12_back_7 (by decide) ?_
    exact hret _ _ hf _ _ _ _ hP hS dX12_back_9
theorem c_X12_back (l : Launch) {D : va_G} {a0 : Nat → Nat} {A : Nat → Prop} {cy : Nat → ClassId} {ad : Nat → Nat} (hD : zD A 25 ad) {I : zI} {J : zJ}  {rx : Int32} {rI : zI} (hf : f_X12_back I J = some (rx, rI)) : Met l yX12_back wsX12_back { frames := 1, cells := 0, slots := 0, locals := 23 } (zPc D a0 A cy [.ref (ad 0)] (zw 25 (kM cy ad) ad I J)) (zQi D A rx (zw 25 (kM cy ad) ad rI J)) 0 0 A :=
  zmet RX12 (by decide) rfl rfl (Nat.le_of_ble_eq_true rfl) (fun p e R s m below meth c Q hfr hlo ls S0 hQ => w_X12_back hfr hlo hD  hf S0 (fun tx tI hq H locs ls pc hP hS hd => by cases hq; exact hQ H locs _ hS (fun hx hb hr hlocks hfree => W.iret hx hb hr (fun t ht hW => ⟨⟨_, (), rfl, rfl, zht ht hP⟩, hS.F ht⟩) hfree hd hlocks)))
theorem ddX12_back : yX12_back.cls = RX12 ∧ yX12_back.cls ≠ "java/lang/invoke/MethodHandle" ∧ yX12_back.cls ≠ "java/lang/invoke/VarHandle" ∧ (parseMethodDescriptor yX12_back.desc).map (fun d => d.parameters.length) = some 0 := by decide +kernel

def f_X12_count (I : zI) (J : zJ) (p1 : Int32) : Option Int32 := (if p1 = 0 then zg (¬ ((0 : Int32) < 0 ∨ 2 ≤ (0 : Int32).toNatClampNeg)) (some (I 3 (0 : Int32).toNatClampNeg)) else (if p1 = 1 then zg (¬ ((0 : Int32) < 0 ∨ 2 ≤ (0 : Int32).toNatClampNeg)) (some (I 5 (0 : Int32).toNatClampNeg)) else (if p1 = 2 then zg (¬ ((0 : Int32) < 0 ∨ 2 ≤ (0 : Int32).toNatClampNeg)) (some (I 9 (0 : Int32).toNatClampNeg)) else (if p1 = 3 then some (I 0 0) else (if p1 = 4 then zg (¬ ((0 : Int32) < 0 ∨ 3 ≤ (0 : Int32).toNatClampNeg)) (some (I 13 (0 : Int32).toNatClampNeg)) else (if p1 = 5 then some (I 0 13) else some (-1)))))))
theorem hinX12_count_X12 : ∀ w ∈ u_ws RX12 TX12 31, w ∈ wsX12_count := by decide +kernel
set_option maxHeartbeats 4000000 in
set_option maxRecDepth 100000 in
theorem w_X12_count {p : Program} {l : Launch} {e : Env} {R : Room} {s : State} {m : MethodId} {args : Array Value} {below : List Frame} {meth : Method} {c : Code} {Q : State → Prop} (hfr : 0 ≤ R.frames) (hlo : 0 ≤ R.locals) {D : va_G} {a0 : Nat → Nat} {A : Nat → Prop} {cy : Nat → ClassId} {ad : Nat → Nat} (hD : zD A 25 ad) {I : zI} {J : zJ} (p1 : Int32) {rx : Int32} (hf : f_X12_count I J p1 = some rx) {ls : Array Slot} (S0 : zSt p m c cX12_count 2 s args wsX12_count RX12 D a0 A cy (zw 25 (kM cy ad) ad I J) [.ref (ad 0), .int p1] ls) (hret : ∀ (tx : Int32), some tx = some rx → ∀ (H : Heap) (locs : List Loc) (ls : Array Slot) (pc : Nat), va_P D vwCl (zw 25 (kM cy ad) ad I J) H → va_S A s.heap H locs → decode cX12_count pc = .ok (.ireturn, 1) → W p l e R s m args below meth c H locs 0 0 Q (F0 m pc ls [.int tx])) : W p l e R s m args below meth c s.heap [] 0 0 Q (F0 m 0 ls []) := by
  obtain ⟨S, E, hP, hl⟩ := S0
  obtain ⟨hx, hb, hml, hown, hts⟩ := id S
  have hS : va_S A s.heap s.heap [] := va_S.rf
  replace hl : lv_has ls 2 [(0, .ref (ad 0)), (1, .int p1)] := hl
  unfold f_X12_count at hf
  refine lv_iload_n hx hb dX12_count_0 rfl (lv_at hl 1 rfl) ?_
  refine lv_if_ne (tgt := 13) hx hb dX12_count_1 (by decide) (fun k1 => ?_) (fun k1 => ?_)
  · replace hf := zf k1 hf
    refine lv_iload_n hx hb dX12_count_13 rfl (lv_at hl 1 rfl) ?_
    refine lv_iconst (v := 1) hx hb dX12_count_14 (by decide) ?_
    refine lv_icmp_ne (tgt := 27) hx hb dX12_count_15 (by decide) (fun k2 => ?_) (fun k2 => ?_)
    · replace hf := zf k2 hf
      refine lv_iload_n hx hb dX12_count_27 rfl (lv_at hl 1 rfl) ?_
      refine lv_iconst (v := 2) hx hb dX12_count_28 (by decide) ?_
      refine lv_icmp_ne (tgt := 41) hx hb dX12_count_29 (by decide) (fun k3 => ?_) (fun k3 => ?_)
      · replace hf := zf k3 hf
        refine lv_iload_n hx hb dX12_count_41 rfl (lv_at hl 1 rfl) ?_
        refine lv_iconst (v := 3) hx hb dX12_count_42 (by decide) ?_
        refine lv_icmp_ne (tgt := 53) hx hb dX12_count_43 (by decide) (fun k4 => ?_) (fun k4 => ?_)
        · replace hf := zf k4 hf
          refine lv_iload_n hx hb dX12_count_53 rfl (lv_at hl 1 rfl) ?_
          refine lv_iconst (v := 4) hx hb dX12_count_54 (by decide) ?_
          refine lv_icmp_ne (tgt := 67) hx hb dX12_count_55 (by decide) (fun k5 => ?_) (fun k5 => ?_)
          · replace hf := zf k5 hf
            refine lv_iload_n hx hb dX12_count_67 rfl (lv_at hl 1 rfl) ?_
            refine lv_iconst (v := 5) hx hb dX12_count_68 (by decide) ?_
            refine lv_icmp_ne (tgt := 79) hx hb dX12_count_69 (by decide) (fun k6 => ?_) (fun k6 => ?_)
            · replace hf := zf k6 hf
              refine lv_iconst (v := (-1)) hx hb dX12_count_79 (by decide) ?_
              exact hret _ hf _ _ _ _ hP hS dX12_count_80
            · replace hf := zt k6 hf
              refine lv_aload_n hx hb dX12_count_72 rfl (lv_at hl 0 rfl) ?_
              refine va_get (D := D) (ci := 11) (v := .int (I 0 13)) (C := RX12) (T := TX12) (N := 31) hx hb hts hinX12_count_X12 hown E.1 hP 0 (zO.get (oX12_at)) rfl 13 (by decide) (hts (.fieldLink RX12 95 "EdgeAndSpeedModel" "kept" "I") (by decide +kernel)) (fun _ h9 => h9) rfl dX12_count_73 ?_
              refine lv_goto (tgt := 80) hx hb dX12_count_76 (by decide) ?_
              exact hret _ hf _ _ _ _ hP hS dX12_count_80
          · replace hf := zt k5 hf
            refine lv_aload_n hx hb dX12_count_58 rfl (lv_at hl 0 rfl) ?_
            refine va_get (D := D) (ci := 11) (v := .ref (ad 13)) (C := RX12) (T := TX12) (N := 31) hx hb hts hinX12_count_X12 hown E.1 hP 0 (zO.get (oX12_at)) rfl 15 (by decide) (hts (.fieldLink RX12 47 "EdgeAndSpeedModel" "logs" "[I") (by decide +kernel)) (fun _ h9 => h9) rfl dX12_count_59 ?_
            refine lv_iconst (v := 0) hx hb dX12_count_62 (by decide) ?_
            obtain ⟨g7, hf⟩ := zg_i hf
            refine va_iald hx hb E.1 hP 13 1 (zIA.get (aX12_15)) rfl g7 dX12_count_63 ?_
            refine lv_goto (tgt := 80) hx hb dX12_count_64 (by decide) ?_
            exact hret _ hf _ _ _ _ hP hS dX12_count_80
        · replace hf := zt k4 hf
          refine lv_aload_n hx hb dX12_count_46 rfl (lv_at hl 0 rfl) ?_
          refine va_get (D := D) (ci := 11) (v := .int (I 0 0)) (C := RX12) (T := TX12) (N := 31) hx hb hts hinX12_count_X12 hown E.1 hP 0 (zO.get (oX12_at)) rfl 0 (by decide) (hts (.fieldLink RX12 105 "EdgeAndSpeedModel" "length" "I") (by decide +kernel)) (fun _ h9 => h9) rfl dX12_count_47 ?_
          refine lv_goto (tgt := 80) hx hb dX12_count_50 (by decide) ?_
          exact hret _ hf _ _ _ _ hP hS dX12_count_80
      · replace hf := zt k3 hf
        refine lv_aload_n hx hb dX12_count_32 rfl (lv_at hl 0 rfl) ?_
        refine va_get (D := D) (ci := 11) (v := .ref (ad 9)) (C := RX12) (T := TX12) (N := 31) hx hb hts hinX12_count_X12 hown E.1 hP 0 (zO.get (oX12_at)) rfl 10 (by decide) (hts (.fieldLink RX12 35 "EdgeAndSpeedModel" "steels" "[I") (by decide +kernel)) (fun _ h9 => h9) rfl dX12_count_33 ?_
        refine lv_iconst (v := 0) hx hb dX12_count_36 (by decide) ?_
        obtain ⟨g8, hf⟩ := zg_i hf
        refine va_iald hx hb E.1 hP 9 1 (zIA.get (aX12_10)) rfl g8 dX12_count_37 ?_
        refine lv_goto (tgt := 80) hx hb dX12_count_38 (by decide) ?_
        exact hret _ hf _ _ _ _ hP hS dX12_count_80
    · replace hf := zt k2 hf
      refine lv_aload_n hx hb dX12_count_18 rfl (lv_at hl 0 rfl) ?_
      refine va_get (D := D) (ci := 11) (v := .ref (ad 5)) (C := RX12) (T := TX12) (N := 31) hx hb hts hinX12_count_X12 hown E.1 hP 0 (zO.get (oX12_at)) rfl 6 (by decide) (hts (.fieldLink RX12 23 "EdgeAndSpeedModel" "pieces" "[I") (by decide +kernel)) (fun _ h9 => h9) rfl dX12_count_19 ?_
      refine lv_iconst (v := 0) hx hb dX12_count_22 (by decide) ?_
      obtain ⟨g9, hf⟩ := zg_i hf
      refine va_iald hx hb E.1 hP 5 1 (zIA.get (aX12_6)) rfl g9 dX12_count_23 ?_
      refine lv_goto (tgt := 80) hx hb dX12_count_24 (by decide) ?_
      exact hret _ hf _ _ _ _ hP hS dX12_count_80
  · replace hf := zt k1 hf
    refine lv_aload_n hx hb dX12_count_4 rfl (lv_at hl 0 rfl) ?_
    refine va_get (D := D) (ci := 11) (v := .ref (ad 3)) (C := RX12) (T := TX12) (N := 31) hx hb hts hinX12_count_X12 hown E.1 hP 0 (zO.get (oX12_at)) rfl 4 (by decide) (hts (.fieldLink RX12 17 "EdgeAndSpeedModel" "speeds" "[I") (by decide +kernel)) (fun _ h9 => h9) rfl dX12_count_5 ?_
    refine lv_iconst (v := 0) hx hb dX12_count_8 (by decide) ?_
    obtain ⟨g10, hf⟩ := zg_i hf
    refine va_iald hx hb E.1 hP 3 1 (zIA.get (aX12_4)) rfl g10 dX12_count_9 ?_
    refine lv_goto (tgt := 80) hx hb dX12_count_10 (by decide) ?_
    exact hret _ hf _ _ _ _ hP hS dX12_count_80
theorem c_X12_count (l : Launch) {D : va_G} {a0 : Nat → Nat} {A : Nat → Prop} {cy : Nat → ClassId} {ad : Nat → Nat} (hD : zD A 25 ad) {I : zI} {J : zJ} (p1 : Int32) {rx : Int32} (hf : f_X12_count I J p1 = some rx) : Met l yX12_count wsX12_count { frames := 0, cells := 0, slots := 0, locals := 0 } (zPc D a0 A cy [.ref (ad 0), .int p1] (zw 25 (kM cy ad) ad I J)) (zQi D A rx (zw 25 (kM cy ad) ad I J)) 0 0 A :=
  zmet RX12 (by decide) rfl rfl (Nat.le_of_ble_eq_true rfl) (fun p e R s m below meth c Q hfr hlo ls S0 hQ => w_X12_count hfr hlo hD p1 hf S0 (fun tx hq H locs ls pc hP hS hd => by cases hq; exact hQ H locs _ hS (fun hx hb hr hlocks hfree => W.iret hx hb hr (fun t ht hW => ⟨⟨_, (), rfl, rfl, zht ht hP⟩, hS.F ht⟩) hfree hd hlocks)))
theorem ddX12_count : yX12_count.cls = RX12 ∧ yX12_count.cls ≠ "java/lang/invoke/MethodHandle" ∧ yX12_count.cls ≠ "java/lang/invoke/VarHandle" ∧ (parseMethodDescriptor yX12_count.desc).map (fun d => d.parameters.length) = some 1 := by decide +kernel
