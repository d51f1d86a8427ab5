def f_X12_begins (I : zI) (J : zJ) (p1 : Int32) : Option zI := zg (¬ (p1 < 0 ∨ 2 ≤ p1.toNatClampNeg)) (zn (va_up I 3 (upd (I 3) p1.toNatClampNeg 0)) (fun I1 => zg (¬ (p1 < 0 ∨ 2 ≤ p1.toNatClampNeg)) (zn (va_up I1 5 (upd (I1 5) p1.toNatClampNeg 0)) (fun I3 => zg (¬ (p1 < 0 ∨ 2 ≤ p1.toNatClampNeg)) (zn (va_up I3 7 (upd (I3 7) p1.toNatClampNeg 0)) (fun I5 => zg (¬ (p1 < 0 ∨ 2 ≤ p1.toNatClampNeg)) (zn (va_up I5 9 (upd (I5 9) p1.toNatClampNeg 0)) (fun I7 => zg (¬ ((5 * p1) < 0 ∨ 10 ≤ (5 * p1).toNatClampNeg)) (zn (va_up I7 11 (upd (I7 11) (5 * p1).toNatClampNeg 4)) (fun I9 => zg (¬ (((5 * p1) + 1) < 0 ∨ 10 ≤ ((5 * p1) + 1).toNatClampNeg)) (zn (va_up I9 11 (upd (I9 11) ((5 * p1) + 1).toNatClampNeg 9)) (fun I11 => zg (¬ (((5 * p1) + 2) < 0 ∨ 10 ≤ ((5 * p1) + 2).toNatClampNeg)) (zn (va_up I11 11 (upd (I11 11) ((5 * p1) + 2).toNatClampNeg 60)) (fun I13 => zg (¬ (((5 * p1) + 3) < 0 ∨ 10 ≤ ((5 * p1) + 3).toNatClampNeg)) (zn (va_up I13 11 (upd (I13 11) ((5 * p1) + 3).toNatClampNeg 8)) (fun I15 => zg (¬ (((5 * p1) + 4) < 0 ∨ 10 ≤ ((5 * p1) + 4).toNatClampNeg)) (zn (va_up I15 11 (upd (I15 11) ((5 * p1) + 4).toNatClampNeg 999)) (fun I17 => some I17))))))))))))))))))
theorem hinX12_begins_X12 : ∀ w ∈ u_ws RX12 TX12 31, w ∈ wsX12_begins := by decide +kernel
set_option maxHeartbeats 4000000 in
set_option maxRecDepth 100000 in
theorem w_X12_begins {p : Program} {l : Launch} {e : Env} {R : Room} {s : State} {m : MethodId} {args : Array Value} {below : List Frame} {meth : Method} {c : Code} {Q : State → Prop} (hfr : 0 ≤ R.frames) (hlo : 0 ≤ R.locals) {D : va_G} {a0 : Nat → Nat} {A : Nat → Prop} {cy : Nat → ClassId} {ad : Nat → Nat} (hD : zD A 25 ad) {I : zI} {J : zJ} (p1 : Int32) {rI : zI} (hf : f_X12_begins I J p1 = some rI) {ls : Array Slot} (S0 : zSt p m c cX12_begins 2 s args wsX12_begins RX12 D a0 A cy (zw 25 (kM cy ad) ad I J) [.ref (ad 0), .int p1] ls) (hret : ∀ (tI : zI), some tI = some rI → ∀ (H : Heap) (locs : List Loc) (ls : Array Slot) (pc : Nat), va_P D vwCl (zw 25 (kM cy ad) ad tI J) H → va_S A s.heap H locs → decode cX12_begins pc = .ok (.return_, 1) → W p l e R s m args below meth c H locs 0 0 Q (F0 m pc ls [])) : W p l e R s m args below meth c s.heap [] 0 0 Q (F0 m 0 ls []) := by
  obtain ⟨S, E, hP, hl⟩ := S0
  obtain ⟨hx, hb, hml, hown, hts⟩ := id S
  have hS : va_S A s.heap s.heap [] := va_S.rf
  replace hl : lv_has ls 2 [(0, .ref (ad 0)), (1, .int p1)] := hl
  unfold f_X12_begins at hf
  refine lv_aload_n hx hb dX12_begins_0 rfl (lv_at hl 0 rfl) ?_
  refine va_get (D := D) (ci := 11) (v := .ref (ad 3)) (C := RX12) (T := TX12) (N := 31) hx hb hts hinX12_begins_X12 hown E.1 hP 0 (zO.get (oX12_at)) rfl 4 (by decide) (hts (.fieldLink RX12 17 "EdgeAndSpeedModel" "speeds" "[I") (by decide +kernel)) (fun _ h9 => h9) rfl dX12_begins_1 ?_
  refine lv_iload_n hx hb dX12_begins_4 rfl (lv_at hl 1 rfl) ?_
  refine lv_iconst (v := 0) hx hb dX12_begins_5 (by decide) ?_
  obtain ⟨g2, hf⟩ := zg_i hf
  obtain ⟨I1, eI1⟩ := zex (va_up I 3 (upd (I 3) p1.toNatClampNeg 0))
  replace hf := zn_s eI1 hf
  refine zast_i hx hb E.1 hP hD.D hS (aX12_4) g2 dX12_begins_6 eI1 (fun H locs hP hS => ?_)
  refine lv_aload_n hx hb dX12_begins_7 rfl (lv_at hl 0 rfl) ?_
  refine va_get (D := D) (ci := 11) (v := .ref (ad 5)) (C := RX12) (T := TX12) (N := 31) hx hb hts hinX12_begins_X12 hown E.1 hP 0 (zO.get (oX12_at)) rfl 6 (by decide) (hts (.fieldLink RX12 23 "EdgeAndSpeedModel" "pieces" "[I") (by decide +kernel)) (fun _ h9 => h9) rfl dX12_begins_8 ?_
  refine lv_iload_n hx hb dX12_begins_11 rfl (lv_at hl 1 rfl) ?_
  refine lv_iconst (v := 0) hx hb dX12_begins_12 (by decide) ?_
  obtain ⟨g4, hf⟩ := zg_i hf
  obtain ⟨I3, eI3⟩ := zex (va_up I1 5 (upd (I1 5) p1.toNatClampNeg 0))
  replace hf := zn_s eI3 hf
  refine zast_i hx hb E.1 hP hD.D hS (aX12_6) g4 dX12_begins_13 eI3 (fun H locs hP hS => ?_)
  refine lv_aload_n hx hb dX12_begins_14 rfl (lv_at hl 0 rfl) ?_
  refine va_get (D := D) (ci := 11) (v := .ref (ad 7)) (C := RX12) (T := TX12) (N := 31) hx hb hts hinX12_begins_X12 hown E.1 hP 0 (zO.get (oX12_at)) rfl 8 (by decide) (hts (.fieldLink RX12 29 "EdgeAndSpeedModel" "cracks" "[I") (by decide +kernel)) (fun _ h9 => h9) rfl dX12_begins_15 ?_
  refine lv_iload_n hx hb dX12_begins_18 rfl (lv_at hl 1 rfl) ?_
  refine lv_iconst (v := 0) hx hb dX12_begins_19 (by decide) ?_
  obtain ⟨g6, hf⟩ := zg_i hf
  obtain ⟨I5, eI5⟩ := zex (va_up I3 7 (upd (I3 7) p1.toNatClampNeg 0))
  replace hf := zn_s eI5 hf
  refine zast_i hx hb E.1 hP hD.D hS (aX12_8) g6 dX12_begins_20 eI5 (fun H locs hP hS => ?_)
  refine lv_aload_n hx hb dX12_begins_21 rfl (lv_at hl 0 rfl) ?_
  refine va_get (D := D) (ci := 11) (v := .ref (ad 9)) (C := RX12) (T := TX12) (N := 31) hx hb hts hinX12_begins_X12 hown E.1 hP 0 (zO.get (oX12_at)) rfl 10 (by decide) (hts (.fieldLink RX12 35 "EdgeAndSpeedModel" "steels" "[I") (by decide +kernel)) (fun _ h9 => h9) rfl dX12_begins_22 ?_
  refine lv_iload_n hx hb dX12_begins_25 rfl (lv_at hl 1 rfl) ?_
  refine lv_iconst (v := 0) hx hb dX12_begins_26 (by decide) ?_
  obtain ⟨g8, hf⟩ := zg_i hf
  obtain ⟨I7, eI7⟩ := zex (va_up I5 9 (upd (I5 9) p1.toNatClampNeg 0))
  replace hf := zn_s eI7 hf
  refine zast_i hx hb E.1 hP hD.D hS (aX12_10) g8 dX12_begins_27 eI7 (fun H locs hP hS => ?_)
  refine lv_aload_n hx hb dX12_begins_28 rfl (lv_at hl 0 rfl) ?_
  refine va_get (D := D) (ci := 11) (v := .ref (ad 11)) (C := RX12) (T := TX12) (N := 31) hx hb hts hinX12_begins_X12 hown E.1 hP 0 (zO.get (oX12_at)) rfl 12 (by decide) (hts (.fieldLink RX12 41 "EdgeAndSpeedModel" "rest" "[I") (by decide +kernel)) (fun _ h9 => h9) rfl dX12_begins_29 ?_
  refine lv_iconst (v := 5) hx hb dX12_begins_32 (by decide) ?_
  refine lv_iload_n hx hb dX12_begins_33 rfl (lv_at hl 1 rfl) ?_
  refine lv_imul hx hb dX12_begins_34 ?_
  refine lv_iconst (v := 4) hx hb dX12_begins_35 (by decide) ?_
  obtain ⟨g10, hf⟩ := zg_i hf
  obtain ⟨I9, eI9⟩ := zex (va_up I7 11 (upd (I7 11) (5 * p1).toNatClampNeg 4))
  replace hf := zn_s eI9 hf
  refine zast_i hx hb E.1 hP hD.D hS (aX12_12) g10 dX12_begins_36 eI9 (fun H locs hP hS => ?_)
  refine lv_aload_n hx hb dX12_begins_37 rfl (lv_at hl 0 rfl) ?_
  refine va_get (D := D) (ci := 11) (v := .ref (ad 11)) (C := RX12) (T := TX12) (N := 31) hx hb hts hinX12_begins_X12 hown E.1 hP 0 (zO.get (oX12_at)) rfl 12 (by decide) (hts (.fieldLink RX12 41 "EdgeAndSpeedModel" "rest" "[I") (by decide +kernel)) (fun _ h9 => h9) rfl dX12_begins_38 ?_
  refine lv_iconst (v := 5) hx hb dX12_begins_41 (by decide) ?_
  refine lv_iload_n hx hb dX12_begins_42 rfl (lv_at hl 1 rfl) ?_
  refine lv_imul hx hb dX12_begins_43 ?_
  refine lv_iconst (v := 1) hx hb dX12_begins_44 (by decide) ?_
  refine lv_iadd hx hb dX12_begins_45 ?_
  refine lv_bipush (v := 9) hx hb dX12_begins_46 (by decide) ?_
  obtain ⟨g12, hf⟩ := zg_i hf
  obtain ⟨I11, eI11⟩ := zex (va_up I9 11 (upd (I9 11) ((5 * p1) + 1).toNatClampNeg 9))
  replace hf := zn_s eI11 hf
  refine zast_i hx hb E.1 hP hD.D hS (aX12_12) g12 dX12_begins_48 eI11 (fun H locs hP hS => ?_)
  refine lv_aload_n hx hb dX12_begins_49 rfl (lv_at hl 0 rfl) ?_
  refine va_get (D := D) (ci := 11) (v := .ref (ad 11)) (C := RX12) (T := TX12) (N := 31) hx hb hts hinX12_begins_X12 hown E.1 hP 0 (zO.get (oX12_at)) rfl 12 (by decide) (hts (.fieldLink RX12 41 "EdgeAndSpeedModel" "rest" "[I") (by decide +kernel)) (fun _ h9 => h9) rfl dX12_begins_50 ?_
  refine lv_iconst (v := 5) hx hb dX12_begins_53 (by decide) ?_
  refine lv_iload_n hx hb dX12_begins_54 rfl (lv_at hl 1 rfl) ?_
  refine lv_imul hx hb dX12_begins_55 ?_
  refine lv_iconst (v := 2) hx hb dX12_begins_56 (by decide) ?_
  refine lv_iadd hx hb dX12_begins_57 ?_
  refine lv_bipush (v := 60) hx hb dX12_begins_58 (by decide) ?_
  obtain ⟨g14, hf⟩ := zg_i hf
  obtain ⟨I13, eI13⟩ := zex (va_up I11 11 (upd (I11 11) ((5 * p1) + 2).toNatClampNeg 60))
  replace hf := zn_s eI13 hf
  refine zast_i hx hb E.1 hP hD.D hS (aX12_12) g14 dX12_begins_60 eI13 (fun H locs hP hS => ?_)
  refine lv_aload_n hx hb dX12_begins_61 rfl (lv_at hl 0 rfl) ?_
  refine va_get (D := D) (ci := 11) (v := .ref (ad 11)) (C := RX12) (T := TX12) (N := 31) hx hb hts hinX12_begins_X12 hown E.1 hP 0 (zO.get (oX12_at)) rfl 12 (by decide) (hts (.fieldLink RX12 41 "EdgeAndSpeedModel" "rest" "[I") (by decide +kernel)) (fun _ h9 => h9) rfl dX12_begins_62 ?_
  refine lv_iconst (v := 5) hx hb dX12_begins_65 (by decide) ?_
  refine lv_iload_n hx hb dX12_begins_66 rfl (lv_at hl 1 rfl) ?_
  refine lv_imul hx hb dX12_begins_67 ?_
  refine lv_iconst (v := 3) hx hb dX12_begins_68 (by decide) ?_
  refine lv_iadd hx hb dX12_begins_69 ?_
  refine lv_bipush (v := 8) hx hb dX12_begins_70 (by decide) ?_
  obtain ⟨g16, hf⟩ := zg_i hf
  obtain ⟨I15, eI15⟩ := zex (va_up I13 11 (upd (I13 11) ((5 * p1) + 3).toNatClampNeg 8))
  replace hf := zn_s eI15 hf
  refine zast_i hx hb E.1 hP hD.D hS (aX12_12) g16 dX12_begins_72 eI15 (fun H locs hP hS => ?_)
  refine lv_aload_n hx hb dX12_begins_73 rfl (lv_at hl 0 rfl) ?_
  refine va_get (D := D) (ci := 11) (v := .ref (ad 11)) (C := RX12) (T := TX12) (N := 31) hx hb hts hinX12_begins_X12 hown E.1 hP 0 (zO.get (oX12_at)) rfl 12 (by decide) (hts (.fieldLink RX12 41 "EdgeAndSpeedModel" "rest" "[I") (by decide +kernel)) (fun _ h9 => h9) rfl dX12_begins_74 ?_
  refine lv_iconst (v := 5) hx hb dX12_begins_77 (by decide) ?_
  refine lv_iload_n hx hb dX12_begins_78 rfl (lv_at hl 1 rfl) ?_
  refine lv_imul hx hb dX12_begins_79 ?_
  refine lv_iconst (v := 4) hx hb dX12_begins_80 (by decide) ?_
  refine lv_iadd hx hb dX12_begins_81 ?_
  refine lv_sipush (v := 999) hx hb dX12_begins_82 (by decide) ?_
  obtain ⟨g18, hf⟩ := zg_i hf
  obtain ⟨I17, eI17⟩ := zex (va_up I15 11 (upd (I15 11) ((5 * p1) + 4).toNatClampNeg 999))
  replace hf := zn_s eI17 hf
  refine zast_i hx hb E.1 hP hD.D hS (aX12_12) g18 dX12_begins_85 eI17 (fun H locs hP hS => ?_)
  exact hret _ hf _ _ _ _ hP hS dX12_begins_86
theorem c_X12_begins (l : Launch) {D : va_G} {a0 : Nat → Nat} {A : Nat → Prop} {cy : Nat → ClassId} {ad : Nat → Nat} (hD : zD A 25 ad) {I : zI} {J : zJ} (p1 : Int32) {rI : zI} (hf : f_X12_begins I J p1 = some rI) : Met l yX12_begins wsX12_begins { frames := 0, cells := 0, slots := 0, locals := 0 } (zPc D a0 A cy [.ref (ad 0), .int p1] (zw 25 (kM cy ad) ad I J)) (zQv D A (zw 25 (kM cy ad) ad rI J)) 0 0 A :=
  zmet RX12 (by decide) rfl rfl (Nat.le_of_ble_eq_true rfl) (fun p e R s m below meth c Q hfr hlo ls S0 hQ => w_X12_begins hfr hlo hD p1 hf S0 (fun tI hq H locs ls pc hP hS hd => by cases hq; exact hQ H locs _ hS (fun hx hb hr hlocks hfree => W.vret hx hb hr (fun t ht hW => ⟨⟨(), rfl, trivial, zht ht hP⟩, hS.F ht⟩) hfree hd hlocks)))
theorem ddX12_begins : yX12_begins.cls = RX12 ∧ yX12_begins.cls ≠ "java/lang/invoke/MethodHandle" ∧ yX12_begins.cls ≠ "java/lang/invoke/VarHandle" ∧ (parseMethodDescriptor yX12_begins.desc).map (fun d => d.parameters.length) = some 1 := by decide +kernel

def f_X12_ends (I : zI) (J : zJ) (p1 : Int32) : Option zI := zg (¬ (p1 < 0 ∨ 2 ≤ p1.toNatClampNeg)) ((if (I 9 p1.toNatClampNeg) = 0 then zg (¬ (p1 < 0 ∨ 2 ≤ p1.toNatClampNeg)) (zn (va_up I 9 (upd (I 9) p1.toNatClampNeg 1)) (fun I3 => zg (¬ ((8 * p1) < 0 ∨ 16 ≤ (8 * p1).toNatClampNeg)) (zn (va_up I3 10 (upd (I3 10) (8 * p1).toNatClampNeg 100)) (fun I5 => zg (¬ (((8 * p1) + 1) < 0 ∨ 16 ≤ ((8 * p1) + 1).toNatClampNeg)) (zn (va_up I5 10 (upd (I5 10) ((8 * p1) + 1).toNatClampNeg 10)) (fun I7 => some I7)))))) else some I))
theorem hinX12_ends_X12 : ∀ w ∈ u_ws RX12 TX12 31, w ∈ wsX12_ends := by decide +kernel
set_option maxHeartbeats 4000000 in
set_option maxRecDepth 100000 in
theorem w_X12_ends {p : Program} {l : Launch} {e : Env} {R : Room} {s : State} {m : MethodId} {args : Array Value} {below : List Frame} {meth : Method} {c : Code} {Q : State → Prop} (hfr : 0 ≤ R.frames) (hlo : 0 ≤ R.locals) {D : va_G} {a0 : Nat → Nat} {A : Nat → Prop} {cy : Nat → ClassId} {ad : Nat → Nat} (hD : zD A 25 ad) {I : zI} {J : zJ} (p1 : Int32) {rI : zI} (hf : f_X12_ends I J p1 = some rI) {ls : Array Slot} (S0 : zSt p m c cX12_ends 2 s args wsX12_ends RX12 D a0 A cy (zw 25 (kM cy ad) ad I J) [.ref (ad 0), .int p1] ls) (hret : ∀ (tI : zI), some tI = some rI → ∀ (H : Heap) (locs : List Loc) (ls : Array Slot) (pc : Nat), va_P D vwCl (zw 25 (kM cy ad) ad tI J) H → va_S A s.heap H locs → decode cX12_ends pc = .ok (.return_, 1) → W p l e R s m args below meth c H locs 0 0 Q (F0 m pc ls [])) : W p l e R s m args below meth c s.heap [] 0 0 Q (F0 m 0 ls []) := by
  obtain ⟨S, E, hP, hl⟩ := S0
  obtain ⟨hx, hb, hml, hown, hts⟩ := id S
  have hS : va_S A s.heap s.heap [] := va_S.rf
  replace hl : lv_has ls 2 [(0, .ref (ad 0)), (1, .int p1)] := hl
  unfold f_X12_ends at hf
  refine lv_aload_n hx hb dX12_ends_0 rfl (lv_at hl 0 rfl) ?_
  refine va_get (D := D) (ci := 11) (v := .ref (ad 9)) (C := RX12) (T := TX12) (N := 31) hx hb hts hinX12_ends_X12 hown E.1 hP 0 (zO.get (oX12_at)) rfl 10 (by decide) (hts (.fieldLink RX12 35 "EdgeAndSpeedModel" "steels" "[I") (by decide +kernel)) (fun _ h9 => h9) rfl dX12_ends_1 ?_
  refine lv_iload_n hx hb dX12_ends_4 rfl (lv_at hl 1 rfl) ?_
  obtain ⟨g1, hf⟩ := zg_i hf
  refine va_iald hx hb E.1 hP 9 1 (zIA.get (aX12_10)) rfl g1 dX12_ends_5 ?_
  refine lv_if_ne (tgt := 40) hx hb dX12_ends_6 (by decide) (fun k2 => ?_) (fun k2 => ?_)
  · replace hf := zf k2 hf
    exact hret _ hf _ _ _ _ hP hS dX12_ends_40
  · replace hf := zt k2 hf
    refine lv_aload_n hx hb dX12_ends_9 rfl (lv_at hl 0 rfl) ?_
    refine va_get (D := D) (ci := 11) (v := .ref (ad 9)) (C := RX12) (T := TX12) (N := 31) hx hb hts hinX12_ends_X12 hown E.1 hP 0 (zO.get (oX12_at)) rfl 10 (by decide) (hts (.fieldLink RX12 35 "EdgeAndSpeedModel" "steels" "[I") (by decide +kernel)) (fun _ h9 => h9) rfl dX12_ends_10 ?_
    refine lv_iload_n hx hb dX12_ends_13 rfl (lv_at hl 1 rfl) ?_
    refine lv_iconst (v := 1) hx hb dX12_ends_14 (by decide) ?_
    obtain ⟨g4, hf⟩ := zg_i hf
    obtain ⟨I3, eI3⟩ := zex (va_up I 9 (upd (I 9) p1.toNatClampNeg 1))
    replace hf := zn_s eI3 hf
    refine zast_i hx hb E.1 hP hD.D hS (aX12_10) g4 dX12_ends_15 eI3 (fun H locs hP hS => ?_)
    refine lv_aload_n hx hb dX12_ends_16 rfl (lv_at hl 0 rfl) ?_
    refine va_get (D := D) (ci := 11) (v := .ref (ad 10)) (C := RX12) (T := TX12) (N := 31) hx hb hts hinX12_ends_X12 hown E.1 hP 0 (zO.get (oX12_at)) rfl 11 (by decide) (hts (.fieldLink RX12 38 "EdgeAndSpeedModel" "steel" "[I") (by decide +kernel)) (fun _ h9 => h9) rfl dX12_ends_17 ?_
    refine lv_bipush (v := 8) hx hb dX12_ends_20 (by decide) ?_
    refine lv_iload_n hx hb dX12_ends_22 rfl (lv_at hl 1 rfl) ?_
    refine lv_imul hx hb dX12_ends_23 ?_
    refine lv_bipush (v := 100) hx hb dX12_ends_24 (by decide) ?_
    obtain ⟨g6, hf⟩ := zg_i hf
    obtain ⟨I5, eI5⟩ := zex (va_up I3 10 (upd (I3 10) (8 * p1).toNatClampNeg 100))
    replace hf := zn_s eI5 hf
    refine zast_i hx hb E.1 hP hD.D hS (aX12_11) g6 dX12_ends_26 eI5 (fun H locs hP hS => ?_)
    refine lv_aload_n hx hb dX12_ends_27 rfl (lv_at hl 0 rfl) ?_
    refine va_get (D := D) (ci := 11) (v := .ref (ad 10)) (C := RX12) (T := TX12) (N := 31) hx hb hts hinX12_ends_X12 hown E.1 hP 0 (zO.get (oX12_at)) rfl 11 (by decide) (hts (.fieldLink RX12 38 "EdgeAndSpeedModel" "steel" "[I") (by decide +kernel)) (fun _ h9 => h9) rfl dX12_ends_28 ?_
    refine lv_bipush (v := 8) hx hb dX12_ends_31 (by decide) ?_
    refine lv_iload_n hx hb dX12_ends_33 rfl (lv_at hl 1 rfl) ?_
    refine lv_imul hx hb dX12_ends_34 ?_
    refine lv_iconst (v := 1) hx hb dX12_ends_35 (by decide) ?_
    refine lv_iadd hx hb dX12_ends_36 ?_
    refine lv_bipush (v := 10) hx hb dX12_ends_37 (by decide) ?_
    obtain ⟨g8, hf⟩ := zg_i hf
    obtain ⟨I7, eI7⟩ := zex (va_up I5 10 (upd (I5 10) ((8 * p1) + 1).toNatClampNeg 10))
    replace hf := zn_s eI7 hf
    refine zast_i hx hb E.1 hP hD.D hS (aX12_11) g8 dX12_ends_39 eI7 (fun H locs hP hS => ?_)
    exact hret _ hf _ _ _ _ hP hS dX12_ends_40
theorem c_X12_ends (l : Launch) {D : va_G} {a0 : Nat → Nat} {A : Nat → Prop} {cy : Nat → ClassId} {ad : Nat → Nat} (hD : zD A 25 ad) {I : zI} {J : zJ} (p1 : Int32) {rI : zI} (hf : f_X12_ends I J p1 = some rI) : Met l yX12_ends wsX12_ends { frames := 0, cells := 0, slots := 0, locals := 0 } (zPc D a0 A cy [.ref (ad 0), .int p1] (zw 25 (kM cy ad) ad I J)) (zQv D A (zw 25 (kM cy ad) ad rI J)) 0 0 A :=
  zmet RX12 (by decide) rfl rfl (Nat.le_of_ble_eq_true rfl) (fun p e R s m below meth c Q hfr hlo ls S0 hQ => w_X12_ends hfr hlo hD p1 hf S0 (fun tI hq H locs ls pc hP hS hd => by cases hq; exact hQ H locs _ hS (fun hx hb hr hlocks hfree => W.vret hx hb hr (fun t ht hW => ⟨⟨(), rfl, trivial, zht ht hP⟩, hS.F ht⟩) hfree hd hlocks)))
theorem ddX12_ends : yX12_ends.cls = RX12 ∧ yX12_ends.cls ≠ "java/lang/invoke/MethodHandle" ∧ yX12_ends.cls ≠ "java/lang/invoke/VarHandle" ∧ (parseMethodDescriptor yX12_ends.desc).map (fun d => d.parameters.length) = some 1 := by decide +kernel

def f_X12_handsBegin (I : zI) (J : zJ) : Option zI := zg (¬ ((0 : Int32) < 0 ∨ 9 ≤ (0 : Int32).toNatClampNeg)) (zn (va_up I 12 (upd (I 12) (0 : Int32).toNatClampNeg 0)) (fun I1 => zg (¬ ((1 : Int32) < 0 ∨ 9 ≤ (1 : Int32).toNatClampNeg)) (zn (va_up I1 12 (upd (I1 12) (1 : Int32).toNatClampNeg 100)) (fun I3 => zg (¬ ((2 : Int32) < 0 ∨ 9 ≤ (2 : Int32).toNatClampNeg)) (zn (va_up I3 12 (upd (I3 12) (2 : Int32).toNatClampNeg 8)) (fun I5 => zg (¬ ((0 : Int32) < 0 ∨ 3 ≤ (0 : Int32).toNatClampNeg)) (zn (va_up I5 13 (upd (I5 13) (0 : Int32).toNatClampNeg 0)) (fun I7 => zn (va_up I7 0 (va_up (I7 0) 13 0)) (fun I9 => some I9)))))))))
theorem hinX12_handsBegin_X12 : ∀ w ∈ u_ws RX12 TX12 31, w ∈ wsX12_handsBegin := by decide +kernel
set_option maxHeartbeats 4000000 in
set_option maxRecDepth 100000 in
theorem w_X12_handsBegin {p : Program} {l : Launch} {e : Env} {R : Room} {s : State} {m : MethodId} {args : Array Value} {below : List Frame} {meth : Method} {c : Code} {Q : State → Prop} (hfr : 0 ≤ R.frames) (hlo : 0 ≤ R.locals) {D : va_G} {a0 : Nat → Nat} {A : Nat → Prop} {cy : Nat → ClassId} {ad : Nat → Nat} (hD : zD A 25 ad) {I : zI} {J : zJ}  {rI : zI} (hf : f_X12_handsBegin I J = some rI) {ls : Array Slot} (S0 : zSt p m c cX12_handsBegin 1 s args wsX12_handsBegin RX12 D a0 A cy (zw 25 (kM cy ad) ad I J) [.ref (ad 0)] ls) (hret : ∀ (tI : zI), some tI = some rI → ∀ (H : Heap) (locs : List Loc) (ls : Array Slot) (pc : Nat), va_P D vwCl (zw 25 (kM cy ad) ad tI J) H → va_S A s.heap H locs → decode cX12_handsBegin pc = .ok (.return_, 1) → W p l e R s m args below meth c H locs 0 0 Q (F0 m pc ls [])) : W p l e R s m args below meth c s.heap [] 0 0 Q (F0 m 0 ls []) := by
  obtain ⟨S, E, hP, hl⟩ := S0
  obtain ⟨hx, hb, hml, hown, hts⟩ := id S
  have hS : va_S A s.heap s.heap [] := va_S.rf
  replace hl : lv_has ls 1 [(0, .ref (ad 0))] := hl
  unfold f_X12_handsBegin at hf
  refine lv_aload_n hx hb dX12_handsBegin_0 rfl (lv_at hl 0 rfl) ?_
  refine va_get (D := D) (ci := 11) (v := .ref (ad 12)) (C := RX12) (T := TX12) (N := 31) hx hb hts hinX12_handsBegin_X12 hown E.1 hP 0 (zO.get (oX12_at)) rfl 14 (by decide) (hts (.fieldLink RX12 44 "EdgeAndSpeedModel" "hands" "[I") (by decide +kernel)) (fun _ h9 => h9) rfl dX12_handsBegin_1 ?_
  refine lv_iconst (v := 0) hx hb dX12_handsBegin_4 (by decide) ?_
  refine lv_iconst (v := 0) hx hb dX12_handsBegin_5 (by decide) ?_
  obtain ⟨g2, hf⟩ := zg_i hf
  obtain ⟨I1, eI1⟩ := zex (va_up I 12 (upd (I 12) (0 : Int32).toNatClampNeg 0))
  replace hf := zn_s eI1 hf
  refine zast_i hx hb E.1 hP hD.D hS (aX12_14) g2 dX12_handsBegin_6 eI1 (fun H locs hP hS => ?_)
  refine lv_aload_n hx hb dX12_handsBegin_7 rfl (lv_at hl 0 rfl) ?_
  refine va_get (D := D) (ci := 11) (v := .ref (ad 12)) (C := RX12) (T := TX12) (N := 31) hx hb hts hinX12_handsBegin_X12 hown E.1 hP 0 (zO.get (oX12_at)) rfl 14 (by decide) (hts (.fieldLink RX12 44 "EdgeAndSpeedModel" "hands" "[I") (by decide +kernel)) (fun _ h9 => h9) rfl dX12_handsBegin_8 ?_
  refine lv_iconst (v := 1) hx hb dX12_handsBegin_11 (by decide) ?_
  refine lv_bipush (v := 100) hx hb dX12_handsBegin_12 (by decide) ?_
  obtain ⟨g4, hf⟩ := zg_i hf
  obtain ⟨I3, eI3⟩ := zex (va_up I1 12 (upd (I1 12) (1 : Int32).toNatClampNeg 100))
  replace hf := zn_s eI3 hf
  refine zast_i hx hb E.1 hP hD.D hS (aX12_14) g4 dX12_handsBegin_14 eI3 (fun H locs hP hS => ?_)
  refine lv_aload_n hx hb dX12_handsBegin_15 rfl (lv_at hl 0 rfl) ?_
  refine va_get (D := D) (ci := 11) (v := .ref (ad 12)) (C := RX12) (T := TX12) (N := 31) hx hb hts hinX12_handsBegin_X12 hown E.1 hP 0 (zO.get (oX12_at)) rfl 14 (by decide) (hts (.fieldLink RX12 44 "EdgeAndSpeedModel" "hands" "[I") (by decide +kernel)) (fun _ h9 => h9) rfl dX12_handsBegin_16 ?_
  refine lv_iconst (v := 2) hx hb dX12_handsBegin_19 (by decide) ?_
  refine lv_bipush (v := 8) hx hb dX12_handsBegin_20 (by decide) ?_
  obtain ⟨g6, hf⟩ := zg_i hf
  obtain ⟨I5, eI5⟩ := zex (va_up I3 12 (upd (I3 12) (2 : Int32).toNatClampNeg 8))
  replace hf := zn_s eI5 hf
  refine zast_i hx hb E.1 hP hD.D hS (aX12_14) g6 dX12_handsBegin_22 eI5 (fun H locs hP hS => ?_)
  refine lv_aload_n hx hb dX12_handsBegin_23 rfl (lv_at hl 0 rfl) ?_
  refine va_get (D := D) (ci := 11) (v := .ref (ad 13)) (C := RX12) (T := TX12) (N := 31) hx hb hts hinX12_handsBegin_X12 hown E.1 hP 0 (zO.get (oX12_at)) rfl 15 (by decide) (hts (.fieldLink RX12 47 "EdgeAndSpeedModel" "logs" "[I") (by decide +kernel)) (fun _ h9 => h9) rfl dX12_handsBegin_24 ?_
  refine lv_iconst (v := 0) hx hb dX12_handsBegin_27 (by decide) ?_
  refine lv_iconst (v := 0) hx hb dX12_handsBegin_28 (by decide) ?_
  obtain ⟨g8, hf⟩ := zg_i hf
  obtain ⟨I7, eI7⟩ := zex (va_up I5 13 (upd (I5 13) (0 : Int32).toNatClampNeg 0))
  replace hf := zn_s eI7 hf
  refine zast_i hx hb E.1 hP hD.D hS (aX12_15) g8 dX12_handsBegin_29 eI7 (fun H locs hP hS => ?_)
  refine lv_aload_n hx hb dX12_handsBegin_30 rfl (lv_at hl 0 rfl) ?_
  refine lv_iconst (v := 0) hx hb dX12_handsBegin_31 (by decide) ?_
  obtain ⟨I9, eI9⟩ := zex (va_up I7 0 (va_up (I7 0) 13 0))
  replace hf := zn_s eI9 hf
  refine zput (D := D) (ci := 11) (v := .int 0) (ty := .int) (C := RX12) (T := TX12) (N := 31) hx hb hts hinX12_handsBegin_X12 tyX12 tyX12_ok nmX12 hown E.1 hP hD.D hS 0 (zO.get (oX12_at)) rfl 13 (by decide) (hts (.fieldLink RX12 95 "EdgeAndSpeedModel" "kept" "I") (by decide +kernel)) (fun _ h9 => h9) rfl (tyX12_ok 13 (by decide)) rfl rfl (Nat.le_of_ble_eq_true rfl) dX12_handsBegin_32 (zO.setI (oX12_at) rfl eI9) (fun H locs hP hS => ?_)
  exact hret _ hf _ _ _ _ hP hS dX12_handsBegin_35
theorem c_X12_handsBegin (l : Launch) {D : va_G} {a0 : Nat → Nat} {A : Nat → Prop} {cy : Nat → ClassId} {ad : Nat → Nat} (hD : zD A 25 ad) {I : zI} {J : zJ}  {rI : zI} (hf : f_X12_handsBegin I J = some rI) : Met l yX12_handsBegin wsX12_handsBegin { frames := 0, cells := 0, slots := 0, locals := 0 } (zPc D a0 A cy [.ref (ad 0)] (zw 25 (kM cy ad) ad I J)) (zQv D A (zw 25 (kM cy ad) ad rI J)) 0 0 A :=
  zmet RX12 (by decide) rfl rfl (Nat.le_of_ble_eq_true rfl) (fun p e R s m below meth c Q hfr hlo ls S0 hQ => w_X12_handsBegin hfr hlo hD  hf S0 (fun tI hq H locs ls pc hP hS hd => by cases hq; exact hQ H locs _ hS (fun hx hb hr hlocks hfree => W.vret hx hb hr (fun t ht hW => ⟨⟨(), rfl, trivial, zht ht hP⟩, hS.F ht⟩) hfree hd hlocks)))
theorem ddX12_handsBegin : yX12_handsBegin.cls = RX12 ∧ yX12_handsBegin.cls ≠ "java/lang/invoke/MethodHandle" ∧ yX12_handsBegin.cls ≠ "java/lang/invoke/VarHandle" ∧ (parseMethodDescriptor yX12_handsBegin.desc).map (fun d => d.parameters.length) = some 0 := by decide +kernel

def f_X12_in (I : zI) (J : zJ) (p1 : Int64) (p2 : Int64) (p3 : Int64) : Option Int32 := (if (lg_cmp p1 p2) < 0 then some 0 else (if 0 < (lg_cmp p1 p3) then some 0 else some 1))
set_option maxHeartbeats 4000000 in
set_option maxRecDepth 100000 in
theorem w_X12_in {p : Program} {l : Launch} {e : Env} {R : Room} {s : State} {m : MethodId} {args : Array Value} {below : List Frame} {meth : Method} {c : Code} {Q : State → Prop} (hfr : 0 ≤ R.frames) (hlo : 0 ≤ R.locals) {D : va_G} {a0 : Nat → Nat} {A : Nat → Prop} {cy : Nat → ClassId} {ad : Nat → Nat} (hD : zD A 25 ad) {I : zI} {J : zJ} (p1 : Int64) (p2 : Int64) (p3 : Int64) {rx : Int32} (hf : f_X12_in I J p1 p2 p3 = some rx) {ls : Array Slot} (S0 : zSt p m c cX12_in 6 s args wsX12_in RX12 D a0 A cy (zw 25 (kM cy ad) ad I J) [.long p1, .long p2, .long p3] ls) (hret : ∀ (tx : Int32), some tx = some rx → (tx = 0 ∨ tx = 1) → ∀ (H : Heap) (locs : List Loc) (ls : Array Slot) (pc : Nat), va_P D vwCl (zw 25 (kM cy ad) ad I J) H → va_S A s.heap H locs → decode cX12_in pc = .ok (.ireturn, 1) → W p l e R s m args below meth c H locs 0 0 Q (F0 m pc ls [.int tx])) : W p l e R s m args below meth c s.heap [] 0 0 Q (F0 m 0 ls []) := by
  obtain ⟨S, E, hP, hl⟩ := S0
  obtain ⟨hx, hb, hml, hown, hts⟩ := id S
  have hS : va_S A s.heap s.heap [] := va_S.rf
  replace hl : lv_has ls 6 [(0, .long p1), (2, .long p2), (4, .long p3)] := hl
  unfold f_X12_in at hf
  refine lv_lload_n hx hb dX12_in_0 rfl (lv_at hl 0 rfl) ?_
  refine lv_lload_n hx hb dX12_in_1 rfl (lv_at hl 1 rfl) ?_
  refine W.lcmp hx hb dX12_in_2 ?_
  refine lv_if_lt (tgt := 17) hx hb dX12_in_3 (by decide) (fun k1 => ?_) (fun k1 => ?_)
  · replace hf := zt k1 hf
    refine lv_iconst (v := 0) hx hb dX12_in_17 (by decide) ?_
    exact hret _ hf (Or.inl rfl) _ _ _ _ hP hS dX12_in_18
  · replace hf := zf k1 hf
    refine lv_lload_n hx hb dX12_in_6 rfl (lv_at hl 0 rfl) ?_
    refine lv_lload hx hb dX12_in_7 (lv_at hl 2 rfl) ?_
    refine W.lcmp hx hb dX12_in_9 ?_
    refine lv_if_gt (tgt := 17) hx hb dX12_in_10 (by decide) (fun k2 => ?_) (fun k2 => ?_)
    · replace hf := zt k2 hf
      refine lv_iconst (v := 0) hx hb dX12_in_17 (by decide) ?_
      exact hret _ hf (Or.inl rfl) _ _ _ _ hP hS dX12_in_18
    · replace hf := zf k2 hf
      refine lv_iconst (v := 1) hx hb dX12_in_13 (by decide) ?_
      refine lv_goto (tgt := 18) hx hb dX12_in_14 (by decide) ?_
      exact hret _ hf (Or.inr rfl) _ _ _ _ hP hS dX12_in_18
theorem c_X12_in (l : Launch) {D : va_G} {a0 : Nat → Nat} {A : Nat → Prop} {cy : Nat → ClassId} {ad : Nat → Nat} (hD : zD A 25 ad) {I : zI} {J : zJ} (p1 : Int64) (p2 : Int64) (p3 : Int64) {rx : Int32} (hf : f_X12_in I J p1 p2 p3 = some rx) : Met l yX12_in wsX12_in { frames := 0, cells := 0, slots := 0, locals := 0 } (zPc D a0 A cy [.long p1, .long p2, .long p3] (zw 25 (kM cy ad) ad I J)) (zQi D A rx (zw 25 (kM cy ad) ad I J)) 0 0 A :=
  zmet RX12 (by decide) rfl rfl (Nat.le_of_ble_eq_true rfl) (fun p e R s m below meth c Q hfr hlo ls S0 hQ => w_X12_in hfr hlo hD p1 p2 p3 hf S0 (fun tx hq n01 H locs ls pc hP hS hd => by cases hq; exact hQ H locs _ hS (fun hx hb hr hlocks hfree => W.zret hx hb hr (z01 n01) (fun t ht hW => ⟨⟨_, (), rfl, rfl, zht ht hP⟩, hS.F ht⟩) hfree hd hlocks)))
theorem ddX12_in : yX12_in.cls ≠ "java/lang/invoke/MethodHandle" ∧ yX12_in.cls ≠ "java/lang/invoke/VarHandle" ∧ (parseMethodDescriptor yX12_in.desc).map (fun d => d.parameters.length) = some 3 := by decide +kernel

def f_X12_write_L34 (p2 : Int64) (x7 : Int32) (I8 : zI) : Option ((Int32 × zI) ⊕ zI) := (if x7 < 0 then some (.inr I8) else zg (¬ ((I8 0 0) < 0 ∨ 500 ≤ (I8 0 0).toNatClampNeg)) (zn (va_up I8 1 (upd (I8 1) (I8 0 0).toNatClampNeg (vp_nar .byte (((p2 >>> ((8 * x7).toInt64 &&& 63)).toInt32).toInt8.toInt32)))) (fun I10 => zn (va_up I10 0 (va_up (I10 0) 0 ((I10 0 0) + 1))) (fun I12 => zn (x7 + (-1)) (fun y13 => some (.inl (y13, I12)))))))
def f_X12_write (I : zI) (J : zJ) (p1 : Int32) (p2 : Int64) : Option (Int32 × zI) := zb1 (f_X12_in I J (p1.toInt64) 1 8) (fun x1 => (if x1 = 0 then some ((-1), I) else (if ((I 0 0) + p1) ≤ 500 then zn ((p1 - 1)) (fun y5 => zb1 (zl (fun v : (Int32 × zI) => f_X12_write_L34 p2 v.1 v.2) zF (y5, I)) (fun I14 => some ((I14 0 0), I14))) else some ((-3), I))))
theorem hinX12_write_X12 : ∀ w ∈ u_ws RX12 TX12 31, w ∈ wsX12_write := by decide +kernel
set_option maxHeartbeats 4000000 in
set_option maxRecDepth 100000 in
theorem w_X12_write {p : Program} {l : Launch} {e : Env} {R : Room} {s : State} {m : MethodId} {args : Array Value} {below : List Frame} {meth : Method} {c : Code} {Q : State → Prop} (hfr : 1 ≤ R.frames) (hlo : 25 ≤ R.locals) {D : va_G} {a0 : Nat → Nat} {A : Nat → Prop} {cy : Nat → ClassId} {ad : Nat → Nat} (hD : zD A 25 ad) {I : zI} {J : zJ} (p1 : Int32) (p2 : Int64) {rx : Int32} {rI : zI} (hf : f_X12_write I J p1 p2 = some (rx, rI)) {ls : Array Slot} (S0 : zSt p m c cX12_write 5 s args wsX12_write RX12 D a0 A cy (zw 25 (kM cy ad) ad I J) [.ref (ad 0), .int p1, .long p2] ls) (hret : ∀ (tx : Int32) (tI : zI), some (tx, tI) = some (rx, rI) → ∀ (H : Heap) (locs : List Loc) (ls : Array Slot) (pc : Nat), va_P D vwCl (zw 25 (kM cy ad) ad tI J) H → va_S A s.heap H locs → decode cX12_write pc = .ok (.ireturn, 1) → W p l e R s m args below meth c H locs 0 0 Q (F0 m pc ls [.int tx])) : W p l e R s m args below meth c s.heap [] 0 0 Q (F0 m 0 ls []) := by
  obtain ⟨S, E, hP, hl⟩ := S0
  obtain ⟨hx, hb, hml, hown, hts⟩ := id S
  have hS : va_S A s.heap s.heap [] := va_S.rf
  replace hl : lv_has ls 5 [(0, .ref (ad 0)), (1, .int p1), (2, .long p2)] := hl
  unfold f_X12_write at hf
  refine lv_iload_n hx hb dX12_write_0 rfl (lv_at hl 1 rfl) ?_
  refine lv_i2l hx hb dX12_write_1 rfl ?_
  refine lv_lconst (v := 1) hx hb dX12_write_2 (by decide) ?_
  refine lv_ldc2 hx hb hown (hts (.constantLong RX12 99 8) (by decide +kernel)) dX12_write_3 ?_
  obtain ⟨x1, h2, hf⟩ := zb1_e hf
  refine zgo_i (zrunS (As := [.long (p1.toInt64), .long 1, .long 8]) (rest := []) S (c_X12_in l hD (p1.toInt64) 1 8 h2) (va_cwS 3 hts gX12_write_X12_in rfl rfl rfl ddX12_in ⟨Nat.le_trans (Nat.le_of_ble_eq_true rfl) hfr, Nat.le_trans (Nat.le_of_ble_eq_true rfl) hlo⟩) E hP hS hl.1 rfl rfl (Nat.le_of_ble_eq_true rfl) dX12_write_6) hS (fun H locs hP hS => ?_)
  refine lv_if_ne (tgt := 14) hx hb dX12_write_9 (by decide) (fun k3 => ?_) (fun k3 => ?_)
  · replace hf := zf k3 hf
    refine lv_aload_n hx hb dX12_write_14 rfl (lv_at hl 0 rfl) ?_
    refine va_get (D := D) (ci := 11) (v := .int (I 0 0)) (C := RX12) (T := TX12) (N := 31) hx hb hts hinX12_write_X12 hown E.1 hP 0 (zO.get (oX12_at)) rfl 0 (by decide) (hts (.fieldLink RX12 105 "EdgeAndSpeedModel" "length" "I") (by decide +kernel)) (fun _ h9 => h9) rfl dX12_write_15 ?_
    refine lv_iload_n hx hb dX12_write_18 rfl (lv_at hl 1 rfl) ?_
    refine lv_iadd hx hb dX12_write_19 ?_
    refine lv_sipush (v := 500) hx hb dX12_write_20 (by decide) ?_
    refine lv_icmp_le (tgt := 29) hx hb dX12_write_23 (by decide) (fun k4 => ?_) (fun k4 => ?_)
    · replace hf := zt k4 hf
      refine lv_iload_n hx hb dX12_write_29 rfl (lv_at hl 1 rfl) ?_
      refine lv_iconst (v := 1) hx hb dX12_write_30 (by decide) ?_
      refine lv_isub hx hb dX12_write_31 ?_
      refine lv_topi (fun y5 ey5 => ?_)
      replace hf := zn_s ey5 hf
      refine lv_istore (lv' := [(4, .int y5), (0, .ref (ad 0)), (1, .int p1), (2, .long p2)]) hx hb dX12_write_32 hl (by decide) rfl (fun ls hl => ?_)
      obtain ⟨zl6, hf, hzl6⟩ := zb1_i hf
      have hjl6 : ∀ (I14 : zI), I14 = zl6 → ∀ (H : Heap) (locs : List Loc) (ls : Array Slot), va_P D vwCl (zw 25 (kM cy ad) ad I14 J) H → va_S A s.heap H locs → lv_has ls 5 [(0, .ref (ad 0))] → W p l e R s m args below meth c H locs 0 0 Q (F0 m 73 ls []) := by
        intro I14 ez H locs ls hP hS hl
        have hf := hzl6 I14 ez
        refine lv_aload_n hx hb dX12_write_73 rfl (lv_at hl 0 rfl) ?_
        refine va_get (D := D) (ci := 11) (v := .int (I14 0 0)) (C := RX12) (T := TX12) (N := 31) hx hb hts hinX12_write_X12 hown E.1 hP 0 (zO.get (oX12_at)) rfl 0 (by decide) (hts (.fieldLink RX12 105 "EdgeAndSpeedModel" "length" "I") (by decide +kernel)) (fun _ h9 => h9) rfl dX12_write_74 ?_
        exact hret _ _ hf _ _ _ _ hP hS dX12_write_77
      refine zl_i (V := (Int32 × zI)) (P := fun v => ∀ (H : Heap) (locs : List Loc) (ls : Array Slot), va_P D vwCl (zw 25 (kM cy ad) ad v.2 J) H → va_S A s.heap H locs → lv_has ls 5 [(0, .ref (ad 0)), (2, .long p2), (4, .int (v.1))] → W p l e R s m args below meth c H locs 0 0 Q (F0 m 34 ls [])) ?_ _ _ hf _ _ _ hP hS (lv_sub hl [1, 3, 0] rfl)
      intro v z hf hcl6 hdl6
      obtain ⟨x7, I8⟩ := v
      intro H locs ls hP hS hl
      replace hf : f_X12_write_L34 p2 x7 I8 = some z := hf
      unfold f_X12_write_L34 at hf
      replace hP : va_P D vwCl (zw 25 (kM cy ad) ad I8 J) H := hP
      replace hl : lv_has ls 5 [(0, .ref (ad 0)), (2, .long p2), (4, .int x7)] := hl
      refine lv_iload hx hb dX12_write_34 (lv_at hl 2 rfl) ?_
      refine lv_if_lt (tgt := 73) hx hb dX12_write_36 (by decide) (fun k9 => ?_) (fun k9 => ?_)
      · replace hf := zt k9 hf
        exact hjl6 _ (hdl6 _ (Option.some.inj hf).symm) _ _ _ hP hS (lv_sub hl [0] rfl)
      · replace hf := zf k9 hf
        refine lv_aload_n hx hb dX12_write_39 rfl (lv_at hl 0 rfl) ?_
        refine va_get (D := D) (ci := 11) (v := .ref (ad 1)) (C := RX12) (T := TX12) (N := 31) hx hb hts hinX12_write_X12 hown E.1 hP 0 (zO.get (oX12_at)) rfl 1 (by decide) (hts (.fieldLink RX12 7 "EdgeAndSpeedModel" "text" "[B") (by decide +kernel)) (fun _ h9 => h9) rfl dX12_write_40 ?_
        refine lv_aload_n hx hb dX12_write_43 rfl (lv_at hl 0 rfl) ?_
        refine va_get (D := D) (ci := 11) (v := .int (I8 0 0)) (C := RX12) (T := TX12) (N := 31) hx hb hts hinX12_write_X12 hown E.1 hP 0 (zO.get (oX12_at)) rfl 0 (by decide) (hts (.fieldLink RX12 105 "EdgeAndSpeedModel" "length" "I") (by decide +kernel)) (fun _ h9 => h9) rfl dX12_write_44 ?_
        refine lv_lload_n hx hb dX12_write_47 rfl (lv_at hl 1 rfl) ?_
        refine lv_bipush (v := 8) hx hb dX12_write_48 (by decide) ?_
        refine lv_iload hx hb dX12_write_50 (lv_at hl 2 rfl) ?_
        refine lv_imul hx hb dX12_write_52 ?_
        refine lv_lshr hx hb dX12_write_53 rfl ?_
        refine lv_l2i hx hb dX12_write_54 rfl ?_
        refine lv_i2b hx hb dX12_write_55 rfl ?_
        obtain ⟨g11, hf⟩ := zg_i hf
        obtain ⟨I10, eI10⟩ := zex (va_up I8 1 (upd (I8 1) (I8 0 0).toNatClampNeg (vp_nar .byte (((p2 >>> ((8 * x7).toInt64 &&& 63)).toInt32).toInt8.toInt32))))
        replace hf := zn_s eI10 hf
        refine zast_b hx hb E.1 hP hD.D hS (aX12_1) g11 dX12_write_56 eI10 (fun H locs hP hS => ?_)
        refine lv_aload_n hx hb dX12_write_57 rfl (lv_at hl 0 rfl) ?_
        refine lv_dup hx hb dX12_write_58 rfl ?_
        refine va_get (D := D) (ci := 11) (v := .int (I10 0 0)) (C := RX12) (T := TX12) (N := 31) hx hb hts hinX12_write_X12 hown E.1 hP 0 (zO.get (oX12_at)) rfl 0 (by decide) (hts (.fieldLink RX12 105 "EdgeAndSpeedModel" "length" "I") (by decide +kernel)) (fun _ h9 => h9) rfl dX12_write_59 ?_
        refine lv_iconst (v := 1) hx hb dX12_write_62 (by decide) ?_
        refine lv_iadd hx hb dX12_write_63 ?_
        obtain ⟨I12, eI12⟩ := zex (va_up I10 0 (va_up (I10 0) 0 ((I10 0 0) + 1)))
        replace hf := zn_s eI12 hf
        refine zput (D := D) (ci := 11) (v := .int ((I10 0 0) + 1)) (ty := .int) (C := RX12) (T := TX12) (N := 31) hx hb hts hinX12_write_X12 tyX12 tyX12_ok nmX12 hown E.1 hP hD.D hS 0 (zO.get (oX12_at)) rfl 0 (by decide) (hts (.fieldLink RX12 105 "EdgeAndSpeedModel" "length" "I") (by decide +kernel)) (fun _ h9 => h9) rfl (tyX12_ok 0 (by decide)) rfl rfl (Nat.le_of_ble_eq_true rfl) dX12_write_64 (zO.setI (oX12_at) rfl eI12) (fun H locs hP hS => ?_)
        obtain ⟨y13, ey13⟩ := zex (x7 + (-1))
        replace hf := zn_s ey13 hf
        refine lv_iinc (v := y13) (lv' := [(4, .int y13), (0, .ref (ad 0)), (2, .long p2)]) hx hb dX12_write_67 hl (k := 2) rfl (by rw [ey13]; rfl) (by decide) rfl (fun ls hl => ?_)
        refine lv_goto (tgt := 34) hx hb dX12_write_70 (by decide) ?_
        exact hcl6 _ (Option.some.inj hf).symm _ _ _ hP hS (lv_sub hl [1, 2, 0] rfl)
    · replace hf := zf k4 hf
      refine lv_bipush (v := (-3)) hx hb dX12_write_26 (by decide) ?_
      exact hret _ _ hf _ _ _ _ hP hS dX12_write_28
  · replace hf := zt k3 hf
    refine lv_iconst (v := (-1)) hx hb dX12_write_12 (by decide) ?_
    exact hret _ _ hf _ _ _ _ hP hS dX12_write_13
theorem c_X12_write (l : Launch) {D : va_G} {a0 : Nat → Nat} {A : Nat → Prop} {cy : Nat → ClassId} {ad : Nat → Nat} (hD : zD A 25 ad) {I : zI} {J : zJ} (p1 : Int32) (p2 : Int64) {rx : Int32} {rI : zI} (hf : f_X12_write I J p1 p2 = some (rx, rI)) : Met l yX12_write wsX12_write { frames := 1, cells := 0, slots := 0, locals := 25 } (zPc D a0 A cy [.ref (ad 0), .int p1, .long p2] (zw 25 (kM cy ad) ad I J)) (zQi D A rx (zw 25 (kM cy ad) ad rI J)) 0 0 A :=
  zmet RX12 (by decide) rfl rfl (Nat.le_of_ble_eq_true rfl) (fun p e R s m below meth c Q hfr hlo ls S0 hQ => w_X12_write hfr hlo hD p1 p2 hf S0 (fun tx tI hq H locs ls pc hP hS hd => by cases hq; exact hQ H locs _ hS (fun hx hb hr hlocks hfree => W.iret hx hb hr (fun t ht hW => ⟨⟨_, (), rfl, rfl, zht ht hP⟩, hS.F ht⟩) hfree hd hlocks)))
theorem ddX12_write : yX12_write.cls = RX12 ∧ yX12_write.cls ≠ "java/lang/invoke/MethodHandle" ∧ yX12_write.cls ≠ "java/lang/invoke/VarHandle" ∧ (parseMethodDescriptor yX12_write.desc).map (fun d => d.parameters.length) = some 2 := by decide +kernel

def f_X12_wipe (I : zI) (J : zJ) : Option (Int32 × zI) := zn ((I 0 0)) (fun y1 => zn (va_up I 0 (va_up (I 0) 0 0)) (fun I2 => some (y1, I2)))
theorem hinX12_wipe_X12 : ∀ w ∈ u_ws RX12 TX12 31, w ∈ wsX12_wipe := by decide +kernel
set_option maxHeartbeats 4000000 in
set_option maxRecDepth 100000 in
theorem w_X12_wipe {p : Program} {l : Launch} {e : Env} {R : Room} {s : State} {m : MethodId} {args : Array Value} {below : List Frame} {meth : Method} {c : Code} {Q : State → Prop} (hfr : 0 ≤ R.frames) (hlo : 0 ≤ R.locals) {D : va_G} {a0 : Nat → Nat} {A : Nat → Prop} {cy : Nat → ClassId} {ad : Nat → Nat} (hD : zD A 25 ad) {I : zI} {J : zJ}  {rx : Int32} {rI : zI} (hf : f_X12_wipe I J = some (rx, rI)) {ls : Array Slot} (S0 : zSt p m c cX12_wipe 2 s args wsX12_wipe RX12 D a0 A cy (zw 25 (kM cy ad) ad I J) [.ref (ad 0)] ls) (hret : ∀ (tx : Int32) (tI : zI), some (tx, tI) = some (rx, rI) → ∀ (H : Heap) (locs : List Loc) (ls : Array Slot) (pc : Nat), va_P D vwCl (zw 25 (kM cy ad) ad tI J) H → va_S A s.heap H locs → decode cX12_wipe pc = .ok (.ireturn, 1) → W p l e R s m args below meth c H locs 0 0 Q (F0 m pc ls [.int tx])) : W p l e R s m args below meth c s.heap [] 0 0 Q (F0 m 0 ls []) := by
  obtain ⟨S, E, hP, hl⟩ := S0
  obtain ⟨hx, hb, hml, hown, hts⟩ := id S
  have hS : va_S A s.heap s.heap [] := va_S.rf
  replace hl : lv_has ls 2 [(0, .ref (ad 0))] := hl
  unfold f_X12_wipe at hf
  refine lv_aload_n hx hb dX12_wipe_0 rfl (lv_at hl 0 rfl) ?_
  refine va_get (D := D) (ci := 11) (v := .int (I 0 0)) (C := RX12) (T := TX12) (N := 31) hx hb hts hinX12_wipe_X12 hown E.1 hP 0 (zO.get (oX12_at)) rfl 0 (by decide) (hts (.fieldLink RX12 105 "EdgeAndSpeedModel" "length" "I") (by decide +kernel)) (fun _ h9 => h9) rfl dX12_wipe_1 ?_
  refine lv_topi (fun y1 ey1 => ?_)
  replace hf := zn_s ey1 hf
  refine lv_istore_n (lv' := [(1, .int y1), (0, .ref (ad 0))]) hx hb dX12_wipe_4 rfl hl (by decide) rfl (fun ls hl => ?_)
  refine lv_aload_n hx hb dX12_wipe_5 rfl (lv_at hl 1 rfl) ?_
  refine lv_iconst (v := 0) hx hb dX12_wipe_6 (by decide) ?_
  obtain ⟨I2, eI2⟩ := zex (va_up I 0 (va_up (I 0) 0 0))
  replace hf := zn_s eI2 hf
  refine zput (D := D) (ci := 11) (v := .int 0) (ty := .int) (C := RX12) (T := TX12) (N := 31) hx hb hts hinX12_wipe_X12 tyX12 tyX12_ok nmX12 hown E.1 hP hD.D hS 0 (zO.get (oX12_at)) rfl 0 (by decide) (hts (.fieldLink RX12 105 "EdgeAndSpeedModel" "length" "I") (by decide +kernel)) (fun _ h9 => h9) rfl (tyX12_ok 0 (by decide)) rfl rfl (Nat.le_of_ble_eq_true rfl) dX12_wipe_7 (zO.setI (oX12_at) rfl eI2) (fun H locs hP hS => ?_)
  refine lv_iload_n hx hb dX12_wipe_10 rfl (lv_at hl 0 rfl) ?_
  exact hret _ _ hf _ _ _ _ hP hS dX12_wipe_11
theorem c_X12_wipe (l : Launch) {D : va_G} {a0 : Nat → Nat} {A : Nat → Prop} {cy : Nat → ClassId} {ad : Nat → Nat} (hD : zD A 25 ad) {I : zI} {J : zJ}  {rx : Int32} {rI : zI} (hf : f_X12_wipe I J = some (rx, rI)) : Met l yX12_wipe wsX12_wipe { frames := 0, cells := 0, slots := 0, locals := 0 } (zPc D a0 A cy [.ref (ad 0)] (zw 25 (kM cy ad) ad I J)) (zQi D A rx (zw 25 (kM cy ad) ad rI J)) 0 0 A :=
  zmet RX12 (by decide) rfl rfl (Nat.le_of_ble_eq_true rfl) (fun p e R s m below meth c Q hfr hlo ls S0 hQ => w_X12_wipe hfr hlo hD  hf S0 (fun tx tI hq H locs ls pc hP hS hd => by cases hq; exact hQ H locs _ hS (fun hx hb hr hlocks hfree => W.iret hx hb hr (fun t ht hW => ⟨⟨_, (), rfl, rfl, zht ht hP⟩, hS.F ht⟩) hfree hd hlocks)))
theorem ddX12_wipe : yX12_wipe.cls = RX12 ∧ yX12_wipe.cls ≠ "java/lang/invoke/MethodHandle" ∧ yX12_wipe.cls ≠ "java/lang/invoke/VarHandle" ∧ (parseMethodDescriptor yX12_wipe.desc).map (fun d => d.parameters.length) = some 0 := by decide +kernel

def f_X12_number_L5 (J : zJ) (x2 : Int32) (x3 : Int32) (I4 : zI) : Option ((Int32 × Int32 × zI) ⊕ (Int32 × Int32 × zI)) := (if (I4 0 0) ≤ (I4 0 2) then some (.inr (x2, x3, I4)) else zg (¬ ((I4 0 2) < 0 ∨ 500 ≤ (I4 0 2).toNatClampNeg)) (zb1 (f_X12_in I4 J ((I4 1 (I4 0 2).toNatClampNeg).toInt64) 48 57) (fun x7 => (if x7 = 0 then some (.inr (x2, x3, I4)) else zb1 ((if 3 ≤ x3 then some (x2) else zg (¬ ((I4 0 2) < 0 ∨ 500 ≤ (I4 0 2).toNatClampNeg)) (some ((((10 * x2) + (I4 1 (I4 0 2).toNatClampNeg)) - 48)))) : Option Int32) (fun x14 => zn (x3 + 1) (fun y15 => zn (va_up I4 0 (va_up (I4 0) 2 ((I4 0 2) + 1))) (fun I16 => some (.inl (x14, y15, I16)))))))))
def f_X12_number (I : zI) (J : zJ) (p1 : Int32) (p2 : Int32) : Option (Int32 × zI) := zb3 (zl (fun v : (Int32 × Int32 × zI) => f_X12_number_L5 J v.1 v.2.1 v.2.2) zF (0, 0, I)) (fun x17 x18 I19 => zb1 (f_X12_in I19 J (x18.toInt64) 1 3) (fun x20 => (if x20 = 0 then some ((-1), I19) else zb1 (f_X12_in I19 J (x17.toInt64) (p1.toInt64) (p2.toInt64)) (fun x23 => (if x23 = 0 then some ((-1), I19) else some (x17, I19))))))
theorem hinX12_number_X12 : ∀ w ∈ u_ws RX12 TX12 31, w ∈ wsX12_number := by decide +kernel
set_option maxHeartbeats 4000000 in
set_option maxRecDepth 100000 in
theorem w_X12_number {p : Program} {l : Launch} {e : Env} {R : Room} {s : State} {m : MethodId} {args : Array Value} {below : List Frame} {meth : Method} {c : Code} {Q : State → Prop} (hfr : 1 ≤ R.frames) (hlo : 25 ≤ R.locals) {D : va_G} {a0 : Nat → Nat} {A : Nat → Prop} {cy : Nat → ClassId} {ad : Nat → Nat} (hD : zD A 25 ad) {I : zI} {J : zJ} (p1 : Int32) (p2 : Int32) {rx : Int32} {rI : zI} (hf : f_X12_number I J p1 p2 = some (rx, rI)) {ls : Array Slot} (S0 : zSt p m c cX12_number 5 s args wsX12_number RX12 D a0 A cy (zw 25 (kM cy ad) ad I J) [.ref (ad 0), .int p1, .int p2] ls) (hret : ∀ (tx : Int32) (tI : zI), some (tx, tI) = some (rx, rI) → ∀ (H : Heap) (locs : List Loc) (ls : Array Slot) (pc : Nat), va_P D vwCl (zw 25 (kM cy ad) ad tI J) H → va_S A s.heap H locs → decode cX12_number pc = .ok (.ireturn, 1) → W p l e R s m args below meth c H locs 0 0 Q (F0 m pc ls [.int tx])) : W p l e R s m args below meth c s.heap [] 0 0 Q (F0 m 0 ls []) := by
  obtain ⟨S, E, hP, hl⟩ := S0
  obtain ⟨hx, hb, hml, hown, hts⟩ := id S
  have hS : va_S A s.heap s.heap [] := va_S.rf
  replace hl : lv_has ls 5 [(0, .ref (ad 0)), (1, .int p1), (2, .int p2)] := hl
  unfold f_X12_number at hf
  refine lv_iconst (v := 0) hx hb dX12_number_0 (by decide) ?_
  refine lv_istore_n (lv' := [(3, .int 0), (0, .ref (ad 0)), (1, .int p1), (2, .int p2)]) hx hb dX12_number_1 rfl hl (by decide) rfl (fun ls hl => ?_)
  refine lv_iconst (v := 0) hx hb dX12_number_2 (by decide) ?_
  refine lv_istore (lv' := [(4, .int 0), (3, .int 0), (0, .ref (ad 0)), (1, .int p1), (2, .int p2)]) hx hb dX12_number_3 hl (by decide) rfl (fun ls hl => ?_)
  obtain ⟨zl1, hf, hzl1⟩ := zb3_i hf
  have hjl1 : ∀ (x17 : Int32) (x18 : Int32) (I19 : zI), (x17, x18, I19) = zl1 → ∀ (H : Heap) (locs : List Loc) (ls : Array Slot), va_P D vwCl (zw 25 (kM cy ad) ad I19 J) H → va_S A s.heap H locs → lv_has ls 5 [(1, .int p1), (2, .int p2), (3, .int x17), (4, .int x18)] → W p l e R s m args below meth c H locs 0 0 Q (F0 m 82 ls []) := by
    intro x17 x18 I19 ez H locs ls hP hS hl
    have hf := hzl1 x17 x18 I19 ez
    refine lv_iload hx hb dX12_number_82 (lv_at hl 3 rfl) ?_
    refine lv_i2l hx hb dX12_number_84 rfl ?_
    refine lv_lconst (v := 1) hx hb dX12_number_85 (by decide) ?_
    refine lv_ldc2 hx hb hown (hts (.constantLong RX12 115 3) (by decide +kernel)) dX12_number_86 ?_
    obtain ⟨x20, h21, hf⟩ := zb1_e hf
    refine zgo_i (zrunS (As := [.long (x18.toInt64), .long 1, .long 3]) (rest := []) S (c_X12_in l hD (x18.toInt64) 1 3 h21) (va_cwS 3 hts gX12_number_X12_in rfl rfl rfl ddX12_in ⟨Nat.le_trans (Nat.le_of_ble_eq_true rfl) hfr, Nat.le_trans (Nat.le_of_ble_eq_true rfl) hlo⟩) E hP hS hl.1 rfl rfl (Nat.le_of_ble_eq_true rfl) dX12_number_89) hS (fun H locs hP hS => ?_)
    refine lv_if_eq (tgt := 111) hx hb dX12_number_92 (by decide) (fun k22 => ?_) (fun k22 => ?_)
    · replace hf := zt k22 hf
      refine lv_iconst (v := (-1)) hx hb dX12_number_111 (by decide) ?_
      exact hret _ _ hf _ _ _ _ hP hS dX12_number_112
    · replace hf := zf k22 hf
      refine lv_iload_n hx hb dX12_number_95 rfl (lv_at hl 2 rfl) ?_
      refine lv_i2l hx hb dX12_number_96 rfl ?_
      refine lv_iload_n hx hb dX12_number_97 rfl (lv_at hl 0 rfl) ?_
      refine lv_i2l hx hb dX12_number_98 rfl ?_
      refine lv_iload_n hx hb dX12_number_99 rfl (lv_at hl 1 rfl) ?_
      refine lv_i2l hx hb dX12_number_100 rfl ?_
      obtain ⟨x23, h24, hf⟩ := zb1_e hf
      refine zgo_i (zrunS (As := [.long (x17.toInt64), .long (p1.toInt64), .long (p2.toInt64)]) (rest := []) S (c_X12_in l hD (x17.toInt64) (p1.toInt64) (p2.toInt64) h24) (va_cwS 3 hts gX12_number_X12_in rfl rfl rfl ddX12_in ⟨Nat.le_trans (Nat.le_of_ble_eq_true rfl) hfr, Nat.le_trans (Nat.le_of_ble_eq_true rfl) hlo⟩) E hP hS hl.1 rfl rfl (Nat.le_of_ble_eq_true rfl) dX12_number_101) hS (fun H locs hP hS => ?_)
      refine lv_if_eq (tgt := 111) hx hb dX12_number_104 (by decide) (fun k25 => ?_) (fun k25 => ?_)
      · replace hf := zt k25 hf
        refine lv_iconst (v := (-1)) hx hb dX12_number_111 (by decide) ?_
        exact hret _ _ hf _ _ _ _ hP hS dX12_number_112
      · replace hf := zf k25 hf
        refine lv_iload_n hx hb dX12_number_107 rfl (lv_at hl 2 rfl) ?_
        refine lv_goto (tgt := 112) hx hb dX12_number_108 (by decide) ?_
        exact hret _ _ hf _ _ _ _ hP hS dX12_number_112
  refine zl_i (V := (Int32 × Int32 × zI)) (P := fun v => ∀ (H : Heap) (locs : List Loc) (ls : Array Slot), va_P D vwCl (zw 25 (kM cy ad) ad v.2.2 J) H → va_S A s.heap H locs → lv_has ls 5 [(0, .ref (ad 0)), (1, .int p1), (2, .int p2), (3, .int (v.1)), (4, .int (v.2.1))] → W p l e R s m args below meth c H locs 0 0 Q (F0 m 5 ls [])) ?_ _ _ hf _ _ _ hP hS (lv_sub hl [2, 3, 4, 1, 0] rfl)
  intro v z hf hcl1 hdl1
  obtain ⟨x2, x3, I4⟩ := v
  intro H locs ls hP hS hl
  replace hf : f_X12_number_L5 J x2 x3 I4 = some z := hf
  unfold f_X12_number_L5 at hf
  replace hP : va_P D vwCl (zw 25 (kM cy ad) ad I4 J) H := hP
  replace hl : lv_has ls 5 [(0, .ref (ad 0)), (1, .int p1), (2, .int p2), (3, .int x2), (4, .int x3)] := hl
  refine lv_aload_n hx hb dX12_number_5 rfl (lv_at hl 0 rfl) ?_
  refine va_get (D := D) (ci := 11) (v := .int (I4 0 2)) (C := RX12) (T := TX12) (N := 31) hx hb hts hinX12_number_X12 hown E.1 hP 0 (zO.get (oX12_at)) rfl 2 (by decide) (hts (.fieldLink RX12 108 "EdgeAndSpeedModel" "at" "I") (by decide +kernel)) (fun _ h9 => h9) rfl dX12_number_6 ?_
  refine lv_aload_n hx hb dX12_number_9 rfl (lv_at hl 0 rfl) ?_
  refine va_get (D := D) (ci := 11) (v := .int (I4 0 0)) (C := RX12) (T := TX12) (N := 31) hx hb hts hinX12_number_X12 hown E.1 hP 0 (zO.get (oX12_at)) rfl 0 (by decide) (hts (.fieldLink RX12 105 "EdgeAndSpeedModel" "length" "I") (by decide +kernel)) (fun _ h9 => h9) rfl dX12_number_10 ?_
  refine lv_icmp_ge (tgt := 82) hx hb dX12_number_13 (by decide) (fun k5 => ?_) (fun k5 => ?_)
  · replace hf := zt k5 hf
    exact hjl1 _ _ _ (hdl1 _ (Option.some.inj hf).symm) _ _ _ hP hS (lv_sub hl [1, 2, 3, 4] rfl)
  · replace hf := zf k5 hf
    refine lv_aload_n hx hb dX12_number_16 rfl (lv_at hl 0 rfl) ?_
    refine va_get (D := D) (ci := 11) (v := .ref (ad 1)) (C := RX12) (T := TX12) (N := 31) hx hb hts hinX12_number_X12 hown E.1 hP 0 (zO.get (oX12_at)) rfl 1 (by decide) (hts (.fieldLink RX12 7 "EdgeAndSpeedModel" "text" "[B") (by decide +kernel)) (fun _ h9 => h9) rfl dX12_number_17 ?_
    refine lv_aload_n hx hb dX12_number_20 rfl (lv_at hl 0 rfl) ?_
    refine va_get (D := D) (ci := 11) (v := .int (I4 0 2)) (C := RX12) (T := TX12) (N := 31) hx hb hts hinX12_number_X12 hown E.1 hP 0 (zO.get (oX12_at)) rfl 2 (by decide) (hts (.fieldLink RX12 108 "EdgeAndSpeedModel" "at" "I") (by decide +kernel)) (fun _ h9 => h9) rfl dX12_number_21 ?_
    obtain ⟨g6, hf⟩ := zg_i hf
    refine va_bald hx hb E.1 hP 1 0 (zIA.get (aX12_1)) rfl g6 dX12_number_24 ?_
    refine lv_i2l hx hb dX12_number_25 rfl ?_
    refine lv_ldc2 hx hb hown (hts (.constantLong RX12 111 48) (by decide +kernel)) dX12_number_26 ?_
    refine lv_ldc2 hx hb hown (hts (.constantLong RX12 113 57) (by decide +kernel)) dX12_number_29 ?_
    obtain ⟨x7, h8, hf⟩ := zb1_e hf
    refine zgo_i (zrunS (As := [.long ((I4 1 (I4 0 2).toNatClampNeg).toInt64), .long 48, .long 57]) (rest := []) S (c_X12_in l hD ((I4 1 (I4 0 2).toNatClampNeg).toInt64) 48 57 h8) (va_cwS 3 hts gX12_number_X12_in rfl rfl rfl ddX12_in ⟨Nat.le_trans (Nat.le_of_ble_eq_true rfl) hfr, Nat.le_trans (Nat.le_of_ble_eq_true rfl) hlo⟩) E hP hS hl.1 rfl rfl (Nat.le_of_ble_eq_true rfl) dX12_number_32) hS (fun H locs hP hS => ?_)
    refine lv_if_eq (tgt := 82) hx hb dX12_number_35 (by decide) (fun k9 => ?_) (fun k9 => ?_)
    · replace hf := zt k9 hf
      exact hjl1 _ _ _ (hdl1 _ (Option.some.inj hf).symm) _ _ _ hP hS (lv_sub hl [1, 2, 3, 4] rfl)
    · replace hf := zf k9 hf
      refine lv_iload hx hb dX12_number_38 (lv_at hl 4 rfl) ?_
      refine lv_iconst (v := 3) hx hb dX12_number_40 (by decide) ?_
      obtain ⟨zr12, hf, hzr12⟩ := zb1_i hf
      have hjr12 : ∀ (x14 : Int32), x14 = zr12 → ∀ (H : Heap) (locs : List Loc) (ls : Array Slot), va_P D vwCl (zw 25 (kM cy ad) ad I4 J) H → va_S A s.heap H locs → lv_has ls 5 [(0, .ref (ad 0)), (1, .int p1), (2, .int p2), (4, .int x3)] → W p l e R s m args below meth c H locs 0 0 Q (F0 m 65 ls [.int x14]) := by
        intro x14 ez H locs ls hP hS hl
        have hf := hzr12 x14 ez
        refine lv_istore_n (lv' := [(3, .int x14), (0, .ref (ad 0)), (1, .int p1), (2, .int p2), (4, .int x3)]) hx hb dX12_number_65 rfl hl (by decide) rfl (fun ls hl => ?_)
        obtain ⟨y15, ey15⟩ := zex (x3 + 1)
        replace hf := zn_s ey15 hf
        refine lv_iinc (v := y15) (lv' := [(4, .int y15), (3, .int x14), (0, .ref (ad 0)), (1, .int p1), (2, .int p2)]) hx hb dX12_number_66 hl (k := 4) rfl (by rw [ey15]; rfl) (by decide) rfl (fun ls hl => ?_)
        refine lv_aload_n hx hb dX12_number_69 rfl (lv_at hl 2 rfl) ?_
        refine lv_dup hx hb dX12_number_70 rfl ?_
        refine va_get (D := D) (ci := 11) (v := .int (I4 0 2)) (C := RX12) (T := TX12) (N := 31) hx hb hts hinX12_number_X12 hown E.1 hP 0 (zO.get (oX12_at)) rfl 2 (by decide) (hts (.fieldLink RX12 108 "EdgeAndSpeedModel" "at" "I") (by decide +kernel)) (fun _ h9 => h9) rfl dX12_number_71 ?_
        refine lv_iconst (v := 1) hx hb dX12_number_74 (by decide) ?_
        refine lv_iadd hx hb dX12_number_75 ?_
        obtain ⟨I16, eI16⟩ := zex (va_up I4 0 (va_up (I4 0) 2 ((I4 0 2) + 1)))
        replace hf := zn_s eI16 hf
        refine zput (D := D) (ci := 11) (v := .int ((I4 0 2) + 1)) (ty := .int) (C := RX12) (T := TX12) (N := 31) hx hb hts hinX12_number_X12 tyX12 tyX12_ok nmX12 hown E.1 hP hD.D hS 0 (zO.get (oX12_at)) rfl 2 (by decide) (hts (.fieldLink RX12 108 "EdgeAndSpeedModel" "at" "I") (by decide +kernel)) (fun _ h9 => h9) rfl (tyX12_ok 2 (by decide)) rfl rfl (Nat.le_of_ble_eq_true rfl) dX12_number_76 (zO.setI (oX12_at) rfl eI16) (fun H locs hP hS => ?_)
        refine lv_goto (tgt := 5) hx hb dX12_number_79 (by decide) ?_
        exact hcl1 _ (Option.some.inj hf).symm _ _ _ hP hS (lv_sub hl [2, 3, 4, 1, 0] rfl)
      refine lv_icmp_ge (tgt := 64) hx hb dX12_number_41 (by decide) (fun k10 => ?_) (fun k10 => ?_)
      · replace hf := zt k10 hf
        refine lv_iload_n hx hb dX12_number_64 rfl (lv_at hl 3 rfl) ?_
        exact hjr12 _ (Option.some.inj hf) _ _ _ hP hS (lv_sub hl [0, 1, 2, 4] rfl)
      · replace hf := zf k10 hf
        refine lv_bipush (v := 10) hx hb dX12_number_44 (by decide) ?_
        refine lv_iload_n hx hb dX12_number_46 rfl (lv_at hl 3 rfl) ?_
        refine lv_imul hx hb dX12_number_47 ?_
        refine lv_aload_n hx hb dX12_number_48 rfl (lv_at hl 0 rfl) ?_
        refine va_get (D := D) (ci := 11) (v := .ref (ad 1)) (C := RX12) (T := TX12) (N := 31) hx hb hts hinX12_number_X12 hown E.1 hP 0 (zO.get (oX12_at)) rfl 1 (by decide) (hts (.fieldLink RX12 7 "EdgeAndSpeedModel" "text" "[B") (by decide +kernel)) (fun _ h9 => h9) rfl dX12_number_49 ?_
        refine lv_aload_n hx hb dX12_number_52 rfl (lv_at hl 0 rfl) ?_
        refine va_get (D := D) (ci := 11) (v := .int (I4 0 2)) (C := RX12) (T := TX12) (N := 31) hx hb hts hinX12_number_X12 hown E.1 hP 0 (zO.get (oX12_at)) rfl 2 (by decide) (hts (.fieldLink RX12 108 "EdgeAndSpeedModel" "at" "I") (by decide +kernel)) (fun _ h9 => h9) rfl dX12_number_53 ?_
        obtain ⟨g13, hf⟩ := zg_i hf
        refine va_bald hx hb E.1 hP 1 0 (zIA.get (aX12_1)) rfl g13 dX12_number_56 ?_
        refine lv_iadd hx hb dX12_number_57 ?_
        refine lv_bipush (v := 48) hx hb dX12_number_58 (by decide) ?_
        refine lv_isub hx hb dX12_number_60 ?_
        refine lv_goto (tgt := 65) hx hb dX12_number_61 (by decide) ?_
        exact hjr12 _ (Option.some.inj hf) _ _ _ hP hS (lv_sub hl [0, 1, 2, 4] rfl)
theorem c_X12_number (l : Launch) {D : va_G} {a0 : Nat → Nat} {A : Nat → Prop} {cy : Nat → ClassId} {ad : Nat → Nat} (hD : zD A 25 ad) {I : zI} {J : zJ} (p1 : Int32) (p2 : Int32) {rx : Int32} {rI : zI} (hf : f_X12_number I J p1 p2 = some (rx, rI)) : Met l yX12_number wsX12_number { frames := 1, cells := 0, slots := 0, locals := 25 } (zPc D a0 A cy [.ref (ad 0), .int p1, .int p2] (zw 25 (kM cy ad) ad I J)) (zQi D A rx (zw 25 (kM cy ad) ad rI J)) 0 0 A :=
  zmet RX12 (by decide) rfl rfl (Nat.le_of_ble_eq_true rfl) (fun p e R s m below meth c Q hfr hlo ls S0 hQ => w_X12_number hfr hlo hD p1 p2 hf S0 (fun tx tI hq H locs ls pc hP hS hd => by cases hq; exact hQ H locs _ hS (fun hx hb hr hlocks hfree => W.iret hx hb hr (fun t ht hW => ⟨⟨_, (), rfl, rfl, zht ht hP⟩, hS.F ht⟩) hfree hd hlocks)))
theorem ddX12_number : yX12_number.cls = RX12 ∧ yX12_number.cls ≠ "java/lang/invoke/MethodHandle" ∧ yX12_number.cls ≠ "java/lang/invoke/VarHandle" ∧ (parseMethodDescriptor yX12_number.desc).map (fun d => d.parameters.length) = some 2 := by decide +kernel

def f_X12_lowOf (I : zI) (J : zJ) (p1 : Int32) (p2 : Int32) : Option Int32 := (if p1 = 118 then (if p2 = 0 then some 1 else (if p1 = 112 then (if p2 < 2 then some 1 else (if p1 = 107 then some 1 else (if p1 = 116 then (if p2 = 0 then some 1 else some 0) else some 0))) else (if p1 = 107 then some 1 else (if p1 = 116 then (if p2 = 0 then some 1 else some 0) else some 0)))) else (if p1 = 112 then (if p2 < 2 then some 1 else (if p1 = 107 then some 1 else (if p1 = 116 then (if p2 = 0 then some 1 else some 0) else some 0))) else (if p1 = 107 then some 1 else (if p1 = 116 then (if p2 = 0 then some 1 else some 0) else some 0))))
set_option maxHeartbeats 4000000 in
set_option maxRecDepth 100000 in
theorem w_X12_lowOf {p : Program} {l : Launch} {e : Env} {R : Room} {s : State} {m : MethodId} {args : Array Value} {below : List Frame} {meth : Method} {c : Code} {Q : State → Prop} (hfr : 0 ≤ R.frames) (hlo : 0 ≤ R.locals) {D : va_G} {a0 : Nat → Nat} {A : Nat → Prop} {cy : Nat → ClassId} {ad : Nat → Nat} (hD : zD A 25 ad) {I : zI} {J : zJ} (p1 : Int32) (p2 : Int32) {rx : Int32} (hf : f_X12_lowOf I J p1 p2 = some rx) {ls : Array Slot} (S0 : zSt p m c cX12_lowOf 2 s args wsX12_lowOf RX12 D a0 A cy (zw 25 (kM cy ad) ad I J) [.int p1, .int p2] ls) (hret : ∀ (tx : Int32), some tx = some rx → ∀ (H : Heap) (locs : List Loc) (ls : Array Slot) (pc : Nat), va_P D vwCl (zw 25 (kM cy ad) ad I J) H → va_S A s.heap H locs → decode cX12_lowOf pc = .ok (.ireturn, 1) → W p l e R s m args below meth c H locs 0 0 Q (F0 m pc ls [.int tx])) : W p l e R s m args below meth c s.heap [] 0 0 Q (F0 m 0 ls []) := by
  obtain ⟨S, E, hP, hl⟩ := S0
  obtain ⟨hx, hb, hml, hown, hts⟩ := id S
  have hS : va_S A s.heap s.heap [] := va_S.rf
  replace hl : lv_has ls 2 [(0, .int p1), (1, .int p2)] := hl
  unfold f_X12_lowOf at hf
  refine lv_iload_n hx hb dX12_lowOf_0 rfl (lv_at hl 0 rfl) ?_
  refine lv_bipush (v := 118) hx hb dX12_lowOf_1 (by decide) ?_
  refine lv_icmp_ne (tgt := 10) hx hb dX12_lowOf_3 (by decide) (fun k1 => ?_) (fun k1 => ?_)
  · replace hf := zf k1 hf
    refine lv_iload_n hx hb dX12_lowOf_10 rfl (lv_at hl 0 rfl) ?_
    refine lv_bipush (v := 112) hx hb dX12_lowOf_11 (by decide) ?_
    refine lv_icmp_ne (tgt := 21) hx hb dX12_lowOf_13 (by decide) (fun k2 => ?_) (fun k2 => ?_)
    · replace hf := zf k2 hf
      refine lv_iload_n hx hb dX12_lowOf_21 rfl (lv_at hl 0 rfl) ?_
      refine lv_bipush (v := 107) hx hb dX12_lowOf_22 (by decide) ?_
      refine lv_icmp_eq (tgt := 37) hx hb dX12_lowOf_24 (by decide) (fun k3 => ?_) (fun k3 => ?_)
      · replace hf := zt k3 hf
        refine lv_iconst (v := 1) hx hb dX12_lowOf_37 (by decide) ?_
        refine lv_goto (tgt := 42) hx hb dX12_lowOf_38 (by decide) ?_
        exact hret _ hf _ _ _ _ hP hS dX12_lowOf_42
      · replace hf := zf k3 hf
        refine lv_iload_n hx hb dX12_lowOf_27 rfl (lv_at hl 0 rfl) ?_
        refine lv_bipush (v := 116) hx hb dX12_lowOf_28 (by decide) ?_
        refine lv_icmp_ne (tgt := 41) hx hb dX12_lowOf_30 (by decide) (fun k4 => ?_) (fun k4 => ?_)
        · replace hf := zf k4 hf
          refine lv_iconst (v := 0) hx hb dX12_lowOf_41 (by decide) ?_
          exact hret _ hf _ _ _ _ hP hS dX12_lowOf_42
        · replace hf := zt k4 hf
          refine lv_iload_n hx hb dX12_lowOf_33 rfl (lv_at hl 1 rfl) ?_
          refine lv_if_ne (tgt := 41) hx hb dX12_lowOf_34 (by decide) (fun k5 => ?_) (fun k5 => ?_)
          · replace hf := zf k5 hf
            refine lv_iconst (v := 0) hx hb dX12_lowOf_41 (by decide) ?_
            exact hret _ hf _ _ _ _ hP hS dX12_lowOf_42
          · replace hf := zt k5 hf
            refine lv_iconst (v := 1) hx hb dX12_lowOf_37 (by decide) ?_
            refine lv_goto (tgt := 42) hx hb dX12_lowOf_38 (by decide) ?_
            exact hret _ hf _ _ _ _ hP hS dX12_lowOf_42
    · replace hf := zt k2 hf
      refine lv_iload_n hx hb dX12_lowOf_16 rfl (lv_at hl 1 rfl) ?_
      refine lv_iconst (v := 2) hx hb dX12_lowOf_17 (by decide) ?_
      refine lv_icmp_lt (tgt := 37) hx hb dX12_lowOf_18 (by decide) (fun k6 => ?_) (fun k6 => ?_)
      · replace hf := zt k6 hf
        refine lv_iconst (v := 1) hx hb dX12_lowOf_37 (by decide) ?_
        refine lv_goto (tgt := 42) hx hb dX12_lowOf_38 (by decide) ?_
        exact hret _ hf _ _ _ _ hP hS dX12_lowOf_42
      · replace hf := zf k6 hf
        refine lv_iload_n hx hb dX12_lowOf_21 rfl (lv_at hl 0 rfl) ?_
        refine lv_bipush (v := 107) hx hb dX12_lowOf_22 (by decide) ?_
        refine lv_icmp_eq (tgt := 37) hx hb dX12_lowOf_24 (by decide) (fun k7 => ?_) (fun k7 => ?_)
        · replace hf := zt k7 hf
          refine lv_iconst (v := 1) hx hb dX12_lowOf_37 (by decide) ?_
          refine lv_goto (tgt := 42) hx hb dX12_lowOf_38 (by decide) ?_
          exact hret _ hf _ _ _ _ hP hS dX12_lowOf_42
        · replace hf := zf k7 hf
          refine lv_iload_n hx hb dX12_lowOf_27 rfl (lv_at hl 0 rfl) ?_
          refine lv_bipush (v := 116) hx hb dX12_lowOf_28 (by decide) ?_
          refine lv_icmp_ne (tgt := 41) hx hb dX12_lowOf_30 (by decide) (fun k8 => ?_) (fun k8 => ?_)
          · replace hf := zf k8 hf
            refine lv_iconst (v := 0) hx hb dX12_lowOf_41 (by decide) ?_
            exact hret _ hf _ _ _ _ hP hS dX12_lowOf_42
          · replace hf := zt k8 hf
            refine lv_iload_n hx hb dX12_lowOf_33 rfl (lv_at hl 1 rfl) ?_
            refine lv_if_ne (tgt := 41) hx hb dX12_lowOf_34 (by decide) (fun k9 => ?_) (fun k9 => ?_)
            · replace hf := zf k9 hf
              refine lv_iconst (v := 0) hx hb dX12_lowOf_41 (by decide) ?_
              exact hret _ hf _ _ _ _ hP hS dX12_lowOf_42
            · replace hf := zt k9 hf
              refine lv_iconst (v := 1) hx hb dX12_lowOf_37 (by decide) ?_
              refine lv_goto (tgt := 42) hx hb dX12_lowOf_38 (by decide) ?_
              exact hret _ hf _ _ _ _ hP hS dX12_lowOf_42
  · replace hf := zt k1 hf
    refine lv_iload_n hx hb dX12_lowOf_6 rfl (lv_at hl 1 rfl) ?_
    refine lv_if_eq (tgt := 37) hx hb dX12_lowOf_7 (by decide) (fun k10 => ?_) (fun k10 => ?_)
    · replace hf := zt k10 hf
      refine lv_iconst (v := 1) hx hb dX12_lowOf_37 (by decide) ?_
      refine lv_goto (tgt := 42) hx hb dX12_lowOf_38 (by decide) ?_
      exact hret _ hf _ _ _ _ hP hS dX12_lowOf_42
    · replace hf := zf k10 hf
      refine lv_iload_n hx hb dX12_lowOf_10 rfl (lv_at hl 0 rfl) ?_
      refine lv_bipush (v := 112) hx hb dX12_lowOf_11 (by decide) ?_
      refine lv_icmp_ne (tgt := 21) hx hb dX12_lowOf_13 (by decide) (fun k11 => ?_) (fun k11 => ?_)
      · replace hf := zf k11 hf
        refine lv_iload_n hx hb dX12_lowOf_21 rfl (lv_at hl 0 rfl) ?_
        refine lv_bipush (v := 107) hx hb dX12_lowOf_22 (by decide) ?_
        refine lv_icmp_eq (tgt := 37) hx hb dX12_lowOf_24 (by decide) (fun k12 => ?_) (fun k12 => ?_)
        · replace hf := zt k12 hf
          refine lv_iconst (v := 1) hx hb dX12_lowOf_37 (by decide) ?_
          refine lv_goto (tgt := 42) hx hb dX12_lowOf_38 (by decide) ?_
          exact hret _ hf _ _ _ _ hP hS dX12_lowOf_42
        · replace hf := zf k12 hf
          refine lv_iload_n hx hb dX12_lowOf_27 rfl (lv_at hl 0 rfl) ?_
          refine lv_bipush (v := 116) hx hb dX12_lowOf_28 (by decide) ?_
          refine lv_icmp_ne (tgt := 41) hx hb dX12_lowOf_30 (by decide) (fun k13 => ?_) (fun k13 => ?_)
          · replace hf := zf k13 hf
            refine lv_iconst (v := 0) hx hb dX12_lowOf_41 (by decide) ?_
            exact hret _ hf _ _ _ _ hP hS dX12_lowOf_42
          · replace hf := zt k13 hf
            refine lv_iload_n hx hb dX12_lowOf_33 rfl (lv_at hl 1 rfl) ?_
            refine lv_if_ne (tgt := 41) hx hb dX12_lowOf_34 (by decide) (fun k14 => ?_) (fun k14 => ?_)
            · replace hf := zf k14 hf
              refine lv_iconst (v := 0) hx hb dX12_lowOf_41 (by decide) ?_
              exact hret _ hf _ _ _ _ hP hS dX12_lowOf_42
            · replace hf := zt k14 hf
              refine lv_iconst (v := 1) hx hb dX12_lowOf_37 (by decide) ?_
              refine lv_goto (tgt := 42) hx hb dX12_lowOf_38 (by decide) ?_
              exact hret _ hf _ _ _ _ hP hS dX12_lowOf_42
      · replace hf := zt k11 hf
        refine lv_iload_n hx hb dX12_lowOf_16 rfl (lv_at hl 1 rfl) ?_
        refine lv_iconst (v := 2) hx hb dX12_lowOf_17 (by decide) ?_
        refine lv_icmp_lt (tgt := 37) hx hb dX12_lowOf_18 (by decide) (fun k15 => ?_) (fun k15 => ?_)
        · replace hf := zt k15 hf
          refine lv_iconst (v := 1) hx hb dX12_lowOf_37 (by decide) ?_
          refine lv_goto (tgt := 42) hx hb dX12_lowOf_38 (by decide) ?_
          exact hret _ hf _ _ _ _ hP hS dX12_lowOf_42
        · replace hf := zf k15 hf
          refine lv_iload_n hx hb dX12_lowOf_21 rfl (lv_at hl 0 rfl) ?_
          refine lv_bipush (v := 107) hx hb dX12_lowOf_22 (by decide) ?_
          refine lv_icmp_eq (tgt := 37) hx hb dX12_lowOf_24 (by decide) (fun k16 => ?_) (fun k16 => ?_)
          · replace hf := zt k16 hf
            refine lv_iconst (v := 1) hx hb dX12_lowOf_37 (by decide) ?_
            refine lv_goto (tgt := 42) hx hb dX12_lowOf_38 (by decide) ?_
            exact hret _ hf _ _ _ _ hP hS dX12_lowOf_42
          · replace hf := zf k16 hf
            refine lv_iload_n hx hb dX12_lowOf_27 rfl (lv_at hl 0 rfl) ?_
            refine lv_bipush (v := 116) hx hb dX12_lowOf_28 (by decide) ?_
            refine lv_icmp_ne (tgt := 41) hx hb dX12_lowOf_30 (by decide) (fun k17 => ?_) (fun k17 => ?_)
            · replace hf := zf k17 hf
              refine lv_iconst (v := 0) hx hb dX12_lowOf_41 (by decide) ?_
              exact hret _ hf _ _ _ _ hP hS dX12_lowOf_42
            · replace hf := zt k17 hf
              refine lv_iload_n hx hb dX12_lowOf_33 rfl (lv_at hl 1 rfl) ?_
              refine lv_if_ne (tgt := 41) hx hb dX12_lowOf_34 (by decide) (fun k18 => ?_) (fun k18 => ?_)
              · replace hf := zf k18 hf
                refine lv_iconst (v := 0) hx hb dX12_lowOf_41 (by decide) ?_
                exact hret _ hf _ _ _ _ hP hS dX12_lowOf_42
              · replace hf := zt k18 hf
                refine lv_iconst (v := 1) hx hb dX12_lowOf_37 (by decide) ?_
                refine lv_goto (tgt := 42) hx hb dX12_lowOf_38 (by decide) ?_
                exact hret _ hf _ _ _ _ hP hS dX12_lowOf_42
theorem c_X12_lowOf (l : Launch) {D : va_G} {a0 : Nat → Nat} {A : Nat → Prop} {cy : Nat → ClassId} {ad : Nat → Nat} (hD : zD A 25 ad) {I : zI} {J : zJ} (p1 : Int32) (p2 : Int32) {rx : Int32} (hf : f_X12_lowOf I J p1 p2 = some rx) : Met l yX12_lowOf wsX12_lowOf { frames := 0, cells := 0, slots := 0, locals := 0 } (zPc D a0 A cy [.int p1, .int p2] (zw 25 (kM cy ad) ad I J)) (zQi D A rx (zw 25 (kM cy ad) ad I J)) 0 0 A :=
  zmet RX12 (by decide) rfl rfl (Nat.le_of_ble_eq_true rfl) (fun p e R s m below meth c Q hfr hlo ls S0 hQ => w_X12_lowOf hfr hlo hD p1 p2 hf S0 (fun tx hq H locs ls pc hP hS hd => by cases hq; exact hQ H locs _ hS (fun hx hb hr hlocks hfree => W.iret hx hb hr (fun t ht hW => ⟨⟨_, (), rfl, rfl, zht ht hP⟩, hS.F ht⟩) hfree hd hlocks)))
theorem ddX12_lowOf : yX12_lowOf.cls ≠ "java/lang/invoke/MethodHandle" ∧ yX12_lowOf.cls ≠ "java/lang/invoke/VarHandle" ∧ (parseMethodDescriptor yX12_lowOf.desc).map (fun d => d.parameters.length) = some 2 := by decide +kernel

def f_X12_highOf (I : zI) (J : zJ) (p1 : Int32) (p2 : Int32) : Option Int32 := (if p1 = 118 then (if p2 = 0 then some 99 else some 999) else (if p1 = 112 then (if p2 = 0 then some 99 else (if p2 = 1 then some 8 else (if p2 = 2 then some 100 else some 999))) else (if p1 = 107 then (if p2 = 0 then some 8 else some 999) else (if p1 = 116 then (if p2 = 0 then some 400 else some 10) else (if p1 = 98 then some 100 else (if p1 = 99 then some 99 else some 999))))))
set_option maxHeartbeats 4000000 in
set_option maxRecDepth 100000 in
theorem w_X12_highOf {p : Program} {l : Launch} {e : Env} {R : Room} {s : State} {m : MethodId} {args : Array Value} {below : List Frame} {meth : Method} {c : Code} {Q : State → Prop} (hfr : 0 ≤ R.frames) (hlo : 0 ≤ R.locals) {D : va_G} {a0 : Nat → Nat} {A : Nat → Prop} {cy : Nat → ClassId} {ad : Nat → Nat} (hD : zD A 25 ad) {I : zI} {J : zJ} (p1 : Int32) (p2 : Int32) {rx : Int32} (hf : f_X12_highOf I J p1 p2 = some rx) {ls : Array Slot} (S0 : zSt p m c cX12_highOf 2 s args wsX12_highOf RX12 D a0 A cy (zw 25 (kM cy ad) ad I J) [.int p1, .int p2] ls) (hret : ∀ (tx : Int32), some tx = some rx → ∀ (H : Heap) (locs : List Loc) (ls : Array Slot) (pc : Nat), va_P D vwCl (zw 25 (kM cy ad) ad I J) H → va_S A s.heap H locs → decode cX12_highOf pc = .ok (.ireturn, 1) → W p l e R s m args below meth c H locs 0 0 Q (F0 m pc ls [.int tx])) : W p l e R s m args below meth c s.heap [] 0 0 Q (F0 m 0 ls []) := by
  obtain ⟨S, E, hP, hl⟩ := S0
  obtain ⟨hx, hb, hml, hown, hts⟩ := id S
  have hS : va_S A s.heap s.heap [] := va_S.rf
  replace hl : lv_has ls 2 [(0, .int p1), (1, .int p2)] := hl
  unfold f_X12_highOf at hf
  refine lv_iload_n hx hb dX12_highOf_0 rfl (lv_at hl 0 rfl) ?_
  refine lv_bipush (v := 118) hx hb dX12_highOf_1 (by decide) ?_
  refine lv_icmp_ne (tgt := 19) hx hb dX12_highOf_3 (by decide) (fun k1 => ?_) (fun k1 => ?_)
  · replace hf := zf k1 hf
    refine lv_iload_n hx hb dX12_highOf_19 rfl (lv_at hl 0 rfl) ?_
    refine lv_bipush (v := 112) hx hb dX12_highOf_20 (by decide) ?_
    refine lv_icmp_ne (tgt := 58) hx hb dX12_highOf_22 (by decide) (fun k2 => ?_) (fun k2 => ?_)
    · replace hf := zf k2 hf
      refine lv_iload_n hx hb dX12_highOf_58 rfl (lv_at hl 0 rfl) ?_
      refine lv_bipush (v := 107) hx hb dX12_highOf_59 (by decide) ?_
      refine lv_icmp_ne (tgt := 77) hx hb dX12_highOf_61 (by decide) (fun k3 => ?_) (fun k3 => ?_)
      · replace hf := zf k3 hf
        refine lv_iload_n hx hb dX12_highOf_77 rfl (lv_at hl 0 rfl) ?_
        refine lv_bipush (v := 116) hx hb dX12_highOf_78 (by decide) ?_
        refine lv_icmp_ne (tgt := 96) hx hb dX12_highOf_80 (by decide) (fun k4 => ?_) (fun k4 => ?_)
        · replace hf := zf k4 hf
          refine lv_iload_n hx hb dX12_highOf_96 rfl (lv_at hl 0 rfl) ?_
          refine lv_bipush (v := 98) hx hb dX12_highOf_97 (by decide) ?_
          refine lv_icmp_ne (tgt := 107) hx hb dX12_highOf_99 (by decide) (fun k5 => ?_) (fun k5 => ?_)
          · replace hf := zf k5 hf
            refine lv_iload_n hx hb dX12_highOf_107 rfl (lv_at hl 0 rfl) ?_
            refine lv_bipush (v := 99) hx hb dX12_highOf_108 (by decide) ?_
            refine lv_icmp_ne (tgt := 118) hx hb dX12_highOf_110 (by decide) (fun k6 => ?_) (fun k6 => ?_)
            · replace hf := zf k6 hf
              refine lv_sipush (v := 999) hx hb dX12_highOf_118 (by decide) ?_
              exact hret _ hf _ _ _ _ hP hS dX12_highOf_121
            · replace hf := zt k6 hf
              refine lv_bipush (v := 99) hx hb dX12_highOf_113 (by decide) ?_
              refine lv_goto (tgt := 121) hx hb dX12_highOf_115 (by decide) ?_
              exact hret _ hf _ _ _ _ hP hS dX12_highOf_121
          · replace hf := zt k5 hf
            refine lv_bipush (v := 100) hx hb dX12_highOf_102 (by decide) ?_
            refine lv_goto (tgt := 121) hx hb dX12_highOf_104 (by decide) ?_
            exact hret _ hf _ _ _ _ hP hS dX12_highOf_121
        · replace hf := zt k4 hf
          refine lv_iload_n hx hb dX12_highOf_83 rfl (lv_at hl 1 rfl) ?_
          refine lv_if_ne (tgt := 93) hx hb dX12_highOf_84 (by decide) (fun k7 => ?_) (fun k7 => ?_)
          · replace hf := zf k7 hf
            refine lv_bipush (v := 10) hx hb dX12_highOf_93 (by decide) ?_
            exact hret _ hf _ _ _ _ hP hS dX12_highOf_95
          · replace hf := zt k7 hf
            refine lv_sipush (v := 400) hx hb dX12_highOf_87 (by decide) ?_
            refine lv_goto (tgt := 95) hx hb dX12_highOf_90 (by decide) ?_
            exact hret _ hf _ _ _ _ hP hS dX12_highOf_95
      · replace hf := zt k3 hf
        refine lv_iload_n hx hb dX12_highOf_64 rfl (lv_at hl 1 rfl) ?_
        refine lv_if_ne (tgt := 73) hx hb dX12_highOf_65 (by decide) (fun k8 => ?_) (fun k8 => ?_)
        · replace hf := zf k8 hf
          refine lv_sipush (v := 999) hx hb dX12_highOf_73 (by decide) ?_
          exact hret _ hf _ _ _ _ hP hS dX12_highOf_76
        · replace hf := zt k8 hf
          refine lv_bipush (v := 8) hx hb dX12_highOf_68 (by decide) ?_
          refine lv_goto (tgt := 76) hx hb dX12_highOf_70 (by decide) ?_
          exact hret _ hf _ _ _ _ hP hS dX12_highOf_76
    · replace hf := zt k2 hf
      refine lv_iload_n hx hb dX12_highOf_25 rfl (lv_at hl 1 rfl) ?_
      refine lv_if_ne (tgt := 34) hx hb dX12_highOf_26 (by decide) (fun k9 => ?_) (fun k9 => ?_)
      · replace hf := zf k9 hf
        refine lv_iload_n hx hb dX12_highOf_34 rfl (lv_at hl 1 rfl) ?_
        refine lv_iconst (v := 1) hx hb dX12_highOf_35 (by decide) ?_
        refine lv_icmp_ne (tgt := 44) hx hb dX12_highOf_36 (by decide) (fun k10 => ?_) (fun k10 => ?_)
        · replace hf := zf k10 hf
          refine lv_iload_n hx hb dX12_highOf_44 rfl (lv_at hl 1 rfl) ?_
          refine lv_iconst (v := 2) hx hb dX12_highOf_45 (by decide) ?_
          refine lv_icmp_ne (tgt := 54) hx hb dX12_highOf_46 (by decide) (fun k11 => ?_) (fun k11 => ?_)
          · replace hf := zf k11 hf
            refine lv_sipush (v := 999) hx hb dX12_highOf_54 (by decide) ?_
            exact hret _ hf _ _ _ _ hP hS dX12_highOf_57
          · replace hf := zt k11 hf
            refine lv_bipush (v := 100) hx hb dX12_highOf_49 (by decide) ?_
            refine lv_goto (tgt := 57) hx hb dX12_highOf_51 (by decide) ?_
            exact hret _ hf _ _ _ _ hP hS dX12_highOf_57
        · replace hf := zt k10 hf
          refine lv_bipush (v := 8) hx hb dX12_highOf_39 (by decide) ?_
          refine lv_goto (tgt := 57) hx hb dX12_highOf_41 (by decide) ?_
          exact hret _ hf _ _ _ _ hP hS dX12_highOf_57
      · replace hf := zt k9 hf
        refine lv_bipush (v := 99) hx hb dX12_highOf_29 (by decide) ?_
        refine lv_goto (tgt := 57) hx hb dX12_highOf_31 (by decide) ?_
        exact hret _ hf _ _ _ _ hP hS dX12_highOf_57
  · replace hf := zt k1 hf
    refine lv_iload_n hx hb dX12_highOf_6 rfl (lv_at hl 1 rfl) ?_
    refine lv_if_ne (tgt := 15) hx hb dX12_highOf_7 (by decide) (fun k12 => ?_) (fun k12 => ?_)
    · replace hf := zf k12 hf
      refine lv_sipush (v := 999) hx hb dX12_highOf_15 (by decide) ?_
      exact hret _ hf _ _ _ _ hP hS dX12_highOf_18
    · replace hf := zt k12 hf
      refine lv_bipush (v := 99) hx hb dX12_highOf_10 (by decide) ?_
      refine lv_goto (tgt := 18) hx hb dX12_highOf_12 (by decide) ?_
      exact hret _ hf _ _ _ _ hP hS dX12_highOf_18
theorem c_X12_highOf (l : Launch) {D : va_G} {a0 : Nat → Nat} {A : Nat → Prop} {cy : Nat → ClassId} {ad : Nat → Nat} (hD : zD A 25 ad) {I : zI} {J : zJ} (p1 : Int32) (p2 : Int32) {rx : Int32} (hf : f_X12_highOf I J p1 p2 = some rx) : Met l yX12_highOf wsX12_highOf { frames := 0, cells := 0, slots := 0, locals := 0 } (zPc D a0 A cy [.int p1, .int p2] (zw 25 (kM cy ad) ad I J)) (zQi D A rx (zw 25 (kM cy ad) ad I J)) 0 0 A :=
  zmet RX12 (by decide) rfl rfl (Nat.le_of_ble_eq_true rfl) (fun p e R s m below meth c Q hfr hlo ls S0 hQ => w_X12_highOf hfr hlo hD p1 p2 hf S0 (fun tx hq H locs ls pc hP hS hd => by cases hq; exact hQ H locs _ hS (fun hx hb hr hlocks hfree => W.iret hx hb hr (fun t ht hW => ⟨⟨_, (), rfl, rfl, zht ht hP⟩, hS.F ht⟩) hfree hd hlocks)))
theorem ddX12_highOf : yX12_highOf.cls ≠ "java/lang/invoke/MethodHandle" ∧ yX12_highOf.cls ≠ "java/lang/invoke/VarHandle" ∧ (parseMethodDescriptor yX12_highOf.desc).map (fun d => d.parameters.length) = some 2 := by decide +kernel

def f_X12_puts_L2 (p2 : Int32) (p1 : Int32) (x2 : Int32) (I3 : zI) : Option ((Int32 × zI) ⊕ zI) := (if p2 ≤ x2 then some (.inr I3) else (if p1 = 118 then zg (¬ ((1 : Int32) < 0 ∨ 2 ≤ (1 : Int32).toNatClampNeg)) (zg (¬ (x2 < 0 ∨ 4 ≤ x2.toNatClampNeg)) (zg (¬ (((12 + (2 * (I3 3 (1 : Int32).toNatClampNeg))) + x2) < 0 ∨ 24 ≤ ((12 + (2 * (I3 3 (1 : Int32).toNatClampNeg))) + x2).toNatClampNeg)) (zn (va_up I3 4 (upd (I3 4) ((12 + (2 * (I3 3 (1 : Int32).toNatClampNeg))) + x2).toNatClampNeg (I3 2 x2.toNatClampNeg))) (fun I35 => zn (x2 + 1) (fun y37 => some (.inl (y37, I35))))))) else (if p1 = 112 then zg (¬ ((1 : Int32) < 0 ∨ 2 ≤ (1 : Int32).toNatClampNeg)) (zg (¬ (x2 < 0 ∨ 4 ≤ x2.toNatClampNeg)) (zg (¬ (((32 + (4 * (I3 5 (1 : Int32).toNatClampNeg))) + x2) < 0 ∨ 64 ≤ ((32 + (4 * (I3 5 (1 : Int32).toNatClampNeg))) + x2).toNatClampNeg)) (zn (va_up I3 6 (upd (I3 6) ((32 + (4 * (I3 5 (1 : Int32).toNatClampNeg))) + x2).toNatClampNeg (I3 2 x2.toNatClampNeg))) (fun I30 => zn (x2 + 1) (fun y32 => some (.inl (y32, I30))))))) else (if p1 = 98 then zg (¬ ((1 : Int32) < 0 ∨ 2 ≤ (1 : Int32).toNatClampNeg)) (zg (¬ (x2 < 0 ∨ 4 ≤ x2.toNatClampNeg)) (zg (¬ (((200 + (2 * (I3 7 (1 : Int32).toNatClampNeg))) + x2) < 0 ∨ 400 ≤ ((200 + (2 * (I3 7 (1 : Int32).toNatClampNeg))) + x2).toNatClampNeg)) (zn (va_up I3 8 (upd (I3 8) ((200 + (2 * (I3 7 (1 : Int32).toNatClampNeg))) + x2).toNatClampNeg (I3 2 x2.toNatClampNeg))) (fun I25 => zn (x2 + 1) (fun y27 => some (.inl (y27, I25))))))) else (if p1 = 116 then zg (¬ ((1 : Int32) < 0 ∨ 2 ≤ (1 : Int32).toNatClampNeg)) (zg (¬ (x2 < 0 ∨ 4 ≤ x2.toNatClampNeg)) (zg (¬ (((8 + (2 * (I3 9 (1 : Int32).toNatClampNeg))) + x2) < 0 ∨ 16 ≤ ((8 + (2 * (I3 9 (1 : Int32).toNatClampNeg))) + x2).toNatClampNeg)) (zn (va_up I3 10 (upd (I3 10) ((8 + (2 * (I3 9 (1 : Int32).toNatClampNeg))) + x2).toNatClampNeg (I3 2 x2.toNatClampNeg))) (fun I20 => zn (x2 + 1) (fun y22 => some (.inl (y22, I20))))))) else zb1 ((if p1 = 99 then some (0) else (if p1 = 104 then some (2) else some (3))) : Option Int32) (fun x13 => zg (¬ (x2 < 0 ∨ 4 ≤ x2.toNatClampNeg)) (zg (¬ (((5 + x13) + x2) < 0 ∨ 10 ≤ ((5 + x13) + x2).toNatClampNeg)) (zn (va_up I3 11 (upd (I3 11) ((5 + x13) + x2).toNatClampNeg (I3 2 x2.toNatClampNeg))) (fun I15 => zn (x2 + 1) (fun y17 => some (.inl (y17, I15))))))))))))
def f_X12_puts (I : zI) (J : zJ) (p1 : Int32) (p2 : Int32) : Option zI := zb1 (zl (fun v : (Int32 × zI) => f_X12_puts_L2 p2 p1 v.1 v.2) zF (0, I)) (fun I38 => zg (¬ ((1 : Int32) < 0 ∨ 2 ≤ (1 : Int32).toNatClampNeg)) (zb1 ((if p1 = 118 then some (1) else some (0)) : Option Int32) (fun x43 => zg (¬ ((1 : Int32) < 0 ∨ 2 ≤ (1 : Int32).toNatClampNeg)) (zn (va_up I38 3 (upd (I38 3) (1 : Int32).toNatClampNeg ((I38 3 (1 : Int32).toNatClampNeg) + x43))) (fun I44 => zg (¬ ((1 : Int32) < 0 ∨ 2 ≤ (1 : Int32).toNatClampNeg)) (zb1 ((if p1 = 112 then some (1) else some (0)) : Option Int32) (fun x50 => zg (¬ ((1 : Int32) < 0 ∨ 2 ≤ (1 : Int32).toNatClampNeg)) (zn (va_up I44 5 (upd (I44 5) (1 : Int32).toNatClampNeg ((I44 5 (1 : Int32).toNatClampNeg) + x50))) (fun I51 => zg (¬ ((1 : Int32) < 0 ∨ 2 ≤ (1 : Int32).toNatClampNeg)) (zb1 ((if p1 = 98 then some (1) else some (0)) : Option Int32) (fun x57 => zg (¬ ((1 : Int32) < 0 ∨ 2 ≤ (1 : Int32).toNatClampNeg)) (zn (va_up I51 7 (upd (I51 7) (1 : Int32).toNatClampNeg ((I51 7 (1 : Int32).toNatClampNeg) + x57))) (fun I58 => zg (¬ ((1 : Int32) < 0 ∨ 2 ≤ (1 : Int32).toNatClampNeg)) ((if p1 = 116 then zg (¬ ((1 : Int32) < 0 ∨ 2 ≤ (1 : Int32).toNatClampNeg)) (zn (va_up I58 9 (upd (I58 9) (1 : Int32).toNatClampNeg ((I58 9 (1 : Int32).toNatClampNeg) + 1))) (fun I64 => some I64)) else zg (¬ ((1 : Int32) < 0 ∨ 2 ≤ (1 : Int32).toNatClampNeg)) (zn (va_up I58 9 (upd (I58 9) (1 : Int32).toNatClampNeg ((I58 9 (1 : Int32).toNatClampNeg) + 0))) (fun I62 => some I62)))))))))))))))))
theorem hinX12_puts_X12 : ∀ w ∈ u_ws RX12 TX12 31, w ∈ wsX12_puts := by decide +kernel
set_option maxHeartbeats 4000000 in
set_option maxRecDepth 100000 in
theorem w_X12_puts {p : Program} {l : Launch} {e : Env} {R : Room} {s : State} {m : MethodId} {args : Array Value} {below : List Frame} {meth : Method} {c : Code} {Q : State → Prop} (hfr : 0 ≤ R.frames) (hlo : 0 ≤ R.locals) {D : va_G} {a0 : Nat → Nat} {A : Nat → Prop} {cy : Nat → ClassId} {ad : Nat → Nat} (hD : zD A 25 ad) {I : zI} {J : zJ} (p1 : Int32) (p2 : Int32) {rI : zI} (hf : f_X12_puts I J p1 p2 = some rI) {ls : Array Slot} (S0 : zSt p m c cX12_puts 4 s args wsX12_puts RX12 D a0 A cy (zw 25 (kM cy ad) ad I J) [.ref (ad 0), .int p1, .int p2] ls) (hret : ∀ (tI : zI), some tI = some rI → ∀ (H : Heap) (locs : List Loc) (ls : Array Slot) (pc : Nat), va_P D vwCl (zw 25 (kM cy ad) ad tI J) H → va_S A s.heap H locs → decode cX12_puts pc = .ok (.return_, 1) → W p l e R s m args below meth c H locs 0 0 Q (F0 m pc ls [])) : W p l e R s m args below meth c s.heap [] 0 0 Q (F0 m 0 ls []) := by
  obtain ⟨S, E, hP, hl⟩ := S0
  obtain ⟨hx, hb, hml, hown, hts⟩ := id S
  have hS : va_S A s.heap s.heap [] := va_S.rf
  replace hl : lv_has ls 4 [(0, .ref (ad 0)), (1, .int p1), (2, .int p2)] := hl
  unfold f_X12_puts at hf
  refine lv_iconst (v := 0) hx hb dX12_puts_0 (by decide) ?_
  refine lv_istore_n (lv' := [(3, .int 0), (0, .ref (ad 0)), (1, .int p1), (2, .int p2)]) hx hb dX12_puts_1 rfl hl (by decide) rfl (fun ls hl => ?_)
  obtain ⟨zl1, hf, hzl1⟩ := zb1_i hf
  have hjl1 : ∀ (I38 : zI), I38 = zl1 → ∀ (H : Heap) (locs : List Loc) (ls : Array Slot), va_P D vwCl (zw 25 (kM cy ad) ad I38 J) H → va_S A s.heap H locs → lv_has ls 4 [(0, .ref (ad 0)), (1, .int p1)] → W p l e R s m args below meth c H locs 0 0 Q (F0 m 182 ls []) := by
    intro I38 ez H locs ls hP hS hl
    have hf := hzl1 I38 ez
    refine lv_aload_n hx hb dX12_puts_182 rfl (lv_at hl 0 rfl) ?_
    refine va_get (D := D) (ci := 11) (v := .ref (ad 3)) (C := RX12) (T := TX12) (N := 31) hx hb hts hinX12_puts_X12 hown E.1 hP 0 (zO.get (oX12_at)) rfl 4 (by decide) (hts (.fieldLink RX12 17 "EdgeAndSpeedModel" "speeds" "[I") (by decide +kernel)) (fun _ h9 => h9) rfl dX12_puts_183 ?_
    refine lv_iconst (v := 1) hx hb dX12_puts_186 (by decide) ?_
    refine lv_dup2_11 hx hb dX12_puts_187 rfl rfl ?_
    obtain ⟨g39, hf⟩ := zg_i hf
    refine va_iald hx hb E.1 hP 3 1 (zIA.get (aX12_4)) rfl g39 dX12_puts_188 ?_
    refine lv_iload_n hx hb dX12_puts_189 rfl (lv_at hl 1 rfl) ?_
    refine lv_bipush (v := 118) hx hb dX12_puts_190 (by decide) ?_
    obtain ⟨zr42, hf, hzr42⟩ := zb1_i hf
    have hjr42 : ∀ (x43 : Int32), x43 = zr42 → ∀ (H : Heap) (locs : List Loc) (ls : Array Slot), va_P D vwCl (zw 25 (kM cy ad) ad I38 J) H → va_S A s.heap H locs → lv_has ls 4 [(0, .ref (ad 0)), (1, .int p1)] → W p l e R s m args below meth c H locs 0 0 Q (F0 m 200 ls [.int x43, .int (I38 3 (1 : Int32).toNatClampNeg), .int 1, .ref (ad 3)]) := by
      intro x43 ez H locs ls hP hS hl
      have hf := hzr42 x43 ez
      refine lv_iadd hx hb dX12_puts_200 ?_
      obtain ⟨g45, hf⟩ := zg_i hf
      obtain ⟨I44, eI44⟩ := zex (va_up I38 3 (upd (I38 3) (1 : Int32).toNatClampNeg ((I38 3 (1 : Int32).toNatClampNeg) + x43)))
      replace hf := zn_s eI44 hf
      refine zast_i hx hb E.1 hP hD.D hS (aX12_4) g45 dX12_puts_201 eI44 (fun H locs hP hS => ?_)
      refine lv_aload_n hx hb dX12_puts_202 rfl (lv_at hl 0 rfl) ?_
      refine va_get (D := D) (ci := 11) (v := .ref (ad 5)) (C := RX12) (T := TX12) (N := 31) hx hb hts hinX12_puts_X12 hown E.1 hP 0 (zO.get (oX12_at)) rfl 6 (by decide) (hts (.fieldLink RX12 23 "EdgeAndSpeedModel" "pieces" "[I") (by decide +kernel)) (fun _ h9 => h9) rfl dX12_puts_203 ?_
      refine lv_iconst (v := 1) hx hb dX12_puts_206 (by decide) ?_
      refine lv_dup2_11 hx hb dX12_puts_207 rfl rfl ?_
      obtain ⟨g46, hf⟩ := zg_i hf
      refine va_iald hx hb E.1 hP 5 1 (zIA.get (aX12_6)) rfl g46 dX12_puts_208 ?_
      refine lv_iload_n hx hb dX12_puts_209 rfl (lv_at hl 1 rfl) ?_
      refine lv_bipush (v := 112) hx hb dX12_puts_210 (by decide) ?_
      obtain ⟨zr49, hf, hzr49⟩ := zb1_i hf
      have hjr49 : ∀ (x50 : Int32), x50 = zr49 → ∀ (H : Heap) (locs : List Loc) (ls : Array Slot), va_P D vwCl (zw 25 (kM cy ad) ad I44 J) H → va_S A s.heap H locs → lv_has ls 4 [(0, .ref (ad 0)), (1, .int p1)] → W p l e R s m args below meth c H locs 0 0 Q (F0 m 220 ls [.int x50, .int (I44 5 (1 : Int32).toNatClampNeg), .int 1, .ref (ad 5)]) := by
        intro x50 ez H locs ls hP hS hl
        have hf := hzr49 x50 ez
        refine lv_iadd hx hb dX12_puts_220 ?_
        obtain ⟨g52, hf⟩ := zg_i hf
        obtain ⟨I51, eI51⟩ := zex (va_up I44 5 (upd (I44 5) (1 : Int32).toNatClampNeg ((I44 5 (1 : Int32).toNatClampNeg) + x50)))
        replace hf := zn_s eI51 hf
        refine zast_i hx hb E.1 hP hD.D hS (aX12_6) g52 dX12_puts_221 eI51 (fun H locs hP hS => ?_)
        refine lv_aload_n hx hb dX12_puts_222 rfl (lv_at hl 0 rfl) ?_
        refine va_get (D := D) (ci := 11) (v := .ref (ad 7)) (C := RX12) (T := TX12) (N := 31) hx hb hts hinX12_puts_X12 hown E.1 hP 0 (zO.get (oX12_at)) rfl 8 (by decide) (hts (.fieldLink RX12 29 "EdgeAndSpeedModel" "cracks" "[I") (by decide +kernel)) (fun _ h9 => h9) rfl dX12_puts_223 ?_
        refine lv_iconst (v := 1) hx hb dX12_puts_226 (by decide) ?_
        refine lv_dup2_11 hx hb dX12_puts_227 rfl rfl ?_
        obtain ⟨g53, hf⟩ := zg_i hf
        refine va_iald hx hb E.1 hP 7 1 (zIA.get (aX12_8)) rfl g53 dX12_puts_228 ?_
        refine lv_iload_n hx hb dX12_puts_229 rfl (lv_at hl 1 rfl) ?_
        refine lv_bipush (v := 98) hx hb dX12_puts_230 (by decide) ?_
        obtain ⟨zr56, hf, hzr56⟩ := zb1_i hf
        have hjr56 : ∀ (x57 : Int32), x57 = zr56 → ∀ (H : Heap) (locs : List Loc) (ls : Array Slot), va_P D vwCl (zw 25 (kM cy ad) ad I51 J) H → va_S A s.heap H locs → lv_has ls 4 [(0, .ref (ad 0)), (1, .int p1)] → W p l e R s m args below meth c H locs 0 0 Q (F0 m 240 ls [.int x57, .int (I51 7 (1 : Int32).toNatClampNeg), .int 1, .ref (ad 7)]) := by
          intro x57 ez H locs ls hP hS hl
          have hf := hzr56 x57 ez
          refine lv_iadd hx hb dX12_puts_240 ?_
          obtain ⟨g59, hf⟩ := zg_i hf
          obtain ⟨I58, eI58⟩ := zex (va_up I51 7 (upd (I51 7) (1 : Int32).toNatClampNeg ((I51 7 (1 : Int32).toNatClampNeg) + x57)))
          replace hf := zn_s eI58 hf
          refine zast_i hx hb E.1 hP hD.D hS (aX12_8) g59 dX12_puts_241 eI58 (fun H locs hP hS => ?_)
          refine lv_aload_n hx hb dX12_puts_242 rfl (lv_at hl 0 rfl) ?_
          refine va_get (D := D) (ci := 11) (v := .ref (ad 9)) (C := RX12) (T := TX12) (N := 31) hx hb hts hinX12_puts_X12 hown E.1 hP 0 (zO.get (oX12_at)) rfl 10 (by decide) (hts (.fieldLink RX12 35 "EdgeAndSpeedModel" "steels" "[I") (by decide +kernel)) (fun _ h9 => h9) rfl dX12_puts_243 ?_
          refine lv_iconst (v := 1) hx hb dX12_puts_246 (by decide) ?_
          refine lv_dup2_11 hx hb dX12_puts_247 rfl rfl ?_
          obtain ⟨g60, hf⟩ := zg_i hf
          refine va_iald hx hb E.1 hP 9 1 (zIA.get (aX12_10)) rfl g60 dX12_puts_248 ?_
          refine lv_iload_n hx hb dX12_puts_249 rfl (lv_at hl 1 rfl) ?_
          refine lv_bipush (v := 116) hx hb dX12_puts_250 (by decide) ?_
          refine lv_icmp_ne (tgt := 259) hx hb dX12_puts_252 (by decide) (fun k61 => ?_) (fun k61 => ?_)
          · replace hf := zf k61 hf
            refine lv_iconst (v := 0) hx hb dX12_puts_259 (by decide) ?_
            refine lv_iadd hx hb dX12_puts_260 ?_
            obtain ⟨g63, hf⟩ := zg_i hf
            obtain ⟨I62, eI62⟩ := zex (va_up I58 9 (upd (I58 9) (1 : Int32).toNatClampNeg ((I58 9 (1 : Int32).toNatClampNeg) + 0)))
            replace hf := zn_s eI62 hf
            refine zast_i hx hb E.1 hP hD.D hS (aX12_10) g63 dX12_puts_261 eI62 (fun H locs hP hS => ?_)
            exact hret _ hf _ _ _ _ hP hS dX12_puts_262
          · replace hf := zt k61 hf
            refine lv_iconst (v := 1) hx hb dX12_puts_255 (by decide) ?_
            refine lv_goto (tgt := 260) hx hb dX12_puts_256 (by decide) ?_
            refine lv_iadd hx hb dX12_puts_260 ?_
            obtain ⟨g65, hf⟩ := zg_i hf
            obtain ⟨I64, eI64⟩ := zex (va_up I58 9 (upd (I58 9) (1 : Int32).toNatClampNeg ((I58 9 (1 : Int32).toNatClampNeg) + 1)))
            replace hf := zn_s eI64 hf
            refine zast_i hx hb E.1 hP hD.D hS (aX12_10) g65 dX12_puts_261 eI64 (fun H locs hP hS => ?_)
            exact hret _ hf _ _ _ _ hP hS dX12_puts_262
        refine lv_icmp_ne (tgt := 239) hx hb dX12_puts_232 (by decide) (fun k54 => ?_) (fun k54 => ?_)
        · replace hf := zf k54 hf
          refine lv_iconst (v := 0) hx hb dX12_puts_239 (by decide) ?_
          exact hjr56 _ (Option.some.inj hf) _ _ _ hP hS (lv_sub hl [0, 1] rfl)
        · replace hf := zt k54 hf
          refine lv_iconst (v := 1) hx hb dX12_puts_235 (by decide) ?_
          refine lv_goto (tgt := 240) hx hb dX12_puts_236 (by decide) ?_
          exact hjr56 _ (Option.some.inj hf) _ _ _ hP hS (lv_sub hl [0, 1] rfl)
      refine lv_icmp_ne (tgt := 219) hx hb dX12_puts_212 (by decide) (fun k47 => ?_) (fun k47 => ?_)
      · replace hf := zf k47 hf
        refine lv_iconst (v := 0) hx hb dX12_puts_219 (by decide) ?_
        exact hjr49 _ (Option.some.inj hf) _ _ _ hP hS (lv_sub hl [0, 1] rfl)
      · replace hf := zt k47 hf
        refine lv_iconst (v := 1) hx hb dX12_puts_215 (by decide) ?_
        refine lv_goto (tgt := 220) hx hb dX12_puts_216 (by decide) ?_
        exact hjr49 _ (Option.some.inj hf) _ _ _ hP hS (lv_sub hl [0, 1] rfl)
    refine lv_icmp_ne (tgt := 199) hx hb dX12_puts_192 (by decide) (fun k40 => ?_) (fun k40 => ?_)
    · replace hf := zf k40 hf
      refine lv_iconst (v := 0) hx hb dX12_puts_199 (by decide) ?_
      exact hjr42 _ (Option.some.inj hf) _ _ _ hP hS (lv_sub hl [0, 1] rfl)
    · replace hf := zt k40 hf
      refine lv_iconst (v := 1) hx hb dX12_puts_195 (by decide) ?_
      refine lv_goto (tgt := 200) hx hb dX12_puts_196 (by decide) ?_
      exact hjr42 _ (Option.some.inj hf) _ _ _ hP hS (lv_sub hl [0, 1] rfl)
  refine zl_i (V := (Int32 × zI)) (P := fun v => ∀ (H : Heap) (locs : List Loc) (ls : Array Slot), va_P D vwCl (zw 25 (kM cy ad) ad v.2 J) H → va_S A s.heap H locs → lv_has ls 4 [(0, .ref (ad 0)), (1, .int p1), (2, .int p2), (3, .int (v.1))] → W p l e R s m args below meth c H locs 0 0 Q (F0 m 2 ls [])) ?_ _ _ hf _ _ _ hP hS (lv_sub hl [1, 2, 3, 0] rfl)
  intro v z hf hcl1 hdl1
  obtain ⟨x2, I3⟩ := v
  intro H locs ls hP hS hl
  replace hf : f_X12_puts_L2 p2 p1 x2 I3 = some z := hf
  unfold f_X12_puts_L2 at hf
  replace hP : va_P D vwCl (zw 25 (kM cy ad) ad I3 J) H := hP
  replace hl : lv_has ls 4 [(0, .ref (ad 0)), (1, .int p1), (2, .int p2), (3, .int x2)] := hl
  refine lv_iload_n hx hb dX12_puts_2 rfl (lv_at hl 3 rfl) ?_
  refine lv_iload_n hx hb dX12_puts_3 rfl (lv_at hl 2 rfl) ?_
  refine lv_icmp_ge (tgt := 182) hx hb dX12_puts_4 (by decide) (fun k4 => ?_) (fun k4 => ?_)
  · replace hf := zt k4 hf
    exact hjl1 _ (hdl1 _ (Option.some.inj hf).symm) _ _ _ hP hS (lv_sub hl [0, 1] rfl)
  · replace hf := zf k4 hf
    refine lv_iload_n hx hb dX12_puts_7 rfl (lv_at hl 1 rfl) ?_
    refine lv_bipush (v := 118) hx hb dX12_puts_8 (by decide) ?_
    refine lv_icmp_ne (tgt := 40) hx hb dX12_puts_10 (by decide) (fun k5 => ?_) (fun k5 => ?_)
    · replace hf := zf k5 hf
      refine lv_iload_n hx hb dX12_puts_40 rfl (lv_at hl 1 rfl) ?_
      refine lv_bipush (v := 112) hx hb dX12_puts_41 (by decide) ?_
      refine lv_icmp_ne (tgt := 73) hx hb dX12_puts_43 (by decide) (fun k6 => ?_) (fun k6 => ?_)
      · replace hf := zf k6 hf
        refine lv_iload_n hx hb dX12_puts_73 rfl (lv_at hl 1 rfl) ?_
        refine lv_bipush (v := 98) hx hb dX12_puts_74 (by decide) ?_
        refine lv_icmp_ne (tgt := 107) hx hb dX12_puts_76 (by decide) (fun k7 => ?_) (fun k7 => ?_)
        · replace hf := zf k7 hf
          refine lv_iload_n hx hb dX12_puts_107 rfl (lv_at hl 1 rfl) ?_
          refine lv_bipush (v := 116) hx hb dX12_puts_108 (by decide) ?_
          refine lv_icmp_ne (tgt := 140) hx hb dX12_puts_110 (by decide) (fun k8 => ?_) (fun k8 => ?_)
          · replace hf := zf k8 hf
            refine lv_aload_n hx hb dX12_puts_140 rfl (lv_at hl 0 rfl) ?_
            refine va_get (D := D) (ci := 11) (v := .ref (ad 11)) (C := RX12) (T := TX12) (N := 31) hx hb hts hinX12_puts_X12 hown E.1 hP 0 (zO.get (oX12_at)) rfl 12 (by decide) (hts (.fieldLink RX12 41 "EdgeAndSpeedModel" "rest" "[I") (by decide +kernel)) (fun _ h9 => h9) rfl dX12_puts_141 ?_
            refine lv_iconst (v := 5) hx hb dX12_puts_144 (by decide) ?_
            refine lv_iload_n hx hb dX12_puts_145 rfl (lv_at hl 1 rfl) ?_
            refine lv_bipush (v := 99) hx hb dX12_puts_146 (by decide) ?_
            obtain ⟨zr11, hf, hzr11⟩ := zb1_i hf
            have hjr11 : ∀ (x13 : Int32), x13 = zr11 → ∀ (H : Heap) (locs : List Loc) (ls : Array Slot), va_P D vwCl (zw 25 (kM cy ad) ad I3 J) H → va_S A s.heap H locs → lv_has ls 4 [(0, .ref (ad 0)), (1, .int p1), (2, .int p2), (3, .int x2)] → W p l e R s m args below meth c H locs 0 0 Q (F0 m 166 ls [.int x13, .int 5, .ref (ad 11)]) := by
              intro x13 ez H locs ls hP hS hl
              have hf := hzr11 x13 ez
              refine lv_iadd hx hb dX12_puts_166 ?_
              refine lv_iload_n hx hb dX12_puts_167 rfl (lv_at hl 3 rfl) ?_
              refine lv_iadd hx hb dX12_puts_168 ?_
              refine lv_aload_n hx hb dX12_puts_169 rfl (lv_at hl 0 rfl) ?_
              refine va_get (D := D) (ci := 11) (v := .ref (ad 2)) (C := RX12) (T := TX12) (N := 31) hx hb hts hinX12_puts_X12 hown E.1 hP 0 (zO.get (oX12_at)) rfl 3 (by decide) (hts (.fieldLink RX12 13 "EdgeAndSpeedModel" "got" "[I") (by decide +kernel)) (fun _ h9 => h9) rfl dX12_puts_170 ?_
              refine lv_iload_n hx hb dX12_puts_173 rfl (lv_at hl 3 rfl) ?_
              obtain ⟨g14, hf⟩ := zg_i hf
              refine va_iald hx hb E.1 hP 2 1 (zIA.get (aX12_3)) rfl g14 dX12_puts_174 ?_
              obtain ⟨g16, hf⟩ := zg_i hf
              obtain ⟨I15, eI15⟩ := zex (va_up I3 11 (upd (I3 11) ((5 + x13) + x2).toNatClampNeg (I3 2 x2.toNatClampNeg)))
              replace hf := zn_s eI15 hf
              refine zast_i hx hb E.1 hP hD.D hS (aX12_12) g16 dX12_puts_175 eI15 (fun H locs hP hS => ?_)
              obtain ⟨y17, ey17⟩ := zex (x2 + 1)
              replace hf := zn_s ey17 hf
              refine lv_iinc (v := y17) (lv' := [(3, .int y17), (0, .ref (ad 0)), (1, .int p1), (2, .int p2)]) hx hb dX12_puts_176 hl (k := 3) rfl (by rw [ey17]; rfl) (by decide) rfl (fun ls hl => ?_)
              refine lv_goto (tgt := 2) hx hb dX12_puts_179 (by decide) ?_
              exact hcl1 _ (Option.some.inj hf).symm _ _ _ hP hS (lv_sub hl [1, 2, 3, 0] rfl)
            refine lv_icmp_ne (tgt := 155) hx hb dX12_puts_148 (by decide) (fun k9 => ?_) (fun k9 => ?_)
            · replace hf := zf k9 hf
              refine lv_iload_n hx hb dX12_puts_155 rfl (lv_at hl 1 rfl) ?_
              refine lv_bipush (v := 104) hx hb dX12_puts_156 (by decide) ?_
              refine lv_icmp_ne (tgt := 165) hx hb dX12_puts_158 (by decide) (fun k12 => ?_) (fun k12 => ?_)
              · replace hf := zf k12 hf
                refine lv_iconst (v := 3) hx hb dX12_puts_165 (by decide) ?_
                exact hjr11 _ (Option.some.inj hf) _ _ _ hP hS (lv_sub hl [0, 1, 2, 3] rfl)
              · replace hf := zt k12 hf
                refine lv_iconst (v := 2) hx hb dX12_puts_161 (by decide) ?_
                refine lv_goto (tgt := 166) hx hb dX12_puts_162 (by decide) ?_
                exact hjr11 _ (Option.some.inj hf) _ _ _ hP hS (lv_sub hl [0, 1, 2, 3] rfl)
            · replace hf := zt k9 hf
              refine lv_iconst (v := 0) hx hb dX12_puts_151 (by decide) ?_
              refine lv_goto (tgt := 166) hx hb dX12_puts_152 (by decide) ?_
              exact hjr11 _ (Option.some.inj hf) _ _ _ hP hS (lv_sub hl [0, 1, 2, 3] rfl)
          · replace hf := zt k8 hf
            refine lv_aload_n hx hb dX12_puts_113 rfl (lv_at hl 0 rfl) ?_
            refine va_get (D := D) (ci := 11) (v := .ref (ad 10)) (C := RX12) (T := TX12) (N := 31) hx hb hts hinX12_puts_X12 hown E.1 hP 0 (zO.get (oX12_at)) rfl 11 (by decide) (hts (.fieldLink RX12 38 "EdgeAndSpeedModel" "steel" "[I") (by decide +kernel)) (fun _ h9 => h9) rfl dX12_puts_114 ?_
            refine lv_bipush (v := 8) hx hb dX12_puts_117 (by decide) ?_
            refine lv_iconst (v := 2) hx hb dX12_puts_119 (by decide) ?_
            refine lv_aload_n hx hb dX12_puts_120 rfl (lv_at hl 0 rfl) ?_
            refine va_get (D := D) (ci := 11) (v := .ref (ad 9)) (C := RX12) (T := TX12) (N := 31) hx hb hts hinX12_puts_X12 hown E.1 hP 0 (zO.get (oX12_at)) rfl 10 (by decide) (hts (.fieldLink RX12 35 "EdgeAndSpeedModel" "steels" "[I") (by decide +kernel)) (fun _ h9 => h9) rfl dX12_puts_121 ?_
            refine lv_iconst (v := 1) hx hb dX12_puts_124 (by decide) ?_
            obtain ⟨g18, hf⟩ := zg_i hf
            refine va_iald hx hb E.1 hP 9 1 (zIA.get (aX12_10)) rfl g18 dX12_puts_125 ?_
            refine lv_imul hx hb dX12_puts_126 ?_
            refine lv_iadd hx hb dX12_puts_127 ?_
            refine lv_iload_n hx hb dX12_puts_128 rfl (lv_at hl 3 rfl) ?_
            refine lv_iadd hx hb dX12_puts_129 ?_
            refine lv_aload_n hx hb dX12_puts_130 rfl (lv_at hl 0 rfl) ?_
            refine va_get (D := D) (ci := 11) (v := .ref (ad 2)) (C := RX12) (T := TX12) (N := 31) hx hb hts hinX12_puts_X12 hown E.1 hP 0 (zO.get (oX12_at)) rfl 3 (by decide) (hts (.fieldLink RX12 13 "EdgeAndSpeedModel" "got" "[I") (by decide +kernel)) (fun _ h9 => h9) rfl dX12_puts_131 ?_
            refine lv_iload_n hx hb dX12_puts_134 rfl (lv_at hl 3 rfl) ?_
            obtain ⟨g19, hf⟩ := zg_i hf
            refine va_iald hx hb E.1 hP 2 1 (zIA.get (aX12_3)) rfl g19 dX12_puts_135 ?_
            obtain ⟨g21, hf⟩ := zg_i hf
            obtain ⟨I20, eI20⟩ := zex (va_up I3 10 (upd (I3 10) ((8 + (2 * (I3 9 (1 : Int32).toNatClampNeg))) + x2).toNatClampNeg (I3 2 x2.toNatClampNeg)))
            replace hf := zn_s eI20 hf
            refine zast_i hx hb E.1 hP hD.D hS (aX12_11) g21 dX12_puts_136 eI20 (fun H locs hP hS => ?_)
            refine lv_goto (tgt := 176) hx hb dX12_puts_137 (by decide) ?_
            obtain ⟨y22, ey22⟩ := zex (x2 + 1)
            replace hf := zn_s ey22 hf
            refine lv_iinc (v := y22) (lv' := [(3, .int y22), (0, .ref (ad 0)), (1, .int p1), (2, .int p2)]) hx hb dX12_puts_176 hl (k := 3) rfl (by rw [ey22]; rfl) (by decide) rfl (fun ls hl => ?_)
            refine lv_goto (tgt := 2) hx hb dX12_puts_179 (by decide) ?_
            exact hcl1 _ (Option.some.inj hf).symm _ _ _ hP hS (lv_sub hl [1, 2, 3, 0] rfl)
        · replace hf := zt k7 hf
          refine lv_aload_n hx hb dX12_puts_79 rfl (lv_at hl 0 rfl) ?_
          refine va_get (D := D) (ci := 11) (v := .ref (ad 8)) (C := RX12) (T := TX12) (N := 31) hx hb hts hinX12_puts_X12 hown E.1 hP 0 (zO.get (oX12_at)) rfl 9 (by decide) (hts (.fieldLink RX12 32 "EdgeAndSpeedModel" "crack" "[I") (by decide +kernel)) (fun _ h9 => h9) rfl dX12_puts_80 ?_
          refine lv_sipush (v := 200) hx hb dX12_puts_83 (by decide) ?_
          refine lv_iconst (v := 2) hx hb dX12_puts_86 (by decide) ?_
          refine lv_aload_n hx hb dX12_puts_87 rfl (lv_at hl 0 rfl) ?_
          refine va_get (D := D) (ci := 11) (v := .ref (ad 7)) (C := RX12) (T := TX12) (N := 31) hx hb hts hinX12_puts_X12 hown E.1 hP 0 (zO.get (oX12_at)) rfl 8 (by decide) (hts (.fieldLink RX12 29 "EdgeAndSpeedModel" "cracks" "[I") (by decide +kernel)) (fun _ h9 => h9) rfl dX12_puts_88 ?_
          refine lv_iconst (v := 1) hx hb dX12_puts_91 (by decide) ?_
          obtain ⟨g23, hf⟩ := zg_i hf
          refine va_iald hx hb E.1 hP 7 1 (zIA.get (aX12_8)) rfl g23 dX12_puts_92 ?_
          refine lv_imul hx hb dX12_puts_93 ?_
          refine lv_iadd hx hb dX12_puts_94 ?_
          refine lv_iload_n hx hb dX12_puts_95 rfl (lv_at hl 3 rfl) ?_
          refine lv_iadd hx hb dX12_puts_96 ?_
          refine lv_aload_n hx hb dX12_puts_97 rfl (lv_at hl 0 rfl) ?_
          refine va_get (D := D) (ci := 11) (v := .ref (ad 2)) (C := RX12) (T := TX12) (N := 31) hx hb hts hinX12_puts_X12 hown E.1 hP 0 (zO.get (oX12_at)) rfl 3 (by decide) (hts (.fieldLink RX12 13 "EdgeAndSpeedModel" "got" "[I") (by decide +kernel)) (fun _ h9 => h9) rfl dX12_puts_98 ?_
          refine lv_iload_n hx hb dX12_puts_101 rfl (lv_at hl 3 rfl) ?_
          obtain ⟨g24, hf⟩ := zg_i hf
          refine va_iald hx hb E.1 hP 2 1 (zIA.get (aX12_3)) rfl g24 dX12_puts_102 ?_
          obtain ⟨g26, hf⟩ := zg_i hf
          obtain ⟨I25, eI25⟩ := zex (va_up I3 8 (upd (I3 8) ((200 + (2 * (I3 7 (1 : Int32).toNatClampNeg))) + x2).toNatClampNeg (I3 2 x2.toNatClampNeg)))
          replace hf := zn_s eI25 hf
          refine zast_i hx hb E.1 hP hD.D hS (aX12_9) g26 dX12_puts_103 eI25 (fun H locs hP hS => ?_)
          refine lv_goto (tgt := 176) hx hb dX12_puts_104 (by decide) ?_
          obtain ⟨y27, ey27⟩ := zex (x2 + 1)
          replace hf := zn_s ey27 hf
          refine lv_iinc (v := y27) (lv' := [(3, .int y27), (0, .ref (ad 0)), (1, .int p1), (2, .int p2)]) hx hb dX12_puts_176 hl (k := 3) rfl (by rw [ey27]; rfl) (by decide) rfl (fun ls hl => ?_)
          refine lv_goto (tgt := 2) hx hb dX12_puts_179 (by decide) ?_
          exact hcl1 _ (Option.some.inj hf).symm _ _ _ hP hS (lv_sub hl [1, 2, 3, 0] rfl)
      · replace hf := zt k6 hf
        refine lv_aload_n hx hb dX12_puts_46 rfl (lv_at hl 0 rfl) ?_
        refine va_get (D := D) (ci := 11) (v := .ref (ad 6)) (C := RX12) (T := TX12) (N := 31) hx hb hts hinX12_puts_X12 hown E.1 hP 0 (zO.get (oX12_at)) rfl 7 (by decide) (hts (.fieldLink RX12 26 "EdgeAndSpeedModel" "piece" "[I") (by decide +kernel)) (fun _ h9 => h9) rfl dX12_puts_47 ?_
        refine lv_bipush (v := 32) hx hb dX12_puts_50 (by decide) ?_
        refine lv_iconst (v := 4) hx hb dX12_puts_52 (by decide) ?_
        refine lv_aload_n hx hb dX12_puts_53 rfl (lv_at hl 0 rfl) ?_
        refine va_get (D := D) (ci := 11) (v := .ref (ad 5)) (C := RX12) (T := TX12) (N := 31) hx hb hts hinX12_puts_X12 hown E.1 hP 0 (zO.get (oX12_at)) rfl 6 (by decide) (hts (.fieldLink RX12 23 "EdgeAndSpeedModel" "pieces" "[I") (by decide +kernel)) (fun _ h9 => h9) rfl dX12_puts_54 ?_
        refine lv_iconst (v := 1) hx hb dX12_puts_57 (by decide) ?_
        obtain ⟨g28, hf⟩ := zg_i hf
        refine va_iald hx hb E.1 hP 5 1 (zIA.get (aX12_6)) rfl g28 dX12_puts_58 ?_
        refine lv_imul hx hb dX12_puts_59 ?_
        refine lv_iadd hx hb dX12_puts_60 ?_
        refine lv_iload_n hx hb dX12_puts_61 rfl (lv_at hl 3 rfl) ?_
        refine lv_iadd hx hb dX12_puts_62 ?_
        refine lv_aload_n hx hb dX12_puts_63 rfl (lv_at hl 0 rfl) ?_
        refine va_get (D := D) (ci := 11) (v := .ref (ad 2)) (C := RX12) (T := TX12) (N := 31) hx hb hts hinX12_puts_X12 hown E.1 hP 0 (zO.get (oX12_at)) rfl 3 (by decide) (hts (.fieldLink RX12 13 "EdgeAndSpeedModel" "got" "[I") (by decide +kernel)) (fun _ h9 => h9) rfl dX12_puts_64 ?_
        refine lv_iload_n hx hb dX12_puts_67 rfl (lv_at hl 3 rfl) ?_
        obtain ⟨g29, hf⟩ := zg_i hf
        refine va_iald hx hb E.1 hP 2 1 (zIA.get (aX12_3)) rfl g29 dX12_puts_68 ?_
        obtain ⟨g31, hf⟩ := zg_i hf
        obtain ⟨I30, eI30⟩ := zex (va_up I3 6 (upd (I3 6) ((32 + (4 * (I3 5 (1 : Int32).toNatClampNeg))) + x2).toNatClampNeg (I3 2 x2.toNatClampNeg)))
        replace hf := zn_s eI30 hf
        refine zast_i hx hb E.1 hP hD.D hS (aX12_7) g31 dX12_puts_69 eI30 (fun H locs hP hS => ?_)
        refine lv_goto (tgt := 176) hx hb dX12_puts_70 (by decide) ?_
        obtain ⟨y32, ey32⟩ := zex (x2 + 1)
        replace hf := zn_s ey32 hf
        refine lv_iinc (v := y32) (lv' := [(3, .int y32), (0, .ref (ad 0)), (1, .int p1), (2, .int p2)]) hx hb dX12_puts_176 hl (k := 3) rfl (by rw [ey32]; rfl) (by decide) rfl (fun ls hl => ?_)
        refine lv_goto (tgt := 2) hx hb dX12_puts_179 (by decide) ?_
        exact hcl1 _ (Option.some.inj hf).symm _ _ _ hP hS (lv_sub hl [1, 2, 3, 0] rfl)
    · replace hf := zt k5 hf
      refine lv_aload_n hx hb dX12_puts_13 rfl (lv_at hl 0 rfl) ?_
      refine va_get (D := D) (ci := 11) (v := .ref (ad 4)) (C := RX12) (T := TX12) (N := 31) hx hb hts hinX12_puts_X12 hown E.1 hP 0 (zO.get (oX12_at)) rfl 5 (by decide) (hts (.fieldLink RX12 20 "EdgeAndSpeedModel" "speed" "[I") (by decide +kernel)) (fun _ h9 => h9) rfl dX12_puts_14 ?_
      refine lv_bipush (v := 12) hx hb dX12_puts_17 (by decide) ?_
      refine lv_iconst (v := 2) hx hb dX12_puts_19 (by decide) ?_
      refine lv_aload_n hx hb dX12_puts_20 rfl (lv_at hl 0 rfl) ?_
      refine va_get (D := D) (ci := 11) (v := .ref (ad 3)) (C := RX12) (T := TX12) (N := 31) hx hb hts hinX12_puts_X12 hown E.1 hP 0 (zO.get (oX12_at)) rfl 4 (by decide) (hts (.fieldLink RX12 17 "EdgeAndSpeedModel" "speeds" "[I") (by decide +kernel)) (fun _ h9 => h9) rfl dX12_puts_21 ?_
      refine lv_iconst (v := 1) hx hb dX12_puts_24 (by decide) ?_
      obtain ⟨g33, hf⟩ := zg_i hf
      refine va_iald hx hb E.1 hP 3 1 (zIA.get (aX12_4)) rfl g33 dX12_puts_25 ?_
      refine lv_imul hx hb dX12_puts_26 ?_
      refine lv_iadd hx hb dX12_puts_27 ?_
      refine lv_iload_n hx hb dX12_puts_28 rfl (lv_at hl 3 rfl) ?_
      refine lv_iadd hx hb dX12_puts_29 ?_
      refine lv_aload_n hx hb dX12_puts_30 rfl (lv_at hl 0 rfl) ?_
      refine va_get (D := D) (ci := 11) (v := .ref (ad 2)) (C := RX12) (T := TX12) (N := 31) hx hb hts hinX12_puts_X12 hown E.1 hP 0 (zO.get (oX12_at)) rfl 3 (by decide) (hts (.fieldLink RX12 13 "EdgeAndSpeedModel" "got" "[I") (by decide +kernel)) (fun _ h9 => h9) rfl dX12_puts_31 ?_
      refine lv_iload_n hx hb dX12_puts_34 rfl (lv_at hl 3 rfl) ?_
      obtain ⟨g34, hf⟩ := zg_i hf
      refine va_iald hx hb E.1 hP 2 1 (zIA.get (aX12_3)) rfl g34 dX12_puts_35 ?_
      obtain ⟨g36, hf⟩ := zg_i hf
      obtain ⟨I35, eI35⟩ := zex (va_up I3 4 (upd (I3 4) ((12 + (2 * (I3 3 (1 : Int32).toNatClampNeg))) + x2).toNatClampNeg (I3 2 x2.toNatClampNeg)))
      replace hf := zn_s eI35 hf
      refine zast_i hx hb E.1 hP hD.D hS (aX12_5) g36 dX12_puts_36 eI35 (fun H locs hP hS => ?_)
      refine lv_goto (tgt := 176) hx hb dX12_puts_37 (by decide) ?_
      obtain ⟨y37, ey37⟩ := zex (x2 + 1)
      replace hf := zn_s ey37 hf
      refine lv_iinc (v := y37) (lv' := [(3, .int y37), (0, .ref (ad 0)), (1, .int p1), (2, .int p2)]) hx hb dX12_puts_176 hl (k := 3) rfl (by rw [ey37]; rfl) (by decide) rfl (fun ls hl => ?_)
      refine lv_goto (tgt := 2) hx hb dX12_puts_179 (by decide) ?_
      exact hcl1 _ (Option.some.inj hf).symm _ _ _ hP hS (lv_sub hl [1, 2, 3, 0] rfl)
theorem c_X12_puts (l : Launch) {D : va_G} {a0 : Nat → Nat} {A : Nat → Prop} {cy : Nat → ClassId} {ad : Nat → Nat} (hD : zD A 25 ad) {I : zI} {J : zJ} (p1 : Int32) (p2 : Int32) {rI : zI} (hf : f_X12_puts I J p1 p2 = some rI) : Met l yX12_puts wsX12_puts { frames := 0, cells := 0, slots := 0, locals := 0 } (zPc D a0 A cy [.ref (ad 0), .int p1, .int p2] (zw 25 (kM cy ad) ad I J)) (zQv D A (zw 25 (kM cy ad) ad rI J)) 0 0 A :=
  zmet RX12 (by decide) rfl rfl (Nat.le_of_ble_eq_true rfl) (fun p e R s m below meth c Q hfr hlo ls S0 hQ => w_X12_puts hfr hlo hD p1 p2 hf S0 (fun tI hq H locs ls pc hP hS hd => by cases hq; exact hQ H locs _ hS (fun hx hb hr hlocks hfree => W.vret hx hb hr (fun t ht hW => ⟨⟨(), rfl, trivial, zht ht hP⟩, hS.F ht⟩) hfree hd hlocks)))
theorem ddX12_puts : yX12_puts.cls = RX12 ∧ yX12_puts.cls ≠ "java/lang/invoke/MethodHandle" ∧ yX12_puts.cls ≠ "java/lang/invoke/VarHandle" ∧ (parseMethodDescriptor yX12_puts.desc).map (fun d => d.parameters.length) = some 2 := by decide +kernel

def f_X12_isItem_L89 (x13 : Int32) (J : zJ) (y2 : Int32) (x19 : Int32) (x20 : Int32) (I21 : zI) : Option ((Int32 × Int32 × zI) ⊕ (Int32 × zI)) := (if x13 ≤ x20 then some (.inr (x19, I21)) else (if x19 = 0 then some (.inr (x19, I21)) else zb1 ((if x20 = 0 then some (1) else (if (I21 0 0) ≤ (I21 0 2) then some (0) else zg (¬ ((I21 0 2) < 0 ∨ 500 ≤ (I21 0 2).toNatClampNeg)) ((if (I21 1 (I21 0 2).toNatClampNeg) = 44 then some (1) else some (0))))) : Option Int32) (fun x30 => zb1 ((if x20 = 0 then some (0) else some (1)) : Option Int32) (fun x34 => zn (va_up I21 0 (va_up (I21 0) 2 ((I21 0 2) + x34))) (fun I35 => zb2 ((if x30 = 0 then some (((-1), I35)) else zb1 (f_X12_lowOf I35 J y2 x20) (fun x39 => zb1 (f_X12_highOf I35 J y2 x20) (fun x41 => zb2 (f_X12_number I35 J x39 x41) (fun x43 I44 => some ((x43, I44)))))) : Option (Int32 × zI)) (fun x46 I47 => zg (¬ (x20 < 0 ∨ 4 ≤ x20.toNatClampNeg)) (zn (va_up I47 2 (upd (I47 2) x20.toNatClampNeg x46)) (fun I48 => zg (¬ (x20 < 0 ∨ 4 ≤ x20.toNatClampNeg)) ((if (I48 2 x20.toNatClampNeg) < 0 then zn (x20 + 1) (fun y52 => some (.inl (0, y52, I48))) else zn (x20 + 1) (fun y53 => some (.inl (1, y53, I48)))))))))))))
def f_X12_isItem (I : zI) (J : zJ) : Option (Int32 × zI) := zg (¬ ((I 0 2) < 0 ∨ 500 ≤ (I 0 2).toNatClampNeg)) (zn ((I 1 (I 0 2).toNatClampNeg)) (fun y2 => zn (va_up I 0 (va_up (I 0) 2 ((I 0 2) + 1))) (fun I3 => zb1 ((if y2 = 118 then some (2) else (if y2 = 98 then some (2) else (if y2 = 99 then some (2) else (if y2 = 107 then some (2) else (if y2 = 116 then some (2) else (if y2 = 112 then some (4) else (if y2 = 104 then some (1) else some (0)))))))) : Option Int32) (fun x13 => zb1 ((if x13 ≤ 0 then some (0) else some (1)) : Option Int32) (fun x17 => zb2 (zl (fun v : (Int32 × Int32 × zI) => f_X12_isItem_L89 x13 J y2 v.1 v.2.1 v.2.2) zF (x17, 0, I3)) (fun x54 I55 => zb1 ((if x54 = 0 then some (0) else (if (I55 0 0) ≤ (I55 0 2) then some (0) else zg (¬ ((I55 0 2) < 0 ∨ 500 ≤ (I55 0 2).toNatClampNeg)) ((if (I55 1 (I55 0 2).toNatClampNeg) = 59 then some (1) else some (0))))) : Option Int32) (fun x62 => (if x62 = 0 then some (0, I55) else zc0 ((if y2 = 118 then zg (¬ ((1 : Int32) < 0 ∨ 2 ≤ (1 : Int32).toNatClampNeg)) ((if (I55 3 (1 : Int32).toNatClampNeg) = 6 then some (.inr (0, I55)) else some (.inl ()))) else some (.inl ())) : Option (Unit ⊕ (Int32 × zI))) (zc0 ((if y2 = 112 then zg (¬ ((1 : Int32) < 0 ∨ 2 ≤ (1 : Int32).toNatClampNeg)) ((if (I55 5 (1 : Int32).toNatClampNeg) = 8 then some (.inr (0, I55)) else some (.inl ()))) else some (.inl ())) : Option (Unit ⊕ (Int32 × zI))) (zc0 ((if y2 = 116 then zg (¬ ((1 : Int32) < 0 ∨ 2 ≤ (1 : Int32).toNatClampNeg)) ((if (I55 9 (1 : Int32).toNatClampNeg) = 4 then some (.inr (0, I55)) else some (.inl ()))) else some (.inl ())) : Option (Unit ⊕ (Int32 × zI))) (zn (va_up I55 0 (va_up (I55 0) 2 ((I55 0 2) + 1))) (fun I79 => zb1 (f_X12_puts I79 J y2 x13) (fun I80 => some (1, I80))))))))))))))
theorem hinX12_isItem_X12 : ∀ w ∈ u_ws RX12 TX12 31, w ∈ wsX12_isItem := by decide +kernel
set_option maxHeartbeats 4000000 in
set_option maxRecDepth 100000 in
theorem w_X12_isItem {p : Program} {l : Launch} {e : Env} {R : Room} {s : State} {m : MethodId} {args : Array Value} {below : List Frame} {meth : Method} {c : Code} {Q : State → Prop} (hfr : 2 ≤ R.frames) (hlo : 49 ≤ R.locals) {D : va_G} {a0 : Nat → Nat} {A : Nat → Prop} {cy : Nat → ClassId} {ad : Nat → Nat} (hD : zD A 25 ad) {I : zI} {J : zJ}  {rx : Int32} {rI : zI} (hf : f_X12_isItem I J = some (rx, rI)) {ls : Array Slot} (S0 : zSt p m c cX12_isItem 5 s args wsX12_isItem RX12 D a0 A cy (zw 25 (kM cy ad) ad I J) [.ref (ad 0)] ls) (hret : ∀ (tx : Int32) (tI : zI), some (tx, tI) = some (rx, rI) → (tx = 0 ∨ tx = 1) → ∀ (H : Heap) (locs : List Loc) (ls : Array Slot) (pc : Nat), va_P D vwCl (zw 25 (kM cy ad) ad tI J) H → va_S A s.heap H locs → decode cX12_isItem pc = .ok (.ireturn, 1) → W p l e R s m args below meth c H locs 0 0 Q (F0 m pc ls [.int tx])) : W p l e R s m args below meth c s.heap [] 0 0 Q (F0 m 0 ls []) := by
  obtain ⟨S, E, hP, hl⟩ := S0
  obtain ⟨hx, hb, hml, hown, hts⟩ := id S
  have hS : va_S A s.heap s.heap [] := va_S.rf
  replace hl : lv_has ls 5 [(0, .ref (ad 0))] := hl
  unfold f_X12_isItem at hf
  refine lv_aload_n hx hb dX12_isItem_0 rfl (lv_at hl 0 rfl) ?_
  refine va_get (D := D) (ci := 11) (v := .ref (ad 1)) (C := RX12) (T := TX12) (N := 31) hx hb hts hinX12_isItem_X12 hown E.1 hP 0 (zO.get (oX12_at)) rfl 1 (by decide) (hts (.fieldLink RX12 7 "EdgeAndSpeedModel" "text" "[B") (by decide +kernel)) (fun _ h9 => h9) rfl dX12_isItem_1 ?_
  refine lv_aload_n hx hb dX12_isItem_4 rfl (lv_at hl 0 rfl) ?_
  refine va_get (D := D) (ci := 11) (v := .int (I 0 2)) (C := RX12) (T := TX12) (N := 31) hx hb hts hinX12_isItem_X12 hown E.1 hP 0 (zO.get (oX12_at)) rfl 2 (by decide) (hts (.fieldLink RX12 108 "EdgeAndSpeedModel" "at" "I") (by decide +kernel)) (fun _ h9 => h9) rfl dX12_isItem_5 ?_
  obtain ⟨g1, hf⟩ := zg_i hf
  refine va_bald hx hb E.1 hP 1 0 (zIA.get (aX12_1)) rfl g1 dX12_isItem_8 ?_
  refine lv_topi (fun y2 ey2 => ?_)
  replace hf := zn_s ey2 hf
  refine lv_istore_n (lv' := [(1, .int y2), (0, .ref (ad 0))]) hx hb dX12_isItem_9 rfl hl (by decide) rfl (fun ls hl => ?_)
  refine lv_aload_n hx hb dX12_isItem_10 rfl (lv_at hl 1 rfl) ?_
  refine lv_dup hx hb dX12_isItem_11 rfl ?_
  refine va_get (D := D) (ci := 11) (v := .int (I 0 2)) (C := RX12) (T := TX12) (N := 31) hx hb hts hinX12_isItem_X12 hown E.1 hP 0 (zO.get (oX12_at)) rfl 2 (by decide) (hts (.fieldLink RX12 108 "EdgeAndSpeedModel" "at" "I") (by decide +kernel)) (fun _ h9 => h9) rfl dX12_isItem_12 ?_
  refine lv_iconst (v := 1) hx hb dX12_isItem_15 (by decide) ?_
  refine lv_iadd hx hb dX12_isItem_16 ?_
  obtain ⟨I3, eI3⟩ := zex (va_up I 0 (va_up (I 0) 2 ((I 0 2) + 1)))
  replace hf := zn_s eI3 hf
  refine zput (D := D) (ci := 11) (v := .int ((I 0 2) + 1)) (ty := .int) (C := RX12) (T := TX12) (N := 31) hx hb hts hinX12_isItem_X12 tyX12 tyX12_ok nmX12 hown E.1 hP hD.D hS 0 (zO.get (oX12_at)) rfl 2 (by decide) (hts (.fieldLink RX12 108 "EdgeAndSpeedModel" "at" "I") (by decide +kernel)) (fun _ h9 => h9) rfl (tyX12_ok 2 (by decide)) rfl rfl (Nat.le_of_ble_eq_true rfl) dX12_isItem_17 (zO.setI (oX12_at) rfl eI3) (fun H locs hP hS => ?_)
  refine lv_iload_n hx hb dX12_isItem_20 rfl (lv_at hl 0 rfl) ?_
  refine lv_bipush (v := 118) hx hb dX12_isItem_21 (by decide) ?_
  obtain ⟨zr6, hf, hzr6⟩ := zb1_i hf
  have hjr6 : ∀ (x13 : Int32), x13 = zr6 → ∀ (H : Heap) (locs : List Loc) (ls : Array Slot), va_P D vwCl (zw 25 (kM cy ad) ad I3 J) H → va_S A s.heap H locs → lv_has ls 5 [(0, .ref (ad 0)), (1, .int y2)] → W p l e R s m args below meth c H locs 0 0 Q (F0 m 75 ls [.int x13]) := by
    intro x13 ez H locs ls hP hS hl
    have hf := hzr6 x13 ez
    refine lv_istore_n (lv' := [(2, .int x13), (0, .ref (ad 0)), (1, .int y2)]) hx hb dX12_isItem_75 rfl hl (by decide) rfl (fun ls hl => ?_)
    refine lv_iload_n hx hb dX12_isItem_76 rfl (lv_at hl 0 rfl) ?_
    obtain ⟨zr16, hf, hzr16⟩ := zb1_i hf
    have hjr16 : ∀ (x17 : Int32), x17 = zr16 → ∀ (H : Heap) (locs : List Loc) (ls : Array Slot), va_P D vwCl (zw 25 (kM cy ad) ad I3 J) H → va_S A s.heap H locs → lv_has ls 5 [(0, .ref (ad 0)), (1, .int y2), (2, .int x13)] → W p l e R s m args below meth c H locs 0 0 Q (F0 m 85 ls [.int x17]) := by
      intro x17 ez H locs ls hP hS hl
      have hf := hzr16 x17 ez
      refine lv_istore_n (lv' := [(3, .int x17), (0, .ref (ad 0)), (1, .int y2), (2, .int x13)]) hx hb dX12_isItem_85 rfl hl (by decide) rfl (fun ls hl => ?_)
      refine lv_iconst (v := 0) hx hb dX12_isItem_86 (by decide) ?_
      refine lv_istore (lv' := [(4, .int 0), (3, .int x17), (0, .ref (ad 0)), (1, .int y2), (2, .int x13)]) hx hb dX12_isItem_87 hl (by decide) rfl (fun ls hl => ?_)
      obtain ⟨zl18, hf, hzl18⟩ := zb2_i hf
      have hjl18 : ∀ (x54 : Int32) (I55 : zI), (x54, I55) = zl18 → ∀ (H : Heap) (locs : List Loc) (ls : Array Slot), va_P D vwCl (zw 25 (kM cy ad) ad I55 J) H → va_S A s.heap H locs → lv_has ls 5 [(0, .ref (ad 0)), (1, .int y2), (2, .int x13), (3, .int x54)] → W p l e R s m args below meth c H locs 0 0 Q (F0 m 207 ls []) := by
        intro x54 I55 ez H locs ls hP hS hl
        have hf := hzl18 x54 I55 ez
        refine lv_iload_n hx hb dX12_isItem_207 rfl (lv_at hl 3 rfl) ?_
        obtain ⟨zr58, hf, hzr58⟩ := zb1_i hf
        have hjr58 : ∀ (x62 : Int32), x62 = zr58 → ∀ (H : Heap) (locs : List Loc) (ls : Array Slot), va_P D vwCl (zw 25 (kM cy ad) ad I55 J) H → va_S A s.heap H locs → lv_has ls 5 [(0, .ref (ad 0)), (1, .int y2), (2, .int x13)] → W p l e R s m args below meth c H locs 0 0 Q (F0 m 241 ls [.int x62]) := by
          intro x62 ez H locs ls hP hS hl
          have hf := hzr58 x62 ez
          refine lv_istore_n (lv' := [(3, .int x62), (0, .ref (ad 0)), (1, .int y2), (2, .int x13)]) hx hb dX12_isItem_241 rfl hl (by decide) rfl (fun ls hl => ?_)
          refine lv_iload_n hx hb dX12_isItem_242 rfl (lv_at hl 0 rfl) ?_
          refine lv_if_eq (tgt := 296) hx hb dX12_isItem_243 (by decide) (fun k63 => ?_) (fun k63 => ?_)
          · replace hf := zt k63 hf
            refine lv_iconst (v := 0) hx hb dX12_isItem_296 (by decide) ?_
            exact hret _ _ hf (Or.inl rfl) _ _ _ _ hP hS dX12_isItem_297
          · replace hf := zf k63 hf
            refine lv_iload_n hx hb dX12_isItem_246 rfl (lv_at hl 2 rfl) ?_
            refine lv_bipush (v := 118) hx hb dX12_isItem_247 (by decide) ?_
            obtain ⟨zr66, hf, hzr66, her66⟩ := zc0_i hf
            have hjr66 : (Sum.inl ()) = zr66 → ∀ (H : Heap) (locs : List Loc) (ls : Array Slot), va_P D vwCl (zw 25 (kM cy ad) ad I55 J) H → va_S A s.heap H locs → lv_has ls 5 [(0, .ref (ad 0)), (1, .int y2), (2, .int x13)] → W p l e R s m args below meth c H locs 0 0 Q (F0 m 263 ls []) := by
              intro  ez H locs ls hP hS hl
              have hf := hzr66  ez
              refine lv_iload_n hx hb dX12_isItem_263 rfl (lv_at hl 1 rfl) ?_
              refine lv_bipush (v := 112) hx hb dX12_isItem_264 (by decide) ?_
              obtain ⟨zr71, hf, hzr71, her71⟩ := zc0_i hf
              have hjr71 : (Sum.inl ()) = zr71 → ∀ (H : Heap) (locs : List Loc) (ls : Array Slot), va_P D vwCl (zw 25 (kM cy ad) ad I55 J) H → va_S A s.heap H locs → lv_has ls 5 [(0, .ref (ad 0)), (1, .int y2), (2, .int x13)] → W p l e R s m args below meth c H locs 0 0 Q (F0 m 280 ls []) := by
                intro  ez H locs ls hP hS hl
                have hf := hzr71  ez
                refine lv_iload_n hx hb dX12_isItem_280 rfl (lv_at hl 1 rfl) ?_
                refine lv_bipush (v := 116) hx hb dX12_isItem_281 (by decide) ?_
                obtain ⟨zr76, hf, hzr76, her76⟩ := zc0_i hf
                have hjr76 : (Sum.inl ()) = zr76 → ∀ (H : Heap) (locs : List Loc) (ls : Array Slot), va_P D vwCl (zw 25 (kM cy ad) ad I55 J) H → va_S A s.heap H locs → lv_has ls 5 [(0, .ref (ad 0)), (1, .int y2), (2, .int x13)] → W p l e R s m args below meth c H locs 0 0 Q (F0 m 298 ls []) := by
                  intro  ez H locs ls hP hS hl
                  have hf := hzr76  ez
                  refine lv_aload_n hx hb dX12_isItem_298 rfl (lv_at hl 0 rfl) ?_
                  refine lv_dup hx hb dX12_isItem_299 rfl ?_
                  refine va_get (D := D) (ci := 11) (v := .int (I55 0 2)) (C := RX12) (T := TX12) (N := 31) hx hb hts hinX12_isItem_X12 hown E.1 hP 0 (zO.get (oX12_at)) rfl 2 (by decide) (hts (.fieldLink RX12 108 "EdgeAndSpeedModel" "at" "I") (by decide +kernel)) (fun _ h9 => h9) rfl dX12_isItem_300 ?_
                  refine lv_iconst (v := 1) hx hb dX12_isItem_303 (by decide) ?_
                  refine lv_iadd hx hb dX12_isItem_304 ?_
                  obtain ⟨I79, eI79⟩ := zex (va_up I55 0 (va_up (I55 0) 2 ((I55 0 2) + 1)))
                  replace hf := zn_s eI79 hf
                  refine zput (D := D) (ci := 11) (v := .int ((I55 0 2) + 1)) (ty := .int) (C := RX12) (T := TX12) (N := 31) hx hb hts hinX12_isItem_X12 tyX12 tyX12_ok nmX12 hown E.1 hP hD.D hS 0 (zO.get (oX12_at)) rfl 2 (by decide) (hts (.fieldLink RX12 108 "EdgeAndSpeedModel" "at" "I") (by decide +kernel)) (fun _ h9 => h9) rfl (tyX12_ok 2 (by decide)) rfl rfl (Nat.le_of_ble_eq_true rfl) dX12_isItem_305 (zO.setI (oX12_at) rfl eI79) (fun H locs hP hS => ?_)
                  refine lv_aload_n hx hb dX12_isItem_308 rfl (lv_at hl 0 rfl) ?_
                  refine lv_iload_n hx hb dX12_isItem_309 rfl (lv_at hl 1 rfl) ?_
                  refine lv_iload_n hx hb dX12_isItem_310 rfl (lv_at hl 2 rfl) ?_
                  obtain ⟨I80, h81, hf⟩ := zb1_e hf
                  refine zgo_v (zrunV (As := [.int y2, .int x13]) (rest := []) S (c_X12_puts l hD y2 x13 h81) (cwV 2 hts gX12_isItem_X12_puts rfl rfl rfl ddX12_puts ⟨Nat.le_trans (Nat.le_of_ble_eq_true rfl) hfr, Nat.le_trans (Nat.le_of_ble_eq_true rfl) hlo⟩) (va_recv E.1 hP (q := (RX12, TX12, 31)) (ci := 11) rfl (zO.get (oX12_at))) E hP hS hl.1 rfl rfl (Nat.le_of_ble_eq_true rfl) dX12_isItem_311) hS (fun H locs hP hS => ?_)
                  refine lv_iconst (v := 1) hx hb dX12_isItem_314 (by decide) ?_
                  exact hret _ _ hf (Or.inr rfl) _ _ _ _ hP hS dX12_isItem_315
                refine lv_icmp_ne (tgt := 298) hx hb dX12_isItem_283 (by decide) (fun k74 => ?_) (fun k74 => ?_)
                · replace hf := zf k74 hf
                  exact hjr76 (Option.some.inj hf) _ _ _ hP hS (lv_sub hl [0, 1, 2] rfl)
                · replace hf := zt k74 hf
                  refine lv_aload_n hx hb dX12_isItem_286 rfl (lv_at hl 0 rfl) ?_
                  refine va_get (D := D) (ci := 11) (v := .ref (ad 9)) (C := RX12) (T := TX12) (N := 31) hx hb hts hinX12_isItem_X12 hown E.1 hP 0 (zO.get (oX12_at)) rfl 10 (by decide) (hts (.fieldLink RX12 35 "EdgeAndSpeedModel" "steels" "[I") (by decide +kernel)) (fun _ h9 => h9) rfl dX12_isItem_287 ?_
                  refine lv_iconst (v := 1) hx hb dX12_isItem_290 (by decide) ?_
                  obtain ⟨g77, hf⟩ := zg_i hf
                  refine va_iald hx hb E.1 hP 9 1 (zIA.get (aX12_10)) rfl g77 dX12_isItem_291 ?_
                  refine lv_iconst (v := 4) hx hb dX12_isItem_292 (by decide) ?_
                  refine lv_icmp_ne (tgt := 298) hx hb dX12_isItem_293 (by decide) (fun k78 => ?_) (fun k78 => ?_)
                  · replace hf := zf k78 hf
                    exact hjr76 (Option.some.inj hf) _ _ _ hP hS (lv_sub hl [0, 1, 2] rfl)
                  · replace hf := zt k78 hf
                    refine lv_iconst (v := 0) hx hb dX12_isItem_296 (by decide) ?_
                    replace hf := her76 _ (Option.some.inj hf)
                    exact hret _ _ hf (Or.inl rfl) _ _ _ _ hP hS dX12_isItem_297
              refine lv_icmp_ne (tgt := 280) hx hb dX12_isItem_266 (by decide) (fun k69 => ?_) (fun k69 => ?_)
              · replace hf := zf k69 hf
                exact hjr71 (Option.some.inj hf) _ _ _ hP hS (lv_sub hl [0, 1, 2] rfl)
              · replace hf := zt k69 hf
                refine lv_aload_n hx hb dX12_isItem_269 rfl (lv_at hl 0 rfl) ?_
                refine va_get (D := D) (ci := 11) (v := .ref (ad 5)) (C := RX12) (T := TX12) (N := 31) hx hb hts hinX12_isItem_X12 hown E.1 hP 0 (zO.get (oX12_at)) rfl 6 (by decide) (hts (.fieldLink RX12 23 "EdgeAndSpeedModel" "pieces" "[I") (by decide +kernel)) (fun _ h9 => h9) rfl dX12_isItem_270 ?_
                refine lv_iconst (v := 1) hx hb dX12_isItem_273 (by decide) ?_
                obtain ⟨g72, hf⟩ := zg_i hf
                refine va_iald hx hb E.1 hP 5 1 (zIA.get (aX12_6)) rfl g72 dX12_isItem_274 ?_
                refine lv_bipush (v := 8) hx hb dX12_isItem_275 (by decide) ?_
                refine lv_icmp_eq (tgt := 296) hx hb dX12_isItem_277 (by decide) (fun k73 => ?_) (fun k73 => ?_)
                · replace hf := zt k73 hf
                  refine lv_iconst (v := 0) hx hb dX12_isItem_296 (by decide) ?_
                  replace hf := her71 _ (Option.some.inj hf)
                  exact hret _ _ hf (Or.inl rfl) _ _ _ _ hP hS dX12_isItem_297
                · replace hf := zf k73 hf
                  exact hjr71 (Option.some.inj hf) _ _ _ hP hS (lv_sub hl [0, 1, 2] rfl)
            refine lv_icmp_ne (tgt := 263) hx hb dX12_isItem_249 (by decide) (fun k64 => ?_) (fun k64 => ?_)
            · replace hf := zf k64 hf
              exact hjr66 (Option.some.inj hf) _ _ _ hP hS (lv_sub hl [1, 2, 3] rfl)
            · replace hf := zt k64 hf
              refine lv_aload_n hx hb dX12_isItem_252 rfl (lv_at hl 1 rfl) ?_
              refine va_get (D := D) (ci := 11) (v := .ref (ad 3)) (C := RX12) (T := TX12) (N := 31) hx hb hts hinX12_isItem_X12 hown E.1 hP 0 (zO.get (oX12_at)) rfl 4 (by decide) (hts (.fieldLink RX12 17 "EdgeAndSpeedModel" "speeds" "[I") (by decide +kernel)) (fun _ h9 => h9) rfl dX12_isItem_253 ?_
              refine lv_iconst (v := 1) hx hb dX12_isItem_256 (by decide) ?_
              obtain ⟨g67, hf⟩ := zg_i hf
              refine va_iald hx hb E.1 hP 3 1 (zIA.get (aX12_4)) rfl g67 dX12_isItem_257 ?_
              refine lv_bipush (v := 6) hx hb dX12_isItem_258 (by decide) ?_
              refine lv_icmp_eq (tgt := 296) hx hb dX12_isItem_260 (by decide) (fun k68 => ?_) (fun k68 => ?_)
              · replace hf := zt k68 hf
                refine lv_iconst (v := 0) hx hb dX12_isItem_296 (by decide) ?_
                replace hf := her66 _ (Option.some.inj hf)
                exact hret _ _ hf (Or.inl rfl) _ _ _ _ hP hS dX12_isItem_297
              · replace hf := zf k68 hf
                exact hjr66 (Option.some.inj hf) _ _ _ hP hS (lv_sub hl [1, 2, 3] rfl)
        refine lv_if_eq (tgt := 240) hx hb dX12_isItem_208 (by decide) (fun k56 => ?_) (fun k56 => ?_)
        · replace hf := zt k56 hf
          refine lv_iconst (v := 0) hx hb dX12_isItem_240 (by decide) ?_
          exact hjr58 _ (Option.some.inj hf) _ _ _ hP hS (lv_sub hl [0, 1, 2] rfl)
        · replace hf := zf k56 hf
          refine lv_aload_n hx hb dX12_isItem_211 rfl (lv_at hl 0 rfl) ?_
          refine va_get (D := D) (ci := 11) (v := .int (I55 0 2)) (C := RX12) (T := TX12) (N := 31) hx hb hts hinX12_isItem_X12 hown E.1 hP 0 (zO.get (oX12_at)) rfl 2 (by decide) (hts (.fieldLink RX12 108 "EdgeAndSpeedModel" "at" "I") (by decide +kernel)) (fun _ h9 => h9) rfl dX12_isItem_212 ?_
          refine lv_aload_n hx hb dX12_isItem_215 rfl (lv_at hl 0 rfl) ?_
          refine va_get (D := D) (ci := 11) (v := .int (I55 0 0)) (C := RX12) (T := TX12) (N := 31) hx hb hts hinX12_isItem_X12 hown E.1 hP 0 (zO.get (oX12_at)) rfl 0 (by decide) (hts (.fieldLink RX12 105 "EdgeAndSpeedModel" "length" "I") (by decide +kernel)) (fun _ h9 => h9) rfl dX12_isItem_216 ?_
          refine lv_icmp_ge (tgt := 240) hx hb dX12_isItem_219 (by decide) (fun k59 => ?_) (fun k59 => ?_)
          · replace hf := zt k59 hf
            refine lv_iconst (v := 0) hx hb dX12_isItem_240 (by decide) ?_
            exact hjr58 _ (Option.some.inj hf) _ _ _ hP hS (lv_sub hl [0, 1, 2] rfl)
          · replace hf := zf k59 hf
            refine lv_aload_n hx hb dX12_isItem_222 rfl (lv_at hl 0 rfl) ?_
            refine va_get (D := D) (ci := 11) (v := .ref (ad 1)) (C := RX12) (T := TX12) (N := 31) hx hb hts hinX12_isItem_X12 hown E.1 hP 0 (zO.get (oX12_at)) rfl 1 (by decide) (hts (.fieldLink RX12 7 "EdgeAndSpeedModel" "text" "[B") (by decide +kernel)) (fun _ h9 => h9) rfl dX12_isItem_223 ?_
            refine lv_aload_n hx hb dX12_isItem_226 rfl (lv_at hl 0 rfl) ?_
            refine va_get (D := D) (ci := 11) (v := .int (I55 0 2)) (C := RX12) (T := TX12) (N := 31) hx hb hts hinX12_isItem_X12 hown E.1 hP 0 (zO.get (oX12_at)) rfl 2 (by decide) (hts (.fieldLink RX12 108 "EdgeAndSpeedModel" "at" "I") (by decide +kernel)) (fun _ h9 => h9) rfl dX12_isItem_227 ?_
            obtain ⟨g60, hf⟩ := zg_i hf
            refine va_bald hx hb E.1 hP 1 0 (zIA.get (aX12_1)) rfl g60 dX12_isItem_230 ?_
            refine lv_bipush (v := 59) hx hb dX12_isItem_231 (by decide) ?_
            refine lv_icmp_ne (tgt := 240) hx hb dX12_isItem_233 (by decide) (fun k61 => ?_) (fun k61 => ?_)
            · replace hf := zf k61 hf
              refine lv_iconst (v := 0) hx hb dX12_isItem_240 (by decide) ?_
              exact hjr58 _ (Option.some.inj hf) _ _ _ hP hS (lv_sub hl [0, 1, 2] rfl)
            · replace hf := zt k61 hf
              refine lv_iconst (v := 1) hx hb dX12_isItem_236 (by decide) ?_
              refine lv_goto (tgt := 241) hx hb dX12_isItem_237 (by decide) ?_
              exact hjr58 _ (Option.some.inj hf) _ _ _ hP hS (lv_sub hl [0, 1, 2] rfl)
      refine zl_i (V := (Int32 × Int32 × zI)) (P := fun v => ∀ (H : Heap) (locs : List Loc) (ls : Array Slot), va_P D vwCl (zw 25 (kM cy ad) ad v.2.2 J) H → va_S A s.heap H locs → lv_has ls 5 [(0, .ref (ad 0)), (1, .int y2), (2, .int x13), (3, .int (v.1)), (4, .int (v.2.1))] → W p l e R s m args below meth c H locs 0 0 Q (F0 m 89 ls [])) ?_ _ _ hf _ _ _ hP hS (lv_sub hl [2, 3, 4, 1, 0] rfl)
      intro v z hf hcl18 hdl18
      obtain ⟨x19, x20, I21⟩ := v
      intro H locs ls hP hS hl
      replace hf : f_X12_isItem_L89 x13 J y2 x19 x20 I21 = some z := hf
      unfold f_X12_isItem_L89 at hf
      replace hP : va_P D vwCl (zw 25 (kM cy ad) ad I21 J) H := hP
      replace hl : lv_has ls 5 [(0, .ref (ad 0)), (1, .int y2), (2, .int x13), (3, .int x19), (4, .int x20)] := hl
      refine lv_iload hx hb dX12_isItem_89 (lv_at hl 4 rfl) ?_
      refine lv_iload_n hx hb dX12_isItem_91 rfl (lv_at hl 2 rfl) ?_
      refine lv_icmp_ge (tgt := 207) hx hb dX12_isItem_92 (by decide) (fun k22 => ?_) (fun k22 => ?_)
      · replace hf := zt k22 hf
        exact hjl18 _ _ (hdl18 _ (Option.some.inj hf).symm) _ _ _ hP hS (lv_sub hl [0, 1, 2, 3] rfl)
      · replace hf := zf k22 hf
        refine lv_iload_n hx hb dX12_isItem_95 rfl (lv_at hl 3 rfl) ?_
        refine lv_if_eq (tgt := 207) hx hb dX12_isItem_96 (by decide) (fun k23 => ?_) (fun k23 => ?_)
        · replace hf := zt k23 hf
          exact hjl18 _ _ (hdl18 _ (Option.some.inj hf).symm) _ _ _ hP hS (lv_sub hl [0, 1, 2, 3] rfl)
        · replace hf := zf k23 hf
          refine lv_iload hx hb dX12_isItem_99 (lv_at hl 4 rfl) ?_
          obtain ⟨zr26, hf, hzr26⟩ := zb1_i hf
          have hjr26 : ∀ (x30 : Int32), x30 = zr26 → ∀ (H : Heap) (locs : List Loc) (ls : Array Slot), va_P D vwCl (zw 25 (kM cy ad) ad I21 J) H → va_S A s.heap H locs → lv_has ls 5 [(0, .ref (ad 0)), (1, .int y2), (2, .int x13), (4, .int x20)] → W p l e R s m args below meth c H locs 0 0 Q (F0 m 134 ls [.int x30]) := by
            intro x30 ez H locs ls hP hS hl
            have hf := hzr26 x30 ez
            refine lv_istore_n (lv' := [(3, .int x30), (0, .ref (ad 0)), (1, .int y2), (2, .int x13), (4, .int x20)]) hx hb dX12_isItem_134 rfl hl (by decide) rfl (fun ls hl => ?_)
            refine lv_aload_n hx hb dX12_isItem_135 rfl (lv_at hl 1 rfl) ?_
            refine lv_dup hx hb dX12_isItem_136 rfl ?_
            refine va_get (D := D) (ci := 11) (v := .int (I21 0 2)) (C := RX12) (T := TX12) (N := 31) hx hb hts hinX12_isItem_X12 hown E.1 hP 0 (zO.get (oX12_at)) rfl 2 (by decide) (hts (.fieldLink RX12 108 "EdgeAndSpeedModel" "at" "I") (by decide +kernel)) (fun _ h9 => h9) rfl dX12_isItem_137 ?_
            refine lv_iload hx hb dX12_isItem_140 (lv_at hl 4 rfl) ?_
            obtain ⟨zr33, hf, hzr33⟩ := zb1_i hf
            have hjr33 : ∀ (x34 : Int32), x34 = zr33 → ∀ (H : Heap) (locs : List Loc) (ls : Array Slot), va_P D vwCl (zw 25 (kM cy ad) ad I21 J) H → va_S A s.heap H locs → lv_has ls 5 [(0, .ref (ad 0)), (1, .int y2), (2, .int x13), (3, .int x30), (4, .int x20)] → W p l e R s m args below meth c H locs 0 0 Q (F0 m 150 ls [.int x34, .int (I21 0 2), .ref (ad 0)]) := by
              intro x34 ez H locs ls hP hS hl
              have hf := hzr33 x34 ez
              refine lv_iadd hx hb dX12_isItem_150 ?_
              obtain ⟨I35, eI35⟩ := zex (va_up I21 0 (va_up (I21 0) 2 ((I21 0 2) + x34)))
              replace hf := zn_s eI35 hf
              refine zput (D := D) (ci := 11) (v := .int ((I21 0 2) + x34)) (ty := .int) (C := RX12) (T := TX12) (N := 31) hx hb hts hinX12_isItem_X12 tyX12 tyX12_ok nmX12 hown E.1 hP hD.D hS 0 (zO.get (oX12_at)) rfl 2 (by decide) (hts (.fieldLink RX12 108 "EdgeAndSpeedModel" "at" "I") (by decide +kernel)) (fun _ h9 => h9) rfl (tyX12_ok 2 (by decide)) rfl rfl (Nat.le_of_ble_eq_true rfl) dX12_isItem_151 (zO.setI (oX12_at) rfl eI35) (fun H locs hP hS => ?_)
              refine lv_aload_n hx hb dX12_isItem_154 rfl (lv_at hl 0 rfl) ?_
              refine va_get (D := D) (ci := 11) (v := .ref (ad 2)) (C := RX12) (T := TX12) (N := 31) hx hb hts hinX12_isItem_X12 hown E.1 hP 0 (zO.get (oX12_at)) rfl 3 (by decide) (hts (.fieldLink RX12 13 "EdgeAndSpeedModel" "got" "[I") (by decide +kernel)) (fun _ h9 => h9) rfl dX12_isItem_155 ?_
              refine lv_iload hx hb dX12_isItem_158 (lv_at hl 4 rfl) ?_
              refine lv_iload_n hx hb dX12_isItem_160 rfl (lv_at hl 3 rfl) ?_
              obtain ⟨zr38, hf, hzr38⟩ := zb2_i hf
              have hjr38 : ∀ (x46 : Int32) (I47 : zI), (x46, I47) = zr38 → ∀ (H : Heap) (locs : List Loc) (ls : Array Slot), va_P D vwCl (zw 25 (kM cy ad) ad I47 J) H → va_S A s.heap H locs → lv_has ls 5 [(0, .ref (ad 0)), (1, .int y2), (2, .int x13), (4, .int x20)] → W p l e R s m args below meth c H locs 0 0 Q (F0 m 184 ls [.int x46, .int x20, .ref (ad 2)]) := by
                intro x46 I47 ez H locs ls hP hS hl
                have hf := hzr38 x46 I47 ez
                obtain ⟨g49, hf⟩ := zg_i hf
                obtain ⟨I48, eI48⟩ := zex (va_up I47 2 (upd (I47 2) x20.toNatClampNeg x46))
                replace hf := zn_s eI48 hf
                refine zast_i hx hb E.1 hP hD.D hS (aX12_3) g49 dX12_isItem_184 eI48 (fun H locs hP hS => ?_)
                refine lv_aload_n hx hb dX12_isItem_185 rfl (lv_at hl 0 rfl) ?_
                refine va_get (D := D) (ci := 11) (v := .ref (ad 2)) (C := RX12) (T := TX12) (N := 31) hx hb hts hinX12_isItem_X12 hown E.1 hP 0 (zO.get (oX12_at)) rfl 3 (by decide) (hts (.fieldLink RX12 13 "EdgeAndSpeedModel" "got" "[I") (by decide +kernel)) (fun _ h9 => h9) rfl dX12_isItem_186 ?_
                refine lv_iload hx hb dX12_isItem_189 (lv_at hl 3 rfl) ?_
                obtain ⟨g50, hf⟩ := zg_i hf
                refine va_iald hx hb E.1 hP 2 1 (zIA.get (aX12_3)) rfl g50 dX12_isItem_191 ?_
                refine lv_if_lt (tgt := 199) hx hb dX12_isItem_192 (by decide) (fun k51 => ?_) (fun k51 => ?_)
                · replace hf := zt k51 hf
                  refine lv_iconst (v := 0) hx hb dX12_isItem_199 (by decide) ?_
                  refine lv_istore_n (lv' := [(3, .int 0), (0, .ref (ad 0)), (1, .int y2), (2, .int x13), (4, .int x20)]) hx hb dX12_isItem_200 rfl hl (by decide) rfl (fun ls hl => ?_)
                  obtain ⟨y52, ey52⟩ := zex (x20 + 1)
                  replace hf := zn_s ey52 hf
                  refine lv_iinc (v := y52) (lv' := [(4, .int y52), (3, .int 0), (0, .ref (ad 0)), (1, .int y2), (2, .int x13)]) hx hb dX12_isItem_201 hl (k := 4) rfl (by rw [ey52]; rfl) (by decide) rfl (fun ls hl => ?_)
                  refine lv_goto (tgt := 89) hx hb dX12_isItem_204 (by decide) ?_
                  exact hcl18 _ (Option.some.inj hf).symm _ _ _ hP hS (lv_sub hl [2, 3, 4, 1, 0] rfl)
                · replace hf := zf k51 hf
                  refine lv_iconst (v := 1) hx hb dX12_isItem_195 (by decide) ?_
                  refine lv_goto (tgt := 200) hx hb dX12_isItem_196 (by decide) ?_
                  refine lv_istore_n (lv' := [(3, .int 1), (0, .ref (ad 0)), (1, .int y2), (2, .int x13), (4, .int x20)]) hx hb dX12_isItem_200 rfl hl (by decide) rfl (fun ls hl => ?_)
                  obtain ⟨y53, ey53⟩ := zex (x20 + 1)
                  replace hf := zn_s ey53 hf
                  refine lv_iinc (v := y53) (lv' := [(4, .int y53), (3, .int 1), (0, .ref (ad 0)), (1, .int y2), (2, .int x13)]) hx hb dX12_isItem_201 hl (k := 4) rfl (by rw [ey53]; rfl) (by decide) rfl (fun ls hl => ?_)
                  refine lv_goto (tgt := 89) hx hb dX12_isItem_204 (by decide) ?_
                  exact hcl18 _ (Option.some.inj hf).symm _ _ _ hP hS (lv_sub hl [2, 3, 4, 1, 0] rfl)
              refine lv_if_eq (tgt := 183) hx hb dX12_isItem_161 (by decide) (fun k36 => ?_) (fun k36 => ?_)
              · replace hf := zt k36 hf
                refine lv_iconst (v := (-1)) hx hb dX12_isItem_183 (by decide) ?_
                exact hjr38 _ _ (Option.some.inj hf) _ _ _ hP hS (lv_sub hl [0, 1, 2, 4] rfl)
              · replace hf := zf k36 hf
                refine lv_aload_n hx hb dX12_isItem_164 rfl (lv_at hl 0 rfl) ?_
                refine lv_iload_n hx hb dX12_isItem_165 rfl (lv_at hl 1 rfl) ?_
                refine lv_iload hx hb dX12_isItem_166 (lv_at hl 4 rfl) ?_
                obtain ⟨x39, h40, hf⟩ := zb1_e hf
                refine zgo_i (zrunS (As := [.int y2, .int x20]) (rest := [.ref (ad 0), .int x20, .ref (ad 2)]) S (c_X12_lowOf l hD y2 x20 h40) (va_cwS 2 hts gX12_isItem_X12_lowOf rfl rfl rfl ddX12_lowOf ⟨Nat.le_trans (Nat.le_of_ble_eq_true rfl) hfr, Nat.le_trans (Nat.le_of_ble_eq_true rfl) hlo⟩) E hP hS hl.1 rfl rfl (Nat.le_of_ble_eq_true rfl) dX12_isItem_168) hS (fun H locs hP hS => ?_)
                refine lv_iload_n hx hb dX12_isItem_171 rfl (lv_at hl 1 rfl) ?_
                refine lv_iload hx hb dX12_isItem_172 (lv_at hl 4 rfl) ?_
                obtain ⟨x41, h42, hf⟩ := zb1_e hf
                refine zgo_i (zrunS (As := [.int y2, .int x20]) (rest := [.int x39, .ref (ad 0), .int x20, .ref (ad 2)]) S (c_X12_highOf l hD y2 x20 h42) (va_cwS 2 hts gX12_isItem_X12_highOf rfl rfl rfl ddX12_highOf ⟨Nat.le_trans (Nat.le_of_ble_eq_true rfl) hfr, Nat.le_trans (Nat.le_of_ble_eq_true rfl) hlo⟩) E hP hS hl.1 rfl rfl (Nat.le_of_ble_eq_true rfl) dX12_isItem_174) hS (fun H locs hP hS => ?_)
                obtain ⟨x43, I44, h45, hf⟩ := zb2_e hf
                refine zgo_i (zrunV (As := [.int x39, .int x41]) (rest := [.int x20, .ref (ad 2)]) S (c_X12_number l hD x39 x41 h45) (cwV 2 hts gX12_isItem_X12_number rfl rfl rfl ddX12_number ⟨Nat.le_trans (Nat.le_of_ble_eq_true rfl) hfr, Nat.le_trans (Nat.le_of_ble_eq_true rfl) hlo⟩) (va_recv E.1 hP (q := (RX12, TX12, 31)) (ci := 11) rfl (zO.get (oX12_at))) E hP hS hl.1 rfl rfl (Nat.le_of_ble_eq_true rfl) dX12_isItem_177) hS (fun H locs hP hS => ?_)
                refine lv_goto (tgt := 184) hx hb dX12_isItem_180 (by decide) ?_
                exact hjr38 _ _ (Option.some.inj hf) _ _ _ hP hS (lv_sub hl [0, 1, 2, 4] rfl)
            refine lv_if_ne (tgt := 149) hx hb dX12_isItem_142 (by decide) (fun k31 => ?_) (fun k31 => ?_)
            · replace hf := zf k31 hf
              refine lv_iconst (v := 1) hx hb dX12_isItem_149 (by decide) ?_
              exact hjr33 _ (Option.some.inj hf) _ _ _ hP hS (lv_sub hl [1, 2, 3, 0, 4] rfl)
            · replace hf := zt k31 hf
              refine lv_iconst (v := 0) hx hb dX12_isItem_145 (by decide) ?_
              refine lv_goto (tgt := 150) hx hb dX12_isItem_146 (by decide) ?_
              exact hjr33 _ (Option.some.inj hf) _ _ _ hP hS (lv_sub hl [1, 2, 3, 0, 4] rfl)
          refine lv_if_eq (tgt := 129) hx hb dX12_isItem_101 (by decide) (fun k24 => ?_) (fun k24 => ?_)
          · replace hf := zt k24 hf
            refine lv_iconst (v := 1) hx hb dX12_isItem_129 (by decide) ?_
            refine lv_goto (tgt := 134) hx hb dX12_isItem_130 (by decide) ?_
            exact hjr26 _ (Option.some.inj hf) _ _ _ hP hS (lv_sub hl [0, 1, 2, 4] rfl)
          · replace hf := zf k24 hf
            refine lv_aload_n hx hb dX12_isItem_104 rfl (lv_at hl 0 rfl) ?_
            refine va_get (D := D) (ci := 11) (v := .int (I21 0 2)) (C := RX12) (T := TX12) (N := 31) hx hb hts hinX12_isItem_X12 hown E.1 hP 0 (zO.get (oX12_at)) rfl 2 (by decide) (hts (.fieldLink RX12 108 "EdgeAndSpeedModel" "at" "I") (by decide +kernel)) (fun _ h9 => h9) rfl dX12_isItem_105 ?_
            refine lv_aload_n hx hb dX12_isItem_108 rfl (lv_at hl 0 rfl) ?_
            refine va_get (D := D) (ci := 11) (v := .int (I21 0 0)) (C := RX12) (T := TX12) (N := 31) hx hb hts hinX12_isItem_X12 hown E.1 hP 0 (zO.get (oX12_at)) rfl 0 (by decide) (hts (.fieldLink RX12 105 "EdgeAndSpeedModel" "length" "I") (by decide +kernel)) (fun _ h9 => h9) rfl dX12_isItem_109 ?_
            refine lv_icmp_ge (tgt := 133) hx hb dX12_isItem_112 (by decide) (fun k27 => ?_) (fun k27 => ?_)
            · replace hf := zt k27 hf
              refine lv_iconst (v := 0) hx hb dX12_isItem_133 (by decide) ?_
              exact hjr26 _ (Option.some.inj hf) _ _ _ hP hS (lv_sub hl [0, 1, 2, 4] rfl)
            · replace hf := zf k27 hf
              refine lv_aload_n hx hb dX12_isItem_115 rfl (lv_at hl 0 rfl) ?_
              refine va_get (D := D) (ci := 11) (v := .ref (ad 1)) (C := RX12) (T := TX12) (N := 31) hx hb hts hinX12_isItem_X12 hown E.1 hP 0 (zO.get (oX12_at)) rfl 1 (by decide) (hts (.fieldLink RX12 7 "EdgeAndSpeedModel" "text" "[B") (by decide +kernel)) (fun _ h9 => h9) rfl dX12_isItem_116 ?_
              refine lv_aload_n hx hb dX12_isItem_119 rfl (lv_at hl 0 rfl) ?_
              refine va_get (D := D) (ci := 11) (v := .int (I21 0 2)) (C := RX12) (T := TX12) (N := 31) hx hb hts hinX12_isItem_X12 hown E.1 hP 0 (zO.get (oX12_at)) rfl 2 (by decide) (hts (.fieldLink RX12 108 "EdgeAndSpeedModel" "at" "I") (by decide +kernel)) (fun _ h9 => h9) rfl dX12_isItem_120 ?_
              obtain ⟨g28, hf⟩ := zg_i hf
              refine va_bald hx hb E.1 hP 1 0 (zIA.get (aX12_1)) rfl g28 dX12_isItem_123 ?_
              refine lv_bipush (v := 44) hx hb dX12_isItem_124 (by decide) ?_
              refine lv_icmp_ne (tgt := 133) hx hb dX12_isItem_126 (by decide) (fun k29 => ?_) (fun k29 => ?_)
              · replace hf := zf k29 hf
                refine lv_iconst (v := 0) hx hb dX12_isItem_133 (by decide) ?_
                exact hjr26 _ (Option.some.inj hf) _ _ _ hP hS (lv_sub hl [0, 1, 2, 4] rfl)
              · replace hf := zt k29 hf
                refine lv_iconst (v := 1) hx hb dX12_isItem_129 (by decide) ?_
                refine lv_goto (tgt := 134) hx hb dX12_isItem_130 (by decide) ?_
                exact hjr26 _ (Option.some.inj hf) _ _ _ hP hS (lv_sub hl [0, 1, 2, 4] rfl)
    refine lv_if_le (tgt := 84) hx hb dX12_isItem_77 (by decide) (fun k14 => ?_) (fun k14 => ?_)
    · replace hf := zt k14 hf
      refine lv_iconst (v := 0) hx hb dX12_isItem_84 (by decide) ?_
      exact hjr16 _ (Option.some.inj hf) _ _ _ hP hS (lv_sub hl [1, 2, 0] rfl)
    · replace hf := zf k14 hf
      refine lv_iconst (v := 1) hx hb dX12_isItem_80 (by decide) ?_
      refine lv_goto (tgt := 85) hx hb dX12_isItem_81 (by decide) ?_
      exact hjr16 _ (Option.some.inj hf) _ _ _ hP hS (lv_sub hl [1, 2, 0] rfl)
  refine lv_icmp_eq (tgt := 50) hx hb dX12_isItem_23 (by decide) (fun k4 => ?_) (fun k4 => ?_)
  · replace hf := zt k4 hf
    refine lv_iconst (v := 2) hx hb dX12_isItem_50 (by decide) ?_
    refine lv_goto (tgt := 75) hx hb dX12_isItem_51 (by decide) ?_
    exact hjr6 _ (Option.some.inj hf) _ _ _ hP hS (lv_sub hl [1, 0] rfl)
  · replace hf := zf k4 hf
    refine lv_iload_n hx hb dX12_isItem_26 rfl (lv_at hl 0 rfl) ?_
    refine lv_bipush (v := 98) hx hb dX12_isItem_27 (by decide) ?_
    refine lv_icmp_eq (tgt := 50) hx hb dX12_isItem_29 (by decide) (fun k7 => ?_) (fun k7 => ?_)
    · replace hf := zt k7 hf
      refine lv_iconst (v := 2) hx hb dX12_isItem_50 (by decide) ?_
      refine lv_goto (tgt := 75) hx hb dX12_isItem_51 (by decide) ?_
      exact hjr6 _ (Option.some.inj hf) _ _ _ hP hS (lv_sub hl [1, 0] rfl)
    · replace hf := zf k7 hf
      refine lv_iload_n hx hb dX12_isItem_32 rfl (lv_at hl 0 rfl) ?_
      refine lv_bipush (v := 99) hx hb dX12_isItem_33 (by decide) ?_
      refine lv_icmp_eq (tgt := 50) hx hb dX12_isItem_35 (by decide) (fun k8 => ?_) (fun k8 => ?_)
      · replace hf := zt k8 hf
        refine lv_iconst (v := 2) hx hb dX12_isItem_50 (by decide) ?_
        refine lv_goto (tgt := 75) hx hb dX12_isItem_51 (by decide) ?_
        exact hjr6 _ (Option.some.inj hf) _ _ _ hP hS (lv_sub hl [1, 0] rfl)
      · replace hf := zf k8 hf
        refine lv_iload_n hx hb dX12_isItem_38 rfl (lv_at hl 0 rfl) ?_
        refine lv_bipush (v := 107) hx hb dX12_isItem_39 (by decide) ?_
        refine lv_icmp_eq (tgt := 50) hx hb dX12_isItem_41 (by decide) (fun k9 => ?_) (fun k9 => ?_)
        · replace hf := zt k9 hf
          refine lv_iconst (v := 2) hx hb dX12_isItem_50 (by decide) ?_
          refine lv_goto (tgt := 75) hx hb dX12_isItem_51 (by decide) ?_
          exact hjr6 _ (Option.some.inj hf) _ _ _ hP hS (lv_sub hl [1, 0] rfl)
        · replace hf := zf k9 hf
          refine lv_iload_n hx hb dX12_isItem_44 rfl (lv_at hl 0 rfl) ?_
          refine lv_bipush (v := 116) hx hb dX12_isItem_45 (by decide) ?_
          refine lv_icmp_ne (tgt := 54) hx hb dX12_isItem_47 (by decide) (fun k10 => ?_) (fun k10 => ?_)
          · replace hf := zf k10 hf
            refine lv_iload_n hx hb dX12_isItem_54 rfl (lv_at hl 0 rfl) ?_
            refine lv_bipush (v := 112) hx hb dX12_isItem_55 (by decide) ?_
            refine lv_icmp_ne (tgt := 64) hx hb dX12_isItem_57 (by decide) (fun k11 => ?_) (fun k11 => ?_)
            · replace hf := zf k11 hf
              refine lv_iload_n hx hb dX12_isItem_64 rfl (lv_at hl 0 rfl) ?_
              refine lv_bipush (v := 104) hx hb dX12_isItem_65 (by decide) ?_
              refine lv_icmp_ne (tgt := 74) hx hb dX12_isItem_67 (by decide) (fun k12 => ?_) (fun k12 => ?_)
              · replace hf := zf k12 hf
                refine lv_iconst (v := 0) hx hb dX12_isItem_74 (by decide) ?_
                exact hjr6 _ (Option.some.inj hf) _ _ _ hP hS (lv_sub hl [1, 0] rfl)
              · replace hf := zt k12 hf
                refine lv_iconst (v := 1) hx hb dX12_isItem_70 (by decide) ?_
                refine lv_goto (tgt := 75) hx hb dX12_isItem_71 (by decide) ?_
                exact hjr6 _ (Option.some.inj hf) _ _ _ hP hS (lv_sub hl [1, 0] rfl)
            · replace hf := zt k11 hf
              refine lv_iconst (v := 4) hx hb dX12_isItem_60 (by decide) ?_
              refine lv_goto (tgt := 75) hx hb dX12_isItem_61 (by decide) ?_
              exact hjr6 _ (Option.some.inj hf) _ _ _ hP hS (lv_sub hl [1, 0] rfl)
          · replace hf := zt k10 hf
            refine lv_iconst (v := 2) hx hb dX12_isItem_50 (by decide) ?_
            refine lv_goto (tgt := 75) hx hb dX12_isItem_51 (by decide) ?_
            exact hjr6 _ (Option.some.inj hf) _ _ _ hP hS (lv_sub hl [1, 0] rfl)
theorem c_X12_isItem (l : Launch) {D : va_G} {a0 : Nat → Nat} {A : Nat → Prop} {cy : Nat → ClassId} {ad : Nat → Nat} (hD : zD A 25 ad) {I : zI} {J : zJ}  {rx : Int32} {rI : zI} (hf : f_X12_isItem I J = some (rx, rI)) : Met l yX12_isItem wsX12_isItem { frames := 2, cells := 0, slots := 0, locals := 49 } (zPc D a0 A cy [.ref (ad 0)] (zw 25 (kM cy ad) ad I J)) (zQi D A rx (zw 25 (kM cy ad) ad rI J)) 0 0 A :=
  zmet RX12 (by decide) rfl rfl (Nat.le_of_ble_eq_true rfl) (fun p e R s m below meth c Q hfr hlo ls S0 hQ => w_X12_isItem hfr hlo hD  hf S0 (fun tx tI hq n01 H locs ls pc hP hS hd => by cases hq; exact hQ H locs _ hS (fun hx hb hr hlocks hfree => W.zret hx hb hr (z01 n01) (fun t ht hW => ⟨⟨_, (), rfl, rfl, zht ht hP⟩, hS.F ht⟩) hfree hd hlocks)))
theorem ddX12_isItem : yX12_isItem.cls = RX12 ∧ yX12_isItem.cls ≠ "java/lang/invoke/MethodHandle" ∧ yX12_isItem.cls ≠ "java/lang/invoke/VarHandle" ∧ (parseMethodDescriptor yX12_isItem.desc).map (fun d => d.parameters.length) = some 0 := by decide +kernel
